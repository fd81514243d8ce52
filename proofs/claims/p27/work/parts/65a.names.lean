theorem dL_ask_137 : decode cL_ask 137 = .ok (.goto 4, 3) := by decide +kernel
theorem dL_ask_140 : decode cL_ask 140 = .ok (.iconst 0, 1) := by decide +kernel
theorem dL_ask_141 : decode cL_ask 141 = .ok (.istore 17, 2) := by decide +kernel
theorem dL_ask_143 : decode cL_ask 143 = .ok (.iload 17, 2) := by decide +kernel
theorem dL_ask_145 : decode cL_ask 145 = .ok (.ifCond .eq 80, 3) := by decide +kernel
theorem dL_ask_148 : decode cL_ask 148 = .ok (.aload_n 1, 1) := by decide +kernel
theorem dL_ask_149 : decode cL_ask 149 = .ok (.iconst 4, 1) := by decide +kernel
theorem dL_ask_150 : decode cL_ask 150 = .ok (.iload 13, 2) := by decide +kernel
theorem dL_ask_152 : decode cL_ask 152 = .ok (.imul, 1) := by decide +kernel
theorem dL_ask_153 : decode cL_ask 153 = .ok (.iload 15, 2) := by decide +kernel
theorem dL_ask_155 : decode cL_ask 155 = .ok (.iadd, 1) := by decide +kernel
theorem dL_ask_156 : decode cL_ask 156 = .ok (.iaload, 1) := by decide +kernel
theorem dL_ask_157 : decode cL_ask 157 = .ok (.iload 16, 2) := by decide +kernel
theorem dL_ask_159 : decode cL_ask 159 = .ok (.ishr, 1) := by decide +kernel
theorem dL_ask_160 : decode cL_ask 160 = .ok (.iconst 1, 1) := by decide +kernel
theorem dL_ask_161 : decode cL_ask 161 = .ok (.iand, 1) := by decide +kernel
theorem dL_ask_162 : decode cL_ask 162 = .ok (.iconst 1, 1) := by decide +kernel
theorem dL_ask_163 : decode cL_ask 163 = .ok (.if_icmp .ne 62, 3) := by decide +kernel
theorem dL_ask_166 : decode cL_ask 166 = .ok (.aload_n 0, 1) := by decide +kernel
theorem dL_ask_167 : decode cL_ask 167 = .ok (.aload_n 1, 1) := by decide +kernel
theorem dL_ask_168 : decode cL_ask 168 = .ok (.aload_n 2, 1) := by decide +kernel
theorem dL_ask_169 : decode cL_ask 169 = .ok (.aload_n 3, 1) := by decide +kernel
theorem dL_ask_170 : decode cL_ask 170 = .ok (.aload 4, 2) := by decide +kernel
theorem dL_ask_172 : decode cL_ask 172 = .ok (.aload 5, 2) := by decide +kernel
theorem dL_ask_174 : decode cL_ask 174 = .ok (.aload 6, 2) := by decide +kernel
theorem dL_ask_176 : decode cL_ask 176 = .ok (.iload 12, 2) := by decide +kernel
theorem dL_ask_178 : decode cL_ask 178 = .ok (.bipush 16, 2) := by decide +kernel
theorem dL_ask_180 : decode cL_ask 180 = .ok (.iload 15, 2) := by decide +kernel
theorem dL_ask_182 : decode cL_ask 182 = .ok (.imul, 1) := by decide +kernel
theorem dL_ask_183 : decode cL_ask 183 = .ok (.iload 16, 2) := by decide +kernel
theorem dL_ask_185 : decode cL_ask 185 = .ok (.iadd, 1) := by decide +kernel
theorem dL_ask_186 : decode cL_ask 186 = .ok (.iload 13, 2) := by decide +kernel
theorem dL_ask_188 : decode cL_ask 188 = .ok (.invokestatic 57, 3) := by decide +kernel
theorem dL_ask_191 : decode cL_ask 191 = .ok (.istore 18, 2) := by decide +kernel
theorem dL_ask_193 : decode cL_ask 193 = .ok (.iload 10, 2) := by decide +kernel
theorem dL_ask_195 : decode cL_ask 195 = .ok (.iload 18, 2) := by decide +kernel
theorem dL_ask_197 : decode cL_ask 197 = .ok (.ifCond .le 7, 3) := by decide +kernel
theorem dL_ask_200 : decode cL_ask 200 = .ok (.iconst 1, 1) := by decide +kernel
theorem dL_ask_201 : decode cL_ask 201 = .ok (.goto 4, 3) := by decide +kernel
theorem dL_ask_204 : decode cL_ask 204 = .ok (.iconst 0, 1) := by decide +kernel
theorem dL_ask_205 : decode cL_ask 205 = .ok (.iadd, 1) := by decide +kernel
theorem dL_ask_206 : decode cL_ask 206 = .ok (.istore 10, 2) := by decide +kernel
theorem dL_ask_208 : decode cL_ask 208 = .ok (.aload_n 0, 1) := by decide +kernel
theorem dL_ask_209 : decode cL_ask 209 = .ok (.bipush 7, 2) := by decide +kernel
theorem dL_ask_211 : decode cL_ask 211 = .ok (.dup2, 1) := by decide +kernel
theorem dL_ask_212 : decode cL_ask 212 = .ok (.iaload, 1) := by decide +kernel
theorem dL_ask_213 : decode cL_ask 213 = .ok (.iload 18, 2) := by decide +kernel
theorem dL_ask_215 : decode cL_ask 215 = .ok (.ifCond .ne 7, 3) := by decide +kernel
theorem dL_ask_218 : decode cL_ask 218 = .ok (.iconst 0, 1) := by decide +kernel
theorem dL_ask_219 : decode cL_ask 219 = .ok (.goto 4, 3) := by decide +kernel
theorem dL_ask_222 : decode cL_ask 222 = .ok (.iconst 1, 1) := by decide +kernel
theorem dL_ask_223 : decode cL_ask 223 = .ok (.iadd, 1) := by decide +kernel
theorem dL_ask_224 : decode cL_ask 224 = .ok (.iastore, 1) := by decide +kernel
theorem dL_ask_225 : decode cL_ask 225 = .ok (.iinc 14 1, 3) := by decide +kernel
theorem dL_ask_228 : decode cL_ask 228 = .ok (.goto (-147), 3) := by decide +kernel
theorem dL_ask_231 : decode cL_ask 231 = .ok (.iinc 11 (-1), 3) := by decide +kernel
theorem dL_ask_234 : decode cL_ask 234 = .ok (.goto (-180), 3) := by decide +kernel
theorem dL_ask_237 : decode cL_ask 237 = .ok (.iload 10, 2) := by decide +kernel
theorem dL_ask_239 : decode cL_ask 239 = .ok (.ireturn, 1) := by decide +kernel
set_option maxRecDepth 20000 in
theorem ggL_acts_L_low : GoodIn wsL_acts wsL_low := goodIn_r _ [5, 6] (by decide +kernel) (by decide +kernel)
set_option maxRecDepth 20000 in
theorem gL_acts_L_low : GoodIn wsL_acts (va_wsS RL 61 yL_low wsL_low) := goodIn_app (goodIn_of _ (by decide +kernel)) ggL_acts_L_low
set_option maxRecDepth 20000 in
theorem ggL_acts_X7_setLimits : GoodIn wsL_acts wsX7_setLimits := goodIn_r _ [11, 12, 13, 14, 15, 16, 17, 18, 19, 20, 21, 22, 23, 24, 25, 26, 27, 28, 29, 30, 31, 32, 33, 34, 35, 36, 37, 38, 39, 40, 41, 42, 43, 44, 45, 46, 47, 48, 49, 50, 51, 52, 53, 54, 55, 56, 57, 58, 59, 60, 61, 62, 63, 64, 65, 66, 67, 68, 69, 70, 10, 71, 72, 73, 74, 75, 76, 77, 374, 375, 376, 377, 378, 379, 380, 381, 382, 383, 384, 385, 386, 387, 388, 389, 390, 391, 392, 393, 394, 395, 396, 397, 398, 399, 400, 401, 402, 403] (by decide +kernel) (by decide +kernel)
set_option maxRecDepth 20000 in
theorem gL_acts_X7_setLimits : GoodIn wsL_acts (wsV RL 64 RX7 yX7_setLimits wsX7_setLimits) := goodIn_app (goodIn_of _ (by decide +kernel)) ggL_acts_X7_setLimits
set_option maxRecDepth 20000 in
theorem ggL_acts_L_serve : GoodIn wsL_acts wsL_serve := goodIn_r _ [80] (by decide +kernel) (by decide +kernel)
set_option maxRecDepth 20000 in
theorem gL_acts_L_serve : GoodIn wsL_acts (va_wsS RL 9 yL_serve wsL_serve) := goodIn_app (goodIn_of _ (by decide +kernel)) ggL_acts_L_serve
set_option maxRecDepth 20000 in
theorem ggL_acts_L_arrive : GoodIn wsL_acts wsL_arrive := goodIn_r _ [83, 84, 85, 4, 86, 87, 88, 89, 1, 78, 79, 80, 90, 91, 92] (by decide +kernel) (by decide +kernel)
set_option maxRecDepth 20000 in
theorem gL_acts_L_arrive : GoodIn wsL_acts (va_wsS RL 57 yL_arrive wsL_arrive) := goodIn_app (goodIn_of _ (by decide +kernel)) ggL_acts_L_arrive
set_option maxRecDepth 20000 in
theorem ggL_acts_X7_write : GoodIn wsL_acts wsX7_write := goodIn_r _ [96, 12, 13, 14, 15, 16, 17, 18, 19, 20, 21, 22, 23, 24, 25, 26, 27, 28, 29, 30, 31, 32, 33, 34, 35, 36, 37, 38, 39, 40, 41, 42, 43, 44, 45, 46, 47, 48, 49, 50, 51, 52, 53, 54, 55, 56, 57, 58, 59, 60, 61, 97, 98, 99, 65, 100, 67, 101, 102, 10, 103, 104, 105, 106, 107, 108, 109, 110, 111, 112, 113, 114, 115, 116, 117, 118, 119, 120, 121, 122, 123, 124, 125, 126, 127, 128, 129, 130, 131, 132, 133, 134, 135, 136, 137, 138, 139, 140, 141, 142, 143, 144, 145, 146, 147, 148, 149, 150, 151, 152, 153, 154, 155, 156, 157, 158, 159, 160, 161, 162, 163, 164, 165, 166, 167, 168, 169, 170, 171, 172, 173, 174, 175, 176, 177, 178, 179, 180, 181, 182, 183, 184, 185, 186, 187, 188, 189, 190, 191, 192, 193, 194, 195, 196, 197, 198, 199, 200, 201, 202, 203, 204, 205, 206, 207, 208, 209, 210, 211, 212, 213, 214, 215, 216, 217, 218, 219, 220, 221, 222, 223, 224, 225, 226, 227, 228, 229, 230, 231, 232, 233, 234, 235, 236, 237, 238, 239, 68, 69, 70, 71, 72, 73, 74, 75, 76, 77, 374, 375, 376, 377, 378, 379, 380, 381, 382, 383, 384, 385, 386, 387, 388, 389, 390, 391, 392, 393, 394, 395, 396, 397, 398, 399, 400, 401, 402, 403, 404, 405, 406] (by decide +kernel) (by decide +kernel)
set_option maxRecDepth 20000 in
theorem gL_acts_X7_write : GoodIn wsL_acts (wsV RL 67 RX7 yX7_write wsX7_write) := goodIn_app (goodIn_of _ (by decide +kernel)) ggL_acts_X7_write
set_option maxRecDepth 20000 in
theorem ggL_acts_X7_cause : GoodIn wsL_acts wsX7_cause := goodIn_r _ [243, 13, 244, 102, 10, 103, 245, 246, 247, 29, 248, 249, 105, 106, 107, 44, 250, 251, 252, 253, 46, 374, 375, 376, 377, 378, 379, 383, 384, 385, 386, 387, 388, 389, 390, 391, 392, 393, 394, 395, 396, 397, 398] (by decide +kernel) (by decide +kernel)
set_option maxRecDepth 20000 in
theorem gL_acts_X7_cause : GoodIn wsL_acts (wsV RL 70 RX7 yX7_cause wsX7_cause) := goodIn_app (goodIn_of _ (by decide +kernel)) ggL_acts_X7_cause
set_option maxRecDepth 20000 in
theorem ggL_acts_L_ask : GoodIn wsL_acts wsL_ask := goodIn_r _ [256, 1, 81, 82, 4, 83, 84, 85, 86, 87, 88, 89, 78, 79, 80, 90, 91, 92] (by decide +kernel) (by decide +kernel)
set_option maxRecDepth 20000 in
theorem gL_acts_L_ask : GoodIn wsL_acts (va_wsS RL 73 yL_ask wsL_ask) := goodIn_app (goodIn_of _ (by decide +kernel)) ggL_acts_L_ask
set_option maxRecDepth 20000 in
theorem ggL_acts_X7_ask : GoodIn wsL_acts wsX7_ask := goodIn_r _ [260, 12, 13, 14, 15, 16, 17, 18, 19, 20, 21, 22, 23, 24, 25, 26, 27, 28, 29, 30, 31, 32, 33, 34, 35, 36, 37, 38, 39, 40, 41, 42, 43, 44, 45, 46, 47, 48, 49, 50, 51, 52, 53, 54, 55, 56, 57, 58, 59, 60, 61, 261, 262, 263, 65, 264, 67, 265, 266, 228, 229, 230, 267, 268, 269, 270, 239, 220, 221, 222, 271, 272, 273, 274, 219, 275, 276, 277, 278, 279, 120, 121, 122, 280, 281, 125, 282, 153, 154, 155, 156, 157, 158, 159, 160, 143, 10, 144, 195, 196, 197, 198, 199, 200, 201, 202, 207, 208, 209, 210, 145, 146, 147, 148, 149, 150, 151, 152, 161, 162, 163, 164, 165, 166, 167, 168, 169, 170, 171, 172, 173, 174, 175, 176, 177, 178, 179, 180, 181, 182, 183, 184, 185, 101, 186, 187, 188, 189, 190, 191, 192, 193, 194, 112, 113, 114, 115, 116, 117, 118, 119, 123, 124, 126, 127, 128, 129, 130, 203, 204, 205, 206, 131, 132, 133, 134, 211, 212, 213, 214, 215, 216, 217, 218, 223, 224, 225, 226, 227, 231, 232, 233, 234, 235, 236, 237, 238, 68, 69, 70, 71, 72, 73, 74, 75, 76, 77, 374, 375, 376, 377, 378, 379, 380, 381, 382, 383, 384, 385, 386, 387, 388, 389, 390, 391, 392, 393, 394, 395, 396, 397, 398, 399, 400, 401, 402, 403, 404, 405, 406] (by decide +kernel) (by decide +kernel)
set_option maxRecDepth 20000 in
theorem gL_acts_X7_ask : GoodIn wsL_acts (wsV RL 77 RX7 yX7_ask wsX7_ask) := goodIn_app (goodIn_of _ (by decide +kernel)) ggL_acts_X7_ask
set_option maxRecDepth 20000 in
theorem ggL_acts_L_isRead : GoodIn wsL_acts wsL_isRead := goodIn_r _ [285, 1, 286, 287, 288, 10, 289, 12, 13, 14, 15, 16, 17, 18, 19, 20, 21, 22, 23, 24, 25, 26, 27, 28, 29, 30, 31, 32, 33, 34, 35, 36, 37, 38, 39, 40, 41, 42, 43, 44, 45, 46, 47, 48, 49, 50, 51, 52, 53, 54, 55, 56, 57, 58, 59, 60, 61, 290, 291, 292, 65, 293, 67, 101, 294, 192, 193, 194, 295, 246, 247, 248, 102, 103, 249, 105, 106, 107, 296, 297, 298, 115, 299, 300, 113, 114, 116, 117, 118, 119, 120, 121, 122, 123, 124, 125, 126, 127, 128, 129, 130, 301, 132, 133, 134, 143, 144, 302, 303, 304, 305, 306, 307, 308, 309, 310, 187, 188, 189, 190, 191, 311, 312, 313, 314, 219, 220, 221, 222, 182, 183, 184, 185, 186, 195, 196, 197, 198, 199, 200, 201, 202, 112, 203, 204, 205, 206, 207, 208, 209, 210, 151, 152, 149, 150, 131, 211, 212, 213, 214, 68, 69, 70, 71, 72, 73, 74, 75, 76, 77, 315, 316, 317, 318, 319, 320, 245, 321, 154, 155, 156, 157, 158, 159, 160, 322, 323, 324, 325, 326, 327, 328, 329, 330, 331, 332, 333, 334, 335, 336, 337, 338, 339, 340, 341, 342, 251, 252, 253, 343, 240, 241, 242, 243, 244, 250, 78, 79, 4, 80, 344, 345, 346, 87, 88, 89, 374, 375, 376, 377, 378, 379, 380, 381, 382, 383, 384, 385, 386, 387, 388, 389, 390, 391, 392, 393, 394, 395, 396, 397, 398, 399, 400, 401, 402, 403, 404, 405, 406] (by decide +kernel) (by decide +kernel)
set_option maxRecDepth 20000 in
theorem gL_acts_L_isRead : GoodIn wsL_acts (va_wsS RL 79 yL_isRead wsL_isRead) := goodIn_app (goodIn_of _ (by decide +kernel)) ggL_acts_L_isRead
set_option maxRecDepth 20000 in
theorem ggL_acts_X7_lose : GoodIn wsL_acts wsX7_lose := goodIn_r _ [350, 12, 13, 14, 15, 16, 17, 18, 19, 20, 21, 22, 23, 24, 25, 26, 27, 28, 29, 30, 31, 32, 33, 34, 35, 36, 37, 38, 39, 40, 41, 42, 43, 44, 45, 46, 47, 48, 49, 50, 51, 52, 53, 54, 55, 56, 57, 58, 59, 60, 61, 351, 352, 353, 65, 354, 67, 355, 356, 357, 358, 359, 227, 228, 229, 230, 360, 361, 362, 223, 224, 225, 226, 190, 199, 200, 201, 202, 211, 212, 213, 214, 68, 69, 70, 10, 71, 72, 73, 74, 75, 76, 77, 374, 375, 376, 377, 378, 379, 380, 381, 382, 383, 384, 385, 386, 387, 388, 389, 390, 391, 392, 393, 394, 395, 396, 397, 398, 399, 400, 401, 402, 403] (by decide +kernel) (by decide +kernel)
set_option maxRecDepth 20000 in
theorem gL_acts_X7_lose : GoodIn wsL_acts (wsV RL 83 RX7 yX7_lose wsX7_lose) := goodIn_app (goodIn_of _ (by decide +kernel)) ggL_acts_X7_lose
set_option maxRecDepth 20000 in
theorem ggL_acts_L_take : GoodIn wsL_acts wsL_take := goodIn_r _ [365] (by decide +kernel) (by decide +kernel)
set_option maxRecDepth 20000 in
theorem gL_acts_L_take : GoodIn wsL_acts (va_wsS RL 86 yL_take wsL_take) := goodIn_app (goodIn_of _ (by decide +kernel)) ggL_acts_L_take
set_option maxRecDepth 20000 in
theorem ggL_acts_X7_deliver : GoodIn wsL_acts wsX7_deliver := goodIn_r _ [369, 12, 13, 14, 15, 16, 17, 18, 19, 20, 21, 22, 23, 24, 25, 26, 27, 28, 29, 30, 31, 32, 33, 34, 35, 36, 37, 38, 39, 40, 41, 42, 43, 44, 45, 46, 47, 48, 49, 50, 51, 52, 53, 54, 55, 56, 57, 58, 59, 60, 61, 370, 371, 372, 65, 373, 67, 356, 357, 358, 359, 227, 228, 229, 230, 360, 361, 362, 223, 224, 225, 226, 190, 199, 200, 201, 202, 219, 220, 221, 222, 207, 208, 209, 210, 211, 212, 213, 214, 145, 146, 147, 148, 149, 10, 150, 151, 152, 153, 154, 155, 156, 157, 120, 121, 122, 158, 159, 125, 160, 161, 162, 163, 164, 165, 166, 167, 168, 169, 170, 171, 172, 173, 174, 175, 176, 177, 178, 179, 180, 181, 182, 183, 184, 185, 101, 186, 187, 188, 189, 191, 192, 193, 194, 195, 196, 197, 198, 112, 113, 114, 115, 116, 117, 118, 119, 123, 124, 126, 127, 128, 129, 130, 203, 204, 205, 206, 131, 132, 133, 134, 215, 216, 217, 218, 231, 232, 233, 234, 235, 236, 237, 238, 239, 68, 69, 70, 71, 72, 73, 74, 75, 76, 77, 374, 375, 376, 377, 378, 379, 380, 381, 382, 383, 384, 385, 386, 387, 388, 389, 390, 391, 392, 393, 394, 395, 396, 397, 398, 399, 400, 401, 402, 403, 404, 405, 406] (by decide +kernel) (by decide +kernel)
set_option maxRecDepth 20000 in
theorem gL_acts_X7_deliver : GoodIn wsL_acts (wsV RL 89 RX7 yX7_deliver wsX7_deliver) := goodIn_app (goodIn_of _ (by decide +kernel)) ggL_acts_X7_deliver
theorem dL_acts_0 : decode cL_acts 0 = .ok (.iload 8, 2) := by decide +kernel
theorem dL_acts_2 : decode cL_acts 2 = .ok (.iconst 5, 1) := by decide +kernel
theorem dL_acts_3 : decode cL_acts 3 = .ok (.ishr, 1) := by decide +kernel
theorem dL_acts_4 : decode cL_acts 4 = .ok (.aload_n 1, 1) := by decide +kernel
theorem dL_acts_5 : decode cL_acts 5 = .ok (.iconst 0, 1) := by decide +kernel
theorem dL_acts_6 : decode cL_acts 6 = .ok (.iaload, 1) := by decide +kernel
theorem dL_acts_7 : decode cL_acts 7 = .ok (.invokestatic 61, 3) := by decide +kernel
theorem dL_acts_10 : decode cL_acts 10 = .ok (.istore 9, 2) := by decide +kernel
theorem dL_acts_12 : decode cL_acts 12 = .ok (.iload 8, 2) := by decide +kernel
theorem dL_acts_14 : decode cL_acts 14 = .ok (.bipush 9, 2) := by decide +kernel
theorem dL_acts_16 : decode cL_acts 16 = .ok (.ishr, 1) := by decide +kernel
theorem dL_acts_17 : decode cL_acts 17 = .ok (.iconst 4, 1) := by decide +kernel
theorem dL_acts_18 : decode cL_acts 18 = .ok (.invokestatic 61, 3) := by decide +kernel
theorem dL_acts_21 : decode cL_acts 21 = .ok (.istore 10, 2) := by decide +kernel
theorem dL_acts_23 : decode cL_acts 23 = .ok (.iconst 1, 1) := by decide +kernel
theorem dL_acts_24 : decode cL_acts 24 = .ok (.iload 8, 2) := by decide +kernel
theorem dL_acts_26 : decode cL_acts 26 = .ok (.bipush 11, 2) := by decide +kernel
theorem dL_acts_28 : decode cL_acts 28 = .ok (.ishr, 1) := by decide +kernel
theorem dL_acts_29 : decode cL_acts 29 = .ok (.bipush 9, 2) := by decide +kernel
theorem dL_acts_31 : decode cL_acts 31 = .ok (.invokestatic 61, 3) := by decide +kernel
theorem dL_acts_34 : decode cL_acts 34 = .ok (.iadd, 1) := by decide +kernel
theorem dL_acts_35 : decode cL_acts 35 = .ok (.istore 11, 2) := by decide +kernel
theorem dL_acts_37 : decode cL_acts 37 = .ok (.iload 8, 2) := by decide +kernel
theorem dL_acts_39 : decode cL_acts 39 = .ok (.bipush 16, 2) := by decide +kernel
theorem dL_acts_41 : decode cL_acts 41 = .ok (.invokestatic 61, 3) := by decide +kernel
theorem dL_acts_44 : decode cL_acts 44 = .ok (.tableswitch 575 0 8 #[52, 114, 114, 114, 114, 324, 389, 389, 417], 52) := by decide +kernel
theorem dL_acts_96 : decode cL_acts 96 = .ok (.aload_n 1, 1) := by decide +kernel
theorem dL_acts_97 : decode cL_acts 97 = .ok (.iconst 1, 1) := by decide +kernel
theorem dL_acts_98 : decode cL_acts 98 = .ok (.iload 8, 2) := by decide +kernel
theorem dL_acts_100 : decode cL_acts 100 = .ok (.iconst 5, 1) := by decide +kernel
theorem dL_acts_101 : decode cL_acts 101 = .ok (.ishr, 1) := by decide +kernel
theorem dL_acts_102 : decode cL_acts 102 = .ok (.bipush 9, 2) := by decide +kernel
theorem dL_acts_104 : decode cL_acts 104 = .ok (.invokestatic 61, 3) := by decide +kernel
theorem dL_acts_107 : decode cL_acts 107 = .ok (.iastore, 1) := by decide +kernel
theorem dL_acts_108 : decode cL_acts 108 = .ok (.aload_n 1, 1) := by decide +kernel
theorem dL_acts_109 : decode cL_acts 109 = .ok (.iconst 2, 1) := by decide +kernel
theorem dL_acts_110 : decode cL_acts 110 = .ok (.iconst 1, 1) := by decide +kernel
theorem dL_acts_111 : decode cL_acts 111 = .ok (.iload 8, 2) := by decide +kernel
theorem dL_acts_113 : decode cL_acts 113 = .ok (.bipush 9, 2) := by decide +kernel
theorem dL_acts_115 : decode cL_acts 115 = .ok (.ishr, 1) := by decide +kernel
theorem dL_acts_116 : decode cL_acts 116 = .ok (.iload 8, 2) := by decide +kernel
theorem dL_acts_118 : decode cL_acts 118 = .ok (.bipush 14, 2) := by decide +kernel
theorem dL_acts_120 : decode cL_acts 120 = .ok (.ishr, 1) := by decide +kernel
theorem dL_acts_121 : decode cL_acts 121 = .ok (.iconst 2, 1) := by decide +kernel
theorem dL_acts_122 : decode cL_acts 122 = .ok (.invokestatic 61, 3) := by decide +kernel
theorem dL_acts_125 : decode cL_acts 125 = .ok (.ifCond .ne 7, 3) := by decide +kernel
theorem dL_acts_128 : decode cL_acts 128 = .ok (.iconst 4, 1) := by decide +kernel
theorem dL_acts_129 : decode cL_acts 129 = .ok (.goto 5, 3) := by decide +kernel
theorem dL_acts_132 : decode cL_acts 132 = .ok (.bipush 12, 2) := by decide +kernel
theorem dL_acts_134 : decode cL_acts 134 = .ok (.invokestatic 61, 3) := by decide +kernel
theorem dL_acts_137 : decode cL_acts 137 = .ok (.iadd, 1) := by decide +kernel
theorem dL_acts_138 : decode cL_acts 138 = .ok (.iastore, 1) := by decide +kernel
theorem dL_acts_139 : decode cL_acts 139 = .ok (.aload_n 0, 1) := by decide +kernel
theorem dL_acts_140 : decode cL_acts 140 = .ok (.aload_n 1, 1) := by decide +kernel
theorem dL_acts_141 : decode cL_acts 141 = .ok (.iconst 1, 1) := by decide +kernel
theorem dL_acts_142 : decode cL_acts 142 = .ok (.iaload, 1) := by decide +kernel
theorem dL_acts_143 : decode cL_acts 143 = .ok (.aload_n 1, 1) := by decide +kernel
theorem dL_acts_144 : decode cL_acts 144 = .ok (.iconst 2, 1) := by decide +kernel
theorem dL_acts_145 : decode cL_acts 145 = .ok (.iaload, 1) := by decide +kernel
theorem dL_acts_146 : decode cL_acts 146 = .ok (.invokevirtual 64, 3) := by decide +kernel
theorem dL_acts_149 : decode cL_acts 149 = .ok (.ifCond .lt 7, 3) := by decide +kernel
theorem dL_acts_152 : decode cL_acts 152 = .ok (.iconst 1, 1) := by decide +kernel
theorem dL_acts_153 : decode cL_acts 153 = .ok (.goto 4, 3) := by decide +kernel
theorem dL_acts_156 : decode cL_acts 156 = .ok (.iconst 0, 1) := by decide +kernel
theorem dL_acts_157 : decode cL_acts 157 = .ok (.ireturn, 1) := by decide +kernel
theorem dL_acts_158 : decode cL_acts 158 = .ok (.aload_n 1, 1) := by decide +kernel
theorem dL_acts_159 : decode cL_acts 159 = .ok (.bipush 20, 2) := by decide +kernel
theorem dL_acts_161 : decode cL_acts 161 = .ok (.iload 10, 2) := by decide +kernel
theorem dL_acts_163 : decode cL_acts 163 = .ok (.iadd, 1) := by decide +kernel
theorem dL_acts_164 : decode cL_acts 164 = .ok (.iaload, 1) := by decide +kernel
theorem dL_acts_165 : decode cL_acts 165 = .ok (.bipush 12, 2) := by decide +kernel
theorem dL_acts_167 : decode cL_acts 167 = .ok (.if_icmp .ne 5, 3) := by decide +kernel
theorem dL_acts_170 : decode cL_acts 170 = .ok (.iconst 1, 1) := by decide +kernel
theorem dL_acts_171 : decode cL_acts 171 = .ok (.ireturn, 1) := by decide +kernel
theorem dL_acts_172 : decode cL_acts 172 = .ok (.iconst 4, 1) := by decide +kernel
theorem dL_acts_173 : decode cL_acts 173 = .ok (.newarray .int, 2) := by decide +kernel
theorem dL_acts_175 : decode cL_acts 175 = .ok (.astore 12, 2) := by decide +kernel
theorem dL_acts_177 : decode cL_acts 177 = .ok (.aload_n 2, 1) := by decide +kernel
theorem dL_acts_178 : decode cL_acts 178 = .ok (.aload_n 3, 1) := by decide +kernel
theorem dL_acts_179 : decode cL_acts 179 = .ok (.aload_n 1, 1) := by decide +kernel
theorem dL_acts_180 : decode cL_acts 180 = .ok (.bipush 16, 2) := by decide +kernel
theorem dL_acts_182 : decode cL_acts 182 = .ok (.iload 10, 2) := by decide +kernel
theorem dL_acts_184 : decode cL_acts 184 = .ok (.iadd, 1) := by decide +kernel
theorem dL_acts_185 : decode cL_acts 185 = .ok (.iaload, 1) := by decide +kernel
theorem dL_acts_186 : decode cL_acts 186 = .ok (.aload 12, 2) := by decide +kernel
theorem dL_acts_188 : decode cL_acts 188 = .ok (.invokestatic 9, 3) := by decide +kernel
theorem dL_acts_191 : decode cL_acts 191 = .ok (.aload 12, 2) := by decide +kernel
theorem dL_acts_193 : decode cL_acts 193 = .ok (.iload 10, 2) := by decide +kernel
theorem dL_acts_195 : decode cL_acts 195 = .ok (.aload_n 1, 1) := by decide +kernel
theorem dL_acts_196 : decode cL_acts 196 = .ok (.bipush 20, 2) := by decide +kernel
theorem dL_acts_198 : decode cL_acts 198 = .ok (.iload 10, 2) := by decide +kernel
theorem dL_acts_200 : decode cL_acts 200 = .ok (.iadd, 1) := by decide +kernel
theorem dL_acts_201 : decode cL_acts 201 = .ok (.iaload, 1) := by decide +kernel
theorem dL_acts_202 : decode cL_acts 202 = .ok (.iastore, 1) := by decide +kernel
theorem dL_acts_203 : decode cL_acts 203 = .ok (.aload_n 3, 1) := by decide +kernel
theorem dL_acts_204 : decode cL_acts 204 = .ok (.bipush 12, 2) := by decide +kernel
theorem dL_acts_206 : decode cL_acts 206 = .ok (.iload 10, 2) := by decide +kernel
theorem dL_acts_208 : decode cL_acts 208 = .ok (.imul, 1) := by decide +kernel
theorem dL_acts_209 : decode cL_acts 209 = .ok (.aload_n 1, 1) := by decide +kernel
theorem dL_acts_210 : decode cL_acts 210 = .ok (.bipush 20, 2) := by decide +kernel
theorem dL_acts_212 : decode cL_acts 212 = .ok (.iload 10, 2) := by decide +kernel
theorem dL_acts_214 : decode cL_acts 214 = .ok (.iadd, 1) := by decide +kernel
theorem dL_acts_215 : decode cL_acts 215 = .ok (.iaload, 1) := by decide +kernel
theorem dL_acts_216 : decode cL_acts 216 = .ok (.iadd, 1) := by decide +kernel
theorem dL_acts_217 : decode cL_acts 217 = .ok (.aload 12, 2) := by decide +kernel
theorem dL_acts_219 : decode cL_acts 219 = .ok (.iconst 0, 1) := by decide +kernel
theorem dL_acts_220 : decode cL_acts 220 = .ok (.iaload, 1) := by decide +kernel
theorem dL_acts_221 : decode cL_acts 221 = .ok (.aload 12, 2) := by decide +kernel
theorem dL_acts_223 : decode cL_acts 223 = .ok (.iconst 1, 1) := by decide +kernel
theorem dL_acts_224 : decode cL_acts 224 = .ok (.iaload, 1) := by decide +kernel
theorem dL_acts_225 : decode cL_acts 225 = .ok (.iconst 5, 1) := by decide +kernel
theorem dL_acts_226 : decode cL_acts 226 = .ok (.ishl, 1) := by decide +kernel
theorem dL_acts_227 : decode cL_acts 227 = .ok (.ior, 1) := by decide +kernel
theorem dL_acts_228 : decode cL_acts 228 = .ok (.aload 12, 2) := by decide +kernel
theorem dL_acts_230 : decode cL_acts 230 = .ok (.iconst 2, 1) := by decide +kernel
theorem dL_acts_231 : decode cL_acts 231 = .ok (.iaload, 1) := by decide +kernel
theorem dL_acts_232 : decode cL_acts 232 = .ok (.bipush 10, 2) := by decide +kernel
theorem dL_acts_234 : decode cL_acts 234 = .ok (.ishl, 1) := by decide +kernel
theorem dL_acts_235 : decode cL_acts 235 = .ok (.ior, 1) := by decide +kernel
theorem dL_acts_236 : decode cL_acts 236 = .ok (.aload 12, 2) := by decide +kernel
theorem dL_acts_238 : decode cL_acts 238 = .ok (.iconst 3, 1) := by decide +kernel
theorem dL_acts_239 : decode cL_acts 239 = .ok (.iaload, 1) := by decide +kernel
theorem dL_acts_240 : decode cL_acts 240 = .ok (.bipush 15, 2) := by decide +kernel
theorem dL_acts_242 : decode cL_acts 242 = .ok (.ishl, 1) := by decide +kernel
theorem dL_acts_243 : decode cL_acts 243 = .ok (.ior, 1) := by decide +kernel
theorem dL_acts_244 : decode cL_acts 244 = .ok (.iastore, 1) := by decide +kernel
theorem dL_acts_245 : decode cL_acts 245 = .ok (.aload_n 1, 1) := by decide +kernel
theorem dL_acts_246 : decode cL_acts 246 = .ok (.bipush 20, 2) := by decide +kernel
theorem dL_acts_248 : decode cL_acts 248 = .ok (.iload 10, 2) := by decide +kernel
theorem dL_acts_250 : decode cL_acts 250 = .ok (.iadd, 1) := by decide +kernel
theorem dL_acts_251 : decode cL_acts 251 = .ok (.dup2, 1) := by decide +kernel
theorem dL_acts_252 : decode cL_acts 252 = .ok (.iaload, 1) := by decide +kernel
theorem dL_acts_253 : decode cL_acts 253 = .ok (.iconst 1, 1) := by decide +kernel
theorem dL_acts_254 : decode cL_acts 254 = .ok (.iadd, 1) := by decide +kernel
theorem dL_acts_255 : decode cL_acts 255 = .ok (.iastore, 1) := by decide +kernel
theorem dL_acts_256 : decode cL_acts 256 = .ok (.aload_n 1, 1) := by decide +kernel
theorem dL_acts_257 : decode cL_acts 257 = .ok (.aload_n 2, 1) := by decide +kernel
theorem dL_acts_258 : decode cL_acts 258 = .ok (.aload_n 3, 1) := by decide +kernel
theorem dL_acts_259 : decode cL_acts 259 = .ok (.aload 4, 2) := by decide +kernel
theorem dL_acts_261 : decode cL_acts 261 = .ok (.aload 5, 2) := by decide +kernel
theorem dL_acts_263 : decode cL_acts 263 = .ok (.aload 6, 2) := by decide +kernel
theorem dL_acts_265 : decode cL_acts 265 = .ok (.aload 7, 2) := by decide +kernel
theorem dL_acts_267 : decode cL_acts 267 = .ok (.aload_n 1, 1) := by decide +kernel
theorem dL_acts_268 : decode cL_acts 268 = .ok (.bipush 16, 2) := by decide +kernel
theorem dL_acts_270 : decode cL_acts 270 = .ok (.iload 10, 2) := by decide +kernel
theorem dL_acts_272 : decode cL_acts 272 = .ok (.iadd, 1) := by decide +kernel
theorem dL_acts_273 : decode cL_acts 273 = .ok (.iaload, 1) := by decide +kernel
theorem dL_acts_274 : decode cL_acts 274 = .ok (.bipush 16, 2) := by decide +kernel
theorem dL_acts_276 : decode cL_acts 276 = .ok (.iload 10, 2) := by decide +kernel
theorem dL_acts_278 : decode cL_acts 278 = .ok (.imul, 1) := by decide +kernel
theorem dL_acts_279 : decode cL_acts 279 = .ok (.aload_n 1, 1) := by decide +kernel
theorem dL_acts_280 : decode cL_acts 280 = .ok (.bipush 20, 2) := by decide +kernel
theorem dL_acts_282 : decode cL_acts 282 = .ok (.iload 10, 2) := by decide +kernel
theorem dL_acts_284 : decode cL_acts 284 = .ok (.iadd, 1) := by decide +kernel
theorem dL_acts_285 : decode cL_acts 285 = .ok (.iaload, 1) := by decide +kernel
theorem dL_acts_286 : decode cL_acts 286 = .ok (.iadd, 1) := by decide +kernel
theorem dL_acts_287 : decode cL_acts 287 = .ok (.iconst (-1), 1) := by decide +kernel
theorem dL_acts_288 : decode cL_acts 288 = .ok (.invokestatic 57, 3) := by decide +kernel
theorem dL_acts_291 : decode cL_acts 291 = .ok (.pop, 1) := by decide +kernel
theorem dL_acts_292 : decode cL_acts 292 = .ok (.aload_n 0, 1) := by decide +kernel
theorem dL_acts_293 : decode cL_acts 293 = .ok (.iload 10, 2) := by decide +kernel
theorem dL_acts_295 : decode cL_acts 295 = .ok (.invokevirtual 67, 3) := by decide +kernel
theorem dL_acts_298 : decode cL_acts 298 = .ok (.aload_n 1, 1) := by decide +kernel
theorem dL_acts_299 : decode cL_acts 299 = .ok (.bipush 20, 2) := by decide +kernel
theorem dL_acts_301 : decode cL_acts 301 = .ok (.iload 10, 2) := by decide +kernel
theorem dL_acts_303 : decode cL_acts 303 = .ok (.iadd, 1) := by decide +kernel
theorem dL_acts_304 : decode cL_acts 304 = .ok (.iaload, 1) := by decide +kernel
theorem dL_acts_305 : decode cL_acts 305 = .ok (.if_icmp .ne 7, 3) := by decide +kernel
theorem dL_acts_308 : decode cL_acts 308 = .ok (.iconst 1, 1) := by decide +kernel
theorem dL_acts_309 : decode cL_acts 309 = .ok (.goto 4, 3) := by decide +kernel
theorem dL_acts_312 : decode cL_acts 312 = .ok (.iconst 0, 1) := by decide +kernel
theorem dL_acts_313 : decode cL_acts 313 = .ok (.istore 13, 2) := by decide +kernel
theorem dL_acts_315 : decode cL_acts 315 = .ok (.iconst 0, 1) := by decide +kernel
theorem dL_acts_316 : decode cL_acts 316 = .ok (.istore 14, 2) := by decide +kernel
theorem dL_acts_318 : decode cL_acts 318 = .ok (.iload 14, 2) := by decide +kernel
theorem dL_acts_320 : decode cL_acts 320 = .ok (.iconst 4, 1) := by decide +kernel
theorem dL_acts_321 : decode cL_acts 321 = .ok (.if_icmp .ge 44, 3) := by decide +kernel
theorem dL_acts_324 : decode cL_acts 324 = .ok (.iload 13, 2) := by decide +kernel
theorem dL_acts_326 : decode cL_acts 326 = .ok (.ifCond .eq 30, 3) := by decide +kernel
theorem dL_acts_329 : decode cL_acts 329 = .ok (.aload_n 0, 1) := by decide +kernel
theorem dL_acts_330 : decode cL_acts 330 = .ok (.iload 10, 2) := by decide +kernel
theorem dL_acts_332 : decode cL_acts 332 = .ok (.aload_n 1, 1) := by decide +kernel
theorem dL_acts_333 : decode cL_acts 333 = .ok (.bipush 20, 2) := by decide +kernel
theorem dL_acts_335 : decode cL_acts 335 = .ok (.iload 10, 2) := by decide +kernel
theorem dL_acts_337 : decode cL_acts 337 = .ok (.iadd, 1) := by decide +kernel
theorem dL_acts_338 : decode cL_acts 338 = .ok (.iaload, 1) := by decide +kernel
theorem dL_acts_339 : decode cL_acts 339 = .ok (.iload 14, 2) := by decide +kernel
theorem dL_acts_341 : decode cL_acts 341 = .ok (.invokevirtual 70, 3) := by decide +kernel
theorem dL_acts_344 : decode cL_acts 344 = .ok (.aload 12, 2) := by decide +kernel
theorem dL_acts_346 : decode cL_acts 346 = .ok (.iload 14, 2) := by decide +kernel
theorem dL_acts_348 : decode cL_acts 348 = .ok (.iaload, 1) := by decide +kernel
theorem dL_acts_349 : decode cL_acts 349 = .ok (.if_icmp .ne 7, 3) := by decide +kernel
theorem dL_acts_352 : decode cL_acts 352 = .ok (.iconst 1, 1) := by decide +kernel
theorem dL_acts_353 : decode cL_acts 353 = .ok (.goto 4, 3) := by decide +kernel
theorem dL_acts_356 : decode cL_acts 356 = .ok (.iconst 0, 1) := by decide +kernel
theorem dL_acts_357 : decode cL_acts 357 = .ok (.istore 13, 2) := by decide +kernel
theorem dL_acts_359 : decode cL_acts 359 = .ok (.iinc 14 1, 3) := by decide +kernel
theorem dL_acts_362 : decode cL_acts 362 = .ok (.goto (-44), 3) := by decide +kernel
theorem dL_acts_365 : decode cL_acts 365 = .ok (.iload 13, 2) := by decide +kernel
theorem dL_acts_367 : decode cL_acts 367 = .ok (.ireturn, 1) := by decide +kernel
theorem dL_acts_368 : decode cL_acts 368 = .ok (.iload 9, 2) := by decide +kernel
theorem dL_acts_370 : decode cL_acts 370 = .ok (.ifCond .ne 7, 3) := by decide +kernel
theorem dL_acts_373 : decode cL_acts 373 = .ok (.iconst (-1), 1) := by decide +kernel
theorem dL_acts_374 : decode cL_acts 374 = .ok (.goto 19, 3) := by decide +kernel
theorem dL_acts_377 : decode cL_acts 377 = .ok (.aload_n 1, 1) := by decide +kernel
theorem dL_acts_378 : decode cL_acts 378 = .ok (.aload_n 2, 1) := by decide +kernel
theorem dL_acts_379 : decode cL_acts 379 = .ok (.aload_n 3, 1) := by decide +kernel
theorem dL_acts_380 : decode cL_acts 380 = .ok (.aload 4, 2) := by decide +kernel
theorem dL_acts_382 : decode cL_acts 382 = .ok (.aload 5, 2) := by decide +kernel
theorem dL_acts_384 : decode cL_acts 384 = .ok (.aload 6, 2) := by decide +kernel
theorem dL_acts_386 : decode cL_acts 386 = .ok (.aload 7, 2) := by decide +kernel
theorem dL_acts_388 : decode cL_acts 388 = .ok (.iload 9, 2) := by decide +kernel
theorem dL_acts_390 : decode cL_acts 390 = .ok (.invokestatic 73, 3) := by decide +kernel
theorem dL_acts_393 : decode cL_acts 393 = .ok (.istore 14, 2) := by decide +kernel
theorem dL_acts_395 : decode cL_acts 395 = .ok (.aload_n 0, 1) := by decide +kernel
theorem dL_acts_396 : decode cL_acts 396 = .ok (.iload 9, 2) := by decide +kernel
theorem dL_acts_398 : decode cL_acts 398 = .ok (.invokevirtual 77, 3) := by decide +kernel
theorem dL_acts_401 : decode cL_acts 401 = .ok (.iload 9, 2) := by decide +kernel
theorem dL_acts_403 : decode cL_acts 403 = .ok (.ifCond .ne 7, 3) := by decide +kernel
theorem dL_acts_406 : decode cL_acts 406 = .ok (.iconst (-1), 1) := by decide +kernel
theorem dL_acts_407 : decode cL_acts 407 = .ok (.goto 17, 3) := by decide +kernel
theorem dL_acts_410 : decode cL_acts 410 = .ok (.aload_n 1, 1) := by decide +kernel
theorem dL_acts_411 : decode cL_acts 411 = .ok (.bipush 7, 2) := by decide +kernel
theorem dL_acts_413 : decode cL_acts 413 = .ok (.iaload, 1) := by decide +kernel
theorem dL_acts_414 : decode cL_acts 414 = .ok (.ifCond .ne 8, 3) := by decide +kernel
theorem dL_acts_417 : decode cL_acts 417 = .ok (.bipush (-9), 2) := by decide +kernel
theorem dL_acts_419 : decode cL_acts 419 = .ok (.goto 5, 3) := by decide +kernel
theorem dL_acts_422 : decode cL_acts 422 = .ok (.iload 14, 2) := by decide +kernel
theorem dL_acts_424 : decode cL_acts 424 = .ok (.if_icmp .ne 7, 3) := by decide +kernel
theorem dL_acts_427 : decode cL_acts 427 = .ok (.iconst 1, 1) := by decide +kernel
theorem dL_acts_428 : decode cL_acts 428 = .ok (.goto 4, 3) := by decide +kernel
theorem dL_acts_431 : decode cL_acts 431 = .ok (.iconst 0, 1) := by decide +kernel
theorem dL_acts_432 : decode cL_acts 432 = .ok (.ireturn, 1) := by decide +kernel
theorem dL_acts_433 : decode cL_acts 433 = .ok (.aload_n 0, 1) := by decide +kernel
theorem dL_acts_434 : decode cL_acts 434 = .ok (.aload_n 1, 1) := by decide +kernel
theorem dL_acts_435 : decode cL_acts 435 = .ok (.aload_n 2, 1) := by decide +kernel
theorem dL_acts_436 : decode cL_acts 436 = .ok (.aload_n 3, 1) := by decide +kernel
theorem dL_acts_437 : decode cL_acts 437 = .ok (.aload 6, 2) := by decide +kernel
theorem dL_acts_439 : decode cL_acts 439 = .ok (.aload 7, 2) := by decide +kernel
theorem dL_acts_441 : decode cL_acts 441 = .ok (.iload 9, 2) := by decide +kernel
theorem dL_acts_443 : decode cL_acts 443 = .ok (.iload 10, 2) := by decide +kernel
theorem dL_acts_445 : decode cL_acts 445 = .ok (.iconst 1, 1) := by decide +kernel
theorem dL_acts_446 : decode cL_acts 446 = .ok (.iload 8, 2) := by decide +kernel
theorem dL_acts_448 : decode cL_acts 448 = .ok (.bipush 11, 2) := by decide +kernel
theorem dL_acts_450 : decode cL_acts 450 = .ok (.ishr, 1) := by decide +kernel
theorem dL_acts_451 : decode cL_acts 451 = .ok (.bipush 12, 2) := by decide +kernel
theorem dL_acts_453 : decode cL_acts 453 = .ok (.invokestatic 61, 3) := by decide +kernel
theorem dL_acts_456 : decode cL_acts 456 = .ok (.iadd, 1) := by decide +kernel
theorem dL_acts_457 : decode cL_acts 457 = .ok (.invokestatic 79, 3) := by decide +kernel
theorem dL_acts_460 : decode cL_acts 460 = .ok (.ireturn, 1) := by decide +kernel
theorem dL_acts_461 : decode cL_acts 461 = .ok (.iload 8, 2) := by decide +kernel
theorem dL_acts_463 : decode cL_acts 463 = .ok (.bipush 15, 2) := by decide +kernel
theorem dL_acts_465 : decode cL_acts 465 = .ok (.ishr, 1) := by decide +kernel
theorem dL_acts_466 : decode cL_acts 466 = .ok (.iconst 2, 1) := by decide +kernel
theorem dL_acts_467 : decode cL_acts 467 = .ok (.invokestatic 61, 3) := by decide +kernel
theorem dL_acts_470 : decode cL_acts 470 = .ok (.ifCond .ne 8, 3) := by decide +kernel
theorem dL_acts_473 : decode cL_acts 473 = .ok (.aload 4, 2) := by decide +kernel
theorem dL_acts_475 : decode cL_acts 475 = .ok (.goto 5, 3) := by decide +kernel
theorem dL_acts_478 : decode cL_acts 478 = .ok (.aload 5, 2) := by decide +kernel
theorem dL_acts_480 : decode cL_acts 480 = .ok (.astore 15, 2) := by decide +kernel
theorem dL_acts_482 : decode cL_acts 482 = .ok (.aload 15, 2) := by decide +kernel
theorem dL_acts_484 : decode cL_acts 484 = .ok (.aload 4, 2) := by decide +kernel
theorem dL_acts_486 : decode cL_acts 486 = .ok (.if_acmp .ne 7, 3) := by decide +kernel
theorem dL_acts_489 : decode cL_acts 489 = .ok (.iconst 0, 1) := by decide +kernel
theorem dL_acts_490 : decode cL_acts 490 = .ok (.goto 4, 3) := by decide +kernel
theorem dL_acts_493 : decode cL_acts 493 = .ok (.iconst 1, 1) := by decide +kernel
theorem dL_acts_494 : decode cL_acts 494 = .ok (.istore 16, 2) := by decide +kernel
theorem dL_acts_496 : decode cL_acts 496 = .ok (.iload 9, 2) := by decide +kernel
theorem dL_acts_498 : decode cL_acts 498 = .ok (.ifCond .eq 16, 3) := by decide +kernel
theorem dL_acts_501 : decode cL_acts 501 = .ok (.aload 15, 2) := by decide +kernel
theorem dL_acts_503 : decode cL_acts 503 = .ok (.bipush 13, 2) := by decide +kernel
theorem dL_acts_505 : decode cL_acts 505 = .ok (.iload 9, 2) := by decide +kernel
theorem dL_acts_507 : decode cL_acts 507 = .ok (.iconst 1, 1) := by decide +kernel
theorem dL_acts_508 : decode cL_acts 508 = .ok (.isub, 1) := by decide +kernel
theorem dL_acts_509 : decode cL_acts 509 = .ok (.imul, 1) := by decide +kernel
theorem dL_acts_510 : decode cL_acts 510 = .ok (.iaload, 1) := by decide +kernel
theorem dL_acts_511 : decode cL_acts 511 = .ok (.ifCond .ne 33, 3) := by decide +kernel
theorem dL_acts_514 : decode cL_acts 514 = .ok (.aload_n 0, 1) := by decide +kernel
theorem dL_acts_515 : decode cL_acts 515 = .ok (.iload 9, 2) := by decide +kernel
theorem dL_acts_517 : decode cL_acts 517 = .ok (.iload 16, 2) := by decide +kernel
theorem dL_acts_519 : decode cL_acts 519 = .ok (.iload 11, 2) := by decide +kernel
theorem dL_acts_521 : decode cL_acts 521 = .ok (.invokevirtual 83, 3) := by decide +kernel
theorem dL_acts_524 : decode cL_acts 524 = .ok (.iload 9, 2) := by decide +kernel
theorem dL_acts_526 : decode cL_acts 526 = .ok (.ifCond .ne 7, 3) := by decide +kernel
theorem dL_acts_529 : decode cL_acts 529 = .ok (.iconst (-1), 1) := by decide +kernel
theorem dL_acts_530 : decode cL_acts 530 = .ok (.goto 5, 3) := by decide +kernel
theorem dL_acts_533 : decode cL_acts 533 = .ok (.bipush (-2), 2) := by decide +kernel
theorem dL_acts_535 : decode cL_acts 535 = .ok (.if_icmp .ne 7, 3) := by decide +kernel
theorem dL_acts_538 : decode cL_acts 538 = .ok (.iconst 1, 1) := by decide +kernel
theorem dL_acts_539 : decode cL_acts 539 = .ok (.goto 4, 3) := by decide +kernel
theorem dL_acts_542 : decode cL_acts 542 = .ok (.iconst 0, 1) := by decide +kernel
theorem dL_acts_543 : decode cL_acts 543 = .ok (.ireturn, 1) := by decide +kernel
theorem dL_acts_544 : decode cL_acts 544 = .ok (.iconst 0, 1) := by decide +kernel
theorem dL_acts_545 : decode cL_acts 545 = .ok (.istore 17, 2) := by decide +kernel
theorem dL_acts_547 : decode cL_acts 547 = .ok (.iload 17, 2) := by decide +kernel
theorem dL_acts_549 : decode cL_acts 549 = .ok (.iload 11, 2) := by decide +kernel
theorem dL_acts_551 : decode cL_acts 551 = .ok (.if_icmp .ge 39, 3) := by decide +kernel
theorem dL_acts_554 : decode cL_acts 554 = .ok (.aload 15, 2) := by decide +kernel
theorem dL_acts_556 : decode cL_acts 556 = .ok (.bipush 13, 2) := by decide +kernel
theorem dL_acts_558 : decode cL_acts 558 = .ok (.iload 9, 2) := by decide +kernel
theorem dL_acts_560 : decode cL_acts 560 = .ok (.iconst 1, 1) := by decide +kernel
theorem dL_acts_561 : decode cL_acts 561 = .ok (.isub, 1) := by decide +kernel
theorem dL_acts_562 : decode cL_acts 562 = .ok (.imul, 1) := by decide +kernel
theorem dL_acts_563 : decode cL_acts 563 = .ok (.iaload, 1) := by decide +kernel
theorem dL_acts_564 : decode cL_acts 564 = .ok (.ifCond .le 26, 3) := by decide +kernel
theorem dL_acts_567 : decode cL_acts 567 = .ok (.iload 17, 2) := by decide +kernel
theorem dL_acts_569 : decode cL_acts 569 = .ok (.aload 15, 2) := by decide +kernel
theorem dL_acts_571 : decode cL_acts 571 = .ok (.iload 9, 2) := by decide +kernel
theorem dL_acts_573 : decode cL_acts 573 = .ok (.invokestatic 86, 3) := by decide +kernel
theorem dL_acts_576 : decode cL_acts 576 = .ok (.ifCond .le 7, 3) := by decide +kernel
theorem dL_acts_579 : decode cL_acts 579 = .ok (.iconst 1, 1) := by decide +kernel
theorem dL_acts_580 : decode cL_acts 580 = .ok (.goto 4, 3) := by decide +kernel
theorem dL_acts_583 : decode cL_acts 583 = .ok (.iconst 0, 1) := by decide +kernel
theorem dL_acts_584 : decode cL_acts 584 = .ok (.iadd, 1) := by decide +kernel
theorem dL_acts_585 : decode cL_acts 585 = .ok (.istore 17, 2) := by decide +kernel
theorem dL_acts_587 : decode cL_acts 587 = .ok (.goto (-40), 3) := by decide +kernel
theorem dL_acts_590 : decode cL_acts 590 = .ok (.aload_n 1, 1) := by decide +kernel
theorem dL_acts_591 : decode cL_acts 591 = .ok (.iconst 5, 1) := by decide +kernel
theorem dL_acts_592 : decode cL_acts 592 = .ok (.dup2, 1) := by decide +kernel
theorem dL_acts_593 : decode cL_acts 593 = .ok (.iaload, 1) := by decide +kernel
theorem dL_acts_594 : decode cL_acts 594 = .ok (.iload 17, 2) := by decide +kernel
theorem dL_acts_596 : decode cL_acts 596 = .ok (.iadd, 1) := by decide +kernel
theorem dL_acts_597 : decode cL_acts 597 = .ok (.iastore, 1) := by decide +kernel
theorem dL_acts_598 : decode cL_acts 598 = .ok (.aload_n 0, 1) := by decide +kernel
theorem dL_acts_599 : decode cL_acts 599 = .ok (.iload 9, 2) := by decide +kernel
theorem dL_acts_601 : decode cL_acts 601 = .ok (.iload 16, 2) := by decide +kernel
theorem dL_acts_603 : decode cL_acts 603 = .ok (.iload 11, 2) := by decide +kernel
theorem dL_acts_605 : decode cL_acts 605 = .ok (.invokevirtual 83, 3) := by decide +kernel
theorem dL_acts_608 : decode cL_acts 608 = .ok (.iload 17, 2) := by decide +kernel
theorem dL_acts_610 : decode cL_acts 610 = .ok (.if_icmp .ne 7, 3) := by decide +kernel
theorem dL_acts_613 : decode cL_acts 613 = .ok (.iconst 1, 1) := by decide +kernel
theorem dL_acts_614 : decode cL_acts 614 = .ok (.goto 4, 3) := by decide +kernel
theorem dL_acts_617 : decode cL_acts 617 = .ok (.iconst 0, 1) := by decide +kernel
theorem dL_acts_618 : decode cL_acts 618 = .ok (.ireturn, 1) := by decide +kernel
theorem dL_acts_619 : decode cL_acts 619 = .ok (.iload 8, 2) := by decide +kernel
theorem dL_acts_621 : decode cL_acts 621 = .ok (.bipush 15, 2) := by decide +kernel
theorem dL_acts_623 : decode cL_acts 623 = .ok (.ishr, 1) := by decide +kernel
theorem dL_acts_624 : decode cL_acts 624 = .ok (.iconst 2, 1) := by decide +kernel
theorem dL_acts_625 : decode cL_acts 625 = .ok (.invokestatic 61, 3) := by decide +kernel
theorem dL_acts_628 : decode cL_acts 628 = .ok (.ifCond .ne 8, 3) := by decide +kernel
theorem dL_acts_631 : decode cL_acts 631 = .ok (.aload 4, 2) := by decide +kernel
theorem dL_acts_633 : decode cL_acts 633 = .ok (.goto 5, 3) := by decide +kernel
theorem dL_acts_636 : decode cL_acts 636 = .ok (.aload 5, 2) := by decide +kernel
theorem dL_acts_638 : decode cL_acts 638 = .ok (.astore 18, 2) := by decide +kernel
theorem dL_acts_640 : decode cL_acts 640 = .ok (.aload 18, 2) := by decide +kernel
theorem dL_acts_642 : decode cL_acts 642 = .ok (.aload 4, 2) := by decide +kernel
theorem dL_acts_644 : decode cL_acts 644 = .ok (.if_acmp .ne 7, 3) := by decide +kernel
theorem dL_acts_647 : decode cL_acts 647 = .ok (.iconst 0, 1) := by decide +kernel
theorem dL_acts_648 : decode cL_acts 648 = .ok (.goto 4, 3) := by decide +kernel
theorem dL_acts_651 : decode cL_acts 651 = .ok (.iconst 1, 1) := by decide +kernel
theorem dL_acts_652 : decode cL_acts 652 = .ok (.istore 19, 2) := by decide +kernel
theorem dL_acts_654 : decode cL_acts 654 = .ok (.iload 9, 2) := by decide +kernel
theorem dL_acts_656 : decode cL_acts 656 = .ok (.ifCond .eq 16, 3) := by decide +kernel
theorem dL_acts_659 : decode cL_acts 659 = .ok (.aload 18, 2) := by decide +kernel
theorem dL_acts_661 : decode cL_acts 661 = .ok (.bipush 13, 2) := by decide +kernel
theorem dL_acts_663 : decode cL_acts 663 = .ok (.iload 9, 2) := by decide +kernel
theorem dL_acts_665 : decode cL_acts 665 = .ok (.iconst 1, 1) := by decide +kernel
theorem dL_acts_666 : decode cL_acts 666 = .ok (.isub, 1) := by decide +kernel
theorem dL_acts_667 : decode cL_acts 667 = .ok (.imul, 1) := by decide +kernel
theorem dL_acts_668 : decode cL_acts 668 = .ok (.iaload, 1) := by decide +kernel
theorem dL_acts_669 : decode cL_acts 669 = .ok (.ifCond .ne 33, 3) := by decide +kernel
theorem dL_acts_672 : decode cL_acts 672 = .ok (.aload_n 0, 1) := by decide +kernel
theorem dL_acts_673 : decode cL_acts 673 = .ok (.iload 9, 2) := by decide +kernel
theorem dL_acts_675 : decode cL_acts 675 = .ok (.iload 19, 2) := by decide +kernel
theorem dL_acts_677 : decode cL_acts 677 = .ok (.iload 11, 2) := by decide +kernel
theorem dL_acts_679 : decode cL_acts 679 = .ok (.invokevirtual 89, 3) := by decide +kernel
theorem dL_acts_682 : decode cL_acts 682 = .ok (.iload 9, 2) := by decide +kernel
theorem dL_acts_684 : decode cL_acts 684 = .ok (.ifCond .ne 7, 3) := by decide +kernel
theorem dL_acts_687 : decode cL_acts 687 = .ok (.iconst (-1), 1) := by decide +kernel
theorem dL_acts_688 : decode cL_acts 688 = .ok (.goto 5, 3) := by decide +kernel
theorem dL_acts_691 : decode cL_acts 691 = .ok (.bipush (-2), 2) := by decide +kernel
theorem dL_acts_693 : decode cL_acts 693 = .ok (.if_icmp .ne 7, 3) := by decide +kernel
theorem dL_acts_696 : decode cL_acts 696 = .ok (.iconst 1, 1) := by decide +kernel
theorem dL_acts_697 : decode cL_acts 697 = .ok (.goto 4, 3) := by decide +kernel
theorem dL_acts_700 : decode cL_acts 700 = .ok (.iconst 0, 1) := by decide +kernel
theorem dL_acts_701 : decode cL_acts 701 = .ok (.ireturn, 1) := by decide +kernel
theorem dL_acts_702 : decode cL_acts 702 = .ok (.iconst 0, 1) := by decide +kernel
theorem dL_acts_703 : decode cL_acts 703 = .ok (.istore 20, 2) := by decide +kernel
theorem dL_acts_705 : decode cL_acts 705 = .ok (.iconst 0, 1) := by decide +kernel
theorem dL_acts_706 : decode cL_acts 706 = .ok (.istore 21, 2) := by decide +kernel
theorem dL_acts_708 : decode cL_acts 708 = .ok (.iload 21, 2) := by decide +kernel
theorem dL_acts_710 : decode cL_acts 710 = .ok (.iload 11, 2) := by decide +kernel
theorem dL_acts_712 : decode cL_acts 712 = .ok (.if_icmp .ge 98, 3) := by decide +kernel
theorem dL_acts_715 : decode cL_acts 715 = .ok (.aload 18, 2) := by decide +kernel
theorem dL_acts_717 : decode cL_acts 717 = .ok (.bipush 13, 2) := by decide +kernel
theorem dL_acts_719 : decode cL_acts 719 = .ok (.iload 9, 2) := by decide +kernel
theorem dL_acts_721 : decode cL_acts 721 = .ok (.iconst 1, 1) := by decide +kernel
theorem dL_acts_722 : decode cL_acts 722 = .ok (.isub, 1) := by decide +kernel
theorem dL_acts_723 : decode cL_acts 723 = .ok (.imul, 1) := by decide +kernel
theorem dL_acts_724 : decode cL_acts 724 = .ok (.iaload, 1) := by decide +kernel
theorem dL_acts_725 : decode cL_acts 725 = .ok (.ifCond .le 85, 3) := by decide +kernel
theorem dL_acts_728 : decode cL_acts 728 = .ok (.aload 18, 2) := by decide +kernel
theorem dL_acts_730 : decode cL_acts 730 = .ok (.iload 9, 2) := by decide +kernel
theorem dL_acts_732 : decode cL_acts 732 = .ok (.invokestatic 86, 3) := by decide +kernel
theorem dL_acts_735 : decode cL_acts 735 = .ok (.istore 22, 2) := by decide +kernel
theorem dL_acts_737 : decode cL_acts 737 = .ok (.iload 19, 2) := by decide +kernel
theorem dL_acts_739 : decode cL_acts 739 = .ok (.ifCond .ne 13, 3) := by decide +kernel
theorem dL_acts_742 : decode cL_acts 742 = .ok (.aload_n 1, 1) := by decide +kernel
theorem dL_acts_743 : decode cL_acts 743 = .ok (.bipush 8, 2) := by decide +kernel
theorem dL_acts_745 : decode cL_acts 745 = .ok (.iload 9, 2) := by decide +kernel
theorem dL_acts_747 : decode cL_acts 747 = .ok (.iadd, 1) := by decide +kernel
theorem dL_acts_748 : decode cL_acts 748 = .ok (.iaload, 1) := by decide +kernel
theorem dL_acts_749 : decode cL_acts 749 = .ok (.goto 5, 3) := by decide +kernel
theorem dL_acts_752 : decode cL_acts 752 = .ok (.iload 9, 2) := by decide +kernel
theorem dL_acts_754 : decode cL_acts 754 = .ok (.istore 23, 2) := by decide +kernel
theorem dL_acts_756 : decode cL_acts 756 = .ok (.iload 20, 2) := by decide +kernel
theorem dL_acts_758 : decode cL_acts 758 = .ok (.aload_n 1, 1) := by decide +kernel
theorem dL_acts_759 : decode cL_acts 759 = .ok (.aload_n 2, 1) := by decide +kernel
theorem dL_acts_760 : decode cL_acts 760 = .ok (.aload_n 3, 1) := by decide +kernel
theorem dL_acts_761 : decode cL_acts 761 = .ok (.aload 4, 2) := by decide +kernel
theorem dL_acts_763 : decode cL_acts 763 = .ok (.aload 5, 2) := by decide +kernel
theorem dL_acts_765 : decode cL_acts 765 = .ok (.aload 6, 2) := by decide +kernel
theorem dL_acts_767 : decode cL_acts 767 = .ok (.aload 7, 2) := by decide +kernel
theorem dL_acts_769 : decode cL_acts 769 = .ok (.iload 23, 2) := by decide +kernel
theorem dL_acts_771 : decode cL_acts 771 = .ok (.iload 22, 2) := by decide +kernel
theorem dL_acts_773 : decode cL_acts 773 = .ok (.iload 19, 2) := by decide +kernel
theorem dL_acts_775 : decode cL_acts 775 = .ok (.ifCond .ne 8, 3) := by decide +kernel
theorem dL_acts_778 : decode cL_acts 778 = .ok (.iload 9, 2) := by decide +kernel
theorem dL_acts_780 : decode cL_acts 780 = .ok (.goto 10, 3) := by decide +kernel
theorem dL_acts_783 : decode cL_acts 783 = .ok (.aload_n 1, 1) := by decide +kernel
theorem dL_acts_784 : decode cL_acts 784 = .ok (.bipush 8, 2) := by decide +kernel
theorem dL_acts_786 : decode cL_acts 786 = .ok (.iload 9, 2) := by decide +kernel
theorem dL_acts_788 : decode cL_acts 788 = .ok (.iadd, 1) := by decide +kernel
theorem dL_acts_789 : decode cL_acts 789 = .ok (.iaload, 1) := by decide +kernel
theorem dL_acts_790 : decode cL_acts 790 = .ok (.invokestatic 57, 3) := by decide +kernel
theorem dL_acts_793 : decode cL_acts 793 = .ok (.ifCond .le 7, 3) := by decide +kernel
theorem dL_acts_796 : decode cL_acts 796 = .ok (.iconst 1, 1) := by decide +kernel
theorem dL_acts_797 : decode cL_acts 797 = .ok (.goto 4, 3) := by decide +kernel
theorem dL_acts_800 : decode cL_acts 800 = .ok (.iconst 0, 1) := by decide +kernel
theorem dL_acts_801 : decode cL_acts 801 = .ok (.iadd, 1) := by decide +kernel
theorem dL_acts_802 : decode cL_acts 802 = .ok (.istore 20, 2) := by decide +kernel
theorem dL_acts_804 : decode cL_acts 804 = .ok (.iinc 21 1, 3) := by decide +kernel
theorem dL_acts_807 : decode cL_acts 807 = .ok (.goto (-99), 3) := by decide +kernel
theorem dL_acts_810 : decode cL_acts 810 = .ok (.aload_n 0, 1) := by decide +kernel
theorem dL_acts_811 : decode cL_acts 811 = .ok (.iload 9, 2) := by decide +kernel
theorem dL_acts_813 : decode cL_acts 813 = .ok (.iload 19, 2) := by decide +kernel
theorem dL_acts_815 : decode cL_acts 815 = .ok (.iload 11, 2) := by decide +kernel
theorem dL_acts_817 : decode cL_acts 817 = .ok (.invokevirtual 89, 3) := by decide +kernel
theorem dL_acts_820 : decode cL_acts 820 = .ok (.iload 20, 2) := by decide +kernel
theorem dL_acts_822 : decode cL_acts 822 = .ok (.if_icmp .ne 7, 3) := by decide +kernel
theorem dL_acts_825 : decode cL_acts 825 = .ok (.iconst 1, 1) := by decide +kernel
theorem dL_acts_826 : decode cL_acts 826 = .ok (.goto 4, 3) := by decide +kernel
theorem dL_acts_829 : decode cL_acts 829 = .ok (.iconst 0, 1) := by decide +kernel
theorem dL_acts_830 : decode cL_acts 830 = .ok (.ireturn, 1) := by decide +kernel
theorem dL_has_0 : decode cL_has 0 = .ok (.iconst 0, 1) := by decide +kernel
theorem dL_has_1 : decode cL_has 1 = .ok (.istore 4, 2) := by decide +kernel
theorem dL_has_3 : decode cL_has 3 = .ok (.iload_n 2, 1) := by decide +kernel
theorem dL_has_4 : decode cL_has 4 = .ok (.ifCond .ne 9, 3) := by decide +kernel
theorem dL_has_7 : decode cL_has 7 = .ok (.aload_n 1, 1) := by decide +kernel
theorem dL_has_8 : decode cL_has 8 = .ok (.iconst 0, 1) := by decide +kernel
theorem dL_has_9 : decode cL_has 9 = .ok (.iaload, 1) := by decide +kernel
theorem dL_has_10 : decode cL_has 10 = .ok (.goto 11, 3) := by decide +kernel
theorem dL_has_13 : decode cL_has 13 = .ok (.aload_n 0, 1) := by decide +kernel
theorem dL_has_14 : decode cL_has 14 = .ok (.bipush 13, 2) := by decide +kernel
theorem dL_has_16 : decode cL_has 16 = .ok (.iload_n 2, 1) := by decide +kernel
theorem dL_has_17 : decode cL_has 17 = .ok (.iconst 1, 1) := by decide +kernel
theorem dL_has_18 : decode cL_has 18 = .ok (.isub, 1) := by decide +kernel
theorem dL_has_19 : decode cL_has 19 = .ok (.imul, 1) := by decide +kernel
theorem dL_has_20 : decode cL_has 20 = .ok (.iaload, 1) := by decide +kernel
theorem dL_has_21 : decode cL_has 21 = .ok (.istore 5, 2) := by decide +kernel
theorem dL_has_23 : decode cL_has 23 = .ok (.iconst 1, 1) := by decide +kernel
theorem dL_has_24 : decode cL_has 24 = .ok (.istore 6, 2) := by decide +kernel
theorem dL_has_26 : decode cL_has 26 = .ok (.iload 6, 2) := by decide +kernel
theorem dL_has_28 : decode cL_has 28 = .ok (.iload 5, 2) := by decide +kernel
theorem dL_has_30 : decode cL_has 30 = .ok (.if_icmp .gt 47, 3) := by decide +kernel
theorem dL_has_33 : decode cL_has 33 = .ok (.iload 4, 2) := by decide +kernel
theorem dL_has_35 : decode cL_has 35 = .ok (.ifCond .ne 29, 3) := by decide +kernel
theorem dL_has_38 : decode cL_has 38 = .ok (.iload_n 2, 1) := by decide +kernel
theorem dL_has_39 : decode cL_has 39 = .ok (.ifCond .ne 10, 3) := by decide +kernel
theorem dL_has_42 : decode cL_has 42 = .ok (.aload_n 1, 1) := by decide +kernel
theorem dL_has_43 : decode cL_has 43 = .ok (.iload 6, 2) := by decide +kernel
theorem dL_has_45 : decode cL_has 45 = .ok (.iaload, 1) := by decide +kernel
theorem dL_has_46 : decode cL_has 46 = .ok (.goto 14, 3) := by decide +kernel
theorem dL_has_49 : decode cL_has 49 = .ok (.aload_n 0, 1) := by decide +kernel
theorem dL_has_50 : decode cL_has 50 = .ok (.bipush 13, 2) := by decide +kernel
theorem dL_has_52 : decode cL_has 52 = .ok (.iload_n 2, 1) := by decide +kernel
theorem dL_has_53 : decode cL_has 53 = .ok (.iconst 1, 1) := by decide +kernel
theorem dL_has_54 : decode cL_has 54 = .ok (.isub, 1) := by decide +kernel
theorem dL_has_55 : decode cL_has 55 = .ok (.imul, 1) := by decide +kernel
theorem dL_has_56 : decode cL_has 56 = .ok (.iload 6, 2) := by decide +kernel
theorem dL_has_58 : decode cL_has 58 = .ok (.iadd, 1) := by decide +kernel
theorem dL_has_59 : decode cL_has 59 = .ok (.iaload, 1) := by decide +kernel
theorem dL_has_60 : decode cL_has 60 = .ok (.iload_n 3, 1) := by decide +kernel
theorem dL_has_61 : decode cL_has 61 = .ok (.if_icmp .ne 7, 3) := by decide +kernel
theorem dL_has_64 : decode cL_has 64 = .ok (.iconst 1, 1) := by decide +kernel
theorem dL_has_65 : decode cL_has 65 = .ok (.goto 4, 3) := by decide +kernel
theorem dL_has_68 : decode cL_has 68 = .ok (.iconst 0, 1) := by decide +kernel
theorem dL_has_69 : decode cL_has 69 = .ok (.istore 4, 2) := by decide +kernel
theorem dL_has_71 : decode cL_has 71 = .ok (.iinc 6 1, 3) := by decide +kernel
theorem dL_has_74 : decode cL_has 74 = .ok (.goto (-48), 3) := by decide +kernel
theorem dL_has_77 : decode cL_has 77 = .ok (.iload 4, 2) := by decide +kernel
theorem dL_has_79 : decode cL_has 79 = .ok (.ireturn, 1) := by decide +kernel
set_option maxRecDepth 20000 in
theorem ggL_isRead_X7_read : GoodIn wsL_isRead wsX7_read := goodIn_r _ [6, 7, 8, 9, 10, 11, 12, 13, 14, 15, 16, 17, 18, 19, 20, 21, 22, 23, 24, 25, 26, 27, 28, 29, 30, 31, 32, 33, 34, 35, 36, 37, 38, 39, 40, 41, 42, 43, 44, 45, 46, 47, 48, 49, 50, 51, 52, 53, 54, 55, 56, 57, 58, 59, 60, 61, 62, 63, 64, 65, 66, 67, 68, 69, 70, 71, 72, 5, 73, 74, 75, 76, 77, 78, 79, 80, 81, 82, 83, 84, 85, 86, 87, 88, 89, 90, 91, 92, 93, 94, 95, 96, 97, 98, 99, 100, 101, 102, 103, 104, 105, 106, 107, 108, 109, 110, 111, 112, 113, 114, 115, 116, 117, 118, 119, 120, 121, 122, 123, 124, 125, 126, 127, 128, 129, 130, 131, 132, 133, 134, 135, 136, 137, 138, 139, 140, 141, 142, 143, 144, 145, 146, 147, 148, 149, 150, 151, 152, 153, 154, 155, 156, 157, 158, 159, 160, 161, 162, 163, 164, 165, 166, 167, 168, 169, 226, 227, 228, 229, 230, 231, 232, 233, 234, 235, 236, 237, 238, 239, 240, 241, 242, 243, 244, 245, 246, 247, 248, 249, 250, 251, 252, 253, 254, 255, 256, 257, 258] (by decide +kernel) (by decide +kernel)
set_option maxRecDepth 20000 in
theorem gL_isRead_X7_read : GoodIn wsL_isRead (wsV RL 92 RX7 yX7_read wsX7_read) := goodIn_app (goodIn_of _ (by decide +kernel)) ggL_isRead_X7_read
set_option maxRecDepth 20000 in
theorem ggL_isRead_X7_status : GoodIn wsL_isRead wsX7_status := goodIn_r _ [173, 8, 174, 175, 65, 66, 24, 67, 26, 176, 69, 70, 71, 72, 5, 73, 74, 75, 76, 77, 39, 177, 178, 179, 180, 181, 90, 91, 92, 40, 182, 183, 95, 184, 185, 79, 80, 81, 82, 83, 84, 85, 86, 87, 88, 89, 93, 94, 96, 97, 98, 99, 100, 41, 101, 102, 103, 104, 186, 105, 106, 187, 112, 113, 114, 115, 116, 117, 118, 42, 119, 120, 121, 122, 123, 48, 124, 56, 50, 226, 227, 228, 229, 230, 231, 235, 236, 237, 238, 239, 240, 241, 242, 243, 244, 245, 246, 247, 248, 249, 250, 256, 257, 258, 251, 252] (by decide +kernel) (by decide +kernel)
set_option maxRecDepth 20000 in
theorem gL_isRead_X7_status : GoodIn wsL_isRead (wsV RL 37 RX7 yX7_status wsX7_status) := goodIn_app (goodIn_of _ (by decide +kernel)) ggL_isRead_X7_status
set_option maxRecDepth 20000 in
theorem ggL_isRead_X7_missing : GoodIn wsL_isRead wsX7_missing := goodIn_r _ [191, 8, 174, 175, 65, 66, 24, 67, 26, 176, 69, 70, 71, 72, 5, 73, 74, 75, 76, 77, 39, 192, 193, 194, 81, 195, 196, 88, 197, 198, 199, 200, 201, 202, 203, 204, 205, 206, 207, 208, 41, 209, 178, 179, 180, 181, 90, 91, 92, 40, 182, 183, 95, 184, 226, 227, 228, 229, 230, 231, 235, 236, 237, 238, 239, 240, 241, 242, 243, 244, 245, 246, 247, 248, 249, 250, 256, 257, 258] (by decide +kernel) (by decide +kernel)
set_option maxRecDepth 20000 in
theorem gL_isRead_X7_missing : GoodIn wsL_isRead (wsV RL 95 RX7 yX7_missing wsX7_missing) := goodIn_app (goodIn_of _ (by decide +kernel)) ggL_isRead_X7_missing
set_option maxRecDepth 20000 in
theorem ggL_isRead_X7_cause : GoodIn wsL_isRead wsX7_cause := goodIn_r _ [213, 8, 214, 72, 5, 73, 176, 69, 70, 24, 71, 74, 75, 76, 77, 39, 215, 206, 207, 208, 41, 226, 227, 228, 229, 230, 231, 235, 236, 237, 238, 239, 240, 241, 242, 243, 244, 245, 246, 247, 248, 249, 250] (by decide +kernel) (by decide +kernel)
set_option maxRecDepth 20000 in
theorem gL_isRead_X7_cause : GoodIn wsL_isRead (wsV RL 70 RX7 yX7_cause wsX7_cause) := goodIn_app (goodIn_of _ (by decide +kernel)) ggL_isRead_X7_cause
set_option maxRecDepth 20000 in
theorem ggL_isRead_L_serve : GoodIn wsL_isRead wsL_serve := goodIn_r _ [219] (by decide +kernel) (by decide +kernel)
set_option maxRecDepth 20000 in
theorem gL_isRead_L_serve : GoodIn wsL_isRead (va_wsS RL 9 yL_serve wsL_serve) := goodIn_app (goodIn_of _ (by decide +kernel)) ggL_isRead_L_serve
set_option maxRecDepth 20000 in
theorem ggL_isRead_L_has : GoodIn wsL_isRead wsL_has := goodIn_r _ [222] (by decide +kernel) (by decide +kernel)
set_option maxRecDepth 20000 in
theorem gL_isRead_L_has : GoodIn wsL_isRead (va_wsS RL 98 yL_has wsL_has) := goodIn_app (goodIn_of _ (by decide +kernel)) ggL_isRead_L_has
set_option maxRecDepth 20000 in
theorem ggL_isRead_L_keep : GoodIn wsL_isRead wsL_keep := goodIn_r _ [225, 1, 216, 217, 218, 219] (by decide +kernel) (by decide +kernel)
set_option maxRecDepth 20000 in
theorem gL_isRead_L_keep : GoodIn wsL_isRead (va_wsS RL 19 yL_keep wsL_keep) := goodIn_app (goodIn_of _ (by decide +kernel)) ggL_isRead_L_keep
theorem dL_isRead_0 : decode cL_isRead 0 = .ok (.iconst 4, 1) := by decide +kernel
theorem dL_isRead_1 : decode cL_isRead 1 = .ok (.newarray .int, 2) := by decide +kernel
theorem dL_isRead_3 : decode cL_isRead 3 = .ok (.astore 9, 2) := by decide +kernel
theorem dL_isRead_5 : decode cL_isRead 5 = .ok (.iload 8, 2) := by decide +kernel
theorem dL_isRead_7 : decode cL_isRead 7 = .ok (.aload_n 1, 1) := by decide +kernel
theorem dL_isRead_8 : decode cL_isRead 8 = .ok (.bipush 20, 2) := by decide +kernel
theorem dL_isRead_10 : decode cL_isRead 10 = .ok (.iload 7, 2) := by decide +kernel
theorem dL_isRead_12 : decode cL_isRead 12 = .ok (.iadd, 1) := by decide +kernel
theorem dL_isRead_13 : decode cL_isRead 13 = .ok (.iaload, 1) := by decide +kernel
theorem dL_isRead_14 : decode cL_isRead 14 = .ok (.if_icmp .le 64, 3) := by decide +kernel
theorem dL_isRead_17 : decode cL_isRead 17 = .ok (.aload_n 0, 1) := by decide +kernel
theorem dL_isRead_18 : decode cL_isRead 18 = .ok (.iload 6, 2) := by decide +kernel
theorem dL_isRead_20 : decode cL_isRead 20 = .ok (.iload 7, 2) := by decide +kernel
theorem dL_isRead_22 : decode cL_isRead 22 = .ok (.iload 8, 2) := by decide +kernel
theorem dL_isRead_24 : decode cL_isRead 24 = .ok (.invokevirtual 92, 3) := by decide +kernel
theorem dL_isRead_27 : decode cL_isRead 27 = .ok (.iconst (-1), 1) := by decide +kernel
theorem dL_isRead_28 : decode cL_isRead 28 = .ok (.if_icmp .ne 48, 3) := by decide +kernel
theorem dL_isRead_31 : decode cL_isRead 31 = .ok (.aload_n 0, 1) := by decide +kernel
theorem dL_isRead_32 : decode cL_isRead 32 = .ok (.iload 6, 2) := by decide +kernel
theorem dL_isRead_34 : decode cL_isRead 34 = .ok (.iload 7, 2) := by decide +kernel
theorem dL_isRead_36 : decode cL_isRead 36 = .ok (.iload 8, 2) := by decide +kernel
theorem dL_isRead_38 : decode cL_isRead 38 = .ok (.invokevirtual 37, 3) := by decide +kernel
theorem dL_isRead_41 : decode cL_isRead 41 = .ok (.iconst (-1), 1) := by decide +kernel
theorem dL_isRead_42 : decode cL_isRead 42 = .ok (.if_icmp .ne 34, 3) := by decide +kernel
theorem dL_isRead_45 : decode cL_isRead 45 = .ok (.aload_n 0, 1) := by decide +kernel
theorem dL_isRead_46 : decode cL_isRead 46 = .ok (.iload 6, 2) := by decide +kernel
theorem dL_isRead_48 : decode cL_isRead 48 = .ok (.iload 7, 2) := by decide +kernel
theorem dL_isRead_50 : decode cL_isRead 50 = .ok (.iload 8, 2) := by decide +kernel
theorem dL_isRead_52 : decode cL_isRead 52 = .ok (.invokevirtual 95, 3) := by decide +kernel
theorem dL_isRead_55 : decode cL_isRead 55 = .ok (.iconst (-1), 1) := by decide +kernel
theorem dL_isRead_56 : decode cL_isRead 56 = .ok (.if_icmp .ne 20, 3) := by decide +kernel
theorem dL_isRead_59 : decode cL_isRead 59 = .ok (.aload_n 0, 1) := by decide +kernel
theorem dL_isRead_60 : decode cL_isRead 60 = .ok (.iload 7, 2) := by decide +kernel
theorem dL_isRead_62 : decode cL_isRead 62 = .ok (.iload 8, 2) := by decide +kernel
theorem dL_isRead_64 : decode cL_isRead 64 = .ok (.iconst 0, 1) := by decide +kernel
theorem dL_isRead_65 : decode cL_isRead 65 = .ok (.invokevirtual 70, 3) := by decide +kernel
theorem dL_isRead_68 : decode cL_isRead 68 = .ok (.iconst (-1), 1) := by decide +kernel
theorem dL_isRead_69 : decode cL_isRead 69 = .ok (.if_icmp .ne 7, 3) := by decide +kernel
theorem dL_isRead_72 : decode cL_isRead 72 = .ok (.iconst 1, 1) := by decide +kernel
theorem dL_isRead_73 : decode cL_isRead 73 = .ok (.goto 4, 3) := by decide +kernel
theorem dL_isRead_76 : decode cL_isRead 76 = .ok (.iconst 0, 1) := by decide +kernel
theorem dL_isRead_77 : decode cL_isRead 77 = .ok (.ireturn, 1) := by decide +kernel
theorem dL_isRead_78 : decode cL_isRead 78 = .ok (.aload_n 2, 1) := by decide +kernel
theorem dL_isRead_79 : decode cL_isRead 79 = .ok (.aload_n 3, 1) := by decide +kernel
theorem dL_isRead_80 : decode cL_isRead 80 = .ok (.iload 6, 2) := by decide +kernel
theorem dL_isRead_82 : decode cL_isRead 82 = .ok (.aload 9, 2) := by decide +kernel
theorem dL_isRead_84 : decode cL_isRead 84 = .ok (.invokestatic 9, 3) := by decide +kernel
theorem dL_isRead_87 : decode cL_isRead 87 = .ok (.iload 8, 2) := by decide +kernel
theorem dL_isRead_89 : decode cL_isRead 89 = .ok (.aload 9, 2) := by decide +kernel
theorem dL_isRead_91 : decode cL_isRead 91 = .ok (.iload 7, 2) := by decide +kernel
theorem dL_isRead_93 : decode cL_isRead 93 = .ok (.iaload, 1) := by decide +kernel
theorem dL_isRead_94 : decode cL_isRead 94 = .ok (.if_icmp .le 24, 3) := by decide +kernel
theorem dL_isRead_97 : decode cL_isRead 97 = .ok (.aload_n 0, 1) := by decide +kernel
theorem dL_isRead_98 : decode cL_isRead 98 = .ok (.iload 6, 2) := by decide +kernel
theorem dL_isRead_100 : decode cL_isRead 100 = .ok (.iload 7, 2) := by decide +kernel
theorem dL_isRead_102 : decode cL_isRead 102 = .ok (.iload 8, 2) := by decide +kernel
theorem dL_isRead_104 : decode cL_isRead 104 = .ok (.invokevirtual 92, 3) := by decide +kernel
theorem dL_isRead_107 : decode cL_isRead 107 = .ok (.bipush (-2), 2) := by decide +kernel
theorem dL_isRead_109 : decode cL_isRead 109 = .ok (.if_icmp .ne 7, 3) := by decide +kernel
theorem dL_isRead_112 : decode cL_isRead 112 = .ok (.iconst 1, 1) := by decide +kernel
theorem dL_isRead_113 : decode cL_isRead 113 = .ok (.goto 4, 3) := by decide +kernel
theorem dL_isRead_116 : decode cL_isRead 116 = .ok (.iconst 0, 1) := by decide +kernel
theorem dL_isRead_117 : decode cL_isRead 117 = .ok (.ireturn, 1) := by decide +kernel
theorem dL_isRead_118 : decode cL_isRead 118 = .ok (.iconst 0, 1) := by decide +kernel
theorem dL_isRead_119 : decode cL_isRead 119 = .ok (.istore 10, 2) := by decide +kernel
theorem dL_isRead_121 : decode cL_isRead 121 = .ok (.iload 6, 2) := by decide +kernel
theorem dL_isRead_123 : decode cL_isRead 123 = .ok (.istore 11, 2) := by decide +kernel
theorem dL_isRead_125 : decode cL_isRead 125 = .ok (.iload 11, 2) := by decide +kernel
theorem dL_isRead_127 : decode cL_isRead 127 = .ok (.ifCond .le 38, 3) := by decide +kernel
theorem dL_isRead_130 : decode cL_isRead 130 = .ok (.aload 4, 2) := by decide +kernel
theorem dL_isRead_132 : decode cL_isRead 132 = .ok (.aload 5, 2) := by decide +kernel
theorem dL_isRead_134 : decode cL_isRead 134 = .ok (.iload 11, 2) := by decide +kernel
theorem dL_isRead_136 : decode cL_isRead 136 = .ok (.bipush 16, 2) := by decide +kernel
theorem dL_isRead_138 : decode cL_isRead 138 = .ok (.iload 7, 2) := by decide +kernel
theorem dL_isRead_140 : decode cL_isRead 140 = .ok (.imul, 1) := by decide +kernel
theorem dL_isRead_141 : decode cL_isRead 141 = .ok (.iload 8, 2) := by decide +kernel
theorem dL_isRead_143 : decode cL_isRead 143 = .ok (.iadd, 1) := by decide +kernel
theorem dL_isRead_144 : decode cL_isRead 144 = .ok (.invokestatic 98, 3) := by decide +kernel
theorem dL_isRead_147 : decode cL_isRead 147 = .ok (.ifCond .ne 18, 3) := by decide +kernel
theorem dL_isRead_150 : decode cL_isRead 150 = .ok (.aload_n 1, 1) := by decide +kernel
theorem dL_isRead_151 : decode cL_isRead 151 = .ok (.bipush 8, 2) := by decide +kernel
theorem dL_isRead_153 : decode cL_isRead 153 = .ok (.iload 11, 2) := by decide +kernel
theorem dL_isRead_155 : decode cL_isRead 155 = .ok (.iadd, 1) := by decide +kernel
theorem dL_isRead_156 : decode cL_isRead 156 = .ok (.iaload, 1) := by decide +kernel
theorem dL_isRead_157 : decode cL_isRead 157 = .ok (.istore 11, 2) := by decide +kernel
theorem dL_isRead_159 : decode cL_isRead 159 = .ok (.iinc 10 1, 3) := by decide +kernel
theorem dL_isRead_162 : decode cL_isRead 162 = .ok (.goto (-37), 3) := by decide +kernel
theorem dL_isRead_165 : decode cL_isRead 165 = .ok (.aload 4, 2) := by decide +kernel
theorem dL_isRead_167 : decode cL_isRead 167 = .ok (.aload 5, 2) := by decide +kernel
theorem dL_isRead_169 : decode cL_isRead 169 = .ok (.iload 11, 2) := by decide +kernel
theorem dL_isRead_171 : decode cL_isRead 171 = .ok (.bipush 16, 2) := by decide +kernel
theorem dL_isRead_173 : decode cL_isRead 173 = .ok (.iload 7, 2) := by decide +kernel
theorem dL_isRead_175 : decode cL_isRead 175 = .ok (.imul, 1) := by decide +kernel
theorem dL_isRead_176 : decode cL_isRead 176 = .ok (.iload 8, 2) := by decide +kernel
theorem dL_isRead_178 : decode cL_isRead 178 = .ok (.iadd, 1) := by decide +kernel
theorem dL_isRead_179 : decode cL_isRead 179 = .ok (.invokestatic 98, 3) := by decide +kernel
theorem dL_isRead_182 : decode cL_isRead 182 = .ok (.ifCond .ne 24, 3) := by decide +kernel
theorem dL_isRead_185 : decode cL_isRead 185 = .ok (.aload_n 0, 1) := by decide +kernel
theorem dL_isRead_186 : decode cL_isRead 186 = .ok (.iload 6, 2) := by decide +kernel
theorem dL_isRead_188 : decode cL_isRead 188 = .ok (.iload 7, 2) := by decide +kernel
theorem dL_isRead_190 : decode cL_isRead 190 = .ok (.iload 8, 2) := by decide +kernel
theorem dL_isRead_192 : decode cL_isRead 192 = .ok (.invokevirtual 92, 3) := by decide +kernel
theorem dL_isRead_195 : decode cL_isRead 195 = .ok (.bipush (-9), 2) := by decide +kernel
theorem dL_isRead_197 : decode cL_isRead 197 = .ok (.if_icmp .ne 7, 3) := by decide +kernel
theorem dL_isRead_200 : decode cL_isRead 200 = .ok (.iconst 1, 1) := by decide +kernel
theorem dL_isRead_201 : decode cL_isRead 201 = .ok (.goto 4, 3) := by decide +kernel
theorem dL_isRead_204 : decode cL_isRead 204 = .ok (.iconst 0, 1) := by decide +kernel
theorem dL_isRead_205 : decode cL_isRead 205 = .ok (.ireturn, 1) := by decide +kernel
theorem dL_isRead_206 : decode cL_isRead 206 = .ok (.iload 10, 2) := by decide +kernel
theorem dL_isRead_208 : decode cL_isRead 208 = .ok (.ifCond .le 23, 3) := by decide +kernel
theorem dL_isRead_211 : decode cL_isRead 211 = .ok (.aload_n 1, 1) := by decide +kernel
theorem dL_isRead_212 : decode cL_isRead 212 = .ok (.aload_n 2, 1) := by decide +kernel
theorem dL_isRead_213 : decode cL_isRead 213 = .ok (.aload_n 3, 1) := by decide +kernel
theorem dL_isRead_214 : decode cL_isRead 214 = .ok (.aload 4, 2) := by decide +kernel
theorem dL_isRead_216 : decode cL_isRead 216 = .ok (.aload 5, 2) := by decide +kernel
theorem dL_isRead_218 : decode cL_isRead 218 = .ok (.iload 6, 2) := by decide +kernel
theorem dL_isRead_220 : decode cL_isRead 220 = .ok (.bipush 16, 2) := by decide +kernel
theorem dL_isRead_222 : decode cL_isRead 222 = .ok (.iload 7, 2) := by decide +kernel
theorem dL_isRead_224 : decode cL_isRead 224 = .ok (.imul, 1) := by decide +kernel
theorem dL_isRead_225 : decode cL_isRead 225 = .ok (.iload 8, 2) := by decide +kernel
theorem dL_isRead_227 : decode cL_isRead 227 = .ok (.iadd, 1) := by decide +kernel
theorem dL_isRead_228 : decode cL_isRead 228 = .ok (.invokestatic 19, 3) := by decide +kernel
theorem dL_isRead_231 : decode cL_isRead 231 = .ok (.aload_n 0, 1) := by decide +kernel
theorem dL_isRead_232 : decode cL_isRead 232 = .ok (.iload 6, 2) := by decide +kernel
theorem dL_isRead_234 : decode cL_isRead 234 = .ok (.iload 7, 2) := by decide +kernel
theorem dL_isRead_236 : decode cL_isRead 236 = .ok (.iload 8, 2) := by decide +kernel
theorem dL_isRead_238 : decode cL_isRead 238 = .ok (.invokevirtual 92, 3) := by decide +kernel
theorem dL_isRead_241 : decode cL_isRead 241 = .ok (.iload 10, 2) := by decide +kernel
theorem dL_isRead_243 : decode cL_isRead 243 = .ok (.if_icmp .ne 7, 3) := by decide +kernel
theorem dL_isRead_246 : decode cL_isRead 246 = .ok (.iconst 1, 1) := by decide +kernel
theorem dL_isRead_247 : decode cL_isRead 247 = .ok (.goto 4, 3) := by decide +kernel
theorem dL_isRead_250 : decode cL_isRead 250 = .ok (.iconst 0, 1) := by decide +kernel
theorem dL_isRead_251 : decode cL_isRead 251 = .ok (.ireturn, 1) := by decide +kernel
set_option maxRecDepth 20000 in
theorem ggL_law_X7_init : GoodIn wsL_law wsX7_init := goodIn_r _ [6, 7, 8, 9, 10, 11, 12, 13, 14, 15, 16, 17, 18, 19, 20, 21, 22, 23, 24, 25, 26, 27, 28, 29, 30, 31, 32, 33, 34, 35, 36, 37, 38, 39, 40, 3, 41, 42, 43, 44, 45, 46, 47, 48, 49, 50, 51, 52, 53, 54, 55, 56, 57, 58, 59, 60, 61, 62, 63, 64, 65, 66, 67, 68, 69, 70, 71, 72, 73, 74, 75, 76, 77, 78, 79, 80, 81, 82, 83, 84, 85, 86, 87, 88, 89, 90, 91, 547, 548, 549, 550, 551, 552, 553, 554, 555, 556, 557, 558, 559, 560, 561, 562, 541, 542, 543, 544, 545, 546, 563, 564, 565, 566, 567, 568, 569, 570, 571, 572, 573, 574, 575, 576] (by decide +kernel) (by decide +kernel)
set_option maxRecDepth 20000 in
theorem gL_law_X7_init : GoodIn wsL_law (wsX7_init) := ggL_law_X7_init
set_option maxRecDepth 20000 in
theorem ggL_law_L_cell : GoodIn wsL_law wsL_cell := goodIn_r _ [95, 96] (by decide +kernel) (by decide +kernel)
set_option maxRecDepth 20000 in
theorem gL_law_L_cell : GoodIn wsL_law (va_wsS RL 103 yL_cell wsL_cell) := goodIn_app (goodIn_of _ (by decide +kernel)) ggL_law_L_cell
set_option maxRecDepth 20000 in
theorem ggL_law_L_low : GoodIn wsL_law wsL_low := goodIn_r _ [99, 100] (by decide +kernel) (by decide +kernel)
set_option maxRecDepth 20000 in
theorem gL_law_L_low : GoodIn wsL_law (va_wsS RL 61 yL_low wsL_low) := goodIn_app (goodIn_of _ (by decide +kernel)) ggL_law_L_low
set_option maxRecDepth 20000 in
theorem ggL_law_X7_addProxy : GoodIn wsL_law wsX7_addProxy := goodIn_r _ [104, 25, 13, 21, 105, 106, 107, 24, 108, 81, 109, 110, 111, 112, 113, 114, 115, 116, 12, 117, 38, 39, 40, 118, 119, 120, 121, 41, 122, 123, 124, 125, 42, 43, 44, 45, 47, 48, 49, 126, 127, 128, 28, 129, 59, 130, 131, 57, 132, 133, 134, 135, 136, 137, 20, 138, 73, 139, 140, 141, 142, 143, 144, 145, 146, 147, 148, 149, 2, 150, 151, 152, 153, 154, 155, 156, 541, 542, 543, 544, 545, 546, 569, 570, 571, 547, 548, 549, 550, 551, 552, 553, 554, 555, 556, 557, 558, 559, 560, 561, 562, 572, 573, 566, 567, 568] (by decide +kernel) (by decide +kernel)
set_option maxRecDepth 20000 in
theorem gL_law_X7_addProxy : GoodIn wsL_law (wsV RL 106 RX7 yX7_addProxy wsX7_addProxy) := goodIn_app (goodIn_of _ (by decide +kernel)) ggL_law_X7_addProxy
set_option maxRecDepth 20000 in
theorem ggL_law_X7_proxy : GoodIn wsL_law wsX7_proxy := goodIn_r _ [160, 13, 17, 161, 140, 141, 12, 142, 38, 162, 163, 164, 165, 41, 166, 167, 168, 169, 170, 171, 172, 173, 174, 175, 176, 177, 178, 179, 180, 181, 182, 183, 184, 185, 186, 187, 188, 189, 190, 44, 191, 192, 193, 194, 195, 196, 197, 198, 199, 200, 201, 202, 203, 204, 16, 205, 64, 206, 207, 208, 209, 66, 210, 211, 212, 213, 214, 215, 216, 217, 45, 218, 219, 220, 221, 47, 50, 222, 223, 224, 225, 28, 226, 134, 227, 228, 229, 230, 231, 232, 233, 234, 235, 236, 237, 238, 239, 240, 241, 242, 243, 244, 541, 542, 543, 544, 545, 546, 547, 548, 549, 550, 551, 552, 553, 554, 555, 556, 557, 558, 559, 560, 561, 562, 563, 564, 565, 572, 573] (by decide +kernel) (by decide +kernel)
set_option maxRecDepth 20000 in
theorem gL_law_X7_proxy : GoodIn wsL_law (wsV RL 41 RX7 yX7_proxy wsX7_proxy) := goodIn_app (goodIn_of _ (by decide +kernel)) ggL_law_X7_proxy
set_option maxRecDepth 20000 in
theorem ggL_law_X7_setHome : GoodIn wsL_law wsX7_setHome := goodIn_r _ [248, 25, 13, 21, 105, 106, 107, 24, 108, 81, 109, 110, 111, 112, 113, 114, 115, 116, 12, 117, 38, 39, 40, 118, 119, 120, 121, 41, 122, 123, 124, 125, 42, 43, 44, 45, 47, 48, 49, 126, 127, 128, 28, 129, 59, 130, 131, 57, 132, 133, 134, 249, 250, 251, 20, 252, 73, 253, 2, 254, 139, 140, 141, 142, 255, 256, 257, 258, 259, 260, 261, 262, 263, 264, 265, 266, 147, 148, 149, 150, 151, 152, 153, 154, 155, 156, 541, 542, 543, 544, 545, 546, 569, 570, 571, 547, 548, 549, 550, 551, 552, 553, 554, 555, 556, 557, 558, 559, 560, 561, 562, 572, 573, 566, 567, 568] (by decide +kernel) (by decide +kernel)
set_option maxRecDepth 20000 in
theorem gL_law_X7_setHome : GoodIn wsL_law (wsV RL 109 RX7 yX7_setHome wsX7_setHome) := goodIn_app (goodIn_of _ (by decide +kernel)) ggL_law_X7_setHome
