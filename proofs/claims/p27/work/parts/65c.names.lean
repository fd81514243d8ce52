set_option maxRecDepth 20000 in
theorem ggL_law_L_acts_p1 : GoodIn wsL_law [Cond.code yL_acts cL_acts 24 (some .boolean)] := goodIn_sub (fun w h => by rw [List.mem_singleton.mp h]; exact (List.mem_append_left _ (List.mem_append_left _ (List.mem_append_left _ (List.mem_append_left _ (List.mem_append_left _ (List.mem_append_left _ (List.mem_append_left _ (List.mem_append_left _ (List.mem_append_right _ (List.mem_append_right _ (List.mem_append_right _ (List.mem_append_right _ (List.mem_append_right _ (List.mem_append_right _ (List.mem_append_right _ (List.mem_append_right _ (List.mem_append_right _ (List.mem_append_right _ (List.mem_append_right _ (List.mem_append_right _ (List.mem_append_right _ (List.mem_append_right _ (List.mem_append_left _ (List.mem_of_getElem? (i := 19) rfl))))))))))))))))))))))))) (by decide +kernel)
set_option maxRecDepth 20000 in
theorem ggL_law_L_acts_p2 : GoodIn wsL_law wsL_acts_r1 := goodIn_r _ [3, 97, 98, 94, 99, 100, 356, 357, 358, 2, 359, 25, 13, 21, 105, 106, 107, 24, 108, 81, 109, 110, 111, 112] (by decide +kernel) (by decide +kernel)
set_option maxRecDepth 20000 in
theorem ggL_law_L_acts_p3 : GoodIn wsL_law wsL_acts_r2 := goodIn_r _ [113, 114, 115, 116, 12, 117, 38, 39, 40, 118, 119, 120, 121, 41, 122, 123, 124, 125, 42, 43, 44, 45, 47, 48] (by decide +kernel) (by decide +kernel)
set_option maxRecDepth 20000 in
theorem ggL_law_L_acts_p4 : GoodIn wsL_law wsL_acts_r3 := goodIn_r _ [49, 126, 127, 128, 28, 129, 59, 130, 131, 57, 132, 133, 134, 360, 361, 362, 20, 363, 73, 147, 148, 149, 150, 151] (by decide +kernel) (by decide +kernel)
set_option maxRecDepth 20000 in
theorem ggL_law_L_acts_p5 : GoodIn wsL_law wsL_acts_r4 := goodIn_r _ [152, 153, 154, 155, 156, 283, 284, 285, 364, 365, 366, 367, 368, 369, 370, 371, 372, 373, 374, 375, 376, 377, 378, 379] (by decide +kernel) (by decide +kernel)
set_option maxRecDepth 20000 in
theorem ggL_law_L_acts_p6 : GoodIn wsL_law wsL_acts_r5 := goodIn_r _ [380, 381, 382, 383, 74, 253, 254, 255, 256, 257, 258, 259, 260, 261, 262, 384, 207, 208, 16, 209, 64, 66, 210, 188] (by decide +kernel) (by decide +kernel)
set_option maxRecDepth 20000 in
theorem ggL_law_L_acts_p7 : GoodIn wsL_law wsL_acts_r6 := goodIn_r _ [189, 190, 211, 212, 193, 213, 214, 215, 216, 217, 385, 296, 297, 298, 386, 387, 388, 389, 390, 391, 392, 393, 315, 316] (by decide +kernel) (by decide +kernel)
set_option maxRecDepth 20000 in
theorem ggL_law_L_acts_p8 : GoodIn wsL_law wsL_acts_r7 := goodIn_r _ [394, 395, 396, 397, 398, 399, 400, 401, 402, 308, 309, 310, 187, 311, 312, 313, 403, 404, 405, 406, 407, 408, 409, 231] (by decide +kernel) (by decide +kernel)
set_option maxRecDepth 20000 in
theorem ggL_law_L_acts_p9 : GoodIn wsL_law wsL_acts_r8 := goodIn_r _ [232, 233, 195, 196, 197, 198, 199, 200, 201, 410, 411, 412, 413, 414, 415, 416, 417, 418, 219, 220, 221, 50, 222, 140] (by decide +kernel) (by decide +kernel)
set_option maxRecDepth 20000 in
theorem ggL_law_L_acts_p10 : GoodIn wsL_law wsL_acts_r9 := goodIn_r _ [141, 142, 419, 420, 421, 422, 423, 224, 225, 226, 424, 425, 426, 427, 428, 331, 332, 333, 429, 430, 431, 432, 433, 434] (by decide +kernel) (by decide +kernel)
set_option maxRecDepth 20000 in
theorem ggL_law_L_acts_p11 : GoodIn wsL_law wsL_acts_r10 := goodIn_r _ [435, 436, 437, 163, 164, 165, 438, 346, 347, 348, 179, 180, 181, 182, 439, 440, 441, 442, 443, 176, 177, 178, 170, 444] (by decide +kernel) (by decide +kernel)
