set_option maxRecDepth 20000 in
theorem ggL_law_L_isSo_p1 : GoodIn wsL_law [Cond.code yL_isSo cL_isSo 20 (some .boolean)] := goodIn_sub (fun w h => by rw [List.mem_singleton.mp h]; exact (List.mem_append_left _ (List.mem_append_left _ (List.mem_append_left _ (List.mem_append_left _ (List.mem_append_left _ (List.mem_append_left _ (List.mem_append_left _ (List.mem_append_left _ (List.mem_append_right _ (List.mem_append_right _ (List.mem_append_right _ (List.mem_append_right _ (List.mem_append_right _ (List.mem_append_right _ (List.mem_append_right _ (List.mem_append_right _ (List.mem_append_right _ (List.mem_append_right _ (List.mem_append_right _ (List.mem_append_left _ (List.mem_of_getElem? (i := 5) rfl)))))))))))))))))))))) (by decide +kernel)
set_option maxRecDepth 20000 in
theorem ggL_law_L_isSo_p2 : GoodIn wsL_law wsL_isSo_r1 := goodIn_r _ [3, 270, 271, 272, 2, 273, 13, 25, 274, 275, 276, 12, 277, 278, 256, 257, 258, 43, 279, 280, 281, 24, 282, 155] (by decide +kernel) (by decide +kernel)
set_option maxRecDepth 20000 in
theorem ggL_law_L_isSo_p3 : GoodIn wsL_law wsL_isSo_r2 := goodIn_r _ [283, 284, 94, 285, 286, 287, 288, 289, 17, 161, 140, 141, 142, 38, 290, 253, 254, 291, 292, 293, 16, 294, 206, 207] (by decide +kernel) (by decide +kernel)
set_option maxRecDepth 20000 in
theorem ggL_law_L_isSo_p4 : GoodIn wsL_law wsL_isSo_r3 := goodIn_r _ [208, 209, 64, 66, 210, 188, 189, 190, 44, 211, 212, 193, 213, 214, 215, 216, 217, 45, 295, 296, 297, 298, 299, 300] (by decide +kernel) (by decide +kernel)
set_option maxRecDepth 20000 in
theorem ggL_law_L_isSo_p5 : GoodIn wsL_law wsL_isSo_r4 := goodIn_r _ [301, 302, 303, 304, 305, 306, 307, 308, 309, 310, 187, 311, 312, 313, 314, 315, 316, 317, 318, 319, 320, 321, 219, 220] (by decide +kernel) (by decide +kernel)
set_option maxRecDepth 20000 in
theorem ggL_law_L_isSo_p6 : GoodIn wsL_law wsL_isSo_r5 := goodIn_r _ [221, 47, 50, 222, 322, 323, 324, 28, 325, 134, 59, 157, 158, 159, 160, 162, 163, 164, 165, 41, 166, 167, 168, 169] (by decide +kernel) (by decide +kernel)
set_option maxRecDepth 20000 in
theorem ggL_law_L_isSo_p7 : GoodIn wsL_law wsL_isSo_r6 := goodIn_r _ [170, 171, 172, 173, 174, 175, 176, 177, 178, 179, 180, 181, 182, 183, 184, 185, 186, 191, 192, 194, 195, 196, 197, 198] (by decide +kernel) (by decide +kernel)
set_option maxRecDepth 20000 in
theorem ggL_law_L_isSo_p8 : GoodIn wsL_law wsL_isSo_r7 := goodIn_r _ [199, 200, 201, 202, 203, 204, 205, 218, 223, 224, 225, 226, 227, 228, 229, 230, 231, 232, 233, 234, 235, 236, 237, 238] (by decide +kernel) (by decide +kernel)
set_option maxRecDepth 20000 in
theorem ggL_law_L_isSo_p9 : GoodIn wsL_law wsL_isSo_r8 := goodIn_r _ [239, 240, 241, 242, 243, 244, 326, 327, 328, 329, 330, 331, 332, 333, 334, 335, 336, 337, 338, 339, 340, 341, 342, 343] (by decide +kernel) (by decide +kernel)
set_option maxRecDepth 20000 in
theorem ggL_law_L_isSo_p10 : GoodIn wsL_law wsL_isSo_r9 := goodIn_r _ [344, 345, 346, 347, 348, 48, 49, 349, 350, 351, 352] (by decide +kernel) (by decide +kernel)
set_option maxRecDepth 20000 in
theorem ggL_law_L_isSo_p11 : GoodIn wsL_law wsX70 := goodIn_r _ [541, 542, 543, 544, 545, 546] (by decide +kernel) (by decide +kernel)
set_option maxRecDepth 20000 in
theorem ggL_law_L_isSo_p12 : GoodIn wsL_law wsX50 := goodIn_r _ [547, 548, 549, 550, 551, 552, 553, 554, 555, 556, 557, 558, 559, 560, 561, 562] (by decide +kernel) (by decide +kernel)
set_option maxRecDepth 20000 in
theorem ggL_law_L_isSo_p13 : GoodIn wsL_law wsX10 := goodIn_r _ [569, 570, 571] (by decide +kernel) (by decide +kernel)
set_option maxRecDepth 20000 in
theorem ggL_law_L_isSo_p14 : GoodIn wsL_law wsX00 := goodIn_r _ [563, 564, 565] (by decide +kernel) (by decide +kernel)
set_option maxRecDepth 20000 in
theorem ggL_law_L_isSo_p15 : GoodIn wsL_law wsX20 := goodIn_r _ [572, 573] (by decide +kernel) (by decide +kernel)
set_option maxRecDepth 20000 in
theorem ggL_law_L_isSo : GoodIn wsL_law wsL_isSo := (goodIn_app ggL_law_L_isSo_p1 (goodIn_app (goodIn_app (goodIn_app (goodIn_app (goodIn_app (goodIn_app ggL_law_L_isSo_p2 (goodIn_app ggL_law_L_isSo_p3 (goodIn_app ggL_law_L_isSo_p4 (goodIn_app ggL_law_L_isSo_p5 (goodIn_app ggL_law_L_isSo_p6 (goodIn_app ggL_law_L_isSo_p7 (goodIn_app ggL_law_L_isSo_p8 (goodIn_app ggL_law_L_isSo_p9 ggL_law_L_isSo_p10)))))))) ggL_law_L_isSo_p11) ggL_law_L_isSo_p12) ggL_law_L_isSo_p13) ggL_law_L_isSo_p14) ggL_law_L_isSo_p15) : GoodIn wsL_law ([Cond.code yL_isSo cL_isSo 20 (some .boolean)] ++ (((wsL_isSo_r1 ++ (wsL_isSo_r2 ++ (wsL_isSo_r3 ++ (wsL_isSo_r4 ++ (wsL_isSo_r5 ++ (wsL_isSo_r6 ++ (wsL_isSo_r7 ++ (wsL_isSo_r8 ++ wsL_isSo_r9)))))))) ++ wsX70 ++ wsX50 ++ wsX10 ++ wsX00 ++ wsX20))))
set_option maxRecDepth 20000 in
theorem gL_law_L_isSo : GoodIn wsL_law (va_wsS RL 112 yL_isSo wsL_isSo) := goodIn_app (goodIn_of _ (by decide +kernel)) ggL_law_L_isSo
