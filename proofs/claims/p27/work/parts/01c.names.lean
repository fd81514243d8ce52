theorem dX3_askUpward_29 : decode cX3_askUpward 29 = .ok (.iload 5, 2) := by decide +kernel
theorem dX3_askUpward_31 : decode cX3_askUpward 31 = .ok (.bipush 8, 2) := by decide +kernel
theorem dX3_askUpward_33 : decode cX3_askUpward 33 = .ok (.if_icmp .ge 99, 3) := by decide +kernel
theorem dX3_askUpward_36 : decode cX3_askUpward 36 = .ok (.iload 5, 2) := by decide +kernel
theorem dX3_askUpward_38 : decode cX3_askUpward 38 = .ok (.iload_n 1, 1) := by decide +kernel
theorem dX3_askUpward_39 : decode cX3_askUpward 39 = .ok (.if_icmp .gt 93, 3) := by decide +kernel
theorem dX3_askUpward_42 : decode cX3_askUpward 42 = .ok (.iload 5, 2) := by decide +kernel
theorem dX3_askUpward_44 : decode cX3_askUpward 44 = .ok (.iload_n 1, 1) := by decide +kernel
theorem dX3_askUpward_45 : decode cX3_askUpward 45 = .ok (.if_icmp .eq 16, 3) := by decide +kernel
theorem dX3_askUpward_48 : decode cX3_askUpward 48 = .ok (.aload_n 0, 1) := by decide +kernel
theorem dX3_askUpward_49 : decode cX3_askUpward 49 = .ok (.getfield 20, 3) := by decide +kernel
theorem dX3_askUpward_52 : decode cX3_askUpward 52 = .ok (.iload 5, 2) := by decide +kernel
theorem dX3_askUpward_54 : decode cX3_askUpward 54 = .ok (.iload_n 1, 1) := by decide +kernel
theorem dX3_askUpward_55 : decode cX3_askUpward 55 = .ok (.invokevirtual 137, 3) := by decide +kernel
theorem dX3_askUpward_58 : decode cX3_askUpward 58 = .ok (.ifCond .eq 68, 3) := by decide +kernel
theorem dX3_askUpward_61 : decode cX3_askUpward 61 = .ok (.aload_n 0, 1) := by decide +kernel
theorem dX3_askUpward_62 : decode cX3_askUpward 62 = .ok (.iload 5, 2) := by decide +kernel
theorem dX3_askUpward_64 : decode cX3_askUpward 64 = .ok (.invokevirtual 140, 3) := by decide +kernel
theorem dX3_askUpward_67 : decode cX3_askUpward 67 = .ok (.iconst 0, 1) := by decide +kernel
theorem dX3_askUpward_68 : decode cX3_askUpward 68 = .ok (.istore 4, 2) := by decide +kernel
theorem dX3_askUpward_70 : decode cX3_askUpward 70 = .ok (.iconst 0, 1) := by decide +kernel
theorem dX3_askUpward_71 : decode cX3_askUpward 71 = .ok (.istore 6, 2) := by decide +kernel
theorem dX3_askUpward_73 : decode cX3_askUpward 73 = .ok (.iload 6, 2) := by decide +kernel
theorem dX3_askUpward_75 : decode cX3_askUpward 75 = .ok (.aload_n 0, 1) := by decide +kernel
theorem dX3_askUpward_76 : decode cX3_askUpward 76 = .ok (.getfield 14, 3) := by decide +kernel
theorem dX3_askUpward_79 : decode cX3_askUpward 79 = .ok (.invokevirtual 95, 3) := by decide +kernel
theorem dX3_askUpward_82 : decode cX3_askUpward 82 = .ok (.if_icmp .ge 39, 3) := by decide +kernel
theorem dX3_askUpward_85 : decode cX3_askUpward 85 = .ok (.aload_n 0, 1) := by decide +kernel
theorem dX3_askUpward_86 : decode cX3_askUpward 86 = .ok (.iload 5, 2) := by decide +kernel
theorem dX3_askUpward_88 : decode cX3_askUpward 88 = .ok (.aload_n 0, 1) := by decide +kernel
theorem dX3_askUpward_89 : decode cX3_askUpward 89 = .ok (.getfield 20, 3) := by decide +kernel
theorem dX3_askUpward_92 : decode cX3_askUpward 92 = .ok (.iload 5, 2) := by decide +kernel
theorem dX3_askUpward_94 : decode cX3_askUpward 94 = .ok (.invokevirtual 99, 3) := by decide +kernel
theorem dX3_askUpward_97 : decode cX3_askUpward 97 = .ok (.aload_n 0, 1) := by decide +kernel
theorem dX3_askUpward_98 : decode cX3_askUpward 98 = .ok (.getfield 14, 3) := by decide +kernel
theorem dX3_askUpward_101 : decode cX3_askUpward 101 = .ok (.iload 6, 2) := by decide +kernel
theorem dX3_askUpward_103 : decode cX3_askUpward 103 = .ok (.invokevirtual 102, 3) := by decide +kernel
theorem dX3_askUpward_106 : decode cX3_askUpward 106 = .ok (.invokevirtual 80, 3) := by decide +kernel
theorem dX3_askUpward_109 : decode cX3_askUpward 109 = .ok (.ifCond .eq 6, 3) := by decide +kernel
theorem dX3_askUpward_112 : decode cX3_askUpward 112 = .ok (.iinc 4 1, 3) := by decide +kernel
theorem dX3_askUpward_115 : decode cX3_askUpward 115 = .ok (.iinc 6 1, 3) := by decide +kernel
theorem dX3_askUpward_118 : decode cX3_askUpward 118 = .ok (.goto (-45), 3) := by decide +kernel
theorem dX3_askUpward_121 : decode cX3_askUpward 121 = .ok (.iload_n 3, 1) := by decide +kernel
theorem dX3_askUpward_122 : decode cX3_askUpward 122 = .ok (.iload 4, 2) := by decide +kernel
theorem dX3_askUpward_124 : decode cX3_askUpward 124 = .ok (.iadd, 1) := by decide +kernel
theorem dX3_askUpward_125 : decode cX3_askUpward 125 = .ok (.istore_n 3, 1) := by decide +kernel
theorem dX3_askUpward_126 : decode cX3_askUpward 126 = .ok (.iinc 5 1, 3) := by decide +kernel
theorem dX3_askUpward_129 : decode cX3_askUpward 129 = .ok (.goto (-100), 3) := by decide +kernel
theorem dX3_askUpward_132 : decode cX3_askUpward 132 = .ok (.iload_n 3, 1) := by decide +kernel
theorem dX3_askUpward_133 : decode cX3_askUpward 133 = .ok (.ifCond .ne 19, 3) := by decide +kernel
theorem dX3_askUpward_136 : decode cX3_askUpward 136 = .ok (.aload_n 0, 1) := by decide +kernel
theorem dX3_askUpward_137 : decode cX3_askUpward 137 = .ok (.getfield 20, 3) := by decide +kernel
theorem dX3_askUpward_140 : decode cX3_askUpward 140 = .ok (.getfield 134, 3) := by decide +kernel
theorem dX3_askUpward_143 : decode cX3_askUpward 143 = .ok (.iload_n 2, 1) := by decide +kernel
theorem dX3_askUpward_144 : decode cX3_askUpward 144 = .ok (.if_icmp .ne 8, 3) := by decide +kernel
theorem dX3_askUpward_147 : decode cX3_askUpward 147 = .ok (.bipush (-9), 2) := by decide +kernel
theorem dX3_askUpward_149 : decode cX3_askUpward 149 = .ok (.goto 5, 3) := by decide +kernel
theorem dX3_askUpward_152 : decode cX3_askUpward 152 = .ok (.iload 4, 2) := by decide +kernel
theorem dX3_askUpward_154 : decode cX3_askUpward 154 = .ok (.ireturn, 1) := by decide +kernel
set_option maxRecDepth 20000 in
theorem ggX3_findGapsToFill_X5_parentOf : GoodIn wsX3_findGapsToFill wsX5_parentOf := goodIn_r _ [7, 8, 43, 44, 45, 46, 47, 48, 49, 50, 51, 52, 53, 54, 55, 56, 57, 58] (by decide +kernel) (by decide +kernel)
set_option maxRecDepth 20000 in
theorem gX3_findGapsToFill_X5_parentOf : GoodIn wsX3_findGapsToFill (wsV RX3 99 RX5 yX5_parentOf wsX5_parentOf) := goodIn_app (goodIn_of _ (by decide +kernel)) ggX3_findGapsToFill_X5_parentOf
set_option maxRecDepth 20000 in
theorem ggX3_findGapsToFill_X2_clear : GoodIn wsX3_findGapsToFill wsX2_clear := goodIn_r _ [13, 14, 59, 60] (by decide +kernel) (by decide +kernel)
set_option maxRecDepth 20000 in
theorem gX3_findGapsToFill_X2_clear : GoodIn wsX3_findGapsToFill (wsV RX3 143 RX2 yX2_clear wsX2_clear) := goodIn_app (goodIn_of _ (by decide +kernel)) ggX3_findGapsToFill_X2_clear
set_option maxRecDepth 20000 in
theorem ggX3_findGapsToFill_X5_knownOf : GoodIn wsX3_findGapsToFill wsX5_knownOf := goodIn_r _ [18, 19, 43, 44, 45, 46, 47, 48, 49, 50, 51, 52, 53, 54, 55, 56, 57, 58] (by decide +kernel) (by decide +kernel)
set_option maxRecDepth 20000 in
theorem gX3_findGapsToFill_X5_knownOf : GoodIn wsX3_findGapsToFill (wsV RX3 146 RX5 yX5_knownOf wsX5_knownOf) := goodIn_app (goodIn_of _ (by decide +kernel)) ggX3_findGapsToFill_X5_knownOf
set_option maxRecDepth 20000 in
theorem ggX3_findGapsToFill_X6_greatest : GoodIn wsX3_findGapsToFill wsX6_greatest := goodIn_r _ [23] (by decide +kernel) (by decide +kernel)
set_option maxRecDepth 20000 in
theorem gX3_findGapsToFill_X6_greatest : GoodIn wsX3_findGapsToFill (va_wsS RX3 149 yX6_greatest wsX6_greatest) := goodIn_app (goodIn_of _ (by decide +kernel)) ggX3_findGapsToFill_X6_greatest
set_option maxRecDepth 20000 in
theorem ggX3_findGapsToFill_X5_knows : GoodIn wsX3_findGapsToFill wsX5_knows := goodIn_r _ [27, 28, 16, 17, 6, 18, 19, 29, 30, 22, 31, 43, 44, 45, 46, 47, 48, 49, 50, 51, 52, 53, 54, 55, 56, 57, 58] (by decide +kernel) (by decide +kernel)
set_option maxRecDepth 20000 in
theorem gX3_findGapsToFill_X5_knows : GoodIn wsX3_findGapsToFill (wsV RX3 154 RX5 yX5_knows wsX5_knows) := goodIn_app (goodIn_of _ (by decide +kernel)) ggX3_findGapsToFill_X5_knows
set_option maxRecDepth 20000 in
theorem ggX3_findGapsToFill_X7_updateOf : GoodIn wsX3_findGapsToFill wsX7_updateOf := goodIn_r _ [34] (by decide +kernel) (by decide +kernel)
set_option maxRecDepth 20000 in
theorem gX3_findGapsToFill_X7_updateOf_n76 : GoodIn wsX3_findGapsToFill (wsX7_updateOf) := ggX3_findGapsToFill_X7_updateOf
set_option maxRecDepth 20000 in
theorem ggX3_findGapsToFill_X2_append : GoodIn wsX3_findGapsToFill wsX2_append := goodIn_r _ [38, 14, 39, 59, 60] (by decide +kernel) (by decide +kernel)
set_option maxRecDepth 20000 in
theorem gX3_findGapsToFill_X2_append : GoodIn wsX3_findGapsToFill (wsV RX3 157 RX2 yX2_append wsX2_append) := goodIn_app (goodIn_of _ (by decide +kernel)) ggX3_findGapsToFill_X2_append
theorem dX3_findGapsToFill_0 : decode cX3_findGapsToFill 0 = .ok (.aload_n 0, 1) := by decide +kernel
theorem dX3_findGapsToFill_1 : decode cX3_findGapsToFill 1 = .ok (.getfield 20, 3) := by decide +kernel
theorem dX3_findGapsToFill_4 : decode cX3_findGapsToFill 4 = .ok (.iload_n 1, 1) := by decide +kernel
theorem dX3_findGapsToFill_5 : decode cX3_findGapsToFill 5 = .ok (.invokevirtual 99, 3) := by decide +kernel
theorem dX3_findGapsToFill_8 : decode cX3_findGapsToFill 8 = .ok (.istore_n 2, 1) := by decide +kernel
theorem dX3_findGapsToFill_9 : decode cX3_findGapsToFill 9 = .ok (.aload_n 0, 1) := by decide +kernel
theorem dX3_findGapsToFill_10 : decode cX3_findGapsToFill 10 = .ok (.getfield 14, 3) := by decide +kernel
theorem dX3_findGapsToFill_13 : decode cX3_findGapsToFill 13 = .ok (.invokevirtual 143, 3) := by decide +kernel
theorem dX3_findGapsToFill_16 : decode cX3_findGapsToFill 16 = .ok (.iconst 0, 1) := by decide +kernel
theorem dX3_findGapsToFill_17 : decode cX3_findGapsToFill 17 = .ok (.istore_n 3, 1) := by decide +kernel
theorem dX3_findGapsToFill_18 : decode cX3_findGapsToFill 18 = .ok (.iload_n 3, 1) := by decide +kernel
theorem dX3_findGapsToFill_19 : decode cX3_findGapsToFill 19 = .ok (.iconst 4, 1) := by decide +kernel
theorem dX3_findGapsToFill_20 : decode cX3_findGapsToFill 20 = .ok (.if_icmp .ge 81, 3) := by decide +kernel
theorem dX3_findGapsToFill_23 : decode cX3_findGapsToFill 23 = .ok (.aload_n 0, 1) := by decide +kernel
theorem dX3_findGapsToFill_24 : decode cX3_findGapsToFill 24 = .ok (.getfield 20, 3) := by decide +kernel
theorem dX3_findGapsToFill_27 : decode cX3_findGapsToFill 27 = .ok (.iload_n 1, 1) := by decide +kernel
theorem dX3_findGapsToFill_28 : decode cX3_findGapsToFill 28 = .ok (.iload_n 3, 1) := by decide +kernel
theorem dX3_findGapsToFill_29 : decode cX3_findGapsToFill 29 = .ok (.invokevirtual 146, 3) := by decide +kernel
theorem dX3_findGapsToFill_32 : decode cX3_findGapsToFill 32 = .ok (.invokestatic 149, 3) := by decide +kernel
theorem dX3_findGapsToFill_35 : decode cX3_findGapsToFill 35 = .ok (.istore 4, 2) := by decide +kernel
theorem dX3_findGapsToFill_37 : decode cX3_findGapsToFill 37 = .ok (.iconst 1, 1) := by decide +kernel
theorem dX3_findGapsToFill_38 : decode cX3_findGapsToFill 38 = .ok (.istore 5, 2) := by decide +kernel
theorem dX3_findGapsToFill_40 : decode cX3_findGapsToFill 40 = .ok (.iload 5, 2) := by decide +kernel
theorem dX3_findGapsToFill_42 : decode cX3_findGapsToFill 42 = .ok (.iload 4, 2) := by decide +kernel
theorem dX3_findGapsToFill_44 : decode cX3_findGapsToFill 44 = .ok (.if_icmp .ge 51, 3) := by decide +kernel
theorem dX3_findGapsToFill_47 : decode cX3_findGapsToFill 47 = .ok (.aload_n 0, 1) := by decide +kernel
theorem dX3_findGapsToFill_48 : decode cX3_findGapsToFill 48 = .ok (.getfield 20, 3) := by decide +kernel
theorem dX3_findGapsToFill_51 : decode cX3_findGapsToFill 51 = .ok (.iload_n 1, 1) := by decide +kernel
theorem dX3_findGapsToFill_52 : decode cX3_findGapsToFill 52 = .ok (.iload_n 3, 1) := by decide +kernel
theorem dX3_findGapsToFill_53 : decode cX3_findGapsToFill 53 = .ok (.iload 5, 2) := by decide +kernel
theorem dX3_findGapsToFill_55 : decode cX3_findGapsToFill 55 = .ok (.invokevirtual 154, 3) := by decide +kernel
theorem dX3_findGapsToFill_58 : decode cX3_findGapsToFill 58 = .ok (.ifCond .ne 31, 3) := by decide +kernel
theorem dX3_findGapsToFill_61 : decode cX3_findGapsToFill 61 = .ok (.aload_n 0, 1) := by decide +kernel
theorem dX3_findGapsToFill_62 : decode cX3_findGapsToFill 62 = .ok (.getfield 20, 3) := by decide +kernel
theorem dX3_findGapsToFill_65 : decode cX3_findGapsToFill 65 = .ok (.iload_n 2, 1) := by decide +kernel
theorem dX3_findGapsToFill_66 : decode cX3_findGapsToFill 66 = .ok (.iload_n 3, 1) := by decide +kernel
theorem dX3_findGapsToFill_67 : decode cX3_findGapsToFill 67 = .ok (.iload 5, 2) := by decide +kernel
theorem dX3_findGapsToFill_69 : decode cX3_findGapsToFill 69 = .ok (.invokevirtual 154, 3) := by decide +kernel
theorem dX3_findGapsToFill_72 : decode cX3_findGapsToFill 72 = .ok (.ifCond .eq 17, 3) := by decide +kernel
theorem dX3_findGapsToFill_75 : decode cX3_findGapsToFill 75 = .ok (.aload_n 0, 1) := by decide +kernel
theorem dX3_findGapsToFill_76 : decode cX3_findGapsToFill 76 = .ok (.getfield 14, 3) := by decide +kernel
theorem dX3_findGapsToFill_79 : decode cX3_findGapsToFill 79 = .ok (.iload_n 3, 1) := by decide +kernel
theorem dX3_findGapsToFill_80 : decode cX3_findGapsToFill 80 = .ok (.iload 5, 2) := by decide +kernel
theorem dX3_findGapsToFill_82 : decode cX3_findGapsToFill 82 = .ok (.invokestatic 76, 3) := by decide +kernel
theorem dX3_findGapsToFill_85 : decode cX3_findGapsToFill 85 = .ok (.invokevirtual 157, 3) := by decide +kernel
theorem dX3_findGapsToFill_88 : decode cX3_findGapsToFill 88 = .ok (.pop, 1) := by decide +kernel
theorem dX3_findGapsToFill_89 : decode cX3_findGapsToFill 89 = .ok (.iinc 5 1, 3) := by decide +kernel
theorem dX3_findGapsToFill_92 : decode cX3_findGapsToFill 92 = .ok (.goto (-52), 3) := by decide +kernel
theorem dX3_findGapsToFill_95 : decode cX3_findGapsToFill 95 = .ok (.iinc 3 1, 3) := by decide +kernel
theorem dX3_findGapsToFill_98 : decode cX3_findGapsToFill 98 = .ok (.goto (-80), 3) := by decide +kernel
theorem dX3_findGapsToFill_101 : decode cX3_findGapsToFill 101 = .ok (.return_, 1) := by decide +kernel
set_option maxRecDepth 20000 in
theorem ggX3_arrive_X7_originOf : GoodIn wsX3_arrive wsX7_originOf := goodIn_r _ [4] (by decide +kernel) (by decide +kernel)
set_option maxRecDepth 20000 in
theorem gX3_arrive_X7_originOf_n160 : GoodIn wsX3_arrive (wsX7_originOf) := ggX3_arrive_X7_originOf
set_option maxRecDepth 20000 in
theorem ggX3_arrive_X7_versionOf : GoodIn wsX3_arrive wsX7_versionOf := goodIn_r _ [6] (by decide +kernel) (by decide +kernel)
set_option maxRecDepth 20000 in
theorem gX3_arrive_X7_versionOf_n163 : GoodIn wsX3_arrive (wsX7_versionOf) := ggX3_arrive_X7_versionOf
set_option maxRecDepth 20000 in
theorem ggX3_arrive_X5_knows : GoodIn wsX3_arrive wsX5_knows := goodIn_r _ [11, 12, 13, 14, 10, 15, 16, 17, 18, 19, 20, 133, 134, 135, 136, 137, 138, 139, 140, 141, 142, 143, 144, 145, 146, 147, 148] (by decide +kernel) (by decide +kernel)
set_option maxRecDepth 20000 in
theorem gX3_arrive_X5_knows : GoodIn wsX3_arrive (wsV RX3 154 RX5 yX5_knows wsX5_knows) := goodIn_app (goodIn_of _ (by decide +kernel)) ggX3_arrive_X5_knows
set_option maxRecDepth 20000 in
theorem ggX3_arrive_X5_rangesWith : GoodIn wsX3_arrive wsX5_rangesWith := goodIn_r _ [24, 12, 13, 14, 10, 15, 16, 25, 26, 19, 27, 28, 29, 30, 31, 32, 33, 34, 35, 36, 37, 133, 134, 135, 136, 137, 138, 139, 140, 141, 142, 143, 144, 145, 146, 147, 148] (by decide +kernel) (by decide +kernel)
set_option maxRecDepth 20000 in
theorem gX3_arrive_X5_rangesWith : GoodIn wsX3_arrive (wsV RX3 166 RX5 yX5_rangesWith wsX5_rangesWith) := goodIn_app (goodIn_of _ (by decide +kernel)) ggX3_arrive_X5_rangesWith
set_option maxRecDepth 20000 in
theorem ggX3_arrive_X5_addKnown : GoodIn wsX3_arrive wsX5_addKnown := goodIn_r _ [41, 16, 25, 26, 19, 27, 133, 134, 135, 136, 137, 138, 139, 140, 141, 142, 143, 144, 145, 146, 147, 148] (by decide +kernel) (by decide +kernel)
set_option maxRecDepth 20000 in
theorem gX3_arrive_X5_addKnown : GoodIn wsX3_arrive (wsV RX3 170 RX5 yX5_addKnown wsX5_addKnown) := goodIn_app (goodIn_of _ (by decide +kernel)) ggX3_arrive_X5_addKnown
set_option maxRecDepth 20000 in
theorem ggX3_arrive_X3_keepContent : GoodIn wsX3_arrive wsX3_keepContent := goodIn_r _ [46, 1, 47, 48, 49, 50, 10, 51, 52, 53, 54, 55, 56, 57, 58, 59, 60, 61, 62, 63, 64, 65, 66, 67, 68, 69, 70, 71, 72, 73, 74, 75, 76, 77, 13, 14, 15, 16, 78, 79, 19, 80, 81, 82, 83, 84, 85, 86, 87, 88, 45, 89, 90, 91, 92, 93, 5, 3, 6, 2, 4, 94, 95, 96, 97, 98, 99, 100, 101, 130, 131, 132, 133, 134, 135, 136, 137, 138, 139, 140, 141, 142, 143, 144, 145, 146, 147, 148, 149, 150, 151, 152, 153] (by decide +kernel) (by decide +kernel)
set_option maxRecDepth 20000 in
theorem gX3_arrive_X3_keepContent : GoodIn wsX3_arrive (wsV RX3 125 RX3 yX3_keepContent wsX3_keepContent) := goodIn_app (goodIn_of _ (by decide +kernel)) ggX3_arrive_X3_keepContent
set_option maxRecDepth 20000 in
theorem ggX3_arrive_X3_passOn : GoodIn wsX3_arrive wsX3_passOn := goodIn_r _ [105, 1, 106, 107, 108, 10, 109, 110, 111, 112, 113, 114, 53, 115, 116, 117, 118, 119, 120, 58, 121, 122, 123, 45, 124, 59, 60, 61, 62, 63, 64, 65, 125, 126, 127, 128, 129, 130, 131, 132, 133, 134, 135, 136, 137, 138, 139, 140, 141, 142, 143, 144, 145, 146, 147, 148, 149, 150] (by decide +kernel) (by decide +kernel)
set_option maxRecDepth 20000 in
theorem gX3_arrive_X3_passOn : GoodIn wsX3_arrive (wsV RX3 174 RX3 yX3_passOn wsX3_passOn) := goodIn_app (goodIn_of _ (by decide +kernel)) ggX3_arrive_X3_passOn
theorem dX3_arrive_0 : decode cX3_arrive 0 = .ok (.iload_n 3, 1) := by decide +kernel
theorem dX3_arrive_1 : decode cX3_arrive 1 = .ok (.invokestatic 160, 3) := by decide +kernel
theorem dX3_arrive_4 : decode cX3_arrive 4 = .ok (.istore 4, 2) := by decide +kernel
theorem dX3_arrive_6 : decode cX3_arrive 6 = .ok (.iload_n 3, 1) := by decide +kernel
theorem dX3_arrive_7 : decode cX3_arrive 7 = .ok (.invokestatic 163, 3) := by decide +kernel
theorem dX3_arrive_10 : decode cX3_arrive 10 = .ok (.istore 5, 2) := by decide +kernel
theorem dX3_arrive_12 : decode cX3_arrive 12 = .ok (.aload_n 0, 1) := by decide +kernel
theorem dX3_arrive_13 : decode cX3_arrive 13 = .ok (.getfield 20, 3) := by decide +kernel
theorem dX3_arrive_16 : decode cX3_arrive 16 = .ok (.iload_n 1, 1) := by decide +kernel
theorem dX3_arrive_17 : decode cX3_arrive 17 = .ok (.iload 4, 2) := by decide +kernel
theorem dX3_arrive_19 : decode cX3_arrive 19 = .ok (.iload 5, 2) := by decide +kernel
theorem dX3_arrive_21 : decode cX3_arrive 21 = .ok (.invokevirtual 154, 3) := by decide +kernel
theorem dX3_arrive_24 : decode cX3_arrive 24 = .ok (.ifCond .eq 5, 3) := by decide +kernel
theorem dX3_arrive_27 : decode cX3_arrive 27 = .ok (.iconst 0, 1) := by decide +kernel
theorem dX3_arrive_28 : decode cX3_arrive 28 = .ok (.ireturn, 1) := by decide +kernel
theorem dX3_arrive_29 : decode cX3_arrive 29 = .ok (.iload_n 1, 1) := by decide +kernel
theorem dX3_arrive_30 : decode cX3_arrive 30 = .ok (.ifCond .eq 45, 3) := by decide +kernel
theorem dX3_arrive_33 : decode cX3_arrive 33 = .ok (.iload_n 2, 1) := by decide +kernel
theorem dX3_arrive_34 : decode cX3_arrive 34 = .ok (.iconst (-1), 1) := by decide +kernel
theorem dX3_arrive_35 : decode cX3_arrive 35 = .ok (.if_icmp .eq 40, 3) := by decide +kernel
theorem dX3_arrive_38 : decode cX3_arrive 38 = .ok (.aload_n 0, 1) := by decide +kernel
theorem dX3_arrive_39 : decode cX3_arrive 39 = .ok (.getfield 20, 3) := by decide +kernel
theorem dX3_arrive_42 : decode cX3_arrive 42 = .ok (.iload_n 1, 1) := by decide +kernel
theorem dX3_arrive_43 : decode cX3_arrive 43 = .ok (.iload 4, 2) := by decide +kernel
theorem dX3_arrive_45 : decode cX3_arrive 45 = .ok (.iload 5, 2) := by decide +kernel
theorem dX3_arrive_47 : decode cX3_arrive 47 = .ok (.invokevirtual 166, 3) := by decide +kernel
theorem dX3_arrive_50 : decode cX3_arrive 50 = .ok (.aload_n 0, 1) := by decide +kernel
theorem dX3_arrive_51 : decode cX3_arrive 51 = .ok (.getfield 20, 3) := by decide +kernel
theorem dX3_arrive_54 : decode cX3_arrive 54 = .ok (.getfield 55, 3) := by decide +kernel
theorem dX3_arrive_57 : decode cX3_arrive 57 = .ok (.if_icmp .le 18, 3) := by decide +kernel
theorem dX3_arrive_60 : decode cX3_arrive 60 = .ok (.aload_n 0, 1) := by decide +kernel
theorem dX3_arrive_61 : decode cX3_arrive 61 = .ok (.getfield 20, 3) := by decide +kernel
theorem dX3_arrive_64 : decode cX3_arrive 64 = .ok (.dup, 1) := by decide +kernel
theorem dX3_arrive_65 : decode cX3_arrive 65 = .ok (.getfield 134, 3) := by decide +kernel
theorem dX3_arrive_68 : decode cX3_arrive 68 = .ok (.iconst 1, 1) := by decide +kernel
theorem dX3_arrive_69 : decode cX3_arrive 69 = .ok (.iadd, 1) := by decide +kernel
theorem dX3_arrive_70 : decode cX3_arrive 70 = .ok (.putfield 134, 3) := by decide +kernel
theorem dX3_arrive_73 : decode cX3_arrive 73 = .ok (.iconst 0, 1) := by decide +kernel
theorem dX3_arrive_74 : decode cX3_arrive 74 = .ok (.ireturn, 1) := by decide +kernel
theorem dX3_arrive_75 : decode cX3_arrive 75 = .ok (.aload_n 0, 1) := by decide +kernel
theorem dX3_arrive_76 : decode cX3_arrive 76 = .ok (.getfield 20, 3) := by decide +kernel
theorem dX3_arrive_79 : decode cX3_arrive 79 = .ok (.iload_n 1, 1) := by decide +kernel
theorem dX3_arrive_80 : decode cX3_arrive 80 = .ok (.iload 4, 2) := by decide +kernel
theorem dX3_arrive_82 : decode cX3_arrive 82 = .ok (.iload 5, 2) := by decide +kernel
theorem dX3_arrive_84 : decode cX3_arrive 84 = .ok (.invokevirtual 170, 3) := by decide +kernel
theorem dX3_arrive_87 : decode cX3_arrive 87 = .ok (.aload_n 0, 1) := by decide +kernel
theorem dX3_arrive_88 : decode cX3_arrive 88 = .ok (.iload_n 1, 1) := by decide +kernel
theorem dX3_arrive_89 : decode cX3_arrive 89 = .ok (.iload_n 3, 1) := by decide +kernel
theorem dX3_arrive_90 : decode cX3_arrive 90 = .ok (.invokevirtual 125, 3) := by decide +kernel
theorem dX3_arrive_93 : decode cX3_arrive 93 = .ok (.aload_n 0, 1) := by decide +kernel
theorem dX3_arrive_94 : decode cX3_arrive 94 = .ok (.iload_n 1, 1) := by decide +kernel
theorem dX3_arrive_95 : decode cX3_arrive 95 = .ok (.iload_n 2, 1) := by decide +kernel
theorem dX3_arrive_96 : decode cX3_arrive 96 = .ok (.iload_n 3, 1) := by decide +kernel
theorem dX3_arrive_97 : decode cX3_arrive 97 = .ok (.invokevirtual 174, 3) := by decide +kernel
theorem dX3_arrive_100 : decode cX3_arrive 100 = .ok (.iconst 1, 1) := by decide +kernel
theorem dX3_arrive_101 : decode cX3_arrive 101 = .ok (.ireturn, 1) := by decide +kernel
set_option maxRecDepth 20000 in
theorem ggX3_keepContent_X5_contentsOf : GoodIn wsX3_keepContent wsX5_contentsOf := goodIn_r _ [7, 8, 9, 10, 11, 12, 6, 13, 14, 72, 73, 74, 75, 76, 77, 78, 79, 80, 81, 82, 83, 84, 85, 86, 87] (by decide +kernel) (by decide +kernel)
set_option maxRecDepth 20000 in
theorem gX3_keepContent_X5_contentsOf : GoodIn wsX3_keepContent (wsV RX3 177 RX5 yX5_contentsOf wsX5_contentsOf) := goodIn_app (goodIn_of _ (by decide +kernel)) ggX3_keepContent_X5_contentsOf
set_option maxRecDepth 20000 in
theorem ggX3_keepContent_X2_append : GoodIn wsX3_keepContent wsX2_append := goodIn_r _ [19, 20, 21, 88, 89] (by decide +kernel) (by decide +kernel)
set_option maxRecDepth 20000 in
theorem gX3_keepContent_X2_append : GoodIn wsX3_keepContent (wsV RX3 157 RX2 yX2_append wsX2_append) := goodIn_app (goodIn_of _ (by decide +kernel)) ggX3_keepContent_X2_append
set_option maxRecDepth 20000 in
theorem ggX3_keepContent_X2_length : GoodIn wsX3_keepContent wsX2_length := goodIn_r _ [25, 20, 88, 89] (by decide +kernel) (by decide +kernel)
set_option maxRecDepth 20000 in
theorem gX3_keepContent_X2_length : GoodIn wsX3_keepContent (wsV RX3 95 RX2 yX2_length wsX2_length) := goodIn_app (goodIn_of _ (by decide +kernel)) ggX3_keepContent_X2_length
set_option maxRecDepth 20000 in
theorem ggX3_keepContent_X0_findServed : GoodIn wsX3_keepContent wsX0_findServed := goodIn_r _ [30, 31, 32, 33, 34, 35, 6, 36, 37, 38, 39, 40, 41, 42, 43, 44, 45, 46, 90, 91, 92, 72, 73, 74, 75, 76, 77, 78, 79, 80, 81, 82, 83, 84, 85, 86, 87] (by decide +kernel) (by decide +kernel)
set_option maxRecDepth 20000 in
theorem gX3_keepContent_X0_findServed : GoodIn wsX3_keepContent (wsV RX3 61 RX0 yX0_findServed wsX0_findServed) := goodIn_app (goodIn_of _ (by decide +kernel)) ggX3_keepContent_X0_findServed
set_option maxRecDepth 20000 in
theorem ggX3_keepContent_X3_firstServed : GoodIn wsX3_keepContent wsX3_firstServed := goodIn_r _ [51, 2, 22, 23, 24, 18, 25, 20, 52, 53, 54, 55, 21, 56, 57, 58, 59, 60, 61, 62, 63, 29, 64, 31, 69, 70, 71, 88, 89, 90, 91, 92] (by decide +kernel) (by decide +kernel)
set_option maxRecDepth 20000 in
theorem gX3_keepContent_X3_firstServed : GoodIn wsX3_keepContent (wsV RX3 181 RX3 yX3_firstServed wsX3_firstServed) := goodIn_app (goodIn_of _ (by decide +kernel)) ggX3_keepContent_X3_firstServed
set_option maxRecDepth 20000 in
theorem ggX3_keepContent_X2_removeAt : GoodIn wsX3_keepContent wsX2_removeAt := goodIn_r _ [68, 20, 21, 88, 89] (by decide +kernel) (by decide +kernel)
set_option maxRecDepth 20000 in
theorem gX3_keepContent_X2_removeAt : GoodIn wsX3_keepContent (wsV RX3 105 RX2 yX2_removeAt wsX2_removeAt) := goodIn_app (goodIn_of _ (by decide +kernel)) ggX3_keepContent_X2_removeAt
theorem dX3_keepContent_0 : decode cX3_keepContent 0 = .ok (.aload_n 0, 1) := by decide +kernel
theorem dX3_keepContent_1 : decode cX3_keepContent 1 = .ok (.getfield 20, 3) := by decide +kernel
theorem dX3_keepContent_4 : decode cX3_keepContent 4 = .ok (.iload_n 1, 1) := by decide +kernel
theorem dX3_keepContent_5 : decode cX3_keepContent 5 = .ok (.invokevirtual 177, 3) := by decide +kernel
theorem dX3_keepContent_8 : decode cX3_keepContent 8 = .ok (.astore_n 3, 1) := by decide +kernel
theorem dX3_keepContent_9 : decode cX3_keepContent 9 = .ok (.aload_n 3, 1) := by decide +kernel
theorem dX3_keepContent_10 : decode cX3_keepContent 10 = .ok (.iload_n 2, 1) := by decide +kernel
theorem dX3_keepContent_11 : decode cX3_keepContent 11 = .ok (.invokevirtual 157, 3) := by decide +kernel
theorem dX3_keepContent_14 : decode cX3_keepContent 14 = .ok (.pop, 1) := by decide +kernel
theorem dX3_keepContent_15 : decode cX3_keepContent 15 = .ok (.iload_n 1, 1) := by decide +kernel
theorem dX3_keepContent_16 : decode cX3_keepContent 16 = .ok (.ifCond .eq 47, 3) := by decide +kernel
theorem dX3_keepContent_19 : decode cX3_keepContent 19 = .ok (.aload_n 3, 1) := by decide +kernel
theorem dX3_keepContent_20 : decode cX3_keepContent 20 = .ok (.invokevirtual 95, 3) := by decide +kernel
theorem dX3_keepContent_23 : decode cX3_keepContent 23 = .ok (.aload_n 0, 1) := by decide +kernel
theorem dX3_keepContent_24 : decode cX3_keepContent 24 = .ok (.getfield 20, 3) := by decide +kernel
theorem dX3_keepContent_27 : decode cX3_keepContent 27 = .ok (.getfield 58, 3) := by decide +kernel
theorem dX3_keepContent_30 : decode cX3_keepContent 30 = .ok (.if_icmp .le 33, 3) := by decide +kernel
theorem dX3_keepContent_33 : decode cX3_keepContent 33 = .ok (.aload_n 0, 1) := by decide +kernel
theorem dX3_keepContent_34 : decode cX3_keepContent 34 = .ok (.getfield 24, 3) := by decide +kernel
theorem dX3_keepContent_37 : decode cX3_keepContent 37 = .ok (.iload_n 1, 1) := by decide +kernel
theorem dX3_keepContent_38 : decode cX3_keepContent 38 = .ok (.invokevirtual 61, 3) := by decide +kernel
theorem dX3_keepContent_41 : decode cX3_keepContent 41 = .ok (.aload_n 3, 1) := by decide +kernel
theorem dX3_keepContent_42 : decode cX3_keepContent 42 = .ok (.aload_n 0, 1) := by decide +kernel
theorem dX3_keepContent_43 : decode cX3_keepContent 43 = .ok (.aload_n 3, 1) := by decide +kernel
theorem dX3_keepContent_44 : decode cX3_keepContent 44 = .ok (.invokevirtual 181, 3) := by decide +kernel
theorem dX3_keepContent_47 : decode cX3_keepContent 47 = .ok (.invokevirtual 105, 3) := by decide +kernel
theorem dX3_keepContent_50 : decode cX3_keepContent 50 = .ok (.aload_n 0, 1) := by decide +kernel
theorem dX3_keepContent_51 : decode cX3_keepContent 51 = .ok (.getfield 20, 3) := by decide +kernel
theorem dX3_keepContent_54 : decode cX3_keepContent 54 = .ok (.dup, 1) := by decide +kernel
theorem dX3_keepContent_55 : decode cX3_keepContent 55 = .ok (.getfield 185, 3) := by decide +kernel
theorem dX3_keepContent_58 : decode cX3_keepContent 58 = .ok (.iconst 1, 1) := by decide +kernel
theorem dX3_keepContent_59 : decode cX3_keepContent 59 = .ok (.iadd, 1) := by decide +kernel
theorem dX3_keepContent_60 : decode cX3_keepContent 60 = .ok (.putfield 185, 3) := by decide +kernel
theorem dX3_keepContent_63 : decode cX3_keepContent 63 = .ok (.return_, 1) := by decide +kernel
set_option maxRecDepth 20000 in
theorem ggX3_firstServed_X2_length : GoodIn wsX3_firstServed wsX2_length := goodIn_r _ [6, 7, 27, 28] (by decide +kernel) (by decide +kernel)
set_option maxRecDepth 20000 in
theorem gX3_firstServed_X2_length : GoodIn wsX3_firstServed (wsV RX3 95 RX2 yX2_length wsX2_length) := goodIn_app (goodIn_of _ (by decide +kernel)) ggX3_firstServed_X2_length
set_option maxRecDepth 20000 in
theorem ggX3_firstServed_X2_at : GoodIn wsX3_firstServed wsX2_at := goodIn_r _ [11, 7, 12, 27, 28] (by decide +kernel) (by decide +kernel)
set_option maxRecDepth 20000 in
theorem gX3_firstServed_X2_at : GoodIn wsX3_firstServed (wsV RX3 102 RX2 yX2_at wsX2_at) := goodIn_app (goodIn_of _ (by decide +kernel)) ggX3_firstServed_X2_at
set_option maxRecDepth 20000 in
theorem ggX3_firstServed_X7_versionOf : GoodIn wsX3_firstServed wsX7_versionOf := goodIn_r _ [15] (by decide +kernel) (by decide +kernel)
set_option maxRecDepth 20000 in
theorem gX3_firstServed_X7_versionOf_n163 : GoodIn wsX3_firstServed (wsX7_versionOf) := ggX3_firstServed_X7_versionOf
set_option maxRecDepth 20000 in
theorem ggX3_firstServed_X7_originOf : GoodIn wsX3_firstServed wsX7_originOf := goodIn_r _ [17] (by decide +kernel) (by decide +kernel)
set_option maxRecDepth 20000 in
theorem gX3_firstServed_X7_originOf_n160 : GoodIn wsX3_firstServed (wsX7_originOf) := ggX3_firstServed_X7_originOf
set_option maxRecDepth 20000 in
theorem ggX3_firstServed_X0_prefixFound : GoodIn wsX3_firstServed wsX0_prefixFound := goodIn_r _ [22, 23, 29, 30, 31] (by decide +kernel) (by decide +kernel)
set_option maxRecDepth 20000 in
theorem gX3_firstServed_X0_prefixFound : GoodIn wsX3_firstServed (wsV RX3 66 RX0 yX0_prefixFound wsX0_prefixFound) := goodIn_app (goodIn_of _ (by decide +kernel)) ggX3_firstServed_X0_prefixFound
theorem dX3_firstServed_0 : decode cX3_firstServed 0 = .ok (.iconst 0, 1) := by decide +kernel
theorem dX3_firstServed_1 : decode cX3_firstServed 1 = .ok (.istore_n 2, 1) := by decide +kernel
theorem dX3_firstServed_2 : decode cX3_firstServed 2 = .ok (.iload_n 2, 1) := by decide +kernel
theorem dX3_firstServed_3 : decode cX3_firstServed 3 = .ok (.aload_n 1, 1) := by decide +kernel
theorem dX3_firstServed_4 : decode cX3_firstServed 4 = .ok (.invokevirtual 95, 3) := by decide +kernel
theorem dX3_firstServed_7 : decode cX3_firstServed 7 = .ok (.if_icmp .ge 35, 3) := by decide +kernel
theorem dX3_firstServed_10 : decode cX3_firstServed 10 = .ok (.aload_n 1, 1) := by decide +kernel
theorem dX3_firstServed_11 : decode cX3_firstServed 11 = .ok (.iload_n 2, 1) := by decide +kernel
theorem dX3_firstServed_12 : decode cX3_firstServed 12 = .ok (.invokevirtual 102, 3) := by decide +kernel
theorem dX3_firstServed_15 : decode cX3_firstServed 15 = .ok (.istore_n 3, 1) := by decide +kernel
theorem dX3_firstServed_16 : decode cX3_firstServed 16 = .ok (.iload_n 3, 1) := by decide +kernel
theorem dX3_firstServed_17 : decode cX3_firstServed 17 = .ok (.invokestatic 163, 3) := by decide +kernel
theorem dX3_firstServed_20 : decode cX3_firstServed 20 = .ok (.aload_n 0, 1) := by decide +kernel
theorem dX3_firstServed_21 : decode cX3_firstServed 21 = .ok (.getfield 24, 3) := by decide +kernel
theorem dX3_firstServed_24 : decode cX3_firstServed 24 = .ok (.iload_n 3, 1) := by decide +kernel
theorem dX3_firstServed_25 : decode cX3_firstServed 25 = .ok (.invokestatic 160, 3) := by decide +kernel
theorem dX3_firstServed_28 : decode cX3_firstServed 28 = .ok (.invokevirtual 66, 3) := by decide +kernel
theorem dX3_firstServed_31 : decode cX3_firstServed 31 = .ok (.if_icmp .gt 5, 3) := by decide +kernel
theorem dX3_firstServed_34 : decode cX3_firstServed 34 = .ok (.iload_n 2, 1) := by decide +kernel
theorem dX3_firstServed_35 : decode cX3_firstServed 35 = .ok (.ireturn, 1) := by decide +kernel
theorem dX3_firstServed_36 : decode cX3_firstServed 36 = .ok (.iinc 2 1, 3) := by decide +kernel
theorem dX3_firstServed_39 : decode cX3_firstServed 39 = .ok (.goto (-37), 3) := by decide +kernel
theorem dX3_firstServed_42 : decode cX3_firstServed 42 = .ok (.iconst 0, 1) := by decide +kernel
theorem dX3_firstServed_43 : decode cX3_firstServed 43 = .ok (.ireturn, 1) := by decide +kernel
set_option maxRecDepth 20000 in
theorem ggX3_passOn_X5_parentOf : GoodIn wsX3_passOn wsX5_parentOf := goodIn_r _ [6, 7, 40, 41, 42, 43, 44, 45, 46, 47, 48, 49, 50, 51, 52, 53, 54, 55] (by decide +kernel) (by decide +kernel)
set_option maxRecDepth 20000 in
theorem gX3_passOn_X5_parentOf : GoodIn wsX3_passOn (wsV RX3 99 RX5 yX5_parentOf wsX5_parentOf) := goodIn_app (goodIn_of _ (by decide +kernel)) ggX3_passOn_X5_parentOf
set_option maxRecDepth 20000 in
theorem ggX3_passOn_X5_queueOf : GoodIn wsX3_passOn wsX5_queueOf := goodIn_r _ [11, 12, 13, 14, 15, 16, 17, 5, 18, 19, 40, 41, 42, 43, 44, 45, 46, 47, 48, 49, 50, 51, 52, 53, 54, 55] (by decide +kernel) (by decide +kernel)
set_option maxRecDepth 20000 in
theorem gX3_passOn_X5_queueOf : GoodIn wsX3_passOn (wsV RX3 91 RX5 yX5_queueOf wsX5_queueOf) := goodIn_app (goodIn_of _ (by decide +kernel)) ggX3_passOn_X5_queueOf
set_option maxRecDepth 20000 in
theorem ggX3_passOn_X3_enqueue : GoodIn wsX3_passOn wsX3_enqueue := goodIn_r _ [24, 1, 25, 26, 27, 28, 29, 30, 31, 37, 38, 39, 40, 41, 42, 43, 44, 45, 46, 47, 48, 49, 50, 51, 52, 53, 54, 55, 56, 57] (by decide +kernel) (by decide +kernel)
set_option maxRecDepth 20000 in
theorem gX3_passOn_X3_enqueue : GoodIn wsX3_passOn (wsV RX3 188 RX3 yX3_enqueue wsX3_enqueue) := goodIn_app (goodIn_of _ (by decide +kernel)) ggX3_passOn_X3_enqueue
set_option maxRecDepth 20000 in
theorem ggX3_passOn_X5_isChildOf : GoodIn wsX3_passOn wsX5_isChildOf := goodIn_r _ [35, 15, 16, 17, 5, 18, 19, 36, 3, 4, 6, 7, 40, 41, 42, 43, 44, 45, 46, 47, 48, 49, 50, 51, 52, 53, 54, 55] (by decide +kernel) (by decide +kernel)
set_option maxRecDepth 20000 in
theorem gX3_passOn_X5_isChildOf : GoodIn wsX3_passOn (wsV RX3 192 RX5 yX5_isChildOf wsX5_isChildOf) := goodIn_app (goodIn_of _ (by decide +kernel)) ggX3_passOn_X5_isChildOf
theorem dX3_passOn_0 : decode cX3_passOn 0 = .ok (.iload_n 1, 1) := by decide +kernel
theorem dX3_passOn_1 : decode cX3_passOn 1 = .ok (.ifCond .eq 29, 3) := by decide +kernel
theorem dX3_passOn_4 : decode cX3_passOn 4 = .ok (.aload_n 0, 1) := by decide +kernel
theorem dX3_passOn_5 : decode cX3_passOn 5 = .ok (.getfield 20, 3) := by decide +kernel
theorem dX3_passOn_8 : decode cX3_passOn 8 = .ok (.iload_n 1, 1) := by decide +kernel
theorem dX3_passOn_9 : decode cX3_passOn 9 = .ok (.invokevirtual 99, 3) := by decide +kernel
theorem dX3_passOn_12 : decode cX3_passOn 12 = .ok (.iload_n 2, 1) := by decide +kernel
theorem dX3_passOn_13 : decode cX3_passOn 13 = .ok (.if_icmp .eq 17, 3) := by decide +kernel
theorem dX3_passOn_16 : decode cX3_passOn 16 = .ok (.aload_n 0, 1) := by decide +kernel
theorem dX3_passOn_17 : decode cX3_passOn 17 = .ok (.aload_n 0, 1) := by decide +kernel
theorem dX3_passOn_18 : decode cX3_passOn 18 = .ok (.getfield 20, 3) := by decide +kernel
theorem dX3_passOn_21 : decode cX3_passOn 21 = .ok (.iload_n 1, 1) := by decide +kernel
theorem dX3_passOn_22 : decode cX3_passOn 22 = .ok (.iconst 0, 1) := by decide +kernel
theorem dX3_passOn_23 : decode cX3_passOn 23 = .ok (.invokevirtual 91, 3) := by decide +kernel
theorem dX3_passOn_26 : decode cX3_passOn 26 = .ok (.iload_n 3, 1) := by decide +kernel
theorem dX3_passOn_27 : decode cX3_passOn 27 = .ok (.invokevirtual 188, 3) := by decide +kernel
theorem dX3_passOn_30 : decode cX3_passOn 30 = .ok (.iconst 1, 1) := by decide +kernel
theorem dX3_passOn_31 : decode cX3_passOn 31 = .ok (.istore 4, 2) := by decide +kernel
theorem dX3_passOn_33 : decode cX3_passOn 33 = .ok (.iload 4, 2) := by decide +kernel
theorem dX3_passOn_35 : decode cX3_passOn 35 = .ok (.aload_n 0, 1) := by decide +kernel
theorem dX3_passOn_36 : decode cX3_passOn 36 = .ok (.getfield 20, 3) := by decide +kernel
theorem dX3_passOn_39 : decode cX3_passOn 39 = .ok (.getfield 34, 3) := by decide +kernel
theorem dX3_passOn_42 : decode cX3_passOn 42 = .ok (.if_icmp .ge 43, 3) := by decide +kernel
theorem dX3_passOn_45 : decode cX3_passOn 45 = .ok (.iload 4, 2) := by decide +kernel
theorem dX3_passOn_47 : decode cX3_passOn 47 = .ok (.iload_n 2, 1) := by decide +kernel
theorem dX3_passOn_48 : decode cX3_passOn 48 = .ok (.if_icmp .eq 31, 3) := by decide +kernel
theorem dX3_passOn_51 : decode cX3_passOn 51 = .ok (.aload_n 0, 1) := by decide +kernel
theorem dX3_passOn_52 : decode cX3_passOn 52 = .ok (.getfield 20, 3) := by decide +kernel
theorem dX3_passOn_55 : decode cX3_passOn 55 = .ok (.iload 4, 2) := by decide +kernel
theorem dX3_passOn_57 : decode cX3_passOn 57 = .ok (.iload_n 1, 1) := by decide +kernel
theorem dX3_passOn_58 : decode cX3_passOn 58 = .ok (.invokevirtual 192, 3) := by decide +kernel
theorem dX3_passOn_61 : decode cX3_passOn 61 = .ok (.ifCond .eq 18, 3) := by decide +kernel
theorem dX3_passOn_64 : decode cX3_passOn 64 = .ok (.aload_n 0, 1) := by decide +kernel
theorem dX3_passOn_65 : decode cX3_passOn 65 = .ok (.aload_n 0, 1) := by decide +kernel
theorem dX3_passOn_66 : decode cX3_passOn 66 = .ok (.getfield 20, 3) := by decide +kernel
theorem dX3_passOn_69 : decode cX3_passOn 69 = .ok (.iload 4, 2) := by decide +kernel
theorem dX3_passOn_71 : decode cX3_passOn 71 = .ok (.iconst 1, 1) := by decide +kernel
theorem dX3_passOn_72 : decode cX3_passOn 72 = .ok (.invokevirtual 91, 3) := by decide +kernel
theorem dX3_passOn_75 : decode cX3_passOn 75 = .ok (.iload_n 3, 1) := by decide +kernel
theorem dX3_passOn_76 : decode cX3_passOn 76 = .ok (.invokevirtual 188, 3) := by decide +kernel
theorem dX3_passOn_79 : decode cX3_passOn 79 = .ok (.iinc 4 1, 3) := by decide +kernel
theorem dX3_passOn_82 : decode cX3_passOn 82 = .ok (.goto (-49), 3) := by decide +kernel
theorem dX3_passOn_85 : decode cX3_passOn 85 = .ok (.return_, 1) := by decide +kernel
set_option maxRecDepth 20000 in
theorem ggX3_enqueue_X2_append : GoodIn wsX3_enqueue wsX2_append := goodIn_r _ [6, 7, 8, 28, 29] (by decide +kernel) (by decide +kernel)
set_option maxRecDepth 20000 in
theorem gX3_enqueue_X2_append : GoodIn wsX3_enqueue (wsV RX3 157 RX2 yX2_append wsX2_append) := goodIn_app (goodIn_of _ (by decide +kernel)) ggX3_enqueue_X2_append
theorem dX3_enqueue_0 : decode cX3_enqueue 0 = .ok (.aload_n 1, 1) := by decide +kernel
theorem dX3_enqueue_1 : decode cX3_enqueue 1 = .ok (.iload_n 2, 1) := by decide +kernel
theorem dX3_enqueue_2 : decode cX3_enqueue 2 = .ok (.invokevirtual 157, 3) := by decide +kernel
theorem dX3_enqueue_5 : decode cX3_enqueue 5 = .ok (.ifCond .ne 16, 3) := by decide +kernel
theorem dX3_enqueue_8 : decode cX3_enqueue 8 = .ok (.aload_n 0, 1) := by decide +kernel
theorem dX3_enqueue_9 : decode cX3_enqueue 9 = .ok (.getfield 20, 3) := by decide +kernel
theorem dX3_enqueue_12 : decode cX3_enqueue 12 = .ok (.dup, 1) := by decide +kernel
theorem dX3_enqueue_13 : decode cX3_enqueue 13 = .ok (.getfield 195, 3) := by decide +kernel
theorem dX3_enqueue_16 : decode cX3_enqueue 16 = .ok (.iconst 1, 1) := by decide +kernel
theorem dX3_enqueue_17 : decode cX3_enqueue 17 = .ok (.iadd, 1) := by decide +kernel
theorem dX3_enqueue_18 : decode cX3_enqueue 18 = .ok (.putfield 195, 3) := by decide +kernel
theorem dX3_enqueue_21 : decode cX3_enqueue 21 = .ok (.return_, 1) := by decide +kernel
theorem dX3_isTakeable_0 : decode cX3_isTakeable 0 = .ok (.iload_n 0, 1) := by decide +kernel
theorem dX3_isTakeable_1 : decode cX3_isTakeable 1 = .ok (.iconst 1, 1) := by decide +kernel
theorem dX3_isTakeable_2 : decode cX3_isTakeable 2 = .ok (.if_icmp .lt 13, 3) := by decide +kernel
theorem dX3_isTakeable_5 : decode cX3_isTakeable 5 = .ok (.iload_n 0, 1) := by decide +kernel
theorem dX3_isTakeable_6 : decode cX3_isTakeable 6 = .ok (.bipush 9, 2) := by decide +kernel
theorem dX3_isTakeable_8 : decode cX3_isTakeable 8 = .ok (.if_icmp .gt 7, 3) := by decide +kernel
theorem dX3_isTakeable_11 : decode cX3_isTakeable 11 = .ok (.iconst 1, 1) := by decide +kernel
theorem dX3_isTakeable_12 : decode cX3_isTakeable 12 = .ok (.goto 4, 3) := by decide +kernel
theorem dX3_isTakeable_15 : decode cX3_isTakeable 15 = .ok (.iconst 0, 1) := by decide +kernel
theorem dX3_isTakeable_16 : decode cX3_isTakeable 16 = .ok (.ireturn, 1) := by decide +kernel
set_option maxRecDepth 20000 in
theorem ggX4_init_X2_init : GoodIn wsX4_init wsX2_init := goodIn_r _ [12, 13, 2, 3, 14, 15, 16, 17, 18, 19, 20, 21] (by decide +kernel) (by decide +kernel)
set_option maxRecDepth 20000 in
theorem gX4_init_X2_init : GoodIn wsX4_init (wsX2_init) := ggX4_init_X2_init
theorem dX4_init_0 : decode cX4_init 0 = .ok (.aload_n 0, 1) := by decide +kernel
theorem dX4_init_1 : decode cX4_init 1 = .ok (.invokespecial 3, 3) := by decide +kernel
theorem dX4_init_4 : decode cX4_init 4 = .ok (.aload_n 0, 1) := by decide +kernel
theorem dX4_init_5 : decode cX4_init 5 = .ok (.new 9, 3) := by decide +kernel
theorem dX4_init_8 : decode cX4_init 8 = .ok (.dup, 1) := by decide +kernel
theorem dX4_init_9 : decode cX4_init 9 = .ok (.bipush 100, 2) := by decide +kernel
theorem dX4_init_11 : decode cX4_init 11 = .ok (.invokespecial 11, 3) := by decide +kernel
theorem dX4_init_14 : decode cX4_init 14 = .ok (.putfield 14, 3) := by decide +kernel
theorem dX4_init_17 : decode cX4_init 17 = .ok (.aload_n 0, 1) := by decide +kernel
theorem dX4_init_18 : decode cX4_init 18 = .ok (.new 9, 3) := by decide +kernel
theorem dX4_init_21 : decode cX4_init 21 = .ok (.dup, 1) := by decide +kernel
theorem dX4_init_22 : decode cX4_init 22 = .ok (.bipush 100, 2) := by decide +kernel
theorem dX4_init_24 : decode cX4_init 24 = .ok (.invokespecial 11, 3) := by decide +kernel
theorem dX4_init_27 : decode cX4_init 27 = .ok (.putfield 20, 3) := by decide +kernel
theorem dX4_init_30 : decode cX4_init 30 = .ok (.aload_n 0, 1) := by decide +kernel
theorem dX4_init_31 : decode cX4_init 31 = .ok (.new 9, 3) := by decide +kernel
theorem dX4_init_34 : decode cX4_init 34 = .ok (.dup, 1) := by decide +kernel
theorem dX4_init_35 : decode cX4_init 35 = .ok (.bipush 100, 2) := by decide +kernel
theorem dX4_init_37 : decode cX4_init 37 = .ok (.invokespecial 11, 3) := by decide +kernel
theorem dX4_init_40 : decode cX4_init 40 = .ok (.putfield 23, 3) := by decide +kernel
theorem dX4_init_43 : decode cX4_init 43 = .ok (.return_, 1) := by decide +kernel
set_option maxRecDepth 20000 in
theorem ggX5_init_X2_init : GoodIn wsX5_init wsX2_init := goodIn_r _ [22, 23, 2, 3, 24, 25, 26, 27, 7, 28, 45, 46] (by decide +kernel) (by decide +kernel)
set_option maxRecDepth 20000 in
theorem gX5_init_X2_init : GoodIn wsX5_init (wsX2_init) := ggX5_init_X2_init
theorem dX5_init_0 : decode cX5_init 0 = .ok (.aload_n 0, 1) := by decide +kernel
theorem dX5_init_1 : decode cX5_init 1 = .ok (.invokespecial 3, 3) := by decide +kernel
theorem dX5_init_4 : decode cX5_init 4 = .ok (.aload_n 0, 1) := by decide +kernel
theorem dX5_init_5 : decode cX5_init 5 = .ok (.iconst 1, 1) := by decide +kernel
theorem dX5_init_6 : decode cX5_init 6 = .ok (.putfield 9, 3) := by decide +kernel
theorem dX5_init_9 : decode cX5_init 9 = .ok (.aload_n 0, 1) := by decide +kernel
theorem dX5_init_10 : decode cX5_init 10 = .ok (.bipush 8, 2) := by decide +kernel
theorem dX5_init_12 : decode cX5_init 12 = .ok (.putfield 15, 3) := by decide +kernel
theorem dX5_init_15 : decode cX5_init 15 = .ok (.aload_n 0, 1) := by decide +kernel
theorem dX5_init_16 : decode cX5_init 16 = .ok (.bipush 12, 2) := by decide +kernel
theorem dX5_init_18 : decode cX5_init 18 = .ok (.putfield 18, 3) := by decide +kernel
theorem dX5_init_21 : decode cX5_init 21 = .ok (.aload_n 0, 1) := by decide +kernel
theorem dX5_init_22 : decode cX5_init 22 = .ok (.bipush 8, 2) := by decide +kernel
theorem dX5_init_24 : decode cX5_init 24 = .ok (.newarray .int, 2) := by decide +kernel
theorem dX5_init_26 : decode cX5_init 26 = .ok (.putfield 21, 3) := by decide +kernel
theorem dX5_init_29 : decode cX5_init 29 = .ok (.aload_n 0, 1) := by decide +kernel
theorem dX5_init_30 : decode cX5_init 30 = .ok (.iconst 4, 1) := by decide +kernel
theorem dX5_init_31 : decode cX5_init 31 = .ok (.newarray .int, 2) := by decide +kernel
theorem dX5_init_33 : decode cX5_init 33 = .ok (.putfield 25, 3) := by decide +kernel
theorem dX5_init_36 : decode cX5_init 36 = .ok (.aload_n 0, 1) := by decide +kernel
theorem dX5_init_37 : decode cX5_init 37 = .ok (.iconst 4, 1) := by decide +kernel
theorem dX5_init_38 : decode cX5_init 38 = .ok (.newarray .int, 2) := by decide +kernel
theorem dX5_init_40 : decode cX5_init 40 = .ok (.putfield 28, 3) := by decide +kernel
theorem dX5_init_43 : decode cX5_init 43 = .ok (.aload_n 0, 1) := by decide +kernel
theorem dX5_init_44 : decode cX5_init 44 = .ok (.bipush 32, 2) := by decide +kernel
theorem dX5_init_46 : decode cX5_init 46 = .ok (.newarray .int, 2) := by decide +kernel
theorem dX5_init_48 : decode cX5_init 48 = .ok (.putfield 31, 3) := by decide +kernel
theorem dX5_init_51 : decode cX5_init 51 = .ok (.aload_n 0, 1) := by decide +kernel
theorem dX5_init_52 : decode cX5_init 52 = .ok (.sipush 384, 3) := by decide +kernel
theorem dX5_init_55 : decode cX5_init 55 = .ok (.newarray .int, 2) := by decide +kernel
theorem dX5_init_57 : decode cX5_init 57 = .ok (.putfield 34, 3) := by decide +kernel
theorem dX5_init_60 : decode cX5_init 60 = .ok (.aload_n 0, 1) := by decide +kernel
theorem dX5_init_61 : decode cX5_init 61 = .ok (.bipush 8, 2) := by decide +kernel
theorem dX5_init_63 : decode cX5_init 63 = .ok (.anewarray 37, 3) := by decide +kernel
theorem dX5_init_66 : decode cX5_init 66 = .ok (.putfield 39, 3) := by decide +kernel
theorem dX5_init_69 : decode cX5_init 69 = .ok (.aload_n 0, 1) := by decide +kernel
theorem dX5_init_70 : decode cX5_init 70 = .ok (.bipush 8, 2) := by decide +kernel
theorem dX5_init_72 : decode cX5_init 72 = .ok (.anewarray 37, 3) := by decide +kernel
theorem dX5_init_75 : decode cX5_init 75 = .ok (.putfield 43, 3) := by decide +kernel
theorem dX5_init_78 : decode cX5_init 78 = .ok (.aload_n 0, 1) := by decide +kernel
theorem dX5_init_79 : decode cX5_init 79 = .ok (.bipush 8, 2) := by decide +kernel
theorem dX5_init_81 : decode cX5_init 81 = .ok (.anewarray 37, 3) := by decide +kernel
theorem dX5_init_84 : decode cX5_init 84 = .ok (.putfield 46, 3) := by decide +kernel
theorem dX5_init_87 : decode cX5_init 87 = .ok (.aload_n 0, 1) := by decide +kernel
theorem dX5_init_88 : decode cX5_init 88 = .ok (.new 37, 3) := by decide +kernel
theorem dX5_init_91 : decode cX5_init 91 = .ok (.dup, 1) := by decide +kernel
theorem dX5_init_92 : decode cX5_init 92 = .ok (.iconst 0, 1) := by decide +kernel
theorem dX5_init_93 : decode cX5_init 93 = .ok (.invokespecial 49, 3) := by decide +kernel
theorem dX5_init_96 : decode cX5_init 96 = .ok (.putfield 52, 3) := by decide +kernel
theorem dX5_init_99 : decode cX5_init 99 = .ok (.iconst 0, 1) := by decide +kernel
theorem dX5_init_100 : decode cX5_init 100 = .ok (.istore_n 1, 1) := by decide +kernel
theorem dX5_init_101 : decode cX5_init 101 = .ok (.iload_n 1, 1) := by decide +kernel
theorem dX5_init_102 : decode cX5_init 102 = .ok (.bipush 8, 2) := by decide +kernel
theorem dX5_init_104 : decode cX5_init 104 = .ok (.if_icmp .ge 79, 3) := by decide +kernel
theorem dX5_init_107 : decode cX5_init 107 = .ok (.aload_n 0, 1) := by decide +kernel
theorem dX5_init_108 : decode cX5_init 108 = .ok (.getfield 39, 3) := by decide +kernel
theorem dX5_init_111 : decode cX5_init 111 = .ok (.iload_n 1, 1) := by decide +kernel
theorem dX5_init_112 : decode cX5_init 112 = .ok (.new 37, 3) := by decide +kernel
theorem dX5_init_115 : decode cX5_init 115 = .ok (.dup, 1) := by decide +kernel
theorem dX5_init_116 : decode cX5_init 116 = .ok (.iload_n 1, 1) := by decide +kernel
theorem dX5_init_117 : decode cX5_init 117 = .ok (.ifCond .ne 8, 3) := by decide +kernel
theorem dX5_init_120 : decode cX5_init 120 = .ok (.bipush 96, 2) := by decide +kernel
theorem dX5_init_122 : decode cX5_init 122 = .ok (.goto 5, 3) := by decide +kernel
theorem dX5_init_125 : decode cX5_init 125 = .ok (.bipush 13, 2) := by decide +kernel
theorem dX5_init_127 : decode cX5_init 127 = .ok (.invokespecial 49, 3) := by decide +kernel
theorem dX5_init_130 : decode cX5_init 130 = .ok (.aastore, 1) := by decide +kernel
theorem dX5_init_131 : decode cX5_init 131 = .ok (.aload_n 0, 1) := by decide +kernel
theorem dX5_init_132 : decode cX5_init 132 = .ok (.getfield 43, 3) := by decide +kernel
theorem dX5_init_135 : decode cX5_init 135 = .ok (.iload_n 1, 1) := by decide +kernel
theorem dX5_init_136 : decode cX5_init 136 = .ok (.new 37, 3) := by decide +kernel
theorem dX5_init_139 : decode cX5_init 139 = .ok (.dup, 1) := by decide +kernel
theorem dX5_init_140 : decode cX5_init 140 = .ok (.iload_n 1, 1) := by decide +kernel
theorem dX5_init_141 : decode cX5_init 141 = .ok (.ifCond .ne 7, 3) := by decide +kernel
theorem dX5_init_144 : decode cX5_init 144 = .ok (.iconst 0, 1) := by decide +kernel
theorem dX5_init_145 : decode cX5_init 145 = .ok (.goto 5, 3) := by decide +kernel
theorem dX5_init_148 : decode cX5_init 148 = .ok (.bipush 12, 2) := by decide +kernel
theorem dX5_init_150 : decode cX5_init 150 = .ok (.invokespecial 49, 3) := by decide +kernel
theorem dX5_init_153 : decode cX5_init 153 = .ok (.aastore, 1) := by decide +kernel
theorem dX5_init_154 : decode cX5_init 154 = .ok (.aload_n 0, 1) := by decide +kernel
theorem dX5_init_155 : decode cX5_init 155 = .ok (.getfield 46, 3) := by decide +kernel
theorem dX5_init_158 : decode cX5_init 158 = .ok (.iload_n 1, 1) := by decide +kernel
theorem dX5_init_159 : decode cX5_init 159 = .ok (.new 37, 3) := by decide +kernel
theorem dX5_init_162 : decode cX5_init 162 = .ok (.dup, 1) := by decide +kernel
theorem dX5_init_163 : decode cX5_init 163 = .ok (.iload_n 1, 1) := by decide +kernel
theorem dX5_init_164 : decode cX5_init 164 = .ok (.ifCond .ne 7, 3) := by decide +kernel
theorem dX5_init_167 : decode cX5_init 167 = .ok (.iconst 0, 1) := by decide +kernel
theorem dX5_init_168 : decode cX5_init 168 = .ok (.goto 5, 3) := by decide +kernel
theorem dX5_init_171 : decode cX5_init 171 = .ok (.bipush 12, 2) := by decide +kernel
theorem dX5_init_173 : decode cX5_init 173 = .ok (.invokespecial 49, 3) := by decide +kernel
theorem dX5_init_176 : decode cX5_init 176 = .ok (.aastore, 1) := by decide +kernel
theorem dX5_init_177 : decode cX5_init 177 = .ok (.iinc 1 1, 3) := by decide +kernel
theorem dX5_init_180 : decode cX5_init 180 = .ok (.goto (-79), 3) := by decide +kernel
theorem dX5_init_183 : decode cX5_init 183 = .ok (.return_, 1) := by decide +kernel
set_option maxRecDepth 20000 in
theorem ggX5_copyFrom_X2_copyFrom : GoodIn wsX5_copyFrom wsX2_copyFrom := goodIn_r _ [24, 25, 26, 27, 28, 29, 30, 10, 11, 12, 31, 48, 49] (by decide +kernel) (by decide +kernel)
set_option maxRecDepth 20000 in
theorem gX5_copyFrom_X2_copyFrom : GoodIn wsX5_copyFrom (wsV RX5 74 RX2 yX2_copyFrom wsX2_copyFrom) := goodIn_app (goodIn_of _ (by decide +kernel)) ggX5_copyFrom_X2_copyFrom
theorem dX5_copyFrom_0 : decode cX5_copyFrom 0 = .ok (.aload_n 0, 1) := by decide +kernel
theorem dX5_copyFrom_1 : decode cX5_copyFrom 1 = .ok (.aload_n 1, 1) := by decide +kernel
theorem dX5_copyFrom_2 : decode cX5_copyFrom 2 = .ok (.getfield 9, 3) := by decide +kernel
theorem dX5_copyFrom_5 : decode cX5_copyFrom 5 = .ok (.putfield 9, 3) := by decide +kernel
theorem dX5_copyFrom_8 : decode cX5_copyFrom 8 = .ok (.aload_n 0, 1) := by decide +kernel
theorem dX5_copyFrom_9 : decode cX5_copyFrom 9 = .ok (.aload_n 1, 1) := by decide +kernel
theorem dX5_copyFrom_10 : decode cX5_copyFrom 10 = .ok (.getfield 15, 3) := by decide +kernel
theorem dX5_copyFrom_13 : decode cX5_copyFrom 13 = .ok (.putfield 15, 3) := by decide +kernel
theorem dX5_copyFrom_16 : decode cX5_copyFrom 16 = .ok (.aload_n 0, 1) := by decide +kernel
theorem dX5_copyFrom_17 : decode cX5_copyFrom 17 = .ok (.aload_n 1, 1) := by decide +kernel
theorem dX5_copyFrom_18 : decode cX5_copyFrom 18 = .ok (.getfield 18, 3) := by decide +kernel
theorem dX5_copyFrom_21 : decode cX5_copyFrom 21 = .ok (.putfield 18, 3) := by decide +kernel
theorem dX5_copyFrom_24 : decode cX5_copyFrom 24 = .ok (.aload_n 0, 1) := by decide +kernel
theorem dX5_copyFrom_25 : decode cX5_copyFrom 25 = .ok (.aload_n 1, 1) := by decide +kernel
theorem dX5_copyFrom_26 : decode cX5_copyFrom 26 = .ok (.getfield 56, 3) := by decide +kernel
theorem dX5_copyFrom_29 : decode cX5_copyFrom 29 = .ok (.putfield 56, 3) := by decide +kernel
theorem dX5_copyFrom_32 : decode cX5_copyFrom 32 = .ok (.aload_n 0, 1) := by decide +kernel
theorem dX5_copyFrom_33 : decode cX5_copyFrom 33 = .ok (.aload_n 1, 1) := by decide +kernel
theorem dX5_copyFrom_34 : decode cX5_copyFrom 34 = .ok (.getfield 59, 3) := by decide +kernel
theorem dX5_copyFrom_37 : decode cX5_copyFrom 37 = .ok (.putfield 59, 3) := by decide +kernel
theorem dX5_copyFrom_40 : decode cX5_copyFrom 40 = .ok (.aload_n 0, 1) := by decide +kernel
theorem dX5_copyFrom_41 : decode cX5_copyFrom 41 = .ok (.aload_n 1, 1) := by decide +kernel
theorem dX5_copyFrom_42 : decode cX5_copyFrom 42 = .ok (.getfield 62, 3) := by decide +kernel
theorem dX5_copyFrom_45 : decode cX5_copyFrom 45 = .ok (.putfield 62, 3) := by decide +kernel
theorem dX5_copyFrom_48 : decode cX5_copyFrom 48 = .ok (.aload_n 0, 1) := by decide +kernel
theorem dX5_copyFrom_49 : decode cX5_copyFrom 49 = .ok (.aload_n 1, 1) := by decide +kernel
theorem dX5_copyFrom_50 : decode cX5_copyFrom 50 = .ok (.getfield 65, 3) := by decide +kernel
theorem dX5_copyFrom_53 : decode cX5_copyFrom 53 = .ok (.putfield 65, 3) := by decide +kernel
theorem dX5_copyFrom_56 : decode cX5_copyFrom 56 = .ok (.aload_n 1, 1) := by decide +kernel
theorem dX5_copyFrom_57 : decode cX5_copyFrom 57 = .ok (.getfield 21, 3) := by decide +kernel
theorem dX5_copyFrom_60 : decode cX5_copyFrom 60 = .ok (.iconst 0, 1) := by decide +kernel
theorem dX5_copyFrom_61 : decode cX5_copyFrom 61 = .ok (.aload_n 0, 1) := by decide +kernel
theorem dX5_copyFrom_62 : decode cX5_copyFrom 62 = .ok (.getfield 21, 3) := by decide +kernel
theorem dX5_copyFrom_65 : decode cX5_copyFrom 65 = .ok (.iconst 0, 1) := by decide +kernel
theorem dX5_copyFrom_66 : decode cX5_copyFrom 66 = .ok (.bipush 8, 2) := by decide +kernel
theorem dX5_copyFrom_68 : decode cX5_copyFrom 68 = .ok (.invokestatic 68, 3) := by decide +kernel
theorem dX5_copyFrom_71 : decode cX5_copyFrom 71 = .ok (.aload_n 1, 1) := by decide +kernel
theorem dX5_copyFrom_72 : decode cX5_copyFrom 72 = .ok (.getfield 25, 3) := by decide +kernel
theorem dX5_copyFrom_75 : decode cX5_copyFrom 75 = .ok (.iconst 0, 1) := by decide +kernel
theorem dX5_copyFrom_76 : decode cX5_copyFrom 76 = .ok (.aload_n 0, 1) := by decide +kernel
theorem dX5_copyFrom_77 : decode cX5_copyFrom 77 = .ok (.getfield 25, 3) := by decide +kernel
theorem dX5_copyFrom_80 : decode cX5_copyFrom 80 = .ok (.iconst 0, 1) := by decide +kernel
theorem dX5_copyFrom_81 : decode cX5_copyFrom 81 = .ok (.iconst 4, 1) := by decide +kernel
theorem dX5_copyFrom_82 : decode cX5_copyFrom 82 = .ok (.invokestatic 68, 3) := by decide +kernel
theorem dX5_copyFrom_85 : decode cX5_copyFrom 85 = .ok (.aload_n 1, 1) := by decide +kernel
theorem dX5_copyFrom_86 : decode cX5_copyFrom 86 = .ok (.getfield 28, 3) := by decide +kernel
theorem dX5_copyFrom_89 : decode cX5_copyFrom 89 = .ok (.iconst 0, 1) := by decide +kernel
theorem dX5_copyFrom_90 : decode cX5_copyFrom 90 = .ok (.aload_n 0, 1) := by decide +kernel
theorem dX5_copyFrom_91 : decode cX5_copyFrom 91 = .ok (.getfield 28, 3) := by decide +kernel
theorem dX5_copyFrom_94 : decode cX5_copyFrom 94 = .ok (.iconst 0, 1) := by decide +kernel
theorem dX5_copyFrom_95 : decode cX5_copyFrom 95 = .ok (.iconst 4, 1) := by decide +kernel
theorem dX5_copyFrom_96 : decode cX5_copyFrom 96 = .ok (.invokestatic 68, 3) := by decide +kernel
theorem dX5_copyFrom_99 : decode cX5_copyFrom 99 = .ok (.aload_n 1, 1) := by decide +kernel
theorem dX5_copyFrom_100 : decode cX5_copyFrom 100 = .ok (.getfield 31, 3) := by decide +kernel
theorem dX5_copyFrom_103 : decode cX5_copyFrom 103 = .ok (.iconst 0, 1) := by decide +kernel
theorem dX5_copyFrom_104 : decode cX5_copyFrom 104 = .ok (.aload_n 0, 1) := by decide +kernel
theorem dX5_copyFrom_105 : decode cX5_copyFrom 105 = .ok (.getfield 31, 3) := by decide +kernel
theorem dX5_copyFrom_108 : decode cX5_copyFrom 108 = .ok (.iconst 0, 1) := by decide +kernel
theorem dX5_copyFrom_109 : decode cX5_copyFrom 109 = .ok (.bipush 32, 2) := by decide +kernel
theorem dX5_copyFrom_111 : decode cX5_copyFrom 111 = .ok (.invokestatic 68, 3) := by decide +kernel
theorem dX5_copyFrom_114 : decode cX5_copyFrom 114 = .ok (.aload_n 1, 1) := by decide +kernel
theorem dX5_copyFrom_115 : decode cX5_copyFrom 115 = .ok (.getfield 34, 3) := by decide +kernel
theorem dX5_copyFrom_118 : decode cX5_copyFrom 118 = .ok (.iconst 0, 1) := by decide +kernel
theorem dX5_copyFrom_119 : decode cX5_copyFrom 119 = .ok (.aload_n 0, 1) := by decide +kernel
theorem dX5_copyFrom_120 : decode cX5_copyFrom 120 = .ok (.getfield 34, 3) := by decide +kernel
theorem dX5_copyFrom_123 : decode cX5_copyFrom 123 = .ok (.iconst 0, 1) := by decide +kernel
theorem dX5_copyFrom_124 : decode cX5_copyFrom 124 = .ok (.sipush 384, 3) := by decide +kernel
theorem dX5_copyFrom_127 : decode cX5_copyFrom 127 = .ok (.invokestatic 68, 3) := by decide +kernel
theorem dX5_copyFrom_130 : decode cX5_copyFrom 130 = .ok (.iconst 0, 1) := by decide +kernel
theorem dX5_copyFrom_131 : decode cX5_copyFrom 131 = .ok (.istore_n 2, 1) := by decide +kernel
theorem dX5_copyFrom_132 : decode cX5_copyFrom 132 = .ok (.iload_n 2, 1) := by decide +kernel
theorem dX5_copyFrom_133 : decode cX5_copyFrom 133 = .ok (.bipush 8, 2) := by decide +kernel
theorem dX5_copyFrom_135 : decode cX5_copyFrom 135 = .ok (.if_icmp .ge 54, 3) := by decide +kernel
theorem dX5_copyFrom_138 : decode cX5_copyFrom 138 = .ok (.aload_n 0, 1) := by decide +kernel
theorem dX5_copyFrom_139 : decode cX5_copyFrom 139 = .ok (.getfield 39, 3) := by decide +kernel
theorem dX5_copyFrom_142 : decode cX5_copyFrom 142 = .ok (.iload_n 2, 1) := by decide +kernel
theorem dX5_copyFrom_143 : decode cX5_copyFrom 143 = .ok (.aaload, 1) := by decide +kernel
theorem dX5_copyFrom_144 : decode cX5_copyFrom 144 = .ok (.aload_n 1, 1) := by decide +kernel
theorem dX5_copyFrom_145 : decode cX5_copyFrom 145 = .ok (.getfield 39, 3) := by decide +kernel
theorem dX5_copyFrom_148 : decode cX5_copyFrom 148 = .ok (.iload_n 2, 1) := by decide +kernel
theorem dX5_copyFrom_149 : decode cX5_copyFrom 149 = .ok (.aaload, 1) := by decide +kernel
theorem dX5_copyFrom_150 : decode cX5_copyFrom 150 = .ok (.invokevirtual 74, 3) := by decide +kernel
theorem dX5_copyFrom_153 : decode cX5_copyFrom 153 = .ok (.aload_n 0, 1) := by decide +kernel
theorem dX5_copyFrom_154 : decode cX5_copyFrom 154 = .ok (.getfield 43, 3) := by decide +kernel
theorem dX5_copyFrom_157 : decode cX5_copyFrom 157 = .ok (.iload_n 2, 1) := by decide +kernel
theorem dX5_copyFrom_158 : decode cX5_copyFrom 158 = .ok (.aaload, 1) := by decide +kernel
theorem dX5_copyFrom_159 : decode cX5_copyFrom 159 = .ok (.aload_n 1, 1) := by decide +kernel
theorem dX5_copyFrom_160 : decode cX5_copyFrom 160 = .ok (.getfield 43, 3) := by decide +kernel
theorem dX5_copyFrom_163 : decode cX5_copyFrom 163 = .ok (.iload_n 2, 1) := by decide +kernel
theorem dX5_copyFrom_164 : decode cX5_copyFrom 164 = .ok (.aaload, 1) := by decide +kernel
theorem dX5_copyFrom_165 : decode cX5_copyFrom 165 = .ok (.invokevirtual 74, 3) := by decide +kernel
theorem dX5_copyFrom_168 : decode cX5_copyFrom 168 = .ok (.aload_n 0, 1) := by decide +kernel
theorem dX5_copyFrom_169 : decode cX5_copyFrom 169 = .ok (.getfield 46, 3) := by decide +kernel
theorem dX5_copyFrom_172 : decode cX5_copyFrom 172 = .ok (.iload_n 2, 1) := by decide +kernel
theorem dX5_copyFrom_173 : decode cX5_copyFrom 173 = .ok (.aaload, 1) := by decide +kernel
theorem dX5_copyFrom_174 : decode cX5_copyFrom 174 = .ok (.aload_n 1, 1) := by decide +kernel
theorem dX5_copyFrom_175 : decode cX5_copyFrom 175 = .ok (.getfield 46, 3) := by decide +kernel
theorem dX5_copyFrom_178 : decode cX5_copyFrom 178 = .ok (.iload_n 2, 1) := by decide +kernel
theorem dX5_copyFrom_179 : decode cX5_copyFrom 179 = .ok (.aaload, 1) := by decide +kernel
theorem dX5_copyFrom_180 : decode cX5_copyFrom 180 = .ok (.invokevirtual 74, 3) := by decide +kernel
theorem dX5_copyFrom_183 : decode cX5_copyFrom 183 = .ok (.iinc 2 1, 3) := by decide +kernel
theorem dX5_copyFrom_186 : decode cX5_copyFrom 186 = .ok (.goto (-54), 3) := by decide +kernel
theorem dX5_copyFrom_189 : decode cX5_copyFrom 189 = .ok (.return_, 1) := by decide +kernel
theorem dX5_hasProxy_0 : decode cX5_hasProxy 0 = .ok (.iload_n 1, 1) := by decide +kernel
theorem dX5_hasProxy_1 : decode cX5_hasProxy 1 = .ok (.ifCond .lt 15, 3) := by decide +kernel
theorem dX5_hasProxy_4 : decode cX5_hasProxy 4 = .ok (.iload_n 1, 1) := by decide +kernel
theorem dX5_hasProxy_5 : decode cX5_hasProxy 5 = .ok (.aload_n 0, 1) := by decide +kernel
theorem dX5_hasProxy_6 : decode cX5_hasProxy 6 = .ok (.getfield 9, 3) := by decide +kernel
theorem dX5_hasProxy_9 : decode cX5_hasProxy 9 = .ok (.if_icmp .ge 7, 3) := by decide +kernel
theorem dX5_hasProxy_12 : decode cX5_hasProxy 12 = .ok (.iconst 1, 1) := by decide +kernel
theorem dX5_hasProxy_13 : decode cX5_hasProxy 13 = .ok (.goto 4, 3) := by decide +kernel
theorem dX5_hasProxy_16 : decode cX5_hasProxy 16 = .ok (.iconst 0, 1) := by decide +kernel
theorem dX5_hasProxy_17 : decode cX5_hasProxy 17 = .ok (.ireturn, 1) := by decide +kernel
theorem dX5_hasChild_0 : decode cX5_hasChild 0 = .ok (.iload_n 1, 1) := by decide +kernel
theorem dX5_hasChild_1 : decode cX5_hasChild 1 = .ok (.ifCond .le 15, 3) := by decide +kernel
theorem dX5_hasChild_4 : decode cX5_hasChild 4 = .ok (.iload_n 1, 1) := by decide +kernel
theorem dX5_hasChild_5 : decode cX5_hasChild 5 = .ok (.aload_n 0, 1) := by decide +kernel
theorem dX5_hasChild_6 : decode cX5_hasChild 6 = .ok (.getfield 9, 3) := by decide +kernel
theorem dX5_hasChild_9 : decode cX5_hasChild 9 = .ok (.if_icmp .ge 7, 3) := by decide +kernel
theorem dX5_hasChild_12 : decode cX5_hasChild 12 = .ok (.iconst 1, 1) := by decide +kernel
theorem dX5_hasChild_13 : decode cX5_hasChild 13 = .ok (.goto 4, 3) := by decide +kernel
theorem dX5_hasChild_16 : decode cX5_hasChild 16 = .ok (.iconst 0, 1) := by decide +kernel
theorem dX5_hasChild_17 : decode cX5_hasChild 17 = .ok (.ireturn, 1) := by decide +kernel
set_option maxRecDepth 20000 in
theorem ggX5_hasQueue_X5_hasChild : GoodIn wsX5_hasQueue wsX5_hasChild := goodIn_r _ [5, 6, 7, 8, 9, 10, 11, 12, 13, 14, 15, 16, 17, 18, 19, 20, 21, 22] (by decide +kernel) (by decide +kernel)
set_option maxRecDepth 20000 in
theorem gX5_hasQueue_X5_hasChild : GoodIn wsX5_hasQueue (wsV RX5 78 RX5 yX5_hasChild wsX5_hasChild) := goodIn_app (goodIn_of _ (by decide +kernel)) ggX5_hasQueue_X5_hasChild
theorem dX5_hasQueue_0 : decode cX5_hasQueue 0 = .ok (.aload_n 0, 1) := by decide +kernel
theorem dX5_hasQueue_1 : decode cX5_hasQueue 1 = .ok (.iload_n 1, 1) := by decide +kernel
theorem dX5_hasQueue_2 : decode cX5_hasQueue 2 = .ok (.invokevirtual 78, 3) := by decide +kernel
theorem dX5_hasQueue_5 : decode cX5_hasQueue 5 = .ok (.ifCond .eq 16, 3) := by decide +kernel
theorem dX5_hasQueue_8 : decode cX5_hasQueue 8 = .ok (.iload_n 2, 1) := by decide +kernel
theorem dX5_hasQueue_9 : decode cX5_hasQueue 9 = .ok (.ifCond .eq 8, 3) := by decide +kernel
theorem dX5_hasQueue_12 : decode cX5_hasQueue 12 = .ok (.iload_n 2, 1) := by decide +kernel
theorem dX5_hasQueue_13 : decode cX5_hasQueue 13 = .ok (.iconst 1, 1) := by decide +kernel
theorem dX5_hasQueue_14 : decode cX5_hasQueue 14 = .ok (.if_icmp .ne 7, 3) := by decide +kernel
theorem dX5_hasQueue_17 : decode cX5_hasQueue 17 = .ok (.iconst 1, 1) := by decide +kernel
theorem dX5_hasQueue_18 : decode cX5_hasQueue 18 = .ok (.goto 4, 3) := by decide +kernel
theorem dX5_hasQueue_21 : decode cX5_hasQueue 21 = .ok (.iconst 0, 1) := by decide +kernel
theorem dX5_hasQueue_22 : decode cX5_hasQueue 22 = .ok (.ireturn, 1) := by decide +kernel
theorem dX5_parentOf_0 : decode cX5_parentOf 0 = .ok (.iload_n 1, 1) := by decide +kernel
theorem dX5_parentOf_1 : decode cX5_parentOf 1 = .ok (.ifCond .lt 21, 3) := by decide +kernel
theorem dX5_parentOf_4 : decode cX5_parentOf 4 = .ok (.iload_n 1, 1) := by decide +kernel
theorem dX5_parentOf_5 : decode cX5_parentOf 5 = .ok (.aload_n 0, 1) := by decide +kernel
theorem dX5_parentOf_6 : decode cX5_parentOf 6 = .ok (.getfield 21, 3) := by decide +kernel
theorem dX5_parentOf_9 : decode cX5_parentOf 9 = .ok (.arraylength, 1) := by decide +kernel
theorem dX5_parentOf_10 : decode cX5_parentOf 10 = .ok (.if_icmp .ge 12, 3) := by decide +kernel
theorem dX5_parentOf_13 : decode cX5_parentOf 13 = .ok (.aload_n 0, 1) := by decide +kernel
theorem dX5_parentOf_14 : decode cX5_parentOf 14 = .ok (.getfield 21, 3) := by decide +kernel
theorem dX5_parentOf_17 : decode cX5_parentOf 17 = .ok (.iload_n 1, 1) := by decide +kernel
theorem dX5_parentOf_18 : decode cX5_parentOf 18 = .ok (.iaload, 1) := by decide +kernel
theorem dX5_parentOf_19 : decode cX5_parentOf 19 = .ok (.goto 4, 3) := by decide +kernel
theorem dX5_parentOf_22 : decode cX5_parentOf 22 = .ok (.iconst 0, 1) := by decide +kernel
theorem dX5_parentOf_23 : decode cX5_parentOf 23 = .ok (.ireturn, 1) := by decide +kernel
set_option maxRecDepth 20000 in
theorem ggX5_isChildOf_X5_hasChild : GoodIn wsX5_isChildOf wsX5_hasChild := goodIn_r _ [5, 6, 12, 13, 14, 15, 16, 17, 18, 19, 20, 21, 22, 23, 24, 25, 26, 27] (by decide +kernel) (by decide +kernel)
set_option maxRecDepth 20000 in
theorem gX5_isChildOf_X5_hasChild : GoodIn wsX5_isChildOf (wsV RX5 78 RX5 yX5_hasChild wsX5_hasChild) := goodIn_app (goodIn_of _ (by decide +kernel)) ggX5_isChildOf_X5_hasChild
set_option maxRecDepth 20000 in
theorem ggX5_isChildOf_X5_parentOf : GoodIn wsX5_isChildOf wsX5_parentOf := goodIn_r _ [10, 11, 12, 13, 14, 15, 16, 17, 18, 19, 20, 21, 22, 23, 24, 25, 26, 27] (by decide +kernel) (by decide +kernel)
set_option maxRecDepth 20000 in
theorem gX5_isChildOf_X5_parentOf : GoodIn wsX5_isChildOf (wsV RX5 82 RX5 yX5_parentOf wsX5_parentOf) := goodIn_app (goodIn_of _ (by decide +kernel)) ggX5_isChildOf_X5_parentOf
theorem dX5_isChildOf_0 : decode cX5_isChildOf 0 = .ok (.aload_n 0, 1) := by decide +kernel
theorem dX5_isChildOf_1 : decode cX5_isChildOf 1 = .ok (.iload_n 1, 1) := by decide +kernel
theorem dX5_isChildOf_2 : decode cX5_isChildOf 2 = .ok (.invokevirtual 78, 3) := by decide +kernel
theorem dX5_isChildOf_5 : decode cX5_isChildOf 5 = .ok (.ifCond .eq 16, 3) := by decide +kernel
theorem dX5_isChildOf_8 : decode cX5_isChildOf 8 = .ok (.aload_n 0, 1) := by decide +kernel
theorem dX5_isChildOf_9 : decode cX5_isChildOf 9 = .ok (.iload_n 1, 1) := by decide +kernel
theorem dX5_isChildOf_10 : decode cX5_isChildOf 10 = .ok (.invokevirtual 82, 3) := by decide +kernel
theorem dX5_isChildOf_13 : decode cX5_isChildOf 13 = .ok (.iload_n 2, 1) := by decide +kernel
theorem dX5_isChildOf_14 : decode cX5_isChildOf 14 = .ok (.if_icmp .ne 7, 3) := by decide +kernel
theorem dX5_isChildOf_17 : decode cX5_isChildOf 17 = .ok (.iconst 1, 1) := by decide +kernel
theorem dX5_isChildOf_18 : decode cX5_isChildOf 18 = .ok (.goto 4, 3) := by decide +kernel
theorem dX5_isChildOf_21 : decode cX5_isChildOf 21 = .ok (.iconst 0, 1) := by decide +kernel
theorem dX5_isChildOf_22 : decode cX5_isChildOf 22 = .ok (.ireturn, 1) := by decide +kernel
set_option maxRecDepth 20000 in
theorem ggX5_childrenOf_X5_isChildOf : GoodIn wsX5_childrenOf wsX5_isChildOf := goodIn_r _ [6, 7, 8, 9, 5, 10, 1, 11, 12, 13, 14, 15, 16, 17, 18, 19, 20, 21, 22, 23, 24, 25, 26, 27, 28, 29, 30, 31] (by decide +kernel) (by decide +kernel)
set_option maxRecDepth 20000 in
theorem gX5_childrenOf_X5_isChildOf : GoodIn wsX5_childrenOf (wsV RX5 86 RX5 yX5_isChildOf wsX5_isChildOf) := goodIn_app (goodIn_of _ (by decide +kernel)) ggX5_childrenOf_X5_isChildOf
theorem dX5_childrenOf_0 : decode cX5_childrenOf 0 = .ok (.iconst 0, 1) := by decide +kernel
theorem dX5_childrenOf_1 : decode cX5_childrenOf 1 = .ok (.istore_n 2, 1) := by decide +kernel
theorem dX5_childrenOf_2 : decode cX5_childrenOf 2 = .ok (.iconst 1, 1) := by decide +kernel
theorem dX5_childrenOf_3 : decode cX5_childrenOf 3 = .ok (.istore_n 3, 1) := by decide +kernel
theorem dX5_childrenOf_4 : decode cX5_childrenOf 4 = .ok (.iload_n 3, 1) := by decide +kernel
theorem dX5_childrenOf_5 : decode cX5_childrenOf 5 = .ok (.aload_n 0, 1) := by decide +kernel
theorem dX5_childrenOf_6 : decode cX5_childrenOf 6 = .ok (.getfield 9, 3) := by decide +kernel
theorem dX5_childrenOf_9 : decode cX5_childrenOf 9 = .ok (.if_icmp .ge 21, 3) := by decide +kernel
theorem dX5_childrenOf_12 : decode cX5_childrenOf 12 = .ok (.aload_n 0, 1) := by decide +kernel
theorem dX5_childrenOf_13 : decode cX5_childrenOf 13 = .ok (.iload_n 3, 1) := by decide +kernel
theorem dX5_childrenOf_14 : decode cX5_childrenOf 14 = .ok (.iload_n 1, 1) := by decide +kernel
theorem dX5_childrenOf_15 : decode cX5_childrenOf 15 = .ok (.invokevirtual 86, 3) := by decide +kernel
theorem dX5_childrenOf_18 : decode cX5_childrenOf 18 = .ok (.ifCond .eq 6, 3) := by decide +kernel
theorem dX5_childrenOf_21 : decode cX5_childrenOf 21 = .ok (.iinc 2 1, 3) := by decide +kernel
theorem dX5_childrenOf_24 : decode cX5_childrenOf 24 = .ok (.iinc 3 1, 3) := by decide +kernel
theorem dX5_childrenOf_27 : decode cX5_childrenOf 27 = .ok (.goto (-23), 3) := by decide +kernel
theorem dX5_childrenOf_30 : decode cX5_childrenOf 30 = .ok (.iload_n 2, 1) := by decide +kernel
theorem dX5_childrenOf_31 : decode cX5_childrenOf 31 = .ok (.ireturn, 1) := by decide +kernel
set_option maxRecDepth 20000 in
theorem ggX5_stepsToRoot_X5_parentOf : GoodIn wsX5_stepsToRoot wsX5_parentOf := goodIn_r _ [5, 6, 7, 8, 9, 10, 11, 12, 13, 14, 15, 16, 17, 18, 19, 20, 21, 22] (by decide +kernel) (by decide +kernel)
set_option maxRecDepth 20000 in
theorem gX5_stepsToRoot_X5_parentOf : GoodIn wsX5_stepsToRoot (wsV RX5 82 RX5 yX5_parentOf wsX5_parentOf) := goodIn_app (goodIn_of _ (by decide +kernel)) ggX5_stepsToRoot_X5_parentOf
theorem dX5_stepsToRoot_0 : decode cX5_stepsToRoot 0 = .ok (.iconst 0, 1) := by decide +kernel
theorem dX5_stepsToRoot_1 : decode cX5_stepsToRoot 1 = .ok (.istore_n 2, 1) := by decide +kernel
theorem dX5_stepsToRoot_2 : decode cX5_stepsToRoot 2 = .ok (.iload_n 1, 1) := by decide +kernel
theorem dX5_stepsToRoot_3 : decode cX5_stepsToRoot 3 = .ok (.istore_n 3, 1) := by decide +kernel
theorem dX5_stepsToRoot_4 : decode cX5_stepsToRoot 4 = .ok (.iload_n 3, 1) := by decide +kernel
theorem dX5_stepsToRoot_5 : decode cX5_stepsToRoot 5 = .ok (.ifCond .eq 21, 3) := by decide +kernel
theorem dX5_stepsToRoot_8 : decode cX5_stepsToRoot 8 = .ok (.iload_n 2, 1) := by decide +kernel
theorem dX5_stepsToRoot_9 : decode cX5_stepsToRoot 9 = .ok (.bipush 8, 2) := by decide +kernel
theorem dX5_stepsToRoot_11 : decode cX5_stepsToRoot 11 = .ok (.if_icmp .ge 15, 3) := by decide +kernel
theorem dX5_stepsToRoot_14 : decode cX5_stepsToRoot 14 = .ok (.iinc 2 1, 3) := by decide +kernel
theorem dX5_stepsToRoot_17 : decode cX5_stepsToRoot 17 = .ok (.aload_n 0, 1) := by decide +kernel
theorem dX5_stepsToRoot_18 : decode cX5_stepsToRoot 18 = .ok (.iload_n 3, 1) := by decide +kernel
theorem dX5_stepsToRoot_19 : decode cX5_stepsToRoot 19 = .ok (.invokevirtual 82, 3) := by decide +kernel
theorem dX5_stepsToRoot_22 : decode cX5_stepsToRoot 22 = .ok (.istore_n 3, 1) := by decide +kernel
theorem dX5_stepsToRoot_23 : decode cX5_stepsToRoot 23 = .ok (.goto (-19), 3) := by decide +kernel
theorem dX5_stepsToRoot_26 : decode cX5_stepsToRoot 26 = .ok (.iload_n 2, 1) := by decide +kernel
theorem dX5_stepsToRoot_27 : decode cX5_stepsToRoot 27 = .ok (.ireturn, 1) := by decide +kernel
set_option maxRecDepth 20000 in
theorem ggX5_isAbove_X5_parentOf : GoodIn wsX5_isAbove wsX5_parentOf := goodIn_r _ [5, 6, 7, 8, 9, 10, 11, 12, 13, 14, 15, 16, 17, 18, 19, 20, 21, 22] (by decide +kernel) (by decide +kernel)
set_option maxRecDepth 20000 in
theorem gX5_isAbove_X5_parentOf : GoodIn wsX5_isAbove (wsV RX5 82 RX5 yX5_parentOf wsX5_parentOf) := goodIn_app (goodIn_of _ (by decide +kernel)) ggX5_isAbove_X5_parentOf
theorem dX5_isAbove_0 : decode cX5_isAbove 0 = .ok (.iload_n 2, 1) := by decide +kernel
theorem dX5_isAbove_1 : decode cX5_isAbove 1 = .ok (.istore_n 3, 1) := by decide +kernel
theorem dX5_isAbove_2 : decode cX5_isAbove 2 = .ok (.iconst 0, 1) := by decide +kernel
theorem dX5_isAbove_3 : decode cX5_isAbove 3 = .ok (.istore 4, 2) := by decide +kernel
theorem dX5_isAbove_5 : decode cX5_isAbove 5 = .ok (.iload_n 3, 1) := by decide +kernel
theorem dX5_isAbove_6 : decode cX5_isAbove 6 = .ok (.ifCond .eq 29, 3) := by decide +kernel
theorem dX5_isAbove_9 : decode cX5_isAbove 9 = .ok (.iload 4, 2) := by decide +kernel
theorem dX5_isAbove_11 : decode cX5_isAbove 11 = .ok (.bipush 8, 2) := by decide +kernel
theorem dX5_isAbove_13 : decode cX5_isAbove 13 = .ok (.if_icmp .ge 22, 3) := by decide +kernel
theorem dX5_isAbove_16 : decode cX5_isAbove 16 = .ok (.aload_n 0, 1) := by decide +kernel
theorem dX5_isAbove_17 : decode cX5_isAbove 17 = .ok (.iload_n 3, 1) := by decide +kernel
theorem dX5_isAbove_18 : decode cX5_isAbove 18 = .ok (.invokevirtual 82, 3) := by decide +kernel
theorem dX5_isAbove_21 : decode cX5_isAbove 21 = .ok (.istore_n 3, 1) := by decide +kernel
theorem dX5_isAbove_22 : decode cX5_isAbove 22 = .ok (.iload_n 3, 1) := by decide +kernel
theorem dX5_isAbove_23 : decode cX5_isAbove 23 = .ok (.iload_n 1, 1) := by decide +kernel
theorem dX5_isAbove_24 : decode cX5_isAbove 24 = .ok (.if_icmp .ne 5, 3) := by decide +kernel
theorem dX5_isAbove_27 : decode cX5_isAbove 27 = .ok (.iconst 1, 1) := by decide +kernel
theorem dX5_isAbove_28 : decode cX5_isAbove 28 = .ok (.ireturn, 1) := by decide +kernel
theorem dX5_isAbove_29 : decode cX5_isAbove 29 = .ok (.iinc 4 1, 3) := by decide +kernel
theorem dX5_isAbove_32 : decode cX5_isAbove 32 = .ok (.goto (-27), 3) := by decide +kernel
theorem dX5_isAbove_35 : decode cX5_isAbove 35 = .ok (.iconst 0, 1) := by decide +kernel
theorem dX5_isAbove_36 : decode cX5_isAbove 36 = .ok (.ireturn, 1) := by decide +kernel
theorem dX5_addChild_0 : decode cX5_addChild 0 = .ok (.aload_n 0, 1) := by decide +kernel
theorem dX5_addChild_1 : decode cX5_addChild 1 = .ok (.getfield 9, 3) := by decide +kernel
theorem dX5_addChild_4 : decode cX5_addChild 4 = .ok (.istore_n 2, 1) := by decide +kernel
theorem dX5_addChild_5 : decode cX5_addChild 5 = .ok (.iload_n 2, 1) := by decide +kernel
theorem dX5_addChild_6 : decode cX5_addChild 6 = .ok (.ifCond .lt 29, 3) := by decide +kernel
theorem dX5_addChild_9 : decode cX5_addChild 9 = .ok (.iload_n 2, 1) := by decide +kernel
theorem dX5_addChild_10 : decode cX5_addChild 10 = .ok (.aload_n 0, 1) := by decide +kernel
theorem dX5_addChild_11 : decode cX5_addChild 11 = .ok (.getfield 21, 3) := by decide +kernel
theorem dX5_addChild_14 : decode cX5_addChild 14 = .ok (.arraylength, 1) := by decide +kernel
theorem dX5_addChild_15 : decode cX5_addChild 15 = .ok (.if_icmp .ge 20, 3) := by decide +kernel
theorem dX5_addChild_18 : decode cX5_addChild 18 = .ok (.aload_n 0, 1) := by decide +kernel
theorem dX5_addChild_19 : decode cX5_addChild 19 = .ok (.getfield 21, 3) := by decide +kernel
theorem dX5_addChild_22 : decode cX5_addChild 22 = .ok (.iload_n 2, 1) := by decide +kernel
theorem dX5_addChild_23 : decode cX5_addChild 23 = .ok (.iload_n 1, 1) := by decide +kernel
theorem dX5_addChild_24 : decode cX5_addChild 24 = .ok (.iastore, 1) := by decide +kernel
theorem dX5_addChild_25 : decode cX5_addChild 25 = .ok (.aload_n 0, 1) := by decide +kernel
theorem dX5_addChild_26 : decode cX5_addChild 26 = .ok (.dup, 1) := by decide +kernel
theorem dX5_addChild_27 : decode cX5_addChild 27 = .ok (.getfield 9, 3) := by decide +kernel
theorem dX5_addChild_30 : decode cX5_addChild 30 = .ok (.iconst 1, 1) := by decide +kernel
theorem dX5_addChild_31 : decode cX5_addChild 31 = .ok (.iadd, 1) := by decide +kernel
theorem dX5_addChild_32 : decode cX5_addChild 32 = .ok (.putfield 9, 3) := by decide +kernel
theorem dX5_addChild_35 : decode cX5_addChild 35 = .ok (.iload_n 2, 1) := by decide +kernel
theorem dX5_addChild_36 : decode cX5_addChild 36 = .ok (.ireturn, 1) := by decide +kernel
theorem dX5_homeOf_0 : decode cX5_homeOf 0 = .ok (.iload_n 1, 1) := by decide +kernel
theorem dX5_homeOf_1 : decode cX5_homeOf 1 = .ok (.ifCond .lt 21, 3) := by decide +kernel
theorem dX5_homeOf_4 : decode cX5_homeOf 4 = .ok (.iload_n 1, 1) := by decide +kernel
theorem dX5_homeOf_5 : decode cX5_homeOf 5 = .ok (.aload_n 0, 1) := by decide +kernel
theorem dX5_homeOf_6 : decode cX5_homeOf 6 = .ok (.getfield 25, 3) := by decide +kernel
theorem dX5_homeOf_9 : decode cX5_homeOf 9 = .ok (.arraylength, 1) := by decide +kernel
theorem dX5_homeOf_10 : decode cX5_homeOf 10 = .ok (.if_icmp .ge 12, 3) := by decide +kernel
theorem dX5_homeOf_13 : decode cX5_homeOf 13 = .ok (.aload_n 0, 1) := by decide +kernel
theorem dX5_homeOf_14 : decode cX5_homeOf 14 = .ok (.getfield 25, 3) := by decide +kernel
theorem dX5_homeOf_17 : decode cX5_homeOf 17 = .ok (.iload_n 1, 1) := by decide +kernel
theorem dX5_homeOf_18 : decode cX5_homeOf 18 = .ok (.iaload, 1) := by decide +kernel
theorem dX5_homeOf_19 : decode cX5_homeOf 19 = .ok (.goto 4, 3) := by decide +kernel
theorem dX5_homeOf_22 : decode cX5_homeOf 22 = .ok (.iconst 0, 1) := by decide +kernel
theorem dX5_homeOf_23 : decode cX5_homeOf 23 = .ok (.ireturn, 1) := by decide +kernel
theorem dX5_setHomeOf_0 : decode cX5_setHomeOf 0 = .ok (.iload_n 1, 1) := by decide +kernel
theorem dX5_setHomeOf_1 : decode cX5_setHomeOf 1 = .ok (.ifCond .lt 19, 3) := by decide +kernel
theorem dX5_setHomeOf_4 : decode cX5_setHomeOf 4 = .ok (.iload_n 1, 1) := by decide +kernel
theorem dX5_setHomeOf_5 : decode cX5_setHomeOf 5 = .ok (.aload_n 0, 1) := by decide +kernel
theorem dX5_setHomeOf_6 : decode cX5_setHomeOf 6 = .ok (.getfield 25, 3) := by decide +kernel
theorem dX5_setHomeOf_9 : decode cX5_setHomeOf 9 = .ok (.arraylength, 1) := by decide +kernel
theorem dX5_setHomeOf_10 : decode cX5_setHomeOf 10 = .ok (.if_icmp .ge 10, 3) := by decide +kernel
theorem dX5_setHomeOf_13 : decode cX5_setHomeOf 13 = .ok (.aload_n 0, 1) := by decide +kernel
theorem dX5_setHomeOf_14 : decode cX5_setHomeOf 14 = .ok (.getfield 25, 3) := by decide +kernel
theorem dX5_setHomeOf_17 : decode cX5_setHomeOf 17 = .ok (.iload_n 1, 1) := by decide +kernel
theorem dX5_setHomeOf_18 : decode cX5_setHomeOf 18 = .ok (.iload_n 2, 1) := by decide +kernel
theorem dX5_setHomeOf_19 : decode cX5_setHomeOf 19 = .ok (.iastore, 1) := by decide +kernel
theorem dX5_setHomeOf_20 : decode cX5_setHomeOf 20 = .ok (.return_, 1) := by decide +kernel
theorem dX5_writtenOf_0 : decode cX5_writtenOf 0 = .ok (.iload_n 1, 1) := by decide +kernel
theorem dX5_writtenOf_1 : decode cX5_writtenOf 1 = .ok (.ifCond .lt 21, 3) := by decide +kernel
theorem dX5_writtenOf_4 : decode cX5_writtenOf 4 = .ok (.iload_n 1, 1) := by decide +kernel
theorem dX5_writtenOf_5 : decode cX5_writtenOf 5 = .ok (.aload_n 0, 1) := by decide +kernel
theorem dX5_writtenOf_6 : decode cX5_writtenOf 6 = .ok (.getfield 28, 3) := by decide +kernel
theorem dX5_writtenOf_9 : decode cX5_writtenOf 9 = .ok (.arraylength, 1) := by decide +kernel
theorem dX5_writtenOf_10 : decode cX5_writtenOf 10 = .ok (.if_icmp .ge 12, 3) := by decide +kernel
theorem dX5_writtenOf_13 : decode cX5_writtenOf 13 = .ok (.aload_n 0, 1) := by decide +kernel
theorem dX5_writtenOf_14 : decode cX5_writtenOf 14 = .ok (.getfield 28, 3) := by decide +kernel
theorem dX5_writtenOf_17 : decode cX5_writtenOf 17 = .ok (.iload_n 1, 1) := by decide +kernel
theorem dX5_writtenOf_18 : decode cX5_writtenOf 18 = .ok (.iaload, 1) := by decide +kernel
theorem dX5_writtenOf_19 : decode cX5_writtenOf 19 = .ok (.goto 4, 3) := by decide +kernel
theorem dX5_writtenOf_22 : decode cX5_writtenOf 22 = .ok (.iconst 0, 1) := by decide +kernel
theorem dX5_writtenOf_23 : decode cX5_writtenOf 23 = .ok (.ireturn, 1) := by decide +kernel
theorem dX5_setWrittenOf_0 : decode cX5_setWrittenOf 0 = .ok (.iload_n 1, 1) := by decide +kernel
theorem dX5_setWrittenOf_1 : decode cX5_setWrittenOf 1 = .ok (.ifCond .lt 19, 3) := by decide +kernel
theorem dX5_setWrittenOf_4 : decode cX5_setWrittenOf 4 = .ok (.iload_n 1, 1) := by decide +kernel
theorem dX5_setWrittenOf_5 : decode cX5_setWrittenOf 5 = .ok (.aload_n 0, 1) := by decide +kernel
theorem dX5_setWrittenOf_6 : decode cX5_setWrittenOf 6 = .ok (.getfield 28, 3) := by decide +kernel
theorem dX5_setWrittenOf_9 : decode cX5_setWrittenOf 9 = .ok (.arraylength, 1) := by decide +kernel
theorem dX5_setWrittenOf_10 : decode cX5_setWrittenOf 10 = .ok (.if_icmp .ge 10, 3) := by decide +kernel
theorem dX5_setWrittenOf_13 : decode cX5_setWrittenOf 13 = .ok (.aload_n 0, 1) := by decide +kernel
theorem dX5_setWrittenOf_14 : decode cX5_setWrittenOf 14 = .ok (.getfield 28, 3) := by decide +kernel
theorem dX5_setWrittenOf_17 : decode cX5_setWrittenOf 17 = .ok (.iload_n 1, 1) := by decide +kernel
theorem dX5_setWrittenOf_18 : decode cX5_setWrittenOf 18 = .ok (.iload_n 2, 1) := by decide +kernel
theorem dX5_setWrittenOf_19 : decode cX5_setWrittenOf 19 = .ok (.iastore, 1) := by decide +kernel
theorem dX5_setWrittenOf_20 : decode cX5_setWrittenOf 20 = .ok (.return_, 1) := by decide +kernel
set_option maxRecDepth 20000 in
theorem ggX5_wasWritten_X7_isOrigin : GoodIn wsX5_wasWritten wsX7_isOrigin := goodIn_r _ [3] (by decide +kernel) (by decide +kernel)
set_option maxRecDepth 20000 in
theorem gX5_wasWritten_X7_isOrigin_n90 : GoodIn wsX5_wasWritten (wsX7_isOrigin) := ggX5_wasWritten_X7_isOrigin
set_option maxRecDepth 20000 in
theorem ggX5_wasWritten_X5_writtenOf : GoodIn wsX5_wasWritten wsX5_writtenOf := goodIn_r _ [8, 9, 10, 11, 12, 13, 14, 15, 16, 17, 18, 19, 20, 21, 22, 23, 24, 25] (by decide +kernel) (by decide +kernel)
set_option maxRecDepth 20000 in
theorem gX5_wasWritten_X5_writtenOf : GoodIn wsX5_wasWritten (wsV RX5 93 RX5 yX5_writtenOf wsX5_writtenOf) := goodIn_app (goodIn_of _ (by decide +kernel)) ggX5_wasWritten_X5_writtenOf
theorem dX5_wasWritten_0 : decode cX5_wasWritten 0 = .ok (.iload_n 1, 1) := by decide +kernel
theorem dX5_wasWritten_1 : decode cX5_wasWritten 1 = .ok (.invokestatic 90, 3) := by decide +kernel
theorem dX5_wasWritten_4 : decode cX5_wasWritten 4 = .ok (.ifCond .eq 21, 3) := by decide +kernel
theorem dX5_wasWritten_7 : decode cX5_wasWritten 7 = .ok (.iload_n 2, 1) := by decide +kernel
theorem dX5_wasWritten_8 : decode cX5_wasWritten 8 = .ok (.iconst 1, 1) := by decide +kernel
theorem dX5_wasWritten_9 : decode cX5_wasWritten 9 = .ok (.if_icmp .lt 16, 3) := by decide +kernel
theorem dX5_wasWritten_12 : decode cX5_wasWritten 12 = .ok (.iload_n 2, 1) := by decide +kernel
theorem dX5_wasWritten_13 : decode cX5_wasWritten 13 = .ok (.aload_n 0, 1) := by decide +kernel
theorem dX5_wasWritten_14 : decode cX5_wasWritten 14 = .ok (.iload_n 1, 1) := by decide +kernel
theorem dX5_wasWritten_15 : decode cX5_wasWritten 15 = .ok (.invokevirtual 93, 3) := by decide +kernel
theorem dX5_wasWritten_18 : decode cX5_wasWritten 18 = .ok (.if_icmp .gt 7, 3) := by decide +kernel
theorem dX5_wasWritten_21 : decode cX5_wasWritten 21 = .ok (.iconst 1, 1) := by decide +kernel
theorem dX5_wasWritten_22 : decode cX5_wasWritten 22 = .ok (.goto 4, 3) := by decide +kernel
theorem dX5_wasWritten_25 : decode cX5_wasWritten 25 = .ok (.iconst 0, 1) := by decide +kernel
theorem dX5_wasWritten_26 : decode cX5_wasWritten 26 = .ok (.ireturn, 1) := by decide +kernel
set_option maxRecDepth 20000 in
theorem ggX5_writtenCount_X5_writtenOf : GoodIn wsX5_writtenCount wsX5_writtenOf := goodIn_r _ [5, 6, 7, 8, 9, 10, 11, 12, 13, 14, 15, 16, 17, 18, 19, 20, 21, 22] (by decide +kernel) (by decide +kernel)
set_option maxRecDepth 20000 in
theorem gX5_writtenCount_X5_writtenOf : GoodIn wsX5_writtenCount (wsV RX5 93 RX5 yX5_writtenOf wsX5_writtenOf) := goodIn_app (goodIn_of _ (by decide +kernel)) ggX5_writtenCount_X5_writtenOf
theorem dX5_writtenCount_0 : decode cX5_writtenCount 0 = .ok (.iconst 0, 1) := by decide +kernel
theorem dX5_writtenCount_1 : decode cX5_writtenCount 1 = .ok (.istore_n 1, 1) := by decide +kernel
theorem dX5_writtenCount_2 : decode cX5_writtenCount 2 = .ok (.iconst 0, 1) := by decide +kernel
theorem dX5_writtenCount_3 : decode cX5_writtenCount 3 = .ok (.istore_n 2, 1) := by decide +kernel
theorem dX5_writtenCount_4 : decode cX5_writtenCount 4 = .ok (.iload_n 2, 1) := by decide +kernel
theorem dX5_writtenCount_5 : decode cX5_writtenCount 5 = .ok (.iconst 4, 1) := by decide +kernel
theorem dX5_writtenCount_6 : decode cX5_writtenCount 6 = .ok (.if_icmp .ge 17, 3) := by decide +kernel
theorem dX5_writtenCount_9 : decode cX5_writtenCount 9 = .ok (.iload_n 1, 1) := by decide +kernel
theorem dX5_writtenCount_10 : decode cX5_writtenCount 10 = .ok (.aload_n 0, 1) := by decide +kernel
theorem dX5_writtenCount_11 : decode cX5_writtenCount 11 = .ok (.iload_n 2, 1) := by decide +kernel
theorem dX5_writtenCount_12 : decode cX5_writtenCount 12 = .ok (.invokevirtual 93, 3) := by decide +kernel
theorem dX5_writtenCount_15 : decode cX5_writtenCount 15 = .ok (.iadd, 1) := by decide +kernel
theorem dX5_writtenCount_16 : decode cX5_writtenCount 16 = .ok (.istore_n 1, 1) := by decide +kernel
theorem dX5_writtenCount_17 : decode cX5_writtenCount 17 = .ok (.iinc 2 1, 3) := by decide +kernel
theorem dX5_writtenCount_20 : decode cX5_writtenCount 20 = .ok (.goto (-16), 3) := by decide +kernel
theorem dX5_writtenCount_23 : decode cX5_writtenCount 23 = .ok (.iload_n 1, 1) := by decide +kernel
theorem dX5_writtenCount_24 : decode cX5_writtenCount 24 = .ok (.ireturn, 1) := by decide +kernel
theorem dX5_knownOf_0 : decode cX5_knownOf 0 = .ok (.iload_n 1, 1) := by decide +kernel
theorem dX5_knownOf_1 : decode cX5_knownOf 1 = .ok (.iconst 4, 1) := by decide +kernel
theorem dX5_knownOf_2 : decode cX5_knownOf 2 = .ok (.imul, 1) := by decide +kernel
theorem dX5_knownOf_3 : decode cX5_knownOf 3 = .ok (.iload_n 2, 1) := by decide +kernel
theorem dX5_knownOf_4 : decode cX5_knownOf 4 = .ok (.iadd, 1) := by decide +kernel
theorem dX5_knownOf_5 : decode cX5_knownOf 5 = .ok (.istore_n 3, 1) := by decide +kernel
theorem dX5_knownOf_6 : decode cX5_knownOf 6 = .ok (.iload_n 3, 1) := by decide +kernel
theorem dX5_knownOf_7 : decode cX5_knownOf 7 = .ok (.ifCond .lt 21, 3) := by decide +kernel
theorem dX5_knownOf_10 : decode cX5_knownOf 10 = .ok (.iload_n 3, 1) := by decide +kernel
theorem dX5_knownOf_11 : decode cX5_knownOf 11 = .ok (.aload_n 0, 1) := by decide +kernel
theorem dX5_knownOf_12 : decode cX5_knownOf 12 = .ok (.getfield 31, 3) := by decide +kernel
theorem dX5_knownOf_15 : decode cX5_knownOf 15 = .ok (.arraylength, 1) := by decide +kernel
theorem dX5_knownOf_16 : decode cX5_knownOf 16 = .ok (.if_icmp .ge 12, 3) := by decide +kernel
theorem dX5_knownOf_19 : decode cX5_knownOf 19 = .ok (.aload_n 0, 1) := by decide +kernel
theorem dX5_knownOf_20 : decode cX5_knownOf 20 = .ok (.getfield 31, 3) := by decide +kernel
theorem dX5_knownOf_23 : decode cX5_knownOf 23 = .ok (.iload_n 3, 1) := by decide +kernel
theorem dX5_knownOf_24 : decode cX5_knownOf 24 = .ok (.iaload, 1) := by decide +kernel
theorem dX5_knownOf_25 : decode cX5_knownOf 25 = .ok (.goto 4, 3) := by decide +kernel
theorem dX5_knownOf_28 : decode cX5_knownOf 28 = .ok (.iconst 0, 1) := by decide +kernel
theorem dX5_knownOf_29 : decode cX5_knownOf 29 = .ok (.ireturn, 1) := by decide +kernel
set_option maxRecDepth 20000 in
theorem ggX5_knows_X5_knownOf : GoodIn wsX5_knows wsX5_knownOf := goodIn_r _ [5, 6, 11, 12, 13, 14, 15, 16, 17, 18, 19, 20, 21, 22, 23, 24, 25, 26] (by decide +kernel) (by decide +kernel)
set_option maxRecDepth 20000 in
theorem gX5_knows_X5_knownOf : GoodIn wsX5_knows (wsV RX5 96 RX5 yX5_knownOf wsX5_knownOf) := goodIn_app (goodIn_of _ (by decide +kernel)) ggX5_knows_X5_knownOf
set_option maxRecDepth 20000 in
theorem ggX5_knows_X6_contains : GoodIn wsX5_knows wsX6_contains := goodIn_r _ [10] (by decide +kernel) (by decide +kernel)
set_option maxRecDepth 20000 in
theorem gX5_knows_X6_contains : GoodIn wsX5_knows (va_wsS RX5 100 yX6_contains wsX6_contains) := goodIn_app (goodIn_of _ (by decide +kernel)) ggX5_knows_X6_contains
theorem dX5_knows_0 : decode cX5_knows 0 = .ok (.aload_n 0, 1) := by decide +kernel
theorem dX5_knows_1 : decode cX5_knows 1 = .ok (.iload_n 1, 1) := by decide +kernel
theorem dX5_knows_2 : decode cX5_knows 2 = .ok (.iload_n 2, 1) := by decide +kernel
theorem dX5_knows_3 : decode cX5_knows 3 = .ok (.invokevirtual 96, 3) := by decide +kernel
theorem dX5_knows_6 : decode cX5_knows 6 = .ok (.iload_n 3, 1) := by decide +kernel
theorem dX5_knows_7 : decode cX5_knows 7 = .ok (.invokestatic 100, 3) := by decide +kernel
theorem dX5_knows_10 : decode cX5_knows 10 = .ok (.ireturn, 1) := by decide +kernel
set_option maxRecDepth 20000 in
theorem ggX5_addKnown_X6_with : GoodIn wsX5_addKnown wsX6_with := goodIn_r _ [5] (by decide +kernel) (by decide +kernel)
set_option maxRecDepth 20000 in
theorem gX5_addKnown_X6_with : GoodIn wsX5_addKnown (va_wsS RX5 105 yX6_with wsX6_with) := goodIn_app (goodIn_of _ (by decide +kernel)) ggX5_addKnown_X6_with
theorem dX5_addKnown_0 : decode cX5_addKnown 0 = .ok (.iload_n 1, 1) := by decide +kernel
theorem dX5_addKnown_1 : decode cX5_addKnown 1 = .ok (.iconst 4, 1) := by decide +kernel
theorem dX5_addKnown_2 : decode cX5_addKnown 2 = .ok (.imul, 1) := by decide +kernel
theorem dX5_addKnown_3 : decode cX5_addKnown 3 = .ok (.iload_n 2, 1) := by decide +kernel
theorem dX5_addKnown_4 : decode cX5_addKnown 4 = .ok (.iadd, 1) := by decide +kernel
theorem dX5_addKnown_5 : decode cX5_addKnown 5 = .ok (.istore 4, 2) := by decide +kernel
theorem dX5_addKnown_7 : decode cX5_addKnown 7 = .ok (.iload 4, 2) := by decide +kernel
theorem dX5_addKnown_9 : decode cX5_addKnown 9 = .ok (.ifCond .lt 31, 3) := by decide +kernel
theorem dX5_addKnown_12 : decode cX5_addKnown 12 = .ok (.iload 4, 2) := by decide +kernel
theorem dX5_addKnown_14 : decode cX5_addKnown 14 = .ok (.aload_n 0, 1) := by decide +kernel
theorem dX5_addKnown_15 : decode cX5_addKnown 15 = .ok (.getfield 31, 3) := by decide +kernel
theorem dX5_addKnown_18 : decode cX5_addKnown 18 = .ok (.arraylength, 1) := by decide +kernel
theorem dX5_addKnown_19 : decode cX5_addKnown 19 = .ok (.if_icmp .ge 21, 3) := by decide +kernel
theorem dX5_addKnown_22 : decode cX5_addKnown 22 = .ok (.aload_n 0, 1) := by decide +kernel
theorem dX5_addKnown_23 : decode cX5_addKnown 23 = .ok (.getfield 31, 3) := by decide +kernel
theorem dX5_addKnown_26 : decode cX5_addKnown 26 = .ok (.iload 4, 2) := by decide +kernel
theorem dX5_addKnown_28 : decode cX5_addKnown 28 = .ok (.aload_n 0, 1) := by decide +kernel
theorem dX5_addKnown_29 : decode cX5_addKnown 29 = .ok (.getfield 31, 3) := by decide +kernel
theorem dX5_addKnown_32 : decode cX5_addKnown 32 = .ok (.iload 4, 2) := by decide +kernel
theorem dX5_addKnown_34 : decode cX5_addKnown 34 = .ok (.iaload, 1) := by decide +kernel
theorem dX5_addKnown_35 : decode cX5_addKnown 35 = .ok (.iload_n 3, 1) := by decide +kernel
theorem dX5_addKnown_36 : decode cX5_addKnown 36 = .ok (.invokestatic 105, 3) := by decide +kernel
theorem dX5_addKnown_39 : decode cX5_addKnown 39 = .ok (.iastore, 1) := by decide +kernel
theorem dX5_addKnown_40 : decode cX5_addKnown 40 = .ok (.return_, 1) := by decide +kernel
set_option maxRecDepth 20000 in
theorem ggX5_knownCount_X5_knownOf : GoodIn wsX5_knownCount wsX5_knownOf := goodIn_r _ [5, 6, 18, 19, 20, 21, 22, 23, 24, 25, 26, 27, 28, 29, 30, 31, 32, 33] (by decide +kernel) (by decide +kernel)
set_option maxRecDepth 20000 in
theorem gX5_knownCount_X5_knownOf : GoodIn wsX5_knownCount (wsV RX5 96 RX5 yX5_knownOf wsX5_knownOf) := goodIn_app (goodIn_of _ (by decide +kernel)) ggX5_knownCount_X5_knownOf
set_option maxRecDepth 20000 in
theorem ggX5_knownCount_X6_sizeOf : GoodIn wsX5_knownCount wsX6_sizeOf := goodIn_r _ [10, 11, 12, 13, 14, 15, 16, 17] (by decide +kernel) (by decide +kernel)
set_option maxRecDepth 20000 in
theorem gX5_knownCount_X6_sizeOf : GoodIn wsX5_knownCount (va_wsS RX5 108 yX6_sizeOf wsX6_sizeOf) := goodIn_app (goodIn_of _ (by decide +kernel)) ggX5_knownCount_X6_sizeOf
theorem dX5_knownCount_0 : decode cX5_knownCount 0 = .ok (.iconst 0, 1) := by decide +kernel
theorem dX5_knownCount_1 : decode cX5_knownCount 1 = .ok (.istore_n 2, 1) := by decide +kernel
theorem dX5_knownCount_2 : decode cX5_knownCount 2 = .ok (.iconst 0, 1) := by decide +kernel
theorem dX5_knownCount_3 : decode cX5_knownCount 3 = .ok (.istore_n 3, 1) := by decide +kernel
theorem dX5_knownCount_4 : decode cX5_knownCount 4 = .ok (.iload_n 3, 1) := by decide +kernel
theorem dX5_knownCount_5 : decode cX5_knownCount 5 = .ok (.iconst 4, 1) := by decide +kernel
theorem dX5_knownCount_6 : decode cX5_knownCount 6 = .ok (.if_icmp .ge 21, 3) := by decide +kernel
theorem dX5_knownCount_9 : decode cX5_knownCount 9 = .ok (.iload_n 2, 1) := by decide +kernel
theorem dX5_knownCount_10 : decode cX5_knownCount 10 = .ok (.aload_n 0, 1) := by decide +kernel
theorem dX5_knownCount_11 : decode cX5_knownCount 11 = .ok (.iload_n 1, 1) := by decide +kernel
theorem dX5_knownCount_12 : decode cX5_knownCount 12 = .ok (.iload_n 3, 1) := by decide +kernel
theorem dX5_knownCount_13 : decode cX5_knownCount 13 = .ok (.invokevirtual 96, 3) := by decide +kernel
theorem dX5_knownCount_16 : decode cX5_knownCount 16 = .ok (.invokestatic 108, 3) := by decide +kernel
theorem dX5_knownCount_19 : decode cX5_knownCount 19 = .ok (.iadd, 1) := by decide +kernel
theorem dX5_knownCount_20 : decode cX5_knownCount 20 = .ok (.istore_n 2, 1) := by decide +kernel
theorem dX5_knownCount_21 : decode cX5_knownCount 21 = .ok (.iinc 3 1, 3) := by decide +kernel
theorem dX5_knownCount_24 : decode cX5_knownCount 24 = .ok (.goto (-20), 3) := by decide +kernel
theorem dX5_knownCount_27 : decode cX5_knownCount 27 = .ok (.iload_n 2, 1) := by decide +kernel
theorem dX5_knownCount_28 : decode cX5_knownCount 28 = .ok (.ireturn, 1) := by decide +kernel
set_option maxRecDepth 20000 in
theorem ggX5_exceptionCount_X5_knownOf : GoodIn wsX5_exceptionCount wsX5_knownOf := goodIn_r _ [5, 6, 24, 25, 26, 27, 28, 29, 30, 31, 32, 33, 34, 35, 36, 37, 38, 39] (by decide +kernel) (by decide +kernel)
set_option maxRecDepth 20000 in
theorem gX5_exceptionCount_X5_knownOf : GoodIn wsX5_exceptionCount (wsV RX5 96 RX5 yX5_knownOf wsX5_knownOf) := goodIn_app (goodIn_of _ (by decide +kernel)) ggX5_exceptionCount_X5_knownOf
set_option maxRecDepth 20000 in
theorem ggX5_exceptionCount_X6_exceptionsIn : GoodIn wsX5_exceptionCount wsX6_exceptionsIn := goodIn_r _ [10, 11, 12, 9, 13, 14, 15, 16, 17, 18, 19, 20, 21, 22, 23] (by decide +kernel) (by decide +kernel)
set_option maxRecDepth 20000 in
theorem gX5_exceptionCount_X6_exceptionsIn : GoodIn wsX5_exceptionCount (va_wsS RX5 111 yX6_exceptionsIn wsX6_exceptionsIn) := goodIn_app (goodIn_of _ (by decide +kernel)) ggX5_exceptionCount_X6_exceptionsIn
theorem dX5_exceptionCount_0 : decode cX5_exceptionCount 0 = .ok (.iconst 0, 1) := by decide +kernel
theorem dX5_exceptionCount_1 : decode cX5_exceptionCount 1 = .ok (.istore_n 2, 1) := by decide +kernel
theorem dX5_exceptionCount_2 : decode cX5_exceptionCount 2 = .ok (.iconst 0, 1) := by decide +kernel
theorem dX5_exceptionCount_3 : decode cX5_exceptionCount 3 = .ok (.istore_n 3, 1) := by decide +kernel
theorem dX5_exceptionCount_4 : decode cX5_exceptionCount 4 = .ok (.iload_n 3, 1) := by decide +kernel
theorem dX5_exceptionCount_5 : decode cX5_exceptionCount 5 = .ok (.iconst 4, 1) := by decide +kernel
theorem dX5_exceptionCount_6 : decode cX5_exceptionCount 6 = .ok (.if_icmp .ge 21, 3) := by decide +kernel
theorem dX5_exceptionCount_9 : decode cX5_exceptionCount 9 = .ok (.iload_n 2, 1) := by decide +kernel
theorem dX5_exceptionCount_10 : decode cX5_exceptionCount 10 = .ok (.aload_n 0, 1) := by decide +kernel
theorem dX5_exceptionCount_11 : decode cX5_exceptionCount 11 = .ok (.iload_n 1, 1) := by decide +kernel
theorem dX5_exceptionCount_12 : decode cX5_exceptionCount 12 = .ok (.iload_n 3, 1) := by decide +kernel
theorem dX5_exceptionCount_13 : decode cX5_exceptionCount 13 = .ok (.invokevirtual 96, 3) := by decide +kernel
theorem dX5_exceptionCount_16 : decode cX5_exceptionCount 16 = .ok (.invokestatic 111, 3) := by decide +kernel
theorem dX5_exceptionCount_19 : decode cX5_exceptionCount 19 = .ok (.iadd, 1) := by decide +kernel
theorem dX5_exceptionCount_20 : decode cX5_exceptionCount 20 = .ok (.istore_n 2, 1) := by decide +kernel
theorem dX5_exceptionCount_21 : decode cX5_exceptionCount 21 = .ok (.iinc 3 1, 3) := by decide +kernel
theorem dX5_exceptionCount_24 : decode cX5_exceptionCount 24 = .ok (.goto (-20), 3) := by decide +kernel
theorem dX5_exceptionCount_27 : decode cX5_exceptionCount 27 = .ok (.iload_n 2, 1) := by decide +kernel
theorem dX5_exceptionCount_28 : decode cX5_exceptionCount 28 = .ok (.ireturn, 1) := by decide +kernel
set_option maxRecDepth 20000 in
theorem ggX5_vectorSize_X5_knownOf : GoodIn wsX5_vectorSize wsX5_knownOf := goodIn_r _ [5, 6, 18, 19, 20, 21, 22, 23, 24, 25, 26, 27, 28, 29, 30, 31, 32, 33] (by decide +kernel) (by decide +kernel)
set_option maxRecDepth 20000 in
theorem gX5_vectorSize_X5_knownOf : GoodIn wsX5_vectorSize (wsV RX5 96 RX5 yX5_knownOf wsX5_knownOf) := goodIn_app (goodIn_of _ (by decide +kernel)) ggX5_vectorSize_X5_knownOf
set_option maxRecDepth 20000 in
theorem ggX5_vectorSize_X6_rangesIn : GoodIn wsX5_vectorSize wsX6_rangesIn := goodIn_r _ [10, 11, 12, 13, 14, 15, 16, 17] (by decide +kernel) (by decide +kernel)
set_option maxRecDepth 20000 in
theorem gX5_vectorSize_X6_rangesIn : GoodIn wsX5_vectorSize (va_wsS RX5 114 yX6_rangesIn wsX6_rangesIn) := goodIn_app (goodIn_of _ (by decide +kernel)) ggX5_vectorSize_X6_rangesIn
theorem dX5_vectorSize_0 : decode cX5_vectorSize 0 = .ok (.iconst 0, 1) := by decide +kernel
theorem dX5_vectorSize_1 : decode cX5_vectorSize 1 = .ok (.istore_n 2, 1) := by decide +kernel
theorem dX5_vectorSize_2 : decode cX5_vectorSize 2 = .ok (.iconst 0, 1) := by decide +kernel
theorem dX5_vectorSize_3 : decode cX5_vectorSize 3 = .ok (.istore_n 3, 1) := by decide +kernel
theorem dX5_vectorSize_4 : decode cX5_vectorSize 4 = .ok (.iload_n 3, 1) := by decide +kernel
theorem dX5_vectorSize_5 : decode cX5_vectorSize 5 = .ok (.iconst 4, 1) := by decide +kernel
theorem dX5_vectorSize_6 : decode cX5_vectorSize 6 = .ok (.if_icmp .ge 36, 3) := by decide +kernel
theorem dX5_vectorSize_9 : decode cX5_vectorSize 9 = .ok (.aload_n 0, 1) := by decide +kernel
theorem dX5_vectorSize_10 : decode cX5_vectorSize 10 = .ok (.iload_n 1, 1) := by decide +kernel
theorem dX5_vectorSize_11 : decode cX5_vectorSize 11 = .ok (.iload_n 3, 1) := by decide +kernel
theorem dX5_vectorSize_12 : decode cX5_vectorSize 12 = .ok (.invokevirtual 96, 3) := by decide +kernel
theorem dX5_vectorSize_15 : decode cX5_vectorSize 15 = .ok (.istore 4, 2) := by decide +kernel
theorem dX5_vectorSize_17 : decode cX5_vectorSize 17 = .ok (.iload_n 2, 1) := by decide +kernel
theorem dX5_vectorSize_18 : decode cX5_vectorSize 18 = .ok (.iload 4, 2) := by decide +kernel
theorem dX5_vectorSize_20 : decode cX5_vectorSize 20 = .ok (.invokestatic 114, 3) := by decide +kernel
theorem dX5_vectorSize_23 : decode cX5_vectorSize 23 = .ok (.iload 4, 2) := by decide +kernel
theorem dX5_vectorSize_25 : decode cX5_vectorSize 25 = .ok (.ifCond .eq 7, 3) := by decide +kernel
theorem dX5_vectorSize_28 : decode cX5_vectorSize 28 = .ok (.iconst 1, 1) := by decide +kernel
theorem dX5_vectorSize_29 : decode cX5_vectorSize 29 = .ok (.goto 4, 3) := by decide +kernel
theorem dX5_vectorSize_32 : decode cX5_vectorSize 32 = .ok (.iconst 0, 1) := by decide +kernel
theorem dX5_vectorSize_33 : decode cX5_vectorSize 33 = .ok (.iadd, 1) := by decide +kernel
theorem dX5_vectorSize_34 : decode cX5_vectorSize 34 = .ok (.iadd, 1) := by decide +kernel
theorem dX5_vectorSize_35 : decode cX5_vectorSize 35 = .ok (.istore_n 2, 1) := by decide +kernel
theorem dX5_vectorSize_36 : decode cX5_vectorSize 36 = .ok (.iinc 3 1, 3) := by decide +kernel
theorem dX5_vectorSize_39 : decode cX5_vectorSize 39 = .ok (.goto (-35), 3) := by decide +kernel
theorem dX5_vectorSize_42 : decode cX5_vectorSize 42 = .ok (.iload_n 2, 1) := by decide +kernel
theorem dX5_vectorSize_43 : decode cX5_vectorSize 43 = .ok (.ireturn, 1) := by decide +kernel
set_option maxRecDepth 20000 in
theorem ggX5_rangesWith_X5_knownOf : GoodIn wsX5_rangesWith wsX5_knownOf := goodIn_r _ [5, 6, 21, 22, 23, 24, 25, 26, 27, 28, 29, 30, 31, 32, 33, 34, 35, 36] (by decide +kernel) (by decide +kernel)
set_option maxRecDepth 20000 in
theorem gX5_rangesWith_X5_knownOf : GoodIn wsX5_rangesWith (wsV RX5 96 RX5 yX5_knownOf wsX5_knownOf) := goodIn_app (goodIn_of _ (by decide +kernel)) ggX5_rangesWith_X5_knownOf
set_option maxRecDepth 20000 in
theorem ggX5_rangesWith_X6_with : GoodIn wsX5_rangesWith wsX6_with := goodIn_r _ [10] (by decide +kernel) (by decide +kernel)
set_option maxRecDepth 20000 in
theorem gX5_rangesWith_X6_with : GoodIn wsX5_rangesWith (va_wsS RX5 105 yX6_with wsX6_with) := goodIn_app (goodIn_of _ (by decide +kernel)) ggX5_rangesWith_X6_with
set_option maxRecDepth 20000 in
theorem ggX5_rangesWith_X6_rangesIn : GoodIn wsX5_rangesWith wsX6_rangesIn := goodIn_r _ [13, 14, 15, 16, 17, 18, 19, 20] (by decide +kernel) (by decide +kernel)
set_option maxRecDepth 20000 in
theorem gX5_rangesWith_X6_rangesIn : GoodIn wsX5_rangesWith (va_wsS RX5 114 yX6_rangesIn wsX6_rangesIn) := goodIn_app (goodIn_of _ (by decide +kernel)) ggX5_rangesWith_X6_rangesIn
theorem dX5_rangesWith_0 : decode cX5_rangesWith 0 = .ok (.iconst 0, 1) := by decide +kernel
theorem dX5_rangesWith_1 : decode cX5_rangesWith 1 = .ok (.istore 4, 2) := by decide +kernel
theorem dX5_rangesWith_3 : decode cX5_rangesWith 3 = .ok (.iconst 0, 1) := by decide +kernel
theorem dX5_rangesWith_4 : decode cX5_rangesWith 4 = .ok (.istore 5, 2) := by decide +kernel
theorem dX5_rangesWith_6 : decode cX5_rangesWith 6 = .ok (.iload 5, 2) := by decide +kernel
theorem dX5_rangesWith_8 : decode cX5_rangesWith 8 = .ok (.iconst 4, 1) := by decide +kernel
