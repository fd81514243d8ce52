theorem dX0_init_0 : decode cX0_init 0 = .ok (.aload_n 0, 1) := by decide +kernel
theorem dX0_init_1 : decode cX0_init 1 = .ok (.invokespecial 3, 3) := by decide +kernel
theorem dX0_init_4 : decode cX0_init 4 = .ok (.aload_n 0, 1) := by decide +kernel
theorem dX0_init_5 : decode cX0_init 5 = .ok (.iconst 4, 1) := by decide +kernel
theorem dX0_init_6 : decode cX0_init 6 = .ok (.newarray .int, 2) := by decide +kernel
theorem dX0_init_8 : decode cX0_init 8 = .ok (.putfield 9, 3) := by decide +kernel
theorem dX0_init_11 : decode cX0_init 11 = .ok (.aload_n 0, 1) := by decide +kernel
theorem dX0_init_12 : decode cX0_init 12 = .ok (.iconst 4, 1) := by decide +kernel
theorem dX0_init_13 : decode cX0_init 13 = .ok (.newarray .int, 2) := by decide +kernel
theorem dX0_init_15 : decode cX0_init 15 = .ok (.putfield 15, 3) := by decide +kernel
theorem dX0_init_18 : decode cX0_init 18 = .ok (.aload_n 0, 1) := by decide +kernel
theorem dX0_init_19 : decode cX0_init 19 = .ok (.aload_n 1, 1) := by decide +kernel
theorem dX0_init_20 : decode cX0_init 20 = .ok (.putfield 18, 3) := by decide +kernel
theorem dX0_init_23 : decode cX0_init 23 = .ok (.return_, 1) := by decide +kernel
set_option maxRecDepth 20000 in
theorem ggX0_servedOf_X0_findServed : GoodIn wsX0_servedOf wsX0_findServed := goodIn_r _ [5, 6, 7, 8, 9, 10, 11, 12, 13, 14, 15, 16, 17, 18, 19, 20, 21, 22, 27, 28, 29, 30, 31, 32, 33, 34, 35, 36, 37, 38, 39, 40, 41, 42, 43, 44, 45] (by decide +kernel) (by decide +kernel)
set_option maxRecDepth 20000 in
theorem gX0_servedOf_X0_findServed : GoodIn wsX0_servedOf (wsV RX0 22 RX0 yX0_findServed wsX0_findServed) := goodIn_app (goodIn_of _ (by decide +kernel)) ggX0_servedOf_X0_findServed
set_option maxRecDepth 20000 in
theorem ggX0_servedOf_X0_prefixFound : GoodIn wsX0_servedOf wsX0_prefixFound := goodIn_r _ [26, 6, 27, 28, 29] (by decide +kernel) (by decide +kernel)
set_option maxRecDepth 20000 in
theorem gX0_servedOf_X0_prefixFound : GoodIn wsX0_servedOf (wsV RX0 26 RX0 yX0_prefixFound wsX0_prefixFound) := goodIn_app (goodIn_of _ (by decide +kernel)) ggX0_servedOf_X0_prefixFound
theorem dX0_servedOf_0 : decode cX0_servedOf 0 = .ok (.aload_n 0, 1) := by decide +kernel
theorem dX0_servedOf_1 : decode cX0_servedOf 1 = .ok (.iload_n 1, 1) := by decide +kernel
theorem dX0_servedOf_2 : decode cX0_servedOf 2 = .ok (.invokevirtual 22, 3) := by decide +kernel
theorem dX0_servedOf_5 : decode cX0_servedOf 5 = .ok (.aload_n 0, 1) := by decide +kernel
theorem dX0_servedOf_6 : decode cX0_servedOf 6 = .ok (.iload_n 2, 1) := by decide +kernel
theorem dX0_servedOf_7 : decode cX0_servedOf 7 = .ok (.invokevirtual 26, 3) := by decide +kernel
theorem dX0_servedOf_10 : decode cX0_servedOf 10 = .ok (.ireturn, 1) := by decide +kernel
set_option maxRecDepth 20000 in
theorem ggX0_servedCount_X0_findServed : GoodIn wsX0_servedCount wsX0_findServed := goodIn_r _ [6, 1, 7, 8, 9, 10, 11, 12, 13, 14, 15, 16, 17, 18, 19, 20, 21, 22, 23, 24, 25, 26, 27, 28, 29, 30, 31, 32, 33, 34, 35, 36, 37, 38, 39, 40, 41] (by decide +kernel) (by decide +kernel)
set_option maxRecDepth 20000 in
theorem gX0_servedCount_X0_findServed : GoodIn wsX0_servedCount (wsV RX0 22 RX0 yX0_findServed wsX0_findServed) := goodIn_app (goodIn_of _ (by decide +kernel)) ggX0_servedCount_X0_findServed
theorem dX0_servedCount_0 : decode cX0_servedCount 0 = .ok (.aload_n 0, 1) := by decide +kernel
theorem dX0_servedCount_1 : decode cX0_servedCount 1 = .ok (.iload_n 1, 1) := by decide +kernel
theorem dX0_servedCount_2 : decode cX0_servedCount 2 = .ok (.invokevirtual 22, 3) := by decide +kernel
theorem dX0_servedCount_5 : decode cX0_servedCount 5 = .ok (.iconst 0, 1) := by decide +kernel
theorem dX0_servedCount_6 : decode cX0_servedCount 6 = .ok (.istore_n 2, 1) := by decide +kernel
theorem dX0_servedCount_7 : decode cX0_servedCount 7 = .ok (.iconst 0, 1) := by decide +kernel
theorem dX0_servedCount_8 : decode cX0_servedCount 8 = .ok (.istore_n 3, 1) := by decide +kernel
theorem dX0_servedCount_9 : decode cX0_servedCount 9 = .ok (.iload_n 3, 1) := by decide +kernel
theorem dX0_servedCount_10 : decode cX0_servedCount 10 = .ok (.iconst 4, 1) := by decide +kernel
theorem dX0_servedCount_11 : decode cX0_servedCount 11 = .ok (.if_icmp .ge 18, 3) := by decide +kernel
theorem dX0_servedCount_14 : decode cX0_servedCount 14 = .ok (.iload_n 2, 1) := by decide +kernel
theorem dX0_servedCount_15 : decode cX0_servedCount 15 = .ok (.aload_n 0, 1) := by decide +kernel
theorem dX0_servedCount_16 : decode cX0_servedCount 16 = .ok (.getfield 9, 3) := by decide +kernel
theorem dX0_servedCount_19 : decode cX0_servedCount 19 = .ok (.iload_n 3, 1) := by decide +kernel
theorem dX0_servedCount_20 : decode cX0_servedCount 20 = .ok (.iaload, 1) := by decide +kernel
theorem dX0_servedCount_21 : decode cX0_servedCount 21 = .ok (.iadd, 1) := by decide +kernel
theorem dX0_servedCount_22 : decode cX0_servedCount 22 = .ok (.istore_n 2, 1) := by decide +kernel
theorem dX0_servedCount_23 : decode cX0_servedCount 23 = .ok (.iinc 3 1, 3) := by decide +kernel
theorem dX0_servedCount_26 : decode cX0_servedCount 26 = .ok (.goto (-17), 3) := by decide +kernel
theorem dX0_servedCount_29 : decode cX0_servedCount 29 = .ok (.iload_n 2, 1) := by decide +kernel
theorem dX0_servedCount_30 : decode cX0_servedCount 30 = .ok (.ireturn, 1) := by decide +kernel
set_option maxRecDepth 20000 in
theorem ggX0_findServed_X5_knownOf : GoodIn wsX0_findServed wsX5_knownOf := goodIn_r _ [7, 8, 21, 22, 23, 24, 25, 26, 27, 28, 29, 30, 31, 32, 33, 34, 35, 36] (by decide +kernel) (by decide +kernel)
set_option maxRecDepth 20000 in
theorem gX0_findServed_X5_knownOf : GoodIn wsX0_findServed (wsV RX0 30 RX5 yX5_knownOf wsX5_knownOf) := goodIn_app (goodIn_of _ (by decide +kernel)) ggX0_findServed_X5_knownOf
set_option maxRecDepth 20000 in
theorem ggX0_findServed_X6_prefixOf : GoodIn wsX0_findServed wsX6_prefixOf := goodIn_r _ [12] (by decide +kernel) (by decide +kernel)
set_option maxRecDepth 20000 in
theorem gX0_findServed_X6_prefixOf : GoodIn wsX0_findServed (va_wsS RX0 36 yX6_prefixOf wsX6_prefixOf) := goodIn_app (goodIn_of _ (by decide +kernel)) ggX0_findServed_X6_prefixOf
set_option maxRecDepth 20000 in
theorem ggX0_findServed_X5_hasCausesIn : GoodIn wsX0_findServed wsX5_hasCausesIn := goodIn_r _ [16, 17, 21, 22, 23, 24, 25, 26, 27, 28, 29, 30, 31, 32, 33, 34, 35, 36] (by decide +kernel) (by decide +kernel)
set_option maxRecDepth 20000 in
theorem gX0_findServed_X5_hasCausesIn : GoodIn wsX0_findServed (wsV RX0 41 RX5 yX5_hasCausesIn wsX5_hasCausesIn) := goodIn_app (goodIn_of _ (by decide +kernel)) ggX0_findServed_X5_hasCausesIn
theorem dX0_findServed_0 : decode cX0_findServed 0 = .ok (.iconst 0, 1) := by decide +kernel
theorem dX0_findServed_1 : decode cX0_findServed 1 = .ok (.istore_n 2, 1) := by decide +kernel
theorem dX0_findServed_2 : decode cX0_findServed 2 = .ok (.iload_n 2, 1) := by decide +kernel
theorem dX0_findServed_3 : decode cX0_findServed 3 = .ok (.iconst 4, 1) := by decide +kernel
theorem dX0_findServed_4 : decode cX0_findServed 4 = .ok (.if_icmp .ge 27, 3) := by decide +kernel
theorem dX0_findServed_7 : decode cX0_findServed 7 = .ok (.aload_n 0, 1) := by decide +kernel
theorem dX0_findServed_8 : decode cX0_findServed 8 = .ok (.getfield 9, 3) := by decide +kernel
theorem dX0_findServed_11 : decode cX0_findServed 11 = .ok (.iload_n 2, 1) := by decide +kernel
theorem dX0_findServed_12 : decode cX0_findServed 12 = .ok (.aload_n 0, 1) := by decide +kernel
theorem dX0_findServed_13 : decode cX0_findServed 13 = .ok (.getfield 18, 3) := by decide +kernel
theorem dX0_findServed_16 : decode cX0_findServed 16 = .ok (.iload_n 1, 1) := by decide +kernel
theorem dX0_findServed_17 : decode cX0_findServed 17 = .ok (.iload_n 2, 1) := by decide +kernel
theorem dX0_findServed_18 : decode cX0_findServed 18 = .ok (.invokevirtual 30, 3) := by decide +kernel
theorem dX0_findServed_21 : decode cX0_findServed 21 = .ok (.invokestatic 36, 3) := by decide +kernel
theorem dX0_findServed_24 : decode cX0_findServed 24 = .ok (.iastore, 1) := by decide +kernel
theorem dX0_findServed_25 : decode cX0_findServed 25 = .ok (.iinc 2 1, 3) := by decide +kernel
theorem dX0_findServed_28 : decode cX0_findServed 28 = .ok (.goto (-26), 3) := by decide +kernel
theorem dX0_findServed_31 : decode cX0_findServed 31 = .ok (.iconst 1, 1) := by decide +kernel
theorem dX0_findServed_32 : decode cX0_findServed 32 = .ok (.istore_n 2, 1) := by decide +kernel
theorem dX0_findServed_33 : decode cX0_findServed 33 = .ok (.iconst 0, 1) := by decide +kernel
theorem dX0_findServed_34 : decode cX0_findServed 34 = .ok (.istore_n 3, 1) := by decide +kernel
theorem dX0_findServed_35 : decode cX0_findServed 35 = .ok (.iload_n 3, 1) := by decide +kernel
theorem dX0_findServed_36 : decode cX0_findServed 36 = .ok (.bipush 96, 2) := by decide +kernel
theorem dX0_findServed_38 : decode cX0_findServed 38 = .ok (.if_icmp .gt 102, 3) := by decide +kernel
theorem dX0_findServed_41 : decode cX0_findServed 41 = .ok (.iload_n 2, 1) := by decide +kernel
theorem dX0_findServed_42 : decode cX0_findServed 42 = .ok (.ifCond .eq 98, 3) := by decide +kernel
theorem dX0_findServed_45 : decode cX0_findServed 45 = .ok (.iconst 0, 1) := by decide +kernel
theorem dX0_findServed_46 : decode cX0_findServed 46 = .ok (.istore_n 2, 1) := by decide +kernel
theorem dX0_findServed_47 : decode cX0_findServed 47 = .ok (.iconst 0, 1) := by decide +kernel
theorem dX0_findServed_48 : decode cX0_findServed 48 = .ok (.istore 4, 2) := by decide +kernel
theorem dX0_findServed_50 : decode cX0_findServed 50 = .ok (.iload 4, 2) := by decide +kernel
theorem dX0_findServed_52 : decode cX0_findServed 52 = .ok (.iconst 4, 1) := by decide +kernel
theorem dX0_findServed_53 : decode cX0_findServed 53 = .ok (.if_icmp .ge 81, 3) := by decide +kernel
theorem dX0_findServed_56 : decode cX0_findServed 56 = .ok (.iconst 0, 1) := by decide +kernel
theorem dX0_findServed_57 : decode cX0_findServed 57 = .ok (.istore 5, 2) := by decide +kernel
theorem dX0_findServed_59 : decode cX0_findServed 59 = .ok (.iload 5, 2) := by decide +kernel
theorem dX0_findServed_61 : decode cX0_findServed 61 = .ok (.aload_n 0, 1) := by decide +kernel
theorem dX0_findServed_62 : decode cX0_findServed 62 = .ok (.getfield 9, 3) := by decide +kernel
theorem dX0_findServed_65 : decode cX0_findServed 65 = .ok (.iload 4, 2) := by decide +kernel
theorem dX0_findServed_67 : decode cX0_findServed 67 = .ok (.iaload, 1) := by decide +kernel
theorem dX0_findServed_68 : decode cX0_findServed 68 = .ok (.if_icmp .ge 29, 3) := by decide +kernel
theorem dX0_findServed_71 : decode cX0_findServed 71 = .ok (.aload_n 0, 1) := by decide +kernel
theorem dX0_findServed_72 : decode cX0_findServed 72 = .ok (.getfield 18, 3) := by decide +kernel
theorem dX0_findServed_75 : decode cX0_findServed 75 = .ok (.iload 4, 2) := by decide +kernel
theorem dX0_findServed_77 : decode cX0_findServed 77 = .ok (.iload 5, 2) := by decide +kernel
theorem dX0_findServed_79 : decode cX0_findServed 79 = .ok (.iconst 1, 1) := by decide +kernel
theorem dX0_findServed_80 : decode cX0_findServed 80 = .ok (.iadd, 1) := by decide +kernel
theorem dX0_findServed_81 : decode cX0_findServed 81 = .ok (.aload_n 0, 1) := by decide +kernel
theorem dX0_findServed_82 : decode cX0_findServed 82 = .ok (.getfield 9, 3) := by decide +kernel
theorem dX0_findServed_85 : decode cX0_findServed 85 = .ok (.invokevirtual 41, 3) := by decide +kernel
theorem dX0_findServed_88 : decode cX0_findServed 88 = .ok (.ifCond .eq 9, 3) := by decide +kernel
theorem dX0_findServed_91 : decode cX0_findServed 91 = .ok (.iinc 5 1, 3) := by decide +kernel
theorem dX0_findServed_94 : decode cX0_findServed 94 = .ok (.goto (-35), 3) := by decide +kernel
theorem dX0_findServed_97 : decode cX0_findServed 97 = .ok (.iload_n 2, 1) := by decide +kernel
theorem dX0_findServed_98 : decode cX0_findServed 98 = .ok (.ifCond .ne 15, 3) := by decide +kernel
theorem dX0_findServed_101 : decode cX0_findServed 101 = .ok (.iload 5, 2) := by decide +kernel
theorem dX0_findServed_103 : decode cX0_findServed 103 = .ok (.aload_n 0, 1) := by decide +kernel
theorem dX0_findServed_104 : decode cX0_findServed 104 = .ok (.getfield 9, 3) := by decide +kernel
theorem dX0_findServed_107 : decode cX0_findServed 107 = .ok (.iload 4, 2) := by decide +kernel
theorem dX0_findServed_109 : decode cX0_findServed 109 = .ok (.iaload, 1) := by decide +kernel
theorem dX0_findServed_110 : decode cX0_findServed 110 = .ok (.if_icmp .ge 7, 3) := by decide +kernel
theorem dX0_findServed_113 : decode cX0_findServed 113 = .ok (.iconst 1, 1) := by decide +kernel
theorem dX0_findServed_114 : decode cX0_findServed 114 = .ok (.goto 4, 3) := by decide +kernel
theorem dX0_findServed_117 : decode cX0_findServed 117 = .ok (.iconst 0, 1) := by decide +kernel
theorem dX0_findServed_118 : decode cX0_findServed 118 = .ok (.istore_n 2, 1) := by decide +kernel
theorem dX0_findServed_119 : decode cX0_findServed 119 = .ok (.aload_n 0, 1) := by decide +kernel
theorem dX0_findServed_120 : decode cX0_findServed 120 = .ok (.getfield 9, 3) := by decide +kernel
theorem dX0_findServed_123 : decode cX0_findServed 123 = .ok (.iload 4, 2) := by decide +kernel
theorem dX0_findServed_125 : decode cX0_findServed 125 = .ok (.iload 5, 2) := by decide +kernel
theorem dX0_findServed_127 : decode cX0_findServed 127 = .ok (.iastore, 1) := by decide +kernel
theorem dX0_findServed_128 : decode cX0_findServed 128 = .ok (.iinc 4 1, 3) := by decide +kernel
theorem dX0_findServed_131 : decode cX0_findServed 131 = .ok (.goto (-81), 3) := by decide +kernel
theorem dX0_findServed_134 : decode cX0_findServed 134 = .ok (.iinc 3 1, 3) := by decide +kernel
theorem dX0_findServed_137 : decode cX0_findServed 137 = .ok (.goto (-102), 3) := by decide +kernel
theorem dX0_findServed_140 : decode cX0_findServed 140 = .ok (.return_, 1) := by decide +kernel
theorem dX0_prefixFound_0 : decode cX0_prefixFound 0 = .ok (.iload_n 1, 1) := by decide +kernel
theorem dX0_prefixFound_1 : decode cX0_prefixFound 1 = .ok (.ifCond .lt 21, 3) := by decide +kernel
theorem dX0_prefixFound_4 : decode cX0_prefixFound 4 = .ok (.iload_n 1, 1) := by decide +kernel
theorem dX0_prefixFound_5 : decode cX0_prefixFound 5 = .ok (.aload_n 0, 1) := by decide +kernel
theorem dX0_prefixFound_6 : decode cX0_prefixFound 6 = .ok (.getfield 9, 3) := by decide +kernel
theorem dX0_prefixFound_9 : decode cX0_prefixFound 9 = .ok (.arraylength, 1) := by decide +kernel
theorem dX0_prefixFound_10 : decode cX0_prefixFound 10 = .ok (.if_icmp .ge 12, 3) := by decide +kernel
theorem dX0_prefixFound_13 : decode cX0_prefixFound 13 = .ok (.aload_n 0, 1) := by decide +kernel
theorem dX0_prefixFound_14 : decode cX0_prefixFound 14 = .ok (.getfield 9, 3) := by decide +kernel
theorem dX0_prefixFound_17 : decode cX0_prefixFound 17 = .ok (.iload_n 1, 1) := by decide +kernel
theorem dX0_prefixFound_18 : decode cX0_prefixFound 18 = .ok (.iaload, 1) := by decide +kernel
theorem dX0_prefixFound_19 : decode cX0_prefixFound 19 = .ok (.goto 4, 3) := by decide +kernel
theorem dX0_prefixFound_22 : decode cX0_prefixFound 22 = .ok (.iconst 0, 1) := by decide +kernel
theorem dX0_prefixFound_23 : decode cX0_prefixFound 23 = .ok (.ireturn, 1) := by decide +kernel
set_option maxRecDepth 20000 in
theorem ggX0_countMissing_X0_findNeeds : GoodIn wsX0_countMissing wsX0_findNeeds := goodIn_r _ [7, 1, 8, 9, 10, 6, 11, 2, 12, 13, 14, 15, 16, 17, 31, 32, 33, 34, 35, 36, 37, 38, 39, 40, 41, 42, 43, 44, 45, 46, 47, 48, 49] (by decide +kernel) (by decide +kernel)
set_option maxRecDepth 20000 in
theorem gX0_countMissing_X0_findNeeds : GoodIn wsX0_countMissing (wsV RX0 45 RX0 yX0_findNeeds wsX0_findNeeds) := goodIn_app (goodIn_of _ (by decide +kernel)) ggX0_countMissing_X0_findNeeds
set_option maxRecDepth 20000 in
theorem ggX0_countMissing_X5_knows : GoodIn wsX0_countMissing wsX5_knows := goodIn_r _ [21, 22, 23, 24, 15, 25, 26, 27, 28, 29, 30, 34, 35, 36, 37, 38, 39, 40, 41, 42, 43, 44, 45, 46, 47, 48, 49] (by decide +kernel) (by decide +kernel)
set_option maxRecDepth 20000 in
theorem gX0_countMissing_X5_knows : GoodIn wsX0_countMissing (wsV RX0 49 RX5 yX5_knows wsX5_knows) := goodIn_app (goodIn_of _ (by decide +kernel)) ggX0_countMissing_X5_knows
theorem dX0_countMissing_0 : decode cX0_countMissing 0 = .ok (.aload_n 0, 1) := by decide +kernel
theorem dX0_countMissing_1 : decode cX0_countMissing 1 = .ok (.iload_n 2, 1) := by decide +kernel
theorem dX0_countMissing_2 : decode cX0_countMissing 2 = .ok (.iload_n 3, 1) := by decide +kernel
theorem dX0_countMissing_3 : decode cX0_countMissing 3 = .ok (.invokevirtual 45, 3) := by decide +kernel
theorem dX0_countMissing_6 : decode cX0_countMissing 6 = .ok (.iconst 0, 1) := by decide +kernel
theorem dX0_countMissing_7 : decode cX0_countMissing 7 = .ok (.istore 4, 2) := by decide +kernel
theorem dX0_countMissing_9 : decode cX0_countMissing 9 = .ok (.iconst 0, 1) := by decide +kernel
theorem dX0_countMissing_10 : decode cX0_countMissing 10 = .ok (.istore 5, 2) := by decide +kernel
theorem dX0_countMissing_12 : decode cX0_countMissing 12 = .ok (.iload 5, 2) := by decide +kernel
theorem dX0_countMissing_14 : decode cX0_countMissing 14 = .ok (.iconst 4, 1) := by decide +kernel
theorem dX0_countMissing_15 : decode cX0_countMissing 15 = .ok (.if_icmp .ge 55, 3) := by decide +kernel
theorem dX0_countMissing_18 : decode cX0_countMissing 18 = .ok (.iconst 1, 1) := by decide +kernel
theorem dX0_countMissing_19 : decode cX0_countMissing 19 = .ok (.istore 6, 2) := by decide +kernel
theorem dX0_countMissing_21 : decode cX0_countMissing 21 = .ok (.iload 6, 2) := by decide +kernel
theorem dX0_countMissing_23 : decode cX0_countMissing 23 = .ok (.bipush 24, 2) := by decide +kernel
theorem dX0_countMissing_25 : decode cX0_countMissing 25 = .ok (.if_icmp .gt 39, 3) := by decide +kernel
theorem dX0_countMissing_28 : decode cX0_countMissing 28 = .ok (.iload 6, 2) := by decide +kernel
theorem dX0_countMissing_30 : decode cX0_countMissing 30 = .ok (.aload_n 0, 1) := by decide +kernel
theorem dX0_countMissing_31 : decode cX0_countMissing 31 = .ok (.getfield 15, 3) := by decide +kernel
theorem dX0_countMissing_34 : decode cX0_countMissing 34 = .ok (.iload 5, 2) := by decide +kernel
theorem dX0_countMissing_36 : decode cX0_countMissing 36 = .ok (.iaload, 1) := by decide +kernel
theorem dX0_countMissing_37 : decode cX0_countMissing 37 = .ok (.if_icmp .gt 27, 3) := by decide +kernel
theorem dX0_countMissing_40 : decode cX0_countMissing 40 = .ok (.aload_n 0, 1) := by decide +kernel
theorem dX0_countMissing_41 : decode cX0_countMissing 41 = .ok (.getfield 18, 3) := by decide +kernel
theorem dX0_countMissing_44 : decode cX0_countMissing 44 = .ok (.iload_n 1, 1) := by decide +kernel
theorem dX0_countMissing_45 : decode cX0_countMissing 45 = .ok (.iload 5, 2) := by decide +kernel
theorem dX0_countMissing_47 : decode cX0_countMissing 47 = .ok (.iload 6, 2) := by decide +kernel
theorem dX0_countMissing_49 : decode cX0_countMissing 49 = .ok (.invokevirtual 49, 3) := by decide +kernel
theorem dX0_countMissing_52 : decode cX0_countMissing 52 = .ok (.ifCond .ne 6, 3) := by decide +kernel
theorem dX0_countMissing_55 : decode cX0_countMissing 55 = .ok (.iinc 4 1, 3) := by decide +kernel
theorem dX0_countMissing_58 : decode cX0_countMissing 58 = .ok (.iinc 6 1, 3) := by decide +kernel
theorem dX0_countMissing_61 : decode cX0_countMissing 61 = .ok (.goto (-40), 3) := by decide +kernel
theorem dX0_countMissing_64 : decode cX0_countMissing 64 = .ok (.iinc 5 1, 3) := by decide +kernel
theorem dX0_countMissing_67 : decode cX0_countMissing 67 = .ok (.goto (-55), 3) := by decide +kernel
theorem dX0_countMissing_70 : decode cX0_countMissing 70 = .ok (.iload 4, 2) := by decide +kernel
theorem dX0_countMissing_72 : decode cX0_countMissing 72 = .ok (.ireturn, 1) := by decide +kernel
set_option maxRecDepth 20000 in
theorem ggX0_findNeeds_X0_addCausesOf : GoodIn wsX0_findNeeds wsX0_addCausesOf := goodIn_r _ [6, 1, 7, 8, 9, 10, 11, 12, 13, 14, 15, 16, 17, 18, 19, 20, 21, 22, 23, 24, 25, 26, 27, 28, 29, 30, 31, 32] (by decide +kernel) (by decide +kernel)
set_option maxRecDepth 20000 in
theorem gX0_findNeeds_X0_addCausesOf : GoodIn wsX0_findNeeds (wsV RX0 53 RX0 yX0_addCausesOf wsX0_addCausesOf) := goodIn_app (goodIn_of _ (by decide +kernel)) ggX0_findNeeds_X0_addCausesOf
theorem dX0_findNeeds_0 : decode cX0_findNeeds 0 = .ok (.iconst 0, 1) := by decide +kernel
theorem dX0_findNeeds_1 : decode cX0_findNeeds 1 = .ok (.istore_n 3, 1) := by decide +kernel
theorem dX0_findNeeds_2 : decode cX0_findNeeds 2 = .ok (.iload_n 3, 1) := by decide +kernel
theorem dX0_findNeeds_3 : decode cX0_findNeeds 3 = .ok (.iconst 4, 1) := by decide +kernel
theorem dX0_findNeeds_4 : decode cX0_findNeeds 4 = .ok (.if_icmp .ge 25, 3) := by decide +kernel
theorem dX0_findNeeds_7 : decode cX0_findNeeds 7 = .ok (.aload_n 0, 1) := by decide +kernel
theorem dX0_findNeeds_8 : decode cX0_findNeeds 8 = .ok (.getfield 15, 3) := by decide +kernel
theorem dX0_findNeeds_11 : decode cX0_findNeeds 11 = .ok (.iload_n 3, 1) := by decide +kernel
theorem dX0_findNeeds_12 : decode cX0_findNeeds 12 = .ok (.iload_n 3, 1) := by decide +kernel
theorem dX0_findNeeds_13 : decode cX0_findNeeds 13 = .ok (.iload_n 1, 1) := by decide +kernel
theorem dX0_findNeeds_14 : decode cX0_findNeeds 14 = .ok (.if_icmp .ne 7, 3) := by decide +kernel
theorem dX0_findNeeds_17 : decode cX0_findNeeds 17 = .ok (.iload_n 2, 1) := by decide +kernel
theorem dX0_findNeeds_18 : decode cX0_findNeeds 18 = .ok (.goto 4, 3) := by decide +kernel
theorem dX0_findNeeds_21 : decode cX0_findNeeds 21 = .ok (.iconst 0, 1) := by decide +kernel
theorem dX0_findNeeds_22 : decode cX0_findNeeds 22 = .ok (.iastore, 1) := by decide +kernel
theorem dX0_findNeeds_23 : decode cX0_findNeeds 23 = .ok (.iinc 3 1, 3) := by decide +kernel
theorem dX0_findNeeds_26 : decode cX0_findNeeds 26 = .ok (.goto (-24), 3) := by decide +kernel
theorem dX0_findNeeds_29 : decode cX0_findNeeds 29 = .ok (.iconst 1, 1) := by decide +kernel
theorem dX0_findNeeds_30 : decode cX0_findNeeds 30 = .ok (.istore_n 3, 1) := by decide +kernel
theorem dX0_findNeeds_31 : decode cX0_findNeeds 31 = .ok (.iconst 0, 1) := by decide +kernel
theorem dX0_findNeeds_32 : decode cX0_findNeeds 32 = .ok (.istore 4, 2) := by decide +kernel
theorem dX0_findNeeds_34 : decode cX0_findNeeds 34 = .ok (.iload 4, 2) := by decide +kernel
theorem dX0_findNeeds_36 : decode cX0_findNeeds 36 = .ok (.bipush 96, 2) := by decide +kernel
theorem dX0_findNeeds_38 : decode cX0_findNeeds 38 = .ok (.if_icmp .gt 49, 3) := by decide +kernel
theorem dX0_findNeeds_41 : decode cX0_findNeeds 41 = .ok (.iload_n 3, 1) := by decide +kernel
theorem dX0_findNeeds_42 : decode cX0_findNeeds 42 = .ok (.ifCond .eq 45, 3) := by decide +kernel
theorem dX0_findNeeds_45 : decode cX0_findNeeds 45 = .ok (.iconst 0, 1) := by decide +kernel
theorem dX0_findNeeds_46 : decode cX0_findNeeds 46 = .ok (.istore_n 3, 1) := by decide +kernel
theorem dX0_findNeeds_47 : decode cX0_findNeeds 47 = .ok (.iconst 0, 1) := by decide +kernel
theorem dX0_findNeeds_48 : decode cX0_findNeeds 48 = .ok (.istore 5, 2) := by decide +kernel
theorem dX0_findNeeds_50 : decode cX0_findNeeds 50 = .ok (.iload 5, 2) := by decide +kernel
theorem dX0_findNeeds_52 : decode cX0_findNeeds 52 = .ok (.iconst 4, 1) := by decide +kernel
theorem dX0_findNeeds_53 : decode cX0_findNeeds 53 = .ok (.if_icmp .ge 28, 3) := by decide +kernel
theorem dX0_findNeeds_56 : decode cX0_findNeeds 56 = .ok (.aload_n 0, 1) := by decide +kernel
theorem dX0_findNeeds_57 : decode cX0_findNeeds 57 = .ok (.iload 5, 2) := by decide +kernel
theorem dX0_findNeeds_59 : decode cX0_findNeeds 59 = .ok (.invokevirtual 53, 3) := by decide +kernel
theorem dX0_findNeeds_62 : decode cX0_findNeeds 62 = .ok (.ifCond .ne 7, 3) := by decide +kernel
theorem dX0_findNeeds_65 : decode cX0_findNeeds 65 = .ok (.iload_n 3, 1) := by decide +kernel
theorem dX0_findNeeds_66 : decode cX0_findNeeds 66 = .ok (.ifCond .eq 7, 3) := by decide +kernel
theorem dX0_findNeeds_69 : decode cX0_findNeeds 69 = .ok (.iconst 1, 1) := by decide +kernel
theorem dX0_findNeeds_70 : decode cX0_findNeeds 70 = .ok (.goto 4, 3) := by decide +kernel
theorem dX0_findNeeds_73 : decode cX0_findNeeds 73 = .ok (.iconst 0, 1) := by decide +kernel
theorem dX0_findNeeds_74 : decode cX0_findNeeds 74 = .ok (.istore_n 3, 1) := by decide +kernel
theorem dX0_findNeeds_75 : decode cX0_findNeeds 75 = .ok (.iinc 5 1, 3) := by decide +kernel
theorem dX0_findNeeds_78 : decode cX0_findNeeds 78 = .ok (.goto (-28), 3) := by decide +kernel
theorem dX0_findNeeds_81 : decode cX0_findNeeds 81 = .ok (.iinc 4 1, 3) := by decide +kernel
theorem dX0_findNeeds_84 : decode cX0_findNeeds 84 = .ok (.goto (-50), 3) := by decide +kernel
theorem dX0_findNeeds_87 : decode cX0_findNeeds 87 = .ok (.return_, 1) := by decide +kernel
set_option maxRecDepth 20000 in
theorem ggX0_addCausesOf_X5_causeOf : GoodIn wsX0_addCausesOf wsX5_causeOf := goodIn_r _ [7, 8, 12, 13, 14, 15, 16, 17, 18, 19, 20, 21, 22, 23, 24, 25, 26, 27] (by decide +kernel) (by decide +kernel)
set_option maxRecDepth 20000 in
theorem gX0_addCausesOf_X5_causeOf : GoodIn wsX0_addCausesOf (wsV RX0 57 RX5 yX5_causeOf wsX5_causeOf) := goodIn_app (goodIn_of _ (by decide +kernel)) ggX0_addCausesOf_X5_causeOf
theorem dX0_addCausesOf_0 : decode cX0_addCausesOf 0 = .ok (.iconst 0, 1) := by decide +kernel
theorem dX0_addCausesOf_1 : decode cX0_addCausesOf 1 = .ok (.istore_n 2, 1) := by decide +kernel
theorem dX0_addCausesOf_2 : decode cX0_addCausesOf 2 = .ok (.iload_n 1, 1) := by decide +kernel
theorem dX0_addCausesOf_3 : decode cX0_addCausesOf 3 = .ok (.ifCond .lt 21, 3) := by decide +kernel
theorem dX0_addCausesOf_6 : decode cX0_addCausesOf 6 = .ok (.iload_n 1, 1) := by decide +kernel
theorem dX0_addCausesOf_7 : decode cX0_addCausesOf 7 = .ok (.aload_n 0, 1) := by decide +kernel
theorem dX0_addCausesOf_8 : decode cX0_addCausesOf 8 = .ok (.getfield 15, 3) := by decide +kernel
theorem dX0_addCausesOf_11 : decode cX0_addCausesOf 11 = .ok (.arraylength, 1) := by decide +kernel
theorem dX0_addCausesOf_12 : decode cX0_addCausesOf 12 = .ok (.if_icmp .ge 12, 3) := by decide +kernel
theorem dX0_addCausesOf_15 : decode cX0_addCausesOf 15 = .ok (.aload_n 0, 1) := by decide +kernel
theorem dX0_addCausesOf_16 : decode cX0_addCausesOf 16 = .ok (.getfield 15, 3) := by decide +kernel
theorem dX0_addCausesOf_19 : decode cX0_addCausesOf 19 = .ok (.iload_n 1, 1) := by decide +kernel
theorem dX0_addCausesOf_20 : decode cX0_addCausesOf 20 = .ok (.iaload, 1) := by decide +kernel
theorem dX0_addCausesOf_21 : decode cX0_addCausesOf 21 = .ok (.goto 4, 3) := by decide +kernel
theorem dX0_addCausesOf_24 : decode cX0_addCausesOf 24 = .ok (.iconst 0, 1) := by decide +kernel
theorem dX0_addCausesOf_25 : decode cX0_addCausesOf 25 = .ok (.istore_n 3, 1) := by decide +kernel
theorem dX0_addCausesOf_26 : decode cX0_addCausesOf 26 = .ok (.iconst 1, 1) := by decide +kernel
theorem dX0_addCausesOf_27 : decode cX0_addCausesOf 27 = .ok (.istore 4, 2) := by decide +kernel
theorem dX0_addCausesOf_29 : decode cX0_addCausesOf 29 = .ok (.iload 4, 2) := by decide +kernel
theorem dX0_addCausesOf_31 : decode cX0_addCausesOf 31 = .ok (.bipush 24, 2) := by decide +kernel
theorem dX0_addCausesOf_33 : decode cX0_addCausesOf 33 = .ok (.if_icmp .gt 67, 3) := by decide +kernel
theorem dX0_addCausesOf_36 : decode cX0_addCausesOf 36 = .ok (.iload 4, 2) := by decide +kernel
theorem dX0_addCausesOf_38 : decode cX0_addCausesOf 38 = .ok (.iload_n 3, 1) := by decide +kernel
theorem dX0_addCausesOf_39 : decode cX0_addCausesOf 39 = .ok (.if_icmp .gt 61, 3) := by decide +kernel
theorem dX0_addCausesOf_42 : decode cX0_addCausesOf 42 = .ok (.iconst 0, 1) := by decide +kernel
theorem dX0_addCausesOf_43 : decode cX0_addCausesOf 43 = .ok (.istore 5, 2) := by decide +kernel
theorem dX0_addCausesOf_45 : decode cX0_addCausesOf 45 = .ok (.iload 5, 2) := by decide +kernel
theorem dX0_addCausesOf_47 : decode cX0_addCausesOf 47 = .ok (.iconst 4, 1) := by decide +kernel
theorem dX0_addCausesOf_48 : decode cX0_addCausesOf 48 = .ok (.if_icmp .ge 46, 3) := by decide +kernel
theorem dX0_addCausesOf_51 : decode cX0_addCausesOf 51 = .ok (.aload_n 0, 1) := by decide +kernel
theorem dX0_addCausesOf_52 : decode cX0_addCausesOf 52 = .ok (.getfield 18, 3) := by decide +kernel
theorem dX0_addCausesOf_55 : decode cX0_addCausesOf 55 = .ok (.iload_n 1, 1) := by decide +kernel
theorem dX0_addCausesOf_56 : decode cX0_addCausesOf 56 = .ok (.iload 4, 2) := by decide +kernel
theorem dX0_addCausesOf_58 : decode cX0_addCausesOf 58 = .ok (.iload 5, 2) := by decide +kernel
theorem dX0_addCausesOf_60 : decode cX0_addCausesOf 60 = .ok (.invokevirtual 57, 3) := by decide +kernel
theorem dX0_addCausesOf_63 : decode cX0_addCausesOf 63 = .ok (.istore 6, 2) := by decide +kernel
theorem dX0_addCausesOf_65 : decode cX0_addCausesOf 65 = .ok (.iload 6, 2) := by decide +kernel
theorem dX0_addCausesOf_67 : decode cX0_addCausesOf 67 = .ok (.aload_n 0, 1) := by decide +kernel
theorem dX0_addCausesOf_68 : decode cX0_addCausesOf 68 = .ok (.getfield 15, 3) := by decide +kernel
theorem dX0_addCausesOf_71 : decode cX0_addCausesOf 71 = .ok (.iload 5, 2) := by decide +kernel
theorem dX0_addCausesOf_73 : decode cX0_addCausesOf 73 = .ok (.iaload, 1) := by decide +kernel
theorem dX0_addCausesOf_74 : decode cX0_addCausesOf 74 = .ok (.if_icmp .le 14, 3) := by decide +kernel
theorem dX0_addCausesOf_77 : decode cX0_addCausesOf 77 = .ok (.aload_n 0, 1) := by decide +kernel
theorem dX0_addCausesOf_78 : decode cX0_addCausesOf 78 = .ok (.getfield 15, 3) := by decide +kernel
theorem dX0_addCausesOf_81 : decode cX0_addCausesOf 81 = .ok (.iload 5, 2) := by decide +kernel
theorem dX0_addCausesOf_83 : decode cX0_addCausesOf 83 = .ok (.iload 6, 2) := by decide +kernel
theorem dX0_addCausesOf_85 : decode cX0_addCausesOf 85 = .ok (.iastore, 1) := by decide +kernel
theorem dX0_addCausesOf_86 : decode cX0_addCausesOf 86 = .ok (.iconst 1, 1) := by decide +kernel
theorem dX0_addCausesOf_87 : decode cX0_addCausesOf 87 = .ok (.istore_n 2, 1) := by decide +kernel
theorem dX0_addCausesOf_88 : decode cX0_addCausesOf 88 = .ok (.iinc 5 1, 3) := by decide +kernel
theorem dX0_addCausesOf_91 : decode cX0_addCausesOf 91 = .ok (.goto (-46), 3) := by decide +kernel
theorem dX0_addCausesOf_94 : decode cX0_addCausesOf 94 = .ok (.iinc 4 1, 3) := by decide +kernel
theorem dX0_addCausesOf_97 : decode cX0_addCausesOf 97 = .ok (.goto (-68), 3) := by decide +kernel
theorem dX0_addCausesOf_100 : decode cX0_addCausesOf 100 = .ok (.iload_n 2, 1) := by decide +kernel
theorem dX0_addCausesOf_101 : decode cX0_addCausesOf 101 = .ok (.ireturn, 1) := by decide +kernel
set_option maxRecDepth 20000 in
theorem ggX1_init_X5_init : GoodIn wsX1_init wsX5_init := goodIn_r _ [10, 11, 2, 3, 12, 13, 14, 15, 16, 17, 18, 19, 20, 21, 22, 23, 24, 25, 26, 27, 28, 29, 30, 31, 32, 33, 34, 35, 36, 40, 41, 42, 43, 44, 45, 46, 47, 48, 49, 50, 51, 52, 53, 54, 55, 56, 57] (by decide +kernel) (by decide +kernel)
set_option maxRecDepth 20000 in
theorem gX1_init_X5_init : GoodIn wsX1_init (wsX5_init) := ggX1_init_X5_init
theorem dX1_init_0 : decode cX1_init 0 = .ok (.aload_n 0, 1) := by decide +kernel
theorem dX1_init_1 : decode cX1_init 1 = .ok (.invokespecial 3, 3) := by decide +kernel
theorem dX1_init_4 : decode cX1_init 4 = .ok (.aload_n 0, 1) := by decide +kernel
theorem dX1_init_5 : decode cX1_init 5 = .ok (.bipush 7, 2) := by decide +kernel
theorem dX1_init_7 : decode cX1_init 7 = .ok (.anewarray 11, 3) := by decide +kernel
theorem dX1_init_10 : decode cX1_init 10 = .ok (.putfield 13, 3) := by decide +kernel
theorem dX1_init_13 : decode cX1_init 13 = .ok (.iconst 0, 1) := by decide +kernel
theorem dX1_init_14 : decode cX1_init 14 = .ok (.istore_n 1, 1) := by decide +kernel
theorem dX1_init_15 : decode cX1_init 15 = .ok (.iload_n 1, 1) := by decide +kernel
theorem dX1_init_16 : decode cX1_init 16 = .ok (.bipush 7, 2) := by decide +kernel
theorem dX1_init_18 : decode cX1_init 18 = .ok (.if_icmp .ge 22, 3) := by decide +kernel
theorem dX1_init_21 : decode cX1_init 21 = .ok (.aload_n 0, 1) := by decide +kernel
theorem dX1_init_22 : decode cX1_init 22 = .ok (.getfield 13, 3) := by decide +kernel
theorem dX1_init_25 : decode cX1_init 25 = .ok (.iload_n 1, 1) := by decide +kernel
theorem dX1_init_26 : decode cX1_init 26 = .ok (.new 11, 3) := by decide +kernel
theorem dX1_init_29 : decode cX1_init 29 = .ok (.dup, 1) := by decide +kernel
theorem dX1_init_30 : decode cX1_init 30 = .ok (.invokespecial 17, 3) := by decide +kernel
theorem dX1_init_33 : decode cX1_init 33 = .ok (.aastore, 1) := by decide +kernel
theorem dX1_init_34 : decode cX1_init 34 = .ok (.iinc 1 1, 3) := by decide +kernel
theorem dX1_init_37 : decode cX1_init 37 = .ok (.goto (-22), 3) := by decide +kernel
theorem dX1_init_40 : decode cX1_init 40 = .ok (.return_, 1) := by decide +kernel
theorem dX1_savedCount_0 : decode cX1_savedCount 0 = .ok (.aload_n 0, 1) := by decide +kernel
theorem dX1_savedCount_1 : decode cX1_savedCount 1 = .ok (.getfield 18, 3) := by decide +kernel
theorem dX1_savedCount_4 : decode cX1_savedCount 4 = .ok (.ireturn, 1) := by decide +kernel
set_option maxRecDepth 20000 in
theorem ggX1_stage_J9_floorMod_7cf53 : GoodIn wsX1_stage wsJ9_floorMod_7cf53 := goodIn_r _ [6] (by decide +kernel) (by decide +kernel)
set_option maxRecDepth 20000 in
theorem gX1_stage_J9_floorMod_7cf53 : GoodIn wsX1_stage (va_wsS RX1 25 yJ9_floorMod_7cf53 wsJ9_floorMod_7cf53) := goodIn_app (goodIn_of _ (by decide +kernel)) ggX1_stage_J9_floorMod_7cf53
set_option maxRecDepth 20000 in
theorem ggX1_stage_X5_copyFrom : GoodIn wsX1_stage wsX5_copyFrom := goodIn_r _ [11, 12, 13, 14, 15, 16, 17, 18, 19, 20, 21, 22, 23, 24, 25, 26, 27, 28, 29, 30, 31, 32, 33, 34, 35, 36, 37, 38, 39, 40, 41, 42, 46, 47, 48, 49, 50, 51, 52, 53, 54, 55, 56, 57, 58, 59, 60, 61, 62, 63] (by decide +kernel) (by decide +kernel)
set_option maxRecDepth 20000 in
theorem gX1_stage_X5_copyFrom : GoodIn wsX1_stage (wsV RX1 31 RX5 yX5_copyFrom wsX5_copyFrom) := goodIn_app (goodIn_of _ (by decide +kernel)) ggX1_stage_X5_copyFrom
theorem dX1_stage_0 : decode cX1_stage 0 = .ok (.aload_n 0, 1) := by decide +kernel
theorem dX1_stage_1 : decode cX1_stage 1 = .ok (.getfield 13, 3) := by decide +kernel
theorem dX1_stage_4 : decode cX1_stage 4 = .ok (.aload_n 0, 1) := by decide +kernel
theorem dX1_stage_5 : decode cX1_stage 5 = .ok (.getfield 22, 3) := by decide +kernel
theorem dX1_stage_8 : decode cX1_stage 8 = .ok (.bipush 7, 2) := by decide +kernel
theorem dX1_stage_10 : decode cX1_stage 10 = .ok (.invokestatic 25, 3) := by decide +kernel
theorem dX1_stage_13 : decode cX1_stage 13 = .ok (.aaload, 1) := by decide +kernel
theorem dX1_stage_14 : decode cX1_stage 14 = .ok (.aload_n 1, 1) := by decide +kernel
theorem dX1_stage_15 : decode cX1_stage 15 = .ok (.invokevirtual 31, 3) := by decide +kernel
theorem dX1_stage_18 : decode cX1_stage 18 = .ok (.return_, 1) := by decide +kernel
set_option maxRecDepth 20000 in
theorem ggX1_commit_J9_floorMod_7cf53 : GoodIn wsX1_commit wsJ9_floorMod_7cf53 := goodIn_r _ [10] (by decide +kernel) (by decide +kernel)
set_option maxRecDepth 20000 in
theorem gX1_commit_J9_floorMod_7cf53 : GoodIn wsX1_commit (va_wsS RX1 25 yJ9_floorMod_7cf53 wsJ9_floorMod_7cf53) := goodIn_app (goodIn_of _ (by decide +kernel)) ggX1_commit_J9_floorMod_7cf53
theorem dX1_commit_0 : decode cX1_commit 0 = .ok (.aload_n 0, 1) := by decide +kernel
theorem dX1_commit_1 : decode cX1_commit 1 = .ok (.aload_n 0, 1) := by decide +kernel
theorem dX1_commit_2 : decode cX1_commit 2 = .ok (.getfield 22, 3) := by decide +kernel
theorem dX1_commit_5 : decode cX1_commit 5 = .ok (.iconst 1, 1) := by decide +kernel
theorem dX1_commit_6 : decode cX1_commit 6 = .ok (.iadd, 1) := by decide +kernel
theorem dX1_commit_7 : decode cX1_commit 7 = .ok (.bipush 7, 2) := by decide +kernel
theorem dX1_commit_9 : decode cX1_commit 9 = .ok (.invokestatic 25, 3) := by decide +kernel
theorem dX1_commit_12 : decode cX1_commit 12 = .ok (.putfield 22, 3) := by decide +kernel
theorem dX1_commit_15 : decode cX1_commit 15 = .ok (.aload_n 0, 1) := by decide +kernel
theorem dX1_commit_16 : decode cX1_commit 16 = .ok (.aload_n 0, 1) := by decide +kernel
theorem dX1_commit_17 : decode cX1_commit 17 = .ok (.getfield 18, 3) := by decide +kernel
theorem dX1_commit_20 : decode cX1_commit 20 = .ok (.iconst 1, 1) := by decide +kernel
theorem dX1_commit_21 : decode cX1_commit 21 = .ok (.iadd, 1) := by decide +kernel
theorem dX1_commit_22 : decode cX1_commit 22 = .ok (.bipush 6, 2) := by decide +kernel
theorem dX1_commit_24 : decode cX1_commit 24 = .ok (.invokestatic 35, 3) := by decide +kernel
theorem dX1_commit_27 : decode cX1_commit 27 = .ok (.putfield 18, 3) := by decide +kernel
theorem dX1_commit_30 : decode cX1_commit 30 = .ok (.return_, 1) := by decide +kernel
theorem dX2_init_0 : decode cX2_init 0 = .ok (.aload_n 0, 1) := by decide +kernel
theorem dX2_init_1 : decode cX2_init 1 = .ok (.invokespecial 1, 3) := by decide +kernel
theorem dX2_init_4 : decode cX2_init 4 = .ok (.aload_n 0, 1) := by decide +kernel
theorem dX2_init_5 : decode cX2_init 5 = .ok (.iload_n 1, 1) := by decide +kernel
theorem dX2_init_6 : decode cX2_init 6 = .ok (.iconst 0, 1) := by decide +kernel
theorem dX2_init_7 : decode cX2_init 7 = .ok (.invokestatic 7, 3) := by decide +kernel
theorem dX2_init_10 : decode cX2_init 10 = .ok (.newarray .int, 2) := by decide +kernel
theorem dX2_init_12 : decode cX2_init 12 = .ok (.putfield 13, 3) := by decide +kernel
theorem dX2_init_15 : decode cX2_init 15 = .ok (.return_, 1) := by decide +kernel
theorem dX2_length_0 : decode cX2_length 0 = .ok (.aload_n 0, 1) := by decide +kernel
theorem dX2_length_1 : decode cX2_length 1 = .ok (.getfield 19, 3) := by decide +kernel
theorem dX2_length_4 : decode cX2_length 4 = .ok (.ireturn, 1) := by decide +kernel
theorem dX2_at_0 : decode cX2_at 0 = .ok (.iload_n 1, 1) := by decide +kernel
theorem dX2_at_1 : decode cX2_at 1 = .ok (.ifCond .lt 29, 3) := by decide +kernel
theorem dX2_at_4 : decode cX2_at 4 = .ok (.iload_n 1, 1) := by decide +kernel
theorem dX2_at_5 : decode cX2_at 5 = .ok (.aload_n 0, 1) := by decide +kernel
theorem dX2_at_6 : decode cX2_at 6 = .ok (.getfield 19, 3) := by decide +kernel
theorem dX2_at_9 : decode cX2_at 9 = .ok (.if_icmp .ge 21, 3) := by decide +kernel
theorem dX2_at_12 : decode cX2_at 12 = .ok (.iload_n 1, 1) := by decide +kernel
theorem dX2_at_13 : decode cX2_at 13 = .ok (.aload_n 0, 1) := by decide +kernel
theorem dX2_at_14 : decode cX2_at 14 = .ok (.getfield 13, 3) := by decide +kernel
theorem dX2_at_17 : decode cX2_at 17 = .ok (.arraylength, 1) := by decide +kernel
theorem dX2_at_18 : decode cX2_at 18 = .ok (.if_icmp .ge 12, 3) := by decide +kernel
theorem dX2_at_21 : decode cX2_at 21 = .ok (.aload_n 0, 1) := by decide +kernel
theorem dX2_at_22 : decode cX2_at 22 = .ok (.getfield 13, 3) := by decide +kernel
theorem dX2_at_25 : decode cX2_at 25 = .ok (.iload_n 1, 1) := by decide +kernel
theorem dX2_at_26 : decode cX2_at 26 = .ok (.iaload, 1) := by decide +kernel
theorem dX2_at_27 : decode cX2_at 27 = .ok (.goto 4, 3) := by decide +kernel
theorem dX2_at_30 : decode cX2_at 30 = .ok (.iconst 0, 1) := by decide +kernel
theorem dX2_at_31 : decode cX2_at 31 = .ok (.ireturn, 1) := by decide +kernel
theorem dX2_has_0 : decode cX2_has 0 = .ok (.iconst 0, 1) := by decide +kernel
theorem dX2_has_1 : decode cX2_has 1 = .ok (.istore_n 2, 1) := by decide +kernel
theorem dX2_has_2 : decode cX2_has 2 = .ok (.iload_n 2, 1) := by decide +kernel
theorem dX2_has_3 : decode cX2_has 3 = .ok (.aload_n 0, 1) := by decide +kernel
theorem dX2_has_4 : decode cX2_has 4 = .ok (.getfield 19, 3) := by decide +kernel
theorem dX2_has_7 : decode cX2_has 7 = .ok (.if_icmp .ge 30, 3) := by decide +kernel
theorem dX2_has_10 : decode cX2_has 10 = .ok (.iload_n 2, 1) := by decide +kernel
theorem dX2_has_11 : decode cX2_has 11 = .ok (.aload_n 0, 1) := by decide +kernel
theorem dX2_has_12 : decode cX2_has 12 = .ok (.getfield 13, 3) := by decide +kernel
theorem dX2_has_15 : decode cX2_has 15 = .ok (.arraylength, 1) := by decide +kernel
theorem dX2_has_16 : decode cX2_has 16 = .ok (.if_icmp .ge 21, 3) := by decide +kernel
theorem dX2_has_19 : decode cX2_has 19 = .ok (.aload_n 0, 1) := by decide +kernel
theorem dX2_has_20 : decode cX2_has 20 = .ok (.getfield 13, 3) := by decide +kernel
theorem dX2_has_23 : decode cX2_has 23 = .ok (.iload_n 2, 1) := by decide +kernel
theorem dX2_has_24 : decode cX2_has 24 = .ok (.iaload, 1) := by decide +kernel
theorem dX2_has_25 : decode cX2_has 25 = .ok (.iload_n 1, 1) := by decide +kernel
theorem dX2_has_26 : decode cX2_has 26 = .ok (.if_icmp .ne 5, 3) := by decide +kernel
theorem dX2_has_29 : decode cX2_has 29 = .ok (.iconst 1, 1) := by decide +kernel
theorem dX2_has_30 : decode cX2_has 30 = .ok (.ireturn, 1) := by decide +kernel
theorem dX2_has_31 : decode cX2_has 31 = .ok (.iinc 2 1, 3) := by decide +kernel
theorem dX2_has_34 : decode cX2_has 34 = .ok (.goto (-32), 3) := by decide +kernel
theorem dX2_has_37 : decode cX2_has 37 = .ok (.iconst 0, 1) := by decide +kernel
theorem dX2_has_38 : decode cX2_has 38 = .ok (.ireturn, 1) := by decide +kernel
theorem dX2_append_0 : decode cX2_append 0 = .ok (.aload_n 0, 1) := by decide +kernel
theorem dX2_append_1 : decode cX2_append 1 = .ok (.getfield 19, 3) := by decide +kernel
theorem dX2_append_4 : decode cX2_append 4 = .ok (.ifCond .lt 15, 3) := by decide +kernel
theorem dX2_append_7 : decode cX2_append 7 = .ok (.aload_n 0, 1) := by decide +kernel
theorem dX2_append_8 : decode cX2_append 8 = .ok (.getfield 19, 3) := by decide +kernel
theorem dX2_append_11 : decode cX2_append 11 = .ok (.aload_n 0, 1) := by decide +kernel
theorem dX2_append_12 : decode cX2_append 12 = .ok (.getfield 13, 3) := by decide +kernel
theorem dX2_append_15 : decode cX2_append 15 = .ok (.arraylength, 1) := by decide +kernel
theorem dX2_append_16 : decode cX2_append 16 = .ok (.if_icmp .lt 5, 3) := by decide +kernel
theorem dX2_append_19 : decode cX2_append 19 = .ok (.iconst 0, 1) := by decide +kernel
theorem dX2_append_20 : decode cX2_append 20 = .ok (.ireturn, 1) := by decide +kernel
theorem dX2_append_21 : decode cX2_append 21 = .ok (.aload_n 0, 1) := by decide +kernel
theorem dX2_append_22 : decode cX2_append 22 = .ok (.getfield 13, 3) := by decide +kernel
theorem dX2_append_25 : decode cX2_append 25 = .ok (.aload_n 0, 1) := by decide +kernel
theorem dX2_append_26 : decode cX2_append 26 = .ok (.getfield 19, 3) := by decide +kernel
theorem dX2_append_29 : decode cX2_append 29 = .ok (.iload_n 1, 1) := by decide +kernel
theorem dX2_append_30 : decode cX2_append 30 = .ok (.iastore, 1) := by decide +kernel
theorem dX2_append_31 : decode cX2_append 31 = .ok (.aload_n 0, 1) := by decide +kernel
theorem dX2_append_32 : decode cX2_append 32 = .ok (.dup, 1) := by decide +kernel
theorem dX2_append_33 : decode cX2_append 33 = .ok (.getfield 19, 3) := by decide +kernel
theorem dX2_append_36 : decode cX2_append 36 = .ok (.iconst 1, 1) := by decide +kernel
theorem dX2_append_37 : decode cX2_append 37 = .ok (.iadd, 1) := by decide +kernel
theorem dX2_append_38 : decode cX2_append 38 = .ok (.putfield 19, 3) := by decide +kernel
theorem dX2_append_41 : decode cX2_append 41 = .ok (.iconst 1, 1) := by decide +kernel
theorem dX2_append_42 : decode cX2_append 42 = .ok (.ireturn, 1) := by decide +kernel
theorem dX2_removeAt_0 : decode cX2_removeAt 0 = .ok (.iload_n 1, 1) := by decide +kernel
theorem dX2_removeAt_1 : decode cX2_removeAt 1 = .ok (.ifCond .lt 11, 3) := by decide +kernel
theorem dX2_removeAt_4 : decode cX2_removeAt 4 = .ok (.iload_n 1, 1) := by decide +kernel
theorem dX2_removeAt_5 : decode cX2_removeAt 5 = .ok (.aload_n 0, 1) := by decide +kernel
theorem dX2_removeAt_6 : decode cX2_removeAt 6 = .ok (.getfield 19, 3) := by decide +kernel
theorem dX2_removeAt_9 : decode cX2_removeAt 9 = .ok (.if_icmp .lt 4, 3) := by decide +kernel
theorem dX2_removeAt_12 : decode cX2_removeAt 12 = .ok (.return_, 1) := by decide +kernel
theorem dX2_removeAt_13 : decode cX2_removeAt 13 = .ok (.iload_n 1, 1) := by decide +kernel
theorem dX2_removeAt_14 : decode cX2_removeAt 14 = .ok (.iconst 1, 1) := by decide +kernel
theorem dX2_removeAt_15 : decode cX2_removeAt 15 = .ok (.iadd, 1) := by decide +kernel
theorem dX2_removeAt_16 : decode cX2_removeAt 16 = .ok (.istore_n 2, 1) := by decide +kernel
theorem dX2_removeAt_17 : decode cX2_removeAt 17 = .ok (.iload_n 2, 1) := by decide +kernel
theorem dX2_removeAt_18 : decode cX2_removeAt 18 = .ok (.aload_n 0, 1) := by decide +kernel
theorem dX2_removeAt_19 : decode cX2_removeAt 19 = .ok (.getfield 19, 3) := by decide +kernel
theorem dX2_removeAt_22 : decode cX2_removeAt 22 = .ok (.if_icmp .ge 32, 3) := by decide +kernel
theorem dX2_removeAt_25 : decode cX2_removeAt 25 = .ok (.iload_n 2, 1) := by decide +kernel
theorem dX2_removeAt_26 : decode cX2_removeAt 26 = .ok (.aload_n 0, 1) := by decide +kernel
theorem dX2_removeAt_27 : decode cX2_removeAt 27 = .ok (.getfield 13, 3) := by decide +kernel
theorem dX2_removeAt_30 : decode cX2_removeAt 30 = .ok (.arraylength, 1) := by decide +kernel
theorem dX2_removeAt_31 : decode cX2_removeAt 31 = .ok (.if_icmp .ge 23, 3) := by decide +kernel
theorem dX2_removeAt_34 : decode cX2_removeAt 34 = .ok (.aload_n 0, 1) := by decide +kernel
theorem dX2_removeAt_35 : decode cX2_removeAt 35 = .ok (.getfield 13, 3) := by decide +kernel
theorem dX2_removeAt_38 : decode cX2_removeAt 38 = .ok (.iload_n 2, 1) := by decide +kernel
theorem dX2_removeAt_39 : decode cX2_removeAt 39 = .ok (.iconst 1, 1) := by decide +kernel
theorem dX2_removeAt_40 : decode cX2_removeAt 40 = .ok (.isub, 1) := by decide +kernel
theorem dX2_removeAt_41 : decode cX2_removeAt 41 = .ok (.aload_n 0, 1) := by decide +kernel
theorem dX2_removeAt_42 : decode cX2_removeAt 42 = .ok (.getfield 13, 3) := by decide +kernel
theorem dX2_removeAt_45 : decode cX2_removeAt 45 = .ok (.iload_n 2, 1) := by decide +kernel
theorem dX2_removeAt_46 : decode cX2_removeAt 46 = .ok (.iaload, 1) := by decide +kernel
theorem dX2_removeAt_47 : decode cX2_removeAt 47 = .ok (.iastore, 1) := by decide +kernel
theorem dX2_removeAt_48 : decode cX2_removeAt 48 = .ok (.iinc 2 1, 3) := by decide +kernel
theorem dX2_removeAt_51 : decode cX2_removeAt 51 = .ok (.goto (-34), 3) := by decide +kernel
theorem dX2_removeAt_54 : decode cX2_removeAt 54 = .ok (.aload_n 0, 1) := by decide +kernel
theorem dX2_removeAt_55 : decode cX2_removeAt 55 = .ok (.dup, 1) := by decide +kernel
theorem dX2_removeAt_56 : decode cX2_removeAt 56 = .ok (.getfield 19, 3) := by decide +kernel
theorem dX2_removeAt_59 : decode cX2_removeAt 59 = .ok (.iconst 1, 1) := by decide +kernel
theorem dX2_removeAt_60 : decode cX2_removeAt 60 = .ok (.isub, 1) := by decide +kernel
theorem dX2_removeAt_61 : decode cX2_removeAt 61 = .ok (.putfield 19, 3) := by decide +kernel
theorem dX2_removeAt_64 : decode cX2_removeAt 64 = .ok (.return_, 1) := by decide +kernel
theorem dX2_clear_0 : decode cX2_clear 0 = .ok (.aload_n 0, 1) := by decide +kernel
theorem dX2_clear_1 : decode cX2_clear 1 = .ok (.iconst 0, 1) := by decide +kernel
theorem dX2_clear_2 : decode cX2_clear 2 = .ok (.putfield 19, 3) := by decide +kernel
theorem dX2_clear_5 : decode cX2_clear 5 = .ok (.return_, 1) := by decide +kernel
theorem dX2_copyFrom_0 : decode cX2_copyFrom 0 = .ok (.aload_n 1, 1) := by decide +kernel
theorem dX2_copyFrom_1 : decode cX2_copyFrom 1 = .ok (.getfield 13, 3) := by decide +kernel
theorem dX2_copyFrom_4 : decode cX2_copyFrom 4 = .ok (.iconst 0, 1) := by decide +kernel
theorem dX2_copyFrom_5 : decode cX2_copyFrom 5 = .ok (.aload_n 0, 1) := by decide +kernel
theorem dX2_copyFrom_6 : decode cX2_copyFrom 6 = .ok (.getfield 13, 3) := by decide +kernel
theorem dX2_copyFrom_9 : decode cX2_copyFrom 9 = .ok (.iconst 0, 1) := by decide +kernel
theorem dX2_copyFrom_10 : decode cX2_copyFrom 10 = .ok (.aload_n 1, 1) := by decide +kernel
theorem dX2_copyFrom_11 : decode cX2_copyFrom 11 = .ok (.getfield 13, 3) := by decide +kernel
theorem dX2_copyFrom_14 : decode cX2_copyFrom 14 = .ok (.arraylength, 1) := by decide +kernel
theorem dX2_copyFrom_15 : decode cX2_copyFrom 15 = .ok (.aload_n 0, 1) := by decide +kernel
theorem dX2_copyFrom_16 : decode cX2_copyFrom 16 = .ok (.getfield 13, 3) := by decide +kernel
theorem dX2_copyFrom_19 : decode cX2_copyFrom 19 = .ok (.arraylength, 1) := by decide +kernel
theorem dX2_copyFrom_20 : decode cX2_copyFrom 20 = .ok (.invokestatic 23, 3) := by decide +kernel
theorem dX2_copyFrom_23 : decode cX2_copyFrom 23 = .ok (.invokestatic 26, 3) := by decide +kernel
theorem dX2_copyFrom_26 : decode cX2_copyFrom 26 = .ok (.aload_n 0, 1) := by decide +kernel
theorem dX2_copyFrom_27 : decode cX2_copyFrom 27 = .ok (.aload_n 1, 1) := by decide +kernel
theorem dX2_copyFrom_28 : decode cX2_copyFrom 28 = .ok (.getfield 19, 3) := by decide +kernel
theorem dX2_copyFrom_31 : decode cX2_copyFrom 31 = .ok (.aload_n 0, 1) := by decide +kernel
theorem dX2_copyFrom_32 : decode cX2_copyFrom 32 = .ok (.getfield 13, 3) := by decide +kernel
theorem dX2_copyFrom_35 : decode cX2_copyFrom 35 = .ok (.arraylength, 1) := by decide +kernel
theorem dX2_copyFrom_36 : decode cX2_copyFrom 36 = .ok (.invokestatic 23, 3) := by decide +kernel
theorem dX2_copyFrom_39 : decode cX2_copyFrom 39 = .ok (.putfield 19, 3) := by decide +kernel
theorem dX2_copyFrom_42 : decode cX2_copyFrom 42 = .ok (.return_, 1) := by decide +kernel
set_option maxRecDepth 20000 in
theorem ggX3_init_X2_init : GoodIn wsX3_init wsX2_init := goodIn_r _ [12, 13, 2, 3, 14, 15, 16, 17, 18, 19, 20, 21] (by decide +kernel) (by decide +kernel)
set_option maxRecDepth 20000 in
theorem gX3_init_X2_init : GoodIn wsX3_init (wsX2_init) := ggX3_init_X2_init
theorem dX3_init_0 : decode cX3_init 0 = .ok (.aload_n 0, 1) := by decide +kernel
theorem dX3_init_1 : decode cX3_init 1 = .ok (.invokespecial 3, 3) := by decide +kernel
theorem dX3_init_4 : decode cX3_init 4 = .ok (.aload_n 0, 1) := by decide +kernel
theorem dX3_init_5 : decode cX3_init 5 = .ok (.new 9, 3) := by decide +kernel
theorem dX3_init_8 : decode cX3_init 8 = .ok (.dup, 1) := by decide +kernel
theorem dX3_init_9 : decode cX3_init 9 = .ok (.bipush 96, 2) := by decide +kernel
theorem dX3_init_11 : decode cX3_init 11 = .ok (.invokespecial 11, 3) := by decide +kernel
theorem dX3_init_14 : decode cX3_init 14 = .ok (.putfield 14, 3) := by decide +kernel
theorem dX3_init_17 : decode cX3_init 17 = .ok (.aload_n 0, 1) := by decide +kernel
theorem dX3_init_18 : decode cX3_init 18 = .ok (.aload_n 1, 1) := by decide +kernel
theorem dX3_init_19 : decode cX3_init 19 = .ok (.putfield 20, 3) := by decide +kernel
theorem dX3_init_22 : decode cX3_init 22 = .ok (.aload_n 0, 1) := by decide +kernel
theorem dX3_init_23 : decode cX3_init 23 = .ok (.aload_n 2, 1) := by decide +kernel
theorem dX3_init_24 : decode cX3_init 24 = .ok (.putfield 24, 3) := by decide +kernel
theorem dX3_init_27 : decode cX3_init 27 = .ok (.return_, 1) := by decide +kernel
set_option maxRecDepth 20000 in
theorem ggX3_insertProxy_X5_hasProxy : GoodIn wsX3_insertProxy wsX5_hasProxy := goodIn_r _ [6, 7, 16, 17, 18, 19, 20, 21, 22, 23, 24, 25, 26, 27, 28, 29, 30, 31] (by decide +kernel) (by decide +kernel)
set_option maxRecDepth 20000 in
theorem gX3_insertProxy_X5_hasProxy : GoodIn wsX3_insertProxy (wsV RX3 28 RX5 yX5_hasProxy wsX5_hasProxy) := goodIn_app (goodIn_of _ (by decide +kernel)) ggX3_insertProxy_X5_hasProxy
set_option maxRecDepth 20000 in
theorem ggX3_insertProxy_X5_addChild : GoodIn wsX3_insertProxy wsX5_addChild := goodIn_r _ [11, 7, 12, 16, 17, 18, 19, 20, 21, 22, 23, 24, 25, 26, 27, 28, 29, 30, 31] (by decide +kernel) (by decide +kernel)
set_option maxRecDepth 20000 in
theorem gX3_insertProxy_X5_addChild : GoodIn wsX3_insertProxy (wsV RX3 38 RX5 yX5_addChild wsX5_addChild) := goodIn_app (goodIn_of _ (by decide +kernel)) ggX3_insertProxy_X5_addChild
theorem dX3_insertProxy_0 : decode cX3_insertProxy 0 = .ok (.aload_n 0, 1) := by decide +kernel
theorem dX3_insertProxy_1 : decode cX3_insertProxy 1 = .ok (.getfield 20, 3) := by decide +kernel
theorem dX3_insertProxy_4 : decode cX3_insertProxy 4 = .ok (.iload_n 1, 1) := by decide +kernel
theorem dX3_insertProxy_5 : decode cX3_insertProxy 5 = .ok (.invokevirtual 28, 3) := by decide +kernel
theorem dX3_insertProxy_8 : decode cX3_insertProxy 8 = .ok (.ifCond .ne 5, 3) := by decide +kernel
theorem dX3_insertProxy_11 : decode cX3_insertProxy 11 = .ok (.iconst (-1), 1) := by decide +kernel
theorem dX3_insertProxy_12 : decode cX3_insertProxy 12 = .ok (.ireturn, 1) := by decide +kernel
theorem dX3_insertProxy_13 : decode cX3_insertProxy 13 = .ok (.aload_n 0, 1) := by decide +kernel
theorem dX3_insertProxy_14 : decode cX3_insertProxy 14 = .ok (.getfield 20, 3) := by decide +kernel
theorem dX3_insertProxy_17 : decode cX3_insertProxy 17 = .ok (.getfield 34, 3) := by decide +kernel
theorem dX3_insertProxy_20 : decode cX3_insertProxy 20 = .ok (.bipush 8, 2) := by decide +kernel
theorem dX3_insertProxy_22 : decode cX3_insertProxy 22 = .ok (.if_icmp .lt 6, 3) := by decide +kernel
theorem dX3_insertProxy_25 : decode cX3_insertProxy 25 = .ok (.bipush (-3), 2) := by decide +kernel
theorem dX3_insertProxy_27 : decode cX3_insertProxy 27 = .ok (.ireturn, 1) := by decide +kernel
theorem dX3_insertProxy_28 : decode cX3_insertProxy 28 = .ok (.aload_n 0, 1) := by decide +kernel
theorem dX3_insertProxy_29 : decode cX3_insertProxy 29 = .ok (.getfield 20, 3) := by decide +kernel
theorem dX3_insertProxy_32 : decode cX3_insertProxy 32 = .ok (.iload_n 1, 1) := by decide +kernel
theorem dX3_insertProxy_33 : decode cX3_insertProxy 33 = .ok (.invokevirtual 38, 3) := by decide +kernel
theorem dX3_insertProxy_36 : decode cX3_insertProxy 36 = .ok (.ireturn, 1) := by decide +kernel
set_option maxRecDepth 20000 in
theorem ggX3_changeHome_X7_isOrigin : GoodIn wsX3_changeHome wsX7_isOrigin := goodIn_r _ [4] (by decide +kernel) (by decide +kernel)
set_option maxRecDepth 20000 in
theorem gX3_changeHome_X7_isOrigin_n42 : GoodIn wsX3_changeHome (wsX7_isOrigin) := ggX3_changeHome_X7_isOrigin
set_option maxRecDepth 20000 in
theorem ggX3_changeHome_X5_hasProxy : GoodIn wsX3_changeHome wsX5_hasProxy := goodIn_r _ [9, 10, 28, 29, 30, 31, 32, 33, 34, 35, 36, 37, 38, 39, 40, 41, 42, 43] (by decide +kernel) (by decide +kernel)
set_option maxRecDepth 20000 in
theorem gX3_changeHome_X5_hasProxy : GoodIn wsX3_changeHome (wsV RX3 28 RX5 yX5_hasProxy wsX5_hasProxy) := goodIn_app (goodIn_of _ (by decide +kernel)) ggX3_changeHome_X5_hasProxy
set_option maxRecDepth 20000 in
theorem ggX3_changeHome_X5_writtenOf : GoodIn wsX3_changeHome wsX5_writtenOf := goodIn_r _ [14, 15, 28, 29, 30, 31, 32, 33, 34, 35, 36, 37, 38, 39, 40, 41, 42, 43] (by decide +kernel) (by decide +kernel)
set_option maxRecDepth 20000 in
theorem gX3_changeHome_X5_writtenOf : GoodIn wsX3_changeHome (wsV RX3 45 RX5 yX5_writtenOf wsX5_writtenOf) := goodIn_app (goodIn_of _ (by decide +kernel)) ggX3_changeHome_X5_writtenOf
set_option maxRecDepth 20000 in
theorem ggX3_changeHome_X5_homeOf : GoodIn wsX3_changeHome wsX5_homeOf := goodIn_r _ [19, 20, 28, 29, 30, 31, 32, 33, 34, 35, 36, 37, 38, 39, 40, 41, 42, 43] (by decide +kernel) (by decide +kernel)
set_option maxRecDepth 20000 in
theorem gX3_changeHome_X5_homeOf : GoodIn wsX3_changeHome (wsV RX3 48 RX5 yX5_homeOf wsX5_homeOf) := goodIn_app (goodIn_of _ (by decide +kernel)) ggX3_changeHome_X5_homeOf
set_option maxRecDepth 20000 in
theorem ggX3_changeHome_X5_setHomeOf : GoodIn wsX3_changeHome wsX5_setHomeOf := goodIn_r _ [24, 20, 28, 29, 30, 31, 32, 33, 34, 35, 36, 37, 38, 39, 40, 41, 42, 43] (by decide +kernel) (by decide +kernel)
set_option maxRecDepth 20000 in
theorem gX3_changeHome_X5_setHomeOf : GoodIn wsX3_changeHome (wsV RX3 51 RX5 yX5_setHomeOf wsX5_setHomeOf) := goodIn_app (goodIn_of _ (by decide +kernel)) ggX3_changeHome_X5_setHomeOf
theorem dX3_changeHome_0 : decode cX3_changeHome 0 = .ok (.iload_n 1, 1) := by decide +kernel
theorem dX3_changeHome_1 : decode cX3_changeHome 1 = .ok (.invokestatic 42, 3) := by decide +kernel
theorem dX3_changeHome_4 : decode cX3_changeHome 4 = .ok (.ifCond .eq 14, 3) := by decide +kernel
theorem dX3_changeHome_7 : decode cX3_changeHome 7 = .ok (.aload_n 0, 1) := by decide +kernel
theorem dX3_changeHome_8 : decode cX3_changeHome 8 = .ok (.getfield 20, 3) := by decide +kernel
theorem dX3_changeHome_11 : decode cX3_changeHome 11 = .ok (.iload_n 2, 1) := by decide +kernel
theorem dX3_changeHome_12 : decode cX3_changeHome 12 = .ok (.invokevirtual 28, 3) := by decide +kernel
theorem dX3_changeHome_15 : decode cX3_changeHome 15 = .ok (.ifCond .ne 5, 3) := by decide +kernel
theorem dX3_changeHome_18 : decode cX3_changeHome 18 = .ok (.iconst (-1), 1) := by decide +kernel
theorem dX3_changeHome_19 : decode cX3_changeHome 19 = .ok (.ireturn, 1) := by decide +kernel
theorem dX3_changeHome_20 : decode cX3_changeHome 20 = .ok (.aload_n 0, 1) := by decide +kernel
theorem dX3_changeHome_21 : decode cX3_changeHome 21 = .ok (.getfield 20, 3) := by decide +kernel
theorem dX3_changeHome_24 : decode cX3_changeHome 24 = .ok (.iload_n 1, 1) := by decide +kernel
theorem dX3_changeHome_25 : decode cX3_changeHome 25 = .ok (.invokevirtual 45, 3) := by decide +kernel
theorem dX3_changeHome_28 : decode cX3_changeHome 28 = .ok (.ifCond .le 6, 3) := by decide +kernel
theorem dX3_changeHome_31 : decode cX3_changeHome 31 = .ok (.bipush (-2), 2) := by decide +kernel
theorem dX3_changeHome_33 : decode cX3_changeHome 33 = .ok (.ireturn, 1) := by decide +kernel
theorem dX3_changeHome_34 : decode cX3_changeHome 34 = .ok (.aload_n 0, 1) := by decide +kernel
theorem dX3_changeHome_35 : decode cX3_changeHome 35 = .ok (.getfield 20, 3) := by decide +kernel
theorem dX3_changeHome_38 : decode cX3_changeHome 38 = .ok (.iload_n 1, 1) := by decide +kernel
theorem dX3_changeHome_39 : decode cX3_changeHome 39 = .ok (.invokevirtual 48, 3) := by decide +kernel
theorem dX3_changeHome_42 : decode cX3_changeHome 42 = .ok (.istore_n 3, 1) := by decide +kernel
theorem dX3_changeHome_43 : decode cX3_changeHome 43 = .ok (.aload_n 0, 1) := by decide +kernel
theorem dX3_changeHome_44 : decode cX3_changeHome 44 = .ok (.getfield 20, 3) := by decide +kernel
theorem dX3_changeHome_47 : decode cX3_changeHome 47 = .ok (.iload_n 1, 1) := by decide +kernel
theorem dX3_changeHome_48 : decode cX3_changeHome 48 = .ok (.iload_n 2, 1) := by decide +kernel
theorem dX3_changeHome_49 : decode cX3_changeHome 49 = .ok (.invokevirtual 51, 3) := by decide +kernel
theorem dX3_changeHome_52 : decode cX3_changeHome 52 = .ok (.iload_n 3, 1) := by decide +kernel
theorem dX3_changeHome_53 : decode cX3_changeHome 53 = .ok (.ireturn, 1) := by decide +kernel
theorem dX3_changeLimits_0 : decode cX3_changeLimits 0 = .ok (.iload_n 1, 1) := by decide +kernel
theorem dX3_changeLimits_1 : decode cX3_changeLimits 1 = .ok (.ifCond .lt 20, 3) := by decide +kernel
theorem dX3_changeLimits_4 : decode cX3_changeLimits 4 = .ok (.iload_n 1, 1) := by decide +kernel
theorem dX3_changeLimits_5 : decode cX3_changeLimits 5 = .ok (.bipush 8, 2) := by decide +kernel
theorem dX3_changeLimits_7 : decode cX3_changeLimits 7 = .ok (.if_icmp .gt 14, 3) := by decide +kernel
theorem dX3_changeLimits_10 : decode cX3_changeLimits 10 = .ok (.iload_n 2, 1) := by decide +kernel
theorem dX3_changeLimits_11 : decode cX3_changeLimits 11 = .ok (.iconst 1, 1) := by decide +kernel
theorem dX3_changeLimits_12 : decode cX3_changeLimits 12 = .ok (.if_icmp .lt 9, 3) := by decide +kernel
theorem dX3_changeLimits_15 : decode cX3_changeLimits 15 = .ok (.iload_n 2, 1) := by decide +kernel
theorem dX3_changeLimits_16 : decode cX3_changeLimits 16 = .ok (.bipush 12, 2) := by decide +kernel
theorem dX3_changeLimits_18 : decode cX3_changeLimits 18 = .ok (.if_icmp .le 5, 3) := by decide +kernel
theorem dX3_changeLimits_21 : decode cX3_changeLimits 21 = .ok (.iconst (-1), 1) := by decide +kernel
theorem dX3_changeLimits_22 : decode cX3_changeLimits 22 = .ok (.ireturn, 1) := by decide +kernel
theorem dX3_changeLimits_23 : decode cX3_changeLimits 23 = .ok (.iload_n 1, 1) := by decide +kernel
theorem dX3_changeLimits_24 : decode cX3_changeLimits 24 = .ok (.aload_n 0, 1) := by decide +kernel
theorem dX3_changeLimits_25 : decode cX3_changeLimits 25 = .ok (.getfield 20, 3) := by decide +kernel
theorem dX3_changeLimits_28 : decode cX3_changeLimits 28 = .ok (.getfield 55, 3) := by decide +kernel
theorem dX3_changeLimits_31 : decode cX3_changeLimits 31 = .ok (.if_icmp .ne 14, 3) := by decide +kernel
theorem dX3_changeLimits_34 : decode cX3_changeLimits 34 = .ok (.iload_n 2, 1) := by decide +kernel
theorem dX3_changeLimits_35 : decode cX3_changeLimits 35 = .ok (.aload_n 0, 1) := by decide +kernel
theorem dX3_changeLimits_36 : decode cX3_changeLimits 36 = .ok (.getfield 20, 3) := by decide +kernel
theorem dX3_changeLimits_39 : decode cX3_changeLimits 39 = .ok (.getfield 58, 3) := by decide +kernel
theorem dX3_changeLimits_42 : decode cX3_changeLimits 42 = .ok (.if_icmp .eq 7, 3) := by decide +kernel
theorem dX3_changeLimits_45 : decode cX3_changeLimits 45 = .ok (.iconst 1, 1) := by decide +kernel
theorem dX3_changeLimits_46 : decode cX3_changeLimits 46 = .ok (.goto 4, 3) := by decide +kernel
theorem dX3_changeLimits_49 : decode cX3_changeLimits 49 = .ok (.iconst 0, 1) := by decide +kernel
theorem dX3_changeLimits_50 : decode cX3_changeLimits 50 = .ok (.istore_n 3, 1) := by decide +kernel
theorem dX3_changeLimits_51 : decode cX3_changeLimits 51 = .ok (.aload_n 0, 1) := by decide +kernel
theorem dX3_changeLimits_52 : decode cX3_changeLimits 52 = .ok (.getfield 20, 3) := by decide +kernel
theorem dX3_changeLimits_55 : decode cX3_changeLimits 55 = .ok (.iload_n 1, 1) := by decide +kernel
theorem dX3_changeLimits_56 : decode cX3_changeLimits 56 = .ok (.putfield 55, 3) := by decide +kernel
theorem dX3_changeLimits_59 : decode cX3_changeLimits 59 = .ok (.aload_n 0, 1) := by decide +kernel
theorem dX3_changeLimits_60 : decode cX3_changeLimits 60 = .ok (.getfield 20, 3) := by decide +kernel
theorem dX3_changeLimits_63 : decode cX3_changeLimits 63 = .ok (.iload_n 2, 1) := by decide +kernel
theorem dX3_changeLimits_64 : decode cX3_changeLimits 64 = .ok (.putfield 58, 3) := by decide +kernel
theorem dX3_changeLimits_67 : decode cX3_changeLimits 67 = .ok (.iload_n 3, 1) := by decide +kernel
theorem dX3_changeLimits_68 : decode cX3_changeLimits 68 = .ok (.ifCond .eq 7, 3) := by decide +kernel
theorem dX3_changeLimits_71 : decode cX3_changeLimits 71 = .ok (.iconst 1, 1) := by decide +kernel
theorem dX3_changeLimits_72 : decode cX3_changeLimits 72 = .ok (.goto 4, 3) := by decide +kernel
theorem dX3_changeLimits_75 : decode cX3_changeLimits 75 = .ok (.iconst 0, 1) := by decide +kernel
theorem dX3_changeLimits_76 : decode cX3_changeLimits 76 = .ok (.ireturn, 1) := by decide +kernel
set_option maxRecDepth 20000 in
theorem ggX3_makeWrite_X7_isOrigin : GoodIn wsX3_makeWrite wsX7_isOrigin := goodIn_r _ [5] (by decide +kernel) (by decide +kernel)
set_option maxRecDepth 20000 in
theorem gX3_makeWrite_X7_isOrigin_n42 : GoodIn wsX3_makeWrite (wsX7_isOrigin) := ggX3_makeWrite_X7_isOrigin
set_option maxRecDepth 20000 in
theorem ggX3_makeWrite_X5_writtenOf : GoodIn wsX3_makeWrite wsX5_writtenOf := goodIn_r _ [10, 11, 159, 160, 161, 162, 163, 164, 165, 166, 167, 168, 169, 170, 171, 172, 173, 174] (by decide +kernel) (by decide +kernel)
set_option maxRecDepth 20000 in
theorem gX3_makeWrite_X5_writtenOf : GoodIn wsX3_makeWrite (wsV RX3 45 RX5 yX5_writtenOf wsX5_writtenOf) := goodIn_app (goodIn_of _ (by decide +kernel)) ggX3_makeWrite_X5_writtenOf
set_option maxRecDepth 20000 in
theorem ggX3_makeWrite_X5_homeOf : GoodIn wsX3_makeWrite wsX5_homeOf := goodIn_r _ [15, 16, 159, 160, 161, 162, 163, 164, 165, 166, 167, 168, 169, 170, 171, 172, 173, 174] (by decide +kernel) (by decide +kernel)
set_option maxRecDepth 20000 in
theorem gX3_makeWrite_X5_homeOf : GoodIn wsX3_makeWrite (wsV RX3 48 RX5 yX5_homeOf wsX5_homeOf) := goodIn_app (goodIn_of _ (by decide +kernel)) ggX3_makeWrite_X5_homeOf
set_option maxRecDepth 20000 in
theorem ggX3_makeWrite_X0_findServed : GoodIn wsX3_makeWrite wsX0_findServed := goodIn_r _ [21, 22, 23, 24, 25, 26, 9, 27, 28, 29, 30, 31, 32, 33, 34, 35, 36, 37, 175, 176, 177, 159, 160, 161, 162, 163, 164, 165, 166, 167, 168, 169, 170, 171, 172, 173, 174] (by decide +kernel) (by decide +kernel)
set_option maxRecDepth 20000 in
theorem gX3_makeWrite_X0_findServed : GoodIn wsX3_makeWrite (wsV RX3 61 RX0 yX0_findServed wsX0_findServed) := goodIn_app (goodIn_of _ (by decide +kernel)) ggX3_makeWrite_X0_findServed
set_option maxRecDepth 20000 in
theorem ggX3_makeWrite_X0_prefixFound : GoodIn wsX3_makeWrite wsX0_prefixFound := goodIn_r _ [41, 22, 175, 176, 177] (by decide +kernel) (by decide +kernel)
set_option maxRecDepth 20000 in
theorem gX3_makeWrite_X0_prefixFound : GoodIn wsX3_makeWrite (wsV RX3 66 RX0 yX0_prefixFound wsX0_prefixFound) := goodIn_app (goodIn_of _ (by decide +kernel)) ggX3_makeWrite_X0_prefixFound
set_option maxRecDepth 20000 in
theorem ggX3_makeWrite_X5_setCause : GoodIn wsX3_makeWrite wsX5_setCause := goodIn_r _ [45, 37, 159, 160, 161, 162, 163, 164, 165, 166, 167, 168, 169, 170, 171, 172, 173, 174] (by decide +kernel) (by decide +kernel)
set_option maxRecDepth 20000 in
theorem gX3_makeWrite_X5_setCause : GoodIn wsX3_makeWrite (wsV RX3 69 RX5 yX5_setCause wsX5_setCause) := goodIn_app (goodIn_of _ (by decide +kernel)) ggX3_makeWrite_X5_setCause
set_option maxRecDepth 20000 in
theorem ggX3_makeWrite_X5_setWrittenOf : GoodIn wsX3_makeWrite wsX5_setWrittenOf := goodIn_r _ [49, 11, 159, 160, 161, 162, 163, 164, 165, 166, 167, 168, 169, 170, 171, 172, 173, 174] (by decide +kernel) (by decide +kernel)
set_option maxRecDepth 20000 in
theorem gX3_makeWrite_X5_setWrittenOf : GoodIn wsX3_makeWrite (wsV RX3 73 RX5 yX5_setWrittenOf wsX5_setWrittenOf) := goodIn_app (goodIn_of _ (by decide +kernel)) ggX3_makeWrite_X5_setWrittenOf
set_option maxRecDepth 20000 in
theorem ggX3_makeWrite_X7_updateOf : GoodIn wsX3_makeWrite wsX7_updateOf := goodIn_r _ [51] (by decide +kernel) (by decide +kernel)
set_option maxRecDepth 20000 in
theorem gX3_makeWrite_X7_updateOf_n76 : GoodIn wsX3_makeWrite (wsX7_updateOf) := ggX3_makeWrite_X7_updateOf
set_option maxRecDepth 20000 in
theorem ggX3_makeWrite_X3_arrive : GoodIn wsX3_makeWrite wsX3_arrive := goodIn_r _ [56, 1, 57, 4, 58, 59, 60, 61, 62, 63, 9, 64, 65, 25, 26, 27, 28, 66, 67, 31, 68, 69, 70, 71, 72, 73, 74, 75, 76, 77, 78, 79, 80, 81, 82, 83, 84, 85, 86, 87, 88, 89, 90, 91, 92, 55, 93, 2, 94, 95, 96, 97, 98, 99, 100, 101, 102, 103, 104, 105, 106, 107, 108, 109, 110, 111, 112, 113, 114, 115, 17, 18, 19, 20, 21, 22, 23, 24, 29, 30, 32, 33, 34, 35, 36, 37, 116, 117, 118, 119, 120, 121, 122, 123, 38, 39, 40, 41, 124, 125, 126, 127, 128, 129, 130, 131, 132, 133, 134, 135, 136, 137, 138, 139, 140, 141, 142, 143, 144, 145, 146, 147, 148, 149, 150, 151, 152, 153, 154, 155, 156, 157, 158, 159, 160, 161, 162, 163, 164, 165, 166, 167, 168, 169, 170, 171, 172, 173, 174, 178, 179, 175, 176, 177] (by decide +kernel) (by decide +kernel)
set_option maxRecDepth 20000 in
theorem gX3_makeWrite_X3_arrive : GoodIn wsX3_makeWrite (wsV RX3 80 RX3 yX3_arrive wsX3_arrive) := goodIn_app (goodIn_of _ (by decide +kernel)) ggX3_makeWrite_X3_arrive
theorem dX3_makeWrite_0 : decode cX3_makeWrite 0 = .ok (.iload_n 1, 1) := by decide +kernel
theorem dX3_makeWrite_1 : decode cX3_makeWrite 1 = .ok (.invokestatic 42, 3) := by decide +kernel
theorem dX3_makeWrite_4 : decode cX3_makeWrite 4 = .ok (.ifCond .ne 5, 3) := by decide +kernel
theorem dX3_makeWrite_7 : decode cX3_makeWrite 7 = .ok (.iconst (-1), 1) := by decide +kernel
theorem dX3_makeWrite_8 : decode cX3_makeWrite 8 = .ok (.ireturn, 1) := by decide +kernel
theorem dX3_makeWrite_9 : decode cX3_makeWrite 9 = .ok (.aload_n 0, 1) := by decide +kernel
theorem dX3_makeWrite_10 : decode cX3_makeWrite 10 = .ok (.getfield 20, 3) := by decide +kernel
theorem dX3_makeWrite_13 : decode cX3_makeWrite 13 = .ok (.iload_n 1, 1) := by decide +kernel
theorem dX3_makeWrite_14 : decode cX3_makeWrite 14 = .ok (.invokevirtual 45, 3) := by decide +kernel
theorem dX3_makeWrite_17 : decode cX3_makeWrite 17 = .ok (.bipush 24, 2) := by decide +kernel
theorem dX3_makeWrite_19 : decode cX3_makeWrite 19 = .ok (.if_icmp .lt 6, 3) := by decide +kernel
theorem dX3_makeWrite_22 : decode cX3_makeWrite 22 = .ok (.bipush (-3), 2) := by decide +kernel
theorem dX3_makeWrite_24 : decode cX3_makeWrite 24 = .ok (.ireturn, 1) := by decide +kernel
theorem dX3_makeWrite_25 : decode cX3_makeWrite 25 = .ok (.aload_n 0, 1) := by decide +kernel
theorem dX3_makeWrite_26 : decode cX3_makeWrite 26 = .ok (.getfield 20, 3) := by decide +kernel
theorem dX3_makeWrite_29 : decode cX3_makeWrite 29 = .ok (.iload_n 1, 1) := by decide +kernel
theorem dX3_makeWrite_30 : decode cX3_makeWrite 30 = .ok (.invokevirtual 48, 3) := by decide +kernel
theorem dX3_makeWrite_33 : decode cX3_makeWrite 33 = .ok (.istore_n 2, 1) := by decide +kernel
theorem dX3_makeWrite_34 : decode cX3_makeWrite 34 = .ok (.aload_n 0, 1) := by decide +kernel
theorem dX3_makeWrite_35 : decode cX3_makeWrite 35 = .ok (.getfield 20, 3) := by decide +kernel
theorem dX3_makeWrite_38 : decode cX3_makeWrite 38 = .ok (.iload_n 1, 1) := by decide +kernel
theorem dX3_makeWrite_39 : decode cX3_makeWrite 39 = .ok (.invokevirtual 45, 3) := by decide +kernel
theorem dX3_makeWrite_42 : decode cX3_makeWrite 42 = .ok (.iconst 1, 1) := by decide +kernel
theorem dX3_makeWrite_43 : decode cX3_makeWrite 43 = .ok (.iadd, 1) := by decide +kernel
theorem dX3_makeWrite_44 : decode cX3_makeWrite 44 = .ok (.istore_n 3, 1) := by decide +kernel
theorem dX3_makeWrite_45 : decode cX3_makeWrite 45 = .ok (.aload_n 0, 1) := by decide +kernel
theorem dX3_makeWrite_46 : decode cX3_makeWrite 46 = .ok (.getfield 24, 3) := by decide +kernel
theorem dX3_makeWrite_49 : decode cX3_makeWrite 49 = .ok (.iload_n 2, 1) := by decide +kernel
theorem dX3_makeWrite_50 : decode cX3_makeWrite 50 = .ok (.invokevirtual 61, 3) := by decide +kernel
theorem dX3_makeWrite_53 : decode cX3_makeWrite 53 = .ok (.iconst 0, 1) := by decide +kernel
theorem dX3_makeWrite_54 : decode cX3_makeWrite 54 = .ok (.istore 4, 2) := by decide +kernel
theorem dX3_makeWrite_56 : decode cX3_makeWrite 56 = .ok (.iload 4, 2) := by decide +kernel
theorem dX3_makeWrite_58 : decode cX3_makeWrite 58 = .ok (.iconst 4, 1) := by decide +kernel
theorem dX3_makeWrite_59 : decode cX3_makeWrite 59 = .ok (.if_icmp .ge 41, 3) := by decide +kernel
theorem dX3_makeWrite_62 : decode cX3_makeWrite 62 = .ok (.aload_n 0, 1) := by decide +kernel
theorem dX3_makeWrite_63 : decode cX3_makeWrite 63 = .ok (.getfield 20, 3) := by decide +kernel
theorem dX3_makeWrite_66 : decode cX3_makeWrite 66 = .ok (.iload_n 1, 1) := by decide +kernel
theorem dX3_makeWrite_67 : decode cX3_makeWrite 67 = .ok (.iload_n 3, 1) := by decide +kernel
theorem dX3_makeWrite_68 : decode cX3_makeWrite 68 = .ok (.iload 4, 2) := by decide +kernel
theorem dX3_makeWrite_70 : decode cX3_makeWrite 70 = .ok (.iload 4, 2) := by decide +kernel
theorem dX3_makeWrite_72 : decode cX3_makeWrite 72 = .ok (.iload_n 1, 1) := by decide +kernel
theorem dX3_makeWrite_73 : decode cX3_makeWrite 73 = .ok (.if_icmp .ne 9, 3) := by decide +kernel
theorem dX3_makeWrite_76 : decode cX3_makeWrite 76 = .ok (.iload_n 3, 1) := by decide +kernel
theorem dX3_makeWrite_77 : decode cX3_makeWrite 77 = .ok (.iconst 1, 1) := by decide +kernel
theorem dX3_makeWrite_78 : decode cX3_makeWrite 78 = .ok (.isub, 1) := by decide +kernel
theorem dX3_makeWrite_79 : decode cX3_makeWrite 79 = .ok (.goto 12, 3) := by decide +kernel
theorem dX3_makeWrite_82 : decode cX3_makeWrite 82 = .ok (.aload_n 0, 1) := by decide +kernel
theorem dX3_makeWrite_83 : decode cX3_makeWrite 83 = .ok (.getfield 24, 3) := by decide +kernel
theorem dX3_makeWrite_86 : decode cX3_makeWrite 86 = .ok (.iload 4, 2) := by decide +kernel
theorem dX3_makeWrite_88 : decode cX3_makeWrite 88 = .ok (.invokevirtual 66, 3) := by decide +kernel
theorem dX3_makeWrite_91 : decode cX3_makeWrite 91 = .ok (.invokevirtual 69, 3) := by decide +kernel
theorem dX3_makeWrite_94 : decode cX3_makeWrite 94 = .ok (.iinc 4 1, 3) := by decide +kernel
theorem dX3_makeWrite_97 : decode cX3_makeWrite 97 = .ok (.goto (-41), 3) := by decide +kernel
theorem dX3_makeWrite_100 : decode cX3_makeWrite 100 = .ok (.aload_n 0, 1) := by decide +kernel
theorem dX3_makeWrite_101 : decode cX3_makeWrite 101 = .ok (.getfield 20, 3) := by decide +kernel
theorem dX3_makeWrite_104 : decode cX3_makeWrite 104 = .ok (.iload_n 1, 1) := by decide +kernel
theorem dX3_makeWrite_105 : decode cX3_makeWrite 105 = .ok (.iload_n 3, 1) := by decide +kernel
theorem dX3_makeWrite_106 : decode cX3_makeWrite 106 = .ok (.invokevirtual 73, 3) := by decide +kernel
theorem dX3_makeWrite_109 : decode cX3_makeWrite 109 = .ok (.aload_n 0, 1) := by decide +kernel
theorem dX3_makeWrite_110 : decode cX3_makeWrite 110 = .ok (.iload_n 2, 1) := by decide +kernel
theorem dX3_makeWrite_111 : decode cX3_makeWrite 111 = .ok (.iconst (-1), 1) := by decide +kernel
theorem dX3_makeWrite_112 : decode cX3_makeWrite 112 = .ok (.iload_n 1, 1) := by decide +kernel
theorem dX3_makeWrite_113 : decode cX3_makeWrite 113 = .ok (.iload_n 3, 1) := by decide +kernel
theorem dX3_makeWrite_114 : decode cX3_makeWrite 114 = .ok (.invokestatic 76, 3) := by decide +kernel
theorem dX3_makeWrite_117 : decode cX3_makeWrite 117 = .ok (.invokevirtual 80, 3) := by decide +kernel
theorem dX3_makeWrite_120 : decode cX3_makeWrite 120 = .ok (.pop, 1) := by decide +kernel
theorem dX3_makeWrite_121 : decode cX3_makeWrite 121 = .ok (.iload_n 3, 1) := by decide +kernel
theorem dX3_makeWrite_122 : decode cX3_makeWrite 122 = .ok (.ireturn, 1) := by decide +kernel
set_option maxRecDepth 20000 in
theorem ggX3_deliverFirst_X5_hasQueue : GoodIn wsX3_deliverFirst wsX5_hasQueue := goodIn_r _ [6, 7, 8, 9, 5, 10, 11, 144, 145, 146, 147, 148, 149, 150, 151, 152, 153, 154, 155, 156, 157, 158, 159] (by decide +kernel) (by decide +kernel)
set_option maxRecDepth 20000 in
theorem gX3_deliverFirst_X5_hasQueue : GoodIn wsX3_deliverFirst (wsV RX3 84 RX5 yX5_hasQueue wsX5_hasQueue) := goodIn_app (goodIn_of _ (by decide +kernel)) ggX3_deliverFirst_X5_hasQueue
set_option maxRecDepth 20000 in
theorem ggX3_deliverFirst_X3_isTakeable : GoodIn wsX3_deliverFirst wsX3_isTakeable := goodIn_r _ [15] (by decide +kernel) (by decide +kernel)
set_option maxRecDepth 20000 in
theorem gX3_deliverFirst_X3_isTakeable : GoodIn wsX3_deliverFirst (va_wsS RX3 88 yX3_isTakeable wsX3_isTakeable) := goodIn_app (goodIn_of _ (by decide +kernel)) ggX3_deliverFirst_X3_isTakeable
set_option maxRecDepth 20000 in
theorem ggX3_deliverFirst_X5_queueOf : GoodIn wsX3_deliverFirst wsX5_queueOf := goodIn_r _ [19, 20, 21, 22, 7, 8, 9, 5, 10, 11, 144, 145, 146, 147, 148, 149, 150, 151, 152, 153, 154, 155, 156, 157, 158, 159] (by decide +kernel) (by decide +kernel)
set_option maxRecDepth 20000 in
theorem gX3_deliverFirst_X5_queueOf : GoodIn wsX3_deliverFirst (wsV RX3 91 RX5 yX5_queueOf wsX5_queueOf) := goodIn_app (goodIn_of _ (by decide +kernel)) ggX3_deliverFirst_X5_queueOf
set_option maxRecDepth 20000 in
theorem ggX3_deliverFirst_X2_length : GoodIn wsX3_deliverFirst wsX2_length := goodIn_r _ [27, 28, 160, 161] (by decide +kernel) (by decide +kernel)
set_option maxRecDepth 20000 in
theorem gX3_deliverFirst_X2_length : GoodIn wsX3_deliverFirst (wsV RX3 95 RX2 yX2_length wsX2_length) := goodIn_app (goodIn_of _ (by decide +kernel)) ggX3_deliverFirst_X2_length
set_option maxRecDepth 20000 in
theorem ggX3_deliverFirst_X5_parentOf : GoodIn wsX3_deliverFirst wsX5_parentOf := goodIn_r _ [32, 33, 144, 145, 146, 147, 148, 149, 150, 151, 152, 153, 154, 155, 156, 157, 158, 159] (by decide +kernel) (by decide +kernel)
set_option maxRecDepth 20000 in
theorem gX3_deliverFirst_X5_parentOf : GoodIn wsX3_deliverFirst (wsV RX3 99 RX5 yX5_parentOf wsX5_parentOf) := goodIn_app (goodIn_of _ (by decide +kernel)) ggX3_deliverFirst_X5_parentOf
set_option maxRecDepth 20000 in
theorem ggX3_deliverFirst_X2_at : GoodIn wsX3_deliverFirst wsX2_at := goodIn_r _ [37, 28, 38, 160, 161] (by decide +kernel) (by decide +kernel)
set_option maxRecDepth 20000 in
theorem gX3_deliverFirst_X2_at : GoodIn wsX3_deliverFirst (wsV RX3 102 RX2 yX2_at wsX2_at) := goodIn_app (goodIn_of _ (by decide +kernel)) ggX3_deliverFirst_X2_at
set_option maxRecDepth 20000 in
theorem ggX3_deliverFirst_X2_removeAt : GoodIn wsX3_deliverFirst wsX2_removeAt := goodIn_r _ [42, 28, 38, 160, 161] (by decide +kernel) (by decide +kernel)
set_option maxRecDepth 20000 in
theorem gX3_deliverFirst_X2_removeAt : GoodIn wsX3_deliverFirst (wsV RX3 105 RX2 yX2_removeAt wsX2_removeAt) := goodIn_app (goodIn_of _ (by decide +kernel)) ggX3_deliverFirst_X2_removeAt
set_option maxRecDepth 20000 in
theorem ggX3_deliverFirst_X3_arrive : GoodIn wsX3_deliverFirst wsX3_arrive := goodIn_r _ [46, 1, 47, 48, 49, 50, 51, 52, 53, 54, 5, 55, 56, 57, 58, 59, 60, 61, 62, 63, 64, 65, 66, 67, 68, 69, 70, 71, 72, 73, 74, 75, 76, 77, 78, 79, 80, 81, 82, 83, 84, 85, 86, 87, 88, 14, 89, 90, 91, 92, 93, 94, 95, 20, 96, 97, 98, 99, 11, 100, 101, 102, 26, 103, 28, 38, 23, 24, 25, 27, 104, 105, 106, 107, 108, 109, 110, 111, 112, 113, 114, 115, 116, 117, 118, 119, 120, 121, 122, 123, 34, 35, 36, 37, 124, 125, 126, 127, 39, 40, 41, 42, 128, 129, 130, 131, 29, 30, 31, 32, 33, 16, 17, 18, 19, 21, 22, 7, 8, 9, 10, 132, 133, 134, 135, 136, 137, 138, 139, 140, 141, 142, 143, 144, 145, 146, 147, 148, 149, 150, 151, 152, 153, 154, 155, 156, 157, 158, 159, 160, 161, 162, 163, 164] (by decide +kernel) (by decide +kernel)
set_option maxRecDepth 20000 in
theorem gX3_deliverFirst_X3_arrive : GoodIn wsX3_deliverFirst (wsV RX3 80 RX3 yX3_arrive wsX3_arrive) := goodIn_app (goodIn_of _ (by decide +kernel)) ggX3_deliverFirst_X3_arrive
theorem dX3_deliverFirst_0 : decode cX3_deliverFirst 0 = .ok (.aload_n 0, 1) := by decide +kernel
theorem dX3_deliverFirst_1 : decode cX3_deliverFirst 1 = .ok (.getfield 20, 3) := by decide +kernel
theorem dX3_deliverFirst_4 : decode cX3_deliverFirst 4 = .ok (.iload_n 1, 1) := by decide +kernel
theorem dX3_deliverFirst_5 : decode cX3_deliverFirst 5 = .ok (.iload_n 2, 1) := by decide +kernel
theorem dX3_deliverFirst_6 : decode cX3_deliverFirst 6 = .ok (.invokevirtual 84, 3) := by decide +kernel
theorem dX3_deliverFirst_9 : decode cX3_deliverFirst 9 = .ok (.ifCond .eq 10, 3) := by decide +kernel
theorem dX3_deliverFirst_12 : decode cX3_deliverFirst 12 = .ok (.iload_n 3, 1) := by decide +kernel
theorem dX3_deliverFirst_13 : decode cX3_deliverFirst 13 = .ok (.invokestatic 88, 3) := by decide +kernel
theorem dX3_deliverFirst_16 : decode cX3_deliverFirst 16 = .ok (.ifCond .ne 5, 3) := by decide +kernel
theorem dX3_deliverFirst_19 : decode cX3_deliverFirst 19 = .ok (.iconst (-1), 1) := by decide +kernel
theorem dX3_deliverFirst_20 : decode cX3_deliverFirst 20 = .ok (.ireturn, 1) := by decide +kernel
theorem dX3_deliverFirst_21 : decode cX3_deliverFirst 21 = .ok (.aload_n 0, 1) := by decide +kernel
theorem dX3_deliverFirst_22 : decode cX3_deliverFirst 22 = .ok (.getfield 20, 3) := by decide +kernel
theorem dX3_deliverFirst_25 : decode cX3_deliverFirst 25 = .ok (.iload_n 1, 1) := by decide +kernel
theorem dX3_deliverFirst_26 : decode cX3_deliverFirst 26 = .ok (.iload_n 2, 1) := by decide +kernel
theorem dX3_deliverFirst_27 : decode cX3_deliverFirst 27 = .ok (.invokevirtual 91, 3) := by decide +kernel
theorem dX3_deliverFirst_30 : decode cX3_deliverFirst 30 = .ok (.astore 4, 2) := by decide +kernel
theorem dX3_deliverFirst_32 : decode cX3_deliverFirst 32 = .ok (.aload 4, 2) := by decide +kernel
theorem dX3_deliverFirst_34 : decode cX3_deliverFirst 34 = .ok (.invokevirtual 95, 3) := by decide +kernel
theorem dX3_deliverFirst_37 : decode cX3_deliverFirst 37 = .ok (.ifCond .ne 6, 3) := by decide +kernel
theorem dX3_deliverFirst_40 : decode cX3_deliverFirst 40 = .ok (.bipush (-2), 2) := by decide +kernel
theorem dX3_deliverFirst_42 : decode cX3_deliverFirst 42 = .ok (.ireturn, 1) := by decide +kernel
theorem dX3_deliverFirst_43 : decode cX3_deliverFirst 43 = .ok (.aload_n 0, 1) := by decide +kernel
theorem dX3_deliverFirst_44 : decode cX3_deliverFirst 44 = .ok (.getfield 20, 3) := by decide +kernel
theorem dX3_deliverFirst_47 : decode cX3_deliverFirst 47 = .ok (.iload_n 1, 1) := by decide +kernel
theorem dX3_deliverFirst_48 : decode cX3_deliverFirst 48 = .ok (.invokevirtual 99, 3) := by decide +kernel
theorem dX3_deliverFirst_51 : decode cX3_deliverFirst 51 = .ok (.istore 5, 2) := by decide +kernel
theorem dX3_deliverFirst_53 : decode cX3_deliverFirst 53 = .ok (.iload_n 2, 1) := by decide +kernel
theorem dX3_deliverFirst_54 : decode cX3_deliverFirst 54 = .ok (.ifCond .ne 8, 3) := by decide +kernel
theorem dX3_deliverFirst_57 : decode cX3_deliverFirst 57 = .ok (.iload 5, 2) := by decide +kernel
theorem dX3_deliverFirst_59 : decode cX3_deliverFirst 59 = .ok (.goto 4, 3) := by decide +kernel
theorem dX3_deliverFirst_62 : decode cX3_deliverFirst 62 = .ok (.iload_n 1, 1) := by decide +kernel
theorem dX3_deliverFirst_63 : decode cX3_deliverFirst 63 = .ok (.istore 6, 2) := by decide +kernel
theorem dX3_deliverFirst_65 : decode cX3_deliverFirst 65 = .ok (.iload_n 2, 1) := by decide +kernel
theorem dX3_deliverFirst_66 : decode cX3_deliverFirst 66 = .ok (.ifCond .ne 7, 3) := by decide +kernel
theorem dX3_deliverFirst_69 : decode cX3_deliverFirst 69 = .ok (.iload_n 1, 1) := by decide +kernel
theorem dX3_deliverFirst_70 : decode cX3_deliverFirst 70 = .ok (.goto 5, 3) := by decide +kernel
theorem dX3_deliverFirst_73 : decode cX3_deliverFirst 73 = .ok (.iload 5, 2) := by decide +kernel
theorem dX3_deliverFirst_75 : decode cX3_deliverFirst 75 = .ok (.istore 7, 2) := by decide +kernel
theorem dX3_deliverFirst_77 : decode cX3_deliverFirst 77 = .ok (.iconst 0, 1) := by decide +kernel
theorem dX3_deliverFirst_78 : decode cX3_deliverFirst 78 = .ok (.istore 8, 2) := by decide +kernel
theorem dX3_deliverFirst_80 : decode cX3_deliverFirst 80 = .ok (.iconst 0, 1) := by decide +kernel
theorem dX3_deliverFirst_81 : decode cX3_deliverFirst 81 = .ok (.istore 9, 2) := by decide +kernel
theorem dX3_deliverFirst_83 : decode cX3_deliverFirst 83 = .ok (.iload 9, 2) := by decide +kernel
theorem dX3_deliverFirst_85 : decode cX3_deliverFirst 85 = .ok (.iload_n 3, 1) := by decide +kernel
theorem dX3_deliverFirst_86 : decode cX3_deliverFirst 86 = .ok (.if_icmp .ge 47, 3) := by decide +kernel
theorem dX3_deliverFirst_89 : decode cX3_deliverFirst 89 = .ok (.aload 4, 2) := by decide +kernel
theorem dX3_deliverFirst_91 : decode cX3_deliverFirst 91 = .ok (.invokevirtual 95, 3) := by decide +kernel
theorem dX3_deliverFirst_94 : decode cX3_deliverFirst 94 = .ok (.ifCond .le 39, 3) := by decide +kernel
theorem dX3_deliverFirst_97 : decode cX3_deliverFirst 97 = .ok (.aload 4, 2) := by decide +kernel
theorem dX3_deliverFirst_99 : decode cX3_deliverFirst 99 = .ok (.iconst 0, 1) := by decide +kernel
theorem dX3_deliverFirst_100 : decode cX3_deliverFirst 100 = .ok (.invokevirtual 102, 3) := by decide +kernel
theorem dX3_deliverFirst_103 : decode cX3_deliverFirst 103 = .ok (.istore 10, 2) := by decide +kernel
theorem dX3_deliverFirst_105 : decode cX3_deliverFirst 105 = .ok (.aload 4, 2) := by decide +kernel
theorem dX3_deliverFirst_107 : decode cX3_deliverFirst 107 = .ok (.iconst 0, 1) := by decide +kernel
theorem dX3_deliverFirst_108 : decode cX3_deliverFirst 108 = .ok (.invokevirtual 105, 3) := by decide +kernel
theorem dX3_deliverFirst_111 : decode cX3_deliverFirst 111 = .ok (.aload_n 0, 1) := by decide +kernel
theorem dX3_deliverFirst_112 : decode cX3_deliverFirst 112 = .ok (.iload 6, 2) := by decide +kernel
theorem dX3_deliverFirst_114 : decode cX3_deliverFirst 114 = .ok (.iload 7, 2) := by decide +kernel
theorem dX3_deliverFirst_116 : decode cX3_deliverFirst 116 = .ok (.iload 10, 2) := by decide +kernel
theorem dX3_deliverFirst_118 : decode cX3_deliverFirst 118 = .ok (.invokevirtual 80, 3) := by decide +kernel
theorem dX3_deliverFirst_121 : decode cX3_deliverFirst 121 = .ok (.ifCond .eq 6, 3) := by decide +kernel
theorem dX3_deliverFirst_124 : decode cX3_deliverFirst 124 = .ok (.iinc 8 1, 3) := by decide +kernel
theorem dX3_deliverFirst_127 : decode cX3_deliverFirst 127 = .ok (.iinc 9 1, 3) := by decide +kernel
theorem dX3_deliverFirst_130 : decode cX3_deliverFirst 130 = .ok (.goto (-47), 3) := by decide +kernel
theorem dX3_deliverFirst_133 : decode cX3_deliverFirst 133 = .ok (.iload 8, 2) := by decide +kernel
theorem dX3_deliverFirst_135 : decode cX3_deliverFirst 135 = .ok (.ireturn, 1) := by decide +kernel
set_option maxRecDepth 20000 in
theorem ggX3_loseFirst_X5_hasQueue : GoodIn wsX3_loseFirst wsX5_hasQueue := goodIn_r _ [10, 11, 12, 13, 9, 14, 15, 41, 42, 43, 44, 45, 46, 47, 48, 49, 50, 51, 52, 53, 54, 55, 56] (by decide +kernel) (by decide +kernel)
set_option maxRecDepth 20000 in
theorem gX3_loseFirst_X5_hasQueue : GoodIn wsX3_loseFirst (wsV RX3 84 RX5 yX5_hasQueue wsX5_hasQueue) := goodIn_app (goodIn_of _ (by decide +kernel)) ggX3_loseFirst_X5_hasQueue
set_option maxRecDepth 20000 in
theorem ggX3_loseFirst_X3_isTakeable : GoodIn wsX3_loseFirst wsX3_isTakeable := goodIn_r _ [19] (by decide +kernel) (by decide +kernel)
set_option maxRecDepth 20000 in
theorem gX3_loseFirst_X3_isTakeable : GoodIn wsX3_loseFirst (va_wsS RX3 88 yX3_isTakeable wsX3_isTakeable) := goodIn_app (goodIn_of _ (by decide +kernel)) ggX3_loseFirst_X3_isTakeable
set_option maxRecDepth 20000 in
theorem ggX3_loseFirst_X5_queueOf : GoodIn wsX3_loseFirst wsX5_queueOf := goodIn_r _ [23, 24, 25, 26, 11, 12, 13, 9, 14, 15, 41, 42, 43, 44, 45, 46, 47, 48, 49, 50, 51, 52, 53, 54, 55, 56] (by decide +kernel) (by decide +kernel)
set_option maxRecDepth 20000 in
theorem gX3_loseFirst_X5_queueOf : GoodIn wsX3_loseFirst (wsV RX3 91 RX5 yX5_queueOf wsX5_queueOf) := goodIn_app (goodIn_of _ (by decide +kernel)) ggX3_loseFirst_X5_queueOf
set_option maxRecDepth 20000 in
theorem ggX3_loseFirst_X2_length : GoodIn wsX3_loseFirst wsX2_length := goodIn_r _ [31, 32, 57, 58] (by decide +kernel) (by decide +kernel)
set_option maxRecDepth 20000 in
theorem gX3_loseFirst_X2_length : GoodIn wsX3_loseFirst (wsV RX3 95 RX2 yX2_length wsX2_length) := goodIn_app (goodIn_of _ (by decide +kernel)) ggX3_loseFirst_X2_length
set_option maxRecDepth 20000 in
theorem ggX3_loseFirst_X2_removeAt : GoodIn wsX3_loseFirst wsX2_removeAt := goodIn_r _ [36, 32, 37, 57, 58] (by decide +kernel) (by decide +kernel)
set_option maxRecDepth 20000 in
theorem gX3_loseFirst_X2_removeAt : GoodIn wsX3_loseFirst (wsV RX3 105 RX2 yX2_removeAt wsX2_removeAt) := goodIn_app (goodIn_of _ (by decide +kernel)) ggX3_loseFirst_X2_removeAt
theorem dX3_loseFirst_0 : decode cX3_loseFirst 0 = .ok (.aload_n 0, 1) := by decide +kernel
theorem dX3_loseFirst_1 : decode cX3_loseFirst 1 = .ok (.getfield 20, 3) := by decide +kernel
theorem dX3_loseFirst_4 : decode cX3_loseFirst 4 = .ok (.iload_n 1, 1) := by decide +kernel
theorem dX3_loseFirst_5 : decode cX3_loseFirst 5 = .ok (.iload_n 2, 1) := by decide +kernel
theorem dX3_loseFirst_6 : decode cX3_loseFirst 6 = .ok (.invokevirtual 84, 3) := by decide +kernel
theorem dX3_loseFirst_9 : decode cX3_loseFirst 9 = .ok (.ifCond .eq 10, 3) := by decide +kernel
theorem dX3_loseFirst_12 : decode cX3_loseFirst 12 = .ok (.iload_n 3, 1) := by decide +kernel
theorem dX3_loseFirst_13 : decode cX3_loseFirst 13 = .ok (.invokestatic 88, 3) := by decide +kernel
theorem dX3_loseFirst_16 : decode cX3_loseFirst 16 = .ok (.ifCond .ne 5, 3) := by decide +kernel
theorem dX3_loseFirst_19 : decode cX3_loseFirst 19 = .ok (.iconst (-1), 1) := by decide +kernel
theorem dX3_loseFirst_20 : decode cX3_loseFirst 20 = .ok (.ireturn, 1) := by decide +kernel
theorem dX3_loseFirst_21 : decode cX3_loseFirst 21 = .ok (.aload_n 0, 1) := by decide +kernel
theorem dX3_loseFirst_22 : decode cX3_loseFirst 22 = .ok (.getfield 20, 3) := by decide +kernel
theorem dX3_loseFirst_25 : decode cX3_loseFirst 25 = .ok (.iload_n 1, 1) := by decide +kernel
theorem dX3_loseFirst_26 : decode cX3_loseFirst 26 = .ok (.iload_n 2, 1) := by decide +kernel
theorem dX3_loseFirst_27 : decode cX3_loseFirst 27 = .ok (.invokevirtual 91, 3) := by decide +kernel
theorem dX3_loseFirst_30 : decode cX3_loseFirst 30 = .ok (.astore 4, 2) := by decide +kernel
theorem dX3_loseFirst_32 : decode cX3_loseFirst 32 = .ok (.aload 4, 2) := by decide +kernel
theorem dX3_loseFirst_34 : decode cX3_loseFirst 34 = .ok (.invokevirtual 95, 3) := by decide +kernel
theorem dX3_loseFirst_37 : decode cX3_loseFirst 37 = .ok (.ifCond .ne 6, 3) := by decide +kernel
theorem dX3_loseFirst_40 : decode cX3_loseFirst 40 = .ok (.bipush (-2), 2) := by decide +kernel
theorem dX3_loseFirst_42 : decode cX3_loseFirst 42 = .ok (.ireturn, 1) := by decide +kernel
theorem dX3_loseFirst_43 : decode cX3_loseFirst 43 = .ok (.iload_n 3, 1) := by decide +kernel
theorem dX3_loseFirst_44 : decode cX3_loseFirst 44 = .ok (.aload 4, 2) := by decide +kernel
theorem dX3_loseFirst_46 : decode cX3_loseFirst 46 = .ok (.invokevirtual 95, 3) := by decide +kernel
theorem dX3_loseFirst_49 : decode cX3_loseFirst 49 = .ok (.invokestatic 108, 3) := by decide +kernel
theorem dX3_loseFirst_52 : decode cX3_loseFirst 52 = .ok (.istore 5, 2) := by decide +kernel
theorem dX3_loseFirst_54 : decode cX3_loseFirst 54 = .ok (.iconst 0, 1) := by decide +kernel
theorem dX3_loseFirst_55 : decode cX3_loseFirst 55 = .ok (.istore 6, 2) := by decide +kernel
theorem dX3_loseFirst_57 : decode cX3_loseFirst 57 = .ok (.iload 6, 2) := by decide +kernel
theorem dX3_loseFirst_59 : decode cX3_loseFirst 59 = .ok (.iload 5, 2) := by decide +kernel
theorem dX3_loseFirst_61 : decode cX3_loseFirst 61 = .ok (.if_icmp .ge 15, 3) := by decide +kernel
theorem dX3_loseFirst_64 : decode cX3_loseFirst 64 = .ok (.aload 4, 2) := by decide +kernel
theorem dX3_loseFirst_66 : decode cX3_loseFirst 66 = .ok (.iconst 0, 1) := by decide +kernel
theorem dX3_loseFirst_67 : decode cX3_loseFirst 67 = .ok (.invokevirtual 105, 3) := by decide +kernel
theorem dX3_loseFirst_70 : decode cX3_loseFirst 70 = .ok (.iinc 6 1, 3) := by decide +kernel
theorem dX3_loseFirst_73 : decode cX3_loseFirst 73 = .ok (.goto (-16), 3) := by decide +kernel
theorem dX3_loseFirst_76 : decode cX3_loseFirst 76 = .ok (.aload_n 0, 1) := by decide +kernel
theorem dX3_loseFirst_77 : decode cX3_loseFirst 77 = .ok (.getfield 20, 3) := by decide +kernel
theorem dX3_loseFirst_80 : decode cX3_loseFirst 80 = .ok (.dup, 1) := by decide +kernel
theorem dX3_loseFirst_81 : decode cX3_loseFirst 81 = .ok (.getfield 113, 3) := by decide +kernel
theorem dX3_loseFirst_84 : decode cX3_loseFirst 84 = .ok (.iload 5, 2) := by decide +kernel
theorem dX3_loseFirst_86 : decode cX3_loseFirst 86 = .ok (.iadd, 1) := by decide +kernel
theorem dX3_loseFirst_87 : decode cX3_loseFirst 87 = .ok (.putfield 113, 3) := by decide +kernel
theorem dX3_loseFirst_90 : decode cX3_loseFirst 90 = .ok (.iload 5, 2) := by decide +kernel
theorem dX3_loseFirst_92 : decode cX3_loseFirst 92 = .ok (.ireturn, 1) := by decide +kernel
set_option maxRecDepth 20000 in
theorem ggX3_fetchContent_X5_hasProxy : GoodIn wsX3_fetchContent wsX5_hasProxy := goodIn_r _ [7, 8, 114, 115, 116, 117, 118, 119, 120, 121, 122, 123, 124, 125, 126, 127, 128, 129] (by decide +kernel) (by decide +kernel)
set_option maxRecDepth 20000 in
theorem gX3_fetchContent_X5_hasProxy : GoodIn wsX3_fetchContent (wsV RX3 28 RX5 yX5_hasProxy wsX5_hasProxy) := goodIn_app (goodIn_of _ (by decide +kernel)) ggX3_fetchContent_X5_hasProxy
set_option maxRecDepth 20000 in
theorem ggX3_fetchContent_X5_wasWritten : GoodIn wsX3_fetchContent wsX5_wasWritten := goodIn_r _ [12, 13, 14, 15, 16, 17, 18, 6, 19, 20, 114, 115, 116, 117, 118, 119, 120, 121, 122, 123, 124, 125, 126, 127, 128, 129] (by decide +kernel) (by decide +kernel)
set_option maxRecDepth 20000 in
theorem gX3_fetchContent_X5_wasWritten : GoodIn wsX3_fetchContent (wsV RX3 116 RX5 yX5_wasWritten wsX5_wasWritten) := goodIn_app (goodIn_of _ (by decide +kernel)) ggX3_fetchContent_X5_wasWritten
set_option maxRecDepth 20000 in
theorem ggX3_fetchContent_X0_servedOf : GoodIn wsX3_fetchContent wsX0_servedOf := goodIn_r _ [25, 26, 27, 28, 24, 29, 30, 31, 32, 33, 34, 6, 35, 36, 37, 38, 39, 40, 41, 42, 43, 44, 45, 46, 47, 48, 49, 130, 131, 132, 114, 115, 116, 117, 118, 119, 120, 121, 122, 123, 124, 125, 126, 127, 128, 129] (by decide +kernel) (by decide +kernel)
set_option maxRecDepth 20000 in
theorem gX3_fetchContent_X0_servedOf : GoodIn wsX3_fetchContent (wsV RX3 119 RX0 yX0_servedOf wsX0_servedOf) := goodIn_app (goodIn_of _ (by decide +kernel)) ggX3_fetchContent_X0_servedOf
set_option maxRecDepth 20000 in
theorem ggX3_fetchContent_X7_updateOf : GoodIn wsX3_fetchContent wsX7_updateOf := goodIn_r _ [51] (by decide +kernel) (by decide +kernel)
set_option maxRecDepth 20000 in
theorem gX3_fetchContent_X7_updateOf_n76 : GoodIn wsX3_fetchContent (wsX7_updateOf) := ggX3_fetchContent_X7_updateOf
set_option maxRecDepth 20000 in
theorem ggX3_fetchContent_X3_hopsToContent : GoodIn wsX3_fetchContent wsX3_hopsToContent := goodIn_r _ [56, 1, 57, 58, 59, 6, 60, 61, 62, 63, 64, 65, 66, 67, 4, 5, 7, 8, 68, 69, 70, 71, 72, 73, 74, 75, 76, 77, 78, 79, 111, 112, 113, 114, 115, 116, 117, 118, 119, 120, 121, 122, 123, 124, 125, 126, 127, 128, 129, 133, 134] (by decide +kernel) (by decide +kernel)
set_option maxRecDepth 20000 in
theorem gX3_fetchContent_X3_hopsToContent : GoodIn wsX3_fetchContent (wsV RX3 122 RX3 yX3_hopsToContent wsX3_hopsToContent) := goodIn_app (goodIn_of _ (by decide +kernel)) ggX3_fetchContent_X3_hopsToContent
set_option maxRecDepth 20000 in
theorem ggX3_fetchContent_X3_keepContent : GoodIn wsX3_fetchContent wsX3_keepContent := goodIn_r _ [83, 1, 2, 84, 62, 63, 6, 64, 65, 66, 67, 4, 5, 7, 8, 85, 86, 87, 71, 88, 73, 74, 89, 90, 91, 92, 93, 27, 28, 24, 29, 30, 31, 32, 33, 34, 35, 36, 37, 38, 39, 40, 41, 42, 43, 44, 45, 94, 95, 96, 55, 97, 98, 99, 100, 101, 102, 14, 103, 104, 105, 106, 47, 48, 49, 107, 108, 109, 110, 111, 112, 113, 114, 115, 116, 117, 118, 119, 120, 121, 122, 123, 124, 125, 126, 127, 128, 129, 133, 134, 130, 131, 132] (by decide +kernel) (by decide +kernel)
set_option maxRecDepth 20000 in
theorem gX3_fetchContent_X3_keepContent : GoodIn wsX3_fetchContent (wsV RX3 125 RX3 yX3_keepContent wsX3_keepContent) := goodIn_app (goodIn_of _ (by decide +kernel)) ggX3_fetchContent_X3_keepContent
theorem dX3_fetchContent_0 : decode cX3_fetchContent 0 = .ok (.aload_n 0, 1) := by decide +kernel
theorem dX3_fetchContent_1 : decode cX3_fetchContent 1 = .ok (.getfield 20, 3) := by decide +kernel
theorem dX3_fetchContent_4 : decode cX3_fetchContent 4 = .ok (.iload_n 1, 1) := by decide +kernel
theorem dX3_fetchContent_5 : decode cX3_fetchContent 5 = .ok (.invokevirtual 28, 3) := by decide +kernel
theorem dX3_fetchContent_8 : decode cX3_fetchContent 8 = .ok (.ifCond .eq 15, 3) := by decide +kernel
theorem dX3_fetchContent_11 : decode cX3_fetchContent 11 = .ok (.aload_n 0, 1) := by decide +kernel
theorem dX3_fetchContent_12 : decode cX3_fetchContent 12 = .ok (.getfield 20, 3) := by decide +kernel
theorem dX3_fetchContent_15 : decode cX3_fetchContent 15 = .ok (.iload_n 2, 1) := by decide +kernel
theorem dX3_fetchContent_16 : decode cX3_fetchContent 16 = .ok (.iload_n 3, 1) := by decide +kernel
theorem dX3_fetchContent_17 : decode cX3_fetchContent 17 = .ok (.invokevirtual 116, 3) := by decide +kernel
theorem dX3_fetchContent_20 : decode cX3_fetchContent 20 = .ok (.ifCond .ne 5, 3) := by decide +kernel
theorem dX3_fetchContent_23 : decode cX3_fetchContent 23 = .ok (.iconst (-1), 1) := by decide +kernel
theorem dX3_fetchContent_24 : decode cX3_fetchContent 24 = .ok (.ireturn, 1) := by decide +kernel
theorem dX3_fetchContent_25 : decode cX3_fetchContent 25 = .ok (.iload_n 3, 1) := by decide +kernel
theorem dX3_fetchContent_26 : decode cX3_fetchContent 26 = .ok (.aload_n 0, 1) := by decide +kernel
theorem dX3_fetchContent_27 : decode cX3_fetchContent 27 = .ok (.getfield 24, 3) := by decide +kernel
theorem dX3_fetchContent_30 : decode cX3_fetchContent 30 = .ok (.iload_n 1, 1) := by decide +kernel
theorem dX3_fetchContent_31 : decode cX3_fetchContent 31 = .ok (.iload_n 2, 1) := by decide +kernel
theorem dX3_fetchContent_32 : decode cX3_fetchContent 32 = .ok (.invokevirtual 119, 3) := by decide +kernel
theorem dX3_fetchContent_35 : decode cX3_fetchContent 35 = .ok (.if_icmp .le 6, 3) := by decide +kernel
theorem dX3_fetchContent_38 : decode cX3_fetchContent 38 = .ok (.bipush (-2), 2) := by decide +kernel
theorem dX3_fetchContent_40 : decode cX3_fetchContent 40 = .ok (.ireturn, 1) := by decide +kernel
theorem dX3_fetchContent_41 : decode cX3_fetchContent 41 = .ok (.iload_n 2, 1) := by decide +kernel
theorem dX3_fetchContent_42 : decode cX3_fetchContent 42 = .ok (.iload_n 3, 1) := by decide +kernel
theorem dX3_fetchContent_43 : decode cX3_fetchContent 43 = .ok (.invokestatic 76, 3) := by decide +kernel
theorem dX3_fetchContent_46 : decode cX3_fetchContent 46 = .ok (.istore 4, 2) := by decide +kernel
theorem dX3_fetchContent_48 : decode cX3_fetchContent 48 = .ok (.aload_n 0, 1) := by decide +kernel
theorem dX3_fetchContent_49 : decode cX3_fetchContent 49 = .ok (.iload_n 1, 1) := by decide +kernel
theorem dX3_fetchContent_50 : decode cX3_fetchContent 50 = .ok (.iload 4, 2) := by decide +kernel
theorem dX3_fetchContent_52 : decode cX3_fetchContent 52 = .ok (.invokevirtual 122, 3) := by decide +kernel
theorem dX3_fetchContent_55 : decode cX3_fetchContent 55 = .ok (.istore 5, 2) := by decide +kernel
theorem dX3_fetchContent_57 : decode cX3_fetchContent 57 = .ok (.iload 5, 2) := by decide +kernel
theorem dX3_fetchContent_59 : decode cX3_fetchContent 59 = .ok (.ifCond .le 10, 3) := by decide +kernel
theorem dX3_fetchContent_62 : decode cX3_fetchContent 62 = .ok (.aload_n 0, 1) := by decide +kernel
theorem dX3_fetchContent_63 : decode cX3_fetchContent 63 = .ok (.iload_n 1, 1) := by decide +kernel
theorem dX3_fetchContent_64 : decode cX3_fetchContent 64 = .ok (.iload 4, 2) := by decide +kernel
theorem dX3_fetchContent_66 : decode cX3_fetchContent 66 = .ok (.invokevirtual 125, 3) := by decide +kernel
theorem dX3_fetchContent_69 : decode cX3_fetchContent 69 = .ok (.iload 5, 2) := by decide +kernel
theorem dX3_fetchContent_71 : decode cX3_fetchContent 71 = .ok (.ireturn, 1) := by decide +kernel
set_option maxRecDepth 20000 in
theorem ggX3_hopsToContent_X5_keeps : GoodIn wsX3_hopsToContent wsX5_keeps := goodIn_r _ [6, 7, 8, 9, 5, 10, 11, 12, 13, 14, 15, 16, 17, 18, 19, 20, 21, 22, 23, 24, 33, 34, 35, 36, 37, 38, 39, 40, 41, 42, 43, 44, 45, 46, 47, 48, 49, 50] (by decide +kernel) (by decide +kernel)
set_option maxRecDepth 20000 in
theorem gX3_hopsToContent_X5_keeps : GoodIn wsX3_hopsToContent (wsV RX3 128 RX5 yX5_keeps wsX5_keeps) := goodIn_app (goodIn_of _ (by decide +kernel)) ggX3_hopsToContent_X5_keeps
set_option maxRecDepth 20000 in
theorem ggX3_hopsToContent_X5_parentOf : GoodIn wsX3_hopsToContent wsX5_parentOf := goodIn_r _ [28, 29, 33, 34, 35, 36, 37, 38, 39, 40, 41, 42, 43, 44, 45, 46, 47, 48] (by decide +kernel) (by decide +kernel)
set_option maxRecDepth 20000 in
theorem gX3_hopsToContent_X5_parentOf : GoodIn wsX3_hopsToContent (wsV RX3 99 RX5 yX5_parentOf wsX5_parentOf) := goodIn_app (goodIn_of _ (by decide +kernel)) ggX3_hopsToContent_X5_parentOf
theorem dX3_hopsToContent_0 : decode cX3_hopsToContent 0 = .ok (.iload_n 1, 1) := by decide +kernel
theorem dX3_hopsToContent_1 : decode cX3_hopsToContent 1 = .ok (.istore_n 3, 1) := by decide +kernel
theorem dX3_hopsToContent_2 : decode cX3_hopsToContent 2 = .ok (.iconst 0, 1) := by decide +kernel
theorem dX3_hopsToContent_3 : decode cX3_hopsToContent 3 = .ok (.istore 4, 2) := by decide +kernel
theorem dX3_hopsToContent_5 : decode cX3_hopsToContent 5 = .ok (.iload 4, 2) := by decide +kernel
theorem dX3_hopsToContent_7 : decode cX3_hopsToContent 7 = .ok (.bipush 8, 2) := by decide +kernel
theorem dX3_hopsToContent_9 : decode cX3_hopsToContent 9 = .ok (.if_icmp .ge 40, 3) := by decide +kernel
theorem dX3_hopsToContent_12 : decode cX3_hopsToContent 12 = .ok (.aload_n 0, 1) := by decide +kernel
theorem dX3_hopsToContent_13 : decode cX3_hopsToContent 13 = .ok (.getfield 20, 3) := by decide +kernel
theorem dX3_hopsToContent_16 : decode cX3_hopsToContent 16 = .ok (.iload_n 3, 1) := by decide +kernel
theorem dX3_hopsToContent_17 : decode cX3_hopsToContent 17 = .ok (.iload_n 2, 1) := by decide +kernel
theorem dX3_hopsToContent_18 : decode cX3_hopsToContent 18 = .ok (.invokevirtual 128, 3) := by decide +kernel
theorem dX3_hopsToContent_21 : decode cX3_hopsToContent 21 = .ok (.ifCond .eq 6, 3) := by decide +kernel
theorem dX3_hopsToContent_24 : decode cX3_hopsToContent 24 = .ok (.iload 4, 2) := by decide +kernel
theorem dX3_hopsToContent_26 : decode cX3_hopsToContent 26 = .ok (.ireturn, 1) := by decide +kernel
theorem dX3_hopsToContent_27 : decode cX3_hopsToContent 27 = .ok (.iload_n 3, 1) := by decide +kernel
theorem dX3_hopsToContent_28 : decode cX3_hopsToContent 28 = .ok (.ifCond .ne 6, 3) := by decide +kernel
theorem dX3_hopsToContent_31 : decode cX3_hopsToContent 31 = .ok (.bipush (-9), 2) := by decide +kernel
theorem dX3_hopsToContent_33 : decode cX3_hopsToContent 33 = .ok (.ireturn, 1) := by decide +kernel
theorem dX3_hopsToContent_34 : decode cX3_hopsToContent 34 = .ok (.aload_n 0, 1) := by decide +kernel
theorem dX3_hopsToContent_35 : decode cX3_hopsToContent 35 = .ok (.getfield 20, 3) := by decide +kernel
theorem dX3_hopsToContent_38 : decode cX3_hopsToContent 38 = .ok (.iload_n 3, 1) := by decide +kernel
theorem dX3_hopsToContent_39 : decode cX3_hopsToContent 39 = .ok (.invokevirtual 99, 3) := by decide +kernel
theorem dX3_hopsToContent_42 : decode cX3_hopsToContent 42 = .ok (.istore_n 3, 1) := by decide +kernel
theorem dX3_hopsToContent_43 : decode cX3_hopsToContent 43 = .ok (.iinc 4 1, 3) := by decide +kernel
theorem dX3_hopsToContent_46 : decode cX3_hopsToContent 46 = .ok (.goto (-41), 3) := by decide +kernel
theorem dX3_hopsToContent_49 : decode cX3_hopsToContent 49 = .ok (.bipush (-9), 2) := by decide +kernel
theorem dX3_hopsToContent_51 : decode cX3_hopsToContent 51 = .ok (.ireturn, 1) := by decide +kernel
set_option maxRecDepth 20000 in
theorem ggX3_askUpward_X5_hasChild : GoodIn wsX3_askUpward wsX5_hasChild := goodIn_r _ [7, 8, 157, 158, 159, 160, 161, 162, 163, 164, 165, 166, 167, 168, 169, 170, 171, 172] (by decide +kernel) (by decide +kernel)
set_option maxRecDepth 20000 in
theorem gX3_askUpward_X5_hasChild : GoodIn wsX3_askUpward (wsV RX3 131 RX5 yX5_hasChild wsX5_hasChild) := goodIn_app (goodIn_of _ (by decide +kernel)) ggX3_askUpward_X5_hasChild
set_option maxRecDepth 20000 in
theorem ggX3_askUpward_X5_isAbove : GoodIn wsX3_askUpward wsX5_isAbove := goodIn_r _ [12, 13, 14, 15, 6, 16, 17, 157, 158, 159, 160, 161, 162, 163, 164, 165, 166, 167, 168, 169, 170, 171, 172] (by decide +kernel) (by decide +kernel)
set_option maxRecDepth 20000 in
theorem gX3_askUpward_X5_isAbove : GoodIn wsX3_askUpward (wsV RX3 137 RX5 yX5_isAbove wsX5_isAbove) := goodIn_app (goodIn_of _ (by decide +kernel)) ggX3_askUpward_X5_isAbove
set_option maxRecDepth 20000 in
theorem ggX3_askUpward_X3_findGapsToFill : GoodIn wsX3_askUpward wsX3_findGapsToFill := goodIn_r _ [22, 1, 2, 23, 14, 15, 6, 16, 17, 24, 25, 26, 27, 28, 29, 30, 31, 32, 33, 34, 35, 36, 37, 38, 39, 40, 41, 42, 43, 44, 45, 46, 47, 48, 49, 50, 51, 52, 53, 54, 154, 155, 156, 157, 158, 159, 160, 161, 162, 163, 164, 165, 166, 167, 168, 169, 170, 171, 172, 173, 174] (by decide +kernel) (by decide +kernel)
set_option maxRecDepth 20000 in
theorem gX3_askUpward_X3_findGapsToFill : GoodIn wsX3_askUpward (wsV RX3 140 RX3 yX3_findGapsToFill wsX3_findGapsToFill) := goodIn_app (goodIn_of _ (by decide +kernel)) ggX3_askUpward_X3_findGapsToFill
set_option maxRecDepth 20000 in
theorem ggX3_askUpward_X2_length : GoodIn wsX3_askUpward wsX2_length := goodIn_r _ [58, 29, 173, 174] (by decide +kernel) (by decide +kernel)
set_option maxRecDepth 20000 in
theorem gX3_askUpward_X2_length : GoodIn wsX3_askUpward (wsV RX3 95 RX2 yX2_length wsX2_length) := goodIn_app (goodIn_of _ (by decide +kernel)) ggX3_askUpward_X2_length
set_option maxRecDepth 20000 in
theorem ggX3_askUpward_X5_parentOf : GoodIn wsX3_askUpward wsX5_parentOf := goodIn_r _ [16, 17, 157, 158, 159, 160, 161, 162, 163, 164, 165, 166, 167, 168, 169, 170, 171, 172] (by decide +kernel) (by decide +kernel)
set_option maxRecDepth 20000 in
theorem gX3_askUpward_X5_parentOf : GoodIn wsX3_askUpward (wsV RX3 99 RX5 yX5_parentOf wsX5_parentOf) := goodIn_app (goodIn_of _ (by decide +kernel)) ggX3_askUpward_X5_parentOf
set_option maxRecDepth 20000 in
theorem ggX3_askUpward_X2_at : GoodIn wsX3_askUpward wsX2_at := goodIn_r _ [62, 29, 54, 173, 174] (by decide +kernel) (by decide +kernel)
set_option maxRecDepth 20000 in
theorem gX3_askUpward_X2_at : GoodIn wsX3_askUpward (wsV RX3 102 RX2 yX2_at wsX2_at) := goodIn_app (goodIn_of _ (by decide +kernel)) ggX3_askUpward_X2_at
set_option maxRecDepth 20000 in
theorem ggX3_askUpward_X3_arrive : GoodIn wsX3_askUpward wsX3_arrive := goodIn_r _ [66, 1, 67, 48, 68, 69, 70, 39, 40, 41, 6, 42, 43, 31, 32, 33, 34, 44, 45, 37, 46, 71, 72, 73, 74, 75, 76, 77, 78, 79, 80, 81, 82, 83, 84, 85, 86, 87, 88, 89, 90, 91, 92, 93, 94, 21, 95, 96, 97, 98, 99, 100, 101, 102, 103, 104, 105, 106, 8, 50, 51, 52, 27, 53, 29, 54, 55, 56, 57, 58, 107, 108, 109, 110, 111, 112, 113, 114, 115, 116, 117, 118, 119, 120, 121, 122, 123, 124, 125, 126, 59, 60, 61, 62, 127, 128, 129, 130, 131, 132, 133, 134, 135, 136, 137, 138, 23, 14, 15, 16, 17, 139, 140, 141, 142, 143, 144, 145, 4, 5, 7, 146, 147, 148, 149, 150, 151, 152, 153, 13, 154, 155, 156, 157, 158, 159, 160, 161, 162, 163, 164, 165, 166, 167, 168, 169, 170, 171, 172, 173, 174, 175, 176, 177] (by decide +kernel) (by decide +kernel)
set_option maxRecDepth 20000 in
theorem gX3_askUpward_X3_arrive : GoodIn wsX3_askUpward (wsV RX3 80 RX3 yX3_arrive wsX3_arrive) := goodIn_app (goodIn_of _ (by decide +kernel)) ggX3_askUpward_X3_arrive
theorem dX3_askUpward_0 : decode cX3_askUpward 0 = .ok (.aload_n 0, 1) := by decide +kernel
theorem dX3_askUpward_1 : decode cX3_askUpward 1 = .ok (.getfield 20, 3) := by decide +kernel
theorem dX3_askUpward_4 : decode cX3_askUpward 4 = .ok (.iload_n 1, 1) := by decide +kernel
theorem dX3_askUpward_5 : decode cX3_askUpward 5 = .ok (.invokevirtual 131, 3) := by decide +kernel
theorem dX3_askUpward_8 : decode cX3_askUpward 8 = .ok (.ifCond .ne 5, 3) := by decide +kernel
theorem dX3_askUpward_11 : decode cX3_askUpward 11 = .ok (.iconst (-1), 1) := by decide +kernel
theorem dX3_askUpward_12 : decode cX3_askUpward 12 = .ok (.ireturn, 1) := by decide +kernel
theorem dX3_askUpward_13 : decode cX3_askUpward 13 = .ok (.aload_n 0, 1) := by decide +kernel
theorem dX3_askUpward_14 : decode cX3_askUpward 14 = .ok (.getfield 20, 3) := by decide +kernel
theorem dX3_askUpward_17 : decode cX3_askUpward 17 = .ok (.getfield 134, 3) := by decide +kernel
theorem dX3_askUpward_20 : decode cX3_askUpward 20 = .ok (.istore_n 2, 1) := by decide +kernel
theorem dX3_askUpward_21 : decode cX3_askUpward 21 = .ok (.iconst 0, 1) := by decide +kernel
theorem dX3_askUpward_22 : decode cX3_askUpward 22 = .ok (.istore_n 3, 1) := by decide +kernel
theorem dX3_askUpward_23 : decode cX3_askUpward 23 = .ok (.iconst 0, 1) := by decide +kernel
theorem dX3_askUpward_24 : decode cX3_askUpward 24 = .ok (.istore 4, 2) := by decide +kernel
theorem dX3_askUpward_26 : decode cX3_askUpward 26 = .ok (.iconst 1, 1) := by decide +kernel
theorem dX3_askUpward_27 : decode cX3_askUpward 27 = .ok (.istore 5, 2) := by decide +kernel
