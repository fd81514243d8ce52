theorem dX8_makes_58 : decode cX8_makes 58 = .ok (.iconst 4, 1) := by decide +kernel
theorem dX8_makes_59 : decode cX8_makes 59 = .ok (.if_icmp .ge 49, 3) := by decide +kernel
theorem dX8_makes_62 : decode cX8_makes 62 = .ok (.aload_n 0, 1) := by decide +kernel
theorem dX8_makes_63 : decode cX8_makes 63 = .ok (.getfield 7, 3) := by decide +kernel
theorem dX8_makes_66 : decode cX8_makes 66 = .ok (.bipush 23, 2) := by decide +kernel
theorem dX8_makes_68 : decode cX8_makes 68 = .ok (.bipush 96, 2) := by decide +kernel
theorem dX8_makes_70 : decode cX8_makes 70 = .ok (.iload_n 1, 1) := by decide +kernel
theorem dX8_makes_71 : decode cX8_makes 71 = .ok (.imul, 1) := by decide +kernel
theorem dX8_makes_72 : decode cX8_makes 72 = .ok (.iadd, 1) := by decide +kernel
theorem dX8_makes_73 : decode cX8_makes 73 = .ok (.iconst 4, 1) := by decide +kernel
theorem dX8_makes_74 : decode cX8_makes 74 = .ok (.iload_n 3, 1) := by decide +kernel
theorem dX8_makes_75 : decode cX8_makes 75 = .ok (.iconst 1, 1) := by decide +kernel
theorem dX8_makes_76 : decode cX8_makes 76 = .ok (.isub, 1) := by decide +kernel
theorem dX8_makes_77 : decode cX8_makes 77 = .ok (.imul, 1) := by decide +kernel
theorem dX8_makes_78 : decode cX8_makes 78 = .ok (.iadd, 1) := by decide +kernel
theorem dX8_makes_79 : decode cX8_makes 79 = .ok (.iload 4, 2) := by decide +kernel
theorem dX8_makes_81 : decode cX8_makes 81 = .ok (.iadd, 1) := by decide +kernel
theorem dX8_makes_82 : decode cX8_makes 82 = .ok (.iload 4, 2) := by decide +kernel
theorem dX8_makes_84 : decode cX8_makes 84 = .ok (.iload_n 1, 1) := by decide +kernel
theorem dX8_makes_85 : decode cX8_makes 85 = .ok (.if_icmp .ne 9, 3) := by decide +kernel
theorem dX8_makes_88 : decode cX8_makes 88 = .ok (.iload_n 3, 1) := by decide +kernel
theorem dX8_makes_89 : decode cX8_makes 89 = .ok (.iconst 1, 1) := by decide +kernel
theorem dX8_makes_90 : decode cX8_makes 90 = .ok (.isub, 1) := by decide +kernel
theorem dX8_makes_91 : decode cX8_makes 91 = .ok (.goto 10, 3) := by decide +kernel
theorem dX8_makes_94 : decode cX8_makes 94 = .ok (.aload_n 0, 1) := by decide +kernel
theorem dX8_makes_95 : decode cX8_makes 95 = .ok (.getfield 22, 3) := by decide +kernel
theorem dX8_makes_98 : decode cX8_makes 98 = .ok (.iload 4, 2) := by decide +kernel
theorem dX8_makes_100 : decode cX8_makes 100 = .ok (.iaload, 1) := by decide +kernel
theorem dX8_makes_101 : decode cX8_makes 101 = .ok (.iastore, 1) := by decide +kernel
theorem dX8_makes_102 : decode cX8_makes 102 = .ok (.iinc 4 1, 3) := by decide +kernel
theorem dX8_makes_105 : decode cX8_makes 105 = .ok (.goto (-49), 3) := by decide +kernel
theorem dX8_makes_108 : decode cX8_makes 108 = .ok (.aload_n 0, 1) := by decide +kernel
theorem dX8_makes_109 : decode cX8_makes 109 = .ok (.getfield 7, 3) := by decide +kernel
theorem dX8_makes_112 : decode cX8_makes 112 = .ok (.bipush 19, 2) := by decide +kernel
theorem dX8_makes_114 : decode cX8_makes 114 = .ok (.iload_n 1, 1) := by decide +kernel
theorem dX8_makes_115 : decode cX8_makes 115 = .ok (.iadd, 1) := by decide +kernel
theorem dX8_makes_116 : decode cX8_makes 116 = .ok (.iload_n 3, 1) := by decide +kernel
theorem dX8_makes_117 : decode cX8_makes 117 = .ok (.iastore, 1) := by decide +kernel
theorem dX8_makes_118 : decode cX8_makes 118 = .ok (.aload_n 0, 1) := by decide +kernel
theorem dX8_makes_119 : decode cX8_makes 119 = .ok (.iload_n 2, 1) := by decide +kernel
theorem dX8_makes_120 : decode cX8_makes 120 = .ok (.bipush 100, 2) := by decide +kernel
theorem dX8_makes_122 : decode cX8_makes 122 = .ok (.iload_n 1, 1) := by decide +kernel
theorem dX8_makes_123 : decode cX8_makes 123 = .ok (.imul, 1) := by decide +kernel
theorem dX8_makes_124 : decode cX8_makes 124 = .ok (.iload_n 3, 1) := by decide +kernel
theorem dX8_makes_125 : decode cX8_makes 125 = .ok (.iadd, 1) := by decide +kernel
theorem dX8_makes_126 : decode cX8_makes 126 = .ok (.bipush (-9), 2) := by decide +kernel
theorem dX8_makes_128 : decode cX8_makes 128 = .ok (.invokevirtual 101, 3) := by decide +kernel
theorem dX8_makes_131 : decode cX8_makes 131 = .ok (.iload_n 3, 1) := by decide +kernel
theorem dX8_makes_132 : decode cX8_makes 132 = .ok (.ireturn, 1) := by decide +kernel
set_option maxRecDepth 20000 in
theorem ggX8_isQueue_X8_isChild : GoodIn wsX8_isQueue wsX8_isChild := goodIn_r _ [5, 6, 7, 8, 4, 9, 10, 11, 12, 13, 14, 15, 16, 17, 18, 19, 20, 21, 22, 23] (by decide +kernel) (by decide +kernel)
set_option maxRecDepth 20000 in
theorem gX8_isQueue_X8_isChild : GoodIn wsX8_isQueue (wsV RX8 104 RX8 yX8_isChild wsX8_isChild) := goodIn_app (goodIn_of _ (by decide +kernel)) ggX8_isQueue_X8_isChild
set_option maxRecDepth 20000 in
theorem ggX8_isQueue_X8_in : GoodIn wsX8_isQueue wsX8_in := goodIn_r _ [9] (by decide +kernel) (by decide +kernel)
set_option maxRecDepth 20000 in
theorem gX8_isQueue_X8_in : GoodIn wsX8_isQueue (va_wsS RX8 39 yX8_in wsX8_in) := goodIn_app (goodIn_of _ (by decide +kernel)) ggX8_isQueue_X8_in
theorem dX8_isQueue_0 : decode cX8_isQueue 0 = .ok (.aload_n 0, 1) := by decide +kernel
theorem dX8_isQueue_1 : decode cX8_isQueue 1 = .ok (.iload_n 1, 1) := by decide +kernel
theorem dX8_isQueue_2 : decode cX8_isQueue 2 = .ok (.invokevirtual 104, 3) := by decide +kernel
theorem dX8_isQueue_5 : decode cX8_isQueue 5 = .ok (.ifCond .eq 16, 3) := by decide +kernel
theorem dX8_isQueue_8 : decode cX8_isQueue 8 = .ok (.iload_n 2, 1) := by decide +kernel
theorem dX8_isQueue_9 : decode cX8_isQueue 9 = .ok (.iconst 0, 1) := by decide +kernel
theorem dX8_isQueue_10 : decode cX8_isQueue 10 = .ok (.iconst 1, 1) := by decide +kernel
theorem dX8_isQueue_11 : decode cX8_isQueue 11 = .ok (.invokestatic 39, 3) := by decide +kernel
theorem dX8_isQueue_14 : decode cX8_isQueue 14 = .ok (.ifCond .eq 7, 3) := by decide +kernel
theorem dX8_isQueue_17 : decode cX8_isQueue 17 = .ok (.iconst 1, 1) := by decide +kernel
theorem dX8_isQueue_18 : decode cX8_isQueue 18 = .ok (.goto 4, 3) := by decide +kernel
theorem dX8_isQueue_21 : decode cX8_isQueue 21 = .ok (.iconst 0, 1) := by decide +kernel
theorem dX8_isQueue_22 : decode cX8_isQueue 22 = .ok (.ireturn, 1) := by decide +kernel
set_option maxRecDepth 20000 in
theorem ggX8_delivers_X8_isQueue : GoodIn wsX8_delivers wsX8_isQueue := goodIn_r _ [6, 7, 8, 9, 5, 10, 1, 11, 12, 13, 62, 63, 64, 65, 66, 67, 68, 69, 70, 71, 72, 73, 74, 75] (by decide +kernel) (by decide +kernel)
set_option maxRecDepth 20000 in
theorem gX8_delivers_X8_isQueue : GoodIn wsX8_delivers (wsV RX8 107 RX8 yX8_isQueue wsX8_isQueue) := goodIn_app (goodIn_of _ (by decide +kernel)) ggX8_delivers_X8_isQueue
set_option maxRecDepth 20000 in
theorem ggX8_delivers_X8_in : GoodIn wsX8_delivers wsX8_in := goodIn_r _ [13] (by decide +kernel) (by decide +kernel)
set_option maxRecDepth 20000 in
theorem gX8_delivers_X8_in : GoodIn wsX8_delivers (va_wsS RX8 39 yX8_in wsX8_in) := goodIn_app (goodIn_of _ (by decide +kernel)) ggX8_delivers_X8_in
set_option maxRecDepth 20000 in
theorem ggX8_delivers_X8_queueOf : GoodIn wsX8_delivers wsX8_queueOf := goodIn_r _ [16] (by decide +kernel) (by decide +kernel)
set_option maxRecDepth 20000 in
theorem gX8_delivers_X8_queueOf : GoodIn wsX8_delivers (va_wsS RX8 87 yX8_queueOf wsX8_queueOf) := goodIn_app (goodIn_of _ (by decide +kernel)) ggX8_delivers_X8_queueOf
set_option maxRecDepth 20000 in
theorem ggX8_delivers_X8_takes : GoodIn wsX8_delivers wsX8_takes := goodIn_r _ [20, 1, 14, 15, 5, 16, 62, 63, 64, 65, 66, 67, 68, 69, 70, 71, 72, 73, 74, 75] (by decide +kernel) (by decide +kernel)
set_option maxRecDepth 20000 in
theorem gX8_delivers_X8_takes : GoodIn wsX8_delivers (wsV RX8 110 RX8 yX8_takes wsX8_takes) := goodIn_app (goodIn_of _ (by decide +kernel)) ggX8_delivers_X8_takes
set_option maxRecDepth 20000 in
theorem ggX8_delivers_X8_arrives : GoodIn wsX8_delivers wsX8_arrives := goodIn_r _ [24, 1, 25, 26, 27, 5, 28, 29, 30, 31, 32, 33, 34, 35, 36, 37, 38, 39, 40, 41, 42, 43, 44, 45, 46, 47, 48, 49, 50, 51, 52, 53, 54, 55, 56, 57, 58, 59, 60, 61, 14, 15, 16, 62, 63, 64, 65, 66, 67, 68, 69, 70, 71, 72, 73, 74, 75] (by decide +kernel) (by decide +kernel)
set_option maxRecDepth 20000 in
theorem gX8_delivers_X8_arrives : GoodIn wsX8_delivers (wsV RX8 113 RX8 yX8_arrives wsX8_arrives) := goodIn_app (goodIn_of _ (by decide +kernel)) ggX8_delivers_X8_arrives
theorem dX8_delivers_0 : decode cX8_delivers 0 = .ok (.aload_n 0, 1) := by decide +kernel
theorem dX8_delivers_1 : decode cX8_delivers 1 = .ok (.iload_n 1, 1) := by decide +kernel
theorem dX8_delivers_2 : decode cX8_delivers 2 = .ok (.iload_n 2, 1) := by decide +kernel
theorem dX8_delivers_3 : decode cX8_delivers 3 = .ok (.invokevirtual 107, 3) := by decide +kernel
theorem dX8_delivers_6 : decode cX8_delivers 6 = .ok (.ifCond .eq 13, 3) := by decide +kernel
theorem dX8_delivers_9 : decode cX8_delivers 9 = .ok (.iload_n 3, 1) := by decide +kernel
theorem dX8_delivers_10 : decode cX8_delivers 10 = .ok (.iconst 1, 1) := by decide +kernel
theorem dX8_delivers_11 : decode cX8_delivers 11 = .ok (.bipush 9, 2) := by decide +kernel
theorem dX8_delivers_13 : decode cX8_delivers 13 = .ok (.invokestatic 39, 3) := by decide +kernel
theorem dX8_delivers_16 : decode cX8_delivers 16 = .ok (.ifCond .ne 5, 3) := by decide +kernel
theorem dX8_delivers_19 : decode cX8_delivers 19 = .ok (.iconst (-1), 1) := by decide +kernel
theorem dX8_delivers_20 : decode cX8_delivers 20 = .ok (.ireturn, 1) := by decide +kernel
theorem dX8_delivers_21 : decode cX8_delivers 21 = .ok (.aload_n 0, 1) := by decide +kernel
theorem dX8_delivers_22 : decode cX8_delivers 22 = .ok (.getfield 7, 3) := by decide +kernel
theorem dX8_delivers_25 : decode cX8_delivers 25 = .ok (.iload_n 1, 1) := by decide +kernel
theorem dX8_delivers_26 : decode cX8_delivers 26 = .ok (.iload_n 2, 1) := by decide +kernel
theorem dX8_delivers_27 : decode cX8_delivers 27 = .ok (.invokestatic 87, 3) := by decide +kernel
theorem dX8_delivers_30 : decode cX8_delivers 30 = .ok (.iaload, 1) := by decide +kernel
theorem dX8_delivers_31 : decode cX8_delivers 31 = .ok (.istore 4, 2) := by decide +kernel
theorem dX8_delivers_33 : decode cX8_delivers 33 = .ok (.iload 4, 2) := by decide +kernel
theorem dX8_delivers_35 : decode cX8_delivers 35 = .ok (.ifCond .ne 6, 3) := by decide +kernel
theorem dX8_delivers_38 : decode cX8_delivers 38 = .ok (.bipush (-2), 2) := by decide +kernel
theorem dX8_delivers_40 : decode cX8_delivers 40 = .ok (.ireturn, 1) := by decide +kernel
theorem dX8_delivers_41 : decode cX8_delivers 41 = .ok (.aload_n 0, 1) := by decide +kernel
theorem dX8_delivers_42 : decode cX8_delivers 42 = .ok (.getfield 7, 3) := by decide +kernel
theorem dX8_delivers_45 : decode cX8_delivers 45 = .ok (.bipush 7, 2) := by decide +kernel
theorem dX8_delivers_47 : decode cX8_delivers 47 = .ok (.iload_n 1, 1) := by decide +kernel
theorem dX8_delivers_48 : decode cX8_delivers 48 = .ok (.iadd, 1) := by decide +kernel
theorem dX8_delivers_49 : decode cX8_delivers 49 = .ok (.iaload, 1) := by decide +kernel
theorem dX8_delivers_50 : decode cX8_delivers 50 = .ok (.istore 5, 2) := by decide +kernel
theorem dX8_delivers_52 : decode cX8_delivers 52 = .ok (.iconst 0, 1) := by decide +kernel
theorem dX8_delivers_53 : decode cX8_delivers 53 = .ok (.istore 6, 2) := by decide +kernel
theorem dX8_delivers_55 : decode cX8_delivers 55 = .ok (.iconst 0, 1) := by decide +kernel
theorem dX8_delivers_56 : decode cX8_delivers 56 = .ok (.istore 7, 2) := by decide +kernel
theorem dX8_delivers_58 : decode cX8_delivers 58 = .ok (.iload 7, 2) := by decide +kernel
theorem dX8_delivers_60 : decode cX8_delivers 60 = .ok (.iload_n 3, 1) := by decide +kernel
theorem dX8_delivers_61 : decode cX8_delivers 61 = .ok (.if_icmp .ge 67, 3) := by decide +kernel
theorem dX8_delivers_64 : decode cX8_delivers 64 = .ok (.iload 7, 2) := by decide +kernel
theorem dX8_delivers_66 : decode cX8_delivers 66 = .ok (.iload 4, 2) := by decide +kernel
theorem dX8_delivers_68 : decode cX8_delivers 68 = .ok (.if_icmp .ge 60, 3) := by decide +kernel
theorem dX8_delivers_71 : decode cX8_delivers 71 = .ok (.aload_n 0, 1) := by decide +kernel
theorem dX8_delivers_72 : decode cX8_delivers 72 = .ok (.iload_n 1, 1) := by decide +kernel
theorem dX8_delivers_73 : decode cX8_delivers 73 = .ok (.iload_n 2, 1) := by decide +kernel
theorem dX8_delivers_74 : decode cX8_delivers 74 = .ok (.invokevirtual 110, 3) := by decide +kernel
theorem dX8_delivers_77 : decode cX8_delivers 77 = .ok (.istore 8, 2) := by decide +kernel
theorem dX8_delivers_79 : decode cX8_delivers 79 = .ok (.iload_n 2, 1) := by decide +kernel
theorem dX8_delivers_80 : decode cX8_delivers 80 = .ok (.ifCond .ne 15, 3) := by decide +kernel
theorem dX8_delivers_83 : decode cX8_delivers 83 = .ok (.aload_n 0, 1) := by decide +kernel
theorem dX8_delivers_84 : decode cX8_delivers 84 = .ok (.iload 5, 2) := by decide +kernel
theorem dX8_delivers_86 : decode cX8_delivers 86 = .ok (.iload 8, 2) := by decide +kernel
theorem dX8_delivers_88 : decode cX8_delivers 88 = .ok (.iload_n 1, 1) := by decide +kernel
theorem dX8_delivers_89 : decode cX8_delivers 89 = .ok (.invokevirtual 113, 3) := by decide +kernel
theorem dX8_delivers_92 : decode cX8_delivers 92 = .ok (.goto 12, 3) := by decide +kernel
theorem dX8_delivers_95 : decode cX8_delivers 95 = .ok (.aload_n 0, 1) := by decide +kernel
theorem dX8_delivers_96 : decode cX8_delivers 96 = .ok (.iload_n 1, 1) := by decide +kernel
theorem dX8_delivers_97 : decode cX8_delivers 97 = .ok (.iload 8, 2) := by decide +kernel
theorem dX8_delivers_99 : decode cX8_delivers 99 = .ok (.iload 5, 2) := by decide +kernel
theorem dX8_delivers_101 : decode cX8_delivers 101 = .ok (.invokevirtual 113, 3) := by decide +kernel
theorem dX8_delivers_104 : decode cX8_delivers 104 = .ok (.istore 9, 2) := by decide +kernel
theorem dX8_delivers_106 : decode cX8_delivers 106 = .ok (.iload 6, 2) := by decide +kernel
theorem dX8_delivers_108 : decode cX8_delivers 108 = .ok (.iload 9, 2) := by decide +kernel
theorem dX8_delivers_110 : decode cX8_delivers 110 = .ok (.iconst 1, 1) := by decide +kernel
theorem dX8_delivers_111 : decode cX8_delivers 111 = .ok (.if_icmp .ne 7, 3) := by decide +kernel
theorem dX8_delivers_114 : decode cX8_delivers 114 = .ok (.iconst 1, 1) := by decide +kernel
theorem dX8_delivers_115 : decode cX8_delivers 115 = .ok (.goto 4, 3) := by decide +kernel
theorem dX8_delivers_118 : decode cX8_delivers 118 = .ok (.iconst 0, 1) := by decide +kernel
theorem dX8_delivers_119 : decode cX8_delivers 119 = .ok (.iadd, 1) := by decide +kernel
theorem dX8_delivers_120 : decode cX8_delivers 120 = .ok (.istore 6, 2) := by decide +kernel
theorem dX8_delivers_122 : decode cX8_delivers 122 = .ok (.iinc 7 1, 3) := by decide +kernel
theorem dX8_delivers_125 : decode cX8_delivers 125 = .ok (.goto (-67), 3) := by decide +kernel
theorem dX8_delivers_128 : decode cX8_delivers 128 = .ok (.iload 6, 2) := by decide +kernel
theorem dX8_delivers_130 : decode cX8_delivers 130 = .ok (.ireturn, 1) := by decide +kernel
set_option maxRecDepth 20000 in
theorem ggX8_loses_X8_isQueue : GoodIn wsX8_loses wsX8_isQueue := goodIn_r _ [6, 7, 8, 9, 5, 10, 1, 11, 12, 13, 21, 22, 23, 24, 25, 26, 27, 28, 29, 30, 31, 32, 33, 34] (by decide +kernel) (by decide +kernel)
set_option maxRecDepth 20000 in
theorem gX8_loses_X8_isQueue : GoodIn wsX8_loses (wsV RX8 107 RX8 yX8_isQueue wsX8_isQueue) := goodIn_app (goodIn_of _ (by decide +kernel)) ggX8_loses_X8_isQueue
set_option maxRecDepth 20000 in
theorem ggX8_loses_X8_in : GoodIn wsX8_loses wsX8_in := goodIn_r _ [13] (by decide +kernel) (by decide +kernel)
set_option maxRecDepth 20000 in
theorem gX8_loses_X8_in : GoodIn wsX8_loses (va_wsS RX8 39 yX8_in wsX8_in) := goodIn_app (goodIn_of _ (by decide +kernel)) ggX8_loses_X8_in
set_option maxRecDepth 20000 in
theorem ggX8_loses_X8_queueOf : GoodIn wsX8_loses wsX8_queueOf := goodIn_r _ [16] (by decide +kernel) (by decide +kernel)
set_option maxRecDepth 20000 in
theorem gX8_loses_X8_queueOf : GoodIn wsX8_loses (va_wsS RX8 87 yX8_queueOf wsX8_queueOf) := goodIn_app (goodIn_of _ (by decide +kernel)) ggX8_loses_X8_queueOf
set_option maxRecDepth 20000 in
theorem ggX8_loses_X8_takes : GoodIn wsX8_loses wsX8_takes := goodIn_r _ [20, 1, 14, 15, 5, 16, 21, 22, 23, 24, 25, 26, 27, 28, 29, 30, 31, 32, 33, 34] (by decide +kernel) (by decide +kernel)
set_option maxRecDepth 20000 in
theorem gX8_loses_X8_takes : GoodIn wsX8_loses (wsV RX8 110 RX8 yX8_takes wsX8_takes) := goodIn_app (goodIn_of _ (by decide +kernel)) ggX8_loses_X8_takes
theorem dX8_loses_0 : decode cX8_loses 0 = .ok (.aload_n 0, 1) := by decide +kernel
theorem dX8_loses_1 : decode cX8_loses 1 = .ok (.iload_n 1, 1) := by decide +kernel
theorem dX8_loses_2 : decode cX8_loses 2 = .ok (.iload_n 2, 1) := by decide +kernel
theorem dX8_loses_3 : decode cX8_loses 3 = .ok (.invokevirtual 107, 3) := by decide +kernel
theorem dX8_loses_6 : decode cX8_loses 6 = .ok (.ifCond .eq 13, 3) := by decide +kernel
theorem dX8_loses_9 : decode cX8_loses 9 = .ok (.iload_n 3, 1) := by decide +kernel
theorem dX8_loses_10 : decode cX8_loses 10 = .ok (.iconst 1, 1) := by decide +kernel
theorem dX8_loses_11 : decode cX8_loses 11 = .ok (.bipush 9, 2) := by decide +kernel
theorem dX8_loses_13 : decode cX8_loses 13 = .ok (.invokestatic 39, 3) := by decide +kernel
theorem dX8_loses_16 : decode cX8_loses 16 = .ok (.ifCond .ne 5, 3) := by decide +kernel
theorem dX8_loses_19 : decode cX8_loses 19 = .ok (.iconst (-1), 1) := by decide +kernel
theorem dX8_loses_20 : decode cX8_loses 20 = .ok (.ireturn, 1) := by decide +kernel
theorem dX8_loses_21 : decode cX8_loses 21 = .ok (.aload_n 0, 1) := by decide +kernel
theorem dX8_loses_22 : decode cX8_loses 22 = .ok (.getfield 7, 3) := by decide +kernel
theorem dX8_loses_25 : decode cX8_loses 25 = .ok (.iload_n 1, 1) := by decide +kernel
theorem dX8_loses_26 : decode cX8_loses 26 = .ok (.iload_n 2, 1) := by decide +kernel
theorem dX8_loses_27 : decode cX8_loses 27 = .ok (.invokestatic 87, 3) := by decide +kernel
theorem dX8_loses_30 : decode cX8_loses 30 = .ok (.iaload, 1) := by decide +kernel
theorem dX8_loses_31 : decode cX8_loses 31 = .ok (.istore 4, 2) := by decide +kernel
theorem dX8_loses_33 : decode cX8_loses 33 = .ok (.iload 4, 2) := by decide +kernel
theorem dX8_loses_35 : decode cX8_loses 35 = .ok (.ifCond .ne 6, 3) := by decide +kernel
theorem dX8_loses_38 : decode cX8_loses 38 = .ok (.bipush (-2), 2) := by decide +kernel
theorem dX8_loses_40 : decode cX8_loses 40 = .ok (.ireturn, 1) := by decide +kernel
theorem dX8_loses_41 : decode cX8_loses 41 = .ok (.iconst 0, 1) := by decide +kernel
theorem dX8_loses_42 : decode cX8_loses 42 = .ok (.istore 5, 2) := by decide +kernel
theorem dX8_loses_44 : decode cX8_loses 44 = .ok (.iload 5, 2) := by decide +kernel
theorem dX8_loses_46 : decode cX8_loses 46 = .ok (.iload_n 3, 1) := by decide +kernel
theorem dX8_loses_47 : decode cX8_loses 47 = .ok (.if_icmp .ge 43, 3) := by decide +kernel
theorem dX8_loses_50 : decode cX8_loses 50 = .ok (.iload 5, 2) := by decide +kernel
theorem dX8_loses_52 : decode cX8_loses 52 = .ok (.iload 4, 2) := by decide +kernel
theorem dX8_loses_54 : decode cX8_loses 54 = .ok (.if_icmp .ge 36, 3) := by decide +kernel
theorem dX8_loses_57 : decode cX8_loses 57 = .ok (.aload_n 0, 1) := by decide +kernel
theorem dX8_loses_58 : decode cX8_loses 58 = .ok (.iload_n 1, 1) := by decide +kernel
theorem dX8_loses_59 : decode cX8_loses 59 = .ok (.iload_n 2, 1) := by decide +kernel
theorem dX8_loses_60 : decode cX8_loses 60 = .ok (.invokevirtual 110, 3) := by decide +kernel
theorem dX8_loses_63 : decode cX8_loses 63 = .ok (.istore 6, 2) := by decide +kernel
theorem dX8_loses_65 : decode cX8_loses 65 = .ok (.aload_n 0, 1) := by decide +kernel
theorem dX8_loses_66 : decode cX8_loses 66 = .ok (.getfield 7, 3) := by decide +kernel
theorem dX8_loses_69 : decode cX8_loses 69 = .ok (.iconst 5, 1) := by decide +kernel
theorem dX8_loses_70 : decode cX8_loses 70 = .ok (.dup2, 1) := by decide +kernel
theorem dX8_loses_71 : decode cX8_loses 71 = .ok (.iaload, 1) := by decide +kernel
theorem dX8_loses_72 : decode cX8_loses 72 = .ok (.iload 6, 2) := by decide +kernel
theorem dX8_loses_74 : decode cX8_loses 74 = .ok (.ifCond .le 7, 3) := by decide +kernel
theorem dX8_loses_77 : decode cX8_loses 77 = .ok (.iconst 1, 1) := by decide +kernel
theorem dX8_loses_78 : decode cX8_loses 78 = .ok (.goto 4, 3) := by decide +kernel
theorem dX8_loses_81 : decode cX8_loses 81 = .ok (.iconst 0, 1) := by decide +kernel
theorem dX8_loses_82 : decode cX8_loses 82 = .ok (.iadd, 1) := by decide +kernel
theorem dX8_loses_83 : decode cX8_loses 83 = .ok (.iastore, 1) := by decide +kernel
theorem dX8_loses_84 : decode cX8_loses 84 = .ok (.iinc 5 1, 3) := by decide +kernel
theorem dX8_loses_87 : decode cX8_loses 87 = .ok (.goto (-43), 3) := by decide +kernel
theorem dX8_loses_90 : decode cX8_loses 90 = .ok (.iload 5, 2) := by decide +kernel
theorem dX8_loses_92 : decode cX8_loses 92 = .ok (.ireturn, 1) := by decide +kernel
set_option maxRecDepth 20000 in
theorem ggX8_fetches_X8_boundOf : GoodIn wsX8_fetches wsX8_boundOf := goodIn_r _ [8, 9, 10, 11, 7, 12, 2, 53, 54, 55, 56, 57, 58, 59, 60, 61, 62, 63, 64, 65, 66] (by decide +kernel) (by decide +kernel)
set_option maxRecDepth 20000 in
theorem gX8_fetches_X8_boundOf : GoodIn wsX8_fetches (wsV RX8 75 RX8 yX8_boundOf wsX8_boundOf) := goodIn_app (goodIn_of _ (by decide +kernel)) ggX8_fetches_X8_boundOf
set_option maxRecDepth 20000 in
theorem ggX8_fetches_X8_knows : GoodIn wsX8_fetches wsX8_knows := goodIn_r _ [12, 2, 53, 54, 55, 56, 57, 58, 59, 60, 61, 62, 63, 64, 65, 66] (by decide +kernel) (by decide +kernel)
set_option maxRecDepth 20000 in
theorem gX8_fetches_X8_knows : GoodIn wsX8_fetches (wsV RX8 53 RX8 yX8_knows wsX8_knows) := goodIn_app (goodIn_of _ (by decide +kernel)) ggX8_fetches_X8_knows
set_option maxRecDepth 20000 in
theorem ggX8_fetches_X8_arrives : GoodIn wsX8_fetches wsX8_arrives := goodIn_r _ [16, 2, 9, 10, 11, 7, 12, 17, 18, 19, 20, 21, 22, 23, 24, 25, 26, 27, 28, 29, 30, 31, 32, 33, 34, 35, 36, 37, 38, 39, 40, 41, 42, 43, 44, 45, 46, 47, 48, 49, 50, 51, 52, 53, 54, 55, 56, 57, 58, 59, 60, 61, 62, 63, 64, 65, 66] (by decide +kernel) (by decide +kernel)
set_option maxRecDepth 20000 in
theorem gX8_fetches_X8_arrives : GoodIn wsX8_fetches (wsV RX8 113 RX8 yX8_arrives wsX8_arrives) := goodIn_app (goodIn_of _ (by decide +kernel)) ggX8_fetches_X8_arrives
theorem dX8_fetches_0 : decode cX8_fetches 0 = .ok (.iconst 0, 1) := by decide +kernel
theorem dX8_fetches_1 : decode cX8_fetches 1 = .ok (.istore_n 2, 1) := by decide +kernel
theorem dX8_fetches_2 : decode cX8_fetches 2 = .ok (.iconst 0, 1) := by decide +kernel
theorem dX8_fetches_3 : decode cX8_fetches 3 = .ok (.istore_n 3, 1) := by decide +kernel
theorem dX8_fetches_4 : decode cX8_fetches 4 = .ok (.iload_n 3, 1) := by decide +kernel
theorem dX8_fetches_5 : decode cX8_fetches 5 = .ok (.iconst 4, 1) := by decide +kernel
theorem dX8_fetches_6 : decode cX8_fetches 6 = .ok (.if_icmp .ge 60, 3) := by decide +kernel
theorem dX8_fetches_9 : decode cX8_fetches 9 = .ok (.aload_n 0, 1) := by decide +kernel
theorem dX8_fetches_10 : decode cX8_fetches 10 = .ok (.iload_n 1, 1) := by decide +kernel
theorem dX8_fetches_11 : decode cX8_fetches 11 = .ok (.iload_n 3, 1) := by decide +kernel
theorem dX8_fetches_12 : decode cX8_fetches 12 = .ok (.invokevirtual 75, 3) := by decide +kernel
theorem dX8_fetches_15 : decode cX8_fetches 15 = .ok (.istore 4, 2) := by decide +kernel
theorem dX8_fetches_17 : decode cX8_fetches 17 = .ok (.iconst 1, 1) := by decide +kernel
theorem dX8_fetches_18 : decode cX8_fetches 18 = .ok (.istore 5, 2) := by decide +kernel
theorem dX8_fetches_20 : decode cX8_fetches 20 = .ok (.iload 5, 2) := by decide +kernel
theorem dX8_fetches_22 : decode cX8_fetches 22 = .ok (.iload 4, 2) := by decide +kernel
theorem dX8_fetches_24 : decode cX8_fetches 24 = .ok (.if_icmp .ge 36, 3) := by decide +kernel
theorem dX8_fetches_27 : decode cX8_fetches 27 = .ok (.aload_n 0, 1) := by decide +kernel
theorem dX8_fetches_28 : decode cX8_fetches 28 = .ok (.iload_n 1, 1) := by decide +kernel
theorem dX8_fetches_29 : decode cX8_fetches 29 = .ok (.iload_n 3, 1) := by decide +kernel
theorem dX8_fetches_30 : decode cX8_fetches 30 = .ok (.iload 5, 2) := by decide +kernel
theorem dX8_fetches_32 : decode cX8_fetches 32 = .ok (.invokevirtual 53, 3) := by decide +kernel
theorem dX8_fetches_35 : decode cX8_fetches 35 = .ok (.ifCond .ne 19, 3) := by decide +kernel
theorem dX8_fetches_38 : decode cX8_fetches 38 = .ok (.aload_n 0, 1) := by decide +kernel
theorem dX8_fetches_39 : decode cX8_fetches 39 = .ok (.getfield 25, 3) := by decide +kernel
theorem dX8_fetches_42 : decode cX8_fetches 42 = .ok (.iload_n 2, 1) := by decide +kernel
theorem dX8_fetches_43 : decode cX8_fetches 43 = .ok (.bipush 100, 2) := by decide +kernel
theorem dX8_fetches_45 : decode cX8_fetches 45 = .ok (.iload_n 3, 1) := by decide +kernel
theorem dX8_fetches_46 : decode cX8_fetches 46 = .ok (.imul, 1) := by decide +kernel
theorem dX8_fetches_47 : decode cX8_fetches 47 = .ok (.iload 5, 2) := by decide +kernel
theorem dX8_fetches_49 : decode cX8_fetches 49 = .ok (.iadd, 1) := by decide +kernel
theorem dX8_fetches_50 : decode cX8_fetches 50 = .ok (.iastore, 1) := by decide +kernel
theorem dX8_fetches_51 : decode cX8_fetches 51 = .ok (.iinc 2 1, 3) := by decide +kernel
theorem dX8_fetches_54 : decode cX8_fetches 54 = .ok (.iinc 5 1, 3) := by decide +kernel
theorem dX8_fetches_57 : decode cX8_fetches 57 = .ok (.goto (-37), 3) := by decide +kernel
theorem dX8_fetches_60 : decode cX8_fetches 60 = .ok (.iinc 3 1, 3) := by decide +kernel
theorem dX8_fetches_63 : decode cX8_fetches 63 = .ok (.goto (-59), 3) := by decide +kernel
theorem dX8_fetches_66 : decode cX8_fetches 66 = .ok (.iconst 0, 1) := by decide +kernel
theorem dX8_fetches_67 : decode cX8_fetches 67 = .ok (.istore_n 3, 1) := by decide +kernel
theorem dX8_fetches_68 : decode cX8_fetches 68 = .ok (.aload_n 0, 1) := by decide +kernel
theorem dX8_fetches_69 : decode cX8_fetches 69 = .ok (.getfield 7, 3) := by decide +kernel
theorem dX8_fetches_72 : decode cX8_fetches 72 = .ok (.bipush 7, 2) := by decide +kernel
theorem dX8_fetches_74 : decode cX8_fetches 74 = .ok (.iload_n 1, 1) := by decide +kernel
theorem dX8_fetches_75 : decode cX8_fetches 75 = .ok (.iadd, 1) := by decide +kernel
theorem dX8_fetches_76 : decode cX8_fetches 76 = .ok (.iaload, 1) := by decide +kernel
theorem dX8_fetches_77 : decode cX8_fetches 77 = .ok (.istore 4, 2) := by decide +kernel
theorem dX8_fetches_79 : decode cX8_fetches 79 = .ok (.iconst 0, 1) := by decide +kernel
theorem dX8_fetches_80 : decode cX8_fetches 80 = .ok (.istore 5, 2) := by decide +kernel
theorem dX8_fetches_82 : decode cX8_fetches 82 = .ok (.iload 5, 2) := by decide +kernel
theorem dX8_fetches_84 : decode cX8_fetches 84 = .ok (.iload_n 2, 1) := by decide +kernel
theorem dX8_fetches_85 : decode cX8_fetches 85 = .ok (.if_icmp .ge 87, 3) := by decide +kernel
theorem dX8_fetches_88 : decode cX8_fetches 88 = .ok (.aload_n 0, 1) := by decide +kernel
theorem dX8_fetches_89 : decode cX8_fetches 89 = .ok (.iload 4, 2) := by decide +kernel
theorem dX8_fetches_91 : decode cX8_fetches 91 = .ok (.aload_n 0, 1) := by decide +kernel
theorem dX8_fetches_92 : decode cX8_fetches 92 = .ok (.getfield 25, 3) := by decide +kernel
theorem dX8_fetches_95 : decode cX8_fetches 95 = .ok (.iload 5, 2) := by decide +kernel
theorem dX8_fetches_97 : decode cX8_fetches 97 = .ok (.iaload, 1) := by decide +kernel
theorem dX8_fetches_98 : decode cX8_fetches 98 = .ok (.bipush 100, 2) := by decide +kernel
theorem dX8_fetches_100 : decode cX8_fetches 100 = .ok (.idiv, 1) := by decide +kernel
theorem dX8_fetches_101 : decode cX8_fetches 101 = .ok (.aload_n 0, 1) := by decide +kernel
theorem dX8_fetches_102 : decode cX8_fetches 102 = .ok (.getfield 25, 3) := by decide +kernel
theorem dX8_fetches_105 : decode cX8_fetches 105 = .ok (.iload 5, 2) := by decide +kernel
theorem dX8_fetches_107 : decode cX8_fetches 107 = .ok (.iaload, 1) := by decide +kernel
theorem dX8_fetches_108 : decode cX8_fetches 108 = .ok (.bipush 100, 2) := by decide +kernel
theorem dX8_fetches_110 : decode cX8_fetches 110 = .ok (.irem, 1) := by decide +kernel
theorem dX8_fetches_111 : decode cX8_fetches 111 = .ok (.invokevirtual 53, 3) := by decide +kernel
theorem dX8_fetches_114 : decode cX8_fetches 114 = .ok (.ifCond .eq 52, 3) := by decide +kernel
theorem dX8_fetches_117 : decode cX8_fetches 117 = .ok (.aload_n 0, 1) := by decide +kernel
theorem dX8_fetches_118 : decode cX8_fetches 118 = .ok (.iload_n 1, 1) := by decide +kernel
theorem dX8_fetches_119 : decode cX8_fetches 119 = .ok (.aload_n 0, 1) := by decide +kernel
theorem dX8_fetches_120 : decode cX8_fetches 120 = .ok (.getfield 25, 3) := by decide +kernel
theorem dX8_fetches_123 : decode cX8_fetches 123 = .ok (.iload 5, 2) := by decide +kernel
theorem dX8_fetches_125 : decode cX8_fetches 125 = .ok (.iaload, 1) := by decide +kernel
theorem dX8_fetches_126 : decode cX8_fetches 126 = .ok (.iload 4, 2) := by decide +kernel
theorem dX8_fetches_128 : decode cX8_fetches 128 = .ok (.invokevirtual 113, 3) := by decide +kernel
theorem dX8_fetches_131 : decode cX8_fetches 131 = .ok (.istore 6, 2) := by decide +kernel
theorem dX8_fetches_133 : decode cX8_fetches 133 = .ok (.iload_n 3, 1) := by decide +kernel
theorem dX8_fetches_134 : decode cX8_fetches 134 = .ok (.iload 6, 2) := by decide +kernel
theorem dX8_fetches_136 : decode cX8_fetches 136 = .ok (.iconst 1, 1) := by decide +kernel
theorem dX8_fetches_137 : decode cX8_fetches 137 = .ok (.if_icmp .ne 7, 3) := by decide +kernel
theorem dX8_fetches_140 : decode cX8_fetches 140 = .ok (.iconst 1, 1) := by decide +kernel
theorem dX8_fetches_141 : decode cX8_fetches 141 = .ok (.goto 4, 3) := by decide +kernel
theorem dX8_fetches_144 : decode cX8_fetches 144 = .ok (.iconst 0, 1) := by decide +kernel
theorem dX8_fetches_145 : decode cX8_fetches 145 = .ok (.iadd, 1) := by decide +kernel
theorem dX8_fetches_146 : decode cX8_fetches 146 = .ok (.istore_n 3, 1) := by decide +kernel
theorem dX8_fetches_147 : decode cX8_fetches 147 = .ok (.aload_n 0, 1) := by decide +kernel
theorem dX8_fetches_148 : decode cX8_fetches 148 = .ok (.dup, 1) := by decide +kernel
theorem dX8_fetches_149 : decode cX8_fetches 149 = .ok (.getfield 116, 3) := by decide +kernel
theorem dX8_fetches_152 : decode cX8_fetches 152 = .ok (.iload 6, 2) := by decide +kernel
theorem dX8_fetches_154 : decode cX8_fetches 154 = .ok (.ifCond .eq 7, 3) := by decide +kernel
theorem dX8_fetches_157 : decode cX8_fetches 157 = .ok (.iconst 1, 1) := by decide +kernel
theorem dX8_fetches_158 : decode cX8_fetches 158 = .ok (.goto 4, 3) := by decide +kernel
theorem dX8_fetches_161 : decode cX8_fetches 161 = .ok (.iconst 0, 1) := by decide +kernel
theorem dX8_fetches_162 : decode cX8_fetches 162 = .ok (.iadd, 1) := by decide +kernel
theorem dX8_fetches_163 : decode cX8_fetches 163 = .ok (.putfield 116, 3) := by decide +kernel
theorem dX8_fetches_166 : decode cX8_fetches 166 = .ok (.iinc 5 1, 3) := by decide +kernel
theorem dX8_fetches_169 : decode cX8_fetches 169 = .ok (.goto (-87), 3) := by decide +kernel
theorem dX8_fetches_172 : decode cX8_fetches 172 = .ok (.iload_n 3, 1) := by decide +kernel
theorem dX8_fetches_173 : decode cX8_fetches 173 = .ok (.ireturn, 1) := by decide +kernel
set_option maxRecDepth 20000 in
theorem ggX8_asks_X8_isChild : GoodIn wsX8_asks wsX8_isChild := goodIn_r _ [7, 2, 8, 9, 6, 10, 68, 69, 70, 71, 72, 73, 74, 75, 76, 77, 78, 79, 80, 81] (by decide +kernel) (by decide +kernel)
set_option maxRecDepth 20000 in
theorem gX8_asks_X8_isChild : GoodIn wsX8_asks (wsV RX8 104 RX8 yX8_isChild wsX8_isChild) := goodIn_app (goodIn_of _ (by decide +kernel)) ggX8_asks_X8_isChild
set_option maxRecDepth 20000 in
theorem ggX8_asks_X8_depth : GoodIn wsX8_asks wsX8_depth := goodIn_r _ [14, 2, 68, 69, 70, 71, 72, 73, 74, 75, 76, 77, 78, 79, 80, 81] (by decide +kernel) (by decide +kernel)
set_option maxRecDepth 20000 in
theorem gX8_asks_X8_depth : GoodIn wsX8_asks (wsV RX8 78 RX8 yX8_depth wsX8_depth) := goodIn_app (goodIn_of _ (by decide +kernel)) ggX8_asks_X8_depth
set_option maxRecDepth 20000 in
theorem ggX8_asks_X8_fetches : GoodIn wsX8_asks wsX8_fetches := goodIn_r _ [18, 19, 2, 1, 20, 21, 22, 6, 23, 24, 25, 26, 27, 28, 29, 30, 31, 32, 33, 34, 35, 36, 37, 38, 39, 40, 41, 42, 43, 44, 45, 46, 47, 48, 49, 50, 51, 52, 53, 54, 55, 56, 57, 58, 59, 60, 61, 62, 63, 64, 65, 66, 67, 68, 69, 70, 71, 72, 73, 74, 75, 76, 77, 78, 79, 80, 81] (by decide +kernel) (by decide +kernel)
set_option maxRecDepth 20000 in
theorem gX8_asks_X8_fetches : GoodIn wsX8_asks (wsV RX8 119 RX8 yX8_fetches wsX8_fetches) := goodIn_app (goodIn_of _ (by decide +kernel)) ggX8_asks_X8_fetches
theorem dX8_asks_0 : decode cX8_asks 0 = .ok (.aload_n 0, 1) := by decide +kernel
theorem dX8_asks_1 : decode cX8_asks 1 = .ok (.iload_n 1, 1) := by decide +kernel
theorem dX8_asks_2 : decode cX8_asks 2 = .ok (.invokevirtual 104, 3) := by decide +kernel
theorem dX8_asks_5 : decode cX8_asks 5 = .ok (.ifCond .ne 5, 3) := by decide +kernel
theorem dX8_asks_8 : decode cX8_asks 8 = .ok (.iconst (-1), 1) := by decide +kernel
theorem dX8_asks_9 : decode cX8_asks 9 = .ok (.ireturn, 1) := by decide +kernel
theorem dX8_asks_10 : decode cX8_asks 10 = .ok (.aload_n 0, 1) := by decide +kernel
theorem dX8_asks_11 : decode cX8_asks 11 = .ok (.iconst 0, 1) := by decide +kernel
theorem dX8_asks_12 : decode cX8_asks 12 = .ok (.putfield 116, 3) := by decide +kernel
theorem dX8_asks_15 : decode cX8_asks 15 = .ok (.iconst 0, 1) := by decide +kernel
theorem dX8_asks_16 : decode cX8_asks 16 = .ok (.istore_n 2, 1) := by decide +kernel
theorem dX8_asks_17 : decode cX8_asks 17 = .ok (.iconst 1, 1) := by decide +kernel
theorem dX8_asks_18 : decode cX8_asks 18 = .ok (.istore_n 3, 1) := by decide +kernel
theorem dX8_asks_19 : decode cX8_asks 19 = .ok (.iload_n 3, 1) := by decide +kernel
theorem dX8_asks_20 : decode cX8_asks 20 = .ok (.aload_n 0, 1) := by decide +kernel
theorem dX8_asks_21 : decode cX8_asks 21 = .ok (.iload_n 1, 1) := by decide +kernel
theorem dX8_asks_22 : decode cX8_asks 22 = .ok (.invokevirtual 78, 3) := by decide +kernel
theorem dX8_asks_25 : decode cX8_asks 25 = .ok (.if_icmp .gt 44, 3) := by decide +kernel
theorem dX8_asks_28 : decode cX8_asks 28 = .ok (.iload_n 1, 1) := by decide +kernel
theorem dX8_asks_29 : decode cX8_asks 29 = .ok (.istore 4, 2) := by decide +kernel
theorem dX8_asks_31 : decode cX8_asks 31 = .ok (.aload_n 0, 1) := by decide +kernel
theorem dX8_asks_32 : decode cX8_asks 32 = .ok (.iload 4, 2) := by decide +kernel
theorem dX8_asks_34 : decode cX8_asks 34 = .ok (.invokevirtual 78, 3) := by decide +kernel
theorem dX8_asks_37 : decode cX8_asks 37 = .ok (.iload_n 3, 1) := by decide +kernel
theorem dX8_asks_38 : decode cX8_asks 38 = .ok (.if_icmp .le 18, 3) := by decide +kernel
theorem dX8_asks_41 : decode cX8_asks 41 = .ok (.aload_n 0, 1) := by decide +kernel
theorem dX8_asks_42 : decode cX8_asks 42 = .ok (.getfield 7, 3) := by decide +kernel
theorem dX8_asks_45 : decode cX8_asks 45 = .ok (.bipush 7, 2) := by decide +kernel
theorem dX8_asks_47 : decode cX8_asks 47 = .ok (.iload 4, 2) := by decide +kernel
theorem dX8_asks_49 : decode cX8_asks 49 = .ok (.iadd, 1) := by decide +kernel
theorem dX8_asks_50 : decode cX8_asks 50 = .ok (.iaload, 1) := by decide +kernel
theorem dX8_asks_51 : decode cX8_asks 51 = .ok (.istore 4, 2) := by decide +kernel
theorem dX8_asks_53 : decode cX8_asks 53 = .ok (.goto (-22), 3) := by decide +kernel
theorem dX8_asks_56 : decode cX8_asks 56 = .ok (.aload_n 0, 1) := by decide +kernel
theorem dX8_asks_57 : decode cX8_asks 57 = .ok (.iload 4, 2) := by decide +kernel
theorem dX8_asks_59 : decode cX8_asks 59 = .ok (.invokevirtual 119, 3) := by decide +kernel
theorem dX8_asks_62 : decode cX8_asks 62 = .ok (.istore_n 2, 1) := by decide +kernel
theorem dX8_asks_63 : decode cX8_asks 63 = .ok (.iinc 3 1, 3) := by decide +kernel
theorem dX8_asks_66 : decode cX8_asks 66 = .ok (.goto (-47), 3) := by decide +kernel
theorem dX8_asks_69 : decode cX8_asks 69 = .ok (.aload_n 0, 1) := by decide +kernel
theorem dX8_asks_70 : decode cX8_asks 70 = .ok (.getfield 116, 3) := by decide +kernel
theorem dX8_asks_73 : decode cX8_asks 73 = .ok (.ifCond .ne 8, 3) := by decide +kernel
theorem dX8_asks_76 : decode cX8_asks 76 = .ok (.bipush (-9), 2) := by decide +kernel
theorem dX8_asks_78 : decode cX8_asks 78 = .ok (.goto 4, 3) := by decide +kernel
theorem dX8_asks_81 : decode cX8_asks 81 = .ok (.iload_n 2, 1) := by decide +kernel
theorem dX8_asks_82 : decode cX8_asks 82 = .ok (.ireturn, 1) := by decide +kernel
set_option maxRecDepth 20000 in
theorem ggX8_write_X8_hold : GoodIn wsX8_write wsX8_hold := goodIn_r _ [5, 6, 7, 60, 61, 62, 63, 64, 65, 66, 67, 68, 69, 70, 71, 72, 73] (by decide +kernel) (by decide +kernel)
set_option maxRecDepth 20000 in
theorem gX8_write_X8_hold : GoodIn wsX8_write (wsV RX8 50 RX8 yX8_hold wsX8_hold) := goodIn_app (goodIn_of _ (by decide +kernel)) ggX8_write_X8_hold
set_option maxRecDepth 20000 in
theorem ggX8_write_X8_makes : GoodIn wsX8_write wsX8_makes := goodIn_r _ [11, 7, 12, 13, 14, 4, 15, 16, 17, 18, 19, 20, 21, 22, 23, 24, 25, 26, 27, 28, 29, 30, 31, 32, 33, 34, 35, 36, 37, 38, 39, 40, 41, 42, 43, 44, 45, 46, 47, 48, 49, 60, 61, 62, 63, 64, 65, 66, 67, 68, 69, 70, 71, 72, 73] (by decide +kernel) (by decide +kernel)
set_option maxRecDepth 20000 in
theorem gX8_write_X8_makes : GoodIn wsX8_write (wsV RX8 122 RX8 yX8_makes wsX8_makes) := goodIn_app (goodIn_of _ (by decide +kernel)) ggX8_write_X8_makes
set_option maxRecDepth 20000 in
theorem ggX8_write_X8_closes : GoodIn wsX8_write wsX8_closes := goodIn_r _ [53, 54, 55, 56, 4, 57, 58, 59, 6, 60, 61, 62, 63, 64, 65, 66, 67, 68, 69, 70, 71, 72, 73] (by decide +kernel) (by decide +kernel)
set_option maxRecDepth 20000 in
theorem gX8_write_X8_closes : GoodIn wsX8_write (wsV RX8 125 RX8 yX8_closes wsX8_closes) := goodIn_app (goodIn_of _ (by decide +kernel)) ggX8_write_X8_closes
theorem dX8_write_0 : decode cX8_write 0 = .ok (.aload_n 0, 1) := by decide +kernel
theorem dX8_write_1 : decode cX8_write 1 = .ok (.invokevirtual 50, 3) := by decide +kernel
theorem dX8_write_4 : decode cX8_write 4 = .ok (.aload_n 0, 1) := by decide +kernel
theorem dX8_write_5 : decode cX8_write 5 = .ok (.aload_n 0, 1) := by decide +kernel
theorem dX8_write_6 : decode cX8_write 6 = .ok (.iload_n 1, 1) := by decide +kernel
theorem dX8_write_7 : decode cX8_write 7 = .ok (.invokevirtual 122, 3) := by decide +kernel
theorem dX8_write_10 : decode cX8_write 10 = .ok (.invokevirtual 125, 3) := by decide +kernel
theorem dX8_write_13 : decode cX8_write 13 = .ok (.ireturn, 1) := by decide +kernel
set_option maxRecDepth 20000 in
theorem ggX8_cause_X8_isUpdate : GoodIn wsX8_cause wsX8_isUpdate := goodIn_r _ [5, 6, 7, 8, 4, 9, 10, 11, 12, 17, 18, 19, 20, 21, 22, 23, 24, 25, 26, 27, 28, 29, 30] (by decide +kernel) (by decide +kernel)
set_option maxRecDepth 20000 in
theorem gX8_cause_X8_isUpdate : GoodIn wsX8_cause (wsV RX8 128 RX8 yX8_isUpdate wsX8_isUpdate) := goodIn_app (goodIn_of _ (by decide +kernel)) ggX8_cause_X8_isUpdate
set_option maxRecDepth 20000 in
theorem ggX8_cause_X8_isOrigin : GoodIn wsX8_cause wsX8_isOrigin := goodIn_r _ [9, 10, 11, 4, 12] (by decide +kernel) (by decide +kernel)
set_option maxRecDepth 20000 in
theorem gX8_cause_X8_isOrigin : GoodIn wsX8_cause (va_wsS RX8 43 yX8_isOrigin wsX8_isOrigin) := goodIn_app (goodIn_of _ (by decide +kernel)) ggX8_cause_X8_isOrigin
set_option maxRecDepth 20000 in
theorem ggX8_cause_X8_causeOf : GoodIn wsX8_cause wsX8_causeOf := goodIn_r _ [16, 6, 17, 18, 19, 20, 21, 22, 23, 24, 25, 26, 27, 28, 29, 30] (by decide +kernel) (by decide +kernel)
set_option maxRecDepth 20000 in
theorem gX8_cause_X8_causeOf : GoodIn wsX8_cause (wsV RX8 60 RX8 yX8_causeOf wsX8_causeOf) := goodIn_app (goodIn_of _ (by decide +kernel)) ggX8_cause_X8_causeOf
theorem dX8_cause_0 : decode cX8_cause 0 = .ok (.aload_n 0, 1) := by decide +kernel
theorem dX8_cause_1 : decode cX8_cause 1 = .ok (.iload_n 1, 1) := by decide +kernel
theorem dX8_cause_2 : decode cX8_cause 2 = .ok (.iload_n 2, 1) := by decide +kernel
theorem dX8_cause_3 : decode cX8_cause 3 = .ok (.invokevirtual 128, 3) := by decide +kernel
theorem dX8_cause_6 : decode cX8_cause 6 = .ok (.ifCond .eq 20, 3) := by decide +kernel
theorem dX8_cause_9 : decode cX8_cause 9 = .ok (.iload_n 3, 1) := by decide +kernel
theorem dX8_cause_10 : decode cX8_cause 10 = .ok (.invokestatic 43, 3) := by decide +kernel
theorem dX8_cause_13 : decode cX8_cause 13 = .ok (.ifCond .eq 13, 3) := by decide +kernel
theorem dX8_cause_16 : decode cX8_cause 16 = .ok (.aload_n 0, 1) := by decide +kernel
theorem dX8_cause_17 : decode cX8_cause 17 = .ok (.iload_n 1, 1) := by decide +kernel
theorem dX8_cause_18 : decode cX8_cause 18 = .ok (.iload_n 2, 1) := by decide +kernel
theorem dX8_cause_19 : decode cX8_cause 19 = .ok (.iload_n 3, 1) := by decide +kernel
theorem dX8_cause_20 : decode cX8_cause 20 = .ok (.invokevirtual 60, 3) := by decide +kernel
theorem dX8_cause_23 : decode cX8_cause 23 = .ok (.goto 4, 3) := by decide +kernel
theorem dX8_cause_26 : decode cX8_cause 26 = .ok (.iconst (-1), 1) := by decide +kernel
theorem dX8_cause_27 : decode cX8_cause 27 = .ok (.ireturn, 1) := by decide +kernel
set_option maxRecDepth 20000 in
theorem ggX8_deliver_X8_hold : GoodIn wsX8_deliver wsX8_hold := goodIn_r _ [5, 6, 7, 81, 82, 83, 84, 85, 86, 87, 88, 89, 90, 91, 92, 93, 94] (by decide +kernel) (by decide +kernel)
set_option maxRecDepth 20000 in
theorem gX8_deliver_X8_hold : GoodIn wsX8_deliver (wsV RX8 50 RX8 yX8_hold wsX8_hold) := goodIn_app (goodIn_of _ (by decide +kernel)) ggX8_deliver_X8_hold
set_option maxRecDepth 20000 in
theorem ggX8_deliver_X8_delivers : GoodIn wsX8_deliver wsX8_delivers := goodIn_r _ [11, 7, 12, 13, 14, 4, 15, 16, 17, 18, 19, 20, 21, 22, 23, 24, 25, 26, 27, 28, 29, 30, 31, 32, 33, 34, 35, 36, 37, 38, 39, 40, 41, 42, 43, 44, 45, 46, 47, 48, 49, 50, 51, 52, 53, 54, 55, 56, 57, 58, 59, 60, 61, 62, 63, 64, 65, 66, 67, 68, 69, 70, 81, 82, 83, 84, 85, 86, 87, 88, 89, 90, 91, 92, 93, 94] (by decide +kernel) (by decide +kernel)
set_option maxRecDepth 20000 in
theorem gX8_deliver_X8_delivers : GoodIn wsX8_deliver (wsV RX8 131 RX8 yX8_delivers wsX8_delivers) := goodIn_app (goodIn_of _ (by decide +kernel)) ggX8_deliver_X8_delivers
set_option maxRecDepth 20000 in
theorem ggX8_deliver_X8_closes : GoodIn wsX8_deliver wsX8_closes := goodIn_r _ [74, 75, 76, 77, 4, 78, 79, 80, 6, 81, 82, 83, 84, 85, 86, 87, 88, 89, 90, 91, 92, 93, 94] (by decide +kernel) (by decide +kernel)
set_option maxRecDepth 20000 in
theorem gX8_deliver_X8_closes : GoodIn wsX8_deliver (wsV RX8 125 RX8 yX8_closes wsX8_closes) := goodIn_app (goodIn_of _ (by decide +kernel)) ggX8_deliver_X8_closes
theorem dX8_deliver_0 : decode cX8_deliver 0 = .ok (.aload_n 0, 1) := by decide +kernel
theorem dX8_deliver_1 : decode cX8_deliver 1 = .ok (.invokevirtual 50, 3) := by decide +kernel
theorem dX8_deliver_4 : decode cX8_deliver 4 = .ok (.aload_n 0, 1) := by decide +kernel
theorem dX8_deliver_5 : decode cX8_deliver 5 = .ok (.aload_n 0, 1) := by decide +kernel
theorem dX8_deliver_6 : decode cX8_deliver 6 = .ok (.iload_n 1, 1) := by decide +kernel
theorem dX8_deliver_7 : decode cX8_deliver 7 = .ok (.iload_n 2, 1) := by decide +kernel
theorem dX8_deliver_8 : decode cX8_deliver 8 = .ok (.iload_n 3, 1) := by decide +kernel
theorem dX8_deliver_9 : decode cX8_deliver 9 = .ok (.invokevirtual 131, 3) := by decide +kernel
theorem dX8_deliver_12 : decode cX8_deliver 12 = .ok (.invokevirtual 125, 3) := by decide +kernel
theorem dX8_deliver_15 : decode cX8_deliver 15 = .ok (.ireturn, 1) := by decide +kernel
set_option maxRecDepth 20000 in
theorem ggX8_lose_X8_hold : GoodIn wsX8_lose wsX8_hold := goodIn_r _ [5, 6, 7, 40, 41, 42, 43, 44, 45, 46, 47, 48, 49, 50, 51, 52, 53] (by decide +kernel) (by decide +kernel)
set_option maxRecDepth 20000 in
theorem gX8_lose_X8_hold : GoodIn wsX8_lose (wsV RX8 50 RX8 yX8_hold wsX8_hold) := goodIn_app (goodIn_of _ (by decide +kernel)) ggX8_lose_X8_hold
set_option maxRecDepth 20000 in
theorem ggX8_lose_X8_loses : GoodIn wsX8_lose wsX8_loses := goodIn_r _ [11, 7, 12, 13, 14, 4, 15, 16, 17, 18, 19, 20, 21, 22, 23, 24, 25, 26, 27, 28, 29, 40, 41, 42, 43, 44, 45, 46, 47, 48, 49, 50, 51, 52, 53] (by decide +kernel) (by decide +kernel)
set_option maxRecDepth 20000 in
theorem gX8_lose_X8_loses : GoodIn wsX8_lose (wsV RX8 134 RX8 yX8_loses wsX8_loses) := goodIn_app (goodIn_of _ (by decide +kernel)) ggX8_lose_X8_loses
set_option maxRecDepth 20000 in
theorem ggX8_lose_X8_closes : GoodIn wsX8_lose wsX8_closes := goodIn_r _ [33, 34, 35, 36, 4, 37, 38, 39, 6, 40, 41, 42, 43, 44, 45, 46, 47, 48, 49, 50, 51, 52, 53] (by decide +kernel) (by decide +kernel)
set_option maxRecDepth 20000 in
theorem gX8_lose_X8_closes : GoodIn wsX8_lose (wsV RX8 125 RX8 yX8_closes wsX8_closes) := goodIn_app (goodIn_of _ (by decide +kernel)) ggX8_lose_X8_closes
theorem dX8_lose_0 : decode cX8_lose 0 = .ok (.aload_n 0, 1) := by decide +kernel
theorem dX8_lose_1 : decode cX8_lose 1 = .ok (.invokevirtual 50, 3) := by decide +kernel
theorem dX8_lose_4 : decode cX8_lose 4 = .ok (.aload_n 0, 1) := by decide +kernel
theorem dX8_lose_5 : decode cX8_lose 5 = .ok (.aload_n 0, 1) := by decide +kernel
theorem dX8_lose_6 : decode cX8_lose 6 = .ok (.iload_n 1, 1) := by decide +kernel
theorem dX8_lose_7 : decode cX8_lose 7 = .ok (.iload_n 2, 1) := by decide +kernel
theorem dX8_lose_8 : decode cX8_lose 8 = .ok (.iload_n 3, 1) := by decide +kernel
theorem dX8_lose_9 : decode cX8_lose 9 = .ok (.invokevirtual 134, 3) := by decide +kernel
theorem dX8_lose_12 : decode cX8_lose 12 = .ok (.invokevirtual 125, 3) := by decide +kernel
theorem dX8_lose_15 : decode cX8_lose 15 = .ok (.ireturn, 1) := by decide +kernel
set_option maxRecDepth 20000 in
theorem ggX8_queued_X8_isQueue : GoodIn wsX8_queued wsX8_isQueue := goodIn_r _ [6, 7, 8, 9, 5, 10, 1, 11, 12, 13, 17, 18, 19, 20, 21, 22, 23, 24, 25, 26, 27, 28, 29, 30] (by decide +kernel) (by decide +kernel)
set_option maxRecDepth 20000 in
theorem gX8_queued_X8_isQueue : GoodIn wsX8_queued (wsV RX8 107 RX8 yX8_isQueue wsX8_isQueue) := goodIn_app (goodIn_of _ (by decide +kernel)) ggX8_queued_X8_isQueue
set_option maxRecDepth 20000 in
theorem ggX8_queued_X8_queueOf : GoodIn wsX8_queued wsX8_queueOf := goodIn_r _ [16] (by decide +kernel) (by decide +kernel)
set_option maxRecDepth 20000 in
theorem gX8_queued_X8_queueOf : GoodIn wsX8_queued (va_wsS RX8 87 yX8_queueOf wsX8_queueOf) := goodIn_app (goodIn_of _ (by decide +kernel)) ggX8_queued_X8_queueOf
theorem dX8_queued_0 : decode cX8_queued 0 = .ok (.aload_n 0, 1) := by decide +kernel
theorem dX8_queued_1 : decode cX8_queued 1 = .ok (.iload_n 1, 1) := by decide +kernel
theorem dX8_queued_2 : decode cX8_queued 2 = .ok (.iload_n 2, 1) := by decide +kernel
theorem dX8_queued_3 : decode cX8_queued 3 = .ok (.invokevirtual 107, 3) := by decide +kernel
theorem dX8_queued_6 : decode cX8_queued 6 = .ok (.ifCond .eq 8, 3) := by decide +kernel
theorem dX8_queued_9 : decode cX8_queued 9 = .ok (.iload_n 3, 1) := by decide +kernel
theorem dX8_queued_10 : decode cX8_queued 10 = .ok (.iconst (-1), 1) := by decide +kernel
theorem dX8_queued_11 : decode cX8_queued 11 = .ok (.if_icmp .ge 5, 3) := by decide +kernel
theorem dX8_queued_14 : decode cX8_queued 14 = .ok (.iconst (-1), 1) := by decide +kernel
theorem dX8_queued_15 : decode cX8_queued 15 = .ok (.ireturn, 1) := by decide +kernel
theorem dX8_queued_16 : decode cX8_queued 16 = .ok (.iload_n 1, 1) := by decide +kernel
theorem dX8_queued_17 : decode cX8_queued 17 = .ok (.iload_n 2, 1) := by decide +kernel
theorem dX8_queued_18 : decode cX8_queued 18 = .ok (.invokestatic 87, 3) := by decide +kernel
theorem dX8_queued_21 : decode cX8_queued 21 = .ok (.istore 4, 2) := by decide +kernel
theorem dX8_queued_23 : decode cX8_queued 23 = .ok (.iload_n 3, 1) := by decide +kernel
theorem dX8_queued_24 : decode cX8_queued 24 = .ok (.ifCond .ge 13, 3) := by decide +kernel
theorem dX8_queued_27 : decode cX8_queued 27 = .ok (.aload_n 0, 1) := by decide +kernel
theorem dX8_queued_28 : decode cX8_queued 28 = .ok (.getfield 7, 3) := by decide +kernel
theorem dX8_queued_31 : decode cX8_queued 31 = .ok (.iload 4, 2) := by decide +kernel
theorem dX8_queued_33 : decode cX8_queued 33 = .ok (.iaload, 1) := by decide +kernel
theorem dX8_queued_34 : decode cX8_queued 34 = .ok (.goto 30, 3) := by decide +kernel
theorem dX8_queued_37 : decode cX8_queued 37 = .ok (.iload_n 3, 1) := by decide +kernel
theorem dX8_queued_38 : decode cX8_queued 38 = .ok (.aload_n 0, 1) := by decide +kernel
theorem dX8_queued_39 : decode cX8_queued 39 = .ok (.getfield 7, 3) := by decide +kernel
theorem dX8_queued_42 : decode cX8_queued 42 = .ok (.iload 4, 2) := by decide +kernel
theorem dX8_queued_44 : decode cX8_queued 44 = .ok (.iaload, 1) := by decide +kernel
theorem dX8_queued_45 : decode cX8_queued 45 = .ok (.if_icmp .ge 17, 3) := by decide +kernel
theorem dX8_queued_48 : decode cX8_queued 48 = .ok (.aload_n 0, 1) := by decide +kernel
theorem dX8_queued_49 : decode cX8_queued 49 = .ok (.getfield 7, 3) := by decide +kernel
theorem dX8_queued_52 : decode cX8_queued 52 = .ok (.iload 4, 2) := by decide +kernel
theorem dX8_queued_54 : decode cX8_queued 54 = .ok (.iconst 1, 1) := by decide +kernel
theorem dX8_queued_55 : decode cX8_queued 55 = .ok (.iadd, 1) := by decide +kernel
theorem dX8_queued_56 : decode cX8_queued 56 = .ok (.iload_n 3, 1) := by decide +kernel
theorem dX8_queued_57 : decode cX8_queued 57 = .ok (.iadd, 1) := by decide +kernel
theorem dX8_queued_58 : decode cX8_queued 58 = .ok (.iaload, 1) := by decide +kernel
theorem dX8_queued_59 : decode cX8_queued 59 = .ok (.goto 5, 3) := by decide +kernel
theorem dX8_queued_62 : decode cX8_queued 62 = .ok (.bipush (-9), 2) := by decide +kernel
theorem dX8_queued_64 : decode cX8_queued 64 = .ok (.ireturn, 1) := by decide +kernel
set_option maxRecDepth 20000 in
theorem ggX8_bound_X8_isProxy : GoodIn wsX8_bound wsX8_isProxy := goodIn_r _ [5, 6, 7, 8, 4, 9, 21, 22, 23, 24, 25, 26, 27, 28, 29, 30, 31, 32, 33, 34] (by decide +kernel) (by decide +kernel)
set_option maxRecDepth 20000 in
theorem gX8_bound_X8_isProxy : GoodIn wsX8_bound (wsV RX8 47 RX8 yX8_isProxy wsX8_isProxy) := goodIn_app (goodIn_of _ (by decide +kernel)) ggX8_bound_X8_isProxy
set_option maxRecDepth 20000 in
theorem ggX8_bound_X8_isOrigin : GoodIn wsX8_bound wsX8_isOrigin := goodIn_r _ [12, 7, 8, 4, 9] (by decide +kernel) (by decide +kernel)
set_option maxRecDepth 20000 in
theorem gX8_bound_X8_isOrigin : GoodIn wsX8_bound (va_wsS RX8 43 yX8_isOrigin wsX8_isOrigin) := goodIn_app (goodIn_of _ (by decide +kernel)) ggX8_bound_X8_isOrigin
set_option maxRecDepth 20000 in
theorem ggX8_bound_X8_boundOf : GoodIn wsX8_bound wsX8_boundOf := goodIn_r _ [16, 17, 18, 19, 4, 20, 6, 21, 22, 23, 24, 25, 26, 27, 28, 29, 30, 31, 32, 33, 34] (by decide +kernel) (by decide +kernel)
set_option maxRecDepth 20000 in
theorem gX8_bound_X8_boundOf : GoodIn wsX8_bound (wsV RX8 75 RX8 yX8_boundOf wsX8_boundOf) := goodIn_app (goodIn_of _ (by decide +kernel)) ggX8_bound_X8_boundOf
theorem dX8_bound_0 : decode cX8_bound 0 = .ok (.aload_n 0, 1) := by decide +kernel
theorem dX8_bound_1 : decode cX8_bound 1 = .ok (.iload_n 1, 1) := by decide +kernel
theorem dX8_bound_2 : decode cX8_bound 2 = .ok (.invokevirtual 47, 3) := by decide +kernel
theorem dX8_bound_5 : decode cX8_bound 5 = .ok (.ifCond .eq 19, 3) := by decide +kernel
theorem dX8_bound_8 : decode cX8_bound 8 = .ok (.iload_n 2, 1) := by decide +kernel
theorem dX8_bound_9 : decode cX8_bound 9 = .ok (.invokestatic 43, 3) := by decide +kernel
theorem dX8_bound_12 : decode cX8_bound 12 = .ok (.ifCond .eq 12, 3) := by decide +kernel
theorem dX8_bound_15 : decode cX8_bound 15 = .ok (.aload_n 0, 1) := by decide +kernel
theorem dX8_bound_16 : decode cX8_bound 16 = .ok (.iload_n 1, 1) := by decide +kernel
theorem dX8_bound_17 : decode cX8_bound 17 = .ok (.iload_n 2, 1) := by decide +kernel
theorem dX8_bound_18 : decode cX8_bound 18 = .ok (.invokevirtual 75, 3) := by decide +kernel
theorem dX8_bound_21 : decode cX8_bound 21 = .ok (.goto 4, 3) := by decide +kernel
theorem dX8_bound_24 : decode cX8_bound 24 = .ok (.iconst (-1), 1) := by decide +kernel
theorem dX8_bound_25 : decode cX8_bound 25 = .ok (.ireturn, 1) := by decide +kernel
set_option maxRecDepth 20000 in
theorem ggX8_exception_X8_isProxy : GoodIn wsX8_exception wsX8_isProxy := goodIn_r _ [5, 6, 7, 8, 4, 9, 25, 26, 27, 28, 29, 30, 31, 32, 33, 34, 35, 36, 37, 38] (by decide +kernel) (by decide +kernel)
set_option maxRecDepth 20000 in
theorem gX8_exception_X8_isProxy : GoodIn wsX8_exception (wsV RX8 47 RX8 yX8_isProxy wsX8_isProxy) := goodIn_app (goodIn_of _ (by decide +kernel)) ggX8_exception_X8_isProxy
set_option maxRecDepth 20000 in
theorem ggX8_exception_X8_isOrigin : GoodIn wsX8_exception wsX8_isOrigin := goodIn_r _ [12, 7, 8, 4, 9] (by decide +kernel) (by decide +kernel)
set_option maxRecDepth 20000 in
theorem gX8_exception_X8_isOrigin : GoodIn wsX8_exception (va_wsS RX8 43 yX8_isOrigin wsX8_isOrigin) := goodIn_app (goodIn_of _ (by decide +kernel)) ggX8_exception_X8_isOrigin
set_option maxRecDepth 20000 in
theorem ggX8_exception_X8_rangesOf : GoodIn wsX8_exception wsX8_rangesOf := goodIn_r _ [16, 17, 18, 19, 4, 20, 6, 25, 26, 27, 28, 29, 30, 31, 32, 33, 34, 35, 36, 37, 38] (by decide +kernel) (by decide +kernel)
set_option maxRecDepth 20000 in
theorem gX8_exception_X8_rangesOf : GoodIn wsX8_exception (wsV RX8 56 RX8 yX8_rangesOf wsX8_rangesOf) := goodIn_app (goodIn_of _ (by decide +kernel)) ggX8_exception_X8_rangesOf
set_option maxRecDepth 20000 in
theorem ggX8_exception_X8_boundOf : GoodIn wsX8_exception wsX8_boundOf := goodIn_r _ [24, 17, 18, 19, 4, 20, 6, 25, 26, 27, 28, 29, 30, 31, 32, 33, 34, 35, 36, 37, 38] (by decide +kernel) (by decide +kernel)
set_option maxRecDepth 20000 in
theorem gX8_exception_X8_boundOf : GoodIn wsX8_exception (wsV RX8 75 RX8 yX8_boundOf wsX8_boundOf) := goodIn_app (goodIn_of _ (by decide +kernel)) ggX8_exception_X8_boundOf
set_option maxRecDepth 20000 in
theorem ggX8_exception_X8_knows : GoodIn wsX8_exception wsX8_knows := goodIn_r _ [20, 6, 25, 26, 27, 28, 29, 30, 31, 32, 33, 34, 35, 36, 37, 38] (by decide +kernel) (by decide +kernel)
set_option maxRecDepth 20000 in
theorem gX8_exception_X8_knows : GoodIn wsX8_exception (wsV RX8 53 RX8 yX8_knows wsX8_knows) := goodIn_app (goodIn_of _ (by decide +kernel)) ggX8_exception_X8_knows
theorem dX8_exception_0 : decode cX8_exception 0 = .ok (.aload_n 0, 1) := by decide +kernel
theorem dX8_exception_1 : decode cX8_exception 1 = .ok (.iload_n 1, 1) := by decide +kernel
theorem dX8_exception_2 : decode cX8_exception 2 = .ok (.invokevirtual 47, 3) := by decide +kernel
theorem dX8_exception_5 : decode cX8_exception 5 = .ok (.ifCond .eq 15, 3) := by decide +kernel
theorem dX8_exception_8 : decode cX8_exception 8 = .ok (.iload_n 2, 1) := by decide +kernel
theorem dX8_exception_9 : decode cX8_exception 9 = .ok (.invokestatic 43, 3) := by decide +kernel
theorem dX8_exception_12 : decode cX8_exception 12 = .ok (.ifCond .eq 8, 3) := by decide +kernel
theorem dX8_exception_15 : decode cX8_exception 15 = .ok (.iload_n 3, 1) := by decide +kernel
theorem dX8_exception_16 : decode cX8_exception 16 = .ok (.iconst (-1), 1) := by decide +kernel
theorem dX8_exception_17 : decode cX8_exception 17 = .ok (.if_icmp .ge 5, 3) := by decide +kernel
theorem dX8_exception_20 : decode cX8_exception 20 = .ok (.iconst (-1), 1) := by decide +kernel
theorem dX8_exception_21 : decode cX8_exception 21 = .ok (.ireturn, 1) := by decide +kernel
theorem dX8_exception_22 : decode cX8_exception 22 = .ok (.iload_n 3, 1) := by decide +kernel
theorem dX8_exception_23 : decode cX8_exception 23 = .ok (.ifCond .ge 10, 3) := by decide +kernel
theorem dX8_exception_26 : decode cX8_exception 26 = .ok (.aload_n 0, 1) := by decide +kernel
theorem dX8_exception_27 : decode cX8_exception 27 = .ok (.iload_n 1, 1) := by decide +kernel
theorem dX8_exception_28 : decode cX8_exception 28 = .ok (.iload_n 2, 1) := by decide +kernel
theorem dX8_exception_29 : decode cX8_exception 29 = .ok (.invokevirtual 56, 3) := by decide +kernel
theorem dX8_exception_32 : decode cX8_exception 32 = .ok (.ireturn, 1) := by decide +kernel
theorem dX8_exception_33 : decode cX8_exception 33 = .ok (.iload_n 3, 1) := by decide +kernel
theorem dX8_exception_34 : decode cX8_exception 34 = .ok (.istore 4, 2) := by decide +kernel
theorem dX8_exception_36 : decode cX8_exception 36 = .ok (.aload_n 0, 1) := by decide +kernel
theorem dX8_exception_37 : decode cX8_exception 37 = .ok (.iload_n 1, 1) := by decide +kernel
theorem dX8_exception_38 : decode cX8_exception 38 = .ok (.iload_n 2, 1) := by decide +kernel
theorem dX8_exception_39 : decode cX8_exception 39 = .ok (.invokevirtual 75, 3) := by decide +kernel
theorem dX8_exception_42 : decode cX8_exception 42 = .ok (.istore 5, 2) := by decide +kernel
theorem dX8_exception_44 : decode cX8_exception 44 = .ok (.iconst 1, 1) := by decide +kernel
theorem dX8_exception_45 : decode cX8_exception 45 = .ok (.istore 6, 2) := by decide +kernel
theorem dX8_exception_47 : decode cX8_exception 47 = .ok (.iload 6, 2) := by decide +kernel
theorem dX8_exception_49 : decode cX8_exception 49 = .ok (.iload 5, 2) := by decide +kernel
theorem dX8_exception_51 : decode cX8_exception 51 = .ok (.if_icmp .ge 31, 3) := by decide +kernel
theorem dX8_exception_54 : decode cX8_exception 54 = .ok (.aload_n 0, 1) := by decide +kernel
theorem dX8_exception_55 : decode cX8_exception 55 = .ok (.iload_n 1, 1) := by decide +kernel
theorem dX8_exception_56 : decode cX8_exception 56 = .ok (.iload_n 2, 1) := by decide +kernel
theorem dX8_exception_57 : decode cX8_exception 57 = .ok (.iload 6, 2) := by decide +kernel
theorem dX8_exception_59 : decode cX8_exception 59 = .ok (.invokevirtual 53, 3) := by decide +kernel
theorem dX8_exception_62 : decode cX8_exception 62 = .ok (.ifCond .ne 14, 3) := by decide +kernel
theorem dX8_exception_65 : decode cX8_exception 65 = .ok (.iload 4, 2) := by decide +kernel
theorem dX8_exception_67 : decode cX8_exception 67 = .ok (.ifCond .ne 6, 3) := by decide +kernel
theorem dX8_exception_70 : decode cX8_exception 70 = .ok (.iload 6, 2) := by decide +kernel
theorem dX8_exception_72 : decode cX8_exception 72 = .ok (.ireturn, 1) := by decide +kernel
theorem dX8_exception_73 : decode cX8_exception 73 = .ok (.iinc 4 (-1), 3) := by decide +kernel
theorem dX8_exception_76 : decode cX8_exception 76 = .ok (.iinc 6 1, 3) := by decide +kernel
theorem dX8_exception_79 : decode cX8_exception 79 = .ok (.goto (-32), 3) := by decide +kernel
theorem dX8_exception_82 : decode cX8_exception 82 = .ok (.bipush (-9), 2) := by decide +kernel
theorem dX8_exception_84 : decode cX8_exception 84 = .ok (.ireturn, 1) := by decide +kernel
set_option maxRecDepth 20000 in
theorem ggX8_served_X8_isProxy : GoodIn wsX8_served wsX8_isProxy := goodIn_r _ [6, 7, 8, 9, 5, 10, 30, 31, 32, 33, 34, 35, 36, 37, 38, 39, 40, 41, 42, 43] (by decide +kernel) (by decide +kernel)
set_option maxRecDepth 20000 in
theorem gX8_served_X8_isProxy : GoodIn wsX8_served (wsV RX8 47 RX8 yX8_isProxy wsX8_isProxy) := goodIn_app (goodIn_of _ (by decide +kernel)) ggX8_served_X8_isProxy
set_option maxRecDepth 20000 in
theorem ggX8_served_X8_isOrigin : GoodIn wsX8_served wsX8_isOrigin := goodIn_r _ [13, 8, 9, 5, 10] (by decide +kernel) (by decide +kernel)
set_option maxRecDepth 20000 in
theorem gX8_served_X8_isOrigin : GoodIn wsX8_served (va_wsS RX8 43 yX8_isOrigin wsX8_isOrigin) := goodIn_app (goodIn_of _ (by decide +kernel)) ggX8_served_X8_isOrigin
set_option maxRecDepth 20000 in
theorem ggX8_served_X8_serves : GoodIn wsX8_served wsX8_serves := goodIn_r _ [17, 1, 18, 19, 20, 5, 21, 7, 22, 23, 24, 25, 26, 27, 28, 29, 30, 31, 32, 33, 34, 35, 36, 37, 38, 39, 40, 41, 42, 43] (by decide +kernel) (by decide +kernel)
set_option maxRecDepth 20000 in
theorem gX8_served_X8_serves : GoodIn wsX8_served (wsV RX8 68 RX8 yX8_serves wsX8_serves) := goodIn_app (goodIn_of _ (by decide +kernel)) ggX8_served_X8_serves
theorem dX8_served_0 : decode cX8_served 0 = .ok (.aload_n 0, 1) := by decide +kernel
theorem dX8_served_1 : decode cX8_served 1 = .ok (.iload_n 1, 1) := by decide +kernel
theorem dX8_served_2 : decode cX8_served 2 = .ok (.invokevirtual 47, 3) := by decide +kernel
theorem dX8_served_5 : decode cX8_served 5 = .ok (.ifCond .eq 10, 3) := by decide +kernel
theorem dX8_served_8 : decode cX8_served 8 = .ok (.iload_n 2, 1) := by decide +kernel
theorem dX8_served_9 : decode cX8_served 9 = .ok (.invokestatic 43, 3) := by decide +kernel
theorem dX8_served_12 : decode cX8_served 12 = .ok (.ifCond .ne 5, 3) := by decide +kernel
theorem dX8_served_15 : decode cX8_served 15 = .ok (.iconst (-1), 1) := by decide +kernel
theorem dX8_served_16 : decode cX8_served 16 = .ok (.ireturn, 1) := by decide +kernel
theorem dX8_served_17 : decode cX8_served 17 = .ok (.aload_n 0, 1) := by decide +kernel
theorem dX8_served_18 : decode cX8_served 18 = .ok (.iload_n 1, 1) := by decide +kernel
theorem dX8_served_19 : decode cX8_served 19 = .ok (.invokevirtual 68, 3) := by decide +kernel
theorem dX8_served_22 : decode cX8_served 22 = .ok (.aload_n 0, 1) := by decide +kernel
theorem dX8_served_23 : decode cX8_served 23 = .ok (.getfield 22, 3) := by decide +kernel
theorem dX8_served_26 : decode cX8_served 26 = .ok (.iload_n 2, 1) := by decide +kernel
theorem dX8_served_27 : decode cX8_served 27 = .ok (.iaload, 1) := by decide +kernel
theorem dX8_served_28 : decode cX8_served 28 = .ok (.ireturn, 1) := by decide +kernel
set_option maxRecDepth 20000 in
theorem ggX8_status_X8_isProxy : GoodIn wsX8_status wsX8_isProxy := goodIn_r _ [6, 7, 8, 9, 5, 10, 38, 39, 40, 41, 42, 43, 44, 45, 46, 47, 48, 49, 50, 51] (by decide +kernel) (by decide +kernel)
set_option maxRecDepth 20000 in
theorem gX8_status_X8_isProxy : GoodIn wsX8_status (wsV RX8 47 RX8 yX8_isProxy wsX8_isProxy) := goodIn_app (goodIn_of _ (by decide +kernel)) ggX8_status_X8_isProxy
set_option maxRecDepth 20000 in
theorem ggX8_status_X8_isUpdate : GoodIn wsX8_status wsX8_isUpdate := goodIn_r _ [14, 7, 15, 16, 5, 17, 8, 9, 10, 38, 39, 40, 41, 42, 43, 44, 45, 46, 47, 48, 49, 50, 51] (by decide +kernel) (by decide +kernel)
set_option maxRecDepth 20000 in
theorem gX8_status_X8_isUpdate : GoodIn wsX8_status (wsV RX8 128 RX8 yX8_isUpdate wsX8_isUpdate) := goodIn_app (goodIn_of _ (by decide +kernel)) ggX8_status_X8_isUpdate
set_option maxRecDepth 20000 in
theorem ggX8_status_X8_serves : GoodIn wsX8_status wsX8_serves := goodIn_r _ [21, 1, 22, 23, 24, 5, 25, 7, 26, 27, 28, 29, 30, 31, 32, 33, 38, 39, 40, 41, 42, 43, 44, 45, 46, 47, 48, 49, 50, 51] (by decide +kernel) (by decide +kernel)
set_option maxRecDepth 20000 in
theorem gX8_status_X8_serves : GoodIn wsX8_status (wsV RX8 68 RX8 yX8_serves wsX8_serves) := goodIn_app (goodIn_of _ (by decide +kernel)) ggX8_status_X8_serves
set_option maxRecDepth 20000 in
theorem ggX8_status_X8_knows : GoodIn wsX8_status wsX8_knows := goodIn_r _ [25, 7, 38, 39, 40, 41, 42, 43, 44, 45, 46, 47, 48, 49, 50, 51] (by decide +kernel) (by decide +kernel)
set_option maxRecDepth 20000 in
theorem gX8_status_X8_knows : GoodIn wsX8_status (wsV RX8 53 RX8 yX8_knows wsX8_knows) := goodIn_app (goodIn_of _ (by decide +kernel)) ggX8_status_X8_knows
set_option maxRecDepth 20000 in
theorem ggX8_status_X8_keptPlace : GoodIn wsX8_status wsX8_keptPlace := goodIn_r _ [37, 7, 38, 39, 40, 41, 42, 43, 44, 45, 46, 47, 48, 49, 50, 51] (by decide +kernel) (by decide +kernel)
set_option maxRecDepth 20000 in
theorem gX8_status_X8_keptPlace : GoodIn wsX8_status (wsV RX8 137 RX8 yX8_keptPlace wsX8_keptPlace) := goodIn_app (goodIn_of _ (by decide +kernel)) ggX8_status_X8_keptPlace
theorem dX8_status_0 : decode cX8_status 0 = .ok (.aload_n 0, 1) := by decide +kernel
theorem dX8_status_1 : decode cX8_status 1 = .ok (.iload_n 1, 1) := by decide +kernel
theorem dX8_status_2 : decode cX8_status 2 = .ok (.invokevirtual 47, 3) := by decide +kernel
theorem dX8_status_5 : decode cX8_status 5 = .ok (.ifCond .eq 12, 3) := by decide +kernel
theorem dX8_status_8 : decode cX8_status 8 = .ok (.aload_n 0, 1) := by decide +kernel
theorem dX8_status_9 : decode cX8_status 9 = .ok (.iload_n 2, 1) := by decide +kernel
theorem dX8_status_10 : decode cX8_status 10 = .ok (.iload_n 3, 1) := by decide +kernel
theorem dX8_status_11 : decode cX8_status 11 = .ok (.invokevirtual 128, 3) := by decide +kernel
theorem dX8_status_14 : decode cX8_status 14 = .ok (.ifCond .ne 5, 3) := by decide +kernel
theorem dX8_status_17 : decode cX8_status 17 = .ok (.iconst (-1), 1) := by decide +kernel
theorem dX8_status_18 : decode cX8_status 18 = .ok (.ireturn, 1) := by decide +kernel
theorem dX8_status_19 : decode cX8_status 19 = .ok (.aload_n 0, 1) := by decide +kernel
theorem dX8_status_20 : decode cX8_status 20 = .ok (.iload_n 1, 1) := by decide +kernel
theorem dX8_status_21 : decode cX8_status 21 = .ok (.invokevirtual 68, 3) := by decide +kernel
theorem dX8_status_24 : decode cX8_status 24 = .ok (.iload_n 3, 1) := by decide +kernel
theorem dX8_status_25 : decode cX8_status 25 = .ok (.aload_n 0, 1) := by decide +kernel
theorem dX8_status_26 : decode cX8_status 26 = .ok (.getfield 22, 3) := by decide +kernel
theorem dX8_status_29 : decode cX8_status 29 = .ok (.iload_n 2, 1) := by decide +kernel
theorem dX8_status_30 : decode cX8_status 30 = .ok (.iaload, 1) := by decide +kernel
theorem dX8_status_31 : decode cX8_status 31 = .ok (.if_icmp .le 19, 3) := by decide +kernel
theorem dX8_status_34 : decode cX8_status 34 = .ok (.aload_n 0, 1) := by decide +kernel
theorem dX8_status_35 : decode cX8_status 35 = .ok (.iload_n 1, 1) := by decide +kernel
theorem dX8_status_36 : decode cX8_status 36 = .ok (.iload_n 2, 1) := by decide +kernel
theorem dX8_status_37 : decode cX8_status 37 = .ok (.iload_n 3, 1) := by decide +kernel
theorem dX8_status_38 : decode cX8_status 38 = .ok (.invokevirtual 53, 3) := by decide +kernel
theorem dX8_status_41 : decode cX8_status 41 = .ok (.ifCond .eq 7, 3) := by decide +kernel
theorem dX8_status_44 : decode cX8_status 44 = .ok (.iconst 1, 1) := by decide +kernel
theorem dX8_status_45 : decode cX8_status 45 = .ok (.goto 4, 3) := by decide +kernel
theorem dX8_status_48 : decode cX8_status 48 = .ok (.iconst 0, 1) := by decide +kernel
theorem dX8_status_49 : decode cX8_status 49 = .ok (.ireturn, 1) := by decide +kernel
theorem dX8_status_50 : decode cX8_status 50 = .ok (.aload_n 0, 1) := by decide +kernel
theorem dX8_status_51 : decode cX8_status 51 = .ok (.iload_n 1, 1) := by decide +kernel
theorem dX8_status_52 : decode cX8_status 52 = .ok (.bipush 100, 2) := by decide +kernel
theorem dX8_status_54 : decode cX8_status 54 = .ok (.iload_n 2, 1) := by decide +kernel
theorem dX8_status_55 : decode cX8_status 55 = .ok (.imul, 1) := by decide +kernel
theorem dX8_status_56 : decode cX8_status 56 = .ok (.iload_n 3, 1) := by decide +kernel
theorem dX8_status_57 : decode cX8_status 57 = .ok (.iadd, 1) := by decide +kernel
theorem dX8_status_58 : decode cX8_status 58 = .ok (.invokevirtual 137, 3) := by decide +kernel
theorem dX8_status_61 : decode cX8_status 61 = .ok (.ifCond .ge 7, 3) := by decide +kernel
theorem dX8_status_64 : decode cX8_status 64 = .ok (.iconst 2, 1) := by decide +kernel
theorem dX8_status_65 : decode cX8_status 65 = .ok (.goto 4, 3) := by decide +kernel
theorem dX8_status_68 : decode cX8_status 68 = .ok (.iconst 3, 1) := by decide +kernel
theorem dX8_status_69 : decode cX8_status 69 = .ok (.ireturn, 1) := by decide +kernel
set_option maxRecDepth 20000 in
theorem ggX8_reaches_X8_causeOf : GoodIn wsX8_reaches wsX8_causeOf := goodIn_r _ [6, 7, 8, 9, 10, 11, 12, 13, 14, 15, 16, 17, 18, 19, 20, 21] (by decide +kernel) (by decide +kernel)
set_option maxRecDepth 20000 in
theorem gX8_reaches_X8_causeOf : GoodIn wsX8_reaches (wsV RX8 60 RX8 yX8_causeOf wsX8_causeOf) := goodIn_app (goodIn_of _ (by decide +kernel)) ggX8_reaches_X8_causeOf
theorem dX8_reaches_0 : decode cX8_reaches 0 = .ok (.iconst 0, 1) := by decide +kernel
theorem dX8_reaches_1 : decode cX8_reaches 1 = .ok (.istore_n 1, 1) := by decide +kernel
theorem dX8_reaches_2 : decode cX8_reaches 2 = .ok (.iconst 0, 1) := by decide +kernel
theorem dX8_reaches_3 : decode cX8_reaches 3 = .ok (.istore_n 2, 1) := by decide +kernel
theorem dX8_reaches_4 : decode cX8_reaches 4 = .ok (.iload_n 2, 1) := by decide +kernel
theorem dX8_reaches_5 : decode cX8_reaches 5 = .ok (.iconst 4, 1) := by decide +kernel
theorem dX8_reaches_6 : decode cX8_reaches 6 = .ok (.if_icmp .ge 105, 3) := by decide +kernel
theorem dX8_reaches_9 : decode cX8_reaches 9 = .ok (.iconst 1, 1) := by decide +kernel
theorem dX8_reaches_10 : decode cX8_reaches 10 = .ok (.istore_n 3, 1) := by decide +kernel
theorem dX8_reaches_11 : decode cX8_reaches 11 = .ok (.iload_n 3, 1) := by decide +kernel
theorem dX8_reaches_12 : decode cX8_reaches 12 = .ok (.aload_n 0, 1) := by decide +kernel
theorem dX8_reaches_13 : decode cX8_reaches 13 = .ok (.getfield 28, 3) := by decide +kernel
theorem dX8_reaches_16 : decode cX8_reaches 16 = .ok (.iload_n 2, 1) := by decide +kernel
theorem dX8_reaches_17 : decode cX8_reaches 17 = .ok (.iaload, 1) := by decide +kernel
theorem dX8_reaches_18 : decode cX8_reaches 18 = .ok (.if_icmp .gt 87, 3) := by decide +kernel
theorem dX8_reaches_21 : decode cX8_reaches 21 = .ok (.iconst 0, 1) := by decide +kernel
theorem dX8_reaches_22 : decode cX8_reaches 22 = .ok (.istore 4, 2) := by decide +kernel
theorem dX8_reaches_24 : decode cX8_reaches 24 = .ok (.iload 4, 2) := by decide +kernel
theorem dX8_reaches_26 : decode cX8_reaches 26 = .ok (.iconst 4, 1) := by decide +kernel
theorem dX8_reaches_27 : decode cX8_reaches 27 = .ok (.if_icmp .ge 72, 3) := by decide +kernel
theorem dX8_reaches_30 : decode cX8_reaches 30 = .ok (.aload_n 0, 1) := by decide +kernel
theorem dX8_reaches_31 : decode cX8_reaches 31 = .ok (.iload_n 2, 1) := by decide +kernel
theorem dX8_reaches_32 : decode cX8_reaches 32 = .ok (.iload_n 3, 1) := by decide +kernel
theorem dX8_reaches_33 : decode cX8_reaches 33 = .ok (.iload 4, 2) := by decide +kernel
theorem dX8_reaches_35 : decode cX8_reaches 35 = .ok (.invokevirtual 60, 3) := by decide +kernel
theorem dX8_reaches_38 : decode cX8_reaches 38 = .ok (.istore 5, 2) := by decide +kernel
theorem dX8_reaches_40 : decode cX8_reaches 40 = .ok (.iload_n 1, 1) := by decide +kernel
theorem dX8_reaches_41 : decode cX8_reaches 41 = .ok (.ifCond .ne 15, 3) := by decide +kernel
theorem dX8_reaches_44 : decode cX8_reaches 44 = .ok (.iload 5, 2) := by decide +kernel
theorem dX8_reaches_46 : decode cX8_reaches 46 = .ok (.aload_n 0, 1) := by decide +kernel
theorem dX8_reaches_47 : decode cX8_reaches 47 = .ok (.getfield 28, 3) := by decide +kernel
theorem dX8_reaches_50 : decode cX8_reaches 50 = .ok (.iload 4, 2) := by decide +kernel
theorem dX8_reaches_52 : decode cX8_reaches 52 = .ok (.iaload, 1) := by decide +kernel
theorem dX8_reaches_53 : decode cX8_reaches 53 = .ok (.if_icmp .le 7, 3) := by decide +kernel
theorem dX8_reaches_56 : decode cX8_reaches 56 = .ok (.iconst 1, 1) := by decide +kernel
theorem dX8_reaches_57 : decode cX8_reaches 57 = .ok (.goto 4, 3) := by decide +kernel
theorem dX8_reaches_60 : decode cX8_reaches 60 = .ok (.iconst 0, 1) := by decide +kernel
theorem dX8_reaches_61 : decode cX8_reaches 61 = .ok (.istore_n 1, 1) := by decide +kernel
theorem dX8_reaches_62 : decode cX8_reaches 62 = .ok (.aload_n 0, 1) := by decide +kernel
theorem dX8_reaches_63 : decode cX8_reaches 63 = .ok (.getfield 28, 3) := by decide +kernel
theorem dX8_reaches_66 : decode cX8_reaches 66 = .ok (.iload 4, 2) := by decide +kernel
theorem dX8_reaches_68 : decode cX8_reaches 68 = .ok (.iload 5, 2) := by decide +kernel
theorem dX8_reaches_70 : decode cX8_reaches 70 = .ok (.aload_n 0, 1) := by decide +kernel
theorem dX8_reaches_71 : decode cX8_reaches 71 = .ok (.getfield 28, 3) := by decide +kernel
theorem dX8_reaches_74 : decode cX8_reaches 74 = .ok (.iload 4, 2) := by decide +kernel
theorem dX8_reaches_76 : decode cX8_reaches 76 = .ok (.iaload, 1) := by decide +kernel
theorem dX8_reaches_77 : decode cX8_reaches 77 = .ok (.if_icmp .le 8, 3) := by decide +kernel
theorem dX8_reaches_80 : decode cX8_reaches 80 = .ok (.iload 5, 2) := by decide +kernel
theorem dX8_reaches_82 : decode cX8_reaches 82 = .ok (.goto 10, 3) := by decide +kernel
theorem dX8_reaches_85 : decode cX8_reaches 85 = .ok (.aload_n 0, 1) := by decide +kernel
theorem dX8_reaches_86 : decode cX8_reaches 86 = .ok (.getfield 28, 3) := by decide +kernel
theorem dX8_reaches_89 : decode cX8_reaches 89 = .ok (.iload 4, 2) := by decide +kernel
theorem dX8_reaches_91 : decode cX8_reaches 91 = .ok (.iaload, 1) := by decide +kernel
theorem dX8_reaches_92 : decode cX8_reaches 92 = .ok (.iastore, 1) := by decide +kernel
theorem dX8_reaches_93 : decode cX8_reaches 93 = .ok (.iinc 4 1, 3) := by decide +kernel
theorem dX8_reaches_96 : decode cX8_reaches 96 = .ok (.goto (-72), 3) := by decide +kernel
theorem dX8_reaches_99 : decode cX8_reaches 99 = .ok (.iinc 3 1, 3) := by decide +kernel
theorem dX8_reaches_102 : decode cX8_reaches 102 = .ok (.goto (-91), 3) := by decide +kernel
theorem dX8_reaches_105 : decode cX8_reaches 105 = .ok (.iinc 2 1, 3) := by decide +kernel
theorem dX8_reaches_108 : decode cX8_reaches 108 = .ok (.goto (-104), 3) := by decide +kernel
theorem dX8_reaches_111 : decode cX8_reaches 111 = .ok (.iload_n 1, 1) := by decide +kernel
theorem dX8_reaches_112 : decode cX8_reaches 112 = .ok (.ireturn, 1) := by decide +kernel
set_option maxRecDepth 20000 in
theorem ggX8_missing_X8_isProxy : GoodIn wsX8_missing wsX8_isProxy := goodIn_r _ [6, 7, 8, 9, 5, 10, 30, 31, 32, 33, 34, 35, 36, 37, 38, 39, 40, 41, 42, 43] (by decide +kernel) (by decide +kernel)
set_option maxRecDepth 20000 in
theorem gX8_missing_X8_isProxy : GoodIn wsX8_missing (wsV RX8 47 RX8 yX8_isProxy wsX8_isProxy) := goodIn_app (goodIn_of _ (by decide +kernel)) ggX8_missing_X8_isProxy
set_option maxRecDepth 20000 in
theorem ggX8_missing_X8_isUpdate : GoodIn wsX8_missing wsX8_isUpdate := goodIn_r _ [14, 7, 15, 16, 5, 17, 8, 9, 10, 30, 31, 32, 33, 34, 35, 36, 37, 38, 39, 40, 41, 42, 43] (by decide +kernel) (by decide +kernel)
set_option maxRecDepth 20000 in
theorem gX8_missing_X8_isUpdate : GoodIn wsX8_missing (wsV RX8 128 RX8 yX8_isUpdate wsX8_isUpdate) := goodIn_app (goodIn_of _ (by decide +kernel)) ggX8_missing_X8_isUpdate
set_option maxRecDepth 20000 in
theorem ggX8_missing_X8_reaches : GoodIn wsX8_missing wsX8_reaches := goodIn_r _ [21, 1, 22, 23, 24, 5, 25, 7, 30, 31, 32, 33, 34, 35, 36, 37, 38, 39, 40, 41, 42, 43] (by decide +kernel) (by decide +kernel)
set_option maxRecDepth 20000 in
theorem gX8_missing_X8_reaches : GoodIn wsX8_missing (wsV RX8 140 RX8 yX8_reaches wsX8_reaches) := goodIn_app (goodIn_of _ (by decide +kernel)) ggX8_missing_X8_reaches
set_option maxRecDepth 20000 in
theorem ggX8_missing_X8_knows : GoodIn wsX8_missing wsX8_knows := goodIn_r _ [29, 7, 30, 31, 32, 33, 34, 35, 36, 37, 38, 39, 40, 41, 42, 43] (by decide +kernel) (by decide +kernel)
set_option maxRecDepth 20000 in
theorem gX8_missing_X8_knows : GoodIn wsX8_missing (wsV RX8 53 RX8 yX8_knows wsX8_knows) := goodIn_app (goodIn_of _ (by decide +kernel)) ggX8_missing_X8_knows
theorem dX8_missing_0 : decode cX8_missing 0 = .ok (.aload_n 0, 1) := by decide +kernel
theorem dX8_missing_1 : decode cX8_missing 1 = .ok (.iload_n 1, 1) := by decide +kernel
theorem dX8_missing_2 : decode cX8_missing 2 = .ok (.invokevirtual 47, 3) := by decide +kernel
theorem dX8_missing_5 : decode cX8_missing 5 = .ok (.ifCond .eq 12, 3) := by decide +kernel
theorem dX8_missing_8 : decode cX8_missing 8 = .ok (.aload_n 0, 1) := by decide +kernel
theorem dX8_missing_9 : decode cX8_missing 9 = .ok (.iload_n 2, 1) := by decide +kernel
theorem dX8_missing_10 : decode cX8_missing 10 = .ok (.iload_n 3, 1) := by decide +kernel
theorem dX8_missing_11 : decode cX8_missing 11 = .ok (.invokevirtual 128, 3) := by decide +kernel
theorem dX8_missing_14 : decode cX8_missing 14 = .ok (.ifCond .ne 5, 3) := by decide +kernel
theorem dX8_missing_17 : decode cX8_missing 17 = .ok (.iconst (-1), 1) := by decide +kernel
theorem dX8_missing_18 : decode cX8_missing 18 = .ok (.ireturn, 1) := by decide +kernel
theorem dX8_missing_19 : decode cX8_missing 19 = .ok (.iconst 0, 1) := by decide +kernel
theorem dX8_missing_20 : decode cX8_missing 20 = .ok (.istore 4, 2) := by decide +kernel
theorem dX8_missing_22 : decode cX8_missing 22 = .ok (.iload 4, 2) := by decide +kernel
theorem dX8_missing_24 : decode cX8_missing 24 = .ok (.iconst 4, 1) := by decide +kernel
theorem dX8_missing_25 : decode cX8_missing 25 = .ok (.if_icmp .ge 27, 3) := by decide +kernel
theorem dX8_missing_28 : decode cX8_missing 28 = .ok (.aload_n 0, 1) := by decide +kernel
theorem dX8_missing_29 : decode cX8_missing 29 = .ok (.getfield 28, 3) := by decide +kernel
theorem dX8_missing_32 : decode cX8_missing 32 = .ok (.iload 4, 2) := by decide +kernel
theorem dX8_missing_34 : decode cX8_missing 34 = .ok (.iload 4, 2) := by decide +kernel
theorem dX8_missing_36 : decode cX8_missing 36 = .ok (.iload_n 2, 1) := by decide +kernel
theorem dX8_missing_37 : decode cX8_missing 37 = .ok (.if_icmp .ne 7, 3) := by decide +kernel
theorem dX8_missing_40 : decode cX8_missing 40 = .ok (.iload_n 3, 1) := by decide +kernel
theorem dX8_missing_41 : decode cX8_missing 41 = .ok (.goto 4, 3) := by decide +kernel
theorem dX8_missing_44 : decode cX8_missing 44 = .ok (.iconst 0, 1) := by decide +kernel
theorem dX8_missing_45 : decode cX8_missing 45 = .ok (.iastore, 1) := by decide +kernel
theorem dX8_missing_46 : decode cX8_missing 46 = .ok (.iinc 4 1, 3) := by decide +kernel
theorem dX8_missing_49 : decode cX8_missing 49 = .ok (.goto (-27), 3) := by decide +kernel
theorem dX8_missing_52 : decode cX8_missing 52 = .ok (.iconst 1, 1) := by decide +kernel
theorem dX8_missing_53 : decode cX8_missing 53 = .ok (.istore 4, 2) := by decide +kernel
theorem dX8_missing_55 : decode cX8_missing 55 = .ok (.iload 4, 2) := by decide +kernel
theorem dX8_missing_57 : decode cX8_missing 57 = .ok (.ifCond .eq 12, 3) := by decide +kernel
theorem dX8_missing_60 : decode cX8_missing 60 = .ok (.aload_n 0, 1) := by decide +kernel
theorem dX8_missing_61 : decode cX8_missing 61 = .ok (.invokevirtual 140, 3) := by decide +kernel
theorem dX8_missing_64 : decode cX8_missing 64 = .ok (.istore 4, 2) := by decide +kernel
theorem dX8_missing_66 : decode cX8_missing 66 = .ok (.goto (-11), 3) := by decide +kernel
theorem dX8_missing_69 : decode cX8_missing 69 = .ok (.iconst 0, 1) := by decide +kernel
theorem dX8_missing_70 : decode cX8_missing 70 = .ok (.istore 5, 2) := by decide +kernel
theorem dX8_missing_72 : decode cX8_missing 72 = .ok (.iconst 0, 1) := by decide +kernel
theorem dX8_missing_73 : decode cX8_missing 73 = .ok (.istore 6, 2) := by decide +kernel
theorem dX8_missing_75 : decode cX8_missing 75 = .ok (.iload 6, 2) := by decide +kernel
theorem dX8_missing_77 : decode cX8_missing 77 = .ok (.iconst 4, 1) := by decide +kernel
theorem dX8_missing_78 : decode cX8_missing 78 = .ok (.if_icmp .ge 52, 3) := by decide +kernel
theorem dX8_missing_81 : decode cX8_missing 81 = .ok (.iconst 1, 1) := by decide +kernel
theorem dX8_missing_82 : decode cX8_missing 82 = .ok (.istore 7, 2) := by decide +kernel
theorem dX8_missing_84 : decode cX8_missing 84 = .ok (.iload 7, 2) := by decide +kernel
theorem dX8_missing_86 : decode cX8_missing 86 = .ok (.aload_n 0, 1) := by decide +kernel
theorem dX8_missing_87 : decode cX8_missing 87 = .ok (.getfield 28, 3) := by decide +kernel
theorem dX8_missing_90 : decode cX8_missing 90 = .ok (.iload 6, 2) := by decide +kernel
theorem dX8_missing_92 : decode cX8_missing 92 = .ok (.iaload, 1) := by decide +kernel
theorem dX8_missing_93 : decode cX8_missing 93 = .ok (.if_icmp .gt 31, 3) := by decide +kernel
theorem dX8_missing_96 : decode cX8_missing 96 = .ok (.iload 5, 2) := by decide +kernel
theorem dX8_missing_98 : decode cX8_missing 98 = .ok (.aload_n 0, 1) := by decide +kernel
theorem dX8_missing_99 : decode cX8_missing 99 = .ok (.iload_n 1, 1) := by decide +kernel
theorem dX8_missing_100 : decode cX8_missing 100 = .ok (.iload 6, 2) := by decide +kernel
theorem dX8_missing_102 : decode cX8_missing 102 = .ok (.iload 7, 2) := by decide +kernel
theorem dX8_missing_104 : decode cX8_missing 104 = .ok (.invokevirtual 53, 3) := by decide +kernel
theorem dX8_missing_107 : decode cX8_missing 107 = .ok (.ifCond .eq 7, 3) := by decide +kernel
theorem dX8_missing_110 : decode cX8_missing 110 = .ok (.iconst 0, 1) := by decide +kernel
theorem dX8_missing_111 : decode cX8_missing 111 = .ok (.goto 4, 3) := by decide +kernel
theorem dX8_missing_114 : decode cX8_missing 114 = .ok (.iconst 1, 1) := by decide +kernel
theorem dX8_missing_115 : decode cX8_missing 115 = .ok (.iadd, 1) := by decide +kernel
theorem dX8_missing_116 : decode cX8_missing 116 = .ok (.istore 5, 2) := by decide +kernel
theorem dX8_missing_118 : decode cX8_missing 118 = .ok (.iinc 7 1, 3) := by decide +kernel
theorem dX8_missing_121 : decode cX8_missing 121 = .ok (.goto (-37), 3) := by decide +kernel
theorem dX8_missing_124 : decode cX8_missing 124 = .ok (.iinc 6 1, 3) := by decide +kernel
theorem dX8_missing_127 : decode cX8_missing 127 = .ok (.goto (-52), 3) := by decide +kernel
theorem dX8_missing_130 : decode cX8_missing 130 = .ok (.iload 5, 2) := by decide +kernel
theorem dX8_missing_132 : decode cX8_missing 132 = .ok (.ireturn, 1) := by decide +kernel
set_option maxRecDepth 20000 in
theorem ggX8_kept_X8_isProxy : GoodIn wsX8_kept wsX8_isProxy := goodIn_r _ [6, 1, 7, 8, 5, 9, 10, 11, 12, 13, 14, 15, 16, 17, 18, 19, 20, 21, 22, 23] (by decide +kernel) (by decide +kernel)
set_option maxRecDepth 20000 in
theorem gX8_kept_X8_isProxy : GoodIn wsX8_kept (wsV RX8 47 RX8 yX8_isProxy wsX8_isProxy) := goodIn_app (goodIn_of _ (by decide +kernel)) ggX8_kept_X8_isProxy
theorem dX8_kept_0 : decode cX8_kept 0 = .ok (.aload_n 0, 1) := by decide +kernel
theorem dX8_kept_1 : decode cX8_kept 1 = .ok (.iload_n 1, 1) := by decide +kernel
theorem dX8_kept_2 : decode cX8_kept 2 = .ok (.invokevirtual 47, 3) := by decide +kernel
theorem dX8_kept_5 : decode cX8_kept 5 = .ok (.ifCond .eq 7, 3) := by decide +kernel
theorem dX8_kept_8 : decode cX8_kept 8 = .ok (.iload_n 2, 1) := by decide +kernel
theorem dX8_kept_9 : decode cX8_kept 9 = .ok (.ifCond .ge 5, 3) := by decide +kernel
theorem dX8_kept_12 : decode cX8_kept 12 = .ok (.iconst (-1), 1) := by decide +kernel
theorem dX8_kept_13 : decode cX8_kept 13 = .ok (.ireturn, 1) := by decide +kernel
theorem dX8_kept_14 : decode cX8_kept 14 = .ok (.iload_n 2, 1) := by decide +kernel
theorem dX8_kept_15 : decode cX8_kept 15 = .ok (.aload_n 0, 1) := by decide +kernel
theorem dX8_kept_16 : decode cX8_kept 16 = .ok (.getfield 7, 3) := by decide +kernel
theorem dX8_kept_19 : decode cX8_kept 19 = .ok (.sipush 439, 3) := by decide +kernel
theorem dX8_kept_22 : decode cX8_kept 22 = .ok (.iload_n 1, 1) := by decide +kernel
theorem dX8_kept_23 : decode cX8_kept 23 = .ok (.iadd, 1) := by decide +kernel
theorem dX8_kept_24 : decode cX8_kept 24 = .ok (.iaload, 1) := by decide +kernel
theorem dX8_kept_25 : decode cX8_kept 25 = .ok (.if_icmp .ge 21, 3) := by decide +kernel
theorem dX8_kept_28 : decode cX8_kept 28 = .ok (.aload_n 0, 1) := by decide +kernel
theorem dX8_kept_29 : decode cX8_kept 29 = .ok (.getfield 7, 3) := by decide +kernel
theorem dX8_kept_32 : decode cX8_kept 32 = .ok (.sipush 447, 3) := by decide +kernel
theorem dX8_kept_35 : decode cX8_kept 35 = .ok (.bipush 96, 2) := by decide +kernel
theorem dX8_kept_37 : decode cX8_kept 37 = .ok (.iload_n 1, 1) := by decide +kernel
theorem dX8_kept_38 : decode cX8_kept 38 = .ok (.imul, 1) := by decide +kernel
theorem dX8_kept_39 : decode cX8_kept 39 = .ok (.iadd, 1) := by decide +kernel
theorem dX8_kept_40 : decode cX8_kept 40 = .ok (.iload_n 2, 1) := by decide +kernel
theorem dX8_kept_41 : decode cX8_kept 41 = .ok (.iadd, 1) := by decide +kernel
theorem dX8_kept_42 : decode cX8_kept 42 = .ok (.iaload, 1) := by decide +kernel
theorem dX8_kept_43 : decode cX8_kept 43 = .ok (.goto 5, 3) := by decide +kernel
theorem dX8_kept_46 : decode cX8_kept 46 = .ok (.bipush (-9), 2) := by decide +kernel
theorem dX8_kept_48 : decode cX8_kept 48 = .ok (.ireturn, 1) := by decide +kernel
set_option maxRecDepth 20000 in
theorem ggX8_read_X8_isProxy : GoodIn wsX8_read wsX8_isProxy := goodIn_r _ [7, 2, 8, 9, 6, 10, 53, 54, 55, 56, 57, 58, 59, 60, 61, 62, 63, 64, 65, 66] (by decide +kernel) (by decide +kernel)
set_option maxRecDepth 20000 in
theorem gX8_read_X8_isProxy : GoodIn wsX8_read (wsV RX8 47 RX8 yX8_isProxy wsX8_isProxy) := goodIn_app (goodIn_of _ (by decide +kernel)) ggX8_read_X8_isProxy
set_option maxRecDepth 20000 in
theorem ggX8_read_X8_isUpdate : GoodIn wsX8_read wsX8_isUpdate := goodIn_r _ [14, 2, 15, 16, 6, 17, 8, 9, 10, 53, 54, 55, 56, 57, 58, 59, 60, 61, 62, 63, 64, 65, 66] (by decide +kernel) (by decide +kernel)
set_option maxRecDepth 20000 in
theorem gX8_read_X8_isUpdate : GoodIn wsX8_read (wsV RX8 128 RX8 yX8_isUpdate wsX8_isUpdate) := goodIn_app (goodIn_of _ (by decide +kernel)) ggX8_read_X8_isUpdate
set_option maxRecDepth 20000 in
theorem ggX8_read_X8_serves : GoodIn wsX8_read wsX8_serves := goodIn_r _ [21, 1, 22, 23, 24, 6, 25, 2, 26, 27, 28, 29, 30, 31, 32, 33, 53, 54, 55, 56, 57, 58, 59, 60, 61, 62, 63, 64, 65, 66] (by decide +kernel) (by decide +kernel)
set_option maxRecDepth 20000 in
theorem gX8_read_X8_serves : GoodIn wsX8_read (wsV RX8 68 RX8 yX8_serves wsX8_serves) := goodIn_app (goodIn_of _ (by decide +kernel)) ggX8_read_X8_serves
set_option maxRecDepth 20000 in
theorem ggX8_read_X8_keptPlace : GoodIn wsX8_read wsX8_keptPlace := goodIn_r _ [37, 2, 53, 54, 55, 56, 57, 58, 59, 60, 61, 62, 63, 64, 65, 66] (by decide +kernel) (by decide +kernel)
set_option maxRecDepth 20000 in
theorem gX8_read_X8_keptPlace : GoodIn wsX8_read (wsV RX8 137 RX8 yX8_keptPlace wsX8_keptPlace) := goodIn_app (goodIn_of _ (by decide +kernel)) ggX8_read_X8_keptPlace
set_option maxRecDepth 20000 in
theorem ggX8_read_X8_hold : GoodIn wsX8_read wsX8_hold := goodIn_r _ [41, 42, 2, 53, 54, 55, 56, 57, 58, 59, 60, 61, 62, 63, 64, 65, 66] (by decide +kernel) (by decide +kernel)
set_option maxRecDepth 20000 in
theorem gX8_read_X8_hold : GoodIn wsX8_read (wsV RX8 50 RX8 yX8_hold wsX8_hold) := goodIn_app (goodIn_of _ (by decide +kernel)) ggX8_read_X8_hold
set_option maxRecDepth 20000 in
theorem ggX8_read_X8_keeps : GoodIn wsX8_read wsX8_keeps := goodIn_r _ [46, 2, 1, 18, 19, 20, 6, 21, 22, 23, 24, 25, 26, 27, 28, 29, 30, 31, 32, 33, 53, 54, 55, 56, 57, 58, 59, 60, 61, 62, 63, 64, 65, 66] (by decide +kernel) (by decide +kernel)
set_option maxRecDepth 20000 in
theorem gX8_read_X8_keeps : GoodIn wsX8_read (wsV RX8 90 RX8 yX8_keeps wsX8_keeps) := goodIn_app (goodIn_of _ (by decide +kernel)) ggX8_read_X8_keeps
set_option maxRecDepth 20000 in
theorem ggX8_read_X8_ends : GoodIn wsX8_read wsX8_ends := goodIn_r _ [50, 51, 52, 42, 53, 54, 55, 56, 57, 58, 59, 60, 61, 62, 63, 64, 65, 66] (by decide +kernel) (by decide +kernel)
set_option maxRecDepth 20000 in
theorem gX8_read_X8_ends : GoodIn wsX8_read (wsV RX8 35 RX8 yX8_ends wsX8_ends) := goodIn_app (goodIn_of _ (by decide +kernel)) ggX8_read_X8_ends
theorem dX8_read_0 : decode cX8_read 0 = .ok (.aload_n 0, 1) := by decide +kernel
theorem dX8_read_1 : decode cX8_read 1 = .ok (.iload_n 1, 1) := by decide +kernel
theorem dX8_read_2 : decode cX8_read 2 = .ok (.invokevirtual 47, 3) := by decide +kernel
theorem dX8_read_5 : decode cX8_read 5 = .ok (.ifCond .eq 12, 3) := by decide +kernel
theorem dX8_read_8 : decode cX8_read 8 = .ok (.aload_n 0, 1) := by decide +kernel
theorem dX8_read_9 : decode cX8_read 9 = .ok (.iload_n 2, 1) := by decide +kernel
theorem dX8_read_10 : decode cX8_read 10 = .ok (.iload_n 3, 1) := by decide +kernel
theorem dX8_read_11 : decode cX8_read 11 = .ok (.invokevirtual 128, 3) := by decide +kernel
theorem dX8_read_14 : decode cX8_read 14 = .ok (.ifCond .ne 5, 3) := by decide +kernel
theorem dX8_read_17 : decode cX8_read 17 = .ok (.iconst (-1), 1) := by decide +kernel
theorem dX8_read_18 : decode cX8_read 18 = .ok (.ireturn, 1) := by decide +kernel
theorem dX8_read_19 : decode cX8_read 19 = .ok (.aload_n 0, 1) := by decide +kernel
theorem dX8_read_20 : decode cX8_read 20 = .ok (.iload_n 1, 1) := by decide +kernel
theorem dX8_read_21 : decode cX8_read 21 = .ok (.invokevirtual 68, 3) := by decide +kernel
theorem dX8_read_24 : decode cX8_read 24 = .ok (.iload_n 3, 1) := by decide +kernel
theorem dX8_read_25 : decode cX8_read 25 = .ok (.aload_n 0, 1) := by decide +kernel
theorem dX8_read_26 : decode cX8_read 26 = .ok (.getfield 22, 3) := by decide +kernel
theorem dX8_read_29 : decode cX8_read 29 = .ok (.iload_n 2, 1) := by decide +kernel
theorem dX8_read_30 : decode cX8_read 30 = .ok (.iaload, 1) := by decide +kernel
theorem dX8_read_31 : decode cX8_read 31 = .ok (.if_icmp .le 6, 3) := by decide +kernel
theorem dX8_read_34 : decode cX8_read 34 = .ok (.bipush (-2), 2) := by decide +kernel
theorem dX8_read_36 : decode cX8_read 36 = .ok (.ireturn, 1) := by decide +kernel
theorem dX8_read_37 : decode cX8_read 37 = .ok (.bipush 100, 2) := by decide +kernel
theorem dX8_read_39 : decode cX8_read 39 = .ok (.iload_n 2, 1) := by decide +kernel
theorem dX8_read_40 : decode cX8_read 40 = .ok (.imul, 1) := by decide +kernel
theorem dX8_read_41 : decode cX8_read 41 = .ok (.iload_n 3, 1) := by decide +kernel
theorem dX8_read_42 : decode cX8_read 42 = .ok (.iadd, 1) := by decide +kernel
theorem dX8_read_43 : decode cX8_read 43 = .ok (.istore 4, 2) := by decide +kernel
theorem dX8_read_45 : decode cX8_read 45 = .ok (.iconst 0, 1) := by decide +kernel
theorem dX8_read_46 : decode cX8_read 46 = .ok (.istore 5, 2) := by decide +kernel
theorem dX8_read_48 : decode cX8_read 48 = .ok (.iload_n 1, 1) := by decide +kernel
theorem dX8_read_49 : decode cX8_read 49 = .ok (.istore 6, 2) := by decide +kernel
theorem dX8_read_51 : decode cX8_read 51 = .ok (.iload 6, 2) := by decide +kernel
theorem dX8_read_53 : decode cX8_read 53 = .ok (.ifCond .le 32, 3) := by decide +kernel
theorem dX8_read_56 : decode cX8_read 56 = .ok (.aload_n 0, 1) := by decide +kernel
theorem dX8_read_57 : decode cX8_read 57 = .ok (.iload 6, 2) := by decide +kernel
theorem dX8_read_59 : decode cX8_read 59 = .ok (.iload 4, 2) := by decide +kernel
theorem dX8_read_61 : decode cX8_read 61 = .ok (.invokevirtual 137, 3) := by decide +kernel
theorem dX8_read_64 : decode cX8_read 64 = .ok (.ifCond .ge 21, 3) := by decide +kernel
theorem dX8_read_67 : decode cX8_read 67 = .ok (.aload_n 0, 1) := by decide +kernel
theorem dX8_read_68 : decode cX8_read 68 = .ok (.getfield 7, 3) := by decide +kernel
theorem dX8_read_71 : decode cX8_read 71 = .ok (.bipush 7, 2) := by decide +kernel
theorem dX8_read_73 : decode cX8_read 73 = .ok (.iload 6, 2) := by decide +kernel
theorem dX8_read_75 : decode cX8_read 75 = .ok (.iadd, 1) := by decide +kernel
theorem dX8_read_76 : decode cX8_read 76 = .ok (.iaload, 1) := by decide +kernel
theorem dX8_read_77 : decode cX8_read 77 = .ok (.istore 6, 2) := by decide +kernel
theorem dX8_read_79 : decode cX8_read 79 = .ok (.iinc 5 1, 3) := by decide +kernel
theorem dX8_read_82 : decode cX8_read 82 = .ok (.goto (-31), 3) := by decide +kernel
theorem dX8_read_85 : decode cX8_read 85 = .ok (.aload_n 0, 1) := by decide +kernel
theorem dX8_read_86 : decode cX8_read 86 = .ok (.iload 6, 2) := by decide +kernel
theorem dX8_read_88 : decode cX8_read 88 = .ok (.iload 4, 2) := by decide +kernel
theorem dX8_read_90 : decode cX8_read 90 = .ok (.invokevirtual 137, 3) := by decide +kernel
theorem dX8_read_93 : decode cX8_read 93 = .ok (.ifCond .ge 6, 3) := by decide +kernel
theorem dX8_read_96 : decode cX8_read 96 = .ok (.bipush (-9), 2) := by decide +kernel
theorem dX8_read_98 : decode cX8_read 98 = .ok (.ireturn, 1) := by decide +kernel
theorem dX8_read_99 : decode cX8_read 99 = .ok (.aload_n 0, 1) := by decide +kernel
theorem dX8_read_100 : decode cX8_read 100 = .ok (.invokevirtual 50, 3) := by decide +kernel
theorem dX8_read_103 : decode cX8_read 103 = .ok (.iload 5, 2) := by decide +kernel
theorem dX8_read_105 : decode cX8_read 105 = .ok (.ifCond .le 10, 3) := by decide +kernel
theorem dX8_read_108 : decode cX8_read 108 = .ok (.aload_n 0, 1) := by decide +kernel
theorem dX8_read_109 : decode cX8_read 109 = .ok (.iload_n 1, 1) := by decide +kernel
theorem dX8_read_110 : decode cX8_read 110 = .ok (.iload 4, 2) := by decide +kernel
theorem dX8_read_112 : decode cX8_read 112 = .ok (.invokevirtual 90, 3) := by decide +kernel
theorem dX8_read_115 : decode cX8_read 115 = .ok (.aload_n 0, 1) := by decide +kernel
theorem dX8_read_116 : decode cX8_read 116 = .ok (.iload 5, 2) := by decide +kernel
theorem dX8_read_118 : decode cX8_read 118 = .ok (.invokevirtual 35, 3) := by decide +kernel
theorem dX8_read_121 : decode cX8_read 121 = .ok (.ireturn, 1) := by decide +kernel
set_option maxRecDepth 20000 in
theorem ggX8_ask_X8_hold : GoodIn wsX8_ask wsX8_hold := goodIn_r _ [5, 6, 7, 87, 88, 89, 90, 91, 92, 93, 94, 95, 96, 97, 98, 99, 100] (by decide +kernel) (by decide +kernel)
set_option maxRecDepth 20000 in
theorem gX8_ask_X8_hold : GoodIn wsX8_ask (wsV RX8 50 RX8 yX8_hold wsX8_hold) := goodIn_app (goodIn_of _ (by decide +kernel)) ggX8_ask_X8_hold
set_option maxRecDepth 20000 in
theorem ggX8_ask_X8_asks : GoodIn wsX8_ask wsX8_asks := goodIn_r _ [11, 12, 7, 13, 14, 15, 4, 16, 17, 18, 19, 20, 21, 22, 23, 24, 25, 26, 27, 28, 29, 30, 31, 32, 33, 34, 35, 36, 37, 38, 39, 40, 41, 42, 43, 44, 45, 46, 47, 48, 49, 50, 51, 52, 53, 54, 55, 56, 57, 58, 59, 60, 61, 62, 63, 64, 65, 66, 67, 68, 69, 70, 71, 72, 73, 74, 75, 76, 87, 88, 89, 90, 91, 92, 93, 94, 95, 96, 97, 98, 99, 100] (by decide +kernel) (by decide +kernel)
set_option maxRecDepth 20000 in
theorem gX8_ask_X8_asks : GoodIn wsX8_ask (wsV RX8 144 RX8 yX8_asks wsX8_asks) := goodIn_app (goodIn_of _ (by decide +kernel)) ggX8_ask_X8_asks
set_option maxRecDepth 20000 in
theorem ggX8_ask_X8_closes : GoodIn wsX8_ask wsX8_closes := goodIn_r _ [80, 81, 82, 83, 4, 84, 85, 86, 6, 87, 88, 89, 90, 91, 92, 93, 94, 95, 96, 97, 98, 99, 100] (by decide +kernel) (by decide +kernel)
set_option maxRecDepth 20000 in
theorem gX8_ask_X8_closes : GoodIn wsX8_ask (wsV RX8 125 RX8 yX8_closes wsX8_closes) := goodIn_app (goodIn_of _ (by decide +kernel)) ggX8_ask_X8_closes
theorem dX8_ask_0 : decode cX8_ask 0 = .ok (.aload_n 0, 1) := by decide +kernel
theorem dX8_ask_1 : decode cX8_ask 1 = .ok (.invokevirtual 50, 3) := by decide +kernel
theorem dX8_ask_4 : decode cX8_ask 4 = .ok (.aload_n 0, 1) := by decide +kernel
theorem dX8_ask_5 : decode cX8_ask 5 = .ok (.aload_n 0, 1) := by decide +kernel
theorem dX8_ask_6 : decode cX8_ask 6 = .ok (.iload_n 1, 1) := by decide +kernel
theorem dX8_ask_7 : decode cX8_ask 7 = .ok (.invokevirtual 144, 3) := by decide +kernel
theorem dX8_ask_10 : decode cX8_ask 10 = .ok (.invokevirtual 125, 3) := by decide +kernel
theorem dX8_ask_13 : decode cX8_ask 13 = .ok (.ireturn, 1) := by decide +kernel
set_option maxRecDepth 20000 in
theorem ggX8_covers_X8_isProxy : GoodIn wsX8_covers wsX8_isProxy := goodIn_r _ [6, 1, 7, 8, 5, 9, 10, 11, 12, 13, 14, 15, 16, 17, 18, 19, 20, 21, 22, 23] (by decide +kernel) (by decide +kernel)
set_option maxRecDepth 20000 in
theorem gX8_covers_X8_isProxy : GoodIn wsX8_covers (wsV RX8 47 RX8 yX8_isProxy wsX8_isProxy) := goodIn_app (goodIn_of _ (by decide +kernel)) ggX8_covers_X8_isProxy
theorem dX8_covers_0 : decode cX8_covers 0 = .ok (.aload_n 0, 1) := by decide +kernel
theorem dX8_covers_1 : decode cX8_covers 1 = .ok (.iload_n 1, 1) := by decide +kernel
theorem dX8_covers_2 : decode cX8_covers 2 = .ok (.invokevirtual 47, 3) := by decide +kernel
theorem dX8_covers_5 : decode cX8_covers 5 = .ok (.ifCond .eq 11, 3) := by decide +kernel
theorem dX8_covers_8 : decode cX8_covers 8 = .ok (.aload_n 0, 1) := by decide +kernel
theorem dX8_covers_9 : decode cX8_covers 9 = .ok (.iload_n 2, 1) := by decide +kernel
theorem dX8_covers_10 : decode cX8_covers 10 = .ok (.invokevirtual 47, 3) := by decide +kernel
theorem dX8_covers_13 : decode cX8_covers 13 = .ok (.ifCond .ne 5, 3) := by decide +kernel
theorem dX8_covers_16 : decode cX8_covers 16 = .ok (.iconst (-1), 1) := by decide +kernel
theorem dX8_covers_17 : decode cX8_covers 17 = .ok (.ireturn, 1) := by decide +kernel
theorem dX8_covers_18 : decode cX8_covers 18 = .ok (.iconst 1, 1) := by decide +kernel
theorem dX8_covers_19 : decode cX8_covers 19 = .ok (.istore_n 3, 1) := by decide +kernel
theorem dX8_covers_20 : decode cX8_covers 20 = .ok (.iconst 0, 1) := by decide +kernel
theorem dX8_covers_21 : decode cX8_covers 21 = .ok (.istore 4, 2) := by decide +kernel
theorem dX8_covers_23 : decode cX8_covers 23 = .ok (.iload 4, 2) := by decide +kernel
theorem dX8_covers_25 : decode cX8_covers 25 = .ok (.iconst 4, 1) := by decide +kernel
theorem dX8_covers_26 : decode cX8_covers 26 = .ok (.if_icmp .ge 55, 3) := by decide +kernel
theorem dX8_covers_29 : decode cX8_covers 29 = .ok (.iload_n 3, 1) := by decide +kernel
theorem dX8_covers_30 : decode cX8_covers 30 = .ok (.ifCond .eq 43, 3) := by decide +kernel
theorem dX8_covers_33 : decode cX8_covers 33 = .ok (.aload_n 0, 1) := by decide +kernel
theorem dX8_covers_34 : decode cX8_covers 34 = .ok (.getfield 7, 3) := by decide +kernel
theorem dX8_covers_37 : decode cX8_covers 37 = .ok (.sipush 407, 3) := by decide +kernel
theorem dX8_covers_40 : decode cX8_covers 40 = .ok (.iconst 4, 1) := by decide +kernel
theorem dX8_covers_41 : decode cX8_covers 41 = .ok (.iload_n 2, 1) := by decide +kernel
theorem dX8_covers_42 : decode cX8_covers 42 = .ok (.imul, 1) := by decide +kernel
theorem dX8_covers_43 : decode cX8_covers 43 = .ok (.iadd, 1) := by decide +kernel
theorem dX8_covers_44 : decode cX8_covers 44 = .ok (.iload 4, 2) := by decide +kernel
theorem dX8_covers_46 : decode cX8_covers 46 = .ok (.iadd, 1) := by decide +kernel
theorem dX8_covers_47 : decode cX8_covers 47 = .ok (.iaload, 1) := by decide +kernel
theorem dX8_covers_48 : decode cX8_covers 48 = .ok (.aload_n 0, 1) := by decide +kernel
theorem dX8_covers_49 : decode cX8_covers 49 = .ok (.getfield 7, 3) := by decide +kernel
theorem dX8_covers_52 : decode cX8_covers 52 = .ok (.sipush 407, 3) := by decide +kernel
theorem dX8_covers_55 : decode cX8_covers 55 = .ok (.iconst 4, 1) := by decide +kernel
theorem dX8_covers_56 : decode cX8_covers 56 = .ok (.iload_n 1, 1) := by decide +kernel
theorem dX8_covers_57 : decode cX8_covers 57 = .ok (.imul, 1) := by decide +kernel
theorem dX8_covers_58 : decode cX8_covers 58 = .ok (.iadd, 1) := by decide +kernel
theorem dX8_covers_59 : decode cX8_covers 59 = .ok (.iload 4, 2) := by decide +kernel
theorem dX8_covers_61 : decode cX8_covers 61 = .ok (.iadd, 1) := by decide +kernel
theorem dX8_covers_62 : decode cX8_covers 62 = .ok (.iaload, 1) := by decide +kernel
theorem dX8_covers_63 : decode cX8_covers 63 = .ok (.iconst (-1), 1) := by decide +kernel
theorem dX8_covers_64 : decode cX8_covers 64 = .ok (.ixor, 1) := by decide +kernel
theorem dX8_covers_65 : decode cX8_covers 65 = .ok (.iand, 1) := by decide +kernel
theorem dX8_covers_66 : decode cX8_covers 66 = .ok (.ifCond .ne 7, 3) := by decide +kernel
theorem dX8_covers_69 : decode cX8_covers 69 = .ok (.iconst 1, 1) := by decide +kernel
theorem dX8_covers_70 : decode cX8_covers 70 = .ok (.goto 4, 3) := by decide +kernel
theorem dX8_covers_73 : decode cX8_covers 73 = .ok (.iconst 0, 1) := by decide +kernel
theorem dX8_covers_74 : decode cX8_covers 74 = .ok (.istore_n 3, 1) := by decide +kernel
theorem dX8_covers_75 : decode cX8_covers 75 = .ok (.iinc 4 1, 3) := by decide +kernel
theorem dX8_covers_78 : decode cX8_covers 78 = .ok (.goto (-55), 3) := by decide +kernel
theorem dX8_covers_81 : decode cX8_covers 81 = .ok (.iload_n 3, 1) := by decide +kernel
theorem dX8_covers_82 : decode cX8_covers 82 = .ok (.ifCond .eq 7, 3) := by decide +kernel
theorem dX8_covers_85 : decode cX8_covers 85 = .ok (.iconst 1, 1) := by decide +kernel
theorem dX8_covers_86 : decode cX8_covers 86 = .ok (.goto 4, 3) := by decide +kernel
theorem dX8_covers_89 : decode cX8_covers 89 = .ok (.iconst 0, 1) := by decide +kernel
theorem dX8_covers_90 : decode cX8_covers 90 = .ok (.ireturn, 1) := by decide +kernel
set_option maxRecDepth 20000 in
theorem ggX8_upToDate_X8_serves : GoodIn wsX8_upToDate wsX8_serves := goodIn_r _ [7, 2, 8, 9, 10, 6, 11, 1, 12, 13, 14, 15, 16, 17, 18, 19, 20, 21, 22, 23, 24, 25, 26, 27, 28, 29, 30, 31, 32, 33] (by decide +kernel) (by decide +kernel)
set_option maxRecDepth 20000 in
theorem gX8_upToDate_X8_serves : GoodIn wsX8_upToDate (wsV RX8 68 RX8 yX8_serves wsX8_serves) := goodIn_app (goodIn_of _ (by decide +kernel)) ggX8_upToDate_X8_serves
theorem dX8_upToDate_0 : decode cX8_upToDate 0 = .ok (.iconst 0, 1) := by decide +kernel
theorem dX8_upToDate_1 : decode cX8_upToDate 1 = .ok (.istore_n 1, 1) := by decide +kernel
theorem dX8_upToDate_2 : decode cX8_upToDate 2 = .ok (.iconst 0, 1) := by decide +kernel
theorem dX8_upToDate_3 : decode cX8_upToDate 3 = .ok (.istore_n 2, 1) := by decide +kernel
theorem dX8_upToDate_4 : decode cX8_upToDate 4 = .ok (.iload_n 2, 1) := by decide +kernel
theorem dX8_upToDate_5 : decode cX8_upToDate 5 = .ok (.aload_n 0, 1) := by decide +kernel
theorem dX8_upToDate_6 : decode cX8_upToDate 6 = .ok (.getfield 7, 3) := by decide +kernel
theorem dX8_upToDate_9 : decode cX8_upToDate 9 = .ok (.iconst 0, 1) := by decide +kernel
theorem dX8_upToDate_10 : decode cX8_upToDate 10 = .ok (.iaload, 1) := by decide +kernel
theorem dX8_upToDate_11 : decode cX8_upToDate 11 = .ok (.if_icmp .ge 73, 3) := by decide +kernel
theorem dX8_upToDate_14 : decode cX8_upToDate 14 = .ok (.aload_n 0, 1) := by decide +kernel
theorem dX8_upToDate_15 : decode cX8_upToDate 15 = .ok (.iload_n 2, 1) := by decide +kernel
theorem dX8_upToDate_16 : decode cX8_upToDate 16 = .ok (.invokevirtual 68, 3) := by decide +kernel
theorem dX8_upToDate_19 : decode cX8_upToDate 19 = .ok (.iconst 1, 1) := by decide +kernel
theorem dX8_upToDate_20 : decode cX8_upToDate 20 = .ok (.istore_n 3, 1) := by decide +kernel
theorem dX8_upToDate_21 : decode cX8_upToDate 21 = .ok (.iconst 0, 1) := by decide +kernel
theorem dX8_upToDate_22 : decode cX8_upToDate 22 = .ok (.istore 4, 2) := by decide +kernel
theorem dX8_upToDate_24 : decode cX8_upToDate 24 = .ok (.iload 4, 2) := by decide +kernel
theorem dX8_upToDate_26 : decode cX8_upToDate 26 = .ok (.iconst 4, 1) := by decide +kernel
theorem dX8_upToDate_27 : decode cX8_upToDate 27 = .ok (.if_icmp .ge 39, 3) := by decide +kernel
theorem dX8_upToDate_30 : decode cX8_upToDate 30 = .ok (.iload_n 3, 1) := by decide +kernel
theorem dX8_upToDate_31 : decode cX8_upToDate 31 = .ok (.ifCond .eq 27, 3) := by decide +kernel
theorem dX8_upToDate_34 : decode cX8_upToDate 34 = .ok (.aload_n 0, 1) := by decide +kernel
theorem dX8_upToDate_35 : decode cX8_upToDate 35 = .ok (.getfield 22, 3) := by decide +kernel
theorem dX8_upToDate_38 : decode cX8_upToDate 38 = .ok (.iload 4, 2) := by decide +kernel
theorem dX8_upToDate_40 : decode cX8_upToDate 40 = .ok (.iaload, 1) := by decide +kernel
theorem dX8_upToDate_41 : decode cX8_upToDate 41 = .ok (.aload_n 0, 1) := by decide +kernel
theorem dX8_upToDate_42 : decode cX8_upToDate 42 = .ok (.getfield 7, 3) := by decide +kernel
theorem dX8_upToDate_45 : decode cX8_upToDate 45 = .ok (.bipush 19, 2) := by decide +kernel
theorem dX8_upToDate_47 : decode cX8_upToDate 47 = .ok (.iload 4, 2) := by decide +kernel
theorem dX8_upToDate_49 : decode cX8_upToDate 49 = .ok (.iadd, 1) := by decide +kernel
theorem dX8_upToDate_50 : decode cX8_upToDate 50 = .ok (.iaload, 1) := by decide +kernel
theorem dX8_upToDate_51 : decode cX8_upToDate 51 = .ok (.if_icmp .ne 7, 3) := by decide +kernel
theorem dX8_upToDate_54 : decode cX8_upToDate 54 = .ok (.iconst 1, 1) := by decide +kernel
theorem dX8_upToDate_55 : decode cX8_upToDate 55 = .ok (.goto 4, 3) := by decide +kernel
theorem dX8_upToDate_58 : decode cX8_upToDate 58 = .ok (.iconst 0, 1) := by decide +kernel
theorem dX8_upToDate_59 : decode cX8_upToDate 59 = .ok (.istore_n 3, 1) := by decide +kernel
theorem dX8_upToDate_60 : decode cX8_upToDate 60 = .ok (.iinc 4 1, 3) := by decide +kernel
theorem dX8_upToDate_63 : decode cX8_upToDate 63 = .ok (.goto (-39), 3) := by decide +kernel
theorem dX8_upToDate_66 : decode cX8_upToDate 66 = .ok (.iload_n 1, 1) := by decide +kernel
theorem dX8_upToDate_67 : decode cX8_upToDate 67 = .ok (.iload_n 3, 1) := by decide +kernel
theorem dX8_upToDate_68 : decode cX8_upToDate 68 = .ok (.ifCond .eq 7, 3) := by decide +kernel
theorem dX8_upToDate_71 : decode cX8_upToDate 71 = .ok (.iconst 1, 1) := by decide +kernel
theorem dX8_upToDate_72 : decode cX8_upToDate 72 = .ok (.goto 4, 3) := by decide +kernel
theorem dX8_upToDate_75 : decode cX8_upToDate 75 = .ok (.iconst 0, 1) := by decide +kernel
theorem dX8_upToDate_76 : decode cX8_upToDate 76 = .ok (.iadd, 1) := by decide +kernel
theorem dX8_upToDate_77 : decode cX8_upToDate 77 = .ok (.istore_n 1, 1) := by decide +kernel
theorem dX8_upToDate_78 : decode cX8_upToDate 78 = .ok (.iinc 2 1, 3) := by decide +kernel
theorem dX8_upToDate_81 : decode cX8_upToDate 81 = .ok (.goto (-77), 3) := by decide +kernel
theorem dX8_upToDate_84 : decode cX8_upToDate 84 = .ok (.iload_n 1, 1) := by decide +kernel
theorem dX8_upToDate_85 : decode cX8_upToDate 85 = .ok (.ireturn, 1) := by decide +kernel
set_option maxRecDepth 20000 in
theorem ggX8_appendCharacter_X8_in : GoodIn wsX8_appendCharacter wsX8_in := goodIn_r _ [6] (by decide +kernel) (by decide +kernel)
set_option maxRecDepth 20000 in
theorem gX8_appendCharacter_X8_in : GoodIn wsX8_appendCharacter (va_wsS RX8 39 yX8_in wsX8_in) := goodIn_app (goodIn_of _ (by decide +kernel)) ggX8_appendCharacter_X8_in
theorem dX8_appendCharacter_0 : decode cX8_appendCharacter 0 = .ok (.iload_n 1, 1) := by decide +kernel
theorem dX8_appendCharacter_1 : decode cX8_appendCharacter 1 = .ok (.iconst 0, 1) := by decide +kernel
theorem dX8_appendCharacter_2 : decode cX8_appendCharacter 2 = .ok (.sipush 255, 3) := by decide +kernel
theorem dX8_appendCharacter_5 : decode cX8_appendCharacter 5 = .ok (.invokestatic 39, 3) := by decide +kernel
theorem dX8_appendCharacter_8 : decode cX8_appendCharacter 8 = .ok (.ifCond .ne 5, 3) := by decide +kernel
theorem dX8_appendCharacter_11 : decode cX8_appendCharacter 11 = .ok (.iconst (-1), 1) := by decide +kernel
theorem dX8_appendCharacter_12 : decode cX8_appendCharacter 12 = .ok (.ireturn, 1) := by decide +kernel
theorem dX8_appendCharacter_13 : decode cX8_appendCharacter 13 = .ok (.aload_n 0, 1) := by decide +kernel
theorem dX8_appendCharacter_14 : decode cX8_appendCharacter 14 = .ok (.getfield 147, 3) := by decide +kernel
theorem dX8_appendCharacter_17 : decode cX8_appendCharacter 17 = .ok (.bipush 100, 2) := by decide +kernel
theorem dX8_appendCharacter_19 : decode cX8_appendCharacter 19 = .ok (.if_icmp .ne 6, 3) := by decide +kernel
theorem dX8_appendCharacter_22 : decode cX8_appendCharacter 22 = .ok (.bipush (-3), 2) := by decide +kernel
theorem dX8_appendCharacter_24 : decode cX8_appendCharacter 24 = .ok (.ireturn, 1) := by decide +kernel
theorem dX8_appendCharacter_25 : decode cX8_appendCharacter 25 = .ok (.aload_n 0, 1) := by decide +kernel
theorem dX8_appendCharacter_26 : decode cX8_appendCharacter 26 = .ok (.getfield 19, 3) := by decide +kernel
theorem dX8_appendCharacter_29 : decode cX8_appendCharacter 29 = .ok (.aload_n 0, 1) := by decide +kernel
theorem dX8_appendCharacter_30 : decode cX8_appendCharacter 30 = .ok (.getfield 147, 3) := by decide +kernel
theorem dX8_appendCharacter_33 : decode cX8_appendCharacter 33 = .ok (.iload_n 1, 1) := by decide +kernel
theorem dX8_appendCharacter_34 : decode cX8_appendCharacter 34 = .ok (.iastore, 1) := by decide +kernel
theorem dX8_appendCharacter_35 : decode cX8_appendCharacter 35 = .ok (.aload_n 0, 1) := by decide +kernel
theorem dX8_appendCharacter_36 : decode cX8_appendCharacter 36 = .ok (.dup, 1) := by decide +kernel
theorem dX8_appendCharacter_37 : decode cX8_appendCharacter 37 = .ok (.getfield 147, 3) := by decide +kernel
theorem dX8_appendCharacter_40 : decode cX8_appendCharacter 40 = .ok (.iconst 1, 1) := by decide +kernel
theorem dX8_appendCharacter_41 : decode cX8_appendCharacter 41 = .ok (.iadd, 1) := by decide +kernel
theorem dX8_appendCharacter_42 : decode cX8_appendCharacter 42 = .ok (.putfield 147, 3) := by decide +kernel
theorem dX8_appendCharacter_45 : decode cX8_appendCharacter 45 = .ok (.aload_n 0, 1) := by decide +kernel
theorem dX8_appendCharacter_46 : decode cX8_appendCharacter 46 = .ok (.getfield 147, 3) := by decide +kernel
theorem dX8_appendCharacter_49 : decode cX8_appendCharacter 49 = .ok (.ireturn, 1) := by decide +kernel
theorem dX8_clearText_0 : decode cX8_clearText 0 = .ok (.aload_n 0, 1) := by decide +kernel
theorem dX8_clearText_1 : decode cX8_clearText 1 = .ok (.getfield 147, 3) := by decide +kernel
theorem dX8_clearText_4 : decode cX8_clearText 4 = .ok (.istore_n 1, 1) := by decide +kernel
theorem dX8_clearText_5 : decode cX8_clearText 5 = .ok (.aload_n 0, 1) := by decide +kernel
theorem dX8_clearText_6 : decode cX8_clearText 6 = .ok (.iconst 0, 1) := by decide +kernel
theorem dX8_clearText_7 : decode cX8_clearText 7 = .ok (.putfield 147, 3) := by decide +kernel
theorem dX8_clearText_10 : decode cX8_clearText 10 = .ok (.iload_n 1, 1) := by decide +kernel
theorem dX8_clearText_11 : decode cX8_clearText 11 = .ok (.ireturn, 1) := by decide +kernel
theorem dX8_skips_0 : decode cX8_skips 0 = .ok (.aload_n 0, 1) := by decide +kernel
theorem dX8_skips_1 : decode cX8_skips 1 = .ok (.getfield 150, 3) := by decide +kernel
theorem dX8_skips_4 : decode cX8_skips 4 = .ok (.aload_n 0, 1) := by decide +kernel
theorem dX8_skips_5 : decode cX8_skips 5 = .ok (.getfield 147, 3) := by decide +kernel
theorem dX8_skips_8 : decode cX8_skips 8 = .ok (.if_icmp .ge 30, 3) := by decide +kernel
theorem dX8_skips_11 : decode cX8_skips 11 = .ok (.aload_n 0, 1) := by decide +kernel
theorem dX8_skips_12 : decode cX8_skips 12 = .ok (.getfield 19, 3) := by decide +kernel
theorem dX8_skips_15 : decode cX8_skips 15 = .ok (.aload_n 0, 1) := by decide +kernel
theorem dX8_skips_16 : decode cX8_skips 16 = .ok (.getfield 150, 3) := by decide +kernel
theorem dX8_skips_19 : decode cX8_skips 19 = .ok (.iaload, 1) := by decide +kernel
theorem dX8_skips_20 : decode cX8_skips 20 = .ok (.bipush 32, 2) := by decide +kernel
theorem dX8_skips_22 : decode cX8_skips 22 = .ok (.if_icmp .ne 16, 3) := by decide +kernel
theorem dX8_skips_25 : decode cX8_skips 25 = .ok (.aload_n 0, 1) := by decide +kernel
theorem dX8_skips_26 : decode cX8_skips 26 = .ok (.dup, 1) := by decide +kernel
theorem dX8_skips_27 : decode cX8_skips 27 = .ok (.getfield 150, 3) := by decide +kernel
theorem dX8_skips_30 : decode cX8_skips 30 = .ok (.iconst 1, 1) := by decide +kernel
theorem dX8_skips_31 : decode cX8_skips 31 = .ok (.iadd, 1) := by decide +kernel
theorem dX8_skips_32 : decode cX8_skips 32 = .ok (.putfield 150, 3) := by decide +kernel
theorem dX8_skips_35 : decode cX8_skips 35 = .ok (.goto (-35), 3) := by decide +kernel
theorem dX8_skips_38 : decode cX8_skips 38 = .ok (.return_, 1) := by decide +kernel
set_option maxRecDepth 20000 in
theorem ggX8_digit_X8_skips : GoodIn wsX8_digit wsX8_skips := goodIn_r _ [8, 1, 2, 3, 12, 13, 14, 15, 16, 17, 18, 19, 20, 21, 22, 23, 24, 25] (by decide +kernel) (by decide +kernel)
set_option maxRecDepth 20000 in
theorem gX8_digit_X8_skips : GoodIn wsX8_digit (wsV RX8 153 RX8 yX8_skips wsX8_skips) := goodIn_app (goodIn_of _ (by decide +kernel)) ggX8_digit_X8_skips
set_option maxRecDepth 20000 in
theorem ggX8_digit_X8_in : GoodIn wsX8_digit wsX8_in := goodIn_r _ [11] (by decide +kernel) (by decide +kernel)
set_option maxRecDepth 20000 in
theorem gX8_digit_X8_in : GoodIn wsX8_digit (va_wsS RX8 39 yX8_in wsX8_in) := goodIn_app (goodIn_of _ (by decide +kernel)) ggX8_digit_X8_in
theorem dX8_digit_0 : decode cX8_digit 0 = .ok (.aload_n 0, 1) := by decide +kernel
theorem dX8_digit_1 : decode cX8_digit 1 = .ok (.invokevirtual 153, 3) := by decide +kernel
theorem dX8_digit_4 : decode cX8_digit 4 = .ok (.aload_n 0, 1) := by decide +kernel
theorem dX8_digit_5 : decode cX8_digit 5 = .ok (.getfield 150, 3) := by decide +kernel
theorem dX8_digit_8 : decode cX8_digit 8 = .ok (.aload_n 0, 1) := by decide +kernel
theorem dX8_digit_9 : decode cX8_digit 9 = .ok (.getfield 147, 3) := by decide +kernel
theorem dX8_digit_12 : decode cX8_digit 12 = .ok (.if_icmp .ge 51, 3) := by decide +kernel
theorem dX8_digit_15 : decode cX8_digit 15 = .ok (.aload_n 0, 1) := by decide +kernel
theorem dX8_digit_16 : decode cX8_digit 16 = .ok (.getfield 19, 3) := by decide +kernel
theorem dX8_digit_19 : decode cX8_digit 19 = .ok (.aload_n 0, 1) := by decide +kernel
theorem dX8_digit_20 : decode cX8_digit 20 = .ok (.getfield 150, 3) := by decide +kernel
theorem dX8_digit_23 : decode cX8_digit 23 = .ok (.iaload, 1) := by decide +kernel
theorem dX8_digit_24 : decode cX8_digit 24 = .ok (.bipush 48, 2) := by decide +kernel
theorem dX8_digit_26 : decode cX8_digit 26 = .ok (.iload_n 1, 1) := by decide +kernel
theorem dX8_digit_27 : decode cX8_digit 27 = .ok (.iadd, 1) := by decide +kernel
theorem dX8_digit_28 : decode cX8_digit 28 = .ok (.bipush 48, 2) := by decide +kernel
theorem dX8_digit_30 : decode cX8_digit 30 = .ok (.iload_n 2, 1) := by decide +kernel
theorem dX8_digit_31 : decode cX8_digit 31 = .ok (.iadd, 1) := by decide +kernel
theorem dX8_digit_32 : decode cX8_digit 32 = .ok (.invokestatic 39, 3) := by decide +kernel
theorem dX8_digit_35 : decode cX8_digit 35 = .ok (.ifCond .eq 28, 3) := by decide +kernel
theorem dX8_digit_38 : decode cX8_digit 38 = .ok (.aload_n 0, 1) := by decide +kernel
theorem dX8_digit_39 : decode cX8_digit 39 = .ok (.dup, 1) := by decide +kernel
theorem dX8_digit_40 : decode cX8_digit 40 = .ok (.getfield 150, 3) := by decide +kernel
theorem dX8_digit_43 : decode cX8_digit 43 = .ok (.iconst 1, 1) := by decide +kernel
theorem dX8_digit_44 : decode cX8_digit 44 = .ok (.iadd, 1) := by decide +kernel
theorem dX8_digit_45 : decode cX8_digit 45 = .ok (.putfield 150, 3) := by decide +kernel
theorem dX8_digit_48 : decode cX8_digit 48 = .ok (.aload_n 0, 1) := by decide +kernel
theorem dX8_digit_49 : decode cX8_digit 49 = .ok (.getfield 19, 3) := by decide +kernel
theorem dX8_digit_52 : decode cX8_digit 52 = .ok (.aload_n 0, 1) := by decide +kernel
theorem dX8_digit_53 : decode cX8_digit 53 = .ok (.getfield 150, 3) := by decide +kernel
theorem dX8_digit_56 : decode cX8_digit 56 = .ok (.iconst 1, 1) := by decide +kernel
theorem dX8_digit_57 : decode cX8_digit 57 = .ok (.isub, 1) := by decide +kernel
theorem dX8_digit_58 : decode cX8_digit 58 = .ok (.iaload, 1) := by decide +kernel
theorem dX8_digit_59 : decode cX8_digit 59 = .ok (.bipush 48, 2) := by decide +kernel
theorem dX8_digit_61 : decode cX8_digit 61 = .ok (.isub, 1) := by decide +kernel
theorem dX8_digit_62 : decode cX8_digit 62 = .ok (.ireturn, 1) := by decide +kernel
theorem dX8_digit_63 : decode cX8_digit 63 = .ok (.bipush (-9), 2) := by decide +kernel
theorem dX8_digit_65 : decode cX8_digit 65 = .ok (.ireturn, 1) := by decide +kernel
set_option maxRecDepth 20000 in
theorem ggX8_isCommand_X8_digit : GoodIn wsX8_isCommand wsX8_digit := goodIn_r _ [11, 2, 12, 1, 13, 14, 15, 10, 16, 17, 18, 19, 20, 21, 22, 23, 24, 25, 26, 27, 28, 29, 30, 31, 32, 33] (by decide +kernel) (by decide +kernel)
set_option maxRecDepth 20000 in
theorem gX8_isCommand_X8_digit : GoodIn wsX8_isCommand (wsV RX8 159 RX8 yX8_digit wsX8_digit) := goodIn_app (goodIn_of _ (by decide +kernel)) ggX8_isCommand_X8_digit
theorem dX8_isCommand_0 : decode cX8_isCommand 0 = .ok (.aload_n 0, 1) := by decide +kernel
theorem dX8_isCommand_1 : decode cX8_isCommand 1 = .ok (.aload_n 0, 1) := by decide +kernel
theorem dX8_isCommand_2 : decode cX8_isCommand 2 = .ok (.getfield 19, 3) := by decide +kernel
theorem dX8_isCommand_5 : decode cX8_isCommand 5 = .ok (.aload_n 0, 1) := by decide +kernel
theorem dX8_isCommand_6 : decode cX8_isCommand 6 = .ok (.getfield 150, 3) := by decide +kernel
theorem dX8_isCommand_9 : decode cX8_isCommand 9 = .ok (.iaload, 1) := by decide +kernel
theorem dX8_isCommand_10 : decode cX8_isCommand 10 = .ok (.putfield 156, 3) := by decide +kernel
theorem dX8_isCommand_13 : decode cX8_isCommand 13 = .ok (.aload_n 0, 1) := by decide +kernel
theorem dX8_isCommand_14 : decode cX8_isCommand 14 = .ok (.getfield 156, 3) := by decide +kernel
theorem dX8_isCommand_17 : decode cX8_isCommand 17 = .ok (.bipush 117, 2) := by decide +kernel
theorem dX8_isCommand_19 : decode cX8_isCommand 19 = .ok (.if_icmp .eq 30, 3) := by decide +kernel
theorem dX8_isCommand_22 : decode cX8_isCommand 22 = .ok (.aload_n 0, 1) := by decide +kernel
theorem dX8_isCommand_23 : decode cX8_isCommand 23 = .ok (.getfield 156, 3) := by decide +kernel
theorem dX8_isCommand_26 : decode cX8_isCommand 26 = .ok (.bipush 100, 2) := by decide +kernel
theorem dX8_isCommand_28 : decode cX8_isCommand 28 = .ok (.if_icmp .eq 21, 3) := by decide +kernel
theorem dX8_isCommand_31 : decode cX8_isCommand 31 = .ok (.aload_n 0, 1) := by decide +kernel
theorem dX8_isCommand_32 : decode cX8_isCommand 32 = .ok (.getfield 156, 3) := by decide +kernel
theorem dX8_isCommand_35 : decode cX8_isCommand 35 = .ok (.bipush 120, 2) := by decide +kernel
theorem dX8_isCommand_37 : decode cX8_isCommand 37 = .ok (.if_icmp .eq 12, 3) := by decide +kernel
theorem dX8_isCommand_40 : decode cX8_isCommand 40 = .ok (.aload_n 0, 1) := by decide +kernel
theorem dX8_isCommand_41 : decode cX8_isCommand 41 = .ok (.getfield 156, 3) := by decide +kernel
theorem dX8_isCommand_44 : decode cX8_isCommand 44 = .ok (.bipush 121, 2) := by decide +kernel
theorem dX8_isCommand_46 : decode cX8_isCommand 46 = .ok (.if_icmp .ne 7, 3) := by decide +kernel
theorem dX8_isCommand_49 : decode cX8_isCommand 49 = .ok (.iconst 1, 1) := by decide +kernel
theorem dX8_isCommand_50 : decode cX8_isCommand 50 = .ok (.goto 4, 3) := by decide +kernel
theorem dX8_isCommand_53 : decode cX8_isCommand 53 = .ok (.iconst 0, 1) := by decide +kernel
theorem dX8_isCommand_54 : decode cX8_isCommand 54 = .ok (.istore_n 1, 1) := by decide +kernel
theorem dX8_isCommand_55 : decode cX8_isCommand 55 = .ok (.iload_n 1, 1) := by decide +kernel
theorem dX8_isCommand_56 : decode cX8_isCommand 56 = .ok (.ifCond .ne 23, 3) := by decide +kernel
theorem dX8_isCommand_59 : decode cX8_isCommand 59 = .ok (.aload_n 0, 1) := by decide +kernel
theorem dX8_isCommand_60 : decode cX8_isCommand 60 = .ok (.getfield 156, 3) := by decide +kernel
theorem dX8_isCommand_63 : decode cX8_isCommand 63 = .ok (.bipush 119, 2) := by decide +kernel
theorem dX8_isCommand_65 : decode cX8_isCommand 65 = .ok (.if_icmp .eq 14, 3) := by decide +kernel
theorem dX8_isCommand_68 : decode cX8_isCommand 68 = .ok (.aload_n 0, 1) := by decide +kernel
theorem dX8_isCommand_69 : decode cX8_isCommand 69 = .ok (.getfield 156, 3) := by decide +kernel
theorem dX8_isCommand_72 : decode cX8_isCommand 72 = .ok (.bipush 97, 2) := by decide +kernel
theorem dX8_isCommand_74 : decode cX8_isCommand 74 = .ok (.if_icmp .eq 5, 3) := by decide +kernel
theorem dX8_isCommand_77 : decode cX8_isCommand 77 = .ok (.iconst 0, 1) := by decide +kernel
theorem dX8_isCommand_78 : decode cX8_isCommand 78 = .ok (.ireturn, 1) := by decide +kernel
theorem dX8_isCommand_79 : decode cX8_isCommand 79 = .ok (.aload_n 0, 1) := by decide +kernel
theorem dX8_isCommand_80 : decode cX8_isCommand 80 = .ok (.dup, 1) := by decide +kernel
theorem dX8_isCommand_81 : decode cX8_isCommand 81 = .ok (.getfield 150, 3) := by decide +kernel
theorem dX8_isCommand_84 : decode cX8_isCommand 84 = .ok (.iconst 1, 1) := by decide +kernel
theorem dX8_isCommand_85 : decode cX8_isCommand 85 = .ok (.iadd, 1) := by decide +kernel
theorem dX8_isCommand_86 : decode cX8_isCommand 86 = .ok (.putfield 150, 3) := by decide +kernel
theorem dX8_isCommand_89 : decode cX8_isCommand 89 = .ok (.aload_n 0, 1) := by decide +kernel
theorem dX8_isCommand_90 : decode cX8_isCommand 90 = .ok (.iload_n 1, 1) := by decide +kernel
theorem dX8_isCommand_91 : decode cX8_isCommand 91 = .ok (.ifCond .eq 19, 3) := by decide +kernel
theorem dX8_isCommand_94 : decode cX8_isCommand 94 = .ok (.aload_n 0, 1) := by decide +kernel
theorem dX8_isCommand_95 : decode cX8_isCommand 95 = .ok (.iconst 1, 1) := by decide +kernel
theorem dX8_isCommand_96 : decode cX8_isCommand 96 = .ok (.aload_n 0, 1) := by decide +kernel
theorem dX8_isCommand_97 : decode cX8_isCommand 97 = .ok (.getfield 7, 3) := by decide +kernel
theorem dX8_isCommand_100 : decode cX8_isCommand 100 = .ok (.iconst 0, 1) := by decide +kernel
theorem dX8_isCommand_101 : decode cX8_isCommand 101 = .ok (.iaload, 1) := by decide +kernel
theorem dX8_isCommand_102 : decode cX8_isCommand 102 = .ok (.iconst 1, 1) := by decide +kernel
theorem dX8_isCommand_103 : decode cX8_isCommand 103 = .ok (.isub, 1) := by decide +kernel
