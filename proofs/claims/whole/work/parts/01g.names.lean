theorem dX8_isCommand_104 : decode cX8_isCommand 104 = .ok (.invokevirtual 159, 3) := by decide +kernel
theorem dX8_isCommand_107 : decode cX8_isCommand 107 = .ok (.goto 29, 3) := by decide +kernel
theorem dX8_isCommand_110 : decode cX8_isCommand 110 = .ok (.aload_n 0, 1) := by decide +kernel
theorem dX8_isCommand_111 : decode cX8_isCommand 111 = .ok (.iconst 0, 1) := by decide +kernel
theorem dX8_isCommand_112 : decode cX8_isCommand 112 = .ok (.aload_n 0, 1) := by decide +kernel
theorem dX8_isCommand_113 : decode cX8_isCommand 113 = .ok (.getfield 156, 3) := by decide +kernel
theorem dX8_isCommand_116 : decode cX8_isCommand 116 = .ok (.bipush 119, 2) := by decide +kernel
theorem dX8_isCommand_118 : decode cX8_isCommand 118 = .ok (.if_icmp .ne 7, 3) := by decide +kernel
theorem dX8_isCommand_121 : decode cX8_isCommand 121 = .ok (.iconst 3, 1) := by decide +kernel
theorem dX8_isCommand_122 : decode cX8_isCommand 122 = .ok (.goto 11, 3) := by decide +kernel
theorem dX8_isCommand_125 : decode cX8_isCommand 125 = .ok (.aload_n 0, 1) := by decide +kernel
theorem dX8_isCommand_126 : decode cX8_isCommand 126 = .ok (.getfield 7, 3) := by decide +kernel
theorem dX8_isCommand_129 : decode cX8_isCommand 129 = .ok (.iconst 0, 1) := by decide +kernel
theorem dX8_isCommand_130 : decode cX8_isCommand 130 = .ok (.iaload, 1) := by decide +kernel
theorem dX8_isCommand_131 : decode cX8_isCommand 131 = .ok (.iconst 1, 1) := by decide +kernel
theorem dX8_isCommand_132 : decode cX8_isCommand 132 = .ok (.isub, 1) := by decide +kernel
theorem dX8_isCommand_133 : decode cX8_isCommand 133 = .ok (.invokevirtual 159, 3) := by decide +kernel
theorem dX8_isCommand_136 : decode cX8_isCommand 136 = .ok (.putfield 162, 3) := by decide +kernel
theorem dX8_isCommand_139 : decode cX8_isCommand 139 = .ok (.aload_n 0, 1) := by decide +kernel
theorem dX8_isCommand_140 : decode cX8_isCommand 140 = .ok (.getfield 162, 3) := by decide +kernel
theorem dX8_isCommand_143 : decode cX8_isCommand 143 = .ok (.ifCond .ge 5, 3) := by decide +kernel
theorem dX8_isCommand_146 : decode cX8_isCommand 146 = .ok (.iconst 0, 1) := by decide +kernel
theorem dX8_isCommand_147 : decode cX8_isCommand 147 = .ok (.ireturn, 1) := by decide +kernel
theorem dX8_isCommand_148 : decode cX8_isCommand 148 = .ok (.aload_n 0, 1) := by decide +kernel
theorem dX8_isCommand_149 : decode cX8_isCommand 149 = .ok (.iload_n 1, 1) := by decide +kernel
theorem dX8_isCommand_150 : decode cX8_isCommand 150 = .ok (.ifCond .eq 13, 3) := by decide +kernel
theorem dX8_isCommand_153 : decode cX8_isCommand 153 = .ok (.aload_n 0, 1) := by decide +kernel
theorem dX8_isCommand_154 : decode cX8_isCommand 154 = .ok (.iconst 1, 1) := by decide +kernel
theorem dX8_isCommand_155 : decode cX8_isCommand 155 = .ok (.bipush 9, 2) := by decide +kernel
theorem dX8_isCommand_157 : decode cX8_isCommand 157 = .ok (.invokevirtual 159, 3) := by decide +kernel
theorem dX8_isCommand_160 : decode cX8_isCommand 160 = .ok (.goto 4, 3) := by decide +kernel
theorem dX8_isCommand_163 : decode cX8_isCommand 163 = .ok (.iconst 0, 1) := by decide +kernel
theorem dX8_isCommand_164 : decode cX8_isCommand 164 = .ok (.putfield 165, 3) := by decide +kernel
theorem dX8_isCommand_167 : decode cX8_isCommand 167 = .ok (.aload_n 0, 1) := by decide +kernel
theorem dX8_isCommand_168 : decode cX8_isCommand 168 = .ok (.getfield 165, 3) := by decide +kernel
theorem dX8_isCommand_171 : decode cX8_isCommand 171 = .ok (.ifCond .lt 7, 3) := by decide +kernel
theorem dX8_isCommand_174 : decode cX8_isCommand 174 = .ok (.iconst 1, 1) := by decide +kernel
theorem dX8_isCommand_175 : decode cX8_isCommand 175 = .ok (.goto 4, 3) := by decide +kernel
theorem dX8_isCommand_178 : decode cX8_isCommand 178 = .ok (.iconst 0, 1) := by decide +kernel
theorem dX8_isCommand_179 : decode cX8_isCommand 179 = .ok (.ireturn, 1) := by decide +kernel
set_option maxRecDepth 20000 in
theorem ggX8_does_X8_makes : GoodIn wsX8_does wsX8_makes := goodIn_r _ [8, 9, 10, 11, 12, 7, 13, 14, 15, 16, 17, 18, 19, 20, 21, 22, 23, 24, 25, 26, 27, 28, 29, 30, 31, 32, 33, 34, 35, 36, 37, 38, 39, 40, 41, 42, 43, 44, 45, 46, 47, 98, 99, 100, 101, 102, 103, 104, 105, 106, 107, 108, 109, 110, 111] (by decide +kernel) (by decide +kernel)
set_option maxRecDepth 20000 in
theorem gX8_does_X8_makes : GoodIn wsX8_does (wsV RX8 122 RX8 yX8_makes wsX8_makes) := goodIn_app (goodIn_of _ (by decide +kernel)) ggX8_does_X8_makes
set_option maxRecDepth 20000 in
theorem ggX8_does_X8_delivers : GoodIn wsX8_does wsX8_delivers := goodIn_r _ [51, 9, 52, 53, 54, 7, 55, 56, 57, 58, 59, 14, 15, 16, 45, 46, 47, 60, 61, 62, 63, 64, 65, 66, 67, 21, 22, 23, 24, 68, 69, 70, 71, 72, 73, 74, 75, 33, 34, 35, 36, 37, 38, 39, 40, 10, 17, 18, 19, 20, 25, 26, 27, 28, 29, 30, 31, 32, 41, 42, 43, 44, 98, 99, 100, 101, 102, 103, 104, 105, 106, 107, 108, 109, 110, 111] (by decide +kernel) (by decide +kernel)
set_option maxRecDepth 20000 in
theorem gX8_does_X8_delivers : GoodIn wsX8_does (wsV RX8 131 RX8 yX8_delivers wsX8_delivers) := goodIn_app (goodIn_of _ (by decide +kernel)) ggX8_does_X8_delivers
set_option maxRecDepth 20000 in
theorem ggX8_does_X8_loses : GoodIn wsX8_does wsX8_loses := goodIn_r _ [79, 9, 52, 53, 54, 7, 55, 56, 57, 58, 59, 14, 15, 16, 45, 46, 47, 60, 61, 62, 63, 98, 99, 100, 101, 102, 103, 104, 105, 106, 107, 108, 109, 110, 111] (by decide +kernel) (by decide +kernel)
set_option maxRecDepth 20000 in
theorem gX8_does_X8_loses : GoodIn wsX8_does (wsV RX8 134 RX8 yX8_loses wsX8_loses) := goodIn_app (goodIn_of _ (by decide +kernel)) ggX8_does_X8_loses
set_option maxRecDepth 20000 in
theorem ggX8_does_X8_asks : GoodIn wsX8_does wsX8_asks := goodIn_r _ [83, 84, 9, 56, 57, 58, 7, 59, 14, 15, 16, 85, 86, 87, 88, 89, 90, 91, 92, 93, 94, 95, 96, 97, 21, 22, 23, 24, 64, 65, 66, 67, 68, 69, 70, 71, 72, 73, 74, 75, 33, 34, 35, 36, 37, 38, 39, 40, 10, 17, 18, 19, 20, 25, 26, 27, 28, 29, 30, 31, 32, 41, 42, 43, 44, 45, 46, 47, 98, 99, 100, 101, 102, 103, 104, 105, 106, 107, 108, 109, 110, 111] (by decide +kernel) (by decide +kernel)
set_option maxRecDepth 20000 in
theorem gX8_does_X8_asks : GoodIn wsX8_does (wsV RX8 144 RX8 yX8_asks wsX8_asks) := goodIn_app (goodIn_of _ (by decide +kernel)) ggX8_does_X8_asks
theorem dX8_does_0 : decode cX8_does 0 = .ok (.aload_n 0, 1) := by decide +kernel
theorem dX8_does_1 : decode cX8_does 1 = .ok (.getfield 156, 3) := by decide +kernel
theorem dX8_does_4 : decode cX8_does 4 = .ok (.lookupswitch 117 #[(100, 75), (117, 61), (119, 52), (120, 89), (121, 103)], 52) := by decide +kernel
theorem dX8_does_56 : decode cX8_does 56 = .ok (.aload_n 0, 1) := by decide +kernel
theorem dX8_does_57 : decode cX8_does 57 = .ok (.aload_n 0, 1) := by decide +kernel
theorem dX8_does_58 : decode cX8_does 58 = .ok (.getfield 162, 3) := by decide +kernel
theorem dX8_does_61 : decode cX8_does 61 = .ok (.invokevirtual 122, 3) := by decide +kernel
theorem dX8_does_64 : decode cX8_does 64 = .ok (.ireturn, 1) := by decide +kernel
theorem dX8_does_65 : decode cX8_does 65 = .ok (.aload_n 0, 1) := by decide +kernel
theorem dX8_does_66 : decode cX8_does 66 = .ok (.aload_n 0, 1) := by decide +kernel
theorem dX8_does_67 : decode cX8_does 67 = .ok (.getfield 162, 3) := by decide +kernel
theorem dX8_does_70 : decode cX8_does 70 = .ok (.iconst 0, 1) := by decide +kernel
theorem dX8_does_71 : decode cX8_does 71 = .ok (.aload_n 0, 1) := by decide +kernel
theorem dX8_does_72 : decode cX8_does 72 = .ok (.getfield 165, 3) := by decide +kernel
theorem dX8_does_75 : decode cX8_does 75 = .ok (.invokevirtual 131, 3) := by decide +kernel
theorem dX8_does_78 : decode cX8_does 78 = .ok (.ireturn, 1) := by decide +kernel
theorem dX8_does_79 : decode cX8_does 79 = .ok (.aload_n 0, 1) := by decide +kernel
theorem dX8_does_80 : decode cX8_does 80 = .ok (.aload_n 0, 1) := by decide +kernel
theorem dX8_does_81 : decode cX8_does 81 = .ok (.getfield 162, 3) := by decide +kernel
theorem dX8_does_84 : decode cX8_does 84 = .ok (.iconst 1, 1) := by decide +kernel
theorem dX8_does_85 : decode cX8_does 85 = .ok (.aload_n 0, 1) := by decide +kernel
theorem dX8_does_86 : decode cX8_does 86 = .ok (.getfield 165, 3) := by decide +kernel
theorem dX8_does_89 : decode cX8_does 89 = .ok (.invokevirtual 131, 3) := by decide +kernel
theorem dX8_does_92 : decode cX8_does 92 = .ok (.ireturn, 1) := by decide +kernel
theorem dX8_does_93 : decode cX8_does 93 = .ok (.aload_n 0, 1) := by decide +kernel
theorem dX8_does_94 : decode cX8_does 94 = .ok (.aload_n 0, 1) := by decide +kernel
theorem dX8_does_95 : decode cX8_does 95 = .ok (.getfield 162, 3) := by decide +kernel
theorem dX8_does_98 : decode cX8_does 98 = .ok (.iconst 0, 1) := by decide +kernel
theorem dX8_does_99 : decode cX8_does 99 = .ok (.aload_n 0, 1) := by decide +kernel
theorem dX8_does_100 : decode cX8_does 100 = .ok (.getfield 165, 3) := by decide +kernel
theorem dX8_does_103 : decode cX8_does 103 = .ok (.invokevirtual 134, 3) := by decide +kernel
theorem dX8_does_106 : decode cX8_does 106 = .ok (.ireturn, 1) := by decide +kernel
theorem dX8_does_107 : decode cX8_does 107 = .ok (.aload_n 0, 1) := by decide +kernel
theorem dX8_does_108 : decode cX8_does 108 = .ok (.aload_n 0, 1) := by decide +kernel
theorem dX8_does_109 : decode cX8_does 109 = .ok (.getfield 162, 3) := by decide +kernel
theorem dX8_does_112 : decode cX8_does 112 = .ok (.iconst 1, 1) := by decide +kernel
theorem dX8_does_113 : decode cX8_does 113 = .ok (.aload_n 0, 1) := by decide +kernel
theorem dX8_does_114 : decode cX8_does 114 = .ok (.getfield 165, 3) := by decide +kernel
theorem dX8_does_117 : decode cX8_does 117 = .ok (.invokevirtual 134, 3) := by decide +kernel
theorem dX8_does_120 : decode cX8_does 120 = .ok (.ireturn, 1) := by decide +kernel
theorem dX8_does_121 : decode cX8_does 121 = .ok (.aload_n 0, 1) := by decide +kernel
theorem dX8_does_122 : decode cX8_does 122 = .ok (.aload_n 0, 1) := by decide +kernel
theorem dX8_does_123 : decode cX8_does 123 = .ok (.getfield 162, 3) := by decide +kernel
theorem dX8_does_126 : decode cX8_does 126 = .ok (.invokevirtual 144, 3) := by decide +kernel
theorem dX8_does_129 : decode cX8_does 129 = .ok (.ireturn, 1) := by decide +kernel
set_option maxRecDepth 20000 in
theorem ggX8_runScript_X8_skips : GoodIn wsX8_runScript wsX8_skips := goodIn_r _ [7, 1, 2, 8, 128, 129, 130, 131, 132, 133, 134, 135, 136, 137, 138, 139, 140, 141] (by decide +kernel) (by decide +kernel)
set_option maxRecDepth 20000 in
theorem gX8_runScript_X8_skips : GoodIn wsX8_runScript (wsV RX8 153 RX8 yX8_skips wsX8_skips) := goodIn_app (goodIn_of _ (by decide +kernel)) ggX8_runScript_X8_skips
set_option maxRecDepth 20000 in
theorem ggX8_runScript_X8_isCommand : GoodIn wsX8_runScript wsX8_isCommand := goodIn_r _ [12, 8, 1, 13, 14, 15, 16, 17, 18, 19, 6, 20, 2, 3, 4, 5, 7, 21, 22, 23, 128, 129, 130, 131, 132, 133, 134, 135, 136, 137, 138, 139, 140, 141] (by decide +kernel) (by decide +kernel)
set_option maxRecDepth 20000 in
theorem gX8_runScript_X8_isCommand : GoodIn wsX8_runScript (wsV RX8 168 RX8 yX8_isCommand wsX8_isCommand) := goodIn_app (goodIn_of _ (by decide +kernel)) ggX8_runScript_X8_isCommand
set_option maxRecDepth 20000 in
theorem ggX8_runScript_X8_hold : GoodIn wsX8_runScript wsX8_hold := goodIn_r _ [27, 28, 14, 128, 129, 130, 131, 132, 133, 134, 135, 136, 137, 138, 139, 140, 141] (by decide +kernel) (by decide +kernel)
set_option maxRecDepth 20000 in
theorem gX8_runScript_X8_hold : GoodIn wsX8_runScript (wsV RX8 50 RX8 yX8_hold wsX8_hold) := goodIn_app (goodIn_of _ (by decide +kernel)) ggX8_runScript_X8_hold
set_option maxRecDepth 20000 in
theorem ggX8_runScript_X8_does : GoodIn wsX8_runScript wsX8_does := goodIn_r _ [32, 13, 15, 16, 33, 34, 35, 6, 36, 14, 37, 38, 39, 40, 21, 22, 23, 41, 42, 43, 44, 45, 46, 47, 48, 49, 50, 51, 52, 53, 54, 55, 56, 57, 58, 59, 60, 61, 62, 63, 64, 65, 66, 67, 68, 69, 70, 71, 72, 73, 74, 75, 76, 77, 78, 79, 80, 81, 82, 83, 84, 85, 86, 87, 88, 89, 90, 91, 92, 93, 94, 95, 96, 97, 98, 99, 100, 101, 102, 103, 104, 105, 106, 107, 108, 109, 110, 111, 112, 113, 114, 115, 116, 117, 118, 119, 120, 121, 128, 129, 130, 131, 132, 133, 134, 135, 136, 137, 138, 139, 140, 141] (by decide +kernel) (by decide +kernel)
set_option maxRecDepth 20000 in
theorem gX8_runScript_X8_does : GoodIn wsX8_runScript (wsV RX8 171 RX8 yX8_does wsX8_does) := goodIn_app (goodIn_of _ (by decide +kernel)) ggX8_runScript_X8_does
set_option maxRecDepth 20000 in
theorem ggX8_runScript_X8_ends : GoodIn wsX8_runScript wsX8_ends := goodIn_r _ [125, 126, 127, 28, 128, 129, 130, 131, 132, 133, 134, 135, 136, 137, 138, 139, 140, 141] (by decide +kernel) (by decide +kernel)
set_option maxRecDepth 20000 in
theorem gX8_runScript_X8_ends : GoodIn wsX8_runScript (wsV RX8 35 RX8 yX8_ends wsX8_ends) := goodIn_app (goodIn_of _ (by decide +kernel)) ggX8_runScript_X8_ends
theorem dX8_runScript_0 : decode cX8_runScript 0 = .ok (.aload_n 0, 1) := by decide +kernel
theorem dX8_runScript_1 : decode cX8_runScript 1 = .ok (.iconst 0, 1) := by decide +kernel
theorem dX8_runScript_2 : decode cX8_runScript 2 = .ok (.putfield 150, 3) := by decide +kernel
theorem dX8_runScript_5 : decode cX8_runScript 5 = .ok (.aload_n 0, 1) := by decide +kernel
theorem dX8_runScript_6 : decode cX8_runScript 6 = .ok (.invokevirtual 153, 3) := by decide +kernel
theorem dX8_runScript_9 : decode cX8_runScript 9 = .ok (.aload_n 0, 1) := by decide +kernel
theorem dX8_runScript_10 : decode cX8_runScript 10 = .ok (.getfield 150, 3) := by decide +kernel
theorem dX8_runScript_13 : decode cX8_runScript 13 = .ok (.aload_n 0, 1) := by decide +kernel
theorem dX8_runScript_14 : decode cX8_runScript 14 = .ok (.getfield 147, 3) := by decide +kernel
theorem dX8_runScript_17 : decode cX8_runScript 17 = .ok (.if_icmp .ge 25, 3) := by decide +kernel
theorem dX8_runScript_20 : decode cX8_runScript 20 = .ok (.aload_n 0, 1) := by decide +kernel
theorem dX8_runScript_21 : decode cX8_runScript 21 = .ok (.invokevirtual 168, 3) := by decide +kernel
theorem dX8_runScript_24 : decode cX8_runScript 24 = .ok (.ifCond .ne 11, 3) := by decide +kernel
theorem dX8_runScript_27 : decode cX8_runScript 27 = .ok (.bipush (-10), 2) := by decide +kernel
theorem dX8_runScript_29 : decode cX8_runScript 29 = .ok (.aload_n 0, 1) := by decide +kernel
theorem dX8_runScript_30 : decode cX8_runScript 30 = .ok (.getfield 150, 3) := by decide +kernel
theorem dX8_runScript_33 : decode cX8_runScript 33 = .ok (.isub, 1) := by decide +kernel
theorem dX8_runScript_34 : decode cX8_runScript 34 = .ok (.ireturn, 1) := by decide +kernel
theorem dX8_runScript_35 : decode cX8_runScript 35 = .ok (.aload_n 0, 1) := by decide +kernel
theorem dX8_runScript_36 : decode cX8_runScript 36 = .ok (.invokevirtual 153, 3) := by decide +kernel
theorem dX8_runScript_39 : decode cX8_runScript 39 = .ok (.goto (-30), 3) := by decide +kernel
theorem dX8_runScript_42 : decode cX8_runScript 42 = .ok (.aload_n 0, 1) := by decide +kernel
theorem dX8_runScript_43 : decode cX8_runScript 43 = .ok (.invokevirtual 50, 3) := by decide +kernel
theorem dX8_runScript_46 : decode cX8_runScript 46 = .ok (.aload_n 0, 1) := by decide +kernel
theorem dX8_runScript_47 : decode cX8_runScript 47 = .ok (.iconst 0, 1) := by decide +kernel
theorem dX8_runScript_48 : decode cX8_runScript 48 = .ok (.putfield 150, 3) := by decide +kernel
theorem dX8_runScript_51 : decode cX8_runScript 51 = .ok (.iconst 0, 1) := by decide +kernel
theorem dX8_runScript_52 : decode cX8_runScript 52 = .ok (.istore_n 1, 1) := by decide +kernel
theorem dX8_runScript_53 : decode cX8_runScript 53 = .ok (.aload_n 0, 1) := by decide +kernel
theorem dX8_runScript_54 : decode cX8_runScript 54 = .ok (.invokevirtual 153, 3) := by decide +kernel
theorem dX8_runScript_57 : decode cX8_runScript 57 = .ok (.aload_n 0, 1) := by decide +kernel
theorem dX8_runScript_58 : decode cX8_runScript 58 = .ok (.getfield 150, 3) := by decide +kernel
theorem dX8_runScript_61 : decode cX8_runScript 61 = .ok (.aload_n 0, 1) := by decide +kernel
theorem dX8_runScript_62 : decode cX8_runScript 62 = .ok (.getfield 147, 3) := by decide +kernel
theorem dX8_runScript_65 : decode cX8_runScript 65 = .ok (.if_icmp .ge 32, 3) := by decide +kernel
theorem dX8_runScript_68 : decode cX8_runScript 68 = .ok (.iload_n 1, 1) := by decide +kernel
theorem dX8_runScript_69 : decode cX8_runScript 69 = .ok (.aload_n 0, 1) := by decide +kernel
theorem dX8_runScript_70 : decode cX8_runScript 70 = .ok (.invokevirtual 168, 3) := by decide +kernel
theorem dX8_runScript_73 : decode cX8_runScript 73 = .ok (.ifCond .eq 14, 3) := by decide +kernel
theorem dX8_runScript_76 : decode cX8_runScript 76 = .ok (.aload_n 0, 1) := by decide +kernel
theorem dX8_runScript_77 : decode cX8_runScript 77 = .ok (.invokevirtual 171, 3) := by decide +kernel
theorem dX8_runScript_80 : decode cX8_runScript 80 = .ok (.ifCond .lt 7, 3) := by decide +kernel
theorem dX8_runScript_83 : decode cX8_runScript 83 = .ok (.iconst 1, 1) := by decide +kernel
theorem dX8_runScript_84 : decode cX8_runScript 84 = .ok (.goto 4, 3) := by decide +kernel
theorem dX8_runScript_87 : decode cX8_runScript 87 = .ok (.iconst 0, 1) := by decide +kernel
theorem dX8_runScript_88 : decode cX8_runScript 88 = .ok (.iadd, 1) := by decide +kernel
theorem dX8_runScript_89 : decode cX8_runScript 89 = .ok (.istore_n 1, 1) := by decide +kernel
theorem dX8_runScript_90 : decode cX8_runScript 90 = .ok (.aload_n 0, 1) := by decide +kernel
theorem dX8_runScript_91 : decode cX8_runScript 91 = .ok (.invokevirtual 153, 3) := by decide +kernel
theorem dX8_runScript_94 : decode cX8_runScript 94 = .ok (.goto (-37), 3) := by decide +kernel
theorem dX8_runScript_97 : decode cX8_runScript 97 = .ok (.aload_n 0, 1) := by decide +kernel
theorem dX8_runScript_98 : decode cX8_runScript 98 = .ok (.iconst 0, 1) := by decide +kernel
theorem dX8_runScript_99 : decode cX8_runScript 99 = .ok (.putfield 147, 3) := by decide +kernel
theorem dX8_runScript_102 : decode cX8_runScript 102 = .ok (.aload_n 0, 1) := by decide +kernel
theorem dX8_runScript_103 : decode cX8_runScript 103 = .ok (.iload_n 1, 1) := by decide +kernel
theorem dX8_runScript_104 : decode cX8_runScript 104 = .ok (.invokevirtual 35, 3) := by decide +kernel
theorem dX8_runScript_107 : decode cX8_runScript 107 = .ok (.ireturn, 1) := by decide +kernel
theorem dX8_undo_0 : decode cX8_undo 0 = .ok (.aload_n 0, 1) := by decide +kernel
theorem dX8_undo_1 : decode cX8_undo 1 = .ok (.getfield 31, 3) := by decide +kernel
theorem dX8_undo_4 : decode cX8_undo 4 = .ok (.ifCond .ne 6, 3) := by decide +kernel
theorem dX8_undo_7 : decode cX8_undo 7 = .ok (.bipush (-2), 2) := by decide +kernel
theorem dX8_undo_9 : decode cX8_undo 9 = .ok (.ireturn, 1) := by decide +kernel
theorem dX8_undo_10 : decode cX8_undo 10 = .ok (.aload_n 0, 1) := by decide +kernel
theorem dX8_undo_11 : decode cX8_undo 11 = .ok (.dup, 1) := by decide +kernel
theorem dX8_undo_12 : decode cX8_undo 12 = .ok (.getfield 31, 3) := by decide +kernel
theorem dX8_undo_15 : decode cX8_undo 15 = .ok (.iconst 1, 1) := by decide +kernel
theorem dX8_undo_16 : decode cX8_undo 16 = .ok (.isub, 1) := by decide +kernel
theorem dX8_undo_17 : decode cX8_undo 17 = .ok (.putfield 31, 3) := by decide +kernel
theorem dX8_undo_20 : decode cX8_undo 20 = .ok (.iconst 0, 1) := by decide +kernel
theorem dX8_undo_21 : decode cX8_undo 21 = .ok (.istore_n 1, 1) := by decide +kernel
theorem dX8_undo_22 : decode cX8_undo 22 = .ok (.iload_n 1, 1) := by decide +kernel
theorem dX8_undo_23 : decode cX8_undo 23 = .ok (.sipush 1423, 3) := by decide +kernel
theorem dX8_undo_26 : decode cX8_undo 26 = .ok (.if_icmp .ge 30, 3) := by decide +kernel
theorem dX8_undo_29 : decode cX8_undo 29 = .ok (.aload_n 0, 1) := by decide +kernel
theorem dX8_undo_30 : decode cX8_undo 30 = .ok (.getfield 7, 3) := by decide +kernel
theorem dX8_undo_33 : decode cX8_undo 33 = .ok (.iload_n 1, 1) := by decide +kernel
theorem dX8_undo_34 : decode cX8_undo 34 = .ok (.aload_n 0, 1) := by decide +kernel
theorem dX8_undo_35 : decode cX8_undo 35 = .ok (.getfield 13, 3) := by decide +kernel
theorem dX8_undo_38 : decode cX8_undo 38 = .ok (.sipush 1423, 3) := by decide +kernel
theorem dX8_undo_41 : decode cX8_undo 41 = .ok (.aload_n 0, 1) := by decide +kernel
theorem dX8_undo_42 : decode cX8_undo 42 = .ok (.getfield 31, 3) := by decide +kernel
theorem dX8_undo_45 : decode cX8_undo 45 = .ok (.imul, 1) := by decide +kernel
theorem dX8_undo_46 : decode cX8_undo 46 = .ok (.iload_n 1, 1) := by decide +kernel
theorem dX8_undo_47 : decode cX8_undo 47 = .ok (.iadd, 1) := by decide +kernel
theorem dX8_undo_48 : decode cX8_undo 48 = .ok (.iaload, 1) := by decide +kernel
theorem dX8_undo_49 : decode cX8_undo 49 = .ok (.iastore, 1) := by decide +kernel
theorem dX8_undo_50 : decode cX8_undo 50 = .ok (.iinc 1 1, 3) := by decide +kernel
theorem dX8_undo_53 : decode cX8_undo 53 = .ok (.goto (-31), 3) := by decide +kernel
theorem dX8_undo_56 : decode cX8_undo 56 = .ok (.aload_n 0, 1) := by decide +kernel
theorem dX8_undo_57 : decode cX8_undo 57 = .ok (.getfield 31, 3) := by decide +kernel
theorem dX8_undo_60 : decode cX8_undo 60 = .ok (.ireturn, 1) := by decide +kernel
theorem dJ6_bitCount_0f7a4_0 : decode cJ6_bitCount_0f7a4 0 = .ok (.iload_n 0, 1) := by decide +kernel
theorem dJ6_bitCount_0f7a4_1 : decode cJ6_bitCount_0f7a4 1 = .ok (.iload_n 0, 1) := by decide +kernel
theorem dJ6_bitCount_0f7a4_2 : decode cJ6_bitCount_0f7a4 2 = .ok (.iconst 1, 1) := by decide +kernel
theorem dJ6_bitCount_0f7a4_3 : decode cJ6_bitCount_0f7a4 3 = .ok (.iushr, 1) := by decide +kernel
theorem dJ6_bitCount_0f7a4_4 : decode cJ6_bitCount_0f7a4 4 = .ok (.ldc_w 265, 3) := by decide +kernel
theorem dJ6_bitCount_0f7a4_7 : decode cJ6_bitCount_0f7a4 7 = .ok (.iand, 1) := by decide +kernel
theorem dJ6_bitCount_0f7a4_8 : decode cJ6_bitCount_0f7a4 8 = .ok (.isub, 1) := by decide +kernel
theorem dJ6_bitCount_0f7a4_9 : decode cJ6_bitCount_0f7a4 9 = .ok (.istore_n 0, 1) := by decide +kernel
theorem dJ6_bitCount_0f7a4_10 : decode cJ6_bitCount_0f7a4 10 = .ok (.iload_n 0, 1) := by decide +kernel
theorem dJ6_bitCount_0f7a4_11 : decode cJ6_bitCount_0f7a4 11 = .ok (.ldc_w 266, 3) := by decide +kernel
theorem dJ6_bitCount_0f7a4_14 : decode cJ6_bitCount_0f7a4 14 = .ok (.iand, 1) := by decide +kernel
theorem dJ6_bitCount_0f7a4_15 : decode cJ6_bitCount_0f7a4 15 = .ok (.iload_n 0, 1) := by decide +kernel
theorem dJ6_bitCount_0f7a4_16 : decode cJ6_bitCount_0f7a4 16 = .ok (.iconst 2, 1) := by decide +kernel
theorem dJ6_bitCount_0f7a4_17 : decode cJ6_bitCount_0f7a4 17 = .ok (.iushr, 1) := by decide +kernel
theorem dJ6_bitCount_0f7a4_18 : decode cJ6_bitCount_0f7a4 18 = .ok (.ldc_w 266, 3) := by decide +kernel
theorem dJ6_bitCount_0f7a4_21 : decode cJ6_bitCount_0f7a4 21 = .ok (.iand, 1) := by decide +kernel
theorem dJ6_bitCount_0f7a4_22 : decode cJ6_bitCount_0f7a4 22 = .ok (.iadd, 1) := by decide +kernel
theorem dJ6_bitCount_0f7a4_23 : decode cJ6_bitCount_0f7a4 23 = .ok (.istore_n 0, 1) := by decide +kernel
theorem dJ6_bitCount_0f7a4_24 : decode cJ6_bitCount_0f7a4 24 = .ok (.iload_n 0, 1) := by decide +kernel
theorem dJ6_bitCount_0f7a4_25 : decode cJ6_bitCount_0f7a4 25 = .ok (.iload_n 0, 1) := by decide +kernel
theorem dJ6_bitCount_0f7a4_26 : decode cJ6_bitCount_0f7a4 26 = .ok (.iconst 4, 1) := by decide +kernel
theorem dJ6_bitCount_0f7a4_27 : decode cJ6_bitCount_0f7a4 27 = .ok (.iushr, 1) := by decide +kernel
theorem dJ6_bitCount_0f7a4_28 : decode cJ6_bitCount_0f7a4 28 = .ok (.iadd, 1) := by decide +kernel
theorem dJ6_bitCount_0f7a4_29 : decode cJ6_bitCount_0f7a4 29 = .ok (.ldc_w 267, 3) := by decide +kernel
theorem dJ6_bitCount_0f7a4_32 : decode cJ6_bitCount_0f7a4 32 = .ok (.iand, 1) := by decide +kernel
theorem dJ6_bitCount_0f7a4_33 : decode cJ6_bitCount_0f7a4 33 = .ok (.istore_n 0, 1) := by decide +kernel
theorem dJ6_bitCount_0f7a4_34 : decode cJ6_bitCount_0f7a4 34 = .ok (.iload_n 0, 1) := by decide +kernel
theorem dJ6_bitCount_0f7a4_35 : decode cJ6_bitCount_0f7a4 35 = .ok (.iload_n 0, 1) := by decide +kernel
theorem dJ6_bitCount_0f7a4_36 : decode cJ6_bitCount_0f7a4 36 = .ok (.bipush 8, 2) := by decide +kernel
theorem dJ6_bitCount_0f7a4_38 : decode cJ6_bitCount_0f7a4 38 = .ok (.iushr, 1) := by decide +kernel
theorem dJ6_bitCount_0f7a4_39 : decode cJ6_bitCount_0f7a4 39 = .ok (.iadd, 1) := by decide +kernel
theorem dJ6_bitCount_0f7a4_40 : decode cJ6_bitCount_0f7a4 40 = .ok (.istore_n 0, 1) := by decide +kernel
theorem dJ6_bitCount_0f7a4_41 : decode cJ6_bitCount_0f7a4 41 = .ok (.iload_n 0, 1) := by decide +kernel
theorem dJ6_bitCount_0f7a4_42 : decode cJ6_bitCount_0f7a4 42 = .ok (.iload_n 0, 1) := by decide +kernel
theorem dJ6_bitCount_0f7a4_43 : decode cJ6_bitCount_0f7a4 43 = .ok (.bipush 16, 2) := by decide +kernel
theorem dJ6_bitCount_0f7a4_45 : decode cJ6_bitCount_0f7a4 45 = .ok (.iushr, 1) := by decide +kernel
theorem dJ6_bitCount_0f7a4_46 : decode cJ6_bitCount_0f7a4 46 = .ok (.iadd, 1) := by decide +kernel
theorem dJ6_bitCount_0f7a4_47 : decode cJ6_bitCount_0f7a4 47 = .ok (.istore_n 0, 1) := by decide +kernel
theorem dJ6_bitCount_0f7a4_48 : decode cJ6_bitCount_0f7a4 48 = .ok (.iload_n 0, 1) := by decide +kernel
theorem dJ6_bitCount_0f7a4_49 : decode cJ6_bitCount_0f7a4 49 = .ok (.bipush 63, 2) := by decide +kernel
theorem dJ6_bitCount_0f7a4_51 : decode cJ6_bitCount_0f7a4 51 = .ok (.iand, 1) := by decide +kernel
theorem dJ6_bitCount_0f7a4_52 : decode cJ6_bitCount_0f7a4 52 = .ok (.ireturn, 1) := by decide +kernel
theorem dJ9_floorMod_7cf53_0 : decode cJ9_floorMod_7cf53 0 = .ok (.iload_n 0, 1) := by decide +kernel
theorem dJ9_floorMod_7cf53_1 : decode cJ9_floorMod_7cf53 1 = .ok (.iload_n 1, 1) := by decide +kernel
theorem dJ9_floorMod_7cf53_2 : decode cJ9_floorMod_7cf53 2 = .ok (.irem, 1) := by decide +kernel
theorem dJ9_floorMod_7cf53_3 : decode cJ9_floorMod_7cf53 3 = .ok (.istore_n 2, 1) := by decide +kernel
theorem dJ9_floorMod_7cf53_4 : decode cJ9_floorMod_7cf53 4 = .ok (.iload_n 0, 1) := by decide +kernel
theorem dJ9_floorMod_7cf53_5 : decode cJ9_floorMod_7cf53 5 = .ok (.iload_n 1, 1) := by decide +kernel
theorem dJ9_floorMod_7cf53_6 : decode cJ9_floorMod_7cf53 6 = .ok (.ixor, 1) := by decide +kernel
theorem dJ9_floorMod_7cf53_7 : decode cJ9_floorMod_7cf53 7 = .ok (.ifCond .ge 11, 3) := by decide +kernel
theorem dJ9_floorMod_7cf53_10 : decode cJ9_floorMod_7cf53 10 = .ok (.iload_n 2, 1) := by decide +kernel
theorem dJ9_floorMod_7cf53_11 : decode cJ9_floorMod_7cf53 11 = .ok (.ifCond .eq 7, 3) := by decide +kernel
theorem dJ9_floorMod_7cf53_14 : decode cJ9_floorMod_7cf53 14 = .ok (.iload_n 2, 1) := by decide +kernel
theorem dJ9_floorMod_7cf53_15 : decode cJ9_floorMod_7cf53 15 = .ok (.iload_n 1, 1) := by decide +kernel
theorem dJ9_floorMod_7cf53_16 : decode cJ9_floorMod_7cf53 16 = .ok (.iadd, 1) := by decide +kernel
theorem dJ9_floorMod_7cf53_17 : decode cJ9_floorMod_7cf53 17 = .ok (.ireturn, 1) := by decide +kernel
theorem dJ9_floorMod_7cf53_18 : decode cJ9_floorMod_7cf53 18 = .ok (.iload_n 2, 1) := by decide +kernel
theorem dJ9_floorMod_7cf53_19 : decode cJ9_floorMod_7cf53 19 = .ok (.ireturn, 1) := by decide +kernel
theorem dJ9_max_7cf53_0 : decode cJ9_max_7cf53 0 = .ok (.iload_n 0, 1) := by decide +kernel
theorem dJ9_max_7cf53_1 : decode cJ9_max_7cf53 1 = .ok (.iload_n 1, 1) := by decide +kernel
theorem dJ9_max_7cf53_2 : decode cJ9_max_7cf53 2 = .ok (.if_icmp .lt 7, 3) := by decide +kernel
theorem dJ9_max_7cf53_5 : decode cJ9_max_7cf53 5 = .ok (.iload_n 0, 1) := by decide +kernel
theorem dJ9_max_7cf53_6 : decode cJ9_max_7cf53 6 = .ok (.goto 4, 3) := by decide +kernel
theorem dJ9_max_7cf53_9 : decode cJ9_max_7cf53 9 = .ok (.iload_n 1, 1) := by decide +kernel
theorem dJ9_max_7cf53_10 : decode cJ9_max_7cf53 10 = .ok (.ireturn, 1) := by decide +kernel
theorem dJ9_min_7cf53_0 : decode cJ9_min_7cf53 0 = .ok (.iload_n 0, 1) := by decide +kernel
theorem dJ9_min_7cf53_1 : decode cJ9_min_7cf53 1 = .ok (.iload_n 1, 1) := by decide +kernel
theorem dJ9_min_7cf53_2 : decode cJ9_min_7cf53 2 = .ok (.if_icmp .gt 7, 3) := by decide +kernel
theorem dJ9_min_7cf53_5 : decode cJ9_min_7cf53 5 = .ok (.iload_n 0, 1) := by decide +kernel
theorem dJ9_min_7cf53_6 : decode cJ9_min_7cf53 6 = .ok (.goto 4, 3) := by decide +kernel
theorem dJ9_min_7cf53_9 : decode cJ9_min_7cf53 9 = .ok (.iload_n 1, 1) := by decide +kernel
theorem dJ9_min_7cf53_10 : decode cJ9_min_7cf53 10 = .ok (.ireturn, 1) := by decide +kernel
set_option maxRecDepth 20000 in
theorem ggL_law_X7_init : GoodIn wsL_law wsX7_init := goodIn_r _ [8, 9, 10, 11, 12, 13, 14, 15, 16, 17, 18, 19, 20, 21, 22, 23, 24, 25, 26, 27, 28, 29, 30, 31, 32, 33, 34, 35, 36, 37, 38, 39, 40, 41, 42, 43, 44, 45, 46, 47, 48, 49, 50, 51, 52, 53, 54, 55, 56, 57, 58, 59, 60, 61, 62, 63, 64, 65, 66, 67, 68, 69, 70, 71, 72, 73, 74, 75, 76, 77, 78, 79, 80, 81, 82, 83, 84, 85, 86, 87, 88, 89, 90, 91, 92, 93, 94, 870, 871, 872, 873, 874, 875, 876, 877, 878, 879, 880, 881, 882, 883, 884, 885, 850, 851, 852, 853, 854, 855, 886, 887, 888, 889, 890, 891, 892, 893, 894, 895, 896, 897, 898, 899] (by decide +kernel) (by decide +kernel)
set_option maxRecDepth 20000 in
theorem gL_law_X7_init : GoodIn wsL_law (wsX7_init) := ggL_law_X7_init
set_option maxRecDepth 20000 in
theorem ggL_law_X8_init : GoodIn wsL_law wsX8_init := goodIn_r _ [97, 98, 10, 11, 43, 99, 100, 101, 102, 103, 104, 105, 856, 857, 858, 859, 860, 861, 862, 863, 864, 865, 866, 867, 868, 869] (by decide +kernel) (by decide +kernel)
set_option maxRecDepth 20000 in
theorem gL_law_X8_init : GoodIn wsL_law (wsX8_init) := ggL_law_X8_init
set_option maxRecDepth 20000 in
theorem ggL_law_X7_addProxy : GoodIn wsL_law wsX7_addProxy := goodIn_r _ [109, 27, 15, 23, 110, 111, 112, 26, 113, 84, 114, 115, 116, 117, 118, 119, 120, 121, 14, 122, 40, 41, 42, 123, 124, 125, 126, 44, 127, 128, 129, 130, 45, 46, 47, 48, 50, 51, 52, 131, 132, 133, 30, 134, 62, 135, 136, 60, 137, 138, 139, 140, 141, 142, 22, 143, 76, 144, 145, 146, 147, 148, 149, 150, 151, 152, 153, 154, 2, 155, 156, 157, 158, 159, 160, 161, 850, 851, 852, 853, 854, 855, 892, 893, 894, 870, 871, 872, 873, 874, 875, 876, 877, 878, 879, 880, 881, 882, 883, 884, 885, 895, 896, 889, 890, 891] (by decide +kernel) (by decide +kernel)
set_option maxRecDepth 20000 in
theorem gL_law_X7_addProxy : GoodIn wsL_law (wsV RL 13 RX7 yX7_addProxy wsX7_addProxy) := goodIn_app (goodIn_of _ (by decide +kernel)) ggL_law_X7_addProxy
set_option maxRecDepth 20000 in
theorem ggL_law_X8_addProxy : GoodIn wsL_law wsX8_addProxy := goodIn_r _ [165, 99, 166, 167, 168, 5, 169, 170, 171, 172, 173, 174, 175, 176, 101, 177, 178, 179, 180, 181, 100, 856, 857, 858, 859, 860, 861, 862, 863, 864, 865, 866, 867, 868, 869] (by decide +kernel) (by decide +kernel)
set_option maxRecDepth 20000 in
theorem gL_law_X8_addProxy : GoodIn wsL_law (wsV RL 17 RX8 yX8_addProxy wsX8_addProxy) := goodIn_app (goodIn_of _ (by decide +kernel)) ggL_law_X8_addProxy
set_option maxRecDepth 20000 in
theorem ggL_law_X7_setHome : GoodIn wsL_law wsX7_setHome := goodIn_r _ [185, 27, 15, 23, 110, 111, 112, 26, 113, 84, 114, 115, 116, 117, 118, 119, 120, 121, 14, 122, 40, 41, 42, 123, 124, 125, 126, 44, 127, 128, 129, 130, 45, 46, 47, 48, 50, 51, 52, 131, 132, 133, 30, 134, 62, 135, 136, 60, 137, 138, 139, 186, 187, 188, 22, 189, 76, 190, 2, 191, 144, 145, 146, 147, 192, 193, 194, 195, 196, 197, 198, 199, 200, 201, 202, 203, 152, 153, 154, 155, 156, 157, 158, 159, 160, 161, 850, 851, 852, 853, 854, 855, 892, 893, 894, 870, 871, 872, 873, 874, 875, 876, 877, 878, 879, 880, 881, 882, 883, 884, 885, 895, 896, 889, 890, 891] (by decide +kernel) (by decide +kernel)
set_option maxRecDepth 20000 in
theorem gL_law_X7_setHome : GoodIn wsL_law (wsV RL 18 RX7 yX7_setHome wsX7_setHome) := goodIn_app (goodIn_of _ (by decide +kernel)) ggL_law_X7_setHome
set_option maxRecDepth 20000 in
theorem ggL_law_X8_setHome : GoodIn wsL_law wsX8_setHome := goodIn_r _ [207, 99, 208, 209, 5, 210, 170, 171, 172, 166, 167, 168, 169, 173, 174, 175, 176, 101, 177, 178, 179, 180, 181, 100, 856, 857, 858, 859, 860, 861, 862, 863, 864, 865, 866, 867, 868, 869] (by decide +kernel) (by decide +kernel)
set_option maxRecDepth 20000 in
theorem gL_law_X8_setHome : GoodIn wsL_law (wsV RL 22 RX8 yX8_setHome wsX8_setHome) := goodIn_app (goodIn_of _ (by decide +kernel)) ggL_law_X8_setHome
set_option maxRecDepth 20000 in
theorem ggL_law_X7_setLimits : GoodIn wsL_law wsX7_setLimits := goodIn_r _ [214, 27, 15, 23, 110, 111, 112, 26, 113, 84, 114, 115, 116, 117, 118, 119, 120, 121, 14, 122, 40, 41, 42, 123, 124, 125, 126, 44, 127, 128, 129, 130, 45, 46, 47, 48, 50, 51, 52, 131, 132, 133, 30, 134, 62, 135, 136, 60, 137, 138, 139, 215, 216, 217, 22, 218, 76, 152, 153, 154, 2, 155, 156, 157, 158, 159, 160, 161, 850, 851, 852, 853, 854, 855, 892, 893, 894, 870, 871, 872, 873, 874, 875, 876, 877, 878, 879, 880, 881, 882, 883, 884, 885, 895, 896, 889, 890, 891] (by decide +kernel) (by decide +kernel)
set_option maxRecDepth 20000 in
theorem gL_law_X7_setLimits : GoodIn wsL_law (wsV RL 23 RX7 yX7_setLimits wsX7_setLimits) := goodIn_app (goodIn_of _ (by decide +kernel)) ggL_law_X7_setLimits
set_option maxRecDepth 20000 in
theorem ggL_law_X8_setLimits : GoodIn wsL_law wsX8_setLimits := goodIn_r _ [222, 99, 170, 171, 5, 172, 173, 174, 175, 176, 101, 177, 178, 179, 180, 181, 100, 856, 857, 858, 859, 860, 861, 862, 863, 864, 865, 866, 867, 868, 869] (by decide +kernel) (by decide +kernel)
set_option maxRecDepth 20000 in
theorem gL_law_X8_setLimits : GoodIn wsL_law (wsV RL 26 RX8 yX8_setLimits wsX8_setLimits) := goodIn_app (goodIn_of _ (by decide +kernel)) ggL_law_X8_setLimits
set_option maxRecDepth 20000 in
theorem ggL_law_X7_proxy : GoodIn wsL_law wsX7_proxy := goodIn_r _ [226, 15, 19, 227, 145, 146, 14, 147, 40, 228, 229, 230, 231, 44, 232, 233, 234, 235, 236, 237, 238, 239, 240, 241, 242, 243, 244, 245, 246, 247, 248, 249, 250, 251, 252, 253, 254, 255, 256, 47, 257, 258, 259, 260, 261, 262, 263, 264, 265, 266, 267, 268, 269, 270, 18, 271, 67, 272, 273, 274, 275, 69, 276, 277, 278, 279, 280, 281, 282, 283, 48, 284, 285, 286, 287, 50, 53, 288, 289, 290, 291, 30, 292, 139, 293, 294, 295, 296, 297, 298, 299, 300, 301, 302, 303, 304, 305, 306, 307, 308, 309, 310, 850, 851, 852, 853, 854, 855, 870, 871, 872, 873, 874, 875, 876, 877, 878, 879, 880, 881, 882, 883, 884, 885, 886, 887, 888, 895, 896] (by decide +kernel) (by decide +kernel)
set_option maxRecDepth 20000 in
theorem gL_law_X7_proxy : GoodIn wsL_law (wsV RL 27 RX7 yX7_proxy wsX7_proxy) := goodIn_app (goodIn_of _ (by decide +kernel)) ggL_law_X7_proxy
set_option maxRecDepth 20000 in
theorem ggL_law_X8_proxy : GoodIn wsL_law wsX8_proxy := goodIn_r _ [314, 99, 166, 167, 168, 5, 169, 170, 171, 172, 315, 316, 317, 318, 319, 320, 321, 322, 323, 324, 325, 326, 103, 327, 328, 329, 330, 331, 332, 333, 334, 335, 336, 337, 338, 339, 340, 341, 342, 343, 344, 345, 346, 347, 348, 349, 350, 351, 352, 353, 354, 856, 857, 858, 859, 860, 861, 862, 863, 864, 865, 866, 867, 868, 869] (by decide +kernel) (by decide +kernel)
set_option maxRecDepth 20000 in
theorem gL_law_X8_proxy : GoodIn wsL_law (wsV RL 30 RX8 yX8_proxy wsX8_proxy) := goodIn_app (goodIn_of _ (by decide +kernel)) ggL_law_X8_proxy
set_option maxRecDepth 20000 in
theorem ggL_law_X7_count : GoodIn wsL_law wsX7_count := goodIn_r _ [358, 15, 27, 359, 360, 361, 14, 362, 363, 193, 194, 195, 46, 364, 365, 366, 26, 367, 160, 850, 851, 852, 853, 854, 855, 870, 871, 872, 873, 874, 875, 876, 877, 878, 879, 880, 881, 882, 883, 884, 885, 892, 893, 894] (by decide +kernel) (by decide +kernel)
set_option maxRecDepth 20000 in
theorem gL_law_X7_count : GoodIn wsL_law (wsV RL 31 RX7 yX7_count wsX7_count) := goodIn_app (goodIn_of _ (by decide +kernel)) ggL_law_X7_count
set_option maxRecDepth 20000 in
theorem ggL_law_X8_count : GoodIn wsL_law wsX8_count := goodIn_r _ [371, 99, 181, 856, 857, 858, 859, 860, 861, 862, 863, 864, 865, 866, 867, 868, 869] (by decide +kernel) (by decide +kernel)
set_option maxRecDepth 20000 in
theorem gL_law_X8_count : GoodIn wsL_law (wsV RL 34 RX8 yX8_count wsX8_count) := goodIn_app (goodIn_of _ (by decide +kernel)) ggL_law_X8_count
set_option maxRecDepth 20000 in
theorem ggL_law_X7_write : GoodIn wsL_law wsX7_write := goodIn_r _ [375, 27, 15, 23, 110, 111, 112, 26, 113, 84, 114, 115, 116, 117, 118, 119, 120, 121, 14, 122, 40, 41, 42, 123, 124, 125, 126, 44, 127, 128, 129, 130, 45, 46, 47, 48, 50, 51, 52, 131, 132, 133, 30, 134, 62, 135, 136, 60, 137, 138, 139, 376, 377, 378, 22, 379, 76, 77, 190, 2, 191, 192, 193, 194, 195, 196, 197, 198, 199, 380, 273, 274, 18, 275, 67, 69, 276, 254, 255, 256, 277, 278, 259, 279, 280, 281, 282, 283, 381, 382, 383, 384, 385, 386, 387, 388, 389, 390, 391, 392, 393, 394, 395, 396, 397, 398, 399, 400, 401, 402, 403, 404, 405, 406, 253, 407, 408, 409, 410, 411, 412, 413, 414, 415, 416, 297, 298, 299, 261, 262, 263, 264, 265, 266, 267, 417, 418, 419, 420, 421, 422, 423, 424, 425, 285, 286, 287, 53, 288, 145, 146, 147, 426, 427, 428, 429, 430, 290, 291, 292, 431, 432, 433, 434, 435, 436, 437, 438, 439, 440, 441, 442, 443, 444, 445, 446, 447, 229, 230, 231, 448, 449, 450, 451, 245, 246, 247, 248, 452, 453, 454, 455, 456, 242, 243, 244, 236, 152, 153, 154, 155, 156, 157, 158, 159, 160, 161, 850, 851, 852, 853, 854, 855, 892, 893, 894, 870, 871, 872, 873, 874, 875, 876, 877, 878, 879, 880, 881, 882, 883, 884, 885, 895, 896, 889, 890, 891, 886, 887, 888] (by decide +kernel) (by decide +kernel)
set_option maxRecDepth 20000 in
theorem gL_law_X7_write : GoodIn wsL_law (wsV RL 35 RX7 yX7_write wsX7_write) := goodIn_app (goodIn_of _ (by decide +kernel)) ggL_law_X7_write
set_option maxRecDepth 20000 in
theorem ggL_law_X8_write : GoodIn wsL_law wsX8_write := goodIn_r _ [460, 173, 174, 175, 5, 176, 101, 99, 461, 462, 463, 464, 103, 208, 209, 210, 170, 171, 172, 327, 328, 329, 330, 331, 332, 333, 334, 335, 336, 337, 338, 339, 340, 341, 342, 465, 466, 467, 468, 469, 470, 471, 472, 473, 474, 475, 476, 477, 478, 479, 480, 481, 482, 483, 177, 178, 179, 180, 181, 100, 856, 857, 858, 859, 860, 861, 862, 863, 864, 865, 866, 867, 868, 869] (by decide +kernel) (by decide +kernel)
set_option maxRecDepth 20000 in
theorem gL_law_X8_write : GoodIn wsL_law (wsV RL 38 RX8 yX8_write wsX8_write) := goodIn_app (goodIn_of _ (by decide +kernel)) ggL_law_X8_write
set_option maxRecDepth 20000 in
theorem ggL_law_X7_cause : GoodIn wsL_law wsX7_cause := goodIn_r _ [487, 15, 488, 190, 2, 191, 489, 490, 491, 14, 492, 363, 193, 194, 195, 46, 493, 494, 495, 496, 48, 850, 851, 852, 853, 854, 855, 870, 871, 872, 873, 874, 875, 876, 877, 878, 879, 880, 881, 882, 883, 884, 885] (by decide +kernel) (by decide +kernel)
set_option maxRecDepth 20000 in
theorem gL_law_X7_cause : GoodIn wsL_law (wsV RL 39 RX7 yX7_cause wsX7_cause) := goodIn_app (goodIn_of _ (by decide +kernel)) ggL_law_X7_cause
set_option maxRecDepth 20000 in
theorem ggL_law_X8_cause : GoodIn wsL_law wsX8_cause := goodIn_r _ [500, 501, 502, 503, 5, 504, 99, 208, 209, 210, 170, 171, 172, 339, 340, 341, 342, 856, 857, 858, 859, 860, 861, 862, 863, 864, 865, 866, 867, 868, 869] (by decide +kernel) (by decide +kernel)
set_option maxRecDepth 20000 in
theorem gL_law_X8_cause : GoodIn wsL_law (wsV RL 43 RX8 yX8_cause wsX8_cause) := goodIn_app (goodIn_of _ (by decide +kernel)) ggL_law_X8_cause
set_option maxRecDepth 20000 in
theorem ggL_law_X7_deliver : GoodIn wsL_law wsX7_deliver := goodIn_r _ [508, 27, 15, 23, 110, 111, 112, 26, 113, 84, 114, 115, 116, 117, 118, 119, 120, 121, 14, 122, 40, 41, 42, 123, 124, 125, 126, 44, 127, 128, 129, 130, 45, 46, 47, 48, 50, 51, 52, 131, 132, 133, 30, 134, 62, 135, 136, 60, 137, 138, 139, 509, 510, 511, 22, 512, 76, 513, 514, 515, 516, 245, 246, 247, 248, 517, 518, 519, 448, 449, 450, 451, 53, 430, 290, 291, 292, 447, 229, 230, 231, 435, 436, 437, 438, 439, 440, 441, 442, 395, 396, 397, 398, 399, 2, 400, 401, 402, 403, 404, 405, 406, 253, 254, 255, 256, 407, 408, 259, 409, 410, 411, 412, 413, 414, 415, 416, 297, 298, 299, 261, 262, 263, 264, 265, 266, 267, 417, 418, 419, 420, 421, 422, 423, 424, 77, 425, 285, 286, 287, 288, 145, 146, 147, 426, 427, 428, 429, 380, 273, 274, 18, 275, 67, 69, 276, 277, 278, 279, 280, 281, 282, 283, 431, 432, 433, 434, 381, 382, 383, 384, 443, 444, 445, 446, 452, 453, 454, 455, 456, 242, 243, 244, 236, 152, 153, 154, 155, 156, 157, 158, 159, 160, 161, 850, 851, 852, 853, 854, 855, 892, 893, 894, 870, 871, 872, 873, 874, 875, 876, 877, 878, 879, 880, 881, 882, 883, 884, 885, 895, 896, 889, 890, 891, 886, 887, 888] (by decide +kernel) (by decide +kernel)
set_option maxRecDepth 20000 in
theorem gL_law_X7_deliver : GoodIn wsL_law (wsV RL 44 RX7 yX7_deliver wsX7_deliver) := goodIn_app (goodIn_of _ (by decide +kernel)) ggL_law_X7_deliver
set_option maxRecDepth 20000 in
theorem ggL_law_X8_deliver : GoodIn wsL_law wsX8_deliver := goodIn_r _ [523, 173, 174, 175, 5, 176, 101, 99, 524, 525, 526, 527, 528, 529, 530, 531, 532, 533, 534, 535, 170, 171, 172, 477, 478, 479, 536, 537, 538, 539, 540, 541, 542, 543, 331, 332, 333, 334, 544, 545, 546, 547, 347, 348, 349, 350, 465, 466, 467, 468, 469, 470, 471, 472, 103, 327, 328, 329, 330, 335, 336, 337, 338, 339, 340, 341, 342, 473, 474, 475, 476, 480, 481, 482, 483, 177, 178, 179, 180, 181, 100, 856, 857, 858, 859, 860, 861, 862, 863, 864, 865, 866, 867, 868, 869] (by decide +kernel) (by decide +kernel)
set_option maxRecDepth 20000 in
theorem gL_law_X8_deliver : GoodIn wsL_law (wsV RL 47 RX8 yX8_deliver wsX8_deliver) := goodIn_app (goodIn_of _ (by decide +kernel)) ggL_law_X8_deliver
set_option maxRecDepth 20000 in
theorem ggL_law_X7_lose : GoodIn wsL_law wsX7_lose := goodIn_r _ [551, 27, 15, 23, 110, 111, 112, 26, 113, 84, 114, 115, 116, 117, 118, 119, 120, 121, 14, 122, 40, 41, 42, 123, 124, 125, 126, 44, 127, 128, 129, 130, 45, 46, 47, 48, 50, 51, 52, 131, 132, 133, 30, 134, 62, 135, 136, 60, 137, 138, 139, 552, 553, 554, 22, 555, 76, 556, 513, 514, 515, 516, 245, 246, 247, 248, 517, 518, 519, 448, 449, 450, 451, 53, 430, 290, 291, 292, 439, 440, 441, 442, 152, 153, 154, 2, 155, 156, 157, 158, 159, 160, 161, 850, 851, 852, 853, 854, 855, 892, 893, 894, 870, 871, 872, 873, 874, 875, 876, 877, 878, 879, 880, 881, 882, 883, 884, 885, 895, 896, 889, 890, 891] (by decide +kernel) (by decide +kernel)
set_option maxRecDepth 20000 in
theorem gL_law_X7_lose : GoodIn wsL_law (wsV RL 48 RX7 yX7_lose wsX7_lose) := goodIn_app (goodIn_of _ (by decide +kernel)) ggL_law_X7_lose
set_option maxRecDepth 20000 in
theorem ggL_law_X8_lose : GoodIn wsL_law wsX8_lose := goodIn_r _ [560, 173, 174, 175, 5, 176, 101, 99, 561, 562, 563, 564, 528, 529, 530, 531, 532, 533, 534, 535, 170, 171, 172, 477, 478, 479, 536, 537, 538, 539, 480, 481, 482, 483, 177, 178, 179, 180, 181, 100, 856, 857, 858, 859, 860, 861, 862, 863, 864, 865, 866, 867, 868, 869] (by decide +kernel) (by decide +kernel)
set_option maxRecDepth 20000 in
theorem gL_law_X8_lose : GoodIn wsL_law (wsV RL 51 RX8 yX8_lose wsX8_lose) := goodIn_app (goodIn_of _ (by decide +kernel)) ggL_law_X8_lose
set_option maxRecDepth 20000 in
theorem ggL_law_X7_queued : GoodIn wsL_law wsX7_queued := goodIn_r _ [568, 15, 569, 514, 515, 14, 516, 245, 246, 247, 248, 40, 570, 449, 450, 451, 53, 51, 52, 289, 290, 291, 30, 292, 139, 571, 436, 437, 438, 62, 850, 851, 852, 853, 854, 855, 870, 871, 872, 873, 874, 875, 876, 877, 878, 879, 880, 881, 882, 883, 884, 885, 895, 896] (by decide +kernel) (by decide +kernel)
set_option maxRecDepth 20000 in
theorem gL_law_X7_queued : GoodIn wsL_law (wsV RL 52 RX7 yX7_queued wsX7_queued) := goodIn_app (goodIn_of _ (by decide +kernel)) ggL_law_X7_queued
set_option maxRecDepth 20000 in
theorem ggL_law_X8_queued : GoodIn wsL_law wsX8_queued := goodIn_r _ [575, 99, 528, 529, 530, 5, 531, 532, 533, 534, 535, 170, 171, 172, 477, 478, 479, 856, 857, 858, 859, 860, 861, 862, 863, 864, 865, 866, 867, 868, 869] (by decide +kernel) (by decide +kernel)
set_option maxRecDepth 20000 in
theorem gL_law_X8_queued : GoodIn wsL_law (wsV RL 55 RX8 yX8_queued wsX8_queued) := goodIn_app (goodIn_of _ (by decide +kernel)) ggL_law_X8_queued
set_option maxRecDepth 20000 in
theorem ggL_law_X7_bound : GoodIn wsL_law wsX7_bound := goodIn_r _ [579, 15, 227, 145, 146, 14, 147, 40, 488, 190, 2, 191, 580, 254, 255, 256, 47, 581, 308, 259, 309, 850, 851, 852, 853, 854, 855, 870, 871, 872, 873, 874, 875, 876, 877, 878, 879, 880, 881, 882, 883, 884, 885] (by decide +kernel) (by decide +kernel)
set_option maxRecDepth 20000 in
theorem gL_law_X7_bound : GoodIn wsL_law (wsV RL 56 RX7 yX7_bound wsX7_bound) := goodIn_app (goodIn_of _ (by decide +kernel)) ggL_law_X7_bound
set_option maxRecDepth 20000 in
theorem ggL_law_X8_bound : GoodIn wsL_law wsX8_bound := goodIn_r _ [585, 166, 167, 168, 5, 169, 99, 170, 171, 172, 208, 209, 210, 351, 352, 353, 354, 331, 332, 333, 334, 856, 857, 858, 859, 860, 861, 862, 863, 864, 865, 866, 867, 868, 869] (by decide +kernel) (by decide +kernel)
set_option maxRecDepth 20000 in
theorem gL_law_X8_bound : GoodIn wsL_law (wsV RL 59 RX8 yX8_bound wsX8_bound) := goodIn_app (goodIn_of _ (by decide +kernel)) ggL_law_X8_bound
set_option maxRecDepth 20000 in
theorem ggL_law_X7_exception : GoodIn wsL_law wsX7_exception := goodIn_r _ [589, 15, 227, 145, 146, 14, 147, 40, 488, 190, 2, 191, 580, 254, 255, 256, 47, 590, 298, 259, 299, 261, 262, 263, 264, 265, 266, 267, 591, 305, 306, 307, 308, 309, 310, 258, 260, 592, 593, 594, 595, 408, 409, 850, 851, 852, 853, 854, 855, 870, 871, 872, 873, 874, 875, 876, 877, 878, 879, 880, 881, 882, 883, 884, 885] (by decide +kernel) (by decide +kernel)
set_option maxRecDepth 20000 in
theorem gL_law_X7_exception : GoodIn wsL_law (wsV RL 60 RX7 yX7_exception wsX7_exception) := goodIn_app (goodIn_of _ (by decide +kernel)) ggL_law_X7_exception
set_option maxRecDepth 20000 in
theorem ggL_law_X8_exception : GoodIn wsL_law wsX8_exception := goodIn_r _ [599, 166, 167, 168, 5, 169, 99, 170, 171, 172, 208, 209, 210, 347, 348, 349, 350, 331, 332, 333, 334, 351, 352, 353, 354, 856, 857, 858, 859, 860, 861, 862, 863, 864, 865, 866, 867, 868, 869] (by decide +kernel) (by decide +kernel)
set_option maxRecDepth 20000 in
theorem gL_law_X8_exception : GoodIn wsL_law (wsV RL 63 RX8 yX8_exception wsX8_exception) := goodIn_app (goodIn_of _ (by decide +kernel)) ggL_law_X8_exception
set_option maxRecDepth 20000 in
theorem ggL_law_X7_served : GoodIn wsL_law wsX7_served := goodIn_r _ [603, 15, 19, 227, 145, 146, 14, 147, 40, 488, 190, 2, 191, 604, 605, 606, 18, 607, 272, 273, 274, 275, 67, 69, 276, 254, 255, 256, 47, 277, 278, 259, 279, 280, 281, 282, 283, 48, 608, 382, 383, 384, 850, 851, 852, 853, 854, 855, 870, 871, 872, 873, 874, 875, 876, 877, 878, 879, 880, 881, 882, 883, 884, 885, 886, 887, 888] (by decide +kernel) (by decide +kernel)
set_option maxRecDepth 20000 in
theorem gL_law_X7_served : GoodIn wsL_law (wsV RL 64 RX7 yX7_served wsX7_served) := goodIn_app (goodIn_of _ (by decide +kernel)) ggL_law_X7_served
set_option maxRecDepth 20000 in
theorem ggL_law_X8_served : GoodIn wsL_law wsX8_served := goodIn_r _ [612, 103, 166, 167, 168, 5, 169, 99, 170, 171, 172, 208, 209, 210, 327, 328, 329, 330, 331, 332, 333, 334, 335, 336, 337, 338, 339, 340, 341, 342, 856, 857, 858, 859, 860, 861, 862, 863, 864, 865, 866, 867, 868, 869] (by decide +kernel) (by decide +kernel)
set_option maxRecDepth 20000 in
theorem gL_law_X8_served : GoodIn wsL_law (wsV RL 67 RX8 yX8_served wsX8_served) := goodIn_app (goodIn_of _ (by decide +kernel)) ggL_law_X8_served
set_option maxRecDepth 20000 in
theorem ggL_law_X7_status : GoodIn wsL_law wsX7_status := goodIn_r _ [616, 15, 19, 227, 145, 146, 14, 147, 40, 489, 490, 491, 492, 190, 2, 191, 363, 193, 194, 195, 46, 617, 404, 405, 406, 253, 254, 255, 256, 47, 407, 408, 259, 409, 604, 605, 606, 18, 607, 272, 273, 274, 275, 67, 69, 276, 277, 278, 279, 280, 281, 282, 283, 48, 608, 382, 383, 384, 618, 393, 394, 619, 620, 621, 622, 623, 285, 286, 287, 50, 53, 288, 624, 625, 626, 30, 627, 139, 62, 850, 851, 852, 853, 854, 855, 870, 871, 872, 873, 874, 875, 876, 877, 878, 879, 880, 881, 882, 883, 884, 885, 886, 887, 888, 895, 896] (by decide +kernel) (by decide +kernel)
set_option maxRecDepth 20000 in
theorem gL_law_X7_status : GoodIn wsL_law (wsV RL 68 RX7 yX7_status wsX7_status) := goodIn_app (goodIn_of _ (by decide +kernel)) ggL_law_X7_status
set_option maxRecDepth 20000 in
theorem ggL_law_X8_status : GoodIn wsL_law wsX8_status := goodIn_r _ [631, 103, 166, 167, 168, 5, 169, 99, 170, 171, 172, 501, 502, 503, 504, 208, 209, 210, 327, 328, 329, 330, 331, 332, 333, 334, 335, 336, 337, 338, 339, 340, 341, 342, 632, 633, 634, 635, 856, 857, 858, 859, 860, 861, 862, 863, 864, 865, 866, 867, 868, 869] (by decide +kernel) (by decide +kernel)
set_option maxRecDepth 20000 in
theorem gL_law_X8_status : GoodIn wsL_law (wsV RL 71 RX8 yX8_status wsX8_status) := goodIn_app (goodIn_of _ (by decide +kernel)) ggL_law_X8_status
set_option maxRecDepth 20000 in
theorem ggL_law_X7_missing : GoodIn wsL_law wsX7_missing := goodIn_r _ [639, 15, 19, 227, 145, 146, 14, 147, 40, 489, 490, 491, 492, 190, 2, 191, 363, 193, 194, 195, 46, 640, 641, 642, 18, 643, 68, 69, 644, 645, 646, 647, 648, 649, 650, 651, 652, 494, 495, 496, 48, 653, 404, 405, 406, 253, 254, 255, 256, 47, 407, 408, 259, 409, 850, 851, 852, 853, 854, 855, 870, 871, 872, 873, 874, 875, 876, 877, 878, 879, 880, 881, 882, 883, 884, 885, 886, 887, 888] (by decide +kernel) (by decide +kernel)
set_option maxRecDepth 20000 in
theorem gL_law_X7_missing : GoodIn wsL_law (wsV RL 72 RX7 yX7_missing wsX7_missing) := goodIn_app (goodIn_of _ (by decide +kernel)) ggL_law_X7_missing
set_option maxRecDepth 20000 in
theorem ggL_law_X8_missing : GoodIn wsL_law wsX8_missing := goodIn_r _ [657, 105, 166, 167, 168, 5, 169, 99, 170, 171, 172, 501, 502, 503, 504, 208, 209, 210, 658, 659, 660, 661, 339, 340, 341, 342, 331, 332, 333, 334, 856, 857, 858, 859, 860, 861, 862, 863, 864, 865, 866, 867, 868, 869] (by decide +kernel) (by decide +kernel)
set_option maxRecDepth 20000 in
theorem gL_law_X8_missing : GoodIn wsL_law (wsV RL 75 RX8 yX8_missing wsX8_missing) := goodIn_app (goodIn_of _ (by decide +kernel)) ggL_law_X8_missing
set_option maxRecDepth 20000 in
theorem ggL_law_X7_kept : GoodIn wsL_law wsX7_kept := goodIn_r _ [665, 15, 227, 145, 146, 14, 147, 40, 284, 285, 286, 287, 50, 53, 288, 289, 290, 291, 30, 292, 139, 571, 436, 437, 438, 62, 850, 851, 852, 853, 854, 855, 870, 871, 872, 873, 874, 875, 876, 877, 878, 879, 880, 881, 882, 883, 884, 885, 895, 896] (by decide +kernel) (by decide +kernel)
set_option maxRecDepth 20000 in
theorem gL_law_X7_kept : GoodIn wsL_law (wsV RL 76 RX7 yX7_kept wsX7_kept) := goodIn_app (goodIn_of _ (by decide +kernel)) ggL_law_X7_kept
set_option maxRecDepth 20000 in
theorem ggL_law_X8_kept : GoodIn wsL_law wsX8_kept := goodIn_r _ [669, 99, 166, 167, 168, 5, 169, 170, 171, 172, 856, 857, 858, 859, 860, 861, 862, 863, 864, 865, 866, 867, 868, 869] (by decide +kernel) (by decide +kernel)
set_option maxRecDepth 20000 in
theorem gL_law_X8_kept : GoodIn wsL_law (wsV RL 79 RX8 yX8_kept wsX8_kept) := goodIn_app (goodIn_of _ (by decide +kernel)) ggL_law_X8_kept
set_option maxRecDepth 20000 in
theorem ggL_law_X7_read : GoodIn wsL_law wsX7_read := goodIn_r _ [673, 27, 15, 23, 110, 111, 112, 26, 113, 84, 114, 115, 116, 117, 118, 119, 120, 121, 14, 122, 40, 41, 42, 123, 124, 125, 126, 44, 127, 128, 129, 130, 45, 46, 47, 48, 50, 51, 52, 131, 132, 133, 30, 134, 62, 135, 136, 60, 137, 138, 139, 674, 675, 676, 22, 677, 76, 77, 144, 145, 146, 147, 678, 490, 491, 492, 190, 2, 191, 363, 193, 194, 195, 679, 605, 606, 18, 607, 272, 273, 274, 275, 67, 69, 276, 254, 255, 256, 277, 278, 259, 279, 280, 281, 282, 283, 608, 382, 383, 384, 393, 394, 680, 681, 682, 683, 684, 620, 621, 622, 623, 285, 286, 287, 53, 288, 624, 625, 626, 627, 447, 229, 230, 231, 421, 422, 423, 424, 425, 426, 427, 428, 429, 430, 290, 291, 292, 380, 431, 432, 433, 434, 435, 436, 437, 438, 401, 402, 399, 400, 381, 439, 440, 441, 442, 152, 153, 154, 155, 156, 157, 158, 159, 160, 161, 850, 851, 852, 853, 854, 855, 892, 893, 894, 870, 871, 872, 873, 874, 875, 876, 877, 878, 879, 880, 881, 882, 883, 884, 885, 895, 896, 889, 890, 891, 886, 887, 888] (by decide +kernel) (by decide +kernel)
set_option maxRecDepth 20000 in
theorem gL_law_X7_read : GoodIn wsL_law (wsV RL 80 RX7 yX7_read wsX7_read) := goodIn_app (goodIn_of _ (by decide +kernel)) ggL_law_X7_read
set_option maxRecDepth 20000 in
theorem ggL_law_X8_read : GoodIn wsL_law wsX8_read := goodIn_r _ [688, 103, 99, 166, 167, 168, 5, 169, 170, 171, 172, 501, 502, 503, 504, 208, 209, 210, 327, 328, 329, 330, 331, 332, 333, 334, 335, 336, 337, 338, 339, 340, 341, 342, 632, 633, 634, 635, 173, 174, 175, 176, 101, 469, 470, 471, 472, 177, 178, 179, 180, 181, 100, 856, 857, 858, 859, 860, 861, 862, 863, 864, 865, 866, 867, 868, 869] (by decide +kernel) (by decide +kernel)
set_option maxRecDepth 20000 in
theorem gL_law_X8_read : GoodIn wsL_law (wsV RL 83 RX8 yX8_read wsX8_read) := goodIn_app (goodIn_of _ (by decide +kernel)) ggL_law_X8_read
set_option maxRecDepth 20000 in
theorem ggL_law_X7_ask : GoodIn wsL_law wsX7_ask := goodIn_r _ [692, 27, 15, 23, 110, 111, 112, 26, 113, 84, 114, 115, 116, 117, 118, 119, 120, 121, 14, 122, 40, 41, 42, 123, 124, 125, 126, 44, 127, 128, 129, 130, 45, 46, 47, 48, 50, 51, 52, 131, 132, 133, 30, 134, 62, 135, 136, 60, 137, 138, 139, 693, 694, 695, 22, 696, 76, 75, 697, 246, 247, 248, 698, 699, 700, 701, 236, 229, 230, 231, 702, 703, 704, 705, 447, 706, 707, 708, 709, 710, 254, 255, 256, 711, 308, 259, 309, 403, 404, 405, 406, 253, 407, 408, 409, 393, 2, 394, 426, 427, 428, 429, 430, 290, 291, 292, 435, 436, 437, 438, 395, 396, 397, 398, 399, 400, 401, 402, 410, 411, 412, 413, 414, 415, 416, 297, 298, 299, 261, 262, 263, 264, 265, 266, 267, 417, 418, 419, 420, 421, 422, 423, 424, 77, 425, 285, 286, 287, 53, 288, 145, 146, 147, 380, 273, 274, 18, 275, 67, 69, 276, 277, 278, 279, 280, 281, 282, 283, 431, 432, 433, 434, 381, 382, 383, 384, 439, 440, 441, 442, 443, 444, 445, 446, 448, 449, 450, 451, 245, 452, 453, 454, 455, 456, 242, 243, 244, 152, 153, 154, 155, 156, 157, 158, 159, 160, 161, 850, 851, 852, 853, 854, 855, 892, 893, 894, 870, 871, 872, 873, 874, 875, 876, 877, 878, 879, 880, 881, 882, 883, 884, 885, 895, 896, 889, 890, 891, 886, 887, 888] (by decide +kernel) (by decide +kernel)
set_option maxRecDepth 20000 in
theorem gL_law_X7_ask : GoodIn wsL_law (wsV RL 84 RX7 yX7_ask wsX7_ask) := goodIn_app (goodIn_of _ (by decide +kernel)) ggL_law_X7_ask
set_option maxRecDepth 20000 in
theorem ggL_law_X8_ask : GoodIn wsL_law wsX8_ask := goodIn_r _ [715, 173, 174, 175, 5, 176, 101, 99, 716, 717, 718, 719, 720, 532, 533, 534, 535, 170, 171, 172, 315, 316, 317, 318, 721, 722, 723, 724, 104, 351, 352, 353, 354, 331, 332, 333, 334, 540, 541, 542, 543, 544, 545, 546, 547, 347, 348, 349, 350, 465, 466, 467, 468, 469, 470, 471, 472, 103, 327, 328, 329, 330, 335, 336, 337, 338, 339, 340, 341, 342, 473, 474, 475, 476, 477, 478, 479, 480, 481, 482, 483, 177, 178, 179, 180, 181, 100, 856, 857, 858, 859, 860, 861, 862, 863, 864, 865, 866, 867, 868, 869] (by decide +kernel) (by decide +kernel)
set_option maxRecDepth 20000 in
theorem gL_law_X8_ask : GoodIn wsL_law (wsV RL 87 RX8 yX8_ask wsX8_ask) := goodIn_app (goodIn_of _ (by decide +kernel)) ggL_law_X8_ask
set_option maxRecDepth 20000 in
theorem ggL_law_X7_covers : GoodIn wsL_law wsX7_covers := goodIn_r _ [728, 15, 227, 145, 146, 14, 147, 40, 580, 254, 255, 256, 47, 850, 851, 852, 853, 854, 855, 870, 871, 872, 873, 874, 875, 876, 877, 878, 879, 880, 881, 882, 883, 884, 885] (by decide +kernel) (by decide +kernel)
set_option maxRecDepth 20000 in
theorem gL_law_X7_covers : GoodIn wsL_law (wsV RL 88 RX7 yX7_covers wsX7_covers) := goodIn_app (goodIn_of _ (by decide +kernel)) ggL_law_X7_covers
set_option maxRecDepth 20000 in
theorem ggL_law_X8_covers : GoodIn wsL_law wsX8_covers := goodIn_r _ [732, 99, 166, 167, 168, 5, 169, 170, 171, 172, 856, 857, 858, 859, 860, 861, 862, 863, 864, 865, 866, 867, 868, 869] (by decide +kernel) (by decide +kernel)
set_option maxRecDepth 20000 in
theorem gL_law_X8_covers : GoodIn wsL_law (wsV RL 91 RX8 yX8_covers wsX8_covers) := goodIn_app (goodIn_of _ (by decide +kernel)) ggL_law_X8_covers
set_option maxRecDepth 20000 in
theorem ggL_law_X7_upToDate : GoodIn wsL_law wsX7_upToDate := goodIn_r _ [736, 15, 19, 359, 360, 361, 14, 362, 363, 193, 194, 195, 46, 268, 269, 270, 18, 271, 67, 272, 273, 274, 275, 69, 276, 254, 255, 256, 47, 277, 278, 259, 279, 280, 281, 282, 283, 48, 850, 851, 852, 853, 854, 855, 870, 871, 872, 873, 874, 875, 876, 877, 878, 879, 880, 881, 882, 883, 884, 885, 886, 887, 888] (by decide +kernel) (by decide +kernel)
set_option maxRecDepth 20000 in
theorem gL_law_X7_upToDate : GoodIn wsL_law (wsV RL 92 RX7 yX7_upToDate wsX7_upToDate) := goodIn_app (goodIn_of _ (by decide +kernel)) ggL_law_X7_upToDate
set_option maxRecDepth 20000 in
theorem ggL_law_X8_upToDate : GoodIn wsL_law wsX8_upToDate := goodIn_r _ [740, 99, 103, 327, 328, 329, 5, 330, 331, 332, 333, 334, 335, 336, 337, 338, 339, 340, 341, 342, 856, 857, 858, 859, 860, 861, 862, 863, 864, 865, 866, 867, 868, 869] (by decide +kernel) (by decide +kernel)
set_option maxRecDepth 20000 in
theorem gL_law_X8_upToDate : GoodIn wsL_law (wsV RL 96 RX8 yX8_upToDate wsX8_upToDate) := goodIn_app (goodIn_of _ (by decide +kernel)) ggL_law_X8_upToDate
set_option maxRecDepth 20000 in
theorem ggL_law_X7_appendCharacter : GoodIn wsL_law wsX7_appendCharacter := goodIn_r _ [744, 31, 745, 427, 428, 30, 429, 139, 62, 289, 290, 291, 292, 850, 851, 852, 853, 854, 855, 895, 896] (by decide +kernel) (by decide +kernel)
set_option maxRecDepth 20000 in
theorem gL_law_X7_appendCharacter : GoodIn wsL_law (wsV RL 97 RX7 yX7_appendCharacter wsX7_appendCharacter) := goodIn_app (goodIn_of _ (by decide +kernel)) ggL_law_X7_appendCharacter
set_option maxRecDepth 20000 in
theorem ggL_law_X8_appendCharacter : GoodIn wsL_law wsX8_appendCharacter := goodIn_r _ [749, 750, 102, 170, 171, 5, 172, 856, 857, 858, 859, 860, 861, 862, 863, 864, 865, 866, 867, 868, 869] (by decide +kernel) (by decide +kernel)
set_option maxRecDepth 20000 in
theorem gL_law_X8_appendCharacter : GoodIn wsL_law (wsV RL 100 RX8 yX8_appendCharacter wsX8_appendCharacter) := goodIn_app (goodIn_of _ (by decide +kernel)) ggL_law_X8_appendCharacter
set_option maxRecDepth 20000 in
theorem ggL_law_X7_clearText : GoodIn wsL_law wsX7_clearText := goodIn_r _ [754, 31, 289, 290, 291, 30, 292, 139, 755, 707, 708, 709, 850, 851, 852, 853, 854, 855, 895, 896] (by decide +kernel) (by decide +kernel)
set_option maxRecDepth 20000 in
theorem gL_law_X7_clearText : GoodIn wsL_law (wsV RL 101 RX7 yX7_clearText wsX7_clearText) := goodIn_app (goodIn_of _ (by decide +kernel)) ggL_law_X7_clearText
set_option maxRecDepth 20000 in
theorem ggL_law_X8_clearText : GoodIn wsL_law wsX8_clearText := goodIn_r _ [759, 750, 856, 857, 858, 859, 860, 861, 862, 863, 864, 865, 866, 867, 868, 869] (by decide +kernel) (by decide +kernel)
set_option maxRecDepth 20000 in
theorem gL_law_X8_clearText : GoodIn wsL_law (wsV RL 104 RX8 yX8_clearText wsX8_clearText) := goodIn_app (goodIn_of _ (by decide +kernel)) ggL_law_X8_clearText
set_option maxRecDepth 20000 in
theorem ggL_law_X7_runScript : GoodIn wsL_law wsX7_runScript := goodIn_r _ [763, 35, 31, 15, 27, 764, 765, 766, 34, 767, 91, 92, 93, 768, 707, 708, 30, 709, 139, 769, 290, 291, 292, 770, 436, 437, 438, 62, 771, 772, 773, 774, 775, 776, 777, 778, 779, 780, 781, 782, 783, 784, 785, 427, 428, 429, 786, 787, 788, 789, 790, 791, 792, 793, 110, 111, 112, 26, 113, 84, 114, 115, 116, 117, 118, 119, 120, 121, 14, 122, 40, 41, 42, 123, 124, 125, 126, 44, 127, 128, 129, 130, 45, 46, 47, 48, 50, 51, 52, 131, 132, 133, 134, 135, 136, 60, 137, 138, 156, 157, 158, 159, 160, 161, 755, 794, 795, 796, 797, 798, 799, 800, 801, 802, 803, 804, 805, 806, 807, 808, 809, 810, 811, 812, 2, 813, 23, 376, 377, 378, 22, 379, 76, 77, 190, 191, 192, 193, 194, 195, 196, 197, 198, 199, 380, 273, 274, 18, 275, 67, 69, 276, 254, 255, 256, 277, 278, 259, 279, 280, 281, 282, 283, 381, 382, 383, 384, 385, 386, 387, 388, 389, 390, 391, 392, 393, 394, 395, 396, 397, 398, 399, 400, 401, 402, 403, 404, 405, 406, 253, 407, 408, 409, 410, 411, 412, 413, 414, 415, 416, 297, 298, 299, 261, 262, 263, 264, 265, 266, 267, 417, 418, 419, 420, 421, 422, 423, 424, 425, 285, 286, 287, 53, 288, 145, 146, 147, 426, 430, 431, 432, 433, 434, 435, 439, 440, 441, 442, 443, 444, 445, 446, 447, 229, 230, 231, 448, 449, 450, 451, 245, 246, 247, 248, 452, 453, 454, 455, 456, 242, 243, 244, 236, 509, 510, 511, 512, 513, 514, 515, 516, 517, 518, 519, 552, 553, 554, 555, 556, 693, 694, 695, 696, 75, 697, 698, 699, 700, 701, 702, 703, 704, 705, 706, 710, 711, 308, 309, 850, 851, 852, 853, 854, 855, 870, 871, 872, 873, 874, 875, 876, 877, 878, 879, 880, 881, 882, 883, 884, 885, 897, 898, 899, 895, 896, 892, 893, 894, 889, 890, 891, 886, 887, 888] (by decide +kernel) (by decide +kernel)
set_option maxRecDepth 20000 in
theorem gL_law_X7_runScript : GoodIn wsL_law (wsV RL 105 RX7 yX7_runScript wsX7_runScript) := goodIn_app (goodIn_of _ (by decide +kernel)) ggL_law_X7_runScript
set_option maxRecDepth 20000 in
theorem ggL_law_X8_runScript : GoodIn wsL_law wsX8_runScript := goodIn_r _ [817, 818, 750, 819, 820, 821, 5, 822, 102, 823, 824, 825, 826, 827, 99, 828, 829, 830, 831, 832, 833, 170, 171, 172, 173, 174, 175, 176, 101, 834, 835, 836, 837, 461, 462, 463, 464, 103, 208, 209, 210, 327, 328, 329, 330, 331, 332, 333, 334, 335, 336, 337, 338, 339, 340, 341, 342, 465, 466, 467, 468, 469, 470, 471, 472, 473, 474, 475, 476, 477, 478, 479, 524, 525, 526, 527, 528, 529, 530, 531, 532, 533, 534, 535, 536, 537, 538, 539, 540, 541, 542, 543, 544, 545, 546, 547, 347, 348, 349, 350, 561, 562, 563, 564, 716, 717, 718, 719, 720, 315, 316, 317, 318, 721, 722, 723, 724, 104, 351, 352, 353, 354, 177, 178, 179, 180, 181, 100, 856, 857, 858, 859, 860, 861, 862, 863, 864, 865, 866, 867, 868, 869] (by decide +kernel) (by decide +kernel)
set_option maxRecDepth 20000 in
theorem gL_law_X8_runScript : GoodIn wsL_law (wsV RL 108 RX8 yX8_runScript wsX8_runScript) := goodIn_app (goodIn_of _ (by decide +kernel)) ggL_law_X8_runScript
set_option maxRecDepth 20000 in
theorem ggL_law_X7_undo : GoodIn wsL_law wsX7_undo := goodIn_r _ [841, 27, 15, 842, 843, 844, 26, 845, 160, 114, 84, 115, 116, 117, 118, 119, 120, 121, 14, 122, 40, 41, 42, 123, 124, 125, 126, 44, 127, 128, 129, 130, 45, 46, 47, 48, 50, 51, 52, 131, 132, 133, 30, 134, 62, 135, 136, 60, 137, 138, 139, 364, 365, 366, 367, 850, 851, 852, 853, 854, 855, 892, 893, 894, 870, 871, 872, 873, 874, 875, 876, 877, 878, 879, 880, 881, 882, 883, 884, 885, 895, 896] (by decide +kernel) (by decide +kernel)
set_option maxRecDepth 20000 in
theorem gL_law_X7_undo : GoodIn wsL_law (wsV RL 109 RX7 yX7_undo wsX7_undo) := goodIn_app (goodIn_of _ (by decide +kernel)) ggL_law_X7_undo
set_option maxRecDepth 20000 in
theorem ggL_law_X8_undo : GoodIn wsL_law wsX8_undo := goodIn_r _ [849, 181, 99, 100, 856, 857, 858, 859, 860, 861, 862, 863, 864, 865, 866, 867, 868, 869] (by decide +kernel) (by decide +kernel)
set_option maxRecDepth 20000 in
theorem gL_law_X8_undo : GoodIn wsL_law (wsV RL 112 RX8 yX8_undo wsX8_undo) := goodIn_app (goodIn_of _ (by decide +kernel)) ggL_law_X8_undo
theorem dL_law_0 : decode cL_law 0 = .ok (.new 7, 3) := by decide +kernel
theorem dL_law_3 : decode cL_law 3 = .ok (.dup, 1) := by decide +kernel
theorem dL_law_4 : decode cL_law 4 = .ok (.invokespecial 9, 3) := by decide +kernel
theorem dL_law_7 : decode cL_law 7 = .ok (.astore_n 1, 1) := by decide +kernel
theorem dL_law_8 : decode cL_law 8 = .ok (.new 10, 3) := by decide +kernel
theorem dL_law_11 : decode cL_law 11 = .ok (.dup, 1) := by decide +kernel
theorem dL_law_12 : decode cL_law 12 = .ok (.invokespecial 12, 3) := by decide +kernel
theorem dL_law_15 : decode cL_law 15 = .ok (.astore_n 2, 1) := by decide +kernel
theorem dL_law_16 : decode cL_law 16 = .ok (.iconst 0, 1) := by decide +kernel
theorem dL_law_17 : decode cL_law 17 = .ok (.istore_n 3, 1) := by decide +kernel
theorem dL_law_18 : decode cL_law 18 = .ok (.iload_n 3, 1) := by decide +kernel
theorem dL_law_19 : decode cL_law 19 = .ok (.aload_n 0, 1) := by decide +kernel
theorem dL_law_20 : decode cL_law 20 = .ok (.arraylength, 1) := by decide +kernel
theorem dL_law_21 : decode cL_law 21 = .ok (.iconst 4, 1) := by decide +kernel
theorem dL_law_22 : decode cL_law 22 = .ok (.isub, 1) := by decide +kernel
theorem dL_law_23 : decode cL_law 23 = .ok (.if_icmp .gt 869, 3) := by decide +kernel
theorem dL_law_26 : decode cL_law 26 = .ok (.aload_n 0, 1) := by decide +kernel
theorem dL_law_27 : decode cL_law 27 = .ok (.iload_n 3, 1) := by decide +kernel
theorem dL_law_28 : decode cL_law 28 = .ok (.iaload, 1) := by decide +kernel
theorem dL_law_29 : decode cL_law 29 = .ok (.bipush 31, 2) := by decide +kernel
theorem dL_law_31 : decode cL_law 31 = .ok (.iand, 1) := by decide +kernel
theorem dL_law_32 : decode cL_law 32 = .ok (.tableswitch 854 0 23 #[112, 135, 168, 201, 234, 257, 280, 323, 366, 409, 452, 485, 528, 561, 604, 647, 680, 723, 746, 779, 792, 815, 828, 841], 112) := by decide +kernel
theorem dL_law_144 : decode cL_law 144 = .ok (.aload_n 1, 1) := by decide +kernel
theorem dL_law_145 : decode cL_law 145 = .ok (.aload_n 0, 1) := by decide +kernel
theorem dL_law_146 : decode cL_law 146 = .ok (.iload_n 3, 1) := by decide +kernel
theorem dL_law_147 : decode cL_law 147 = .ok (.iconst 1, 1) := by decide +kernel
theorem dL_law_148 : decode cL_law 148 = .ok (.iadd, 1) := by decide +kernel
theorem dL_law_149 : decode cL_law 149 = .ok (.iaload, 1) := by decide +kernel
theorem dL_law_150 : decode cL_law 150 = .ok (.invokevirtual 13, 3) := by decide +kernel
theorem dL_law_153 : decode cL_law 153 = .ok (.aload_n 2, 1) := by decide +kernel
theorem dL_law_154 : decode cL_law 154 = .ok (.aload_n 0, 1) := by decide +kernel
theorem dL_law_155 : decode cL_law 155 = .ok (.iload_n 3, 1) := by decide +kernel
theorem dL_law_156 : decode cL_law 156 = .ok (.iconst 1, 1) := by decide +kernel
theorem dL_law_157 : decode cL_law 157 = .ok (.iadd, 1) := by decide +kernel
theorem dL_law_158 : decode cL_law 158 = .ok (.iaload, 1) := by decide +kernel
theorem dL_law_159 : decode cL_law 159 = .ok (.invokevirtual 17, 3) := by decide +kernel
theorem dL_law_162 : decode cL_law 162 = .ok (.if_icmp .eq 724, 3) := by decide +kernel
theorem dL_law_165 : decode cL_law 165 = .ok (.iconst 0, 1) := by decide +kernel
theorem dL_law_166 : decode cL_law 166 = .ok (.ireturn, 1) := by decide +kernel
theorem dL_law_167 : decode cL_law 167 = .ok (.aload_n 1, 1) := by decide +kernel
theorem dL_law_168 : decode cL_law 168 = .ok (.aload_n 0, 1) := by decide +kernel
theorem dL_law_169 : decode cL_law 169 = .ok (.iload_n 3, 1) := by decide +kernel
theorem dL_law_170 : decode cL_law 170 = .ok (.iconst 1, 1) := by decide +kernel
theorem dL_law_171 : decode cL_law 171 = .ok (.iadd, 1) := by decide +kernel
theorem dL_law_172 : decode cL_law 172 = .ok (.iaload, 1) := by decide +kernel
theorem dL_law_173 : decode cL_law 173 = .ok (.aload_n 0, 1) := by decide +kernel
theorem dL_law_174 : decode cL_law 174 = .ok (.iload_n 3, 1) := by decide +kernel
theorem dL_law_175 : decode cL_law 175 = .ok (.iconst 2, 1) := by decide +kernel
theorem dL_law_176 : decode cL_law 176 = .ok (.iadd, 1) := by decide +kernel
theorem dL_law_177 : decode cL_law 177 = .ok (.iaload, 1) := by decide +kernel
theorem dL_law_178 : decode cL_law 178 = .ok (.invokevirtual 18, 3) := by decide +kernel
theorem dL_law_181 : decode cL_law 181 = .ok (.aload_n 2, 1) := by decide +kernel
theorem dL_law_182 : decode cL_law 182 = .ok (.aload_n 0, 1) := by decide +kernel
theorem dL_law_183 : decode cL_law 183 = .ok (.iload_n 3, 1) := by decide +kernel
theorem dL_law_184 : decode cL_law 184 = .ok (.iconst 1, 1) := by decide +kernel
theorem dL_law_185 : decode cL_law 185 = .ok (.iadd, 1) := by decide +kernel
theorem dL_law_186 : decode cL_law 186 = .ok (.iaload, 1) := by decide +kernel
theorem dL_law_187 : decode cL_law 187 = .ok (.aload_n 0, 1) := by decide +kernel
theorem dL_law_188 : decode cL_law 188 = .ok (.iload_n 3, 1) := by decide +kernel
theorem dL_law_189 : decode cL_law 189 = .ok (.iconst 2, 1) := by decide +kernel
theorem dL_law_190 : decode cL_law 190 = .ok (.iadd, 1) := by decide +kernel
theorem dL_law_191 : decode cL_law 191 = .ok (.iaload, 1) := by decide +kernel
theorem dL_law_192 : decode cL_law 192 = .ok (.invokevirtual 22, 3) := by decide +kernel
theorem dL_law_195 : decode cL_law 195 = .ok (.if_icmp .eq 691, 3) := by decide +kernel
theorem dL_law_198 : decode cL_law 198 = .ok (.iconst 0, 1) := by decide +kernel
theorem dL_law_199 : decode cL_law 199 = .ok (.ireturn, 1) := by decide +kernel
theorem dL_law_200 : decode cL_law 200 = .ok (.aload_n 1, 1) := by decide +kernel
theorem dL_law_201 : decode cL_law 201 = .ok (.aload_n 0, 1) := by decide +kernel
theorem dL_law_202 : decode cL_law 202 = .ok (.iload_n 3, 1) := by decide +kernel
theorem dL_law_203 : decode cL_law 203 = .ok (.iconst 1, 1) := by decide +kernel
theorem dL_law_204 : decode cL_law 204 = .ok (.iadd, 1) := by decide +kernel
theorem dL_law_205 : decode cL_law 205 = .ok (.iaload, 1) := by decide +kernel
theorem dL_law_206 : decode cL_law 206 = .ok (.aload_n 0, 1) := by decide +kernel
theorem dL_law_207 : decode cL_law 207 = .ok (.iload_n 3, 1) := by decide +kernel
theorem dL_law_208 : decode cL_law 208 = .ok (.iconst 2, 1) := by decide +kernel
theorem dL_law_209 : decode cL_law 209 = .ok (.iadd, 1) := by decide +kernel
theorem dL_law_210 : decode cL_law 210 = .ok (.iaload, 1) := by decide +kernel
theorem dL_law_211 : decode cL_law 211 = .ok (.invokevirtual 23, 3) := by decide +kernel
theorem dL_law_214 : decode cL_law 214 = .ok (.aload_n 2, 1) := by decide +kernel
theorem dL_law_215 : decode cL_law 215 = .ok (.aload_n 0, 1) := by decide +kernel
theorem dL_law_216 : decode cL_law 216 = .ok (.iload_n 3, 1) := by decide +kernel
theorem dL_law_217 : decode cL_law 217 = .ok (.iconst 1, 1) := by decide +kernel
theorem dL_law_218 : decode cL_law 218 = .ok (.iadd, 1) := by decide +kernel
theorem dL_law_219 : decode cL_law 219 = .ok (.iaload, 1) := by decide +kernel
theorem dL_law_220 : decode cL_law 220 = .ok (.aload_n 0, 1) := by decide +kernel
theorem dL_law_221 : decode cL_law 221 = .ok (.iload_n 3, 1) := by decide +kernel
theorem dL_law_222 : decode cL_law 222 = .ok (.iconst 2, 1) := by decide +kernel
theorem dL_law_223 : decode cL_law 223 = .ok (.iadd, 1) := by decide +kernel
theorem dL_law_224 : decode cL_law 224 = .ok (.iaload, 1) := by decide +kernel
theorem dL_law_225 : decode cL_law 225 = .ok (.invokevirtual 26, 3) := by decide +kernel
theorem dL_law_228 : decode cL_law 228 = .ok (.if_icmp .eq 658, 3) := by decide +kernel
theorem dL_law_231 : decode cL_law 231 = .ok (.iconst 0, 1) := by decide +kernel
theorem dL_law_232 : decode cL_law 232 = .ok (.ireturn, 1) := by decide +kernel
theorem dL_law_233 : decode cL_law 233 = .ok (.aload_n 1, 1) := by decide +kernel
theorem dL_law_234 : decode cL_law 234 = .ok (.aload_n 0, 1) := by decide +kernel
theorem dL_law_235 : decode cL_law 235 = .ok (.iload_n 3, 1) := by decide +kernel
theorem dL_law_236 : decode cL_law 236 = .ok (.iconst 1, 1) := by decide +kernel
theorem dL_law_237 : decode cL_law 237 = .ok (.iadd, 1) := by decide +kernel
theorem dL_law_238 : decode cL_law 238 = .ok (.iaload, 1) := by decide +kernel
theorem dL_law_239 : decode cL_law 239 = .ok (.aload_n 0, 1) := by decide +kernel
theorem dL_law_240 : decode cL_law 240 = .ok (.iload_n 3, 1) := by decide +kernel
theorem dL_law_241 : decode cL_law 241 = .ok (.iconst 2, 1) := by decide +kernel
theorem dL_law_242 : decode cL_law 242 = .ok (.iadd, 1) := by decide +kernel
theorem dL_law_243 : decode cL_law 243 = .ok (.iaload, 1) := by decide +kernel
theorem dL_law_244 : decode cL_law 244 = .ok (.invokevirtual 27, 3) := by decide +kernel
theorem dL_law_247 : decode cL_law 247 = .ok (.aload_n 2, 1) := by decide +kernel
theorem dL_law_248 : decode cL_law 248 = .ok (.aload_n 0, 1) := by decide +kernel
theorem dL_law_249 : decode cL_law 249 = .ok (.iload_n 3, 1) := by decide +kernel
theorem dL_law_250 : decode cL_law 250 = .ok (.iconst 1, 1) := by decide +kernel
theorem dL_law_251 : decode cL_law 251 = .ok (.iadd, 1) := by decide +kernel
theorem dL_law_252 : decode cL_law 252 = .ok (.iaload, 1) := by decide +kernel
theorem dL_law_253 : decode cL_law 253 = .ok (.aload_n 0, 1) := by decide +kernel
theorem dL_law_254 : decode cL_law 254 = .ok (.iload_n 3, 1) := by decide +kernel
theorem dL_law_255 : decode cL_law 255 = .ok (.iconst 2, 1) := by decide +kernel
theorem dL_law_256 : decode cL_law 256 = .ok (.iadd, 1) := by decide +kernel
theorem dL_law_257 : decode cL_law 257 = .ok (.iaload, 1) := by decide +kernel
theorem dL_law_258 : decode cL_law 258 = .ok (.invokevirtual 30, 3) := by decide +kernel
theorem dL_law_261 : decode cL_law 261 = .ok (.if_icmp .eq 625, 3) := by decide +kernel
theorem dL_law_264 : decode cL_law 264 = .ok (.iconst 0, 1) := by decide +kernel
theorem dL_law_265 : decode cL_law 265 = .ok (.ireturn, 1) := by decide +kernel
theorem dL_law_266 : decode cL_law 266 = .ok (.aload_n 1, 1) := by decide +kernel
theorem dL_law_267 : decode cL_law 267 = .ok (.aload_n 0, 1) := by decide +kernel
theorem dL_law_268 : decode cL_law 268 = .ok (.iload_n 3, 1) := by decide +kernel
theorem dL_law_269 : decode cL_law 269 = .ok (.iconst 1, 1) := by decide +kernel
theorem dL_law_270 : decode cL_law 270 = .ok (.iadd, 1) := by decide +kernel
theorem dL_law_271 : decode cL_law 271 = .ok (.iaload, 1) := by decide +kernel
theorem dL_law_272 : decode cL_law 272 = .ok (.invokevirtual 31, 3) := by decide +kernel
theorem dL_law_275 : decode cL_law 275 = .ok (.aload_n 2, 1) := by decide +kernel
theorem dL_law_276 : decode cL_law 276 = .ok (.aload_n 0, 1) := by decide +kernel
theorem dL_law_277 : decode cL_law 277 = .ok (.iload_n 3, 1) := by decide +kernel
theorem dL_law_278 : decode cL_law 278 = .ok (.iconst 1, 1) := by decide +kernel
theorem dL_law_279 : decode cL_law 279 = .ok (.iadd, 1) := by decide +kernel
theorem dL_law_280 : decode cL_law 280 = .ok (.iaload, 1) := by decide +kernel
theorem dL_law_281 : decode cL_law 281 = .ok (.invokevirtual 34, 3) := by decide +kernel
theorem dL_law_284 : decode cL_law 284 = .ok (.if_icmp .eq 602, 3) := by decide +kernel
theorem dL_law_287 : decode cL_law 287 = .ok (.iconst 0, 1) := by decide +kernel
theorem dL_law_288 : decode cL_law 288 = .ok (.ireturn, 1) := by decide +kernel
theorem dL_law_289 : decode cL_law 289 = .ok (.aload_n 1, 1) := by decide +kernel
theorem dL_law_290 : decode cL_law 290 = .ok (.aload_n 0, 1) := by decide +kernel
theorem dL_law_291 : decode cL_law 291 = .ok (.iload_n 3, 1) := by decide +kernel
theorem dL_law_292 : decode cL_law 292 = .ok (.iconst 1, 1) := by decide +kernel
theorem dL_law_293 : decode cL_law 293 = .ok (.iadd, 1) := by decide +kernel
theorem dL_law_294 : decode cL_law 294 = .ok (.iaload, 1) := by decide +kernel
theorem dL_law_295 : decode cL_law 295 = .ok (.invokevirtual 35, 3) := by decide +kernel
theorem dL_law_298 : decode cL_law 298 = .ok (.aload_n 2, 1) := by decide +kernel
theorem dL_law_299 : decode cL_law 299 = .ok (.aload_n 0, 1) := by decide +kernel
theorem dL_law_300 : decode cL_law 300 = .ok (.iload_n 3, 1) := by decide +kernel
theorem dL_law_301 : decode cL_law 301 = .ok (.iconst 1, 1) := by decide +kernel
theorem dL_law_302 : decode cL_law 302 = .ok (.iadd, 1) := by decide +kernel
theorem dL_law_303 : decode cL_law 303 = .ok (.iaload, 1) := by decide +kernel
theorem dL_law_304 : decode cL_law 304 = .ok (.invokevirtual 38, 3) := by decide +kernel
theorem dL_law_307 : decode cL_law 307 = .ok (.if_icmp .eq 579, 3) := by decide +kernel
theorem dL_law_310 : decode cL_law 310 = .ok (.iconst 0, 1) := by decide +kernel
theorem dL_law_311 : decode cL_law 311 = .ok (.ireturn, 1) := by decide +kernel
theorem dL_law_312 : decode cL_law 312 = .ok (.aload_n 1, 1) := by decide +kernel
theorem dL_law_313 : decode cL_law 313 = .ok (.aload_n 0, 1) := by decide +kernel
theorem dL_law_314 : decode cL_law 314 = .ok (.iload_n 3, 1) := by decide +kernel
theorem dL_law_315 : decode cL_law 315 = .ok (.iconst 1, 1) := by decide +kernel
theorem dL_law_316 : decode cL_law 316 = .ok (.iadd, 1) := by decide +kernel
theorem dL_law_317 : decode cL_law 317 = .ok (.iaload, 1) := by decide +kernel
theorem dL_law_318 : decode cL_law 318 = .ok (.aload_n 0, 1) := by decide +kernel
theorem dL_law_319 : decode cL_law 319 = .ok (.iload_n 3, 1) := by decide +kernel
theorem dL_law_320 : decode cL_law 320 = .ok (.iconst 2, 1) := by decide +kernel
theorem dL_law_321 : decode cL_law 321 = .ok (.iadd, 1) := by decide +kernel
theorem dL_law_322 : decode cL_law 322 = .ok (.iaload, 1) := by decide +kernel
theorem dL_law_323 : decode cL_law 323 = .ok (.aload_n 0, 1) := by decide +kernel
theorem dL_law_324 : decode cL_law 324 = .ok (.iload_n 3, 1) := by decide +kernel
theorem dL_law_325 : decode cL_law 325 = .ok (.iconst 3, 1) := by decide +kernel
theorem dL_law_326 : decode cL_law 326 = .ok (.iadd, 1) := by decide +kernel
theorem dL_law_327 : decode cL_law 327 = .ok (.iaload, 1) := by decide +kernel
theorem dL_law_328 : decode cL_law 328 = .ok (.invokevirtual 39, 3) := by decide +kernel
theorem dL_law_331 : decode cL_law 331 = .ok (.aload_n 2, 1) := by decide +kernel
theorem dL_law_332 : decode cL_law 332 = .ok (.aload_n 0, 1) := by decide +kernel
theorem dL_law_333 : decode cL_law 333 = .ok (.iload_n 3, 1) := by decide +kernel
theorem dL_law_334 : decode cL_law 334 = .ok (.iconst 1, 1) := by decide +kernel
theorem dL_law_335 : decode cL_law 335 = .ok (.iadd, 1) := by decide +kernel
theorem dL_law_336 : decode cL_law 336 = .ok (.iaload, 1) := by decide +kernel
theorem dL_law_337 : decode cL_law 337 = .ok (.aload_n 0, 1) := by decide +kernel
theorem dL_law_338 : decode cL_law 338 = .ok (.iload_n 3, 1) := by decide +kernel
theorem dL_law_339 : decode cL_law 339 = .ok (.iconst 2, 1) := by decide +kernel
theorem dL_law_340 : decode cL_law 340 = .ok (.iadd, 1) := by decide +kernel
theorem dL_law_341 : decode cL_law 341 = .ok (.iaload, 1) := by decide +kernel
theorem dL_law_342 : decode cL_law 342 = .ok (.aload_n 0, 1) := by decide +kernel
theorem dL_law_343 : decode cL_law 343 = .ok (.iload_n 3, 1) := by decide +kernel
theorem dL_law_344 : decode cL_law 344 = .ok (.iconst 3, 1) := by decide +kernel
theorem dL_law_345 : decode cL_law 345 = .ok (.iadd, 1) := by decide +kernel
theorem dL_law_346 : decode cL_law 346 = .ok (.iaload, 1) := by decide +kernel
theorem dL_law_347 : decode cL_law 347 = .ok (.invokevirtual 43, 3) := by decide +kernel
theorem dL_law_350 : decode cL_law 350 = .ok (.if_icmp .eq 536, 3) := by decide +kernel
theorem dL_law_353 : decode cL_law 353 = .ok (.iconst 0, 1) := by decide +kernel
theorem dL_law_354 : decode cL_law 354 = .ok (.ireturn, 1) := by decide +kernel
theorem dL_law_355 : decode cL_law 355 = .ok (.aload_n 1, 1) := by decide +kernel
theorem dL_law_356 : decode cL_law 356 = .ok (.aload_n 0, 1) := by decide +kernel
theorem dL_law_357 : decode cL_law 357 = .ok (.iload_n 3, 1) := by decide +kernel
theorem dL_law_358 : decode cL_law 358 = .ok (.iconst 1, 1) := by decide +kernel
theorem dL_law_359 : decode cL_law 359 = .ok (.iadd, 1) := by decide +kernel
theorem dL_law_360 : decode cL_law 360 = .ok (.iaload, 1) := by decide +kernel
theorem dL_law_361 : decode cL_law 361 = .ok (.aload_n 0, 1) := by decide +kernel
theorem dL_law_362 : decode cL_law 362 = .ok (.iload_n 3, 1) := by decide +kernel
theorem dL_law_363 : decode cL_law 363 = .ok (.iconst 2, 1) := by decide +kernel
theorem dL_law_364 : decode cL_law 364 = .ok (.iadd, 1) := by decide +kernel
theorem dL_law_365 : decode cL_law 365 = .ok (.iaload, 1) := by decide +kernel
theorem dL_law_366 : decode cL_law 366 = .ok (.aload_n 0, 1) := by decide +kernel
theorem dL_law_367 : decode cL_law 367 = .ok (.iload_n 3, 1) := by decide +kernel
theorem dL_law_368 : decode cL_law 368 = .ok (.iconst 3, 1) := by decide +kernel
theorem dL_law_369 : decode cL_law 369 = .ok (.iadd, 1) := by decide +kernel
theorem dL_law_370 : decode cL_law 370 = .ok (.iaload, 1) := by decide +kernel
theorem dL_law_371 : decode cL_law 371 = .ok (.invokevirtual 44, 3) := by decide +kernel
theorem dL_law_374 : decode cL_law 374 = .ok (.aload_n 2, 1) := by decide +kernel
theorem dL_law_375 : decode cL_law 375 = .ok (.aload_n 0, 1) := by decide +kernel
theorem dL_law_376 : decode cL_law 376 = .ok (.iload_n 3, 1) := by decide +kernel
theorem dL_law_377 : decode cL_law 377 = .ok (.iconst 1, 1) := by decide +kernel
theorem dL_law_378 : decode cL_law 378 = .ok (.iadd, 1) := by decide +kernel
theorem dL_law_379 : decode cL_law 379 = .ok (.iaload, 1) := by decide +kernel
theorem dL_law_380 : decode cL_law 380 = .ok (.aload_n 0, 1) := by decide +kernel
theorem dL_law_381 : decode cL_law 381 = .ok (.iload_n 3, 1) := by decide +kernel
theorem dL_law_382 : decode cL_law 382 = .ok (.iconst 2, 1) := by decide +kernel
theorem dL_law_383 : decode cL_law 383 = .ok (.iadd, 1) := by decide +kernel
theorem dL_law_384 : decode cL_law 384 = .ok (.iaload, 1) := by decide +kernel
theorem dL_law_385 : decode cL_law 385 = .ok (.aload_n 0, 1) := by decide +kernel
theorem dL_law_386 : decode cL_law 386 = .ok (.iload_n 3, 1) := by decide +kernel
theorem dL_law_387 : decode cL_law 387 = .ok (.iconst 3, 1) := by decide +kernel
theorem dL_law_388 : decode cL_law 388 = .ok (.iadd, 1) := by decide +kernel
theorem dL_law_389 : decode cL_law 389 = .ok (.iaload, 1) := by decide +kernel
theorem dL_law_390 : decode cL_law 390 = .ok (.invokevirtual 47, 3) := by decide +kernel
theorem dL_law_393 : decode cL_law 393 = .ok (.if_icmp .eq 493, 3) := by decide +kernel
theorem dL_law_396 : decode cL_law 396 = .ok (.iconst 0, 1) := by decide +kernel
theorem dL_law_397 : decode cL_law 397 = .ok (.ireturn, 1) := by decide +kernel
theorem dL_law_398 : decode cL_law 398 = .ok (.aload_n 1, 1) := by decide +kernel
theorem dL_law_399 : decode cL_law 399 = .ok (.aload_n 0, 1) := by decide +kernel
theorem dL_law_400 : decode cL_law 400 = .ok (.iload_n 3, 1) := by decide +kernel
theorem dL_law_401 : decode cL_law 401 = .ok (.iconst 1, 1) := by decide +kernel
theorem dL_law_402 : decode cL_law 402 = .ok (.iadd, 1) := by decide +kernel
theorem dL_law_403 : decode cL_law 403 = .ok (.iaload, 1) := by decide +kernel
theorem dL_law_404 : decode cL_law 404 = .ok (.aload_n 0, 1) := by decide +kernel
theorem dL_law_405 : decode cL_law 405 = .ok (.iload_n 3, 1) := by decide +kernel
theorem dL_law_406 : decode cL_law 406 = .ok (.iconst 2, 1) := by decide +kernel
theorem dL_law_407 : decode cL_law 407 = .ok (.iadd, 1) := by decide +kernel
theorem dL_law_408 : decode cL_law 408 = .ok (.iaload, 1) := by decide +kernel
theorem dL_law_409 : decode cL_law 409 = .ok (.aload_n 0, 1) := by decide +kernel
theorem dL_law_410 : decode cL_law 410 = .ok (.iload_n 3, 1) := by decide +kernel
theorem dL_law_411 : decode cL_law 411 = .ok (.iconst 3, 1) := by decide +kernel
theorem dL_law_412 : decode cL_law 412 = .ok (.iadd, 1) := by decide +kernel
theorem dL_law_413 : decode cL_law 413 = .ok (.iaload, 1) := by decide +kernel
theorem dL_law_414 : decode cL_law 414 = .ok (.invokevirtual 48, 3) := by decide +kernel
theorem dL_law_417 : decode cL_law 417 = .ok (.aload_n 2, 1) := by decide +kernel
theorem dL_law_418 : decode cL_law 418 = .ok (.aload_n 0, 1) := by decide +kernel
theorem dL_law_419 : decode cL_law 419 = .ok (.iload_n 3, 1) := by decide +kernel
theorem dL_law_420 : decode cL_law 420 = .ok (.iconst 1, 1) := by decide +kernel
theorem dL_law_421 : decode cL_law 421 = .ok (.iadd, 1) := by decide +kernel
theorem dL_law_422 : decode cL_law 422 = .ok (.iaload, 1) := by decide +kernel
theorem dL_law_423 : decode cL_law 423 = .ok (.aload_n 0, 1) := by decide +kernel
theorem dL_law_424 : decode cL_law 424 = .ok (.iload_n 3, 1) := by decide +kernel
theorem dL_law_425 : decode cL_law 425 = .ok (.iconst 2, 1) := by decide +kernel
theorem dL_law_426 : decode cL_law 426 = .ok (.iadd, 1) := by decide +kernel
theorem dL_law_427 : decode cL_law 427 = .ok (.iaload, 1) := by decide +kernel
theorem dL_law_428 : decode cL_law 428 = .ok (.aload_n 0, 1) := by decide +kernel
theorem dL_law_429 : decode cL_law 429 = .ok (.iload_n 3, 1) := by decide +kernel
theorem dL_law_430 : decode cL_law 430 = .ok (.iconst 3, 1) := by decide +kernel
theorem dL_law_431 : decode cL_law 431 = .ok (.iadd, 1) := by decide +kernel
theorem dL_law_432 : decode cL_law 432 = .ok (.iaload, 1) := by decide +kernel
theorem dL_law_433 : decode cL_law 433 = .ok (.invokevirtual 51, 3) := by decide +kernel
theorem dL_law_436 : decode cL_law 436 = .ok (.if_icmp .eq 450, 3) := by decide +kernel
theorem dL_law_439 : decode cL_law 439 = .ok (.iconst 0, 1) := by decide +kernel
theorem dL_law_440 : decode cL_law 440 = .ok (.ireturn, 1) := by decide +kernel
theorem dL_law_441 : decode cL_law 441 = .ok (.aload_n 1, 1) := by decide +kernel
theorem dL_law_442 : decode cL_law 442 = .ok (.aload_n 0, 1) := by decide +kernel
theorem dL_law_443 : decode cL_law 443 = .ok (.iload_n 3, 1) := by decide +kernel
theorem dL_law_444 : decode cL_law 444 = .ok (.iconst 1, 1) := by decide +kernel
theorem dL_law_445 : decode cL_law 445 = .ok (.iadd, 1) := by decide +kernel
theorem dL_law_446 : decode cL_law 446 = .ok (.iaload, 1) := by decide +kernel
theorem dL_law_447 : decode cL_law 447 = .ok (.aload_n 0, 1) := by decide +kernel
theorem dL_law_448 : decode cL_law 448 = .ok (.iload_n 3, 1) := by decide +kernel
theorem dL_law_449 : decode cL_law 449 = .ok (.iconst 2, 1) := by decide +kernel
theorem dL_law_450 : decode cL_law 450 = .ok (.iadd, 1) := by decide +kernel
theorem dL_law_451 : decode cL_law 451 = .ok (.iaload, 1) := by decide +kernel
theorem dL_law_452 : decode cL_law 452 = .ok (.aload_n 0, 1) := by decide +kernel
theorem dL_law_453 : decode cL_law 453 = .ok (.iload_n 3, 1) := by decide +kernel
theorem dL_law_454 : decode cL_law 454 = .ok (.iconst 3, 1) := by decide +kernel
theorem dL_law_455 : decode cL_law 455 = .ok (.iadd, 1) := by decide +kernel
theorem dL_law_456 : decode cL_law 456 = .ok (.iaload, 1) := by decide +kernel
theorem dL_law_457 : decode cL_law 457 = .ok (.invokevirtual 52, 3) := by decide +kernel
theorem dL_law_460 : decode cL_law 460 = .ok (.aload_n 2, 1) := by decide +kernel
theorem dL_law_461 : decode cL_law 461 = .ok (.aload_n 0, 1) := by decide +kernel
theorem dL_law_462 : decode cL_law 462 = .ok (.iload_n 3, 1) := by decide +kernel
theorem dL_law_463 : decode cL_law 463 = .ok (.iconst 1, 1) := by decide +kernel
theorem dL_law_464 : decode cL_law 464 = .ok (.iadd, 1) := by decide +kernel
theorem dL_law_465 : decode cL_law 465 = .ok (.iaload, 1) := by decide +kernel
theorem dL_law_466 : decode cL_law 466 = .ok (.aload_n 0, 1) := by decide +kernel
theorem dL_law_467 : decode cL_law 467 = .ok (.iload_n 3, 1) := by decide +kernel
theorem dL_law_468 : decode cL_law 468 = .ok (.iconst 2, 1) := by decide +kernel
theorem dL_law_469 : decode cL_law 469 = .ok (.iadd, 1) := by decide +kernel
theorem dL_law_470 : decode cL_law 470 = .ok (.iaload, 1) := by decide +kernel
theorem dL_law_471 : decode cL_law 471 = .ok (.aload_n 0, 1) := by decide +kernel
theorem dL_law_472 : decode cL_law 472 = .ok (.iload_n 3, 1) := by decide +kernel
theorem dL_law_473 : decode cL_law 473 = .ok (.iconst 3, 1) := by decide +kernel
theorem dL_law_474 : decode cL_law 474 = .ok (.iadd, 1) := by decide +kernel
theorem dL_law_475 : decode cL_law 475 = .ok (.iaload, 1) := by decide +kernel
theorem dL_law_476 : decode cL_law 476 = .ok (.invokevirtual 55, 3) := by decide +kernel
theorem dL_law_479 : decode cL_law 479 = .ok (.if_icmp .eq 407, 3) := by decide +kernel
theorem dL_law_482 : decode cL_law 482 = .ok (.iconst 0, 1) := by decide +kernel
theorem dL_law_483 : decode cL_law 483 = .ok (.ireturn, 1) := by decide +kernel
theorem dL_law_484 : decode cL_law 484 = .ok (.aload_n 1, 1) := by decide +kernel
theorem dL_law_485 : decode cL_law 485 = .ok (.aload_n 0, 1) := by decide +kernel
theorem dL_law_486 : decode cL_law 486 = .ok (.iload_n 3, 1) := by decide +kernel
theorem dL_law_487 : decode cL_law 487 = .ok (.iconst 1, 1) := by decide +kernel
theorem dL_law_488 : decode cL_law 488 = .ok (.iadd, 1) := by decide +kernel
theorem dL_law_489 : decode cL_law 489 = .ok (.iaload, 1) := by decide +kernel
theorem dL_law_490 : decode cL_law 490 = .ok (.aload_n 0, 1) := by decide +kernel
theorem dL_law_491 : decode cL_law 491 = .ok (.iload_n 3, 1) := by decide +kernel
theorem dL_law_492 : decode cL_law 492 = .ok (.iconst 2, 1) := by decide +kernel
theorem dL_law_493 : decode cL_law 493 = .ok (.iadd, 1) := by decide +kernel
theorem dL_law_494 : decode cL_law 494 = .ok (.iaload, 1) := by decide +kernel
theorem dL_law_495 : decode cL_law 495 = .ok (.invokevirtual 56, 3) := by decide +kernel
theorem dL_law_498 : decode cL_law 498 = .ok (.aload_n 2, 1) := by decide +kernel
theorem dL_law_499 : decode cL_law 499 = .ok (.aload_n 0, 1) := by decide +kernel
theorem dL_law_500 : decode cL_law 500 = .ok (.iload_n 3, 1) := by decide +kernel
theorem dL_law_501 : decode cL_law 501 = .ok (.iconst 1, 1) := by decide +kernel
theorem dL_law_502 : decode cL_law 502 = .ok (.iadd, 1) := by decide +kernel
theorem dL_law_503 : decode cL_law 503 = .ok (.iaload, 1) := by decide +kernel
theorem dL_law_504 : decode cL_law 504 = .ok (.aload_n 0, 1) := by decide +kernel
theorem dL_law_505 : decode cL_law 505 = .ok (.iload_n 3, 1) := by decide +kernel
theorem dL_law_506 : decode cL_law 506 = .ok (.iconst 2, 1) := by decide +kernel
theorem dL_law_507 : decode cL_law 507 = .ok (.iadd, 1) := by decide +kernel
theorem dL_law_508 : decode cL_law 508 = .ok (.iaload, 1) := by decide +kernel
theorem dL_law_509 : decode cL_law 509 = .ok (.invokevirtual 59, 3) := by decide +kernel
theorem dL_law_512 : decode cL_law 512 = .ok (.if_icmp .eq 374, 3) := by decide +kernel
theorem dL_law_515 : decode cL_law 515 = .ok (.iconst 0, 1) := by decide +kernel
theorem dL_law_516 : decode cL_law 516 = .ok (.ireturn, 1) := by decide +kernel
theorem dL_law_517 : decode cL_law 517 = .ok (.aload_n 1, 1) := by decide +kernel
theorem dL_law_518 : decode cL_law 518 = .ok (.aload_n 0, 1) := by decide +kernel
theorem dL_law_519 : decode cL_law 519 = .ok (.iload_n 3, 1) := by decide +kernel
theorem dL_law_520 : decode cL_law 520 = .ok (.iconst 1, 1) := by decide +kernel
theorem dL_law_521 : decode cL_law 521 = .ok (.iadd, 1) := by decide +kernel
theorem dL_law_522 : decode cL_law 522 = .ok (.iaload, 1) := by decide +kernel
theorem dL_law_523 : decode cL_law 523 = .ok (.aload_n 0, 1) := by decide +kernel
theorem dL_law_524 : decode cL_law 524 = .ok (.iload_n 3, 1) := by decide +kernel
theorem dL_law_525 : decode cL_law 525 = .ok (.iconst 2, 1) := by decide +kernel
theorem dL_law_526 : decode cL_law 526 = .ok (.iadd, 1) := by decide +kernel
theorem dL_law_527 : decode cL_law 527 = .ok (.iaload, 1) := by decide +kernel
theorem dL_law_528 : decode cL_law 528 = .ok (.aload_n 0, 1) := by decide +kernel
theorem dL_law_529 : decode cL_law 529 = .ok (.iload_n 3, 1) := by decide +kernel
theorem dL_law_530 : decode cL_law 530 = .ok (.iconst 3, 1) := by decide +kernel
theorem dL_law_531 : decode cL_law 531 = .ok (.iadd, 1) := by decide +kernel
theorem dL_law_532 : decode cL_law 532 = .ok (.iaload, 1) := by decide +kernel
theorem dL_law_533 : decode cL_law 533 = .ok (.invokevirtual 60, 3) := by decide +kernel
theorem dL_law_536 : decode cL_law 536 = .ok (.aload_n 2, 1) := by decide +kernel
theorem dL_law_537 : decode cL_law 537 = .ok (.aload_n 0, 1) := by decide +kernel
theorem dL_law_538 : decode cL_law 538 = .ok (.iload_n 3, 1) := by decide +kernel
theorem dL_law_539 : decode cL_law 539 = .ok (.iconst 1, 1) := by decide +kernel
theorem dL_law_540 : decode cL_law 540 = .ok (.iadd, 1) := by decide +kernel
theorem dL_law_541 : decode cL_law 541 = .ok (.iaload, 1) := by decide +kernel
theorem dL_law_542 : decode cL_law 542 = .ok (.aload_n 0, 1) := by decide +kernel
theorem dL_law_543 : decode cL_law 543 = .ok (.iload_n 3, 1) := by decide +kernel
theorem dL_law_544 : decode cL_law 544 = .ok (.iconst 2, 1) := by decide +kernel
theorem dL_law_545 : decode cL_law 545 = .ok (.iadd, 1) := by decide +kernel
theorem dL_law_546 : decode cL_law 546 = .ok (.iaload, 1) := by decide +kernel
theorem dL_law_547 : decode cL_law 547 = .ok (.aload_n 0, 1) := by decide +kernel
theorem dL_law_548 : decode cL_law 548 = .ok (.iload_n 3, 1) := by decide +kernel
theorem dL_law_549 : decode cL_law 549 = .ok (.iconst 3, 1) := by decide +kernel
theorem dL_law_550 : decode cL_law 550 = .ok (.iadd, 1) := by decide +kernel
theorem dL_law_551 : decode cL_law 551 = .ok (.iaload, 1) := by decide +kernel
theorem dL_law_552 : decode cL_law 552 = .ok (.invokevirtual 63, 3) := by decide +kernel
theorem dL_law_555 : decode cL_law 555 = .ok (.if_icmp .eq 331, 3) := by decide +kernel
theorem dL_law_558 : decode cL_law 558 = .ok (.iconst 0, 1) := by decide +kernel
theorem dL_law_559 : decode cL_law 559 = .ok (.ireturn, 1) := by decide +kernel
theorem dL_law_560 : decode cL_law 560 = .ok (.aload_n 1, 1) := by decide +kernel
theorem dL_law_561 : decode cL_law 561 = .ok (.aload_n 0, 1) := by decide +kernel
theorem dL_law_562 : decode cL_law 562 = .ok (.iload_n 3, 1) := by decide +kernel
theorem dL_law_563 : decode cL_law 563 = .ok (.iconst 1, 1) := by decide +kernel
theorem dL_law_564 : decode cL_law 564 = .ok (.iadd, 1) := by decide +kernel
theorem dL_law_565 : decode cL_law 565 = .ok (.iaload, 1) := by decide +kernel
theorem dL_law_566 : decode cL_law 566 = .ok (.aload_n 0, 1) := by decide +kernel
theorem dL_law_567 : decode cL_law 567 = .ok (.iload_n 3, 1) := by decide +kernel
theorem dL_law_568 : decode cL_law 568 = .ok (.iconst 2, 1) := by decide +kernel
theorem dL_law_569 : decode cL_law 569 = .ok (.iadd, 1) := by decide +kernel
theorem dL_law_570 : decode cL_law 570 = .ok (.iaload, 1) := by decide +kernel
theorem dL_law_571 : decode cL_law 571 = .ok (.invokevirtual 64, 3) := by decide +kernel
theorem dL_law_574 : decode cL_law 574 = .ok (.aload_n 2, 1) := by decide +kernel
theorem dL_law_575 : decode cL_law 575 = .ok (.aload_n 0, 1) := by decide +kernel
theorem dL_law_576 : decode cL_law 576 = .ok (.iload_n 3, 1) := by decide +kernel
theorem dL_law_577 : decode cL_law 577 = .ok (.iconst 1, 1) := by decide +kernel
theorem dL_law_578 : decode cL_law 578 = .ok (.iadd, 1) := by decide +kernel
theorem dL_law_579 : decode cL_law 579 = .ok (.iaload, 1) := by decide +kernel
theorem dL_law_580 : decode cL_law 580 = .ok (.aload_n 0, 1) := by decide +kernel
theorem dL_law_581 : decode cL_law 581 = .ok (.iload_n 3, 1) := by decide +kernel
theorem dL_law_582 : decode cL_law 582 = .ok (.iconst 2, 1) := by decide +kernel
theorem dL_law_583 : decode cL_law 583 = .ok (.iadd, 1) := by decide +kernel
theorem dL_law_584 : decode cL_law 584 = .ok (.iaload, 1) := by decide +kernel
theorem dL_law_585 : decode cL_law 585 = .ok (.invokevirtual 67, 3) := by decide +kernel
theorem dL_law_588 : decode cL_law 588 = .ok (.if_icmp .eq 298, 3) := by decide +kernel
theorem dL_law_591 : decode cL_law 591 = .ok (.iconst 0, 1) := by decide +kernel
theorem dL_law_592 : decode cL_law 592 = .ok (.ireturn, 1) := by decide +kernel
theorem dL_law_593 : decode cL_law 593 = .ok (.aload_n 1, 1) := by decide +kernel
theorem dL_law_594 : decode cL_law 594 = .ok (.aload_n 0, 1) := by decide +kernel
theorem dL_law_595 : decode cL_law 595 = .ok (.iload_n 3, 1) := by decide +kernel
theorem dL_law_596 : decode cL_law 596 = .ok (.iconst 1, 1) := by decide +kernel
theorem dL_law_597 : decode cL_law 597 = .ok (.iadd, 1) := by decide +kernel
theorem dL_law_598 : decode cL_law 598 = .ok (.iaload, 1) := by decide +kernel
theorem dL_law_599 : decode cL_law 599 = .ok (.aload_n 0, 1) := by decide +kernel
theorem dL_law_600 : decode cL_law 600 = .ok (.iload_n 3, 1) := by decide +kernel
theorem dL_law_601 : decode cL_law 601 = .ok (.iconst 2, 1) := by decide +kernel
theorem dL_law_602 : decode cL_law 602 = .ok (.iadd, 1) := by decide +kernel
theorem dL_law_603 : decode cL_law 603 = .ok (.iaload, 1) := by decide +kernel
theorem dL_law_604 : decode cL_law 604 = .ok (.aload_n 0, 1) := by decide +kernel
theorem dL_law_605 : decode cL_law 605 = .ok (.iload_n 3, 1) := by decide +kernel
theorem dL_law_606 : decode cL_law 606 = .ok (.iconst 3, 1) := by decide +kernel
theorem dL_law_607 : decode cL_law 607 = .ok (.iadd, 1) := by decide +kernel
theorem dL_law_608 : decode cL_law 608 = .ok (.iaload, 1) := by decide +kernel
theorem dL_law_609 : decode cL_law 609 = .ok (.invokevirtual 68, 3) := by decide +kernel
theorem dL_law_612 : decode cL_law 612 = .ok (.aload_n 2, 1) := by decide +kernel
theorem dL_law_613 : decode cL_law 613 = .ok (.aload_n 0, 1) := by decide +kernel
theorem dL_law_614 : decode cL_law 614 = .ok (.iload_n 3, 1) := by decide +kernel
theorem dL_law_615 : decode cL_law 615 = .ok (.iconst 1, 1) := by decide +kernel
theorem dL_law_616 : decode cL_law 616 = .ok (.iadd, 1) := by decide +kernel
theorem dL_law_617 : decode cL_law 617 = .ok (.iaload, 1) := by decide +kernel
theorem dL_law_618 : decode cL_law 618 = .ok (.aload_n 0, 1) := by decide +kernel
theorem dL_law_619 : decode cL_law 619 = .ok (.iload_n 3, 1) := by decide +kernel
theorem dL_law_620 : decode cL_law 620 = .ok (.iconst 2, 1) := by decide +kernel
theorem dL_law_621 : decode cL_law 621 = .ok (.iadd, 1) := by decide +kernel
theorem dL_law_622 : decode cL_law 622 = .ok (.iaload, 1) := by decide +kernel
theorem dL_law_623 : decode cL_law 623 = .ok (.aload_n 0, 1) := by decide +kernel
theorem dL_law_624 : decode cL_law 624 = .ok (.iload_n 3, 1) := by decide +kernel
theorem dL_law_625 : decode cL_law 625 = .ok (.iconst 3, 1) := by decide +kernel
theorem dL_law_626 : decode cL_law 626 = .ok (.iadd, 1) := by decide +kernel
theorem dL_law_627 : decode cL_law 627 = .ok (.iaload, 1) := by decide +kernel
theorem dL_law_628 : decode cL_law 628 = .ok (.invokevirtual 71, 3) := by decide +kernel
theorem dL_law_631 : decode cL_law 631 = .ok (.if_icmp .eq 255, 3) := by decide +kernel
theorem dL_law_634 : decode cL_law 634 = .ok (.iconst 0, 1) := by decide +kernel
theorem dL_law_635 : decode cL_law 635 = .ok (.ireturn, 1) := by decide +kernel
theorem dL_law_636 : decode cL_law 636 = .ok (.aload_n 1, 1) := by decide +kernel
theorem dL_law_637 : decode cL_law 637 = .ok (.aload_n 0, 1) := by decide +kernel
theorem dL_law_638 : decode cL_law 638 = .ok (.iload_n 3, 1) := by decide +kernel
theorem dL_law_639 : decode cL_law 639 = .ok (.iconst 1, 1) := by decide +kernel
theorem dL_law_640 : decode cL_law 640 = .ok (.iadd, 1) := by decide +kernel
theorem dL_law_641 : decode cL_law 641 = .ok (.iaload, 1) := by decide +kernel
theorem dL_law_642 : decode cL_law 642 = .ok (.aload_n 0, 1) := by decide +kernel
theorem dL_law_643 : decode cL_law 643 = .ok (.iload_n 3, 1) := by decide +kernel
theorem dL_law_644 : decode cL_law 644 = .ok (.iconst 2, 1) := by decide +kernel
theorem dL_law_645 : decode cL_law 645 = .ok (.iadd, 1) := by decide +kernel
theorem dL_law_646 : decode cL_law 646 = .ok (.iaload, 1) := by decide +kernel
theorem dL_law_647 : decode cL_law 647 = .ok (.aload_n 0, 1) := by decide +kernel
theorem dL_law_648 : decode cL_law 648 = .ok (.iload_n 3, 1) := by decide +kernel
theorem dL_law_649 : decode cL_law 649 = .ok (.iconst 3, 1) := by decide +kernel
theorem dL_law_650 : decode cL_law 650 = .ok (.iadd, 1) := by decide +kernel
theorem dL_law_651 : decode cL_law 651 = .ok (.iaload, 1) := by decide +kernel
theorem dL_law_652 : decode cL_law 652 = .ok (.invokevirtual 72, 3) := by decide +kernel
theorem dL_law_655 : decode cL_law 655 = .ok (.aload_n 2, 1) := by decide +kernel
theorem dL_law_656 : decode cL_law 656 = .ok (.aload_n 0, 1) := by decide +kernel
theorem dL_law_657 : decode cL_law 657 = .ok (.iload_n 3, 1) := by decide +kernel
theorem dL_law_658 : decode cL_law 658 = .ok (.iconst 1, 1) := by decide +kernel
theorem dL_law_659 : decode cL_law 659 = .ok (.iadd, 1) := by decide +kernel
theorem dL_law_660 : decode cL_law 660 = .ok (.iaload, 1) := by decide +kernel
theorem dL_law_661 : decode cL_law 661 = .ok (.aload_n 0, 1) := by decide +kernel
theorem dL_law_662 : decode cL_law 662 = .ok (.iload_n 3, 1) := by decide +kernel
theorem dL_law_663 : decode cL_law 663 = .ok (.iconst 2, 1) := by decide +kernel
theorem dL_law_664 : decode cL_law 664 = .ok (.iadd, 1) := by decide +kernel
theorem dL_law_665 : decode cL_law 665 = .ok (.iaload, 1) := by decide +kernel
theorem dL_law_666 : decode cL_law 666 = .ok (.aload_n 0, 1) := by decide +kernel
theorem dL_law_667 : decode cL_law 667 = .ok (.iload_n 3, 1) := by decide +kernel
theorem dL_law_668 : decode cL_law 668 = .ok (.iconst 3, 1) := by decide +kernel
theorem dL_law_669 : decode cL_law 669 = .ok (.iadd, 1) := by decide +kernel
theorem dL_law_670 : decode cL_law 670 = .ok (.iaload, 1) := by decide +kernel
theorem dL_law_671 : decode cL_law 671 = .ok (.invokevirtual 75, 3) := by decide +kernel
theorem dL_law_674 : decode cL_law 674 = .ok (.if_icmp .eq 212, 3) := by decide +kernel
theorem dL_law_677 : decode cL_law 677 = .ok (.iconst 0, 1) := by decide +kernel
theorem dL_law_678 : decode cL_law 678 = .ok (.ireturn, 1) := by decide +kernel
theorem dL_law_679 : decode cL_law 679 = .ok (.aload_n 1, 1) := by decide +kernel
theorem dL_law_680 : decode cL_law 680 = .ok (.aload_n 0, 1) := by decide +kernel
theorem dL_law_681 : decode cL_law 681 = .ok (.iload_n 3, 1) := by decide +kernel
theorem dL_law_682 : decode cL_law 682 = .ok (.iconst 1, 1) := by decide +kernel
theorem dL_law_683 : decode cL_law 683 = .ok (.iadd, 1) := by decide +kernel
theorem dL_law_684 : decode cL_law 684 = .ok (.iaload, 1) := by decide +kernel
theorem dL_law_685 : decode cL_law 685 = .ok (.aload_n 0, 1) := by decide +kernel
theorem dL_law_686 : decode cL_law 686 = .ok (.iload_n 3, 1) := by decide +kernel
theorem dL_law_687 : decode cL_law 687 = .ok (.iconst 2, 1) := by decide +kernel
theorem dL_law_688 : decode cL_law 688 = .ok (.iadd, 1) := by decide +kernel
theorem dL_law_689 : decode cL_law 689 = .ok (.iaload, 1) := by decide +kernel
theorem dL_law_690 : decode cL_law 690 = .ok (.invokevirtual 76, 3) := by decide +kernel
theorem dL_law_693 : decode cL_law 693 = .ok (.aload_n 2, 1) := by decide +kernel
theorem dL_law_694 : decode cL_law 694 = .ok (.aload_n 0, 1) := by decide +kernel
theorem dL_law_695 : decode cL_law 695 = .ok (.iload_n 3, 1) := by decide +kernel
theorem dL_law_696 : decode cL_law 696 = .ok (.iconst 1, 1) := by decide +kernel
theorem dL_law_697 : decode cL_law 697 = .ok (.iadd, 1) := by decide +kernel
theorem dL_law_698 : decode cL_law 698 = .ok (.iaload, 1) := by decide +kernel
theorem dL_law_699 : decode cL_law 699 = .ok (.aload_n 0, 1) := by decide +kernel
theorem dL_law_700 : decode cL_law 700 = .ok (.iload_n 3, 1) := by decide +kernel
theorem dL_law_701 : decode cL_law 701 = .ok (.iconst 2, 1) := by decide +kernel
theorem dL_law_702 : decode cL_law 702 = .ok (.iadd, 1) := by decide +kernel
theorem dL_law_703 : decode cL_law 703 = .ok (.iaload, 1) := by decide +kernel
theorem dL_law_704 : decode cL_law 704 = .ok (.invokevirtual 79, 3) := by decide +kernel
theorem dL_law_707 : decode cL_law 707 = .ok (.if_icmp .eq 179, 3) := by decide +kernel
theorem dL_law_710 : decode cL_law 710 = .ok (.iconst 0, 1) := by decide +kernel
theorem dL_law_711 : decode cL_law 711 = .ok (.ireturn, 1) := by decide +kernel
theorem dL_law_712 : decode cL_law 712 = .ok (.aload_n 1, 1) := by decide +kernel
theorem dL_law_713 : decode cL_law 713 = .ok (.aload_n 0, 1) := by decide +kernel
theorem dL_law_714 : decode cL_law 714 = .ok (.iload_n 3, 1) := by decide +kernel
theorem dL_law_715 : decode cL_law 715 = .ok (.iconst 1, 1) := by decide +kernel
theorem dL_law_716 : decode cL_law 716 = .ok (.iadd, 1) := by decide +kernel
theorem dL_law_717 : decode cL_law 717 = .ok (.iaload, 1) := by decide +kernel
theorem dL_law_718 : decode cL_law 718 = .ok (.aload_n 0, 1) := by decide +kernel
theorem dL_law_719 : decode cL_law 719 = .ok (.iload_n 3, 1) := by decide +kernel
theorem dL_law_720 : decode cL_law 720 = .ok (.iconst 2, 1) := by decide +kernel
theorem dL_law_721 : decode cL_law 721 = .ok (.iadd, 1) := by decide +kernel
theorem dL_law_722 : decode cL_law 722 = .ok (.iaload, 1) := by decide +kernel
theorem dL_law_723 : decode cL_law 723 = .ok (.aload_n 0, 1) := by decide +kernel
theorem dL_law_724 : decode cL_law 724 = .ok (.iload_n 3, 1) := by decide +kernel
theorem dL_law_725 : decode cL_law 725 = .ok (.iconst 3, 1) := by decide +kernel
theorem dL_law_726 : decode cL_law 726 = .ok (.iadd, 1) := by decide +kernel
theorem dL_law_727 : decode cL_law 727 = .ok (.iaload, 1) := by decide +kernel
theorem dL_law_728 : decode cL_law 728 = .ok (.invokevirtual 80, 3) := by decide +kernel
theorem dL_law_731 : decode cL_law 731 = .ok (.aload_n 2, 1) := by decide +kernel
theorem dL_law_732 : decode cL_law 732 = .ok (.aload_n 0, 1) := by decide +kernel
theorem dL_law_733 : decode cL_law 733 = .ok (.iload_n 3, 1) := by decide +kernel
theorem dL_law_734 : decode cL_law 734 = .ok (.iconst 1, 1) := by decide +kernel
theorem dL_law_735 : decode cL_law 735 = .ok (.iadd, 1) := by decide +kernel
theorem dL_law_736 : decode cL_law 736 = .ok (.iaload, 1) := by decide +kernel
theorem dL_law_737 : decode cL_law 737 = .ok (.aload_n 0, 1) := by decide +kernel
theorem dL_law_738 : decode cL_law 738 = .ok (.iload_n 3, 1) := by decide +kernel
theorem dL_law_739 : decode cL_law 739 = .ok (.iconst 2, 1) := by decide +kernel
theorem dL_law_740 : decode cL_law 740 = .ok (.iadd, 1) := by decide +kernel
theorem dL_law_741 : decode cL_law 741 = .ok (.iaload, 1) := by decide +kernel
theorem dL_law_742 : decode cL_law 742 = .ok (.aload_n 0, 1) := by decide +kernel
theorem dL_law_743 : decode cL_law 743 = .ok (.iload_n 3, 1) := by decide +kernel
theorem dL_law_744 : decode cL_law 744 = .ok (.iconst 3, 1) := by decide +kernel
theorem dL_law_745 : decode cL_law 745 = .ok (.iadd, 1) := by decide +kernel
theorem dL_law_746 : decode cL_law 746 = .ok (.iaload, 1) := by decide +kernel
theorem dL_law_747 : decode cL_law 747 = .ok (.invokevirtual 83, 3) := by decide +kernel
theorem dL_law_750 : decode cL_law 750 = .ok (.if_icmp .eq 136, 3) := by decide +kernel
theorem dL_law_753 : decode cL_law 753 = .ok (.iconst 0, 1) := by decide +kernel
theorem dL_law_754 : decode cL_law 754 = .ok (.ireturn, 1) := by decide +kernel
theorem dL_law_755 : decode cL_law 755 = .ok (.aload_n 1, 1) := by decide +kernel
theorem dL_law_756 : decode cL_law 756 = .ok (.aload_n 0, 1) := by decide +kernel
theorem dL_law_757 : decode cL_law 757 = .ok (.iload_n 3, 1) := by decide +kernel
theorem dL_law_758 : decode cL_law 758 = .ok (.iconst 1, 1) := by decide +kernel
theorem dL_law_759 : decode cL_law 759 = .ok (.iadd, 1) := by decide +kernel
theorem dL_law_760 : decode cL_law 760 = .ok (.iaload, 1) := by decide +kernel
theorem dL_law_761 : decode cL_law 761 = .ok (.invokevirtual 84, 3) := by decide +kernel
theorem dL_law_764 : decode cL_law 764 = .ok (.aload_n 2, 1) := by decide +kernel
theorem dL_law_765 : decode cL_law 765 = .ok (.aload_n 0, 1) := by decide +kernel
theorem dL_law_766 : decode cL_law 766 = .ok (.iload_n 3, 1) := by decide +kernel
theorem dL_law_767 : decode cL_law 767 = .ok (.iconst 1, 1) := by decide +kernel
theorem dL_law_768 : decode cL_law 768 = .ok (.iadd, 1) := by decide +kernel
theorem dL_law_769 : decode cL_law 769 = .ok (.iaload, 1) := by decide +kernel
theorem dL_law_770 : decode cL_law 770 = .ok (.invokevirtual 87, 3) := by decide +kernel
theorem dL_law_773 : decode cL_law 773 = .ok (.if_icmp .eq 113, 3) := by decide +kernel
theorem dL_law_776 : decode cL_law 776 = .ok (.iconst 0, 1) := by decide +kernel
theorem dL_law_777 : decode cL_law 777 = .ok (.ireturn, 1) := by decide +kernel
theorem dL_law_778 : decode cL_law 778 = .ok (.aload_n 1, 1) := by decide +kernel
theorem dL_law_779 : decode cL_law 779 = .ok (.aload_n 0, 1) := by decide +kernel
theorem dL_law_780 : decode cL_law 780 = .ok (.iload_n 3, 1) := by decide +kernel
theorem dL_law_781 : decode cL_law 781 = .ok (.iconst 1, 1) := by decide +kernel
theorem dL_law_782 : decode cL_law 782 = .ok (.iadd, 1) := by decide +kernel
theorem dL_law_783 : decode cL_law 783 = .ok (.iaload, 1) := by decide +kernel
theorem dL_law_784 : decode cL_law 784 = .ok (.aload_n 0, 1) := by decide +kernel
theorem dL_law_785 : decode cL_law 785 = .ok (.iload_n 3, 1) := by decide +kernel
theorem dL_law_786 : decode cL_law 786 = .ok (.iconst 2, 1) := by decide +kernel
theorem dL_law_787 : decode cL_law 787 = .ok (.iadd, 1) := by decide +kernel
theorem dL_law_788 : decode cL_law 788 = .ok (.iaload, 1) := by decide +kernel
theorem dL_law_789 : decode cL_law 789 = .ok (.invokevirtual 88, 3) := by decide +kernel
theorem dL_law_792 : decode cL_law 792 = .ok (.aload_n 2, 1) := by decide +kernel
theorem dL_law_793 : decode cL_law 793 = .ok (.aload_n 0, 1) := by decide +kernel
theorem dL_law_794 : decode cL_law 794 = .ok (.iload_n 3, 1) := by decide +kernel
theorem dL_law_795 : decode cL_law 795 = .ok (.iconst 1, 1) := by decide +kernel
theorem dL_law_796 : decode cL_law 796 = .ok (.iadd, 1) := by decide +kernel
theorem dL_law_797 : decode cL_law 797 = .ok (.iaload, 1) := by decide +kernel
theorem dL_law_798 : decode cL_law 798 = .ok (.aload_n 0, 1) := by decide +kernel
theorem dL_law_799 : decode cL_law 799 = .ok (.iload_n 3, 1) := by decide +kernel
theorem dL_law_800 : decode cL_law 800 = .ok (.iconst 2, 1) := by decide +kernel
theorem dL_law_801 : decode cL_law 801 = .ok (.iadd, 1) := by decide +kernel
theorem dL_law_802 : decode cL_law 802 = .ok (.iaload, 1) := by decide +kernel
theorem dL_law_803 : decode cL_law 803 = .ok (.invokevirtual 91, 3) := by decide +kernel
theorem dL_law_806 : decode cL_law 806 = .ok (.if_icmp .eq 80, 3) := by decide +kernel
theorem dL_law_809 : decode cL_law 809 = .ok (.iconst 0, 1) := by decide +kernel
theorem dL_law_810 : decode cL_law 810 = .ok (.ireturn, 1) := by decide +kernel
theorem dL_law_811 : decode cL_law 811 = .ok (.aload_n 1, 1) := by decide +kernel
theorem dL_law_812 : decode cL_law 812 = .ok (.invokevirtual 92, 3) := by decide +kernel
theorem dL_law_815 : decode cL_law 815 = .ok (.aload_n 2, 1) := by decide +kernel
theorem dL_law_816 : decode cL_law 816 = .ok (.invokevirtual 96, 3) := by decide +kernel
theorem dL_law_819 : decode cL_law 819 = .ok (.if_icmp .eq 67, 3) := by decide +kernel
theorem dL_law_822 : decode cL_law 822 = .ok (.iconst 0, 1) := by decide +kernel
theorem dL_law_823 : decode cL_law 823 = .ok (.ireturn, 1) := by decide +kernel
theorem dL_law_824 : decode cL_law 824 = .ok (.aload_n 1, 1) := by decide +kernel
theorem dL_law_825 : decode cL_law 825 = .ok (.aload_n 0, 1) := by decide +kernel
theorem dL_law_826 : decode cL_law 826 = .ok (.iload_n 3, 1) := by decide +kernel
theorem dL_law_827 : decode cL_law 827 = .ok (.iconst 1, 1) := by decide +kernel
theorem dL_law_828 : decode cL_law 828 = .ok (.iadd, 1) := by decide +kernel
theorem dL_law_829 : decode cL_law 829 = .ok (.iaload, 1) := by decide +kernel
theorem dL_law_830 : decode cL_law 830 = .ok (.invokevirtual 97, 3) := by decide +kernel
theorem dL_law_833 : decode cL_law 833 = .ok (.aload_n 2, 1) := by decide +kernel
theorem dL_law_834 : decode cL_law 834 = .ok (.aload_n 0, 1) := by decide +kernel
theorem dL_law_835 : decode cL_law 835 = .ok (.iload_n 3, 1) := by decide +kernel
theorem dL_law_836 : decode cL_law 836 = .ok (.iconst 1, 1) := by decide +kernel
theorem dL_law_837 : decode cL_law 837 = .ok (.iadd, 1) := by decide +kernel
theorem dL_law_838 : decode cL_law 838 = .ok (.iaload, 1) := by decide +kernel
theorem dL_law_839 : decode cL_law 839 = .ok (.invokevirtual 100, 3) := by decide +kernel
theorem dL_law_842 : decode cL_law 842 = .ok (.if_icmp .eq 44, 3) := by decide +kernel
theorem dL_law_845 : decode cL_law 845 = .ok (.iconst 0, 1) := by decide +kernel
theorem dL_law_846 : decode cL_law 846 = .ok (.ireturn, 1) := by decide +kernel
theorem dL_law_847 : decode cL_law 847 = .ok (.aload_n 1, 1) := by decide +kernel
theorem dL_law_848 : decode cL_law 848 = .ok (.invokevirtual 101, 3) := by decide +kernel
theorem dL_law_851 : decode cL_law 851 = .ok (.aload_n 2, 1) := by decide +kernel
theorem dL_law_852 : decode cL_law 852 = .ok (.invokevirtual 104, 3) := by decide +kernel
theorem dL_law_855 : decode cL_law 855 = .ok (.if_icmp .eq 31, 3) := by decide +kernel
theorem dL_law_858 : decode cL_law 858 = .ok (.iconst 0, 1) := by decide +kernel
theorem dL_law_859 : decode cL_law 859 = .ok (.ireturn, 1) := by decide +kernel
theorem dL_law_860 : decode cL_law 860 = .ok (.aload_n 1, 1) := by decide +kernel
theorem dL_law_861 : decode cL_law 861 = .ok (.invokevirtual 105, 3) := by decide +kernel
theorem dL_law_864 : decode cL_law 864 = .ok (.aload_n 2, 1) := by decide +kernel
theorem dL_law_865 : decode cL_law 865 = .ok (.invokevirtual 108, 3) := by decide +kernel
theorem dL_law_868 : decode cL_law 868 = .ok (.if_icmp .eq 18, 3) := by decide +kernel
theorem dL_law_871 : decode cL_law 871 = .ok (.iconst 0, 1) := by decide +kernel
theorem dL_law_872 : decode cL_law 872 = .ok (.ireturn, 1) := by decide +kernel
theorem dL_law_873 : decode cL_law 873 = .ok (.aload_n 1, 1) := by decide +kernel
theorem dL_law_874 : decode cL_law 874 = .ok (.invokevirtual 109, 3) := by decide +kernel
theorem dL_law_877 : decode cL_law 877 = .ok (.aload_n 2, 1) := by decide +kernel
theorem dL_law_878 : decode cL_law 878 = .ok (.invokevirtual 112, 3) := by decide +kernel
theorem dL_law_881 : decode cL_law 881 = .ok (.if_icmp .eq 5, 3) := by decide +kernel
theorem dL_law_884 : decode cL_law 884 = .ok (.iconst 0, 1) := by decide +kernel
theorem dL_law_885 : decode cL_law 885 = .ok (.ireturn, 1) := by decide +kernel
theorem dL_law_886 : decode cL_law 886 = .ok (.iinc 3 4, 3) := by decide +kernel
theorem dL_law_889 : decode cL_law 889 = .ok (.goto (-871), 3) := by decide +kernel
theorem dL_law_892 : decode cL_law 892 = .ok (.iconst 1, 1) := by decide +kernel
theorem dL_law_893 : decode cL_law 893 = .ok (.ireturn, 1) := by decide +kernel
abbrev vwCl : List vw_C := [(RX0, TX0, 3), (RX1, TX1, 3), (RX2, TX2, 2), (RX3, TX3, 3), (RX4, TX4, 3), (RX5, TX5, 16), (RX7, TX7, 6), (RX8, TX8, 14)]

