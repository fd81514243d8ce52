theorem dL_cell_1 : decode cL_cell 1 = .ok (.aload_n 0, 1) := by decide +kernel
theorem dL_cell_2 : decode cL_cell 2 = .ok (.arraylength, 1) := by decide +kernel
theorem dL_cell_3 : decode cL_cell 3 = .ok (.if_icmp .ge 9, 3) := by decide +kernel
theorem dL_cell_6 : decode cL_cell 6 = .ok (.aload_n 0, 1) := by decide +kernel
theorem dL_cell_7 : decode cL_cell 7 = .ok (.iload_n 1, 1) := by decide +kernel
theorem dL_cell_8 : decode cL_cell 8 = .ok (.iaload, 1) := by decide +kernel
theorem dL_cell_9 : decode cL_cell 9 = .ok (.goto 9, 3) := by decide +kernel
theorem dL_cell_12 : decode cL_cell 12 = .ok (.ldc 7, 2) := by decide +kernel
theorem dL_cell_14 : decode cL_cell 14 = .ok (.iload_n 1, 1) := by decide +kernel
theorem dL_cell_15 : decode cL_cell 15 = .ok (.iconst 3, 1) := by decide +kernel
theorem dL_cell_16 : decode cL_cell 16 = .ok (.iadd, 1) := by decide +kernel
theorem dL_cell_17 : decode cL_cell 17 = .ok (.imul, 1) := by decide +kernel
theorem dL_cell_18 : decode cL_cell 18 = .ok (.ireturn, 1) := by decide +kernel
theorem dL_low_0 : decode cL_low 0 = .ok (.iload_n 0, 1) := by decide +kernel
theorem dL_low_1 : decode cL_low 1 = .ok (.ldc 8, 2) := by decide +kernel
theorem dL_low_3 : decode cL_low 3 = .ok (.iand, 1) := by decide +kernel
theorem dL_low_4 : decode cL_low 4 = .ok (.iload_n 1, 1) := by decide +kernel
theorem dL_low_5 : decode cL_low 5 = .ok (.irem, 1) := by decide +kernel
theorem dL_low_6 : decode cL_low 6 = .ok (.ireturn, 1) := by decide +kernel
theorem dL_serve_0 : decode cL_serve 0 = .ok (.iconst 0, 1) := by decide +kernel
theorem dL_serve_1 : decode cL_serve 1 = .ok (.istore 4, 2) := by decide +kernel
theorem dL_serve_3 : decode cL_serve 3 = .ok (.iconst 0, 1) := by decide +kernel
theorem dL_serve_4 : decode cL_serve 4 = .ok (.istore 5, 2) := by decide +kernel
theorem dL_serve_6 : decode cL_serve 6 = .ok (.iload 5, 2) := by decide +kernel
theorem dL_serve_8 : decode cL_serve 8 = .ok (.iconst 4, 1) := by decide +kernel
theorem dL_serve_9 : decode cL_serve 9 = .ok (.if_icmp .ge 15, 3) := by decide +kernel
theorem dL_serve_12 : decode cL_serve 12 = .ok (.aload_n 3, 1) := by decide +kernel
theorem dL_serve_13 : decode cL_serve 13 = .ok (.iload 5, 2) := by decide +kernel
theorem dL_serve_15 : decode cL_serve 15 = .ok (.bipush 12, 2) := by decide +kernel
theorem dL_serve_17 : decode cL_serve 17 = .ok (.iastore, 1) := by decide +kernel
theorem dL_serve_18 : decode cL_serve 18 = .ok (.iinc 5 1, 3) := by decide +kernel
theorem dL_serve_21 : decode cL_serve 21 = .ok (.goto (-15), 3) := by decide +kernel
theorem dL_serve_24 : decode cL_serve 24 = .ok (.iload 4, 2) := by decide +kernel
theorem dL_serve_26 : decode cL_serve 26 = .ok (.bipush 48, 2) := by decide +kernel
theorem dL_serve_28 : decode cL_serve 28 = .ok (.if_icmp .ge 169, 3) := by decide +kernel
theorem dL_serve_31 : decode cL_serve 31 = .ok (.iconst 0, 1) := by decide +kernel
theorem dL_serve_32 : decode cL_serve 32 = .ok (.istore 4, 2) := by decide +kernel
theorem dL_serve_34 : decode cL_serve 34 = .ok (.iconst 0, 1) := by decide +kernel
theorem dL_serve_35 : decode cL_serve 35 = .ok (.istore 5, 2) := by decide +kernel
theorem dL_serve_37 : decode cL_serve 37 = .ok (.iload 5, 2) := by decide +kernel
theorem dL_serve_39 : decode cL_serve 39 = .ok (.bipush 48, 2) := by decide +kernel
theorem dL_serve_41 : decode cL_serve 41 = .ok (.if_icmp .ge 153, 3) := by decide +kernel
theorem dL_serve_44 : decode cL_serve 44 = .ok (.iload 5, 2) := by decide +kernel
theorem dL_serve_46 : decode cL_serve 46 = .ok (.bipush 12, 2) := by decide +kernel
theorem dL_serve_48 : decode cL_serve 48 = .ok (.idiv, 1) := by decide +kernel
theorem dL_serve_49 : decode cL_serve 49 = .ok (.istore 6, 2) := by decide +kernel
theorem dL_serve_51 : decode cL_serve 51 = .ok (.iload 5, 2) := by decide +kernel
theorem dL_serve_53 : decode cL_serve 53 = .ok (.bipush 12, 2) := by decide +kernel
theorem dL_serve_55 : decode cL_serve 55 = .ok (.irem, 1) := by decide +kernel
theorem dL_serve_56 : decode cL_serve 56 = .ok (.iconst 1, 1) := by decide +kernel
theorem dL_serve_57 : decode cL_serve 57 = .ok (.iadd, 1) := by decide +kernel
theorem dL_serve_58 : decode cL_serve 58 = .ok (.istore 7, 2) := by decide +kernel
theorem dL_serve_60 : decode cL_serve 60 = .ok (.iload 7, 2) := by decide +kernel
theorem dL_serve_62 : decode cL_serve 62 = .ok (.aload_n 3, 1) := by decide +kernel
theorem dL_serve_63 : decode cL_serve 63 = .ok (.iload 6, 2) := by decide +kernel
theorem dL_serve_65 : decode cL_serve 65 = .ok (.iaload, 1) := by decide +kernel
theorem dL_serve_66 : decode cL_serve 66 = .ok (.if_icmp .gt 80, 3) := by decide +kernel
theorem dL_serve_69 : decode cL_serve 69 = .ok (.aload_n 0, 1) := by decide +kernel
theorem dL_serve_70 : decode cL_serve 70 = .ok (.iconst 4, 1) := by decide +kernel
theorem dL_serve_71 : decode cL_serve 71 = .ok (.iload_n 2, 1) := by decide +kernel
theorem dL_serve_72 : decode cL_serve 72 = .ok (.imul, 1) := by decide +kernel
theorem dL_serve_73 : decode cL_serve 73 = .ok (.iload 6, 2) := by decide +kernel
theorem dL_serve_75 : decode cL_serve 75 = .ok (.iadd, 1) := by decide +kernel
theorem dL_serve_76 : decode cL_serve 76 = .ok (.iaload, 1) := by decide +kernel
theorem dL_serve_77 : decode cL_serve 77 = .ok (.iload 7, 2) := by decide +kernel
theorem dL_serve_79 : decode cL_serve 79 = .ok (.ishr, 1) := by decide +kernel
theorem dL_serve_80 : decode cL_serve 80 = .ok (.iconst 1, 1) := by decide +kernel
theorem dL_serve_81 : decode cL_serve 81 = .ok (.iand, 1) := by decide +kernel
theorem dL_serve_82 : decode cL_serve 82 = .ok (.iconst 1, 1) := by decide +kernel
theorem dL_serve_83 : decode cL_serve 83 = .ok (.if_icmp .ne 67, 3) := by decide +kernel
theorem dL_serve_86 : decode cL_serve 86 = .ok (.aload_n 1, 1) := by decide +kernel
theorem dL_serve_87 : decode cL_serve 87 = .ok (.iload 5, 2) := by decide +kernel
theorem dL_serve_89 : decode cL_serve 89 = .ok (.iaload, 1) := by decide +kernel
theorem dL_serve_90 : decode cL_serve 90 = .ok (.bipush 31, 2) := by decide +kernel
theorem dL_serve_92 : decode cL_serve 92 = .ok (.iand, 1) := by decide +kernel
theorem dL_serve_93 : decode cL_serve 93 = .ok (.aload_n 3, 1) := by decide +kernel
theorem dL_serve_94 : decode cL_serve 94 = .ok (.iconst 0, 1) := by decide +kernel
theorem dL_serve_95 : decode cL_serve 95 = .ok (.iaload, 1) := by decide +kernel
theorem dL_serve_96 : decode cL_serve 96 = .ok (.if_icmp .gt 54, 3) := by decide +kernel
theorem dL_serve_99 : decode cL_serve 99 = .ok (.aload_n 1, 1) := by decide +kernel
theorem dL_serve_100 : decode cL_serve 100 = .ok (.iload 5, 2) := by decide +kernel
theorem dL_serve_102 : decode cL_serve 102 = .ok (.iaload, 1) := by decide +kernel
theorem dL_serve_103 : decode cL_serve 103 = .ok (.iconst 5, 1) := by decide +kernel
theorem dL_serve_104 : decode cL_serve 104 = .ok (.ishr, 1) := by decide +kernel
theorem dL_serve_105 : decode cL_serve 105 = .ok (.bipush 31, 2) := by decide +kernel
theorem dL_serve_107 : decode cL_serve 107 = .ok (.iand, 1) := by decide +kernel
theorem dL_serve_108 : decode cL_serve 108 = .ok (.aload_n 3, 1) := by decide +kernel
theorem dL_serve_109 : decode cL_serve 109 = .ok (.iconst 1, 1) := by decide +kernel
theorem dL_serve_110 : decode cL_serve 110 = .ok (.iaload, 1) := by decide +kernel
theorem dL_serve_111 : decode cL_serve 111 = .ok (.if_icmp .gt 39, 3) := by decide +kernel
theorem dL_serve_114 : decode cL_serve 114 = .ok (.aload_n 1, 1) := by decide +kernel
theorem dL_serve_115 : decode cL_serve 115 = .ok (.iload 5, 2) := by decide +kernel
theorem dL_serve_117 : decode cL_serve 117 = .ok (.iaload, 1) := by decide +kernel
theorem dL_serve_118 : decode cL_serve 118 = .ok (.bipush 10, 2) := by decide +kernel
theorem dL_serve_120 : decode cL_serve 120 = .ok (.ishr, 1) := by decide +kernel
theorem dL_serve_121 : decode cL_serve 121 = .ok (.bipush 31, 2) := by decide +kernel
theorem dL_serve_123 : decode cL_serve 123 = .ok (.iand, 1) := by decide +kernel
theorem dL_serve_124 : decode cL_serve 124 = .ok (.aload_n 3, 1) := by decide +kernel
theorem dL_serve_125 : decode cL_serve 125 = .ok (.iconst 2, 1) := by decide +kernel
theorem dL_serve_126 : decode cL_serve 126 = .ok (.iaload, 1) := by decide +kernel
theorem dL_serve_127 : decode cL_serve 127 = .ok (.if_icmp .gt 23, 3) := by decide +kernel
theorem dL_serve_130 : decode cL_serve 130 = .ok (.aload_n 1, 1) := by decide +kernel
theorem dL_serve_131 : decode cL_serve 131 = .ok (.iload 5, 2) := by decide +kernel
theorem dL_serve_133 : decode cL_serve 133 = .ok (.iaload, 1) := by decide +kernel
theorem dL_serve_134 : decode cL_serve 134 = .ok (.bipush 15, 2) := by decide +kernel
theorem dL_serve_136 : decode cL_serve 136 = .ok (.ishr, 1) := by decide +kernel
theorem dL_serve_137 : decode cL_serve 137 = .ok (.bipush 31, 2) := by decide +kernel
theorem dL_serve_139 : decode cL_serve 139 = .ok (.iand, 1) := by decide +kernel
theorem dL_serve_140 : decode cL_serve 140 = .ok (.aload_n 3, 1) := by decide +kernel
theorem dL_serve_141 : decode cL_serve 141 = .ok (.iconst 3, 1) := by decide +kernel
theorem dL_serve_142 : decode cL_serve 142 = .ok (.iaload, 1) := by decide +kernel
theorem dL_serve_143 : decode cL_serve 143 = .ok (.if_icmp .gt 7, 3) := by decide +kernel
theorem dL_serve_146 : decode cL_serve 146 = .ok (.iconst 1, 1) := by decide +kernel
theorem dL_serve_147 : decode cL_serve 147 = .ok (.goto 4, 3) := by decide +kernel
theorem dL_serve_150 : decode cL_serve 150 = .ok (.iconst 0, 1) := by decide +kernel
theorem dL_serve_151 : decode cL_serve 151 = .ok (.istore 8, 2) := by decide +kernel
theorem dL_serve_153 : decode cL_serve 153 = .ok (.aload_n 3, 1) := by decide +kernel
theorem dL_serve_154 : decode cL_serve 154 = .ok (.iload 6, 2) := by decide +kernel
theorem dL_serve_156 : decode cL_serve 156 = .ok (.iload 8, 2) := by decide +kernel
theorem dL_serve_158 : decode cL_serve 158 = .ok (.ifCond .eq 10, 3) := by decide +kernel
theorem dL_serve_161 : decode cL_serve 161 = .ok (.aload_n 3, 1) := by decide +kernel
theorem dL_serve_162 : decode cL_serve 162 = .ok (.iload 6, 2) := by decide +kernel
theorem dL_serve_164 : decode cL_serve 164 = .ok (.iaload, 1) := by decide +kernel
theorem dL_serve_165 : decode cL_serve 165 = .ok (.goto 7, 3) := by decide +kernel
theorem dL_serve_168 : decode cL_serve 168 = .ok (.iload 7, 2) := by decide +kernel
theorem dL_serve_170 : decode cL_serve 170 = .ok (.iconst 1, 1) := by decide +kernel
theorem dL_serve_171 : decode cL_serve 171 = .ok (.isub, 1) := by decide +kernel
theorem dL_serve_172 : decode cL_serve 172 = .ok (.iastore, 1) := by decide +kernel
theorem dL_serve_173 : decode cL_serve 173 = .ok (.iload 4, 2) := by decide +kernel
theorem dL_serve_175 : decode cL_serve 175 = .ok (.iload 8, 2) := by decide +kernel
theorem dL_serve_177 : decode cL_serve 177 = .ok (.ifCond .eq 7, 3) := by decide +kernel
theorem dL_serve_180 : decode cL_serve 180 = .ok (.iconst 1, 1) := by decide +kernel
theorem dL_serve_181 : decode cL_serve 181 = .ok (.goto 4, 3) := by decide +kernel
theorem dL_serve_184 : decode cL_serve 184 = .ok (.iconst 0, 1) := by decide +kernel
theorem dL_serve_185 : decode cL_serve 185 = .ok (.iadd, 1) := by decide +kernel
theorem dL_serve_186 : decode cL_serve 186 = .ok (.istore 4, 2) := by decide +kernel
theorem dL_serve_188 : decode cL_serve 188 = .ok (.iinc 5 1, 3) := by decide +kernel
theorem dL_serve_191 : decode cL_serve 191 = .ok (.goto (-154), 3) := by decide +kernel
theorem dL_serve_194 : decode cL_serve 194 = .ok (.goto (-170), 3) := by decide +kernel
theorem dL_serve_197 : decode cL_serve 197 = .ok (.return_, 1) := by decide +kernel
theorem dL_ranges_0 : decode cL_ranges 0 = .ok (.iconst 0, 1) := by decide +kernel
theorem dL_ranges_1 : decode cL_ranges 1 = .ok (.istore_n 2, 1) := by decide +kernel
theorem dL_ranges_2 : decode cL_ranges 2 = .ok (.iconst 0, 1) := by decide +kernel
theorem dL_ranges_3 : decode cL_ranges 3 = .ok (.istore_n 3, 1) := by decide +kernel
theorem dL_ranges_4 : decode cL_ranges 4 = .ok (.iload_n 3, 1) := by decide +kernel
theorem dL_ranges_5 : decode cL_ranges 5 = .ok (.iconst 4, 1) := by decide +kernel
theorem dL_ranges_6 : decode cL_ranges 6 = .ok (.if_icmp .ge 110, 3) := by decide +kernel
theorem dL_ranges_9 : decode cL_ranges 9 = .ok (.iconst 0, 1) := by decide +kernel
theorem dL_ranges_10 : decode cL_ranges 10 = .ok (.istore 4, 2) := by decide +kernel
theorem dL_ranges_12 : decode cL_ranges 12 = .ok (.bipush 13, 2) := by decide +kernel
theorem dL_ranges_14 : decode cL_ranges 14 = .ok (.istore 5, 2) := by decide +kernel
theorem dL_ranges_16 : decode cL_ranges 16 = .ok (.iload 5, 2) := by decide +kernel
theorem dL_ranges_18 : decode cL_ranges 18 = .ok (.ifCond .le 92, 3) := by decide +kernel
theorem dL_ranges_21 : decode cL_ranges 21 = .ok (.aload_n 0, 1) := by decide +kernel
theorem dL_ranges_22 : decode cL_ranges 22 = .ok (.iconst 4, 1) := by decide +kernel
theorem dL_ranges_23 : decode cL_ranges 23 = .ok (.iload_n 1, 1) := by decide +kernel
theorem dL_ranges_24 : decode cL_ranges 24 = .ok (.imul, 1) := by decide +kernel
theorem dL_ranges_25 : decode cL_ranges 25 = .ok (.iload_n 3, 1) := by decide +kernel
theorem dL_ranges_26 : decode cL_ranges 26 = .ok (.iadd, 1) := by decide +kernel
theorem dL_ranges_27 : decode cL_ranges 27 = .ok (.iaload, 1) := by decide +kernel
theorem dL_ranges_28 : decode cL_ranges 28 = .ok (.iload 5, 2) := by decide +kernel
theorem dL_ranges_30 : decode cL_ranges 30 = .ok (.ishr, 1) := by decide +kernel
theorem dL_ranges_31 : decode cL_ranges 31 = .ok (.iconst 1, 1) := by decide +kernel
theorem dL_ranges_32 : decode cL_ranges 32 = .ok (.iand, 1) := by decide +kernel
theorem dL_ranges_33 : decode cL_ranges 33 = .ok (.iconst 1, 1) := by decide +kernel
theorem dL_ranges_34 : decode cL_ranges 34 = .ok (.if_icmp .ne 7, 3) := by decide +kernel
theorem dL_ranges_37 : decode cL_ranges 37 = .ok (.iconst 1, 1) := by decide +kernel
theorem dL_ranges_38 : decode cL_ranges 38 = .ok (.goto 4, 3) := by decide +kernel
theorem dL_ranges_41 : decode cL_ranges 41 = .ok (.iconst 0, 1) := by decide +kernel
theorem dL_ranges_42 : decode cL_ranges 42 = .ok (.istore 6, 2) := by decide +kernel
theorem dL_ranges_44 : decode cL_ranges 44 = .ok (.aload_n 0, 1) := by decide +kernel
theorem dL_ranges_45 : decode cL_ranges 45 = .ok (.iconst 4, 1) := by decide +kernel
theorem dL_ranges_46 : decode cL_ranges 46 = .ok (.iload_n 1, 1) := by decide +kernel
theorem dL_ranges_47 : decode cL_ranges 47 = .ok (.imul, 1) := by decide +kernel
theorem dL_ranges_48 : decode cL_ranges 48 = .ok (.iload_n 3, 1) := by decide +kernel
theorem dL_ranges_49 : decode cL_ranges 49 = .ok (.iadd, 1) := by decide +kernel
theorem dL_ranges_50 : decode cL_ranges 50 = .ok (.iaload, 1) := by decide +kernel
theorem dL_ranges_51 : decode cL_ranges 51 = .ok (.iload 5, 2) := by decide +kernel
theorem dL_ranges_53 : decode cL_ranges 53 = .ok (.ishr, 1) := by decide +kernel
theorem dL_ranges_54 : decode cL_ranges 54 = .ok (.ifCond .le 7, 3) := by decide +kernel
theorem dL_ranges_57 : decode cL_ranges 57 = .ok (.iconst 1, 1) := by decide +kernel
theorem dL_ranges_58 : decode cL_ranges 58 = .ok (.goto 4, 3) := by decide +kernel
theorem dL_ranges_61 : decode cL_ranges 61 = .ok (.iconst 0, 1) := by decide +kernel
theorem dL_ranges_62 : decode cL_ranges 62 = .ok (.istore 7, 2) := by decide +kernel
theorem dL_ranges_64 : decode cL_ranges 64 = .ok (.iload_n 2, 1) := by decide +kernel
theorem dL_ranges_65 : decode cL_ranges 65 = .ok (.iload 7, 2) := by decide +kernel
theorem dL_ranges_67 : decode cL_ranges 67 = .ok (.ifCond .eq 17, 3) := by decide +kernel
theorem dL_ranges_70 : decode cL_ranges 70 = .ok (.iload 6, 2) := by decide +kernel
theorem dL_ranges_72 : decode cL_ranges 72 = .ok (.ifCond .ne 12, 3) := by decide +kernel
theorem dL_ranges_75 : decode cL_ranges 75 = .ok (.iload 4, 2) := by decide +kernel
theorem dL_ranges_77 : decode cL_ranges 77 = .ok (.ifCond .ne 7, 3) := by decide +kernel
theorem dL_ranges_80 : decode cL_ranges 80 = .ok (.iconst 1, 1) := by decide +kernel
theorem dL_ranges_81 : decode cL_ranges 81 = .ok (.goto 4, 3) := by decide +kernel
theorem dL_ranges_84 : decode cL_ranges 84 = .ok (.iconst 0, 1) := by decide +kernel
theorem dL_ranges_85 : decode cL_ranges 85 = .ok (.iadd, 1) := by decide +kernel
theorem dL_ranges_86 : decode cL_ranges 86 = .ok (.istore_n 2, 1) := by decide +kernel
theorem dL_ranges_87 : decode cL_ranges 87 = .ok (.iload 7, 2) := by decide +kernel
theorem dL_ranges_89 : decode cL_ranges 89 = .ok (.ifCond .eq 12, 3) := by decide +kernel
theorem dL_ranges_92 : decode cL_ranges 92 = .ok (.iload 6, 2) := by decide +kernel
theorem dL_ranges_94 : decode cL_ranges 94 = .ok (.ifCond .ne 7, 3) := by decide +kernel
theorem dL_ranges_97 : decode cL_ranges 97 = .ok (.iconst 1, 1) := by decide +kernel
theorem dL_ranges_98 : decode cL_ranges 98 = .ok (.goto 4, 3) := by decide +kernel
theorem dL_ranges_101 : decode cL_ranges 101 = .ok (.iconst 0, 1) := by decide +kernel
theorem dL_ranges_102 : decode cL_ranges 102 = .ok (.istore 4, 2) := by decide +kernel
theorem dL_ranges_104 : decode cL_ranges 104 = .ok (.iinc 5 (-1), 3) := by decide +kernel
theorem dL_ranges_107 : decode cL_ranges 107 = .ok (.goto (-91), 3) := by decide +kernel
theorem dL_ranges_110 : decode cL_ranges 110 = .ok (.iinc 3 1, 3) := by decide +kernel
theorem dL_ranges_113 : decode cL_ranges 113 = .ok (.goto (-109), 3) := by decide +kernel
theorem dL_ranges_116 : decode cL_ranges 116 = .ok (.iload_n 2, 1) := by decide +kernel
theorem dL_ranges_117 : decode cL_ranges 117 = .ok (.ireturn, 1) := by decide +kernel
set_option maxRecDepth 20000 in
theorem ggL_keep_L_serve : GoodIn wsL_keep wsL_serve := goodIn_r _ [5] (by decide +kernel) (by decide +kernel)
set_option maxRecDepth 20000 in
theorem gL_keep_L_serve : GoodIn wsL_keep (va_wsS RL 9 yL_serve wsL_serve) := goodIn_app (goodIn_of _ (by decide +kernel)) ggL_keep_L_serve
theorem dL_keep_0 : decode cL_keep 0 = .ok (.iload 5, 2) := by decide +kernel
theorem dL_keep_2 : decode cL_keep 2 = .ok (.ifCond .ne 21, 3) := by decide +kernel
theorem dL_keep_5 : decode cL_keep 5 = .ok (.aload 4, 2) := by decide +kernel
theorem dL_keep_7 : decode cL_keep 7 = .ok (.iconst 0, 1) := by decide +kernel
theorem dL_keep_8 : decode cL_keep 8 = .ok (.dup2, 1) := by decide +kernel
theorem dL_keep_9 : decode cL_keep 9 = .ok (.iaload, 1) := by decide +kernel
theorem dL_keep_10 : decode cL_keep 10 = .ok (.iconst 1, 1) := by decide +kernel
theorem dL_keep_11 : decode cL_keep 11 = .ok (.iadd, 1) := by decide +kernel
theorem dL_keep_12 : decode cL_keep 12 = .ok (.iastore, 1) := by decide +kernel
theorem dL_keep_13 : decode cL_keep 13 = .ok (.aload 4, 2) := by decide +kernel
theorem dL_keep_15 : decode cL_keep 15 = .ok (.aload 4, 2) := by decide +kernel
theorem dL_keep_17 : decode cL_keep 17 = .ok (.iconst 0, 1) := by decide +kernel
theorem dL_keep_18 : decode cL_keep 18 = .ok (.iaload, 1) := by decide +kernel
theorem dL_keep_19 : decode cL_keep 19 = .ok (.iload 6, 2) := by decide +kernel
theorem dL_keep_21 : decode cL_keep 21 = .ok (.iastore, 1) := by decide +kernel
theorem dL_keep_22 : decode cL_keep 22 = .ok (.return_, 1) := by decide +kernel
theorem dL_keep_23 : decode cL_keep 23 = .ok (.bipush 13, 2) := by decide +kernel
theorem dL_keep_25 : decode cL_keep 25 = .ok (.iload 5, 2) := by decide +kernel
theorem dL_keep_27 : decode cL_keep 27 = .ok (.iconst 1, 1) := by decide +kernel
theorem dL_keep_28 : decode cL_keep 28 = .ok (.isub, 1) := by decide +kernel
theorem dL_keep_29 : decode cL_keep 29 = .ok (.imul, 1) := by decide +kernel
theorem dL_keep_30 : decode cL_keep 30 = .ok (.istore 7, 2) := by decide +kernel
theorem dL_keep_32 : decode cL_keep 32 = .ok (.iconst 4, 1) := by decide +kernel
theorem dL_keep_33 : decode cL_keep 33 = .ok (.newarray .int, 2) := by decide +kernel
theorem dL_keep_35 : decode cL_keep 35 = .ok (.astore 8, 2) := by decide +kernel
theorem dL_keep_37 : decode cL_keep 37 = .ok (.aload_n 1, 1) := by decide +kernel
theorem dL_keep_38 : decode cL_keep 38 = .ok (.aload_n 2, 1) := by decide +kernel
theorem dL_keep_39 : decode cL_keep 39 = .ok (.iload 5, 2) := by decide +kernel
theorem dL_keep_41 : decode cL_keep 41 = .ok (.aload 8, 2) := by decide +kernel
theorem dL_keep_43 : decode cL_keep 43 = .ok (.invokestatic 9, 3) := by decide +kernel
theorem dL_keep_46 : decode cL_keep 46 = .ok (.aload_n 3, 1) := by decide +kernel
theorem dL_keep_47 : decode cL_keep 47 = .ok (.iload 7, 2) := by decide +kernel
theorem dL_keep_49 : decode cL_keep 49 = .ok (.iaload, 1) := by decide +kernel
theorem dL_keep_50 : decode cL_keep 50 = .ok (.istore 9, 2) := by decide +kernel
theorem dL_keep_52 : decode cL_keep 52 = .ok (.bipush 14, 2) := by decide +kernel
theorem dL_keep_54 : decode cL_keep 54 = .ok (.newarray .int, 2) := by decide +kernel
theorem dL_keep_56 : decode cL_keep 56 = .ok (.astore 10, 2) := by decide +kernel
theorem dL_keep_58 : decode cL_keep 58 = .ok (.iconst 0, 1) := by decide +kernel
theorem dL_keep_59 : decode cL_keep 59 = .ok (.istore 11, 2) := by decide +kernel
theorem dL_keep_61 : decode cL_keep 61 = .ok (.iload 11, 2) := by decide +kernel
theorem dL_keep_63 : decode cL_keep 63 = .ok (.iload 9, 2) := by decide +kernel
theorem dL_keep_65 : decode cL_keep 65 = .ok (.if_icmp .ge 23, 3) := by decide +kernel
theorem dL_keep_68 : decode cL_keep 68 = .ok (.aload 10, 2) := by decide +kernel
theorem dL_keep_70 : decode cL_keep 70 = .ok (.iload 11, 2) := by decide +kernel
theorem dL_keep_72 : decode cL_keep 72 = .ok (.aload_n 3, 1) := by decide +kernel
theorem dL_keep_73 : decode cL_keep 73 = .ok (.iload 7, 2) := by decide +kernel
theorem dL_keep_75 : decode cL_keep 75 = .ok (.iconst 1, 1) := by decide +kernel
theorem dL_keep_76 : decode cL_keep 76 = .ok (.iadd, 1) := by decide +kernel
theorem dL_keep_77 : decode cL_keep 77 = .ok (.iload 11, 2) := by decide +kernel
theorem dL_keep_79 : decode cL_keep 79 = .ok (.iadd, 1) := by decide +kernel
theorem dL_keep_80 : decode cL_keep 80 = .ok (.iaload, 1) := by decide +kernel
theorem dL_keep_81 : decode cL_keep 81 = .ok (.iastore, 1) := by decide +kernel
theorem dL_keep_82 : decode cL_keep 82 = .ok (.iinc 11 1, 3) := by decide +kernel
theorem dL_keep_85 : decode cL_keep 85 = .ok (.goto (-24), 3) := by decide +kernel
theorem dL_keep_88 : decode cL_keep 88 = .ok (.aload 10, 2) := by decide +kernel
theorem dL_keep_90 : decode cL_keep 90 = .ok (.iload 9, 2) := by decide +kernel
theorem dL_keep_92 : decode cL_keep 92 = .ok (.iload 6, 2) := by decide +kernel
theorem dL_keep_94 : decode cL_keep 94 = .ok (.iastore, 1) := by decide +kernel
theorem dL_keep_95 : decode cL_keep 95 = .ok (.iinc 9 1, 3) := by decide +kernel
theorem dL_keep_98 : decode cL_keep 98 = .ok (.iconst (-1), 1) := by decide +kernel
theorem dL_keep_99 : decode cL_keep 99 = .ok (.istore 11, 2) := by decide +kernel
theorem dL_keep_101 : decode cL_keep 101 = .ok (.iload 9, 2) := by decide +kernel
theorem dL_keep_103 : decode cL_keep 103 = .ok (.aload_n 0, 1) := by decide +kernel
theorem dL_keep_104 : decode cL_keep 104 = .ok (.iconst 2, 1) := by decide +kernel
theorem dL_keep_105 : decode cL_keep 105 = .ok (.iaload, 1) := by decide +kernel
theorem dL_keep_106 : decode cL_keep 106 = .ok (.if_icmp .le 62, 3) := by decide +kernel
theorem dL_keep_109 : decode cL_keep 109 = .ok (.iconst 0, 1) := by decide +kernel
theorem dL_keep_110 : decode cL_keep 110 = .ok (.istore 11, 2) := by decide +kernel
theorem dL_keep_112 : decode cL_keep 112 = .ok (.iload 9, 2) := by decide +kernel
theorem dL_keep_114 : decode cL_keep 114 = .ok (.iconst 1, 1) := by decide +kernel
theorem dL_keep_115 : decode cL_keep 115 = .ok (.isub, 1) := by decide +kernel
theorem dL_keep_116 : decode cL_keep 116 = .ok (.istore 12, 2) := by decide +kernel
theorem dL_keep_118 : decode cL_keep 118 = .ok (.iload 12, 2) := by decide +kernel
theorem dL_keep_120 : decode cL_keep 120 = .ok (.ifCond .lt 40, 3) := by decide +kernel
theorem dL_keep_123 : decode cL_keep 123 = .ok (.aload 10, 2) := by decide +kernel
theorem dL_keep_125 : decode cL_keep 125 = .ok (.iload 12, 2) := by decide +kernel
theorem dL_keep_127 : decode cL_keep 127 = .ok (.iaload, 1) := by decide +kernel
theorem dL_keep_128 : decode cL_keep 128 = .ok (.bipush 16, 2) := by decide +kernel
theorem dL_keep_130 : decode cL_keep 130 = .ok (.irem, 1) := by decide +kernel
theorem dL_keep_131 : decode cL_keep 131 = .ok (.aload 8, 2) := by decide +kernel
theorem dL_keep_133 : decode cL_keep 133 = .ok (.aload 10, 2) := by decide +kernel
theorem dL_keep_135 : decode cL_keep 135 = .ok (.iload 12, 2) := by decide +kernel
theorem dL_keep_137 : decode cL_keep 137 = .ok (.iaload, 1) := by decide +kernel
theorem dL_keep_138 : decode cL_keep 138 = .ok (.bipush 16, 2) := by decide +kernel
theorem dL_keep_140 : decode cL_keep 140 = .ok (.idiv, 1) := by decide +kernel
theorem dL_keep_141 : decode cL_keep 141 = .ok (.iaload, 1) := by decide +kernel
theorem dL_keep_142 : decode cL_keep 142 = .ok (.if_icmp .gt 8, 3) := by decide +kernel
theorem dL_keep_145 : decode cL_keep 145 = .ok (.iload 12, 2) := by decide +kernel
theorem dL_keep_147 : decode cL_keep 147 = .ok (.goto 5, 3) := by decide +kernel
theorem dL_keep_150 : decode cL_keep 150 = .ok (.iload 11, 2) := by decide +kernel
theorem dL_keep_152 : decode cL_keep 152 = .ok (.istore 11, 2) := by decide +kernel
theorem dL_keep_154 : decode cL_keep 154 = .ok (.iinc 12 (-1), 3) := by decide +kernel
theorem dL_keep_157 : decode cL_keep 157 = .ok (.goto (-39), 3) := by decide +kernel
theorem dL_keep_160 : decode cL_keep 160 = .ok (.aload_n 0, 1) := by decide +kernel
theorem dL_keep_161 : decode cL_keep 161 = .ok (.bipush 6, 2) := by decide +kernel
theorem dL_keep_163 : decode cL_keep 163 = .ok (.dup2, 1) := by decide +kernel
theorem dL_keep_164 : decode cL_keep 164 = .ok (.iaload, 1) := by decide +kernel
theorem dL_keep_165 : decode cL_keep 165 = .ok (.iconst 1, 1) := by decide +kernel
theorem dL_keep_166 : decode cL_keep 166 = .ok (.iadd, 1) := by decide +kernel
theorem dL_keep_167 : decode cL_keep 167 = .ok (.iastore, 1) := by decide +kernel
theorem dL_keep_168 : decode cL_keep 168 = .ok (.aload_n 3, 1) := by decide +kernel
theorem dL_keep_169 : decode cL_keep 169 = .ok (.iload 7, 2) := by decide +kernel
theorem dL_keep_171 : decode cL_keep 171 = .ok (.iconst 0, 1) := by decide +kernel
theorem dL_keep_172 : decode cL_keep 172 = .ok (.iastore, 1) := by decide +kernel
theorem dL_keep_173 : decode cL_keep 173 = .ok (.iconst 0, 1) := by decide +kernel
theorem dL_keep_174 : decode cL_keep 174 = .ok (.istore 12, 2) := by decide +kernel
theorem dL_keep_176 : decode cL_keep 176 = .ok (.iload 12, 2) := by decide +kernel
theorem dL_keep_178 : decode cL_keep 178 = .ok (.iload 9, 2) := by decide +kernel
theorem dL_keep_180 : decode cL_keep 180 = .ok (.if_icmp .ge 38, 3) := by decide +kernel
theorem dL_keep_183 : decode cL_keep 183 = .ok (.iload 12, 2) := by decide +kernel
theorem dL_keep_185 : decode cL_keep 185 = .ok (.iload 11, 2) := by decide +kernel
theorem dL_keep_187 : decode cL_keep 187 = .ok (.if_icmp .eq 25, 3) := by decide +kernel
theorem dL_keep_190 : decode cL_keep 190 = .ok (.aload_n 3, 1) := by decide +kernel
theorem dL_keep_191 : decode cL_keep 191 = .ok (.iload 7, 2) := by decide +kernel
theorem dL_keep_193 : decode cL_keep 193 = .ok (.dup2, 1) := by decide +kernel
theorem dL_keep_194 : decode cL_keep 194 = .ok (.iaload, 1) := by decide +kernel
theorem dL_keep_195 : decode cL_keep 195 = .ok (.iconst 1, 1) := by decide +kernel
theorem dL_keep_196 : decode cL_keep 196 = .ok (.iadd, 1) := by decide +kernel
theorem dL_keep_197 : decode cL_keep 197 = .ok (.iastore, 1) := by decide +kernel
theorem dL_keep_198 : decode cL_keep 198 = .ok (.aload_n 3, 1) := by decide +kernel
theorem dL_keep_199 : decode cL_keep 199 = .ok (.iload 7, 2) := by decide +kernel
theorem dL_keep_201 : decode cL_keep 201 = .ok (.aload_n 3, 1) := by decide +kernel
theorem dL_keep_202 : decode cL_keep 202 = .ok (.iload 7, 2) := by decide +kernel
theorem dL_keep_204 : decode cL_keep 204 = .ok (.iaload, 1) := by decide +kernel
theorem dL_keep_205 : decode cL_keep 205 = .ok (.iadd, 1) := by decide +kernel
theorem dL_keep_206 : decode cL_keep 206 = .ok (.aload 10, 2) := by decide +kernel
theorem dL_keep_208 : decode cL_keep 208 = .ok (.iload 12, 2) := by decide +kernel
theorem dL_keep_210 : decode cL_keep 210 = .ok (.iaload, 1) := by decide +kernel
theorem dL_keep_211 : decode cL_keep 211 = .ok (.iastore, 1) := by decide +kernel
theorem dL_keep_212 : decode cL_keep 212 = .ok (.iinc 12 1, 3) := by decide +kernel
theorem dL_keep_215 : decode cL_keep 215 = .ok (.goto (-39), 3) := by decide +kernel
theorem dL_keep_218 : decode cL_keep 218 = .ok (.return_, 1) := by decide +kernel
theorem dL_put_0 : decode cL_put 0 = .ok (.bipush 13, 2) := by decide +kernel
theorem dL_put_2 : decode cL_put 2 = .ok (.iload_n 2, 1) := by decide +kernel
theorem dL_put_3 : decode cL_put 3 = .ok (.iconst 1, 1) := by decide +kernel
theorem dL_put_4 : decode cL_put 4 = .ok (.isub, 1) := by decide +kernel
theorem dL_put_5 : decode cL_put 5 = .ok (.imul, 1) := by decide +kernel
theorem dL_put_6 : decode cL_put 6 = .ok (.istore 4, 2) := by decide +kernel
theorem dL_put_8 : decode cL_put 8 = .ok (.aload_n 1, 1) := by decide +kernel
theorem dL_put_9 : decode cL_put 9 = .ok (.iload 4, 2) := by decide +kernel
theorem dL_put_11 : decode cL_put 11 = .ok (.iaload, 1) := by decide +kernel
theorem dL_put_12 : decode cL_put 12 = .ok (.bipush 11, 2) := by decide +kernel
theorem dL_put_14 : decode cL_put 14 = .ok (.if_icmp .le 11, 3) := by decide +kernel
theorem dL_put_17 : decode cL_put 17 = .ok (.aload_n 0, 1) := by decide +kernel
theorem dL_put_18 : decode cL_put 18 = .ok (.iconst 4, 1) := by decide +kernel
theorem dL_put_19 : decode cL_put 19 = .ok (.dup2, 1) := by decide +kernel
theorem dL_put_20 : decode cL_put 20 = .ok (.iaload, 1) := by decide +kernel
theorem dL_put_21 : decode cL_put 21 = .ok (.iconst 1, 1) := by decide +kernel
theorem dL_put_22 : decode cL_put 22 = .ok (.iadd, 1) := by decide +kernel
theorem dL_put_23 : decode cL_put 23 = .ok (.iastore, 1) := by decide +kernel
theorem dL_put_24 : decode cL_put 24 = .ok (.return_, 1) := by decide +kernel
theorem dL_put_25 : decode cL_put 25 = .ok (.aload_n 1, 1) := by decide +kernel
theorem dL_put_26 : decode cL_put 26 = .ok (.iload 4, 2) := by decide +kernel
theorem dL_put_28 : decode cL_put 28 = .ok (.dup2, 1) := by decide +kernel
theorem dL_put_29 : decode cL_put 29 = .ok (.iaload, 1) := by decide +kernel
theorem dL_put_30 : decode cL_put 30 = .ok (.iconst 1, 1) := by decide +kernel
theorem dL_put_31 : decode cL_put 31 = .ok (.iadd, 1) := by decide +kernel
theorem dL_put_32 : decode cL_put 32 = .ok (.iastore, 1) := by decide +kernel
theorem dL_put_33 : decode cL_put 33 = .ok (.aload_n 1, 1) := by decide +kernel
theorem dL_put_34 : decode cL_put 34 = .ok (.iload 4, 2) := by decide +kernel
theorem dL_put_36 : decode cL_put 36 = .ok (.aload_n 1, 1) := by decide +kernel
theorem dL_put_37 : decode cL_put 37 = .ok (.iload 4, 2) := by decide +kernel
theorem dL_put_39 : decode cL_put 39 = .ok (.iaload, 1) := by decide +kernel
theorem dL_put_40 : decode cL_put 40 = .ok (.iadd, 1) := by decide +kernel
theorem dL_put_41 : decode cL_put 41 = .ok (.iload_n 3, 1) := by decide +kernel
theorem dL_put_42 : decode cL_put 42 = .ok (.iastore, 1) := by decide +kernel
theorem dL_put_43 : decode cL_put 43 = .ok (.return_, 1) := by decide +kernel
set_option maxRecDepth 20000 in
theorem ggL_arrive_L_ranges : GoodIn wsL_arrive wsL_ranges := goodIn_r _ [4] (by decide +kernel) (by decide +kernel)
set_option maxRecDepth 20000 in
theorem gL_arrive_L_ranges : GoodIn wsL_arrive (va_wsS RL 15 yL_ranges wsL_ranges) := goodIn_app (goodIn_of _ (by decide +kernel)) ggL_arrive_L_ranges
set_option maxRecDepth 20000 in
theorem ggL_arrive_L_keep : GoodIn wsL_arrive wsL_keep := goodIn_r _ [7, 8, 9, 10, 3, 11] (by decide +kernel) (by decide +kernel)
set_option maxRecDepth 20000 in
theorem gL_arrive_L_keep : GoodIn wsL_arrive (va_wsS RL 19 yL_keep wsL_keep) := goodIn_app (goodIn_of _ (by decide +kernel)) ggL_arrive_L_keep
set_option maxRecDepth 20000 in
theorem ggL_arrive_L_put : GoodIn wsL_arrive wsL_put := goodIn_r _ [14] (by decide +kernel) (by decide +kernel)
set_option maxRecDepth 20000 in
theorem gL_arrive_L_put : GoodIn wsL_arrive (va_wsS RL 23 yL_put wsL_put) := goodIn_app (goodIn_of _ (by decide +kernel)) ggL_arrive_L_put
theorem dL_arrive_0 : decode cL_arrive 0 = .ok (.iconst 4, 1) := by decide +kernel
theorem dL_arrive_1 : decode cL_arrive 1 = .ok (.iload 7, 2) := by decide +kernel
theorem dL_arrive_3 : decode cL_arrive 3 = .ok (.imul, 1) := by decide +kernel
theorem dL_arrive_4 : decode cL_arrive 4 = .ok (.iload 8, 2) := by decide +kernel
theorem dL_arrive_6 : decode cL_arrive 6 = .ok (.bipush 16, 2) := by decide +kernel
theorem dL_arrive_8 : decode cL_arrive 8 = .ok (.idiv, 1) := by decide +kernel
theorem dL_arrive_9 : decode cL_arrive 9 = .ok (.iadd, 1) := by decide +kernel
theorem dL_arrive_10 : decode cL_arrive 10 = .ok (.istore 10, 2) := by decide +kernel
theorem dL_arrive_12 : decode cL_arrive 12 = .ok (.aload_n 1, 1) := by decide +kernel
theorem dL_arrive_13 : decode cL_arrive 13 = .ok (.iload 10, 2) := by decide +kernel
theorem dL_arrive_15 : decode cL_arrive 15 = .ok (.iaload, 1) := by decide +kernel
theorem dL_arrive_16 : decode cL_arrive 16 = .ok (.istore 11, 2) := by decide +kernel
theorem dL_arrive_18 : decode cL_arrive 18 = .ok (.iload 11, 2) := by decide +kernel
theorem dL_arrive_20 : decode cL_arrive 20 = .ok (.iload 8, 2) := by decide +kernel
theorem dL_arrive_22 : decode cL_arrive 22 = .ok (.bipush 16, 2) := by decide +kernel
theorem dL_arrive_24 : decode cL_arrive 24 = .ok (.irem, 1) := by decide +kernel
theorem dL_arrive_25 : decode cL_arrive 25 = .ok (.ishr, 1) := by decide +kernel
theorem dL_arrive_26 : decode cL_arrive 26 = .ok (.iconst 1, 1) := by decide +kernel
theorem dL_arrive_27 : decode cL_arrive 27 = .ok (.iand, 1) := by decide +kernel
theorem dL_arrive_28 : decode cL_arrive 28 = .ok (.iconst 1, 1) := by decide +kernel
theorem dL_arrive_29 : decode cL_arrive 29 = .ok (.if_icmp .ne 5, 3) := by decide +kernel
theorem dL_arrive_32 : decode cL_arrive 32 = .ok (.iconst 0, 1) := by decide +kernel
theorem dL_arrive_33 : decode cL_arrive 33 = .ok (.ireturn, 1) := by decide +kernel
theorem dL_arrive_34 : decode cL_arrive 34 = .ok (.aload_n 1, 1) := by decide +kernel
theorem dL_arrive_35 : decode cL_arrive 35 = .ok (.iload 10, 2) := by decide +kernel
theorem dL_arrive_37 : decode cL_arrive 37 = .ok (.iload 11, 2) := by decide +kernel
theorem dL_arrive_39 : decode cL_arrive 39 = .ok (.iconst 1, 1) := by decide +kernel
theorem dL_arrive_40 : decode cL_arrive 40 = .ok (.iload 8, 2) := by decide +kernel
theorem dL_arrive_42 : decode cL_arrive 42 = .ok (.bipush 16, 2) := by decide +kernel
theorem dL_arrive_44 : decode cL_arrive 44 = .ok (.irem, 1) := by decide +kernel
theorem dL_arrive_45 : decode cL_arrive 45 = .ok (.ishl, 1) := by decide +kernel
theorem dL_arrive_46 : decode cL_arrive 46 = .ok (.ior, 1) := by decide +kernel
theorem dL_arrive_47 : decode cL_arrive 47 = .ok (.iastore, 1) := by decide +kernel
theorem dL_arrive_48 : decode cL_arrive 48 = .ok (.iload 9, 2) := by decide +kernel
theorem dL_arrive_50 : decode cL_arrive 50 = .ok (.ifCond .lt 35, 3) := by decide +kernel
theorem dL_arrive_53 : decode cL_arrive 53 = .ok (.iload 7, 2) := by decide +kernel
theorem dL_arrive_55 : decode cL_arrive 55 = .ok (.ifCond .le 30, 3) := by decide +kernel
theorem dL_arrive_58 : decode cL_arrive 58 = .ok (.aload_n 1, 1) := by decide +kernel
theorem dL_arrive_59 : decode cL_arrive 59 = .ok (.iload 7, 2) := by decide +kernel
theorem dL_arrive_61 : decode cL_arrive 61 = .ok (.invokestatic 15, 3) := by decide +kernel
theorem dL_arrive_64 : decode cL_arrive 64 = .ok (.aload_n 0, 1) := by decide +kernel
theorem dL_arrive_65 : decode cL_arrive 65 = .ok (.iconst 1, 1) := by decide +kernel
theorem dL_arrive_66 : decode cL_arrive 66 = .ok (.iaload, 1) := by decide +kernel
theorem dL_arrive_67 : decode cL_arrive 67 = .ok (.if_icmp .le 18, 3) := by decide +kernel
theorem dL_arrive_70 : decode cL_arrive 70 = .ok (.aload_n 1, 1) := by decide +kernel
theorem dL_arrive_71 : decode cL_arrive 71 = .ok (.iload 10, 2) := by decide +kernel
theorem dL_arrive_73 : decode cL_arrive 73 = .ok (.iload 11, 2) := by decide +kernel
theorem dL_arrive_75 : decode cL_arrive 75 = .ok (.iastore, 1) := by decide +kernel
theorem dL_arrive_76 : decode cL_arrive 76 = .ok (.aload_n 0, 1) := by decide +kernel
theorem dL_arrive_77 : decode cL_arrive 77 = .ok (.iconst 3, 1) := by decide +kernel
theorem dL_arrive_78 : decode cL_arrive 78 = .ok (.dup2, 1) := by decide +kernel
theorem dL_arrive_79 : decode cL_arrive 79 = .ok (.iaload, 1) := by decide +kernel
theorem dL_arrive_80 : decode cL_arrive 80 = .ok (.iconst 1, 1) := by decide +kernel
theorem dL_arrive_81 : decode cL_arrive 81 = .ok (.iadd, 1) := by decide +kernel
theorem dL_arrive_82 : decode cL_arrive 82 = .ok (.iastore, 1) := by decide +kernel
theorem dL_arrive_83 : decode cL_arrive 83 = .ok (.iconst (-1), 1) := by decide +kernel
theorem dL_arrive_84 : decode cL_arrive 84 = .ok (.ireturn, 1) := by decide +kernel
theorem dL_arrive_85 : decode cL_arrive 85 = .ok (.aload_n 0, 1) := by decide +kernel
theorem dL_arrive_86 : decode cL_arrive 86 = .ok (.aload_n 1, 1) := by decide +kernel
theorem dL_arrive_87 : decode cL_arrive 87 = .ok (.aload_n 2, 1) := by decide +kernel
theorem dL_arrive_88 : decode cL_arrive 88 = .ok (.aload 5, 2) := by decide +kernel
theorem dL_arrive_90 : decode cL_arrive 90 = .ok (.aload 6, 2) := by decide +kernel
theorem dL_arrive_92 : decode cL_arrive 92 = .ok (.iload 7, 2) := by decide +kernel
theorem dL_arrive_94 : decode cL_arrive 94 = .ok (.iload 8, 2) := by decide +kernel
theorem dL_arrive_96 : decode cL_arrive 96 = .ok (.invokestatic 19, 3) := by decide +kernel
theorem dL_arrive_99 : decode cL_arrive 99 = .ok (.iload 7, 2) := by decide +kernel
theorem dL_arrive_101 : decode cL_arrive 101 = .ok (.ifCond .le 24, 3) := by decide +kernel
theorem dL_arrive_104 : decode cL_arrive 104 = .ok (.aload_n 0, 1) := by decide +kernel
theorem dL_arrive_105 : decode cL_arrive 105 = .ok (.bipush 8, 2) := by decide +kernel
theorem dL_arrive_107 : decode cL_arrive 107 = .ok (.iload 7, 2) := by decide +kernel
theorem dL_arrive_109 : decode cL_arrive 109 = .ok (.iadd, 1) := by decide +kernel
theorem dL_arrive_110 : decode cL_arrive 110 = .ok (.iaload, 1) := by decide +kernel
theorem dL_arrive_111 : decode cL_arrive 111 = .ok (.iload 9, 2) := by decide +kernel
theorem dL_arrive_113 : decode cL_arrive 113 = .ok (.if_icmp .eq 12, 3) := by decide +kernel
theorem dL_arrive_116 : decode cL_arrive 116 = .ok (.aload_n 0, 1) := by decide +kernel
theorem dL_arrive_117 : decode cL_arrive 117 = .ok (.aload_n 3, 1) := by decide +kernel
theorem dL_arrive_118 : decode cL_arrive 118 = .ok (.iload 7, 2) := by decide +kernel
theorem dL_arrive_120 : decode cL_arrive 120 = .ok (.iload 8, 2) := by decide +kernel
theorem dL_arrive_122 : decode cL_arrive 122 = .ok (.invokestatic 23, 3) := by decide +kernel
theorem dL_arrive_125 : decode cL_arrive 125 = .ok (.iconst 1, 1) := by decide +kernel
theorem dL_arrive_126 : decode cL_arrive 126 = .ok (.istore 12, 2) := by decide +kernel
theorem dL_arrive_128 : decode cL_arrive 128 = .ok (.iload 12, 2) := by decide +kernel
theorem dL_arrive_130 : decode cL_arrive 130 = .ok (.aload_n 0, 1) := by decide +kernel
theorem dL_arrive_131 : decode cL_arrive 131 = .ok (.iconst 0, 1) := by decide +kernel
theorem dL_arrive_132 : decode cL_arrive 132 = .ok (.iaload, 1) := by decide +kernel
theorem dL_arrive_133 : decode cL_arrive 133 = .ok (.if_icmp .ge 38, 3) := by decide +kernel
theorem dL_arrive_136 : decode cL_arrive 136 = .ok (.aload_n 0, 1) := by decide +kernel
theorem dL_arrive_137 : decode cL_arrive 137 = .ok (.bipush 8, 2) := by decide +kernel
theorem dL_arrive_139 : decode cL_arrive 139 = .ok (.iload 12, 2) := by decide +kernel
theorem dL_arrive_141 : decode cL_arrive 141 = .ok (.iadd, 1) := by decide +kernel
theorem dL_arrive_142 : decode cL_arrive 142 = .ok (.iaload, 1) := by decide +kernel
theorem dL_arrive_143 : decode cL_arrive 143 = .ok (.iload 7, 2) := by decide +kernel
theorem dL_arrive_145 : decode cL_arrive 145 = .ok (.if_icmp .ne 20, 3) := by decide +kernel
theorem dL_arrive_148 : decode cL_arrive 148 = .ok (.iload 12, 2) := by decide +kernel
theorem dL_arrive_150 : decode cL_arrive 150 = .ok (.iload 9, 2) := by decide +kernel
theorem dL_arrive_152 : decode cL_arrive 152 = .ok (.if_icmp .eq 13, 3) := by decide +kernel
theorem dL_arrive_155 : decode cL_arrive 155 = .ok (.aload_n 0, 1) := by decide +kernel
theorem dL_arrive_156 : decode cL_arrive 156 = .ok (.aload 4, 2) := by decide +kernel
theorem dL_arrive_158 : decode cL_arrive 158 = .ok (.iload 12, 2) := by decide +kernel
theorem dL_arrive_160 : decode cL_arrive 160 = .ok (.iload 8, 2) := by decide +kernel
theorem dL_arrive_162 : decode cL_arrive 162 = .ok (.invokestatic 23, 3) := by decide +kernel
theorem dL_arrive_165 : decode cL_arrive 165 = .ok (.iinc 12 1, 3) := by decide +kernel
theorem dL_arrive_168 : decode cL_arrive 168 = .ok (.goto (-40), 3) := by decide +kernel
theorem dL_arrive_171 : decode cL_arrive 171 = .ok (.iconst 1, 1) := by decide +kernel
theorem dL_arrive_172 : decode cL_arrive 172 = .ok (.ireturn, 1) := by decide +kernel
theorem dL_take_0 : decode cL_take 0 = .ok (.bipush 13, 2) := by decide +kernel
theorem dL_take_2 : decode cL_take 2 = .ok (.iload_n 1, 1) := by decide +kernel
theorem dL_take_3 : decode cL_take 3 = .ok (.iconst 1, 1) := by decide +kernel
theorem dL_take_4 : decode cL_take 4 = .ok (.isub, 1) := by decide +kernel
theorem dL_take_5 : decode cL_take 5 = .ok (.imul, 1) := by decide +kernel
theorem dL_take_6 : decode cL_take 6 = .ok (.istore_n 2, 1) := by decide +kernel
theorem dL_take_7 : decode cL_take 7 = .ok (.aload_n 0, 1) := by decide +kernel
theorem dL_take_8 : decode cL_take 8 = .ok (.iload_n 2, 1) := by decide +kernel
theorem dL_take_9 : decode cL_take 9 = .ok (.iconst 1, 1) := by decide +kernel
theorem dL_take_10 : decode cL_take 10 = .ok (.iadd, 1) := by decide +kernel
theorem dL_take_11 : decode cL_take 11 = .ok (.iaload, 1) := by decide +kernel
theorem dL_take_12 : decode cL_take 12 = .ok (.istore_n 3, 1) := by decide +kernel
theorem dL_take_13 : decode cL_take 13 = .ok (.iconst 1, 1) := by decide +kernel
theorem dL_take_14 : decode cL_take 14 = .ok (.istore 4, 2) := by decide +kernel
theorem dL_take_16 : decode cL_take 16 = .ok (.iload 4, 2) := by decide +kernel
theorem dL_take_18 : decode cL_take 18 = .ok (.aload_n 0, 1) := by decide +kernel
theorem dL_take_19 : decode cL_take 19 = .ok (.iload_n 2, 1) := by decide +kernel
theorem dL_take_20 : decode cL_take 20 = .ok (.iaload, 1) := by decide +kernel
theorem dL_take_21 : decode cL_take 21 = .ok (.if_icmp .ge 23, 3) := by decide +kernel
theorem dL_take_24 : decode cL_take 24 = .ok (.aload_n 0, 1) := by decide +kernel
theorem dL_take_25 : decode cL_take 25 = .ok (.iload_n 2, 1) := by decide +kernel
theorem dL_take_26 : decode cL_take 26 = .ok (.iload 4, 2) := by decide +kernel
theorem dL_take_28 : decode cL_take 28 = .ok (.iadd, 1) := by decide +kernel
theorem dL_take_29 : decode cL_take 29 = .ok (.aload_n 0, 1) := by decide +kernel
theorem dL_take_30 : decode cL_take 30 = .ok (.iload_n 2, 1) := by decide +kernel
theorem dL_take_31 : decode cL_take 31 = .ok (.iload 4, 2) := by decide +kernel
theorem dL_take_33 : decode cL_take 33 = .ok (.iadd, 1) := by decide +kernel
theorem dL_take_34 : decode cL_take 34 = .ok (.iconst 1, 1) := by decide +kernel
theorem dL_take_35 : decode cL_take 35 = .ok (.iadd, 1) := by decide +kernel
theorem dL_take_36 : decode cL_take 36 = .ok (.iaload, 1) := by decide +kernel
theorem dL_take_37 : decode cL_take 37 = .ok (.iastore, 1) := by decide +kernel
theorem dL_take_38 : decode cL_take 38 = .ok (.iinc 4 1, 3) := by decide +kernel
theorem dL_take_41 : decode cL_take 41 = .ok (.goto (-25), 3) := by decide +kernel
theorem dL_take_44 : decode cL_take 44 = .ok (.aload_n 0, 1) := by decide +kernel
theorem dL_take_45 : decode cL_take 45 = .ok (.iload_n 2, 1) := by decide +kernel
theorem dL_take_46 : decode cL_take 46 = .ok (.dup2, 1) := by decide +kernel
theorem dL_take_47 : decode cL_take 47 = .ok (.iaload, 1) := by decide +kernel
theorem dL_take_48 : decode cL_take 48 = .ok (.iconst 1, 1) := by decide +kernel
theorem dL_take_49 : decode cL_take 49 = .ok (.isub, 1) := by decide +kernel
theorem dL_take_50 : decode cL_take 50 = .ok (.iastore, 1) := by decide +kernel
theorem dL_take_51 : decode cL_take 51 = .ok (.iload_n 3, 1) := by decide +kernel
theorem dL_take_52 : decode cL_take 52 = .ok (.ireturn, 1) := by decide +kernel
theorem dL_shown_0 : decode cL_shown 0 = .ok (.bipush 100, 2) := by decide +kernel
theorem dL_shown_2 : decode cL_shown 2 = .ok (.iload_n 0, 1) := by decide +kernel
theorem dL_shown_3 : decode cL_shown 3 = .ok (.bipush 16, 2) := by decide +kernel
theorem dL_shown_5 : decode cL_shown 5 = .ok (.idiv, 1) := by decide +kernel
theorem dL_shown_6 : decode cL_shown 6 = .ok (.imul, 1) := by decide +kernel
theorem dL_shown_7 : decode cL_shown 7 = .ok (.iload_n 0, 1) := by decide +kernel
theorem dL_shown_8 : decode cL_shown 8 = .ok (.bipush 16, 2) := by decide +kernel
theorem dL_shown_10 : decode cL_shown 10 = .ok (.irem, 1) := by decide +kernel
theorem dL_shown_11 : decode cL_shown 11 = .ok (.iadd, 1) := by decide +kernel
theorem dL_shown_12 : decode cL_shown 12 = .ok (.ireturn, 1) := by decide +kernel
set_option maxRecDepth 20000 in
theorem ggL_isSo_X7_count : GoodIn wsL_isSo wsX7_count := goodIn_r _ [6, 7, 8, 9, 10, 11, 12, 13, 14, 15, 16, 17, 18, 19, 20, 21, 22, 23, 24, 204, 205, 206, 207, 208, 209, 210, 211, 212, 213, 214, 215, 216, 217, 218, 219, 220, 221, 222, 223, 224, 225, 226, 227, 228] (by decide +kernel) (by decide +kernel)
set_option maxRecDepth 20000 in
theorem gL_isSo_X7_count : GoodIn wsL_isSo (wsV RL 27 RX7 yX7_count wsX7_count) := goodIn_app (goodIn_of _ (by decide +kernel)) ggL_isSo_X7_count
set_option maxRecDepth 20000 in
theorem ggL_isSo_L_serve : GoodIn wsL_isSo wsL_serve := goodIn_r _ [28] (by decide +kernel) (by decide +kernel)
set_option maxRecDepth 20000 in
theorem gL_isSo_L_serve : GoodIn wsL_isSo (va_wsS RL 9 yL_serve wsL_serve) := goodIn_app (goodIn_of _ (by decide +kernel)) ggL_isSo_L_serve
set_option maxRecDepth 20000 in
theorem ggL_isSo_X7_served : GoodIn wsL_isSo wsX7_served := goodIn_r _ [32, 7, 33, 34, 35, 36, 12, 37, 38, 39, 40, 5, 41, 42, 43, 44, 45, 46, 47, 48, 49, 50, 51, 52, 53, 54, 55, 56, 57, 58, 59, 60, 61, 62, 63, 64, 65, 66, 67, 68, 69, 70, 204, 205, 206, 207, 208, 209, 210, 211, 212, 213, 214, 215, 216, 217, 218, 219, 220, 221, 222, 223, 224, 225, 229, 230, 231] (by decide +kernel) (by decide +kernel)
set_option maxRecDepth 20000 in
theorem gL_isSo_X7_served : GoodIn wsL_isSo (wsV RL 33 RX7 yX7_served wsX7_served) := goodIn_app (goodIn_of _ (by decide +kernel)) ggL_isSo_X7_served
set_option maxRecDepth 20000 in
theorem ggL_isSo_X7_status : GoodIn wsL_isSo wsX7_status := goodIn_r _ [74, 7, 33, 34, 35, 36, 12, 37, 38, 75, 76, 77, 78, 40, 5, 41, 14, 15, 16, 17, 18, 79, 80, 81, 82, 83, 54, 55, 56, 57, 84, 85, 60, 86, 42, 43, 44, 45, 46, 47, 48, 49, 50, 51, 52, 53, 58, 59, 61, 62, 63, 64, 65, 66, 67, 68, 69, 70, 87, 88, 89, 90, 91, 92, 93, 94, 95, 96, 97, 98, 99, 100, 101, 102, 103, 104, 105, 106, 107, 204, 205, 206, 207, 208, 209, 210, 211, 212, 213, 214, 215, 216, 217, 218, 219, 220, 221, 222, 223, 224, 225, 229, 230, 231, 232, 233] (by decide +kernel) (by decide +kernel)
set_option maxRecDepth 20000 in
theorem gL_isSo_X7_status : GoodIn wsL_isSo (wsV RL 37 RX7 yX7_status wsX7_status) := goodIn_app (goodIn_of _ (by decide +kernel)) ggL_isSo_X7_status
set_option maxRecDepth 20000 in
theorem ggL_isSo_X7_proxy : GoodIn wsL_isSo wsX7_proxy := goodIn_r _ [111, 7, 33, 34, 35, 36, 12, 37, 38, 112, 113, 114, 115, 116, 117, 118, 119, 120, 121, 122, 123, 124, 125, 126, 127, 128, 129, 130, 131, 132, 133, 134, 135, 136, 137, 83, 54, 55, 56, 57, 138, 139, 60, 140, 141, 142, 143, 144, 145, 146, 147, 148, 149, 150, 45, 151, 51, 47, 48, 49, 50, 52, 53, 58, 59, 61, 62, 63, 64, 65, 66, 152, 95, 96, 97, 98, 99, 100, 153, 154, 155, 104, 156, 106, 157, 158, 159, 160, 161, 162, 163, 164, 165, 166, 167, 168, 169, 170, 171, 172, 173, 174, 204, 205, 206, 207, 208, 209, 210, 211, 212, 213, 214, 215, 216, 217, 218, 219, 220, 221, 222, 223, 224, 225, 229, 230, 231, 232, 233] (by decide +kernel) (by decide +kernel)
set_option maxRecDepth 20000 in
theorem gL_isSo_X7_proxy : GoodIn wsL_isSo (wsV RL 41 RX7 yX7_proxy wsX7_proxy) := goodIn_app (goodIn_of _ (by decide +kernel)) ggL_isSo_X7_proxy
set_option maxRecDepth 20000 in
theorem ggL_isSo_X7_kept : GoodIn wsL_isSo wsX7_kept := goodIn_r _ [178, 7, 34, 35, 36, 12, 37, 38, 152, 95, 96, 97, 98, 99, 100, 153, 154, 155, 104, 156, 106, 179, 180, 181, 182, 107, 204, 205, 206, 207, 208, 209, 210, 211, 212, 213, 214, 215, 216, 217, 218, 219, 220, 221, 222, 223, 224, 225, 232, 233] (by decide +kernel) (by decide +kernel)
set_option maxRecDepth 20000 in
theorem gL_isSo_X7_kept : GoodIn wsL_isSo (wsV RL 44 RX7 yX7_kept wsX7_kept) := goodIn_app (goodIn_of _ (by decide +kernel)) ggL_isSo_X7_kept
set_option maxRecDepth 20000 in
theorem ggL_isSo_L_shown : GoodIn wsL_isSo wsL_shown := goodIn_r _ [185] (by decide +kernel) (by decide +kernel)
set_option maxRecDepth 20000 in
theorem gL_isSo_L_shown : GoodIn wsL_isSo (va_wsS RL 47 yL_shown wsL_shown) := goodIn_app (goodIn_of _ (by decide +kernel)) ggL_isSo_L_shown
set_option maxRecDepth 20000 in
theorem ggL_isSo_X7_queued : GoodIn wsL_isSo wsX7_queued := goodIn_r _ [189, 7, 190, 191, 192, 12, 193, 130, 131, 132, 133, 38, 194, 195, 196, 197, 99, 198, 199, 153, 154, 155, 104, 156, 106, 179, 180, 181, 182, 107, 204, 205, 206, 207, 208, 209, 210, 211, 212, 213, 214, 215, 216, 217, 218, 219, 220, 221, 222, 223, 224, 225, 232, 233] (by decide +kernel) (by decide +kernel)
set_option maxRecDepth 20000 in
theorem gL_isSo_X7_queued : GoodIn wsL_isSo (wsV RL 50 RX7 yX7_queued wsX7_queued) := goodIn_app (goodIn_of _ (by decide +kernel)) ggL_isSo_X7_queued
set_option maxRecDepth 20000 in
theorem ggL_isSo_X7_upToDate : GoodIn wsL_isSo wsX7_upToDate := goodIn_r _ [203, 7, 33, 9, 10, 11, 12, 13, 14, 15, 16, 17, 18, 148, 149, 150, 45, 151, 51, 47, 48, 49, 50, 52, 53, 54, 55, 56, 57, 58, 59, 60, 61, 62, 63, 64, 65, 66, 204, 205, 206, 207, 208, 209, 210, 211, 212, 213, 214, 215, 216, 217, 218, 219, 220, 221, 222, 223, 224, 225, 229, 230, 231] (by decide +kernel) (by decide +kernel)
set_option maxRecDepth 20000 in
theorem gL_isSo_X7_upToDate : GoodIn wsL_isSo (wsV RL 53 RX7 yX7_upToDate wsX7_upToDate) := goodIn_app (goodIn_of _ (by decide +kernel)) ggL_isSo_X7_upToDate
theorem dL_isSo_0 : decode cL_isSo 0 = .ok (.aload_n 1, 1) := by decide +kernel
theorem dL_isSo_1 : decode cL_isSo 1 = .ok (.bipush 20, 2) := by decide +kernel
theorem dL_isSo_3 : decode cL_isSo 3 = .ok (.iaload, 1) := by decide +kernel
theorem dL_isSo_4 : decode cL_isSo 4 = .ok (.aload_n 1, 1) := by decide +kernel
theorem dL_isSo_5 : decode cL_isSo 5 = .ok (.bipush 21, 2) := by decide +kernel
theorem dL_isSo_7 : decode cL_isSo 7 = .ok (.iaload, 1) := by decide +kernel
theorem dL_isSo_8 : decode cL_isSo 8 = .ok (.iadd, 1) := by decide +kernel
theorem dL_isSo_9 : decode cL_isSo 9 = .ok (.aload_n 1, 1) := by decide +kernel
theorem dL_isSo_10 : decode cL_isSo 10 = .ok (.bipush 22, 2) := by decide +kernel
theorem dL_isSo_12 : decode cL_isSo 12 = .ok (.iaload, 1) := by decide +kernel
theorem dL_isSo_13 : decode cL_isSo 13 = .ok (.iadd, 1) := by decide +kernel
theorem dL_isSo_14 : decode cL_isSo 14 = .ok (.aload_n 1, 1) := by decide +kernel
theorem dL_isSo_15 : decode cL_isSo 15 = .ok (.bipush 23, 2) := by decide +kernel
theorem dL_isSo_17 : decode cL_isSo 17 = .ok (.iaload, 1) := by decide +kernel
theorem dL_isSo_18 : decode cL_isSo 18 = .ok (.iadd, 1) := by decide +kernel
theorem dL_isSo_19 : decode cL_isSo 19 = .ok (.istore 8, 2) := by decide +kernel
theorem dL_isSo_21 : decode cL_isSo 21 = .ok (.aload_n 0, 1) := by decide +kernel
theorem dL_isSo_22 : decode cL_isSo 22 = .ok (.iconst 0, 1) := by decide +kernel
theorem dL_isSo_23 : decode cL_isSo 23 = .ok (.invokevirtual 27, 3) := by decide +kernel
theorem dL_isSo_26 : decode cL_isSo 26 = .ok (.aload_n 1, 1) := by decide +kernel
theorem dL_isSo_27 : decode cL_isSo 27 = .ok (.iconst 0, 1) := by decide +kernel
theorem dL_isSo_28 : decode cL_isSo 28 = .ok (.iaload, 1) := by decide +kernel
theorem dL_isSo_29 : decode cL_isSo 29 = .ok (.if_icmp .ne 86, 3) := by decide +kernel
theorem dL_isSo_32 : decode cL_isSo 32 = .ok (.aload_n 0, 1) := by decide +kernel
theorem dL_isSo_33 : decode cL_isSo 33 = .ok (.iconst 1, 1) := by decide +kernel
theorem dL_isSo_34 : decode cL_isSo 34 = .ok (.invokevirtual 27, 3) := by decide +kernel
theorem dL_isSo_37 : decode cL_isSo 37 = .ok (.aload_n 1, 1) := by decide +kernel
theorem dL_isSo_38 : decode cL_isSo 38 = .ok (.iconst 1, 1) := by decide +kernel
theorem dL_isSo_39 : decode cL_isSo 39 = .ok (.iaload, 1) := by decide +kernel
theorem dL_isSo_40 : decode cL_isSo 40 = .ok (.if_icmp .ne 75, 3) := by decide +kernel
theorem dL_isSo_43 : decode cL_isSo 43 = .ok (.aload_n 0, 1) := by decide +kernel
theorem dL_isSo_44 : decode cL_isSo 44 = .ok (.iconst 2, 1) := by decide +kernel
theorem dL_isSo_45 : decode cL_isSo 45 = .ok (.invokevirtual 27, 3) := by decide +kernel
theorem dL_isSo_48 : decode cL_isSo 48 = .ok (.aload_n 1, 1) := by decide +kernel
theorem dL_isSo_49 : decode cL_isSo 49 = .ok (.iconst 2, 1) := by decide +kernel
theorem dL_isSo_50 : decode cL_isSo 50 = .ok (.iaload, 1) := by decide +kernel
theorem dL_isSo_51 : decode cL_isSo 51 = .ok (.if_icmp .ne 64, 3) := by decide +kernel
theorem dL_isSo_54 : decode cL_isSo 54 = .ok (.aload_n 0, 1) := by decide +kernel
theorem dL_isSo_55 : decode cL_isSo 55 = .ok (.iconst 3, 1) := by decide +kernel
theorem dL_isSo_56 : decode cL_isSo 56 = .ok (.invokevirtual 27, 3) := by decide +kernel
theorem dL_isSo_59 : decode cL_isSo 59 = .ok (.iload 8, 2) := by decide +kernel
theorem dL_isSo_61 : decode cL_isSo 61 = .ok (.if_icmp .ne 54, 3) := by decide +kernel
theorem dL_isSo_64 : decode cL_isSo 64 = .ok (.aload_n 0, 1) := by decide +kernel
theorem dL_isSo_65 : decode cL_isSo 65 = .ok (.iconst 4, 1) := by decide +kernel
theorem dL_isSo_66 : decode cL_isSo 66 = .ok (.invokevirtual 27, 3) := by decide +kernel
theorem dL_isSo_69 : decode cL_isSo 69 = .ok (.aload_n 1, 1) := by decide +kernel
theorem dL_isSo_70 : decode cL_isSo 70 = .ok (.iconst 3, 1) := by decide +kernel
theorem dL_isSo_71 : decode cL_isSo 71 = .ok (.iaload, 1) := by decide +kernel
theorem dL_isSo_72 : decode cL_isSo 72 = .ok (.if_icmp .ne 43, 3) := by decide +kernel
theorem dL_isSo_75 : decode cL_isSo 75 = .ok (.aload_n 0, 1) := by decide +kernel
theorem dL_isSo_76 : decode cL_isSo 76 = .ok (.iconst 5, 1) := by decide +kernel
theorem dL_isSo_77 : decode cL_isSo 77 = .ok (.invokevirtual 27, 3) := by decide +kernel
theorem dL_isSo_80 : decode cL_isSo 80 = .ok (.aload_n 1, 1) := by decide +kernel
theorem dL_isSo_81 : decode cL_isSo 81 = .ok (.iconst 4, 1) := by decide +kernel
theorem dL_isSo_82 : decode cL_isSo 82 = .ok (.iaload, 1) := by decide +kernel
theorem dL_isSo_83 : decode cL_isSo 83 = .ok (.if_icmp .ne 32, 3) := by decide +kernel
theorem dL_isSo_86 : decode cL_isSo 86 = .ok (.aload_n 0, 1) := by decide +kernel
theorem dL_isSo_87 : decode cL_isSo 87 = .ok (.bipush 6, 2) := by decide +kernel
theorem dL_isSo_89 : decode cL_isSo 89 = .ok (.invokevirtual 27, 3) := by decide +kernel
theorem dL_isSo_92 : decode cL_isSo 92 = .ok (.aload_n 1, 1) := by decide +kernel
theorem dL_isSo_93 : decode cL_isSo 93 = .ok (.iconst 5, 1) := by decide +kernel
theorem dL_isSo_94 : decode cL_isSo 94 = .ok (.iaload, 1) := by decide +kernel
theorem dL_isSo_95 : decode cL_isSo 95 = .ok (.if_icmp .ne 20, 3) := by decide +kernel
theorem dL_isSo_98 : decode cL_isSo 98 = .ok (.aload_n 0, 1) := by decide +kernel
theorem dL_isSo_99 : decode cL_isSo 99 = .ok (.bipush 7, 2) := by decide +kernel
theorem dL_isSo_101 : decode cL_isSo 101 = .ok (.invokevirtual 27, 3) := by decide +kernel
theorem dL_isSo_104 : decode cL_isSo 104 = .ok (.aload_n 1, 1) := by decide +kernel
theorem dL_isSo_105 : decode cL_isSo 105 = .ok (.bipush 6, 2) := by decide +kernel
theorem dL_isSo_107 : decode cL_isSo 107 = .ok (.iaload, 1) := by decide +kernel
theorem dL_isSo_108 : decode cL_isSo 108 = .ok (.if_icmp .ne 7, 3) := by decide +kernel
theorem dL_isSo_111 : decode cL_isSo 111 = .ok (.iconst 1, 1) := by decide +kernel
theorem dL_isSo_112 : decode cL_isSo 112 = .ok (.goto 4, 3) := by decide +kernel
theorem dL_isSo_115 : decode cL_isSo 115 = .ok (.iconst 0, 1) := by decide +kernel
theorem dL_isSo_116 : decode cL_isSo 116 = .ok (.istore 9, 2) := by decide +kernel
theorem dL_isSo_118 : decode cL_isSo 118 = .ok (.iconst 4, 1) := by decide +kernel
theorem dL_isSo_119 : decode cL_isSo 119 = .ok (.newarray .int, 2) := by decide +kernel
theorem dL_isSo_121 : decode cL_isSo 121 = .ok (.astore 10, 2) := by decide +kernel
theorem dL_isSo_123 : decode cL_isSo 123 = .ok (.iconst 0, 1) := by decide +kernel
theorem dL_isSo_124 : decode cL_isSo 124 = .ok (.istore 11, 2) := by decide +kernel
theorem dL_isSo_126 : decode cL_isSo 126 = .ok (.iconst 0, 1) := by decide +kernel
theorem dL_isSo_127 : decode cL_isSo 127 = .ok (.istore 12, 2) := by decide +kernel
theorem dL_isSo_129 : decode cL_isSo 129 = .ok (.iload 12, 2) := by decide +kernel
theorem dL_isSo_131 : decode cL_isSo 131 = .ok (.aload_n 1, 1) := by decide +kernel
theorem dL_isSo_132 : decode cL_isSo 132 = .ok (.iconst 0, 1) := by decide +kernel
theorem dL_isSo_133 : decode cL_isSo 133 = .ok (.iaload, 1) := by decide +kernel
theorem dL_isSo_134 : decode cL_isSo 134 = .ok (.if_icmp .ge 581, 3) := by decide +kernel
theorem dL_isSo_137 : decode cL_isSo 137 = .ok (.iload 9, 2) := by decide +kernel
theorem dL_isSo_139 : decode cL_isSo 139 = .ok (.ifCond .eq 576, 3) := by decide +kernel
theorem dL_isSo_142 : decode cL_isSo 142 = .ok (.aload_n 2, 1) := by decide +kernel
theorem dL_isSo_143 : decode cL_isSo 143 = .ok (.aload_n 3, 1) := by decide +kernel
theorem dL_isSo_144 : decode cL_isSo 144 = .ok (.iload 12, 2) := by decide +kernel
theorem dL_isSo_146 : decode cL_isSo 146 = .ok (.aload 10, 2) := by decide +kernel
theorem dL_isSo_148 : decode cL_isSo 148 = .ok (.invokestatic 9, 3) := by decide +kernel
theorem dL_isSo_151 : decode cL_isSo 151 = .ok (.iconst 0, 1) := by decide +kernel
theorem dL_isSo_152 : decode cL_isSo 152 = .ok (.istore 13, 2) := by decide +kernel
theorem dL_isSo_154 : decode cL_isSo 154 = .ok (.iconst 0, 1) := by decide +kernel
theorem dL_isSo_155 : decode cL_isSo 155 = .ok (.istore 14, 2) := by decide +kernel
theorem dL_isSo_157 : decode cL_isSo 157 = .ok (.iconst 0, 1) := by decide +kernel
theorem dL_isSo_158 : decode cL_isSo 158 = .ok (.istore 15, 2) := by decide +kernel
theorem dL_isSo_160 : decode cL_isSo 160 = .ok (.iload 15, 2) := by decide +kernel
theorem dL_isSo_162 : decode cL_isSo 162 = .ok (.iconst 4, 1) := by decide +kernel
theorem dL_isSo_163 : decode cL_isSo 163 = .ok (.if_icmp .ge 186, 3) := by decide +kernel
theorem dL_isSo_166 : decode cL_isSo 166 = .ok (.iload 9, 2) := by decide +kernel
theorem dL_isSo_168 : decode cL_isSo 168 = .ok (.ifCond .eq 181, 3) := by decide +kernel
theorem dL_isSo_171 : decode cL_isSo 171 = .ok (.aload_n 0, 1) := by decide +kernel
theorem dL_isSo_172 : decode cL_isSo 172 = .ok (.iload 12, 2) := by decide +kernel
theorem dL_isSo_174 : decode cL_isSo 174 = .ok (.iload 15, 2) := by decide +kernel
theorem dL_isSo_176 : decode cL_isSo 176 = .ok (.invokevirtual 33, 3) := by decide +kernel
theorem dL_isSo_179 : decode cL_isSo 179 = .ok (.aload 10, 2) := by decide +kernel
theorem dL_isSo_181 : decode cL_isSo 181 = .ok (.iload 15, 2) := by decide +kernel
theorem dL_isSo_183 : decode cL_isSo 183 = .ok (.iaload, 1) := by decide +kernel
theorem dL_isSo_184 : decode cL_isSo 184 = .ok (.if_icmp .ne 7, 3) := by decide +kernel
theorem dL_isSo_187 : decode cL_isSo 187 = .ok (.iconst 1, 1) := by decide +kernel
theorem dL_isSo_188 : decode cL_isSo 188 = .ok (.goto 4, 3) := by decide +kernel
theorem dL_isSo_191 : decode cL_isSo 191 = .ok (.iconst 0, 1) := by decide +kernel
theorem dL_isSo_192 : decode cL_isSo 192 = .ok (.istore 9, 2) := by decide +kernel
theorem dL_isSo_194 : decode cL_isSo 194 = .ok (.iload 13, 2) := by decide +kernel
theorem dL_isSo_196 : decode cL_isSo 196 = .ok (.aload 10, 2) := by decide +kernel
theorem dL_isSo_198 : decode cL_isSo 198 = .ok (.iload 15, 2) := by decide +kernel
theorem dL_isSo_200 : decode cL_isSo 200 = .ok (.iaload, 1) := by decide +kernel
theorem dL_isSo_201 : decode cL_isSo 201 = .ok (.iadd, 1) := by decide +kernel
theorem dL_isSo_202 : decode cL_isSo 202 = .ok (.istore 13, 2) := by decide +kernel
theorem dL_isSo_204 : decode cL_isSo 204 = .ok (.iconst 1, 1) := by decide +kernel
theorem dL_isSo_205 : decode cL_isSo 205 = .ok (.istore 16, 2) := by decide +kernel
theorem dL_isSo_207 : decode cL_isSo 207 = .ok (.iload 16, 2) := by decide +kernel
theorem dL_isSo_209 : decode cL_isSo 209 = .ok (.aload_n 1, 1) := by decide +kernel
theorem dL_isSo_210 : decode cL_isSo 210 = .ok (.bipush 20, 2) := by decide +kernel
theorem dL_isSo_212 : decode cL_isSo 212 = .ok (.iload 15, 2) := by decide +kernel
theorem dL_isSo_214 : decode cL_isSo 214 = .ok (.iadd, 1) := by decide +kernel
theorem dL_isSo_215 : decode cL_isSo 215 = .ok (.iaload, 1) := by decide +kernel
theorem dL_isSo_216 : decode cL_isSo 216 = .ok (.if_icmp .gt 127, 3) := by decide +kernel
theorem dL_isSo_219 : decode cL_isSo 219 = .ok (.iload 9, 2) := by decide +kernel
theorem dL_isSo_221 : decode cL_isSo 221 = .ok (.ifCond .eq 122, 3) := by decide +kernel
theorem dL_isSo_224 : decode cL_isSo 224 = .ok (.aload_n 2, 1) := by decide +kernel
theorem dL_isSo_225 : decode cL_isSo 225 = .ok (.iconst 4, 1) := by decide +kernel
theorem dL_isSo_226 : decode cL_isSo 226 = .ok (.iload 12, 2) := by decide +kernel
theorem dL_isSo_228 : decode cL_isSo 228 = .ok (.imul, 1) := by decide +kernel
theorem dL_isSo_229 : decode cL_isSo 229 = .ok (.iload 15, 2) := by decide +kernel
theorem dL_isSo_231 : decode cL_isSo 231 = .ok (.iadd, 1) := by decide +kernel
theorem dL_isSo_232 : decode cL_isSo 232 = .ok (.iaload, 1) := by decide +kernel
theorem dL_isSo_233 : decode cL_isSo 233 = .ok (.iload 16, 2) := by decide +kernel
theorem dL_isSo_235 : decode cL_isSo 235 = .ok (.ishr, 1) := by decide +kernel
theorem dL_isSo_236 : decode cL_isSo 236 = .ok (.iconst 1, 1) := by decide +kernel
theorem dL_isSo_237 : decode cL_isSo 237 = .ok (.iand, 1) := by decide +kernel
theorem dL_isSo_238 : decode cL_isSo 238 = .ok (.iconst 1, 1) := by decide +kernel
theorem dL_isSo_239 : decode cL_isSo 239 = .ok (.if_icmp .ne 7, 3) := by decide +kernel
theorem dL_isSo_242 : decode cL_isSo 242 = .ok (.iconst 1, 1) := by decide +kernel
theorem dL_isSo_243 : decode cL_isSo 243 = .ok (.goto 4, 3) := by decide +kernel
theorem dL_isSo_246 : decode cL_isSo 246 = .ok (.iconst 0, 1) := by decide +kernel
theorem dL_isSo_247 : decode cL_isSo 247 = .ok (.istore 17, 2) := by decide +kernel
theorem dL_isSo_249 : decode cL_isSo 249 = .ok (.iload 14, 2) := by decide +kernel
theorem dL_isSo_251 : decode cL_isSo 251 = .ok (.iload 17, 2) := by decide +kernel
theorem dL_isSo_253 : decode cL_isSo 253 = .ok (.ifCond .eq 7, 3) := by decide +kernel
theorem dL_isSo_256 : decode cL_isSo 256 = .ok (.iconst 1, 1) := by decide +kernel
theorem dL_isSo_257 : decode cL_isSo 257 = .ok (.goto 4, 3) := by decide +kernel
theorem dL_isSo_260 : decode cL_isSo 260 = .ok (.iconst 0, 1) := by decide +kernel
theorem dL_isSo_261 : decode cL_isSo 261 = .ok (.iadd, 1) := by decide +kernel
theorem dL_isSo_262 : decode cL_isSo 262 = .ok (.istore 14, 2) := by decide +kernel
theorem dL_isSo_264 : decode cL_isSo 264 = .ok (.aload_n 0, 1) := by decide +kernel
theorem dL_isSo_265 : decode cL_isSo 265 = .ok (.iload 12, 2) := by decide +kernel
theorem dL_isSo_267 : decode cL_isSo 267 = .ok (.iload 15, 2) := by decide +kernel
theorem dL_isSo_269 : decode cL_isSo 269 = .ok (.iload 16, 2) := by decide +kernel
theorem dL_isSo_271 : decode cL_isSo 271 = .ok (.invokevirtual 37, 3) := by decide +kernel
theorem dL_isSo_274 : decode cL_isSo 274 = .ok (.istore 18, 2) := by decide +kernel
theorem dL_isSo_276 : decode cL_isSo 276 = .ok (.iload 17, 2) := by decide +kernel
theorem dL_isSo_278 : decode cL_isSo 278 = .ok (.ifCond .ne 16, 3) := by decide +kernel
theorem dL_isSo_281 : decode cL_isSo 281 = .ok (.iload 18, 2) := by decide +kernel
theorem dL_isSo_283 : decode cL_isSo 283 = .ok (.ifCond .ne 7, 3) := by decide +kernel
theorem dL_isSo_286 : decode cL_isSo 286 = .ok (.iconst 1, 1) := by decide +kernel
theorem dL_isSo_287 : decode cL_isSo 287 = .ok (.goto 48, 3) := by decide +kernel
theorem dL_isSo_290 : decode cL_isSo 290 = .ok (.iconst 0, 1) := by decide +kernel
theorem dL_isSo_291 : decode cL_isSo 291 = .ok (.goto 44, 3) := by decide +kernel
theorem dL_isSo_294 : decode cL_isSo 294 = .ok (.iload 16, 2) := by decide +kernel
theorem dL_isSo_296 : decode cL_isSo 296 = .ok (.aload 10, 2) := by decide +kernel
theorem dL_isSo_298 : decode cL_isSo 298 = .ok (.iload 15, 2) := by decide +kernel
theorem dL_isSo_300 : decode cL_isSo 300 = .ok (.iaload, 1) := by decide +kernel
theorem dL_isSo_301 : decode cL_isSo 301 = .ok (.if_icmp .le 17, 3) := by decide +kernel
theorem dL_isSo_304 : decode cL_isSo 304 = .ok (.iload 18, 2) := by decide +kernel
theorem dL_isSo_306 : decode cL_isSo 306 = .ok (.iconst 1, 1) := by decide +kernel
theorem dL_isSo_307 : decode cL_isSo 307 = .ok (.if_icmp .ne 7, 3) := by decide +kernel
theorem dL_isSo_310 : decode cL_isSo 310 = .ok (.iconst 1, 1) := by decide +kernel
theorem dL_isSo_311 : decode cL_isSo 311 = .ok (.goto 24, 3) := by decide +kernel
theorem dL_isSo_314 : decode cL_isSo 314 = .ok (.iconst 0, 1) := by decide +kernel
theorem dL_isSo_315 : decode cL_isSo 315 = .ok (.goto 20, 3) := by decide +kernel
theorem dL_isSo_318 : decode cL_isSo 318 = .ok (.iload 18, 2) := by decide +kernel
theorem dL_isSo_320 : decode cL_isSo 320 = .ok (.iconst 2, 1) := by decide +kernel
theorem dL_isSo_321 : decode cL_isSo 321 = .ok (.if_icmp .eq 9, 3) := by decide +kernel
theorem dL_isSo_324 : decode cL_isSo 324 = .ok (.iload 18, 2) := by decide +kernel
theorem dL_isSo_326 : decode cL_isSo 326 = .ok (.iconst 3, 1) := by decide +kernel
theorem dL_isSo_327 : decode cL_isSo 327 = .ok (.if_icmp .ne 7, 3) := by decide +kernel
theorem dL_isSo_330 : decode cL_isSo 330 = .ok (.iconst 1, 1) := by decide +kernel
theorem dL_isSo_331 : decode cL_isSo 331 = .ok (.goto 4, 3) := by decide +kernel
theorem dL_isSo_334 : decode cL_isSo 334 = .ok (.iconst 0, 1) := by decide +kernel
theorem dL_isSo_335 : decode cL_isSo 335 = .ok (.istore 9, 2) := by decide +kernel
theorem dL_isSo_337 : decode cL_isSo 337 = .ok (.iinc 16 1, 3) := by decide +kernel
theorem dL_isSo_340 : decode cL_isSo 340 = .ok (.goto (-133), 3) := by decide +kernel
theorem dL_isSo_343 : decode cL_isSo 343 = .ok (.iinc 15 1, 3) := by decide +kernel
theorem dL_isSo_346 : decode cL_isSo 346 = .ok (.goto (-186), 3) := by decide +kernel
theorem dL_isSo_349 : decode cL_isSo 349 = .ok (.iload 11, 2) := by decide +kernel
theorem dL_isSo_351 : decode cL_isSo 351 = .ok (.iload 13, 2) := by decide +kernel
theorem dL_isSo_353 : decode cL_isSo 353 = .ok (.iload 8, 2) := by decide +kernel
theorem dL_isSo_355 : decode cL_isSo 355 = .ok (.if_icmp .ne 7, 3) := by decide +kernel
theorem dL_isSo_358 : decode cL_isSo 358 = .ok (.iconst 1, 1) := by decide +kernel
theorem dL_isSo_359 : decode cL_isSo 359 = .ok (.goto 4, 3) := by decide +kernel
theorem dL_isSo_362 : decode cL_isSo 362 = .ok (.iconst 0, 1) := by decide +kernel
theorem dL_isSo_363 : decode cL_isSo 363 = .ok (.iadd, 1) := by decide +kernel
theorem dL_isSo_364 : decode cL_isSo 364 = .ok (.istore 11, 2) := by decide +kernel
theorem dL_isSo_366 : decode cL_isSo 366 = .ok (.iload 12, 2) := by decide +kernel
theorem dL_isSo_368 : decode cL_isSo 368 = .ok (.ifCond .ne 10, 3) := by decide +kernel
theorem dL_isSo_371 : decode cL_isSo 371 = .ok (.aload 7, 2) := by decide +kernel
theorem dL_isSo_373 : decode cL_isSo 373 = .ok (.iconst 0, 1) := by decide +kernel
theorem dL_isSo_374 : decode cL_isSo 374 = .ok (.iaload, 1) := by decide +kernel
theorem dL_isSo_375 : decode cL_isSo 375 = .ok (.goto 13, 3) := by decide +kernel
theorem dL_isSo_378 : decode cL_isSo 378 = .ok (.aload 6, 2) := by decide +kernel
theorem dL_isSo_380 : decode cL_isSo 380 = .ok (.bipush 13, 2) := by decide +kernel
theorem dL_isSo_382 : decode cL_isSo 382 = .ok (.iload 12, 2) := by decide +kernel
theorem dL_isSo_384 : decode cL_isSo 384 = .ok (.iconst 1, 1) := by decide +kernel
theorem dL_isSo_385 : decode cL_isSo 385 = .ok (.isub, 1) := by decide +kernel
theorem dL_isSo_386 : decode cL_isSo 386 = .ok (.imul, 1) := by decide +kernel
theorem dL_isSo_387 : decode cL_isSo 387 = .ok (.iaload, 1) := by decide +kernel
theorem dL_isSo_388 : decode cL_isSo 388 = .ok (.istore 15, 2) := by decide +kernel
theorem dL_isSo_390 : decode cL_isSo 390 = .ok (.iload 9, 2) := by decide +kernel
theorem dL_isSo_392 : decode cL_isSo 392 = .ok (.ifCond .eq 56, 3) := by decide +kernel
theorem dL_isSo_395 : decode cL_isSo 395 = .ok (.aload_n 0, 1) := by decide +kernel
theorem dL_isSo_396 : decode cL_isSo 396 = .ok (.iload 12, 2) := by decide +kernel
theorem dL_isSo_398 : decode cL_isSo 398 = .ok (.iconst 3, 1) := by decide +kernel
theorem dL_isSo_399 : decode cL_isSo 399 = .ok (.invokevirtual 41, 3) := by decide +kernel
theorem dL_isSo_402 : decode cL_isSo 402 = .ok (.iload 14, 2) := by decide +kernel
theorem dL_isSo_404 : decode cL_isSo 404 = .ok (.if_icmp .ne 44, 3) := by decide +kernel
theorem dL_isSo_407 : decode cL_isSo 407 = .ok (.aload_n 0, 1) := by decide +kernel
theorem dL_isSo_408 : decode cL_isSo 408 = .ok (.iload 12, 2) := by decide +kernel
theorem dL_isSo_410 : decode cL_isSo 410 = .ok (.iconst 4, 1) := by decide +kernel
theorem dL_isSo_411 : decode cL_isSo 411 = .ok (.invokevirtual 41, 3) := by decide +kernel
theorem dL_isSo_414 : decode cL_isSo 414 = .ok (.iload 13, 2) := by decide +kernel
theorem dL_isSo_416 : decode cL_isSo 416 = .ok (.if_icmp .ne 32, 3) := by decide +kernel
theorem dL_isSo_419 : decode cL_isSo 419 = .ok (.aload_n 0, 1) := by decide +kernel
theorem dL_isSo_420 : decode cL_isSo 420 = .ok (.iload 12, 2) := by decide +kernel
theorem dL_isSo_422 : decode cL_isSo 422 = .ok (.iconst 5, 1) := by decide +kernel
theorem dL_isSo_423 : decode cL_isSo 423 = .ok (.invokevirtual 41, 3) := by decide +kernel
theorem dL_isSo_426 : decode cL_isSo 426 = .ok (.iload 15, 2) := by decide +kernel
theorem dL_isSo_428 : decode cL_isSo 428 = .ok (.if_icmp .ne 20, 3) := by decide +kernel
theorem dL_isSo_431 : decode cL_isSo 431 = .ok (.aload_n 0, 1) := by decide +kernel
theorem dL_isSo_432 : decode cL_isSo 432 = .ok (.iload 12, 2) := by decide +kernel
theorem dL_isSo_434 : decode cL_isSo 434 = .ok (.iload 15, 2) := by decide +kernel
theorem dL_isSo_436 : decode cL_isSo 436 = .ok (.invokevirtual 44, 3) := by decide +kernel
theorem dL_isSo_439 : decode cL_isSo 439 = .ok (.bipush (-9), 2) := by decide +kernel
theorem dL_isSo_441 : decode cL_isSo 441 = .ok (.if_icmp .ne 7, 3) := by decide +kernel
theorem dL_isSo_444 : decode cL_isSo 444 = .ok (.iconst 1, 1) := by decide +kernel
theorem dL_isSo_445 : decode cL_isSo 445 = .ok (.goto 4, 3) := by decide +kernel
theorem dL_isSo_448 : decode cL_isSo 448 = .ok (.iconst 0, 1) := by decide +kernel
theorem dL_isSo_449 : decode cL_isSo 449 = .ok (.istore 9, 2) := by decide +kernel
theorem dL_isSo_451 : decode cL_isSo 451 = .ok (.iconst 0, 1) := by decide +kernel
theorem dL_isSo_452 : decode cL_isSo 452 = .ok (.istore 16, 2) := by decide +kernel
theorem dL_isSo_454 : decode cL_isSo 454 = .ok (.iload 16, 2) := by decide +kernel
theorem dL_isSo_456 : decode cL_isSo 456 = .ok (.iload 15, 2) := by decide +kernel
theorem dL_isSo_458 : decode cL_isSo 458 = .ok (.if_icmp .ge 105, 3) := by decide +kernel
theorem dL_isSo_461 : decode cL_isSo 461 = .ok (.iload 9, 2) := by decide +kernel
theorem dL_isSo_463 : decode cL_isSo 463 = .ok (.ifCond .eq 100, 3) := by decide +kernel
theorem dL_isSo_466 : decode cL_isSo 466 = .ok (.iload 12, 2) := by decide +kernel
theorem dL_isSo_468 : decode cL_isSo 468 = .ok (.ifCond .ne 13, 3) := by decide +kernel
theorem dL_isSo_471 : decode cL_isSo 471 = .ok (.aload 7, 2) := by decide +kernel
theorem dL_isSo_473 : decode cL_isSo 473 = .ok (.iconst 1, 1) := by decide +kernel
theorem dL_isSo_474 : decode cL_isSo 474 = .ok (.iload 16, 2) := by decide +kernel
theorem dL_isSo_476 : decode cL_isSo 476 = .ok (.iadd, 1) := by decide +kernel
theorem dL_isSo_477 : decode cL_isSo 477 = .ok (.iaload, 1) := by decide +kernel
theorem dL_isSo_478 : decode cL_isSo 478 = .ok (.goto 18, 3) := by decide +kernel
theorem dL_isSo_481 : decode cL_isSo 481 = .ok (.aload 6, 2) := by decide +kernel
theorem dL_isSo_483 : decode cL_isSo 483 = .ok (.bipush 13, 2) := by decide +kernel
theorem dL_isSo_485 : decode cL_isSo 485 = .ok (.iload 12, 2) := by decide +kernel
theorem dL_isSo_487 : decode cL_isSo 487 = .ok (.iconst 1, 1) := by decide +kernel
theorem dL_isSo_488 : decode cL_isSo 488 = .ok (.isub, 1) := by decide +kernel
theorem dL_isSo_489 : decode cL_isSo 489 = .ok (.imul, 1) := by decide +kernel
theorem dL_isSo_490 : decode cL_isSo 490 = .ok (.iconst 1, 1) := by decide +kernel
theorem dL_isSo_491 : decode cL_isSo 491 = .ok (.iadd, 1) := by decide +kernel
theorem dL_isSo_492 : decode cL_isSo 492 = .ok (.iload 16, 2) := by decide +kernel
theorem dL_isSo_494 : decode cL_isSo 494 = .ok (.iadd, 1) := by decide +kernel
theorem dL_isSo_495 : decode cL_isSo 495 = .ok (.iaload, 1) := by decide +kernel
theorem dL_isSo_496 : decode cL_isSo 496 = .ok (.istore 17, 2) := by decide +kernel
theorem dL_isSo_498 : decode cL_isSo 498 = .ok (.aload_n 0, 1) := by decide +kernel
theorem dL_isSo_499 : decode cL_isSo 499 = .ok (.iload 12, 2) := by decide +kernel
theorem dL_isSo_501 : decode cL_isSo 501 = .ok (.iload 16, 2) := by decide +kernel
theorem dL_isSo_503 : decode cL_isSo 503 = .ok (.invokevirtual 44, 3) := by decide +kernel
theorem dL_isSo_506 : decode cL_isSo 506 = .ok (.iload 17, 2) := by decide +kernel
theorem dL_isSo_508 : decode cL_isSo 508 = .ok (.invokestatic 47, 3) := by decide +kernel
theorem dL_isSo_511 : decode cL_isSo 511 = .ok (.if_icmp .ne 43, 3) := by decide +kernel
theorem dL_isSo_514 : decode cL_isSo 514 = .ok (.iload 17, 2) := by decide +kernel
theorem dL_isSo_516 : decode cL_isSo 516 = .ok (.bipush 16, 2) := by decide +kernel
theorem dL_isSo_518 : decode cL_isSo 518 = .ok (.irem, 1) := by decide +kernel
theorem dL_isSo_519 : decode cL_isSo 519 = .ok (.aload 10, 2) := by decide +kernel
theorem dL_isSo_521 : decode cL_isSo 521 = .ok (.iload 17, 2) := by decide +kernel
theorem dL_isSo_523 : decode cL_isSo 523 = .ok (.bipush 16, 2) := by decide +kernel
theorem dL_isSo_525 : decode cL_isSo 525 = .ok (.idiv, 1) := by decide +kernel
theorem dL_isSo_526 : decode cL_isSo 526 = .ok (.iaload, 1) := by decide +kernel
theorem dL_isSo_527 : decode cL_isSo 527 = .ok (.if_icmp .gt 23, 3) := by decide +kernel
theorem dL_isSo_530 : decode cL_isSo 530 = .ok (.aload_n 0, 1) := by decide +kernel
theorem dL_isSo_531 : decode cL_isSo 531 = .ok (.iload 12, 2) := by decide +kernel
theorem dL_isSo_533 : decode cL_isSo 533 = .ok (.iload 17, 2) := by decide +kernel
theorem dL_isSo_535 : decode cL_isSo 535 = .ok (.bipush 16, 2) := by decide +kernel
theorem dL_isSo_537 : decode cL_isSo 537 = .ok (.idiv, 1) := by decide +kernel
theorem dL_isSo_538 : decode cL_isSo 538 = .ok (.iload 17, 2) := by decide +kernel
theorem dL_isSo_540 : decode cL_isSo 540 = .ok (.bipush 16, 2) := by decide +kernel
theorem dL_isSo_542 : decode cL_isSo 542 = .ok (.irem, 1) := by decide +kernel
theorem dL_isSo_543 : decode cL_isSo 543 = .ok (.invokevirtual 37, 3) := by decide +kernel
theorem dL_isSo_546 : decode cL_isSo 546 = .ok (.iconst 3, 1) := by decide +kernel
theorem dL_isSo_547 : decode cL_isSo 547 = .ok (.if_icmp .ne 7, 3) := by decide +kernel
theorem dL_isSo_550 : decode cL_isSo 550 = .ok (.iconst 1, 1) := by decide +kernel
theorem dL_isSo_551 : decode cL_isSo 551 = .ok (.goto 4, 3) := by decide +kernel
theorem dL_isSo_554 : decode cL_isSo 554 = .ok (.iconst 0, 1) := by decide +kernel
theorem dL_isSo_555 : decode cL_isSo 555 = .ok (.istore 9, 2) := by decide +kernel
theorem dL_isSo_557 : decode cL_isSo 557 = .ok (.iinc 16 1, 3) := by decide +kernel
theorem dL_isSo_560 : decode cL_isSo 560 = .ok (.goto (-106), 3) := by decide +kernel
theorem dL_isSo_563 : decode cL_isSo 563 = .ok (.iconst 0, 1) := by decide +kernel
theorem dL_isSo_564 : decode cL_isSo 564 = .ok (.istore 16, 2) := by decide +kernel
theorem dL_isSo_566 : decode cL_isSo 566 = .ok (.iload 16, 2) := by decide +kernel
theorem dL_isSo_568 : decode cL_isSo 568 = .ok (.iconst 2, 1) := by decide +kernel
theorem dL_isSo_569 : decode cL_isSo 569 = .ok (.if_icmp .ge 140, 3) := by decide +kernel
theorem dL_isSo_572 : decode cL_isSo 572 = .ok (.iload 12, 2) := by decide +kernel
theorem dL_isSo_574 : decode cL_isSo 574 = .ok (.ifCond .le 135, 3) := by decide +kernel
theorem dL_isSo_577 : decode cL_isSo 577 = .ok (.iload 9, 2) := by decide +kernel
theorem dL_isSo_579 : decode cL_isSo 579 = .ok (.ifCond .eq 130, 3) := by decide +kernel
theorem dL_isSo_582 : decode cL_isSo 582 = .ok (.iload 16, 2) := by decide +kernel
theorem dL_isSo_584 : decode cL_isSo 584 = .ok (.ifCond .ne 8, 3) := by decide +kernel
theorem dL_isSo_587 : decode cL_isSo 587 = .ok (.aload 4, 2) := by decide +kernel
theorem dL_isSo_589 : decode cL_isSo 589 = .ok (.goto 5, 3) := by decide +kernel
theorem dL_isSo_592 : decode cL_isSo 592 = .ok (.aload 5, 2) := by decide +kernel
theorem dL_isSo_594 : decode cL_isSo 594 = .ok (.astore 17, 2) := by decide +kernel
theorem dL_isSo_596 : decode cL_isSo 596 = .ok (.aload 17, 2) := by decide +kernel
theorem dL_isSo_598 : decode cL_isSo 598 = .ok (.bipush 13, 2) := by decide +kernel
theorem dL_isSo_600 : decode cL_isSo 600 = .ok (.iload 12, 2) := by decide +kernel
theorem dL_isSo_602 : decode cL_isSo 602 = .ok (.iconst 1, 1) := by decide +kernel
theorem dL_isSo_603 : decode cL_isSo 603 = .ok (.isub, 1) := by decide +kernel
theorem dL_isSo_604 : decode cL_isSo 604 = .ok (.imul, 1) := by decide +kernel
theorem dL_isSo_605 : decode cL_isSo 605 = .ok (.iaload, 1) := by decide +kernel
theorem dL_isSo_606 : decode cL_isSo 606 = .ok (.istore 18, 2) := by decide +kernel
theorem dL_isSo_608 : decode cL_isSo 608 = .ok (.aload_n 0, 1) := by decide +kernel
theorem dL_isSo_609 : decode cL_isSo 609 = .ok (.iload 12, 2) := by decide +kernel
theorem dL_isSo_611 : decode cL_isSo 611 = .ok (.iload 16, 2) := by decide +kernel
theorem dL_isSo_613 : decode cL_isSo 613 = .ok (.iconst (-1), 1) := by decide +kernel
theorem dL_isSo_614 : decode cL_isSo 614 = .ok (.invokevirtual 50, 3) := by decide +kernel
theorem dL_isSo_617 : decode cL_isSo 617 = .ok (.iload 18, 2) := by decide +kernel
theorem dL_isSo_619 : decode cL_isSo 619 = .ok (.if_icmp .ne 22, 3) := by decide +kernel
theorem dL_isSo_622 : decode cL_isSo 622 = .ok (.aload_n 0, 1) := by decide +kernel
theorem dL_isSo_623 : decode cL_isSo 623 = .ok (.iload 12, 2) := by decide +kernel
theorem dL_isSo_625 : decode cL_isSo 625 = .ok (.iload 16, 2) := by decide +kernel
theorem dL_isSo_627 : decode cL_isSo 627 = .ok (.iload 18, 2) := by decide +kernel
theorem dL_isSo_629 : decode cL_isSo 629 = .ok (.invokevirtual 50, 3) := by decide +kernel
theorem dL_isSo_632 : decode cL_isSo 632 = .ok (.bipush (-9), 2) := by decide +kernel
theorem dL_isSo_634 : decode cL_isSo 634 = .ok (.if_icmp .ne 7, 3) := by decide +kernel
theorem dL_isSo_637 : decode cL_isSo 637 = .ok (.iconst 1, 1) := by decide +kernel
theorem dL_isSo_638 : decode cL_isSo 638 = .ok (.goto 4, 3) := by decide +kernel
theorem dL_isSo_641 : decode cL_isSo 641 = .ok (.iconst 0, 1) := by decide +kernel
theorem dL_isSo_642 : decode cL_isSo 642 = .ok (.istore 9, 2) := by decide +kernel
theorem dL_isSo_644 : decode cL_isSo 644 = .ok (.iconst 0, 1) := by decide +kernel
theorem dL_isSo_645 : decode cL_isSo 645 = .ok (.istore 19, 2) := by decide +kernel
theorem dL_isSo_647 : decode cL_isSo 647 = .ok (.iload 19, 2) := by decide +kernel
theorem dL_isSo_649 : decode cL_isSo 649 = .ok (.iload 18, 2) := by decide +kernel
theorem dL_isSo_651 : decode cL_isSo 651 = .ok (.if_icmp .ge 52, 3) := by decide +kernel
theorem dL_isSo_654 : decode cL_isSo 654 = .ok (.iload 9, 2) := by decide +kernel
theorem dL_isSo_656 : decode cL_isSo 656 = .ok (.ifCond .eq 38, 3) := by decide +kernel
theorem dL_isSo_659 : decode cL_isSo 659 = .ok (.aload_n 0, 1) := by decide +kernel
theorem dL_isSo_660 : decode cL_isSo 660 = .ok (.iload 12, 2) := by decide +kernel
theorem dL_isSo_662 : decode cL_isSo 662 = .ok (.iload 16, 2) := by decide +kernel
theorem dL_isSo_664 : decode cL_isSo 664 = .ok (.iload 19, 2) := by decide +kernel
theorem dL_isSo_666 : decode cL_isSo 666 = .ok (.invokevirtual 50, 3) := by decide +kernel
theorem dL_isSo_669 : decode cL_isSo 669 = .ok (.aload 17, 2) := by decide +kernel
theorem dL_isSo_671 : decode cL_isSo 671 = .ok (.bipush 13, 2) := by decide +kernel
theorem dL_isSo_673 : decode cL_isSo 673 = .ok (.iload 12, 2) := by decide +kernel
theorem dL_isSo_675 : decode cL_isSo 675 = .ok (.iconst 1, 1) := by decide +kernel
theorem dL_isSo_676 : decode cL_isSo 676 = .ok (.isub, 1) := by decide +kernel
theorem dL_isSo_677 : decode cL_isSo 677 = .ok (.imul, 1) := by decide +kernel
theorem dL_isSo_678 : decode cL_isSo 678 = .ok (.iconst 1, 1) := by decide +kernel
theorem dL_isSo_679 : decode cL_isSo 679 = .ok (.iadd, 1) := by decide +kernel
theorem dL_isSo_680 : decode cL_isSo 680 = .ok (.iload 19, 2) := by decide +kernel
theorem dL_isSo_682 : decode cL_isSo 682 = .ok (.iadd, 1) := by decide +kernel
theorem dL_isSo_683 : decode cL_isSo 683 = .ok (.iaload, 1) := by decide +kernel
theorem dL_isSo_684 : decode cL_isSo 684 = .ok (.invokestatic 47, 3) := by decide +kernel
theorem dL_isSo_687 : decode cL_isSo 687 = .ok (.if_icmp .ne 7, 3) := by decide +kernel
theorem dL_isSo_690 : decode cL_isSo 690 = .ok (.iconst 1, 1) := by decide +kernel
theorem dL_isSo_691 : decode cL_isSo 691 = .ok (.goto 4, 3) := by decide +kernel
theorem dL_isSo_694 : decode cL_isSo 694 = .ok (.iconst 0, 1) := by decide +kernel
theorem dL_isSo_695 : decode cL_isSo 695 = .ok (.istore 9, 2) := by decide +kernel
theorem dL_isSo_697 : decode cL_isSo 697 = .ok (.iinc 19 1, 3) := by decide +kernel
theorem dL_isSo_700 : decode cL_isSo 700 = .ok (.goto (-53), 3) := by decide +kernel
theorem dL_isSo_703 : decode cL_isSo 703 = .ok (.iinc 16 1, 3) := by decide +kernel
theorem dL_isSo_706 : decode cL_isSo 706 = .ok (.goto (-140), 3) := by decide +kernel
theorem dL_isSo_709 : decode cL_isSo 709 = .ok (.iinc 12 1, 3) := by decide +kernel
theorem dL_isSo_712 : decode cL_isSo 712 = .ok (.goto (-583), 3) := by decide +kernel
theorem dL_isSo_715 : decode cL_isSo 715 = .ok (.iload 9, 2) := by decide +kernel
theorem dL_isSo_717 : decode cL_isSo 717 = .ok (.ifCond .eq 16, 3) := by decide +kernel
theorem dL_isSo_720 : decode cL_isSo 720 = .ok (.aload_n 0, 1) := by decide +kernel
theorem dL_isSo_721 : decode cL_isSo 721 = .ok (.invokevirtual 53, 3) := by decide +kernel
theorem dL_isSo_724 : decode cL_isSo 724 = .ok (.iload 11, 2) := by decide +kernel
theorem dL_isSo_726 : decode cL_isSo 726 = .ok (.if_icmp .ne 7, 3) := by decide +kernel
theorem dL_isSo_729 : decode cL_isSo 729 = .ok (.iconst 1, 1) := by decide +kernel
theorem dL_isSo_730 : decode cL_isSo 730 = .ok (.goto 4, 3) := by decide +kernel
theorem dL_isSo_733 : decode cL_isSo 733 = .ok (.iconst 0, 1) := by decide +kernel
theorem dL_isSo_734 : decode cL_isSo 734 = .ok (.ireturn, 1) := by decide +kernel
set_option maxRecDepth 20000 in
theorem ggL_ask_L_arrive : GoodIn wsL_ask wsL_arrive := goodIn_r _ [5, 6, 7, 4, 8, 9, 10, 11, 1, 12, 13, 14, 15, 16, 17] (by decide +kernel) (by decide +kernel)
set_option maxRecDepth 20000 in
theorem gL_ask_L_arrive : GoodIn wsL_ask (va_wsS RL 57 yL_arrive wsL_arrive) := goodIn_app (goodIn_of _ (by decide +kernel)) ggL_ask_L_arrive
theorem dL_ask_0 : decode cL_ask 0 = .ok (.bipush 8, 2) := by decide +kernel
theorem dL_ask_2 : decode cL_ask 2 = .ok (.newarray .int, 2) := by decide +kernel
theorem dL_ask_4 : decode cL_ask 4 = .ok (.astore 8, 2) := by decide +kernel
theorem dL_ask_6 : decode cL_ask 6 = .ok (.iconst 0, 1) := by decide +kernel
theorem dL_ask_7 : decode cL_ask 7 = .ok (.istore 9, 2) := by decide +kernel
theorem dL_ask_9 : decode cL_ask 9 = .ok (.iload 7, 2) := by decide +kernel
theorem dL_ask_11 : decode cL_ask 11 = .ok (.istore 10, 2) := by decide +kernel
theorem dL_ask_13 : decode cL_ask 13 = .ok (.iload 10, 2) := by decide +kernel
theorem dL_ask_15 : decode cL_ask 15 = .ok (.ifCond .le 25, 3) := by decide +kernel
theorem dL_ask_18 : decode cL_ask 18 = .ok (.aload 8, 2) := by decide +kernel
theorem dL_ask_20 : decode cL_ask 20 = .ok (.iload 9, 2) := by decide +kernel
theorem dL_ask_22 : decode cL_ask 22 = .ok (.iload 10, 2) := by decide +kernel
theorem dL_ask_24 : decode cL_ask 24 = .ok (.iastore, 1) := by decide +kernel
theorem dL_ask_25 : decode cL_ask 25 = .ok (.iinc 9 1, 3) := by decide +kernel
theorem dL_ask_28 : decode cL_ask 28 = .ok (.aload_n 0, 1) := by decide +kernel
theorem dL_ask_29 : decode cL_ask 29 = .ok (.bipush 8, 2) := by decide +kernel
theorem dL_ask_31 : decode cL_ask 31 = .ok (.iload 10, 2) := by decide +kernel
theorem dL_ask_33 : decode cL_ask 33 = .ok (.iadd, 1) := by decide +kernel
theorem dL_ask_34 : decode cL_ask 34 = .ok (.iaload, 1) := by decide +kernel
theorem dL_ask_35 : decode cL_ask 35 = .ok (.istore 10, 2) := by decide +kernel
theorem dL_ask_37 : decode cL_ask 37 = .ok (.goto (-24), 3) := by decide +kernel
theorem dL_ask_40 : decode cL_ask 40 = .ok (.iconst 0, 1) := by decide +kernel
theorem dL_ask_41 : decode cL_ask 41 = .ok (.istore 10, 2) := by decide +kernel
theorem dL_ask_43 : decode cL_ask 43 = .ok (.aload_n 0, 1) := by decide +kernel
theorem dL_ask_44 : decode cL_ask 44 = .ok (.bipush 7, 2) := by decide +kernel
theorem dL_ask_46 : decode cL_ask 46 = .ok (.iconst 0, 1) := by decide +kernel
theorem dL_ask_47 : decode cL_ask 47 = .ok (.iastore, 1) := by decide +kernel
theorem dL_ask_48 : decode cL_ask 48 = .ok (.iload 9, 2) := by decide +kernel
theorem dL_ask_50 : decode cL_ask 50 = .ok (.iconst 1, 1) := by decide +kernel
theorem dL_ask_51 : decode cL_ask 51 = .ok (.isub, 1) := by decide +kernel
theorem dL_ask_52 : decode cL_ask 52 = .ok (.istore 11, 2) := by decide +kernel
theorem dL_ask_54 : decode cL_ask 54 = .ok (.iload 11, 2) := by decide +kernel
theorem dL_ask_56 : decode cL_ask 56 = .ok (.ifCond .lt 181, 3) := by decide +kernel
theorem dL_ask_59 : decode cL_ask 59 = .ok (.aload 8, 2) := by decide +kernel
theorem dL_ask_61 : decode cL_ask 61 = .ok (.iload 11, 2) := by decide +kernel
theorem dL_ask_63 : decode cL_ask 63 = .ok (.iaload, 1) := by decide +kernel
theorem dL_ask_64 : decode cL_ask 64 = .ok (.istore 12, 2) := by decide +kernel
theorem dL_ask_66 : decode cL_ask 66 = .ok (.aload_n 0, 1) := by decide +kernel
theorem dL_ask_67 : decode cL_ask 67 = .ok (.bipush 8, 2) := by decide +kernel
theorem dL_ask_69 : decode cL_ask 69 = .ok (.iload 12, 2) := by decide +kernel
theorem dL_ask_71 : decode cL_ask 71 = .ok (.iadd, 1) := by decide +kernel
theorem dL_ask_72 : decode cL_ask 72 = .ok (.iaload, 1) := by decide +kernel
theorem dL_ask_73 : decode cL_ask 73 = .ok (.istore 13, 2) := by decide +kernel
theorem dL_ask_75 : decode cL_ask 75 = .ok (.iconst 0, 1) := by decide +kernel
theorem dL_ask_76 : decode cL_ask 76 = .ok (.istore 10, 2) := by decide +kernel
theorem dL_ask_78 : decode cL_ask 78 = .ok (.iconst 0, 1) := by decide +kernel
theorem dL_ask_79 : decode cL_ask 79 = .ok (.istore 14, 2) := by decide +kernel
theorem dL_ask_81 : decode cL_ask 81 = .ok (.iload 14, 2) := by decide +kernel
theorem dL_ask_83 : decode cL_ask 83 = .ok (.bipush 48, 2) := by decide +kernel
theorem dL_ask_85 : decode cL_ask 85 = .ok (.if_icmp .ge 146, 3) := by decide +kernel
theorem dL_ask_88 : decode cL_ask 88 = .ok (.iload 14, 2) := by decide +kernel
theorem dL_ask_90 : decode cL_ask 90 = .ok (.bipush 12, 2) := by decide +kernel
theorem dL_ask_92 : decode cL_ask 92 = .ok (.idiv, 1) := by decide +kernel
theorem dL_ask_93 : decode cL_ask 93 = .ok (.istore 15, 2) := by decide +kernel
theorem dL_ask_95 : decode cL_ask 95 = .ok (.iload 14, 2) := by decide +kernel
theorem dL_ask_97 : decode cL_ask 97 = .ok (.bipush 12, 2) := by decide +kernel
theorem dL_ask_99 : decode cL_ask 99 = .ok (.irem, 1) := by decide +kernel
theorem dL_ask_100 : decode cL_ask 100 = .ok (.iconst 1, 1) := by decide +kernel
theorem dL_ask_101 : decode cL_ask 101 = .ok (.iadd, 1) := by decide +kernel
theorem dL_ask_102 : decode cL_ask 102 = .ok (.istore 16, 2) := by decide +kernel
theorem dL_ask_104 : decode cL_ask 104 = .ok (.aload_n 1, 1) := by decide +kernel
theorem dL_ask_105 : decode cL_ask 105 = .ok (.iconst 4, 1) := by decide +kernel
theorem dL_ask_106 : decode cL_ask 106 = .ok (.iload 12, 2) := by decide +kernel
theorem dL_ask_108 : decode cL_ask 108 = .ok (.imul, 1) := by decide +kernel
theorem dL_ask_109 : decode cL_ask 109 = .ok (.iload 15, 2) := by decide +kernel
theorem dL_ask_111 : decode cL_ask 111 = .ok (.iadd, 1) := by decide +kernel
theorem dL_ask_112 : decode cL_ask 112 = .ok (.iaload, 1) := by decide +kernel
theorem dL_ask_113 : decode cL_ask 113 = .ok (.iload 16, 2) := by decide +kernel
theorem dL_ask_115 : decode cL_ask 115 = .ok (.ishr, 1) := by decide +kernel
theorem dL_ask_116 : decode cL_ask 116 = .ok (.ifCond .le 24, 3) := by decide +kernel
theorem dL_ask_119 : decode cL_ask 119 = .ok (.aload_n 1, 1) := by decide +kernel
theorem dL_ask_120 : decode cL_ask 120 = .ok (.iconst 4, 1) := by decide +kernel
theorem dL_ask_121 : decode cL_ask 121 = .ok (.iload 12, 2) := by decide +kernel
theorem dL_ask_123 : decode cL_ask 123 = .ok (.imul, 1) := by decide +kernel
theorem dL_ask_124 : decode cL_ask 124 = .ok (.iload 15, 2) := by decide +kernel
theorem dL_ask_126 : decode cL_ask 126 = .ok (.iadd, 1) := by decide +kernel
theorem dL_ask_127 : decode cL_ask 127 = .ok (.iaload, 1) := by decide +kernel
theorem dL_ask_128 : decode cL_ask 128 = .ok (.iload 16, 2) := by decide +kernel
theorem dL_ask_130 : decode cL_ask 130 = .ok (.ishr, 1) := by decide +kernel
theorem dL_ask_131 : decode cL_ask 131 = .ok (.iconst 1, 1) := by decide +kernel
theorem dL_ask_132 : decode cL_ask 132 = .ok (.iand, 1) := by decide +kernel
theorem dL_ask_133 : decode cL_ask 133 = .ok (.ifCond .ne 7, 3) := by decide +kernel
theorem dL_ask_136 : decode cL_ask 136 = .ok (.iconst 1, 1) := by decide +kernel
