theorem dX5_rangesWith_9 : decode cX5_rangesWith 9 = .ok (.if_icmp .ge 43, 3) := by decide +kernel
theorem dX5_rangesWith_12 : decode cX5_rangesWith 12 = .ok (.aload_n 0, 1) := by decide +kernel
theorem dX5_rangesWith_13 : decode cX5_rangesWith 13 = .ok (.iload_n 1, 1) := by decide +kernel
theorem dX5_rangesWith_14 : decode cX5_rangesWith 14 = .ok (.iload 5, 2) := by decide +kernel
theorem dX5_rangesWith_16 : decode cX5_rangesWith 16 = .ok (.invokevirtual 96, 3) := by decide +kernel
theorem dX5_rangesWith_19 : decode cX5_rangesWith 19 = .ok (.istore 6, 2) := by decide +kernel
theorem dX5_rangesWith_21 : decode cX5_rangesWith 21 = .ok (.iload 4, 2) := by decide +kernel
theorem dX5_rangesWith_23 : decode cX5_rangesWith 23 = .ok (.iload 5, 2) := by decide +kernel
theorem dX5_rangesWith_25 : decode cX5_rangesWith 25 = .ok (.iload_n 2, 1) := by decide +kernel
theorem dX5_rangesWith_26 : decode cX5_rangesWith 26 = .ok (.if_icmp .ne 12, 3) := by decide +kernel
theorem dX5_rangesWith_29 : decode cX5_rangesWith 29 = .ok (.iload 6, 2) := by decide +kernel
theorem dX5_rangesWith_31 : decode cX5_rangesWith 31 = .ok (.iload_n 3, 1) := by decide +kernel
theorem dX5_rangesWith_32 : decode cX5_rangesWith 32 = .ok (.invokestatic 105, 3) := by decide +kernel
theorem dX5_rangesWith_35 : decode cX5_rangesWith 35 = .ok (.goto 5, 3) := by decide +kernel
theorem dX5_rangesWith_38 : decode cX5_rangesWith 38 = .ok (.iload 6, 2) := by decide +kernel
theorem dX5_rangesWith_40 : decode cX5_rangesWith 40 = .ok (.invokestatic 114, 3) := by decide +kernel
theorem dX5_rangesWith_43 : decode cX5_rangesWith 43 = .ok (.iadd, 1) := by decide +kernel
theorem dX5_rangesWith_44 : decode cX5_rangesWith 44 = .ok (.istore 4, 2) := by decide +kernel
theorem dX5_rangesWith_46 : decode cX5_rangesWith 46 = .ok (.iinc 5 1, 3) := by decide +kernel
theorem dX5_rangesWith_49 : decode cX5_rangesWith 49 = .ok (.goto (-43), 3) := by decide +kernel
theorem dX5_rangesWith_52 : decode cX5_rangesWith 52 = .ok (.iload 4, 2) := by decide +kernel
theorem dX5_rangesWith_54 : decode cX5_rangesWith 54 = .ok (.ireturn, 1) := by decide +kernel
theorem dX5_causeOf_0 : decode cX5_causeOf 0 = .ok (.iload_n 1, 1) := by decide +kernel
theorem dX5_causeOf_1 : decode cX5_causeOf 1 = .ok (.bipush 24, 2) := by decide +kernel
theorem dX5_causeOf_3 : decode cX5_causeOf 3 = .ok (.imul, 1) := by decide +kernel
theorem dX5_causeOf_4 : decode cX5_causeOf 4 = .ok (.iload_n 2, 1) := by decide +kernel
theorem dX5_causeOf_5 : decode cX5_causeOf 5 = .ok (.iadd, 1) := by decide +kernel
theorem dX5_causeOf_6 : decode cX5_causeOf 6 = .ok (.iconst 1, 1) := by decide +kernel
theorem dX5_causeOf_7 : decode cX5_causeOf 7 = .ok (.isub, 1) := by decide +kernel
theorem dX5_causeOf_8 : decode cX5_causeOf 8 = .ok (.iconst 4, 1) := by decide +kernel
theorem dX5_causeOf_9 : decode cX5_causeOf 9 = .ok (.imul, 1) := by decide +kernel
theorem dX5_causeOf_10 : decode cX5_causeOf 10 = .ok (.iload_n 3, 1) := by decide +kernel
theorem dX5_causeOf_11 : decode cX5_causeOf 11 = .ok (.iadd, 1) := by decide +kernel
theorem dX5_causeOf_12 : decode cX5_causeOf 12 = .ok (.istore 4, 2) := by decide +kernel
theorem dX5_causeOf_14 : decode cX5_causeOf 14 = .ok (.iload 4, 2) := by decide +kernel
theorem dX5_causeOf_16 : decode cX5_causeOf 16 = .ok (.ifCond .lt 23, 3) := by decide +kernel
theorem dX5_causeOf_19 : decode cX5_causeOf 19 = .ok (.iload 4, 2) := by decide +kernel
theorem dX5_causeOf_21 : decode cX5_causeOf 21 = .ok (.aload_n 0, 1) := by decide +kernel
theorem dX5_causeOf_22 : decode cX5_causeOf 22 = .ok (.getfield 34, 3) := by decide +kernel
theorem dX5_causeOf_25 : decode cX5_causeOf 25 = .ok (.arraylength, 1) := by decide +kernel
theorem dX5_causeOf_26 : decode cX5_causeOf 26 = .ok (.if_icmp .ge 13, 3) := by decide +kernel
theorem dX5_causeOf_29 : decode cX5_causeOf 29 = .ok (.aload_n 0, 1) := by decide +kernel
theorem dX5_causeOf_30 : decode cX5_causeOf 30 = .ok (.getfield 34, 3) := by decide +kernel
theorem dX5_causeOf_33 : decode cX5_causeOf 33 = .ok (.iload 4, 2) := by decide +kernel
theorem dX5_causeOf_35 : decode cX5_causeOf 35 = .ok (.iaload, 1) := by decide +kernel
theorem dX5_causeOf_36 : decode cX5_causeOf 36 = .ok (.goto 4, 3) := by decide +kernel
theorem dX5_causeOf_39 : decode cX5_causeOf 39 = .ok (.iconst 0, 1) := by decide +kernel
theorem dX5_causeOf_40 : decode cX5_causeOf 40 = .ok (.ireturn, 1) := by decide +kernel
theorem dX5_hasCausesIn_0 : decode cX5_hasCausesIn 0 = .ok (.iload_n 1, 1) := by decide +kernel
theorem dX5_hasCausesIn_1 : decode cX5_hasCausesIn 1 = .ok (.bipush 24, 2) := by decide +kernel
theorem dX5_hasCausesIn_3 : decode cX5_hasCausesIn 3 = .ok (.imul, 1) := by decide +kernel
theorem dX5_hasCausesIn_4 : decode cX5_hasCausesIn 4 = .ok (.iload_n 2, 1) := by decide +kernel
theorem dX5_hasCausesIn_5 : decode cX5_hasCausesIn 5 = .ok (.iadd, 1) := by decide +kernel
theorem dX5_hasCausesIn_6 : decode cX5_hasCausesIn 6 = .ok (.iconst 1, 1) := by decide +kernel
theorem dX5_hasCausesIn_7 : decode cX5_hasCausesIn 7 = .ok (.isub, 1) := by decide +kernel
theorem dX5_hasCausesIn_8 : decode cX5_hasCausesIn 8 = .ok (.iconst 4, 1) := by decide +kernel
theorem dX5_hasCausesIn_9 : decode cX5_hasCausesIn 9 = .ok (.imul, 1) := by decide +kernel
theorem dX5_hasCausesIn_10 : decode cX5_hasCausesIn 10 = .ok (.istore 4, 2) := by decide +kernel
theorem dX5_hasCausesIn_12 : decode cX5_hasCausesIn 12 = .ok (.iconst 0, 1) := by decide +kernel
theorem dX5_hasCausesIn_13 : decode cX5_hasCausesIn 13 = .ok (.istore 5, 2) := by decide +kernel
theorem dX5_hasCausesIn_15 : decode cX5_hasCausesIn 15 = .ok (.iload 5, 2) := by decide +kernel
theorem dX5_hasCausesIn_17 : decode cX5_hasCausesIn 17 = .ok (.iconst 4, 1) := by decide +kernel
theorem dX5_hasCausesIn_18 : decode cX5_hasCausesIn 18 = .ok (.if_icmp .ge 54, 3) := by decide +kernel
theorem dX5_hasCausesIn_21 : decode cX5_hasCausesIn 21 = .ok (.iload 4, 2) := by decide +kernel
theorem dX5_hasCausesIn_23 : decode cX5_hasCausesIn 23 = .ok (.iload 5, 2) := by decide +kernel
theorem dX5_hasCausesIn_25 : decode cX5_hasCausesIn 25 = .ok (.iadd, 1) := by decide +kernel
theorem dX5_hasCausesIn_26 : decode cX5_hasCausesIn 26 = .ok (.istore 6, 2) := by decide +kernel
theorem dX5_hasCausesIn_28 : decode cX5_hasCausesIn 28 = .ok (.iload 6, 2) := by decide +kernel
theorem dX5_hasCausesIn_30 : decode cX5_hasCausesIn 30 = .ok (.ifCond .lt 34, 3) := by decide +kernel
theorem dX5_hasCausesIn_33 : decode cX5_hasCausesIn 33 = .ok (.iload 6, 2) := by decide +kernel
theorem dX5_hasCausesIn_35 : decode cX5_hasCausesIn 35 = .ok (.aload_n 0, 1) := by decide +kernel
theorem dX5_hasCausesIn_36 : decode cX5_hasCausesIn 36 = .ok (.getfield 34, 3) := by decide +kernel
theorem dX5_hasCausesIn_39 : decode cX5_hasCausesIn 39 = .ok (.arraylength, 1) := by decide +kernel
theorem dX5_hasCausesIn_40 : decode cX5_hasCausesIn 40 = .ok (.if_icmp .ge 24, 3) := by decide +kernel
theorem dX5_hasCausesIn_43 : decode cX5_hasCausesIn 43 = .ok (.iload 5, 2) := by decide +kernel
theorem dX5_hasCausesIn_45 : decode cX5_hasCausesIn 45 = .ok (.aload_n 3, 1) := by decide +kernel
theorem dX5_hasCausesIn_46 : decode cX5_hasCausesIn 46 = .ok (.arraylength, 1) := by decide +kernel
theorem dX5_hasCausesIn_47 : decode cX5_hasCausesIn 47 = .ok (.if_icmp .ge 17, 3) := by decide +kernel
theorem dX5_hasCausesIn_50 : decode cX5_hasCausesIn 50 = .ok (.aload_n 0, 1) := by decide +kernel
theorem dX5_hasCausesIn_51 : decode cX5_hasCausesIn 51 = .ok (.getfield 34, 3) := by decide +kernel
theorem dX5_hasCausesIn_54 : decode cX5_hasCausesIn 54 = .ok (.iload 6, 2) := by decide +kernel
theorem dX5_hasCausesIn_56 : decode cX5_hasCausesIn 56 = .ok (.iaload, 1) := by decide +kernel
theorem dX5_hasCausesIn_57 : decode cX5_hasCausesIn 57 = .ok (.aload_n 3, 1) := by decide +kernel
theorem dX5_hasCausesIn_58 : decode cX5_hasCausesIn 58 = .ok (.iload 5, 2) := by decide +kernel
theorem dX5_hasCausesIn_60 : decode cX5_hasCausesIn 60 = .ok (.iaload, 1) := by decide +kernel
theorem dX5_hasCausesIn_61 : decode cX5_hasCausesIn 61 = .ok (.if_icmp .le 5, 3) := by decide +kernel
theorem dX5_hasCausesIn_64 : decode cX5_hasCausesIn 64 = .ok (.iconst 0, 1) := by decide +kernel
theorem dX5_hasCausesIn_65 : decode cX5_hasCausesIn 65 = .ok (.ireturn, 1) := by decide +kernel
theorem dX5_hasCausesIn_66 : decode cX5_hasCausesIn 66 = .ok (.iinc 5 1, 3) := by decide +kernel
theorem dX5_hasCausesIn_69 : decode cX5_hasCausesIn 69 = .ok (.goto (-54), 3) := by decide +kernel
theorem dX5_hasCausesIn_72 : decode cX5_hasCausesIn 72 = .ok (.iconst 1, 1) := by decide +kernel
theorem dX5_hasCausesIn_73 : decode cX5_hasCausesIn 73 = .ok (.ireturn, 1) := by decide +kernel
theorem dX5_setCause_0 : decode cX5_setCause 0 = .ok (.iload_n 1, 1) := by decide +kernel
theorem dX5_setCause_1 : decode cX5_setCause 1 = .ok (.bipush 24, 2) := by decide +kernel
theorem dX5_setCause_3 : decode cX5_setCause 3 = .ok (.imul, 1) := by decide +kernel
theorem dX5_setCause_4 : decode cX5_setCause 4 = .ok (.iload_n 2, 1) := by decide +kernel
theorem dX5_setCause_5 : decode cX5_setCause 5 = .ok (.iadd, 1) := by decide +kernel
theorem dX5_setCause_6 : decode cX5_setCause 6 = .ok (.iconst 1, 1) := by decide +kernel
theorem dX5_setCause_7 : decode cX5_setCause 7 = .ok (.isub, 1) := by decide +kernel
theorem dX5_setCause_8 : decode cX5_setCause 8 = .ok (.iconst 4, 1) := by decide +kernel
theorem dX5_setCause_9 : decode cX5_setCause 9 = .ok (.imul, 1) := by decide +kernel
theorem dX5_setCause_10 : decode cX5_setCause 10 = .ok (.iload_n 3, 1) := by decide +kernel
theorem dX5_setCause_11 : decode cX5_setCause 11 = .ok (.iadd, 1) := by decide +kernel
theorem dX5_setCause_12 : decode cX5_setCause 12 = .ok (.istore 5, 2) := by decide +kernel
theorem dX5_setCause_14 : decode cX5_setCause 14 = .ok (.iload 5, 2) := by decide +kernel
theorem dX5_setCause_16 : decode cX5_setCause 16 = .ok (.ifCond .lt 22, 3) := by decide +kernel
theorem dX5_setCause_19 : decode cX5_setCause 19 = .ok (.iload 5, 2) := by decide +kernel
theorem dX5_setCause_21 : decode cX5_setCause 21 = .ok (.aload_n 0, 1) := by decide +kernel
theorem dX5_setCause_22 : decode cX5_setCause 22 = .ok (.getfield 34, 3) := by decide +kernel
theorem dX5_setCause_25 : decode cX5_setCause 25 = .ok (.arraylength, 1) := by decide +kernel
theorem dX5_setCause_26 : decode cX5_setCause 26 = .ok (.if_icmp .ge 12, 3) := by decide +kernel
theorem dX5_setCause_29 : decode cX5_setCause 29 = .ok (.aload_n 0, 1) := by decide +kernel
theorem dX5_setCause_30 : decode cX5_setCause 30 = .ok (.getfield 34, 3) := by decide +kernel
theorem dX5_setCause_33 : decode cX5_setCause 33 = .ok (.iload 5, 2) := by decide +kernel
theorem dX5_setCause_35 : decode cX5_setCause 35 = .ok (.iload 4, 2) := by decide +kernel
theorem dX5_setCause_37 : decode cX5_setCause 37 = .ok (.iastore, 1) := by decide +kernel
theorem dX5_setCause_38 : decode cX5_setCause 38 = .ok (.return_, 1) := by decide +kernel
set_option maxRecDepth 20000 in
theorem ggX5_contentsOf_X5_hasProxy : GoodIn wsX5_contentsOf wsX5_hasProxy := goodIn_r _ [7, 8, 9, 10, 11, 12, 13, 14, 15, 16, 17, 18, 19, 20, 21, 22, 23, 24] (by decide +kernel) (by decide +kernel)
set_option maxRecDepth 20000 in
theorem gX5_contentsOf_X5_hasProxy : GoodIn wsX5_contentsOf (wsV RX5 117 RX5 yX5_hasProxy wsX5_hasProxy) := goodIn_app (goodIn_of _ (by decide +kernel)) ggX5_contentsOf_X5_hasProxy
theorem dX5_contentsOf_0 : decode cX5_contentsOf 0 = .ok (.aload_n 0, 1) := by decide +kernel
theorem dX5_contentsOf_1 : decode cX5_contentsOf 1 = .ok (.iload_n 1, 1) := by decide +kernel
theorem dX5_contentsOf_2 : decode cX5_contentsOf 2 = .ok (.invokevirtual 117, 3) := by decide +kernel
theorem dX5_contentsOf_5 : decode cX5_contentsOf 5 = .ok (.ifCond .eq 21, 3) := by decide +kernel
theorem dX5_contentsOf_8 : decode cX5_contentsOf 8 = .ok (.iload_n 1, 1) := by decide +kernel
theorem dX5_contentsOf_9 : decode cX5_contentsOf 9 = .ok (.aload_n 0, 1) := by decide +kernel
theorem dX5_contentsOf_10 : decode cX5_contentsOf 10 = .ok (.getfield 39, 3) := by decide +kernel
theorem dX5_contentsOf_13 : decode cX5_contentsOf 13 = .ok (.arraylength, 1) := by decide +kernel
theorem dX5_contentsOf_14 : decode cX5_contentsOf 14 = .ok (.if_icmp .ge 12, 3) := by decide +kernel
theorem dX5_contentsOf_17 : decode cX5_contentsOf 17 = .ok (.aload_n 0, 1) := by decide +kernel
theorem dX5_contentsOf_18 : decode cX5_contentsOf 18 = .ok (.getfield 39, 3) := by decide +kernel
theorem dX5_contentsOf_21 : decode cX5_contentsOf 21 = .ok (.iload_n 1, 1) := by decide +kernel
theorem dX5_contentsOf_22 : decode cX5_contentsOf 22 = .ok (.aaload, 1) := by decide +kernel
theorem dX5_contentsOf_23 : decode cX5_contentsOf 23 = .ok (.goto 7, 3) := by decide +kernel
theorem dX5_contentsOf_26 : decode cX5_contentsOf 26 = .ok (.aload_n 0, 1) := by decide +kernel
theorem dX5_contentsOf_27 : decode cX5_contentsOf 27 = .ok (.getfield 52, 3) := by decide +kernel
theorem dX5_contentsOf_30 : decode cX5_contentsOf 30 = .ok (.areturn, 1) := by decide +kernel
set_option maxRecDepth 20000 in
theorem ggX5_keeps_X5_contentsOf : GoodIn wsX5_keeps wsX5_contentsOf := goodIn_r _ [5, 6, 7, 8, 9, 10, 4, 11, 12, 20, 21, 22, 23, 24, 25, 26, 27, 28, 29, 30, 31, 32, 33, 34, 35] (by decide +kernel) (by decide +kernel)
set_option maxRecDepth 20000 in
theorem gX5_keeps_X5_contentsOf : GoodIn wsX5_keeps (wsV RX5 120 RX5 yX5_contentsOf wsX5_contentsOf) := goodIn_app (goodIn_of _ (by decide +kernel)) ggX5_keeps_X5_contentsOf
set_option maxRecDepth 20000 in
theorem ggX5_keeps_X2_has : GoodIn wsX5_keeps wsX2_has := goodIn_r _ [17, 18, 19, 36, 37] (by decide +kernel) (by decide +kernel)
set_option maxRecDepth 20000 in
theorem gX5_keeps_X2_has : GoodIn wsX5_keeps (wsV RX5 124 RX2 yX2_has wsX2_has) := goodIn_app (goodIn_of _ (by decide +kernel)) ggX5_keeps_X2_has
theorem dX5_keeps_0 : decode cX5_keeps 0 = .ok (.aload_n 0, 1) := by decide +kernel
theorem dX5_keeps_1 : decode cX5_keeps 1 = .ok (.iload_n 1, 1) := by decide +kernel
theorem dX5_keeps_2 : decode cX5_keeps 2 = .ok (.invokevirtual 120, 3) := by decide +kernel
theorem dX5_keeps_5 : decode cX5_keeps 5 = .ok (.iload_n 2, 1) := by decide +kernel
theorem dX5_keeps_6 : decode cX5_keeps 6 = .ok (.invokevirtual 124, 3) := by decide +kernel
theorem dX5_keeps_9 : decode cX5_keeps 9 = .ok (.ireturn, 1) := by decide +kernel
set_option maxRecDepth 20000 in
theorem ggX5_queueOf_X5_hasChild : GoodIn wsX5_queueOf wsX5_hasChild := goodIn_r _ [8, 9, 10, 11, 12, 13, 14, 15, 16, 17, 18, 19, 20, 21, 22, 23, 24, 25] (by decide +kernel) (by decide +kernel)
set_option maxRecDepth 20000 in
theorem gX5_queueOf_X5_hasChild : GoodIn wsX5_queueOf (wsV RX5 78 RX5 yX5_hasChild wsX5_hasChild) := goodIn_app (goodIn_of _ (by decide +kernel)) ggX5_queueOf_X5_hasChild
theorem dX5_queueOf_0 : decode cX5_queueOf 0 = .ok (.aload_n 0, 1) := by decide +kernel
theorem dX5_queueOf_1 : decode cX5_queueOf 1 = .ok (.iload_n 1, 1) := by decide +kernel
theorem dX5_queueOf_2 : decode cX5_queueOf 2 = .ok (.invokevirtual 78, 3) := by decide +kernel
theorem dX5_queueOf_5 : decode cX5_queueOf 5 = .ok (.ifCond .eq 9, 3) := by decide +kernel
theorem dX5_queueOf_8 : decode cX5_queueOf 8 = .ok (.iload_n 1, 1) := by decide +kernel
theorem dX5_queueOf_9 : decode cX5_queueOf 9 = .ok (.bipush 8, 2) := by decide +kernel
theorem dX5_queueOf_11 : decode cX5_queueOf 11 = .ok (.if_icmp .lt 8, 3) := by decide +kernel
theorem dX5_queueOf_14 : decode cX5_queueOf 14 = .ok (.aload_n 0, 1) := by decide +kernel
theorem dX5_queueOf_15 : decode cX5_queueOf 15 = .ok (.getfield 52, 3) := by decide +kernel
theorem dX5_queueOf_18 : decode cX5_queueOf 18 = .ok (.areturn, 1) := by decide +kernel
theorem dX5_queueOf_19 : decode cX5_queueOf 19 = .ok (.iload_n 2, 1) := by decide +kernel
theorem dX5_queueOf_20 : decode cX5_queueOf 20 = .ok (.ifCond .ne 12, 3) := by decide +kernel
theorem dX5_queueOf_23 : decode cX5_queueOf 23 = .ok (.aload_n 0, 1) := by decide +kernel
theorem dX5_queueOf_24 : decode cX5_queueOf 24 = .ok (.getfield 43, 3) := by decide +kernel
theorem dX5_queueOf_27 : decode cX5_queueOf 27 = .ok (.iload_n 1, 1) := by decide +kernel
theorem dX5_queueOf_28 : decode cX5_queueOf 28 = .ok (.aaload, 1) := by decide +kernel
theorem dX5_queueOf_29 : decode cX5_queueOf 29 = .ok (.goto 9, 3) := by decide +kernel
theorem dX5_queueOf_32 : decode cX5_queueOf 32 = .ok (.aload_n 0, 1) := by decide +kernel
theorem dX5_queueOf_33 : decode cX5_queueOf 33 = .ok (.getfield 46, 3) := by decide +kernel
theorem dX5_queueOf_36 : decode cX5_queueOf 36 = .ok (.iload_n 1, 1) := by decide +kernel
theorem dX5_queueOf_37 : decode cX5_queueOf 37 = .ok (.aaload, 1) := by decide +kernel
theorem dX5_queueOf_38 : decode cX5_queueOf 38 = .ok (.areturn, 1) := by decide +kernel
theorem dX6_contains_0 : decode cX6_contains 0 = .ok (.iload_n 1, 1) := by decide +kernel
theorem dX6_contains_1 : decode cX6_contains 1 = .ok (.iconst 1, 1) := by decide +kernel
theorem dX6_contains_2 : decode cX6_contains 2 = .ok (.if_icmp .lt 23, 3) := by decide +kernel
theorem dX6_contains_5 : decode cX6_contains 5 = .ok (.iload_n 1, 1) := by decide +kernel
theorem dX6_contains_6 : decode cX6_contains 6 = .ok (.bipush 24, 2) := by decide +kernel
theorem dX6_contains_8 : decode cX6_contains 8 = .ok (.if_icmp .gt 17, 3) := by decide +kernel
theorem dX6_contains_11 : decode cX6_contains 11 = .ok (.iload_n 0, 1) := by decide +kernel
theorem dX6_contains_12 : decode cX6_contains 12 = .ok (.iload_n 1, 1) := by decide +kernel
theorem dX6_contains_13 : decode cX6_contains 13 = .ok (.iconst 1, 1) := by decide +kernel
theorem dX6_contains_14 : decode cX6_contains 14 = .ok (.isub, 1) := by decide +kernel
theorem dX6_contains_15 : decode cX6_contains 15 = .ok (.ishr, 1) := by decide +kernel
theorem dX6_contains_16 : decode cX6_contains 16 = .ok (.iconst 1, 1) := by decide +kernel
theorem dX6_contains_17 : decode cX6_contains 17 = .ok (.iand, 1) := by decide +kernel
theorem dX6_contains_18 : decode cX6_contains 18 = .ok (.ifCond .eq 7, 3) := by decide +kernel
theorem dX6_contains_21 : decode cX6_contains 21 = .ok (.iconst 1, 1) := by decide +kernel
theorem dX6_contains_22 : decode cX6_contains 22 = .ok (.goto 4, 3) := by decide +kernel
theorem dX6_contains_25 : decode cX6_contains 25 = .ok (.iconst 0, 1) := by decide +kernel
theorem dX6_contains_26 : decode cX6_contains 26 = .ok (.ireturn, 1) := by decide +kernel
theorem dX6_with_0 : decode cX6_with 0 = .ok (.iload_n 1, 1) := by decide +kernel
theorem dX6_with_1 : decode cX6_with 1 = .ok (.iconst 1, 1) := by decide +kernel
theorem dX6_with_2 : decode cX6_with 2 = .ok (.if_icmp .lt 19, 3) := by decide +kernel
theorem dX6_with_5 : decode cX6_with 5 = .ok (.iload_n 1, 1) := by decide +kernel
theorem dX6_with_6 : decode cX6_with 6 = .ok (.bipush 24, 2) := by decide +kernel
theorem dX6_with_8 : decode cX6_with 8 = .ok (.if_icmp .gt 13, 3) := by decide +kernel
theorem dX6_with_11 : decode cX6_with 11 = .ok (.iload_n 0, 1) := by decide +kernel
theorem dX6_with_12 : decode cX6_with 12 = .ok (.iconst 1, 1) := by decide +kernel
theorem dX6_with_13 : decode cX6_with 13 = .ok (.iload_n 1, 1) := by decide +kernel
theorem dX6_with_14 : decode cX6_with 14 = .ok (.iconst 1, 1) := by decide +kernel
theorem dX6_with_15 : decode cX6_with 15 = .ok (.isub, 1) := by decide +kernel
theorem dX6_with_16 : decode cX6_with 16 = .ok (.ishl, 1) := by decide +kernel
theorem dX6_with_17 : decode cX6_with 17 = .ok (.ior, 1) := by decide +kernel
theorem dX6_with_18 : decode cX6_with 18 = .ok (.goto 4, 3) := by decide +kernel
theorem dX6_with_21 : decode cX6_with 21 = .ok (.iload_n 0, 1) := by decide +kernel
theorem dX6_with_22 : decode cX6_with 22 = .ok (.ireturn, 1) := by decide +kernel
set_option maxRecDepth 20000 in
theorem ggX6_sizeOf_J6_bitCount_0f7a4 : GoodIn wsX6_sizeOf wsJ6_bitCount_0f7a4 := goodIn_r _ [4, 5, 6, 7] (by decide +kernel) (by decide +kernel)
set_option maxRecDepth 20000 in
theorem gX6_sizeOf_J6_bitCount_0f7a4 : GoodIn wsX6_sizeOf (va_wsS RX6 9 yJ6_bitCount_0f7a4 wsJ6_bitCount_0f7a4) := goodIn_app (goodIn_of _ (by decide +kernel)) ggX6_sizeOf_J6_bitCount_0f7a4
theorem dX6_sizeOf_0 : decode cX6_sizeOf 0 = .ok (.iload_n 0, 1) := by decide +kernel
theorem dX6_sizeOf_1 : decode cX6_sizeOf 1 = .ok (.invokestatic 9, 3) := by decide +kernel
theorem dX6_sizeOf_4 : decode cX6_sizeOf 4 = .ok (.ireturn, 1) := by decide +kernel
theorem dX6_greatest_0 : decode cX6_greatest 0 = .ok (.bipush 24, 2) := by decide +kernel
theorem dX6_greatest_2 : decode cX6_greatest 2 = .ok (.istore_n 1, 1) := by decide +kernel
theorem dX6_greatest_3 : decode cX6_greatest 3 = .ok (.iload_n 1, 1) := by decide +kernel
theorem dX6_greatest_4 : decode cX6_greatest 4 = .ok (.ifCond .le 19, 3) := by decide +kernel
theorem dX6_greatest_7 : decode cX6_greatest 7 = .ok (.iload_n 0, 1) := by decide +kernel
theorem dX6_greatest_8 : decode cX6_greatest 8 = .ok (.iload_n 1, 1) := by decide +kernel
theorem dX6_greatest_9 : decode cX6_greatest 9 = .ok (.iconst 1, 1) := by decide +kernel
theorem dX6_greatest_10 : decode cX6_greatest 10 = .ok (.isub, 1) := by decide +kernel
theorem dX6_greatest_11 : decode cX6_greatest 11 = .ok (.ishr, 1) := by decide +kernel
theorem dX6_greatest_12 : decode cX6_greatest 12 = .ok (.iconst 1, 1) := by decide +kernel
theorem dX6_greatest_13 : decode cX6_greatest 13 = .ok (.iand, 1) := by decide +kernel
theorem dX6_greatest_14 : decode cX6_greatest 14 = .ok (.ifCond .ne 9, 3) := by decide +kernel
theorem dX6_greatest_17 : decode cX6_greatest 17 = .ok (.iinc 1 (-1), 3) := by decide +kernel
theorem dX6_greatest_20 : decode cX6_greatest 20 = .ok (.goto (-17), 3) := by decide +kernel
theorem dX6_greatest_23 : decode cX6_greatest 23 = .ok (.iload_n 1, 1) := by decide +kernel
theorem dX6_greatest_24 : decode cX6_greatest 24 = .ok (.ireturn, 1) := by decide +kernel
theorem dX6_prefixOf_0 : decode cX6_prefixOf 0 = .ok (.iconst 0, 1) := by decide +kernel
theorem dX6_prefixOf_1 : decode cX6_prefixOf 1 = .ok (.istore_n 1, 1) := by decide +kernel
theorem dX6_prefixOf_2 : decode cX6_prefixOf 2 = .ok (.iload_n 1, 1) := by decide +kernel
theorem dX6_prefixOf_3 : decode cX6_prefixOf 3 = .ok (.bipush 24, 2) := by decide +kernel
theorem dX6_prefixOf_5 : decode cX6_prefixOf 5 = .ok (.if_icmp .ge 17, 3) := by decide +kernel
theorem dX6_prefixOf_8 : decode cX6_prefixOf 8 = .ok (.iload_n 0, 1) := by decide +kernel
theorem dX6_prefixOf_9 : decode cX6_prefixOf 9 = .ok (.iload_n 1, 1) := by decide +kernel
theorem dX6_prefixOf_10 : decode cX6_prefixOf 10 = .ok (.ishr, 1) := by decide +kernel
theorem dX6_prefixOf_11 : decode cX6_prefixOf 11 = .ok (.iconst 1, 1) := by decide +kernel
theorem dX6_prefixOf_12 : decode cX6_prefixOf 12 = .ok (.iand, 1) := by decide +kernel
theorem dX6_prefixOf_13 : decode cX6_prefixOf 13 = .ok (.ifCond .eq 9, 3) := by decide +kernel
theorem dX6_prefixOf_16 : decode cX6_prefixOf 16 = .ok (.iinc 1 1, 3) := by decide +kernel
theorem dX6_prefixOf_19 : decode cX6_prefixOf 19 = .ok (.goto (-17), 3) := by decide +kernel
theorem dX6_prefixOf_22 : decode cX6_prefixOf 22 = .ok (.iload_n 1, 1) := by decide +kernel
theorem dX6_prefixOf_23 : decode cX6_prefixOf 23 = .ok (.ireturn, 1) := by decide +kernel
set_option maxRecDepth 20000 in
theorem ggX6_rangesIn_J6_bitCount_0f7a4 : GoodIn wsX6_rangesIn wsJ6_bitCount_0f7a4 := goodIn_r _ [4, 5, 6, 7] (by decide +kernel) (by decide +kernel)
set_option maxRecDepth 20000 in
theorem gX6_rangesIn_J6_bitCount_0f7a4 : GoodIn wsX6_rangesIn (va_wsS RX6 9 yJ6_bitCount_0f7a4 wsJ6_bitCount_0f7a4) := goodIn_app (goodIn_of _ (by decide +kernel)) ggX6_rangesIn_J6_bitCount_0f7a4
theorem dX6_rangesIn_0 : decode cX6_rangesIn 0 = .ok (.iload_n 0, 1) := by decide +kernel
theorem dX6_rangesIn_1 : decode cX6_rangesIn 1 = .ok (.iconst (-1), 1) := by decide +kernel
theorem dX6_rangesIn_2 : decode cX6_rangesIn 2 = .ok (.ixor, 1) := by decide +kernel
theorem dX6_rangesIn_3 : decode cX6_rangesIn 3 = .ok (.iload_n 0, 1) := by decide +kernel
theorem dX6_rangesIn_4 : decode cX6_rangesIn 4 = .ok (.iconst 1, 1) := by decide +kernel
theorem dX6_rangesIn_5 : decode cX6_rangesIn 5 = .ok (.ishr, 1) := by decide +kernel
theorem dX6_rangesIn_6 : decode cX6_rangesIn 6 = .ok (.iand, 1) := by decide +kernel
theorem dX6_rangesIn_7 : decode cX6_rangesIn 7 = .ok (.invokestatic 9, 3) := by decide +kernel
theorem dX6_rangesIn_10 : decode cX6_rangesIn 10 = .ok (.ireturn, 1) := by decide +kernel
set_option maxRecDepth 20000 in
theorem ggX6_exceptionsIn_X6_greatest : GoodIn wsX6_exceptionsIn wsX6_greatest := goodIn_r _ [4] (by decide +kernel) (by decide +kernel)
set_option maxRecDepth 20000 in
theorem gX6_exceptionsIn_X6_greatest : GoodIn wsX6_exceptionsIn (va_wsS RX6 15 yX6_greatest wsX6_greatest) := goodIn_app (goodIn_of _ (by decide +kernel)) ggX6_exceptionsIn_X6_greatest
set_option maxRecDepth 20000 in
theorem ggX6_exceptionsIn_X6_sizeOf : GoodIn wsX6_exceptionsIn wsX6_sizeOf := goodIn_r _ [7, 8, 9, 10, 11, 12, 13, 14] (by decide +kernel) (by decide +kernel)
set_option maxRecDepth 20000 in
theorem gX6_exceptionsIn_X6_sizeOf : GoodIn wsX6_exceptionsIn (va_wsS RX6 20 yX6_sizeOf wsX6_sizeOf) := goodIn_app (goodIn_of _ (by decide +kernel)) ggX6_exceptionsIn_X6_sizeOf
theorem dX6_exceptionsIn_0 : decode cX6_exceptionsIn 0 = .ok (.iload_n 0, 1) := by decide +kernel
theorem dX6_exceptionsIn_1 : decode cX6_exceptionsIn 1 = .ok (.invokestatic 15, 3) := by decide +kernel
theorem dX6_exceptionsIn_4 : decode cX6_exceptionsIn 4 = .ok (.iload_n 0, 1) := by decide +kernel
theorem dX6_exceptionsIn_5 : decode cX6_exceptionsIn 5 = .ok (.invokestatic 20, 3) := by decide +kernel
theorem dX6_exceptionsIn_8 : decode cX6_exceptionsIn 8 = .ok (.isub, 1) := by decide +kernel
theorem dX6_exceptionsIn_9 : decode cX6_exceptionsIn 9 = .ok (.ireturn, 1) := by decide +kernel
set_option maxRecDepth 20000 in
theorem ggX7_init_X5_init : GoodIn wsX7_init wsX5_init := goodIn_r _ [30, 31, 2, 3, 32, 33, 34, 35, 36, 37, 38, 39, 40, 41, 42, 43, 44, 21, 22, 45, 46, 47, 48, 49, 50, 51, 52, 53, 54, 87, 88, 89, 90, 91, 92, 93, 94, 95, 96, 97, 98, 99, 100, 101, 102, 118, 119] (by decide +kernel) (by decide +kernel)
set_option maxRecDepth 20000 in
theorem gX7_init_X5_init : GoodIn wsX7_init (wsX5_init) := ggX7_init_X5_init
set_option maxRecDepth 20000 in
theorem ggX7_init_X0_init : GoodIn wsX7_init wsX0_init := goodIn_r _ [57, 58, 2, 3, 35, 59, 60, 61, 109, 110, 111] (by decide +kernel) (by decide +kernel)
set_option maxRecDepth 20000 in
theorem gX7_init_X0_init : GoodIn wsX7_init (wsX0_init) := ggX7_init_X0_init
set_option maxRecDepth 20000 in
theorem ggX7_init_X3_init : GoodIn wsX7_init wsX3_init := goodIn_r _ [64, 65, 2, 3, 66, 21, 22, 67, 68, 69, 70, 47, 48, 49, 50, 51, 52, 53, 35, 54, 118, 119, 112, 113, 114] (by decide +kernel) (by decide +kernel)
set_option maxRecDepth 20000 in
theorem gX7_init_X3_init : GoodIn wsX7_init (wsX3_init) := ggX7_init_X3_init
set_option maxRecDepth 20000 in
theorem ggX7_init_X1_init : GoodIn wsX7_init wsX1_init := goodIn_r _ [73, 74, 2, 3, 75, 76, 5, 6, 77, 29, 30, 31, 32, 33, 34, 35, 36, 37, 38, 39, 40, 41, 42, 43, 44, 21, 22, 45, 46, 47, 48, 49, 50, 51, 52, 53, 54, 115, 116, 117, 87, 88, 89, 90, 91, 92, 93, 94, 95, 96, 97, 98, 99, 100, 101, 102, 118, 119] (by decide +kernel) (by decide +kernel)
set_option maxRecDepth 20000 in
theorem gX7_init_X1_init : GoodIn wsX7_init (wsX1_init) := ggX7_init_X1_init
set_option maxRecDepth 20000 in
theorem ggX7_init_X2_init : GoodIn wsX7_init wsX2_init := goodIn_r _ [48, 49, 2, 3, 50, 51, 52, 53, 35, 54, 118, 119] (by decide +kernel) (by decide +kernel)
set_option maxRecDepth 20000 in
theorem gX7_init_X2_init : GoodIn wsX7_init (wsX2_init) := ggX7_init_X2_init
set_option maxRecDepth 20000 in
theorem ggX7_init_X4_init : GoodIn wsX7_init wsX4_init := goodIn_r _ [80, 81, 2, 3, 82, 21, 22, 83, 84, 85, 86, 47, 48, 49, 50, 51, 52, 53, 35, 54, 118, 119, 120, 121, 122] (by decide +kernel) (by decide +kernel)
set_option maxRecDepth 20000 in
theorem gX7_init_X4_init_n52 : GoodIn wsX7_init (wsX4_init) := ggX7_init_X4_init
theorem dX7_init_0 : decode cX7_init 0 = .ok (.aload_n 0, 1) := by decide +kernel
theorem dX7_init_1 : decode cX7_init 1 = .ok (.invokespecial 3, 3) := by decide +kernel
theorem dX7_init_4 : decode cX7_init 4 = .ok (.aload_n 0, 1) := by decide +kernel
theorem dX7_init_5 : decode cX7_init 5 = .ok (.new 9, 3) := by decide +kernel
theorem dX7_init_8 : decode cX7_init 8 = .ok (.dup, 1) := by decide +kernel
theorem dX7_init_9 : decode cX7_init 9 = .ok (.invokespecial 11, 3) := by decide +kernel
theorem dX7_init_12 : decode cX7_init 12 = .ok (.putfield 12, 3) := by decide +kernel
theorem dX7_init_15 : decode cX7_init 15 = .ok (.aload_n 0, 1) := by decide +kernel
theorem dX7_init_16 : decode cX7_init 16 = .ok (.new 16, 3) := by decide +kernel
theorem dX7_init_19 : decode cX7_init 19 = .ok (.dup, 1) := by decide +kernel
theorem dX7_init_20 : decode cX7_init 20 = .ok (.aload_n 0, 1) := by decide +kernel
theorem dX7_init_21 : decode cX7_init 21 = .ok (.getfield 12, 3) := by decide +kernel
theorem dX7_init_24 : decode cX7_init 24 = .ok (.invokespecial 18, 3) := by decide +kernel
theorem dX7_init_27 : decode cX7_init 27 = .ok (.putfield 21, 3) := by decide +kernel
theorem dX7_init_30 : decode cX7_init 30 = .ok (.aload_n 0, 1) := by decide +kernel
theorem dX7_init_31 : decode cX7_init 31 = .ok (.new 25, 3) := by decide +kernel
theorem dX7_init_34 : decode cX7_init 34 = .ok (.dup, 1) := by decide +kernel
theorem dX7_init_35 : decode cX7_init 35 = .ok (.aload_n 0, 1) := by decide +kernel
theorem dX7_init_36 : decode cX7_init 36 = .ok (.getfield 12, 3) := by decide +kernel
theorem dX7_init_39 : decode cX7_init 39 = .ok (.aload_n 0, 1) := by decide +kernel
theorem dX7_init_40 : decode cX7_init 40 = .ok (.getfield 21, 3) := by decide +kernel
theorem dX7_init_43 : decode cX7_init 43 = .ok (.invokespecial 27, 3) := by decide +kernel
theorem dX7_init_46 : decode cX7_init 46 = .ok (.putfield 30, 3) := by decide +kernel
theorem dX7_init_49 : decode cX7_init 49 = .ok (.aload_n 0, 1) := by decide +kernel
theorem dX7_init_50 : decode cX7_init 50 = .ok (.new 34, 3) := by decide +kernel
theorem dX7_init_53 : decode cX7_init 53 = .ok (.dup, 1) := by decide +kernel
theorem dX7_init_54 : decode cX7_init 54 = .ok (.invokespecial 36, 3) := by decide +kernel
theorem dX7_init_57 : decode cX7_init 57 = .ok (.putfield 37, 3) := by decide +kernel
theorem dX7_init_60 : decode cX7_init 60 = .ok (.aload_n 0, 1) := by decide +kernel
theorem dX7_init_61 : decode cX7_init 61 = .ok (.new 41, 3) := by decide +kernel
theorem dX7_init_64 : decode cX7_init 64 = .ok (.dup, 1) := by decide +kernel
theorem dX7_init_65 : decode cX7_init 65 = .ok (.bipush 100, 2) := by decide +kernel
theorem dX7_init_67 : decode cX7_init 67 = .ok (.invokespecial 43, 3) := by decide +kernel
theorem dX7_init_70 : decode cX7_init 70 = .ok (.putfield 46, 3) := by decide +kernel
theorem dX7_init_73 : decode cX7_init 73 = .ok (.aload_n 0, 1) := by decide +kernel
theorem dX7_init_74 : decode cX7_init 74 = .ok (.new 50, 3) := by decide +kernel
theorem dX7_init_77 : decode cX7_init 77 = .ok (.dup, 1) := by decide +kernel
theorem dX7_init_78 : decode cX7_init 78 = .ok (.invokespecial 52, 3) := by decide +kernel
theorem dX7_init_81 : decode cX7_init 81 = .ok (.putfield 53, 3) := by decide +kernel
theorem dX7_init_84 : decode cX7_init 84 = .ok (.return_, 1) := by decide +kernel
set_option maxRecDepth 20000 in
theorem ggX7_addProxy_X1_stage : GoodIn wsX7_addProxy wsX1_stage := goodIn_r _ [8, 9, 10, 11, 12, 13, 14, 15, 16, 17, 18, 19, 20, 21, 22, 23, 24, 25, 26, 27, 28, 29, 30, 31, 32, 33, 34, 35, 36, 37, 38, 39, 40, 41, 42, 43, 44, 45, 46, 47, 48, 49, 50, 82, 83, 84, 85, 86, 87, 88, 89, 90, 91, 92, 93, 94, 95, 96, 97, 98, 99, 100, 101, 102] (by decide +kernel) (by decide +kernel)
set_option maxRecDepth 20000 in
theorem gX7_addProxy_X1_stage : GoodIn wsX7_addProxy (wsV RX7 57 RX1 yX1_stage wsX1_stage) := goodIn_app (goodIn_of _ (by decide +kernel)) ggX7_addProxy_X1_stage
set_option maxRecDepth 20000 in
theorem ggX7_addProxy_X3_insertProxy : GoodIn wsX7_addProxy wsX3_insertProxy := goodIn_r _ [55, 56, 57, 58, 59, 18, 60, 20, 61, 62, 63, 64, 27, 103, 104, 105, 85, 86, 87, 88, 89, 90, 91, 92, 93, 94, 95, 96, 97, 98, 99, 100] (by decide +kernel) (by decide +kernel)
set_option maxRecDepth 20000 in
theorem gX7_addProxy_X3_insertProxy : GoodIn wsX7_addProxy (wsV RX7 60 RX3 yX3_insertProxy wsX3_insertProxy) := goodIn_app (goodIn_of _ (by decide +kernel)) ggX7_addProxy_X3_insertProxy
set_option maxRecDepth 20000 in
theorem ggX7_addProxy_X7_commitIfDone : GoodIn wsX7_addProxy wsX7_commitIfDone := goodIn_r _ [69, 1, 70, 71, 72, 7, 73, 10, 74, 75, 46, 47, 48, 11, 12, 13, 14, 76, 77, 78, 79, 80, 81, 82, 83, 84] (by decide +kernel) (by decide +kernel)
set_option maxRecDepth 20000 in
theorem gX7_addProxy_X7_commitIfDone : GoodIn wsX7_addProxy (wsV RX7 64 RX7 yX7_commitIfDone wsX7_commitIfDone) := goodIn_app (goodIn_of _ (by decide +kernel)) ggX7_addProxy_X7_commitIfDone
theorem dX7_addProxy_0 : decode cX7_addProxy 0 = .ok (.aload_n 0, 1) := by decide +kernel
theorem dX7_addProxy_1 : decode cX7_addProxy 1 = .ok (.getfield 37, 3) := by decide +kernel
theorem dX7_addProxy_4 : decode cX7_addProxy 4 = .ok (.aload_n 0, 1) := by decide +kernel
theorem dX7_addProxy_5 : decode cX7_addProxy 5 = .ok (.getfield 12, 3) := by decide +kernel
theorem dX7_addProxy_8 : decode cX7_addProxy 8 = .ok (.invokevirtual 57, 3) := by decide +kernel
theorem dX7_addProxy_11 : decode cX7_addProxy 11 = .ok (.aload_n 0, 1) := by decide +kernel
theorem dX7_addProxy_12 : decode cX7_addProxy 12 = .ok (.aload_n 0, 1) := by decide +kernel
theorem dX7_addProxy_13 : decode cX7_addProxy 13 = .ok (.getfield 30, 3) := by decide +kernel
theorem dX7_addProxy_16 : decode cX7_addProxy 16 = .ok (.iload_n 1, 1) := by decide +kernel
theorem dX7_addProxy_17 : decode cX7_addProxy 17 = .ok (.invokevirtual 60, 3) := by decide +kernel
theorem dX7_addProxy_20 : decode cX7_addProxy 20 = .ok (.invokevirtual 64, 3) := by decide +kernel
theorem dX7_addProxy_23 : decode cX7_addProxy 23 = .ok (.ireturn, 1) := by decide +kernel
set_option maxRecDepth 20000 in
theorem ggX7_setHome_X1_stage : GoodIn wsX7_setHome wsX1_stage := goodIn_r _ [8, 9, 10, 11, 12, 13, 14, 15, 16, 17, 18, 19, 20, 21, 22, 23, 24, 25, 26, 27, 28, 29, 30, 31, 32, 33, 34, 35, 36, 37, 38, 39, 40, 41, 42, 43, 44, 45, 46, 47, 48, 49, 50, 92, 93, 94, 95, 96, 97, 98, 99, 100, 101, 102, 103, 104, 105, 106, 107, 108, 109, 110, 111, 112] (by decide +kernel) (by decide +kernel)
set_option maxRecDepth 20000 in
theorem gX7_setHome_X1_stage : GoodIn wsX7_setHome (wsV RX7 57 RX1 yX1_stage wsX1_stage) := goodIn_app (goodIn_of _ (by decide +kernel)) ggX7_setHome_X1_stage
set_option maxRecDepth 20000 in
theorem ggX7_setHome_X3_changeHome : GoodIn wsX7_setHome wsX3_changeHome := goodIn_r _ [55, 56, 57, 58, 59, 60, 61, 62, 18, 63, 20, 64, 65, 66, 67, 33, 68, 69, 70, 71, 32, 72, 73, 74, 75, 113, 114, 115, 95, 96, 97, 98, 99, 100, 101, 102, 103, 104, 105, 106, 107, 108, 109, 110] (by decide +kernel) (by decide +kernel)
set_option maxRecDepth 20000 in
theorem gX7_setHome_X3_changeHome : GoodIn wsX7_setHome (wsV RX7 67 RX3 yX3_changeHome wsX3_changeHome) := goodIn_app (goodIn_of _ (by decide +kernel)) ggX7_setHome_X3_changeHome
set_option maxRecDepth 20000 in
theorem ggX7_setHome_X7_commitIfDone : GoodIn wsX7_setHome wsX7_commitIfDone := goodIn_r _ [79, 1, 80, 81, 82, 7, 83, 10, 84, 85, 46, 47, 48, 11, 12, 13, 14, 86, 87, 88, 89, 90, 91, 92, 93, 94] (by decide +kernel) (by decide +kernel)
set_option maxRecDepth 20000 in
theorem gX7_setHome_X7_commitIfDone : GoodIn wsX7_setHome (wsV RX7 64 RX7 yX7_commitIfDone wsX7_commitIfDone) := goodIn_app (goodIn_of _ (by decide +kernel)) ggX7_setHome_X7_commitIfDone
theorem dX7_setHome_0 : decode cX7_setHome 0 = .ok (.aload_n 0, 1) := by decide +kernel
theorem dX7_setHome_1 : decode cX7_setHome 1 = .ok (.getfield 37, 3) := by decide +kernel
theorem dX7_setHome_4 : decode cX7_setHome 4 = .ok (.aload_n 0, 1) := by decide +kernel
theorem dX7_setHome_5 : decode cX7_setHome 5 = .ok (.getfield 12, 3) := by decide +kernel
theorem dX7_setHome_8 : decode cX7_setHome 8 = .ok (.invokevirtual 57, 3) := by decide +kernel
theorem dX7_setHome_11 : decode cX7_setHome 11 = .ok (.aload_n 0, 1) := by decide +kernel
theorem dX7_setHome_12 : decode cX7_setHome 12 = .ok (.aload_n 0, 1) := by decide +kernel
theorem dX7_setHome_13 : decode cX7_setHome 13 = .ok (.getfield 30, 3) := by decide +kernel
theorem dX7_setHome_16 : decode cX7_setHome 16 = .ok (.iload_n 1, 1) := by decide +kernel
theorem dX7_setHome_17 : decode cX7_setHome 17 = .ok (.iload_n 2, 1) := by decide +kernel
theorem dX7_setHome_18 : decode cX7_setHome 18 = .ok (.invokevirtual 67, 3) := by decide +kernel
theorem dX7_setHome_21 : decode cX7_setHome 21 = .ok (.invokevirtual 64, 3) := by decide +kernel
theorem dX7_setHome_24 : decode cX7_setHome 24 = .ok (.ireturn, 1) := by decide +kernel
set_option maxRecDepth 20000 in
theorem ggX7_setLimits_X1_stage : GoodIn wsX7_setLimits wsX1_stage := goodIn_r _ [8, 9, 10, 11, 12, 13, 14, 15, 16, 17, 18, 19, 20, 21, 22, 23, 24, 25, 26, 27, 28, 29, 30, 31, 32, 33, 34, 35, 36, 37, 38, 39, 40, 41, 42, 43, 44, 45, 46, 47, 48, 49, 50, 74, 75, 76, 77, 78, 79, 80, 81, 82, 83, 84, 85, 86, 87, 88, 89, 90, 91, 92, 93, 94] (by decide +kernel) (by decide +kernel)
set_option maxRecDepth 20000 in
theorem gX7_setLimits_X1_stage : GoodIn wsX7_setLimits (wsV RX7 57 RX1 yX1_stage wsX1_stage) := goodIn_app (goodIn_of _ (by decide +kernel)) ggX7_setLimits_X1_stage
set_option maxRecDepth 20000 in
theorem ggX7_setLimits_X3_changeLimits : GoodIn wsX7_setLimits wsX3_changeLimits := goodIn_r _ [55, 56, 95, 96, 97, 77, 78, 79, 80, 81, 82, 83, 84, 85, 86, 87, 88, 89, 90, 91, 92] (by decide +kernel) (by decide +kernel)
set_option maxRecDepth 20000 in
theorem gX7_setLimits_X3_changeLimits : GoodIn wsX7_setLimits (wsV RX7 71 RX3 yX3_changeLimits wsX3_changeLimits) := goodIn_app (goodIn_of _ (by decide +kernel)) ggX7_setLimits_X3_changeLimits
set_option maxRecDepth 20000 in
theorem ggX7_setLimits_X7_commitIfDone : GoodIn wsX7_setLimits wsX7_commitIfDone := goodIn_r _ [61, 1, 62, 63, 64, 7, 65, 10, 66, 67, 46, 47, 48, 11, 12, 13, 14, 68, 69, 70, 71, 72, 73, 74, 75, 76] (by decide +kernel) (by decide +kernel)
set_option maxRecDepth 20000 in
theorem gX7_setLimits_X7_commitIfDone : GoodIn wsX7_setLimits (wsV RX7 64 RX7 yX7_commitIfDone wsX7_commitIfDone) := goodIn_app (goodIn_of _ (by decide +kernel)) ggX7_setLimits_X7_commitIfDone
theorem dX7_setLimits_0 : decode cX7_setLimits 0 = .ok (.aload_n 0, 1) := by decide +kernel
theorem dX7_setLimits_1 : decode cX7_setLimits 1 = .ok (.getfield 37, 3) := by decide +kernel
theorem dX7_setLimits_4 : decode cX7_setLimits 4 = .ok (.aload_n 0, 1) := by decide +kernel
theorem dX7_setLimits_5 : decode cX7_setLimits 5 = .ok (.getfield 12, 3) := by decide +kernel
theorem dX7_setLimits_8 : decode cX7_setLimits 8 = .ok (.invokevirtual 57, 3) := by decide +kernel
theorem dX7_setLimits_11 : decode cX7_setLimits 11 = .ok (.aload_n 0, 1) := by decide +kernel
theorem dX7_setLimits_12 : decode cX7_setLimits 12 = .ok (.aload_n 0, 1) := by decide +kernel
theorem dX7_setLimits_13 : decode cX7_setLimits 13 = .ok (.getfield 30, 3) := by decide +kernel
theorem dX7_setLimits_16 : decode cX7_setLimits 16 = .ok (.iload_n 1, 1) := by decide +kernel
theorem dX7_setLimits_17 : decode cX7_setLimits 17 = .ok (.iload_n 2, 1) := by decide +kernel
theorem dX7_setLimits_18 : decode cX7_setLimits 18 = .ok (.invokevirtual 71, 3) := by decide +kernel
theorem dX7_setLimits_21 : decode cX7_setLimits 21 = .ok (.invokevirtual 64, 3) := by decide +kernel
theorem dX7_setLimits_24 : decode cX7_setLimits 24 = .ok (.ireturn, 1) := by decide +kernel
set_option maxRecDepth 20000 in
theorem ggX7_proxy_X5_hasProxy : GoodIn wsX7_proxy wsX5_hasProxy := goodIn_r _ [7, 8, 108, 109, 110, 111, 112, 113, 114, 115, 116, 117, 118, 119, 120, 121, 122, 123] (by decide +kernel) (by decide +kernel)
set_option maxRecDepth 20000 in
theorem gX7_proxy_X5_hasProxy : GoodIn wsX7_proxy (wsV RX7 74 RX5 yX5_hasProxy wsX5_hasProxy) := goodIn_app (goodIn_of _ (by decide +kernel)) ggX7_proxy_X5_hasProxy
set_option maxRecDepth 20000 in
theorem ggX7_proxy_X5_parentOf : GoodIn wsX7_proxy wsX5_parentOf := goodIn_r _ [12, 13, 108, 109, 110, 111, 112, 113, 114, 115, 116, 117, 118, 119, 120, 121, 122, 123] (by decide +kernel) (by decide +kernel)
set_option maxRecDepth 20000 in
theorem gX7_proxy_X5_parentOf : GoodIn wsX7_proxy (wsV RX7 78 RX5 yX5_parentOf wsX5_parentOf) := goodIn_app (goodIn_of _ (by decide +kernel)) ggX7_proxy_X5_parentOf
set_option maxRecDepth 20000 in
theorem ggX7_proxy_X5_stepsToRoot : GoodIn wsX7_proxy wsX5_stepsToRoot := goodIn_r _ [17, 18, 10, 11, 6, 12, 13, 108, 109, 110, 111, 112, 113, 114, 115, 116, 117, 118, 119, 120, 121, 122, 123] (by decide +kernel) (by decide +kernel)
set_option maxRecDepth 20000 in
theorem gX7_proxy_X5_stepsToRoot : GoodIn wsX7_proxy (wsV RX7 81 RX5 yX5_stepsToRoot wsX5_stepsToRoot) := goodIn_app (goodIn_of _ (by decide +kernel)) ggX7_proxy_X5_stepsToRoot
set_option maxRecDepth 20000 in
theorem ggX7_proxy_X5_childrenOf : GoodIn wsX7_proxy wsX5_childrenOf := goodIn_r _ [22, 8, 23, 24, 25, 6, 26, 27, 28, 29, 30, 18, 10, 11, 12, 13, 108, 109, 110, 111, 112, 113, 114, 115, 116, 117, 118, 119, 120, 121, 122, 123] (by decide +kernel) (by decide +kernel)
set_option maxRecDepth 20000 in
theorem gX7_proxy_X5_childrenOf : GoodIn wsX7_proxy (wsV RX7 84 RX5 yX5_childrenOf wsX5_childrenOf) := goodIn_app (goodIn_of _ (by decide +kernel)) ggX7_proxy_X5_childrenOf
set_option maxRecDepth 20000 in
theorem ggX7_proxy_X5_knownCount : GoodIn wsX7_proxy wsX5_knownCount := goodIn_r _ [34, 35, 36, 37, 6, 38, 39, 40, 41, 42, 43, 44, 45, 46, 47, 48, 49, 50, 108, 109, 110, 111, 112, 113, 114, 115, 116, 117, 118, 119, 120, 121, 122, 123] (by decide +kernel) (by decide +kernel)
set_option maxRecDepth 20000 in
theorem gX7_proxy_X5_knownCount : GoodIn wsX7_proxy (wsV RX7 87 RX5 yX5_knownCount wsX5_knownCount) := goodIn_app (goodIn_of _ (by decide +kernel)) ggX7_proxy_X5_knownCount
set_option maxRecDepth 20000 in
theorem ggX7_proxy_X0_servedCount : GoodIn wsX7_proxy wsX0_servedCount := goodIn_r _ [55, 56, 57, 58, 59, 54, 60, 61, 62, 36, 37, 6, 38, 39, 63, 64, 42, 65, 66, 67, 68, 69, 70, 124, 125, 126, 108, 109, 110, 111, 112, 113, 114, 115, 116, 117, 118, 119, 120, 121, 122, 123] (by decide +kernel) (by decide +kernel)
set_option maxRecDepth 20000 in
theorem gX7_proxy_X0_servedCount : GoodIn wsX7_proxy (wsV RX7 90 RX0 yX0_servedCount wsX0_servedCount) := goodIn_app (goodIn_of _ (by decide +kernel)) ggX7_proxy_X0_servedCount
set_option maxRecDepth 20000 in
theorem ggX7_proxy_X5_contentsOf : GoodIn wsX7_proxy wsX5_contentsOf := goodIn_r _ [74, 75, 76, 77, 4, 5, 6, 7, 8, 108, 109, 110, 111, 112, 113, 114, 115, 116, 117, 118, 119, 120, 121, 122, 123] (by decide +kernel) (by decide +kernel)
set_option maxRecDepth 20000 in
theorem gX7_proxy_X5_contentsOf : GoodIn wsX7_proxy (wsV RX7 93 RX5 yX5_contentsOf wsX5_contentsOf) := goodIn_app (goodIn_of _ (by decide +kernel)) ggX7_proxy_X5_contentsOf
set_option maxRecDepth 20000 in
theorem ggX7_proxy_X2_length : GoodIn wsX7_proxy wsX2_length := goodIn_r _ [82, 83, 127, 128] (by decide +kernel) (by decide +kernel)
set_option maxRecDepth 20000 in
theorem gX7_proxy_X2_length : GoodIn wsX7_proxy (wsV RX7 97 RX2 yX2_length wsX2_length) := goodIn_app (goodIn_of _ (by decide +kernel)) ggX7_proxy_X2_length
set_option maxRecDepth 20000 in
theorem ggX7_proxy_X5_vectorSize : GoodIn wsX7_proxy wsX5_vectorSize := goodIn_r _ [87, 35, 36, 37, 6, 38, 39, 88, 89, 42, 90, 44, 45, 46, 47, 48, 49, 50, 108, 109, 110, 111, 112, 113, 114, 115, 116, 117, 118, 119, 120, 121, 122, 123] (by decide +kernel) (by decide +kernel)
set_option maxRecDepth 20000 in
theorem gX7_proxy_X5_vectorSize : GoodIn wsX7_proxy (wsV RX7 101 RX5 yX5_vectorSize wsX5_vectorSize) := goodIn_app (goodIn_of _ (by decide +kernel)) ggX7_proxy_X5_vectorSize
set_option maxRecDepth 20000 in
theorem ggX7_proxy_X5_exceptionCount : GoodIn wsX7_proxy wsX5_exceptionCount := goodIn_r _ [94, 35, 36, 37, 6, 38, 39, 95, 96, 42, 97, 98, 99, 100, 101, 41, 43, 44, 45, 46, 47, 48, 49, 50, 108, 109, 110, 111, 112, 113, 114, 115, 116, 117, 118, 119, 120, 121, 122, 123] (by decide +kernel) (by decide +kernel)
set_option maxRecDepth 20000 in
theorem gX7_proxy_X5_exceptionCount : GoodIn wsX7_proxy (wsV RX7 104 RX5 yX5_exceptionCount wsX5_exceptionCount) := goodIn_app (goodIn_of _ (by decide +kernel)) ggX7_proxy_X5_exceptionCount
theorem dX7_proxy_0 : decode cX7_proxy 0 = .ok (.aload_n 0, 1) := by decide +kernel
theorem dX7_proxy_1 : decode cX7_proxy 1 = .ok (.getfield 12, 3) := by decide +kernel
theorem dX7_proxy_4 : decode cX7_proxy 4 = .ok (.iload_n 1, 1) := by decide +kernel
theorem dX7_proxy_5 : decode cX7_proxy 5 = .ok (.invokevirtual 74, 3) := by decide +kernel
theorem dX7_proxy_8 : decode cX7_proxy 8 = .ok (.ifCond .ne 5, 3) := by decide +kernel
theorem dX7_proxy_11 : decode cX7_proxy 11 = .ok (.iconst (-1), 1) := by decide +kernel
theorem dX7_proxy_12 : decode cX7_proxy 12 = .ok (.ireturn, 1) := by decide +kernel
theorem dX7_proxy_13 : decode cX7_proxy 13 = .ok (.iload_n 2, 1) := by decide +kernel
theorem dX7_proxy_14 : decode cX7_proxy 14 = .ok (.tableswitch 130 0 7 #[46, 64, 73, 82, 91, 100, 112, 121], 46) := by decide +kernel
theorem dX7_proxy_60 : decode cX7_proxy 60 = .ok (.iload_n 1, 1) := by decide +kernel
theorem dX7_proxy_61 : decode cX7_proxy 61 = .ok (.ifCond .ne 8, 3) := by decide +kernel
theorem dX7_proxy_64 : decode cX7_proxy 64 = .ok (.bipush (-9), 2) := by decide +kernel
theorem dX7_proxy_66 : decode cX7_proxy 66 = .ok (.goto 11, 3) := by decide +kernel
theorem dX7_proxy_69 : decode cX7_proxy 69 = .ok (.aload_n 0, 1) := by decide +kernel
theorem dX7_proxy_70 : decode cX7_proxy 70 = .ok (.getfield 12, 3) := by decide +kernel
theorem dX7_proxy_73 : decode cX7_proxy 73 = .ok (.iload_n 1, 1) := by decide +kernel
theorem dX7_proxy_74 : decode cX7_proxy 74 = .ok (.invokevirtual 78, 3) := by decide +kernel
theorem dX7_proxy_77 : decode cX7_proxy 77 = .ok (.ireturn, 1) := by decide +kernel
theorem dX7_proxy_78 : decode cX7_proxy 78 = .ok (.aload_n 0, 1) := by decide +kernel
theorem dX7_proxy_79 : decode cX7_proxy 79 = .ok (.getfield 12, 3) := by decide +kernel
theorem dX7_proxy_82 : decode cX7_proxy 82 = .ok (.iload_n 1, 1) := by decide +kernel
theorem dX7_proxy_83 : decode cX7_proxy 83 = .ok (.invokevirtual 81, 3) := by decide +kernel
theorem dX7_proxy_86 : decode cX7_proxy 86 = .ok (.ireturn, 1) := by decide +kernel
theorem dX7_proxy_87 : decode cX7_proxy 87 = .ok (.aload_n 0, 1) := by decide +kernel
theorem dX7_proxy_88 : decode cX7_proxy 88 = .ok (.getfield 12, 3) := by decide +kernel
theorem dX7_proxy_91 : decode cX7_proxy 91 = .ok (.iload_n 1, 1) := by decide +kernel
theorem dX7_proxy_92 : decode cX7_proxy 92 = .ok (.invokevirtual 84, 3) := by decide +kernel
theorem dX7_proxy_95 : decode cX7_proxy 95 = .ok (.ireturn, 1) := by decide +kernel
theorem dX7_proxy_96 : decode cX7_proxy 96 = .ok (.aload_n 0, 1) := by decide +kernel
theorem dX7_proxy_97 : decode cX7_proxy 97 = .ok (.getfield 12, 3) := by decide +kernel
theorem dX7_proxy_100 : decode cX7_proxy 100 = .ok (.iload_n 1, 1) := by decide +kernel
theorem dX7_proxy_101 : decode cX7_proxy 101 = .ok (.invokevirtual 87, 3) := by decide +kernel
theorem dX7_proxy_104 : decode cX7_proxy 104 = .ok (.ireturn, 1) := by decide +kernel
theorem dX7_proxy_105 : decode cX7_proxy 105 = .ok (.aload_n 0, 1) := by decide +kernel
theorem dX7_proxy_106 : decode cX7_proxy 106 = .ok (.getfield 21, 3) := by decide +kernel
theorem dX7_proxy_109 : decode cX7_proxy 109 = .ok (.iload_n 1, 1) := by decide +kernel
theorem dX7_proxy_110 : decode cX7_proxy 110 = .ok (.invokevirtual 90, 3) := by decide +kernel
theorem dX7_proxy_113 : decode cX7_proxy 113 = .ok (.ireturn, 1) := by decide +kernel
theorem dX7_proxy_114 : decode cX7_proxy 114 = .ok (.aload_n 0, 1) := by decide +kernel
theorem dX7_proxy_115 : decode cX7_proxy 115 = .ok (.getfield 12, 3) := by decide +kernel
theorem dX7_proxy_118 : decode cX7_proxy 118 = .ok (.iload_n 1, 1) := by decide +kernel
theorem dX7_proxy_119 : decode cX7_proxy 119 = .ok (.invokevirtual 93, 3) := by decide +kernel
theorem dX7_proxy_122 : decode cX7_proxy 122 = .ok (.invokevirtual 97, 3) := by decide +kernel
theorem dX7_proxy_125 : decode cX7_proxy 125 = .ok (.ireturn, 1) := by decide +kernel
theorem dX7_proxy_126 : decode cX7_proxy 126 = .ok (.aload_n 0, 1) := by decide +kernel
theorem dX7_proxy_127 : decode cX7_proxy 127 = .ok (.getfield 12, 3) := by decide +kernel
theorem dX7_proxy_130 : decode cX7_proxy 130 = .ok (.iload_n 1, 1) := by decide +kernel
theorem dX7_proxy_131 : decode cX7_proxy 131 = .ok (.invokevirtual 101, 3) := by decide +kernel
theorem dX7_proxy_134 : decode cX7_proxy 134 = .ok (.ireturn, 1) := by decide +kernel
theorem dX7_proxy_135 : decode cX7_proxy 135 = .ok (.aload_n 0, 1) := by decide +kernel
theorem dX7_proxy_136 : decode cX7_proxy 136 = .ok (.getfield 12, 3) := by decide +kernel
theorem dX7_proxy_139 : decode cX7_proxy 139 = .ok (.iload_n 1, 1) := by decide +kernel
theorem dX7_proxy_140 : decode cX7_proxy 140 = .ok (.invokevirtual 104, 3) := by decide +kernel
theorem dX7_proxy_143 : decode cX7_proxy 143 = .ok (.ireturn, 1) := by decide +kernel
theorem dX7_proxy_144 : decode cX7_proxy 144 = .ok (.iconst (-1), 1) := by decide +kernel
theorem dX7_proxy_145 : decode cX7_proxy 145 = .ok (.ireturn, 1) := by decide +kernel
set_option maxRecDepth 20000 in
theorem ggX7_count_X5_writtenCount : GoodIn wsX7_count wsX5_writtenCount := goodIn_r _ [7, 8, 9, 10, 6, 11, 12, 25, 26, 27, 28, 29, 30, 31, 32, 33, 34, 35, 36, 37, 38, 39, 40] (by decide +kernel) (by decide +kernel)
set_option maxRecDepth 20000 in
theorem gX7_count_X5_writtenCount : GoodIn wsX7_count (wsV RX7 117 RX5 yX5_writtenCount wsX5_writtenCount) := goodIn_app (goodIn_of _ (by decide +kernel)) ggX7_count_X5_writtenCount
set_option maxRecDepth 20000 in
theorem ggX7_count_X1_savedCount : GoodIn wsX7_count wsX1_savedCount := goodIn_r _ [17, 18, 41, 42, 43] (by decide +kernel) (by decide +kernel)
set_option maxRecDepth 20000 in
theorem gX7_count_X1_savedCount : GoodIn wsX7_count (wsV RX7 132 RX1 yX1_savedCount wsX1_savedCount) := goodIn_app (goodIn_of _ (by decide +kernel)) ggX7_count_X1_savedCount
theorem dX7_count_0 : decode cX7_count 0 = .ok (.iload_n 1, 1) := by decide +kernel
theorem dX7_count_1 : decode cX7_count 1 = .ok (.tableswitch 123 0 8 #[51, 59, 67, 75, 83, 91, 99, 107, 115], 51) := by decide +kernel
theorem dX7_count_52 : decode cX7_count 52 = .ok (.aload_n 0, 1) := by decide +kernel
theorem dX7_count_53 : decode cX7_count 53 = .ok (.getfield 12, 3) := by decide +kernel
theorem dX7_count_56 : decode cX7_count 56 = .ok (.getfield 107, 3) := by decide +kernel
theorem dX7_count_59 : decode cX7_count 59 = .ok (.ireturn, 1) := by decide +kernel
theorem dX7_count_60 : decode cX7_count 60 = .ok (.aload_n 0, 1) := by decide +kernel
theorem dX7_count_61 : decode cX7_count 61 = .ok (.getfield 12, 3) := by decide +kernel
theorem dX7_count_64 : decode cX7_count 64 = .ok (.getfield 111, 3) := by decide +kernel
theorem dX7_count_67 : decode cX7_count 67 = .ok (.ireturn, 1) := by decide +kernel
theorem dX7_count_68 : decode cX7_count 68 = .ok (.aload_n 0, 1) := by decide +kernel
theorem dX7_count_69 : decode cX7_count 69 = .ok (.getfield 12, 3) := by decide +kernel
theorem dX7_count_72 : decode cX7_count 72 = .ok (.getfield 114, 3) := by decide +kernel
theorem dX7_count_75 : decode cX7_count 75 = .ok (.ireturn, 1) := by decide +kernel
theorem dX7_count_76 : decode cX7_count 76 = .ok (.aload_n 0, 1) := by decide +kernel
theorem dX7_count_77 : decode cX7_count 77 = .ok (.getfield 12, 3) := by decide +kernel
theorem dX7_count_80 : decode cX7_count 80 = .ok (.invokevirtual 117, 3) := by decide +kernel
theorem dX7_count_83 : decode cX7_count 83 = .ok (.ireturn, 1) := by decide +kernel
theorem dX7_count_84 : decode cX7_count 84 = .ok (.aload_n 0, 1) := by decide +kernel
theorem dX7_count_85 : decode cX7_count 85 = .ok (.getfield 12, 3) := by decide +kernel
theorem dX7_count_88 : decode cX7_count 88 = .ok (.getfield 120, 3) := by decide +kernel
theorem dX7_count_91 : decode cX7_count 91 = .ok (.ireturn, 1) := by decide +kernel
theorem dX7_count_92 : decode cX7_count 92 = .ok (.aload_n 0, 1) := by decide +kernel
theorem dX7_count_93 : decode cX7_count 93 = .ok (.getfield 12, 3) := by decide +kernel
theorem dX7_count_96 : decode cX7_count 96 = .ok (.getfield 123, 3) := by decide +kernel
theorem dX7_count_99 : decode cX7_count 99 = .ok (.ireturn, 1) := by decide +kernel
theorem dX7_count_100 : decode cX7_count 100 = .ok (.aload_n 0, 1) := by decide +kernel
theorem dX7_count_101 : decode cX7_count 101 = .ok (.getfield 12, 3) := by decide +kernel
theorem dX7_count_104 : decode cX7_count 104 = .ok (.getfield 126, 3) := by decide +kernel
theorem dX7_count_107 : decode cX7_count 107 = .ok (.ireturn, 1) := by decide +kernel
theorem dX7_count_108 : decode cX7_count 108 = .ok (.aload_n 0, 1) := by decide +kernel
theorem dX7_count_109 : decode cX7_count 109 = .ok (.getfield 12, 3) := by decide +kernel
theorem dX7_count_112 : decode cX7_count 112 = .ok (.getfield 129, 3) := by decide +kernel
theorem dX7_count_115 : decode cX7_count 115 = .ok (.ireturn, 1) := by decide +kernel
theorem dX7_count_116 : decode cX7_count 116 = .ok (.aload_n 0, 1) := by decide +kernel
theorem dX7_count_117 : decode cX7_count 117 = .ok (.getfield 37, 3) := by decide +kernel
theorem dX7_count_120 : decode cX7_count 120 = .ok (.invokevirtual 132, 3) := by decide +kernel
theorem dX7_count_123 : decode cX7_count 123 = .ok (.ireturn, 1) := by decide +kernel
theorem dX7_count_124 : decode cX7_count 124 = .ok (.iconst (-1), 1) := by decide +kernel
theorem dX7_count_125 : decode cX7_count 125 = .ok (.ireturn, 1) := by decide +kernel
set_option maxRecDepth 20000 in
theorem ggX7_write_X1_stage : GoodIn wsX7_write wsX1_stage := goodIn_r _ [8, 9, 10, 11, 12, 13, 14, 15, 16, 17, 18, 19, 20, 21, 22, 23, 24, 25, 26, 27, 28, 29, 30, 31, 32, 33, 34, 35, 36, 37, 38, 39, 40, 41, 42, 43, 44, 45, 46, 47, 48, 49, 50, 213, 214, 215, 216, 217, 218, 219, 220, 221, 222, 223, 224, 225, 226, 227, 228, 229, 230, 231, 232, 233] (by decide +kernel) (by decide +kernel)
set_option maxRecDepth 20000 in
theorem gX7_write_X1_stage : GoodIn wsX7_write (wsV RX7 57 RX1 yX1_stage wsX1_stage) := goodIn_app (goodIn_of _ (by decide +kernel)) ggX7_write_X1_stage
set_option maxRecDepth 20000 in
theorem ggX7_write_X3_makeWrite : GoodIn wsX7_write wsX3_makeWrite := goodIn_r _ [55, 56, 57, 58, 59, 60, 61, 62, 63, 18, 64, 33, 65, 66, 67, 68, 32, 69, 70, 71, 72, 73, 74, 75, 76, 77, 78, 79, 34, 80, 81, 82, 83, 84, 85, 86, 87, 35, 88, 89, 90, 91, 92, 93, 94, 95, 96, 97, 98, 99, 100, 101, 102, 103, 104, 54, 105, 106, 107, 108, 109, 110, 111, 112, 113, 114, 115, 116, 117, 118, 119, 120, 121, 122, 123, 124, 125, 126, 127, 128, 129, 130, 131, 132, 133, 134, 135, 136, 137, 138, 139, 140, 141, 142, 143, 144, 145, 146, 36, 147, 148, 149, 150, 151, 20, 152, 153, 154, 42, 155, 50, 44, 156, 157, 158, 159, 160, 161, 162, 163, 164, 165, 166, 167, 168, 169, 170, 171, 172, 173, 174, 175, 176, 177, 178, 179, 27, 180, 181, 182, 183, 37, 38, 184, 185, 186, 187, 188, 189, 190, 191, 192, 193, 194, 195, 196, 234, 235, 236, 216, 217, 218, 219, 220, 221, 222, 223, 224, 225, 226, 227, 228, 229, 230, 231, 237, 238, 239, 232, 233] (by decide +kernel) (by decide +kernel)
set_option maxRecDepth 20000 in
theorem gX7_write_X3_makeWrite : GoodIn wsX7_write (wsV RX7 135 RX3 yX3_makeWrite wsX3_makeWrite) := goodIn_app (goodIn_of _ (by decide +kernel)) ggX7_write_X3_makeWrite
set_option maxRecDepth 20000 in
theorem ggX7_write_X7_commitIfDone : GoodIn wsX7_write wsX7_commitIfDone := goodIn_r _ [200, 1, 201, 202, 203, 7, 204, 10, 205, 206, 46, 47, 48, 11, 12, 13, 14, 207, 208, 209, 210, 211, 212, 213, 214, 215] (by decide +kernel) (by decide +kernel)
set_option maxRecDepth 20000 in
theorem gX7_write_X7_commitIfDone : GoodIn wsX7_write (wsV RX7 64 RX7 yX7_commitIfDone wsX7_commitIfDone) := goodIn_app (goodIn_of _ (by decide +kernel)) ggX7_write_X7_commitIfDone
theorem dX7_write_0 : decode cX7_write 0 = .ok (.aload_n 0, 1) := by decide +kernel
theorem dX7_write_1 : decode cX7_write 1 = .ok (.getfield 37, 3) := by decide +kernel
theorem dX7_write_4 : decode cX7_write 4 = .ok (.aload_n 0, 1) := by decide +kernel
theorem dX7_write_5 : decode cX7_write 5 = .ok (.getfield 12, 3) := by decide +kernel
theorem dX7_write_8 : decode cX7_write 8 = .ok (.invokevirtual 57, 3) := by decide +kernel
theorem dX7_write_11 : decode cX7_write 11 = .ok (.aload_n 0, 1) := by decide +kernel
theorem dX7_write_12 : decode cX7_write 12 = .ok (.aload_n 0, 1) := by decide +kernel
theorem dX7_write_13 : decode cX7_write 13 = .ok (.getfield 30, 3) := by decide +kernel
theorem dX7_write_16 : decode cX7_write 16 = .ok (.iload_n 1, 1) := by decide +kernel
theorem dX7_write_17 : decode cX7_write 17 = .ok (.invokevirtual 135, 3) := by decide +kernel
theorem dX7_write_20 : decode cX7_write 20 = .ok (.invokevirtual 64, 3) := by decide +kernel
theorem dX7_write_23 : decode cX7_write 23 = .ok (.ireturn, 1) := by decide +kernel
set_option maxRecDepth 20000 in
theorem ggX7_cause_X7_isOrigin : GoodIn wsX7_cause wsX7_isOrigin := goodIn_r _ [5] (by decide +kernel) (by decide +kernel)
set_option maxRecDepth 20000 in
theorem gX7_cause_X7_isOrigin : GoodIn wsX7_cause (va_wsS RX7 138 yX7_isOrigin wsX7_isOrigin) := goodIn_app (goodIn_of _ (by decide +kernel)) ggX7_cause_X7_isOrigin
set_option maxRecDepth 20000 in
theorem ggX7_cause_X5_wasWritten : GoodIn wsX7_cause wsX5_wasWritten := goodIn_r _ [10, 3, 4, 5, 11, 12, 13, 9, 14, 15, 27, 28, 29, 30, 31, 32, 33, 34, 35, 36, 37, 38, 39, 40, 41, 42] (by decide +kernel) (by decide +kernel)
set_option maxRecDepth 20000 in
theorem gX7_cause_X5_wasWritten : GoodIn wsX7_cause (wsV RX7 141 RX5 yX5_wasWritten wsX5_wasWritten) := goodIn_app (goodIn_of _ (by decide +kernel)) ggX7_cause_X5_wasWritten
set_option maxRecDepth 20000 in
theorem ggX7_cause_X5_causeOf : GoodIn wsX7_cause wsX5_causeOf := goodIn_r _ [19, 20, 27, 28, 29, 30, 31, 32, 33, 34, 35, 36, 37, 38, 39, 40, 41, 42] (by decide +kernel) (by decide +kernel)
set_option maxRecDepth 20000 in
theorem gX7_cause_X5_causeOf : GoodIn wsX7_cause (wsV RX7 145 RX5 yX5_causeOf wsX5_causeOf) := goodIn_app (goodIn_of _ (by decide +kernel)) ggX7_cause_X5_causeOf
theorem dX7_cause_0 : decode cX7_cause 0 = .ok (.iload_n 3, 1) := by decide +kernel
theorem dX7_cause_1 : decode cX7_cause 1 = .ok (.invokestatic 138, 3) := by decide +kernel
theorem dX7_cause_4 : decode cX7_cause 4 = .ok (.ifCond .eq 15, 3) := by decide +kernel
theorem dX7_cause_7 : decode cX7_cause 7 = .ok (.aload_n 0, 1) := by decide +kernel
theorem dX7_cause_8 : decode cX7_cause 8 = .ok (.getfield 12, 3) := by decide +kernel
theorem dX7_cause_11 : decode cX7_cause 11 = .ok (.iload_n 1, 1) := by decide +kernel
theorem dX7_cause_12 : decode cX7_cause 12 = .ok (.iload_n 2, 1) := by decide +kernel
theorem dX7_cause_13 : decode cX7_cause 13 = .ok (.invokevirtual 141, 3) := by decide +kernel
theorem dX7_cause_16 : decode cX7_cause 16 = .ok (.ifCond .ne 5, 3) := by decide +kernel
theorem dX7_cause_19 : decode cX7_cause 19 = .ok (.iconst (-1), 1) := by decide +kernel
theorem dX7_cause_20 : decode cX7_cause 20 = .ok (.ireturn, 1) := by decide +kernel
theorem dX7_cause_21 : decode cX7_cause 21 = .ok (.aload_n 0, 1) := by decide +kernel
theorem dX7_cause_22 : decode cX7_cause 22 = .ok (.getfield 12, 3) := by decide +kernel
theorem dX7_cause_25 : decode cX7_cause 25 = .ok (.iload_n 1, 1) := by decide +kernel
theorem dX7_cause_26 : decode cX7_cause 26 = .ok (.iload_n 2, 1) := by decide +kernel
theorem dX7_cause_27 : decode cX7_cause 27 = .ok (.iload_n 3, 1) := by decide +kernel
theorem dX7_cause_28 : decode cX7_cause 28 = .ok (.invokevirtual 145, 3) := by decide +kernel
theorem dX7_cause_31 : decode cX7_cause 31 = .ok (.ireturn, 1) := by decide +kernel
set_option maxRecDepth 20000 in
theorem ggX7_deliver_X1_stage : GoodIn wsX7_deliver wsX1_stage := goodIn_r _ [8, 9, 10, 11, 12, 13, 14, 15, 16, 17, 18, 19, 20, 21, 22, 23, 24, 25, 26, 27, 28, 29, 30, 31, 32, 33, 34, 35, 36, 37, 38, 39, 40, 41, 42, 43, 44, 45, 46, 47, 48, 49, 50, 200, 201, 202, 203, 204, 205, 206, 207, 208, 209, 210, 211, 212, 213, 214, 215, 216, 217, 218, 219, 220] (by decide +kernel) (by decide +kernel)
set_option maxRecDepth 20000 in
theorem gX7_deliver_X1_stage : GoodIn wsX7_deliver (wsV RX7 57 RX1 yX1_stage wsX1_stage) := goodIn_app (goodIn_of _ (by decide +kernel)) ggX7_deliver_X1_stage
set_option maxRecDepth 20000 in
theorem ggX7_deliver_X3_deliverFirst : GoodIn wsX7_deliver wsX3_deliverFirst := goodIn_r _ [55, 56, 57, 58, 59, 18, 60, 61, 62, 63, 64, 20, 65, 66, 54, 67, 68, 69, 70, 71, 72, 37, 38, 73, 74, 75, 42, 76, 50, 77, 78, 79, 80, 27, 81, 82, 83, 84, 44, 85, 86, 87, 88, 89, 90, 91, 92, 93, 94, 95, 96, 97, 98, 99, 100, 101, 102, 103, 104, 105, 34, 106, 107, 108, 109, 110, 111, 112, 113, 114, 115, 116, 117, 118, 119, 120, 121, 122, 123, 124, 125, 126, 127, 128, 129, 130, 131, 132, 133, 134, 135, 136, 137, 138, 139, 36, 140, 141, 142, 143, 144, 145, 146, 147, 148, 149, 150, 151, 152, 153, 154, 155, 156, 157, 158, 159, 160, 161, 162, 35, 163, 164, 165, 166, 167, 168, 169, 170, 171, 172, 173, 174, 175, 176, 177, 178, 179, 180, 181, 182, 183, 221, 222, 223, 203, 204, 205, 206, 207, 208, 209, 210, 211, 212, 213, 214, 215, 216, 217, 218, 219, 220, 224, 225, 226] (by decide +kernel) (by decide +kernel)
set_option maxRecDepth 20000 in
theorem gX7_deliver_X3_deliverFirst : GoodIn wsX7_deliver (wsV RX7 149 RX3 yX3_deliverFirst wsX3_deliverFirst) := goodIn_app (goodIn_of _ (by decide +kernel)) ggX7_deliver_X3_deliverFirst
set_option maxRecDepth 20000 in
theorem ggX7_deliver_X7_commitIfDone : GoodIn wsX7_deliver wsX7_commitIfDone := goodIn_r _ [187, 1, 188, 189, 190, 7, 191, 10, 192, 193, 46, 47, 48, 11, 12, 13, 14, 194, 195, 196, 197, 198, 199, 200, 201, 202] (by decide +kernel) (by decide +kernel)
set_option maxRecDepth 20000 in
theorem gX7_deliver_X7_commitIfDone : GoodIn wsX7_deliver (wsV RX7 64 RX7 yX7_commitIfDone wsX7_commitIfDone) := goodIn_app (goodIn_of _ (by decide +kernel)) ggX7_deliver_X7_commitIfDone
theorem dX7_deliver_0 : decode cX7_deliver 0 = .ok (.aload_n 0, 1) := by decide +kernel
theorem dX7_deliver_1 : decode cX7_deliver 1 = .ok (.getfield 37, 3) := by decide +kernel
theorem dX7_deliver_4 : decode cX7_deliver 4 = .ok (.aload_n 0, 1) := by decide +kernel
theorem dX7_deliver_5 : decode cX7_deliver 5 = .ok (.getfield 12, 3) := by decide +kernel
theorem dX7_deliver_8 : decode cX7_deliver 8 = .ok (.invokevirtual 57, 3) := by decide +kernel
theorem dX7_deliver_11 : decode cX7_deliver 11 = .ok (.aload_n 0, 1) := by decide +kernel
theorem dX7_deliver_12 : decode cX7_deliver 12 = .ok (.aload_n 0, 1) := by decide +kernel
theorem dX7_deliver_13 : decode cX7_deliver 13 = .ok (.getfield 30, 3) := by decide +kernel
theorem dX7_deliver_16 : decode cX7_deliver 16 = .ok (.iload_n 1, 1) := by decide +kernel
theorem dX7_deliver_17 : decode cX7_deliver 17 = .ok (.iload_n 2, 1) := by decide +kernel
theorem dX7_deliver_18 : decode cX7_deliver 18 = .ok (.iload_n 3, 1) := by decide +kernel
theorem dX7_deliver_19 : decode cX7_deliver 19 = .ok (.invokevirtual 149, 3) := by decide +kernel
theorem dX7_deliver_22 : decode cX7_deliver 22 = .ok (.invokevirtual 64, 3) := by decide +kernel
theorem dX7_deliver_25 : decode cX7_deliver 25 = .ok (.ireturn, 1) := by decide +kernel
set_option maxRecDepth 20000 in
theorem ggX7_lose_X1_stage : GoodIn wsX7_lose wsX1_stage := goodIn_r _ [8, 9, 10, 11, 12, 13, 14, 15, 16, 17, 18, 19, 20, 21, 22, 23, 24, 25, 26, 27, 28, 29, 30, 31, 32, 33, 34, 35, 36, 37, 38, 39, 40, 41, 42, 43, 44, 45, 46, 47, 48, 49, 50, 99, 100, 101, 102, 103, 104, 105, 106, 107, 108, 109, 110, 111, 112, 113, 114, 115, 116, 117, 118, 119] (by decide +kernel) (by decide +kernel)
set_option maxRecDepth 20000 in
theorem gX7_lose_X1_stage : GoodIn wsX7_lose (wsV RX7 57 RX1 yX1_stage wsX1_stage) := goodIn_app (goodIn_of _ (by decide +kernel)) ggX7_lose_X1_stage
set_option maxRecDepth 20000 in
theorem ggX7_lose_X3_loseFirst : GoodIn wsX7_lose wsX3_loseFirst := goodIn_r _ [55, 56, 57, 46, 47, 48, 58, 59, 60, 18, 61, 62, 63, 64, 65, 20, 66, 67, 54, 68, 69, 70, 71, 72, 73, 37, 38, 74, 75, 76, 42, 77, 50, 78, 79, 80, 81, 44, 120, 121, 122, 102, 103, 104, 105, 106, 107, 108, 109, 110, 111, 112, 113, 114, 115, 116, 117, 118, 119] (by decide +kernel) (by decide +kernel)
set_option maxRecDepth 20000 in
theorem gX7_lose_X3_loseFirst : GoodIn wsX7_lose (wsV RX7 152 RX3 yX3_loseFirst wsX3_loseFirst) := goodIn_app (goodIn_of _ (by decide +kernel)) ggX7_lose_X3_loseFirst
set_option maxRecDepth 20000 in
theorem ggX7_lose_X7_commitIfDone : GoodIn wsX7_lose wsX7_commitIfDone := goodIn_r _ [86, 1, 87, 88, 89, 7, 90, 10, 91, 92, 46, 47, 48, 11, 12, 13, 14, 93, 94, 95, 96, 97, 98, 99, 100, 101] (by decide +kernel) (by decide +kernel)
set_option maxRecDepth 20000 in
theorem gX7_lose_X7_commitIfDone : GoodIn wsX7_lose (wsV RX7 64 RX7 yX7_commitIfDone wsX7_commitIfDone) := goodIn_app (goodIn_of _ (by decide +kernel)) ggX7_lose_X7_commitIfDone
theorem dX7_lose_0 : decode cX7_lose 0 = .ok (.aload_n 0, 1) := by decide +kernel
theorem dX7_lose_1 : decode cX7_lose 1 = .ok (.getfield 37, 3) := by decide +kernel
theorem dX7_lose_4 : decode cX7_lose 4 = .ok (.aload_n 0, 1) := by decide +kernel
theorem dX7_lose_5 : decode cX7_lose 5 = .ok (.getfield 12, 3) := by decide +kernel
theorem dX7_lose_8 : decode cX7_lose 8 = .ok (.invokevirtual 57, 3) := by decide +kernel
theorem dX7_lose_11 : decode cX7_lose 11 = .ok (.aload_n 0, 1) := by decide +kernel
theorem dX7_lose_12 : decode cX7_lose 12 = .ok (.aload_n 0, 1) := by decide +kernel
theorem dX7_lose_13 : decode cX7_lose 13 = .ok (.getfield 30, 3) := by decide +kernel
theorem dX7_lose_16 : decode cX7_lose 16 = .ok (.iload_n 1, 1) := by decide +kernel
theorem dX7_lose_17 : decode cX7_lose 17 = .ok (.iload_n 2, 1) := by decide +kernel
theorem dX7_lose_18 : decode cX7_lose 18 = .ok (.iload_n 3, 1) := by decide +kernel
theorem dX7_lose_19 : decode cX7_lose 19 = .ok (.invokevirtual 152, 3) := by decide +kernel
theorem dX7_lose_22 : decode cX7_lose 22 = .ok (.invokevirtual 64, 3) := by decide +kernel
theorem dX7_lose_25 : decode cX7_lose 25 = .ok (.ireturn, 1) := by decide +kernel
set_option maxRecDepth 20000 in
theorem ggX7_queued_X5_hasQueue : GoodIn wsX7_queued wsX5_hasQueue := goodIn_r _ [6, 7, 8, 9, 5, 10, 11, 36, 37, 38, 39, 40, 41, 42, 43, 44, 45, 46, 47, 48, 49, 50, 51] (by decide +kernel) (by decide +kernel)
set_option maxRecDepth 20000 in
theorem gX7_queued_X5_hasQueue : GoodIn wsX7_queued (wsV RX7 155 RX5 yX5_hasQueue wsX5_hasQueue) := goodIn_app (goodIn_of _ (by decide +kernel)) ggX7_queued_X5_hasQueue
set_option maxRecDepth 20000 in
theorem ggX7_queued_X5_queueOf : GoodIn wsX7_queued wsX5_queueOf := goodIn_r _ [15, 16, 17, 18, 7, 8, 9, 5, 10, 11, 36, 37, 38, 39, 40, 41, 42, 43, 44, 45, 46, 47, 48, 49, 50, 51] (by decide +kernel) (by decide +kernel)
set_option maxRecDepth 20000 in
theorem gX7_queued_X5_queueOf : GoodIn wsX7_queued (wsV RX7 158 RX5 yX5_queueOf wsX5_queueOf) := goodIn_app (goodIn_of _ (by decide +kernel)) ggX7_queued_X5_queueOf
set_option maxRecDepth 20000 in
theorem ggX7_queued_X2_length : GoodIn wsX7_queued wsX2_length := goodIn_r _ [23, 24, 52, 53] (by decide +kernel) (by decide +kernel)
set_option maxRecDepth 20000 in
theorem gX7_queued_X2_length : GoodIn wsX7_queued (wsV RX7 97 RX2 yX2_length wsX2_length) := goodIn_app (goodIn_of _ (by decide +kernel)) ggX7_queued_X2_length
set_option maxRecDepth 20000 in
theorem ggX7_queued_X2_at : GoodIn wsX7_queued wsX2_at := goodIn_r _ [28, 24, 29, 52, 53] (by decide +kernel) (by decide +kernel)
set_option maxRecDepth 20000 in
theorem gX7_queued_X2_at : GoodIn wsX7_queued (wsV RX7 162 RX2 yX2_at wsX2_at) := goodIn_app (goodIn_of _ (by decide +kernel)) ggX7_queued_X2_at
theorem dX7_queued_0 : decode cX7_queued 0 = .ok (.aload_n 0, 1) := by decide +kernel
theorem dX7_queued_1 : decode cX7_queued 1 = .ok (.getfield 12, 3) := by decide +kernel
theorem dX7_queued_4 : decode cX7_queued 4 = .ok (.iload_n 1, 1) := by decide +kernel
theorem dX7_queued_5 : decode cX7_queued 5 = .ok (.iload_n 2, 1) := by decide +kernel
theorem dX7_queued_6 : decode cX7_queued 6 = .ok (.invokevirtual 155, 3) := by decide +kernel
theorem dX7_queued_9 : decode cX7_queued 9 = .ok (.ifCond .eq 8, 3) := by decide +kernel
theorem dX7_queued_12 : decode cX7_queued 12 = .ok (.iload_n 3, 1) := by decide +kernel
theorem dX7_queued_13 : decode cX7_queued 13 = .ok (.iconst (-1), 1) := by decide +kernel
theorem dX7_queued_14 : decode cX7_queued 14 = .ok (.if_icmp .ge 5, 3) := by decide +kernel
theorem dX7_queued_17 : decode cX7_queued 17 = .ok (.iconst (-1), 1) := by decide +kernel
theorem dX7_queued_18 : decode cX7_queued 18 = .ok (.ireturn, 1) := by decide +kernel
theorem dX7_queued_19 : decode cX7_queued 19 = .ok (.aload_n 0, 1) := by decide +kernel
theorem dX7_queued_20 : decode cX7_queued 20 = .ok (.getfield 12, 3) := by decide +kernel
theorem dX7_queued_23 : decode cX7_queued 23 = .ok (.iload_n 1, 1) := by decide +kernel
theorem dX7_queued_24 : decode cX7_queued 24 = .ok (.iload_n 2, 1) := by decide +kernel
theorem dX7_queued_25 : decode cX7_queued 25 = .ok (.invokevirtual 158, 3) := by decide +kernel
theorem dX7_queued_28 : decode cX7_queued 28 = .ok (.astore 4, 2) := by decide +kernel
theorem dX7_queued_30 : decode cX7_queued 30 = .ok (.iload_n 3, 1) := by decide +kernel
theorem dX7_queued_31 : decode cX7_queued 31 = .ok (.iconst (-1), 1) := by decide +kernel
theorem dX7_queued_32 : decode cX7_queued 32 = .ok (.if_icmp .ne 9, 3) := by decide +kernel
theorem dX7_queued_35 : decode cX7_queued 35 = .ok (.aload 4, 2) := by decide +kernel
theorem dX7_queued_37 : decode cX7_queued 37 = .ok (.invokevirtual 97, 3) := by decide +kernel
theorem dX7_queued_40 : decode cX7_queued 40 = .ok (.ireturn, 1) := by decide +kernel
theorem dX7_queued_41 : decode cX7_queued 41 = .ok (.iload_n 3, 1) := by decide +kernel
theorem dX7_queued_42 : decode cX7_queued 42 = .ok (.aload 4, 2) := by decide +kernel
theorem dX7_queued_44 : decode cX7_queued 44 = .ok (.invokevirtual 97, 3) := by decide +kernel
theorem dX7_queued_47 : decode cX7_queued 47 = .ok (.if_icmp .ge 12, 3) := by decide +kernel
theorem dX7_queued_50 : decode cX7_queued 50 = .ok (.aload 4, 2) := by decide +kernel
theorem dX7_queued_52 : decode cX7_queued 52 = .ok (.iload_n 3, 1) := by decide +kernel
theorem dX7_queued_53 : decode cX7_queued 53 = .ok (.invokevirtual 162, 3) := by decide +kernel
theorem dX7_queued_56 : decode cX7_queued 56 = .ok (.goto 5, 3) := by decide +kernel
theorem dX7_queued_59 : decode cX7_queued 59 = .ok (.bipush (-9), 2) := by decide +kernel
theorem dX7_queued_61 : decode cX7_queued 61 = .ok (.ireturn, 1) := by decide +kernel
set_option maxRecDepth 20000 in
theorem ggX7_served_X5_hasProxy : GoodIn wsX7_served wsX5_hasProxy := goodIn_r _ [7, 8, 48, 49, 50, 51, 52, 53, 54, 55, 56, 57, 58, 59, 60, 61, 62, 63] (by decide +kernel) (by decide +kernel)
set_option maxRecDepth 20000 in
theorem gX7_served_X5_hasProxy : GoodIn wsX7_served (wsV RX7 74 RX5 yX5_hasProxy wsX5_hasProxy) := goodIn_app (goodIn_of _ (by decide +kernel)) ggX7_served_X5_hasProxy
set_option maxRecDepth 20000 in
theorem ggX7_served_X7_isOrigin : GoodIn wsX7_served wsX7_isOrigin := goodIn_r _ [12] (by decide +kernel) (by decide +kernel)
set_option maxRecDepth 20000 in
theorem gX7_served_X7_isOrigin : GoodIn wsX7_served (va_wsS RX7 138 yX7_isOrigin wsX7_isOrigin) := goodIn_app (goodIn_of _ (by decide +kernel)) ggX7_served_X7_isOrigin
set_option maxRecDepth 20000 in
theorem ggX7_served_X0_servedOf : GoodIn wsX7_served wsX0_servedOf := goodIn_r _ [17, 18, 19, 20, 16, 21, 22, 23, 24, 25, 26, 6, 27, 28, 29, 30, 31, 32, 33, 34, 35, 36, 37, 38, 39, 40, 41, 64, 65, 66, 48, 49, 50, 51, 52, 53, 54, 55, 56, 57, 58, 59, 60, 61, 62, 63] (by decide +kernel) (by decide +kernel)
set_option maxRecDepth 20000 in
theorem gX7_served_X0_servedOf : GoodIn wsX7_served (wsV RX7 182 RX0 yX0_servedOf wsX0_servedOf) := goodIn_app (goodIn_of _ (by decide +kernel)) ggX7_served_X0_servedOf
theorem dX7_served_0 : decode cX7_served 0 = .ok (.aload_n 0, 1) := by decide +kernel
theorem dX7_served_1 : decode cX7_served 1 = .ok (.getfield 12, 3) := by decide +kernel
theorem dX7_served_4 : decode cX7_served 4 = .ok (.iload_n 1, 1) := by decide +kernel
theorem dX7_served_5 : decode cX7_served 5 = .ok (.invokevirtual 74, 3) := by decide +kernel
theorem dX7_served_8 : decode cX7_served 8 = .ok (.ifCond .eq 10, 3) := by decide +kernel
theorem dX7_served_11 : decode cX7_served 11 = .ok (.iload_n 2, 1) := by decide +kernel
theorem dX7_served_12 : decode cX7_served 12 = .ok (.invokestatic 138, 3) := by decide +kernel
theorem dX7_served_15 : decode cX7_served 15 = .ok (.ifCond .ne 5, 3) := by decide +kernel
theorem dX7_served_18 : decode cX7_served 18 = .ok (.iconst (-1), 1) := by decide +kernel
theorem dX7_served_19 : decode cX7_served 19 = .ok (.ireturn, 1) := by decide +kernel
theorem dX7_served_20 : decode cX7_served 20 = .ok (.aload_n 0, 1) := by decide +kernel
theorem dX7_served_21 : decode cX7_served 21 = .ok (.getfield 21, 3) := by decide +kernel
theorem dX7_served_24 : decode cX7_served 24 = .ok (.iload_n 1, 1) := by decide +kernel
theorem dX7_served_25 : decode cX7_served 25 = .ok (.iload_n 2, 1) := by decide +kernel
theorem dX7_served_26 : decode cX7_served 26 = .ok (.invokevirtual 182, 3) := by decide +kernel
theorem dX7_served_29 : decode cX7_served 29 = .ok (.ireturn, 1) := by decide +kernel
set_option maxRecDepth 20000 in
theorem ggX7_status_X5_hasProxy : GoodIn wsX7_status wsX5_hasProxy := goodIn_r _ [7, 8, 85, 86, 87, 88, 89, 90, 91, 92, 93, 94, 95, 96, 97, 98, 99, 100] (by decide +kernel) (by decide +kernel)
set_option maxRecDepth 20000 in
theorem gX7_status_X5_hasProxy : GoodIn wsX7_status (wsV RX7 74 RX5 yX5_hasProxy wsX5_hasProxy) := goodIn_app (goodIn_of _ (by decide +kernel)) ggX7_status_X5_hasProxy
set_option maxRecDepth 20000 in
theorem ggX7_status_X5_wasWritten : GoodIn wsX7_status wsX5_wasWritten := goodIn_r _ [12, 13, 14, 15, 16, 17, 18, 6, 19, 20, 85, 86, 87, 88, 89, 90, 91, 92, 93, 94, 95, 96, 97, 98, 99, 100] (by decide +kernel) (by decide +kernel)
set_option maxRecDepth 20000 in
theorem gX7_status_X5_wasWritten : GoodIn wsX7_status (wsV RX7 141 RX5 yX5_wasWritten wsX5_wasWritten) := goodIn_app (goodIn_of _ (by decide +kernel)) ggX7_status_X5_wasWritten
set_option maxRecDepth 20000 in
theorem ggX7_status_X5_knows : GoodIn wsX7_status wsX5_knows := goodIn_r _ [24, 25, 26, 27, 6, 28, 29, 30, 31, 32, 33, 85, 86, 87, 88, 89, 90, 91, 92, 93, 94, 95, 96, 97, 98, 99, 100] (by decide +kernel) (by decide +kernel)
set_option maxRecDepth 20000 in
theorem gX7_status_X5_knows : GoodIn wsX7_status (wsV RX7 185 RX5 yX5_knows wsX5_knows) := goodIn_app (goodIn_of _ (by decide +kernel)) ggX7_status_X5_knows
set_option maxRecDepth 20000 in
theorem ggX7_status_X0_servedOf : GoodIn wsX7_status wsX0_servedOf := goodIn_r _ [38, 39, 40, 41, 37, 42, 43, 44, 45, 26, 27, 6, 28, 29, 46, 47, 32, 48, 49, 50, 51, 52, 53, 54, 55, 56, 57, 101, 102, 103, 85, 86, 87, 88, 89, 90, 91, 92, 93, 94, 95, 96, 97, 98, 99, 100] (by decide +kernel) (by decide +kernel)
set_option maxRecDepth 20000 in
theorem gX7_status_X0_servedOf : GoodIn wsX7_status (wsV RX7 182 RX0 yX0_servedOf wsX0_servedOf) := goodIn_app (goodIn_of _ (by decide +kernel)) ggX7_status_X0_servedOf
set_option maxRecDepth 20000 in
theorem ggX7_status_X7_updateOf : GoodIn wsX7_status wsX7_updateOf := goodIn_r _ [60] (by decide +kernel) (by decide +kernel)
set_option maxRecDepth 20000 in
theorem gX7_status_X7_updateOf : GoodIn wsX7_status (va_wsS RX7 189 yX7_updateOf wsX7_updateOf) := goodIn_app (goodIn_of _ (by decide +kernel)) ggX7_status_X7_updateOf
set_option maxRecDepth 20000 in
theorem ggX7_status_X5_keeps : GoodIn wsX7_status wsX5_keeps := goodIn_r _ [64, 65, 66, 67, 6, 68, 69, 70, 71, 4, 5, 7, 8, 72, 73, 74, 75, 76, 77, 78, 85, 86, 87, 88, 89, 90, 91, 92, 93, 94, 95, 96, 97, 98, 99, 100, 104, 105] (by decide +kernel) (by decide +kernel)
set_option maxRecDepth 20000 in
theorem gX7_status_X5_keeps : GoodIn wsX7_status (wsV RX7 192 RX5 yX5_keeps wsX5_keeps) := goodIn_app (goodIn_of _ (by decide +kernel)) ggX7_status_X5_keeps
theorem dX7_status_0 : decode cX7_status 0 = .ok (.aload_n 0, 1) := by decide +kernel
theorem dX7_status_1 : decode cX7_status 1 = .ok (.getfield 12, 3) := by decide +kernel
theorem dX7_status_4 : decode cX7_status 4 = .ok (.iload_n 1, 1) := by decide +kernel
theorem dX7_status_5 : decode cX7_status 5 = .ok (.invokevirtual 74, 3) := by decide +kernel
theorem dX7_status_8 : decode cX7_status 8 = .ok (.ifCond .eq 15, 3) := by decide +kernel
theorem dX7_status_11 : decode cX7_status 11 = .ok (.aload_n 0, 1) := by decide +kernel
theorem dX7_status_12 : decode cX7_status 12 = .ok (.getfield 12, 3) := by decide +kernel
theorem dX7_status_15 : decode cX7_status 15 = .ok (.iload_n 2, 1) := by decide +kernel
theorem dX7_status_16 : decode cX7_status 16 = .ok (.iload_n 3, 1) := by decide +kernel
theorem dX7_status_17 : decode cX7_status 17 = .ok (.invokevirtual 141, 3) := by decide +kernel
theorem dX7_status_20 : decode cX7_status 20 = .ok (.ifCond .ne 5, 3) := by decide +kernel
theorem dX7_status_23 : decode cX7_status 23 = .ok (.iconst (-1), 1) := by decide +kernel
theorem dX7_status_24 : decode cX7_status 24 = .ok (.ireturn, 1) := by decide +kernel
theorem dX7_status_25 : decode cX7_status 25 = .ok (.aload_n 0, 1) := by decide +kernel
theorem dX7_status_26 : decode cX7_status 26 = .ok (.getfield 12, 3) := by decide +kernel
theorem dX7_status_29 : decode cX7_status 29 = .ok (.iload_n 1, 1) := by decide +kernel
theorem dX7_status_30 : decode cX7_status 30 = .ok (.iload_n 2, 1) := by decide +kernel
theorem dX7_status_31 : decode cX7_status 31 = .ok (.iload_n 3, 1) := by decide +kernel
theorem dX7_status_32 : decode cX7_status 32 = .ok (.invokevirtual 185, 3) := by decide +kernel
theorem dX7_status_35 : decode cX7_status 35 = .ok (.ifCond .ne 5, 3) := by decide +kernel
theorem dX7_status_38 : decode cX7_status 38 = .ok (.iconst 0, 1) := by decide +kernel
theorem dX7_status_39 : decode cX7_status 39 = .ok (.ireturn, 1) := by decide +kernel
theorem dX7_status_40 : decode cX7_status 40 = .ok (.iload_n 3, 1) := by decide +kernel
theorem dX7_status_41 : decode cX7_status 41 = .ok (.aload_n 0, 1) := by decide +kernel
theorem dX7_status_42 : decode cX7_status 42 = .ok (.getfield 21, 3) := by decide +kernel
theorem dX7_status_45 : decode cX7_status 45 = .ok (.iload_n 1, 1) := by decide +kernel
theorem dX7_status_46 : decode cX7_status 46 = .ok (.iload_n 2, 1) := by decide +kernel
theorem dX7_status_47 : decode cX7_status 47 = .ok (.invokevirtual 182, 3) := by decide +kernel
theorem dX7_status_50 : decode cX7_status 50 = .ok (.if_icmp .le 5, 3) := by decide +kernel
theorem dX7_status_53 : decode cX7_status 53 = .ok (.iconst 1, 1) := by decide +kernel
theorem dX7_status_54 : decode cX7_status 54 = .ok (.ireturn, 1) := by decide +kernel
theorem dX7_status_55 : decode cX7_status 55 = .ok (.aload_n 0, 1) := by decide +kernel
theorem dX7_status_56 : decode cX7_status 56 = .ok (.getfield 12, 3) := by decide +kernel
theorem dX7_status_59 : decode cX7_status 59 = .ok (.iload_n 1, 1) := by decide +kernel
theorem dX7_status_60 : decode cX7_status 60 = .ok (.iload_n 2, 1) := by decide +kernel
theorem dX7_status_61 : decode cX7_status 61 = .ok (.iload_n 3, 1) := by decide +kernel
theorem dX7_status_62 : decode cX7_status 62 = .ok (.invokestatic 189, 3) := by decide +kernel
theorem dX7_status_65 : decode cX7_status 65 = .ok (.invokevirtual 192, 3) := by decide +kernel
theorem dX7_status_68 : decode cX7_status 68 = .ok (.ifCond .eq 7, 3) := by decide +kernel
theorem dX7_status_71 : decode cX7_status 71 = .ok (.iconst 3, 1) := by decide +kernel
theorem dX7_status_72 : decode cX7_status 72 = .ok (.goto 4, 3) := by decide +kernel
theorem dX7_status_75 : decode cX7_status 75 = .ok (.iconst 2, 1) := by decide +kernel
theorem dX7_status_76 : decode cX7_status 76 = .ok (.ireturn, 1) := by decide +kernel
set_option maxRecDepth 20000 in
theorem ggX7_missing_X5_hasProxy : GoodIn wsX7_missing wsX5_hasProxy := goodIn_r _ [7, 8, 60, 61, 62, 63, 64, 65, 66, 67, 68, 69, 70, 71, 72, 73, 74, 75] (by decide +kernel) (by decide +kernel)
set_option maxRecDepth 20000 in
theorem gX7_missing_X5_hasProxy : GoodIn wsX7_missing (wsV RX7 74 RX5 yX5_hasProxy wsX5_hasProxy) := goodIn_app (goodIn_of _ (by decide +kernel)) ggX7_missing_X5_hasProxy
set_option maxRecDepth 20000 in
theorem ggX7_missing_X5_wasWritten : GoodIn wsX7_missing wsX5_wasWritten := goodIn_r _ [12, 13, 14, 15, 16, 17, 18, 6, 19, 20, 60, 61, 62, 63, 64, 65, 66, 67, 68, 69, 70, 71, 72, 73, 74, 75] (by decide +kernel) (by decide +kernel)
set_option maxRecDepth 20000 in
theorem gX7_missing_X5_wasWritten : GoodIn wsX7_missing (wsV RX7 141 RX5 yX5_wasWritten wsX5_wasWritten) := goodIn_app (goodIn_of _ (by decide +kernel)) ggX7_missing_X5_wasWritten
set_option maxRecDepth 20000 in
theorem ggX7_missing_X0_countMissing : GoodIn wsX7_missing wsX0_countMissing := goodIn_r _ [25, 26, 27, 28, 29, 30, 24, 31, 32, 33, 34, 35, 36, 37, 38, 6, 39, 40, 41, 42, 43, 44, 45, 46, 47, 48, 49, 50, 51, 52, 53, 76, 77, 78, 60, 61, 62, 63, 64, 65, 66, 67, 68, 69, 70, 71, 72, 73, 74, 75] (by decide +kernel) (by decide +kernel)
set_option maxRecDepth 20000 in
theorem gX7_missing_X0_countMissing : GoodIn wsX7_missing (wsV RX7 195 RX0 yX0_countMissing wsX0_countMissing) := goodIn_app (goodIn_of _ (by decide +kernel)) ggX7_missing_X0_countMissing
theorem dX7_missing_0 : decode cX7_missing 0 = .ok (.aload_n 0, 1) := by decide +kernel
theorem dX7_missing_1 : decode cX7_missing 1 = .ok (.getfield 12, 3) := by decide +kernel
theorem dX7_missing_4 : decode cX7_missing 4 = .ok (.iload_n 1, 1) := by decide +kernel
theorem dX7_missing_5 : decode cX7_missing 5 = .ok (.invokevirtual 74, 3) := by decide +kernel
theorem dX7_missing_8 : decode cX7_missing 8 = .ok (.ifCond .eq 15, 3) := by decide +kernel
theorem dX7_missing_11 : decode cX7_missing 11 = .ok (.aload_n 0, 1) := by decide +kernel
theorem dX7_missing_12 : decode cX7_missing 12 = .ok (.getfield 12, 3) := by decide +kernel
theorem dX7_missing_15 : decode cX7_missing 15 = .ok (.iload_n 2, 1) := by decide +kernel
theorem dX7_missing_16 : decode cX7_missing 16 = .ok (.iload_n 3, 1) := by decide +kernel
theorem dX7_missing_17 : decode cX7_missing 17 = .ok (.invokevirtual 141, 3) := by decide +kernel
theorem dX7_missing_20 : decode cX7_missing 20 = .ok (.ifCond .ne 5, 3) := by decide +kernel
theorem dX7_missing_23 : decode cX7_missing 23 = .ok (.iconst (-1), 1) := by decide +kernel
theorem dX7_missing_24 : decode cX7_missing 24 = .ok (.ireturn, 1) := by decide +kernel
theorem dX7_missing_25 : decode cX7_missing 25 = .ok (.aload_n 0, 1) := by decide +kernel
theorem dX7_missing_26 : decode cX7_missing 26 = .ok (.getfield 21, 3) := by decide +kernel
theorem dX7_missing_29 : decode cX7_missing 29 = .ok (.iload_n 1, 1) := by decide +kernel
theorem dX7_missing_30 : decode cX7_missing 30 = .ok (.iload_n 2, 1) := by decide +kernel
theorem dX7_missing_31 : decode cX7_missing 31 = .ok (.iload_n 3, 1) := by decide +kernel
theorem dX7_missing_32 : decode cX7_missing 32 = .ok (.invokevirtual 195, 3) := by decide +kernel
theorem dX7_missing_35 : decode cX7_missing 35 = .ok (.ireturn, 1) := by decide +kernel
set_option maxRecDepth 20000 in
theorem ggX7_kept_X5_hasProxy : GoodIn wsX7_kept wsX5_hasProxy := goodIn_r _ [6, 7, 32, 33, 34, 35, 36, 37, 38, 39, 40, 41, 42, 43, 44, 45, 46, 47] (by decide +kernel) (by decide +kernel)
set_option maxRecDepth 20000 in
theorem gX7_kept_X5_hasProxy : GoodIn wsX7_kept (wsV RX7 74 RX5 yX5_hasProxy wsX5_hasProxy) := goodIn_app (goodIn_of _ (by decide +kernel)) ggX7_kept_X5_hasProxy
set_option maxRecDepth 20000 in
theorem ggX7_kept_X5_contentsOf : GoodIn wsX7_kept wsX5_contentsOf := goodIn_r _ [11, 12, 13, 14, 3, 4, 5, 6, 7, 32, 33, 34, 35, 36, 37, 38, 39, 40, 41, 42, 43, 44, 45, 46, 47] (by decide +kernel) (by decide +kernel)
set_option maxRecDepth 20000 in
theorem gX7_kept_X5_contentsOf : GoodIn wsX7_kept (wsV RX7 93 RX5 yX5_contentsOf wsX5_contentsOf) := goodIn_app (goodIn_of _ (by decide +kernel)) ggX7_kept_X5_contentsOf
set_option maxRecDepth 20000 in
theorem ggX7_kept_X2_length : GoodIn wsX7_kept wsX2_length := goodIn_r _ [19, 20, 48, 49] (by decide +kernel) (by decide +kernel)
set_option maxRecDepth 20000 in
theorem gX7_kept_X2_length : GoodIn wsX7_kept (wsV RX7 97 RX2 yX2_length wsX2_length) := goodIn_app (goodIn_of _ (by decide +kernel)) ggX7_kept_X2_length
set_option maxRecDepth 20000 in
theorem ggX7_kept_X2_at : GoodIn wsX7_kept wsX2_at := goodIn_r _ [24, 20, 25, 48, 49] (by decide +kernel) (by decide +kernel)
set_option maxRecDepth 20000 in
theorem gX7_kept_X2_at : GoodIn wsX7_kept (wsV RX7 162 RX2 yX2_at wsX2_at) := goodIn_app (goodIn_of _ (by decide +kernel)) ggX7_kept_X2_at
theorem dX7_kept_0 : decode cX7_kept 0 = .ok (.aload_n 0, 1) := by decide +kernel
theorem dX7_kept_1 : decode cX7_kept 1 = .ok (.getfield 12, 3) := by decide +kernel
theorem dX7_kept_4 : decode cX7_kept 4 = .ok (.iload_n 1, 1) := by decide +kernel
theorem dX7_kept_5 : decode cX7_kept 5 = .ok (.invokevirtual 74, 3) := by decide +kernel
theorem dX7_kept_8 : decode cX7_kept 8 = .ok (.ifCond .eq 7, 3) := by decide +kernel
theorem dX7_kept_11 : decode cX7_kept 11 = .ok (.iload_n 2, 1) := by decide +kernel
theorem dX7_kept_12 : decode cX7_kept 12 = .ok (.ifCond .ge 5, 3) := by decide +kernel
theorem dX7_kept_15 : decode cX7_kept 15 = .ok (.iconst (-1), 1) := by decide +kernel
theorem dX7_kept_16 : decode cX7_kept 16 = .ok (.ireturn, 1) := by decide +kernel
theorem dX7_kept_17 : decode cX7_kept 17 = .ok (.aload_n 0, 1) := by decide +kernel
theorem dX7_kept_18 : decode cX7_kept 18 = .ok (.getfield 12, 3) := by decide +kernel
theorem dX7_kept_21 : decode cX7_kept 21 = .ok (.iload_n 1, 1) := by decide +kernel
theorem dX7_kept_22 : decode cX7_kept 22 = .ok (.invokevirtual 93, 3) := by decide +kernel
theorem dX7_kept_25 : decode cX7_kept 25 = .ok (.astore_n 3, 1) := by decide +kernel
theorem dX7_kept_26 : decode cX7_kept 26 = .ok (.iload_n 2, 1) := by decide +kernel
theorem dX7_kept_27 : decode cX7_kept 27 = .ok (.aload_n 3, 1) := by decide +kernel
theorem dX7_kept_28 : decode cX7_kept 28 = .ok (.invokevirtual 97, 3) := by decide +kernel
theorem dX7_kept_31 : decode cX7_kept 31 = .ok (.if_icmp .ge 11, 3) := by decide +kernel
theorem dX7_kept_34 : decode cX7_kept 34 = .ok (.aload_n 3, 1) := by decide +kernel
theorem dX7_kept_35 : decode cX7_kept 35 = .ok (.iload_n 2, 1) := by decide +kernel
theorem dX7_kept_36 : decode cX7_kept 36 = .ok (.invokevirtual 162, 3) := by decide +kernel
theorem dX7_kept_39 : decode cX7_kept 39 = .ok (.goto 5, 3) := by decide +kernel
theorem dX7_kept_42 : decode cX7_kept 42 = .ok (.bipush (-9), 2) := by decide +kernel
theorem dX7_kept_44 : decode cX7_kept 44 = .ok (.ireturn, 1) := by decide +kernel
set_option maxRecDepth 20000 in
theorem ggX7_read_X1_stage : GoodIn wsX7_read wsX1_stage := goodIn_r _ [8, 9, 10, 11, 12, 13, 14, 15, 16, 17, 18, 19, 20, 21, 22, 23, 24, 25, 26, 27, 28, 29, 30, 31, 32, 33, 34, 35, 36, 37, 38, 39, 40, 41, 42, 43, 44, 45, 46, 47, 48, 49, 50, 171, 172, 173, 174, 175, 176, 177, 178, 179, 180, 181, 182, 183, 184, 185, 186, 187, 188, 189, 190, 191] (by decide +kernel) (by decide +kernel)
set_option maxRecDepth 20000 in
theorem gX7_read_X1_stage : GoodIn wsX7_read (wsV RX7 57 RX1 yX1_stage wsX1_stage) := goodIn_app (goodIn_of _ (by decide +kernel)) ggX7_read_X1_stage
set_option maxRecDepth 20000 in
theorem ggX7_read_X3_fetchContent : GoodIn wsX7_read wsX3_fetchContent := goodIn_r _ [55, 56, 57, 58, 59, 60, 18, 61, 20, 62, 63, 64, 65, 66, 67, 68, 69, 70, 71, 72, 33, 73, 74, 75, 76, 77, 78, 79, 80, 81, 82, 83, 84, 85, 86, 87, 34, 88, 89, 90, 91, 92, 93, 94, 95, 35, 96, 97, 98, 99, 100, 101, 102, 103, 104, 54, 105, 106, 107, 108, 109, 110, 111, 112, 113, 36, 114, 115, 116, 117, 118, 42, 119, 50, 44, 120, 121, 122, 123, 27, 124, 125, 126, 127, 128, 129, 130, 131, 132, 133, 134, 135, 136, 137, 138, 139, 140, 141, 142, 143, 144, 145, 146, 147, 148, 149, 150, 151, 152, 153, 154, 192, 193, 194, 174, 175, 176, 177, 178, 179, 180, 181, 182, 183, 184, 185, 186, 187, 188, 189, 195, 196, 197, 190, 191] (by decide +kernel) (by decide +kernel)
set_option maxRecDepth 20000 in
theorem gX7_read_X3_fetchContent : GoodIn wsX7_read (wsV RX7 198 RX3 yX3_fetchContent wsX3_fetchContent) := goodIn_app (goodIn_of _ (by decide +kernel)) ggX7_read_X3_fetchContent
set_option maxRecDepth 20000 in
theorem ggX7_read_X7_commitIfDone : GoodIn wsX7_read wsX7_commitIfDone := goodIn_r _ [158, 1, 159, 160, 161, 7, 162, 10, 163, 164, 46, 47, 48, 11, 12, 13, 14, 165, 166, 167, 168, 169, 170, 171, 172, 173] (by decide +kernel) (by decide +kernel)
set_option maxRecDepth 20000 in
theorem gX7_read_X7_commitIfDone : GoodIn wsX7_read (wsV RX7 64 RX7 yX7_commitIfDone wsX7_commitIfDone) := goodIn_app (goodIn_of _ (by decide +kernel)) ggX7_read_X7_commitIfDone
theorem dX7_read_0 : decode cX7_read 0 = .ok (.aload_n 0, 1) := by decide +kernel
theorem dX7_read_1 : decode cX7_read 1 = .ok (.getfield 37, 3) := by decide +kernel
theorem dX7_read_4 : decode cX7_read 4 = .ok (.aload_n 0, 1) := by decide +kernel
theorem dX7_read_5 : decode cX7_read 5 = .ok (.getfield 12, 3) := by decide +kernel
theorem dX7_read_8 : decode cX7_read 8 = .ok (.invokevirtual 57, 3) := by decide +kernel
theorem dX7_read_11 : decode cX7_read 11 = .ok (.aload_n 0, 1) := by decide +kernel
theorem dX7_read_12 : decode cX7_read 12 = .ok (.aload_n 0, 1) := by decide +kernel
theorem dX7_read_13 : decode cX7_read 13 = .ok (.getfield 30, 3) := by decide +kernel
theorem dX7_read_16 : decode cX7_read 16 = .ok (.iload_n 1, 1) := by decide +kernel
theorem dX7_read_17 : decode cX7_read 17 = .ok (.iload_n 2, 1) := by decide +kernel
theorem dX7_read_18 : decode cX7_read 18 = .ok (.iload_n 3, 1) := by decide +kernel
theorem dX7_read_19 : decode cX7_read 19 = .ok (.invokevirtual 198, 3) := by decide +kernel
theorem dX7_read_22 : decode cX7_read 22 = .ok (.invokevirtual 64, 3) := by decide +kernel
theorem dX7_read_25 : decode cX7_read 25 = .ok (.ireturn, 1) := by decide +kernel
set_option maxRecDepth 20000 in
theorem ggX7_ask_X1_stage : GoodIn wsX7_ask wsX1_stage := goodIn_r _ [8, 9, 10, 11, 12, 13, 14, 15, 16, 17, 18, 19, 20, 21, 22, 23, 24, 25, 26, 27, 28, 29, 30, 31, 32, 33, 34, 35, 36, 37, 38, 39, 40, 41, 42, 43, 44, 45, 46, 47, 48, 49, 50, 213, 214, 215, 216, 217, 218, 219, 220, 221, 222, 223, 224, 225, 226, 227, 228, 229, 230, 231, 232, 233] (by decide +kernel) (by decide +kernel)
set_option maxRecDepth 20000 in
theorem gX7_ask_X1_stage : GoodIn wsX7_ask (wsV RX7 57 RX1 yX1_stage wsX1_stage) := goodIn_app (goodIn_of _ (by decide +kernel)) ggX7_ask_X1_stage
set_option maxRecDepth 20000 in
theorem ggX7_ask_X3_askUpward : GoodIn wsX7_ask wsX3_askUpward := goodIn_r _ [55, 56, 57, 58, 59, 60, 18, 61, 20, 62, 63, 64, 65, 66, 67, 68, 69, 27, 70, 71, 72, 54, 73, 74, 75, 76, 77, 42, 78, 50, 79, 80, 81, 82, 34, 83, 84, 85, 86, 87, 88, 89, 90, 91, 92, 93, 94, 95, 96, 97, 98, 99, 100, 101, 44, 102, 103, 104, 105, 106, 107, 108, 109, 110, 111, 112, 113, 114, 115, 116, 117, 118, 119, 120, 121, 122, 123, 124, 125, 126, 127, 128, 129, 130, 131, 132, 133, 134, 135, 136, 137, 138, 139, 140, 141, 142, 143, 144, 145, 146, 147, 36, 148, 149, 150, 151, 152, 153, 154, 155, 156, 157, 158, 159, 160, 161, 162, 163, 164, 165, 166, 167, 35, 168, 169, 170, 171, 172, 173, 174, 175, 176, 177, 178, 179, 180, 181, 182, 183, 184, 185, 186, 187, 37, 38, 188, 189, 190, 191, 192, 193, 194, 195, 196, 234, 235, 236, 216, 217, 218, 219, 220, 221, 222, 223, 224, 225, 226, 227, 228, 229, 230, 231, 232, 233, 237, 238, 239] (by decide +kernel) (by decide +kernel)
set_option maxRecDepth 20000 in
theorem gX7_ask_X3_askUpward : GoodIn wsX7_ask (wsV RX7 201 RX3 yX3_askUpward wsX3_askUpward) := goodIn_app (goodIn_of _ (by decide +kernel)) ggX7_ask_X3_askUpward
set_option maxRecDepth 20000 in
theorem ggX7_ask_X7_commitIfDone : GoodIn wsX7_ask wsX7_commitIfDone := goodIn_r _ [200, 1, 201, 202, 203, 7, 204, 10, 205, 206, 46, 47, 48, 11, 12, 13, 14, 207, 208, 209, 210, 211, 212, 213, 214, 215] (by decide +kernel) (by decide +kernel)
set_option maxRecDepth 20000 in
theorem gX7_ask_X7_commitIfDone : GoodIn wsX7_ask (wsV RX7 64 RX7 yX7_commitIfDone wsX7_commitIfDone) := goodIn_app (goodIn_of _ (by decide +kernel)) ggX7_ask_X7_commitIfDone
theorem dX7_ask_0 : decode cX7_ask 0 = .ok (.aload_n 0, 1) := by decide +kernel
theorem dX7_ask_1 : decode cX7_ask 1 = .ok (.getfield 37, 3) := by decide +kernel
theorem dX7_ask_4 : decode cX7_ask 4 = .ok (.aload_n 0, 1) := by decide +kernel
theorem dX7_ask_5 : decode cX7_ask 5 = .ok (.getfield 12, 3) := by decide +kernel
theorem dX7_ask_8 : decode cX7_ask 8 = .ok (.invokevirtual 57, 3) := by decide +kernel
theorem dX7_ask_11 : decode cX7_ask 11 = .ok (.aload_n 0, 1) := by decide +kernel
theorem dX7_ask_12 : decode cX7_ask 12 = .ok (.aload_n 0, 1) := by decide +kernel
theorem dX7_ask_13 : decode cX7_ask 13 = .ok (.getfield 30, 3) := by decide +kernel
theorem dX7_ask_16 : decode cX7_ask 16 = .ok (.iload_n 1, 1) := by decide +kernel
theorem dX7_ask_17 : decode cX7_ask 17 = .ok (.invokevirtual 201, 3) := by decide +kernel
theorem dX7_ask_20 : decode cX7_ask 20 = .ok (.invokevirtual 64, 3) := by decide +kernel
theorem dX7_ask_23 : decode cX7_ask 23 = .ok (.ireturn, 1) := by decide +kernel
set_option maxRecDepth 20000 in
theorem ggX7_upToDate_X5_writtenCount : GoodIn wsX7_upToDate wsX5_writtenCount := goodIn_r _ [7, 8, 9, 10, 6, 11, 12, 44, 45, 46, 47, 48, 49, 50, 51, 52, 53, 54, 55, 56, 57, 58, 59] (by decide +kernel) (by decide +kernel)
set_option maxRecDepth 20000 in
theorem gX7_upToDate_X5_writtenCount : GoodIn wsX7_upToDate (wsV RX7 117 RX5 yX5_writtenCount wsX5_writtenCount) := goodIn_app (goodIn_of _ (by decide +kernel)) ggX7_upToDate_X5_writtenCount
set_option maxRecDepth 20000 in
theorem ggX7_upToDate_X0_servedCount : GoodIn wsX7_upToDate wsX0_servedCount := goodIn_r _ [17, 18, 19, 20, 21, 16, 22, 23, 24, 25, 26, 6, 27, 28, 29, 30, 31, 32, 33, 34, 35, 36, 37, 60, 61, 62, 44, 45, 46, 47, 48, 49, 50, 51, 52, 53, 54, 55, 56, 57, 58, 59] (by decide +kernel) (by decide +kernel)
set_option maxRecDepth 20000 in
theorem gX7_upToDate_X0_servedCount : GoodIn wsX7_upToDate (wsV RX7 90 RX0 yX0_servedCount wsX0_servedCount) := goodIn_app (goodIn_of _ (by decide +kernel)) ggX7_upToDate_X0_servedCount
theorem dX7_upToDate_0 : decode cX7_upToDate 0 = .ok (.aload_n 0, 1) := by decide +kernel
theorem dX7_upToDate_1 : decode cX7_upToDate 1 = .ok (.getfield 12, 3) := by decide +kernel
theorem dX7_upToDate_4 : decode cX7_upToDate 4 = .ok (.invokevirtual 117, 3) := by decide +kernel
theorem dX7_upToDate_7 : decode cX7_upToDate 7 = .ok (.istore_n 1, 1) := by decide +kernel
theorem dX7_upToDate_8 : decode cX7_upToDate 8 = .ok (.iconst 0, 1) := by decide +kernel
theorem dX7_upToDate_9 : decode cX7_upToDate 9 = .ok (.istore_n 2, 1) := by decide +kernel
theorem dX7_upToDate_10 : decode cX7_upToDate 10 = .ok (.iconst 0, 1) := by decide +kernel
theorem dX7_upToDate_11 : decode cX7_upToDate 11 = .ok (.istore_n 3, 1) := by decide +kernel
theorem dX7_upToDate_12 : decode cX7_upToDate 12 = .ok (.iload_n 3, 1) := by decide +kernel
theorem dX7_upToDate_13 : decode cX7_upToDate 13 = .ok (.aload_n 0, 1) := by decide +kernel
theorem dX7_upToDate_14 : decode cX7_upToDate 14 = .ok (.getfield 12, 3) := by decide +kernel
theorem dX7_upToDate_17 : decode cX7_upToDate 17 = .ok (.getfield 107, 3) := by decide +kernel
theorem dX7_upToDate_20 : decode cX7_upToDate 20 = .ok (.if_icmp .ge 24, 3) := by decide +kernel
theorem dX7_upToDate_23 : decode cX7_upToDate 23 = .ok (.aload_n 0, 1) := by decide +kernel
theorem dX7_upToDate_24 : decode cX7_upToDate 24 = .ok (.getfield 21, 3) := by decide +kernel
theorem dX7_upToDate_27 : decode cX7_upToDate 27 = .ok (.iload_n 3, 1) := by decide +kernel
theorem dX7_upToDate_28 : decode cX7_upToDate 28 = .ok (.invokevirtual 90, 3) := by decide +kernel
theorem dX7_upToDate_31 : decode cX7_upToDate 31 = .ok (.iload_n 1, 1) := by decide +kernel
theorem dX7_upToDate_32 : decode cX7_upToDate 32 = .ok (.if_icmp .ne 6, 3) := by decide +kernel
theorem dX7_upToDate_35 : decode cX7_upToDate 35 = .ok (.iinc 2 1, 3) := by decide +kernel
theorem dX7_upToDate_38 : decode cX7_upToDate 38 = .ok (.iinc 3 1, 3) := by decide +kernel
theorem dX7_upToDate_41 : decode cX7_upToDate 41 = .ok (.goto (-29), 3) := by decide +kernel
theorem dX7_upToDate_44 : decode cX7_upToDate 44 = .ok (.iload_n 2, 1) := by decide +kernel
theorem dX7_upToDate_45 : decode cX7_upToDate 45 = .ok (.ireturn, 1) := by decide +kernel
set_option maxRecDepth 20000 in
theorem ggX7_commitIfDone_X1_commit : GoodIn wsX7_commitIfDone wsX1_commit := goodIn_r _ [6, 7, 8, 9, 10, 11, 12, 13, 14, 15, 16, 23, 24, 25] (by decide +kernel) (by decide +kernel)
set_option maxRecDepth 20000 in
theorem gX7_commitIfDone_X1_commit : GoodIn wsX7_commitIfDone (wsV RX7 214 RX1 yX1_commit wsX1_commit) := goodIn_app (goodIn_of _ (by decide +kernel)) ggX7_commitIfDone_X1_commit
theorem dX7_commitIfDone_0 : decode cX7_commitIfDone 0 = .ok (.iload_n 1, 1) := by decide +kernel
theorem dX7_commitIfDone_1 : decode cX7_commitIfDone 1 = .ok (.ifCond .lt 10, 3) := by decide +kernel
theorem dX7_commitIfDone_4 : decode cX7_commitIfDone 4 = .ok (.aload_n 0, 1) := by decide +kernel
theorem dX7_commitIfDone_5 : decode cX7_commitIfDone 5 = .ok (.getfield 37, 3) := by decide +kernel
theorem dX7_commitIfDone_8 : decode cX7_commitIfDone 8 = .ok (.invokevirtual 214, 3) := by decide +kernel
theorem dX7_commitIfDone_11 : decode cX7_commitIfDone 11 = .ok (.iload_n 1, 1) := by decide +kernel
theorem dX7_commitIfDone_12 : decode cX7_commitIfDone 12 = .ok (.ireturn, 1) := by decide +kernel
theorem dX7_isOrigin_0 : decode cX7_isOrigin 0 = .ok (.iload_n 0, 1) := by decide +kernel
theorem dX7_isOrigin_1 : decode cX7_isOrigin 1 = .ok (.ifCond .lt 12, 3) := by decide +kernel
theorem dX7_isOrigin_4 : decode cX7_isOrigin 4 = .ok (.iload_n 0, 1) := by decide +kernel
theorem dX7_isOrigin_5 : decode cX7_isOrigin 5 = .ok (.iconst 4, 1) := by decide +kernel
theorem dX7_isOrigin_6 : decode cX7_isOrigin 6 = .ok (.if_icmp .ge 7, 3) := by decide +kernel
theorem dX7_isOrigin_9 : decode cX7_isOrigin 9 = .ok (.iconst 1, 1) := by decide +kernel
theorem dX7_isOrigin_10 : decode cX7_isOrigin 10 = .ok (.goto 4, 3) := by decide +kernel
theorem dX7_isOrigin_13 : decode cX7_isOrigin 13 = .ok (.iconst 0, 1) := by decide +kernel
theorem dX7_isOrigin_14 : decode cX7_isOrigin 14 = .ok (.ireturn, 1) := by decide +kernel
theorem dX7_updateOf_0 : decode cX7_updateOf 0 = .ok (.bipush 100, 2) := by decide +kernel
theorem dX7_updateOf_2 : decode cX7_updateOf 2 = .ok (.iload_n 0, 1) := by decide +kernel
theorem dX7_updateOf_3 : decode cX7_updateOf 3 = .ok (.imul, 1) := by decide +kernel
theorem dX7_updateOf_4 : decode cX7_updateOf 4 = .ok (.iload_n 1, 1) := by decide +kernel
theorem dX7_updateOf_5 : decode cX7_updateOf 5 = .ok (.iadd, 1) := by decide +kernel
theorem dX7_updateOf_6 : decode cX7_updateOf 6 = .ok (.ireturn, 1) := by decide +kernel
theorem dX7_originOf_0 : decode cX7_originOf 0 = .ok (.iload_n 0, 1) := by decide +kernel
theorem dX7_originOf_1 : decode cX7_originOf 1 = .ok (.bipush 100, 2) := by decide +kernel
theorem dX7_originOf_3 : decode cX7_originOf 3 = .ok (.idiv, 1) := by decide +kernel
theorem dX7_originOf_4 : decode cX7_originOf 4 = .ok (.ireturn, 1) := by decide +kernel
theorem dX7_versionOf_0 : decode cX7_versionOf 0 = .ok (.iload_n 0, 1) := by decide +kernel
theorem dX7_versionOf_1 : decode cX7_versionOf 1 = .ok (.bipush 100, 2) := by decide +kernel
theorem dX7_versionOf_3 : decode cX7_versionOf 3 = .ok (.irem, 1) := by decide +kernel
theorem dX7_versionOf_4 : decode cX7_versionOf 4 = .ok (.ireturn, 1) := by decide +kernel
theorem dJ6_bitCount_0f7a4_0 : decode cJ6_bitCount_0f7a4 0 = .ok (.iload_n 0, 1) := by decide +kernel
theorem dJ6_bitCount_0f7a4_1 : decode cJ6_bitCount_0f7a4 1 = .ok (.iload_n 0, 1) := by decide +kernel
theorem dJ6_bitCount_0f7a4_2 : decode cJ6_bitCount_0f7a4 2 = .ok (.iconst 1, 1) := by decide +kernel
theorem dJ6_bitCount_0f7a4_3 : decode cJ6_bitCount_0f7a4 3 = .ok (.iushr, 1) := by decide +kernel
theorem dJ6_bitCount_0f7a4_4 : decode cJ6_bitCount_0f7a4 4 = .ok (.ldc_w 265, 3) := by decide +kernel
theorem dJ6_bitCount_0f7a4_7 : decode cJ6_bitCount_0f7a4 7 = .ok (.iand, 1) := by decide +kernel
theorem dJ6_bitCount_0f7a4_8 : decode cJ6_bitCount_0f7a4 8 = .ok (.isub, 1) := by decide +kernel
theorem dJ6_bitCount_0f7a4_9 : decode cJ6_bitCount_0f7a4 9 = .ok (.istore_n 0, 1) := by decide +kernel
theorem dJ6_bitCount_0f7a4_10 : decode cJ6_bitCount_0f7a4 10 = .ok (.iload_n 0, 1) := by decide +kernel
theorem dJ6_bitCount_0f7a4_11 : decode cJ6_bitCount_0f7a4 11 = .ok (.ldc_w 266, 3) := by decide +kernel
theorem dJ6_bitCount_0f7a4_14 : decode cJ6_bitCount_0f7a4 14 = .ok (.iand, 1) := by decide +kernel
theorem dJ6_bitCount_0f7a4_15 : decode cJ6_bitCount_0f7a4 15 = .ok (.iload_n 0, 1) := by decide +kernel
theorem dJ6_bitCount_0f7a4_16 : decode cJ6_bitCount_0f7a4 16 = .ok (.iconst 2, 1) := by decide +kernel
theorem dJ6_bitCount_0f7a4_17 : decode cJ6_bitCount_0f7a4 17 = .ok (.iushr, 1) := by decide +kernel
theorem dJ6_bitCount_0f7a4_18 : decode cJ6_bitCount_0f7a4 18 = .ok (.ldc_w 266, 3) := by decide +kernel
theorem dJ6_bitCount_0f7a4_21 : decode cJ6_bitCount_0f7a4 21 = .ok (.iand, 1) := by decide +kernel
theorem dJ6_bitCount_0f7a4_22 : decode cJ6_bitCount_0f7a4 22 = .ok (.iadd, 1) := by decide +kernel
theorem dJ6_bitCount_0f7a4_23 : decode cJ6_bitCount_0f7a4 23 = .ok (.istore_n 0, 1) := by decide +kernel
theorem dJ6_bitCount_0f7a4_24 : decode cJ6_bitCount_0f7a4 24 = .ok (.iload_n 0, 1) := by decide +kernel
theorem dJ6_bitCount_0f7a4_25 : decode cJ6_bitCount_0f7a4 25 = .ok (.iload_n 0, 1) := by decide +kernel
theorem dJ6_bitCount_0f7a4_26 : decode cJ6_bitCount_0f7a4 26 = .ok (.iconst 4, 1) := by decide +kernel
theorem dJ6_bitCount_0f7a4_27 : decode cJ6_bitCount_0f7a4 27 = .ok (.iushr, 1) := by decide +kernel
theorem dJ6_bitCount_0f7a4_28 : decode cJ6_bitCount_0f7a4 28 = .ok (.iadd, 1) := by decide +kernel
theorem dJ6_bitCount_0f7a4_29 : decode cJ6_bitCount_0f7a4 29 = .ok (.ldc_w 267, 3) := by decide +kernel
theorem dJ6_bitCount_0f7a4_32 : decode cJ6_bitCount_0f7a4 32 = .ok (.iand, 1) := by decide +kernel
theorem dJ6_bitCount_0f7a4_33 : decode cJ6_bitCount_0f7a4 33 = .ok (.istore_n 0, 1) := by decide +kernel
theorem dJ6_bitCount_0f7a4_34 : decode cJ6_bitCount_0f7a4 34 = .ok (.iload_n 0, 1) := by decide +kernel
theorem dJ6_bitCount_0f7a4_35 : decode cJ6_bitCount_0f7a4 35 = .ok (.iload_n 0, 1) := by decide +kernel
theorem dJ6_bitCount_0f7a4_36 : decode cJ6_bitCount_0f7a4 36 = .ok (.bipush 8, 2) := by decide +kernel
theorem dJ6_bitCount_0f7a4_38 : decode cJ6_bitCount_0f7a4 38 = .ok (.iushr, 1) := by decide +kernel
theorem dJ6_bitCount_0f7a4_39 : decode cJ6_bitCount_0f7a4 39 = .ok (.iadd, 1) := by decide +kernel
theorem dJ6_bitCount_0f7a4_40 : decode cJ6_bitCount_0f7a4 40 = .ok (.istore_n 0, 1) := by decide +kernel
theorem dJ6_bitCount_0f7a4_41 : decode cJ6_bitCount_0f7a4 41 = .ok (.iload_n 0, 1) := by decide +kernel
theorem dJ6_bitCount_0f7a4_42 : decode cJ6_bitCount_0f7a4 42 = .ok (.iload_n 0, 1) := by decide +kernel
theorem dJ6_bitCount_0f7a4_43 : decode cJ6_bitCount_0f7a4 43 = .ok (.bipush 16, 2) := by decide +kernel
theorem dJ6_bitCount_0f7a4_45 : decode cJ6_bitCount_0f7a4 45 = .ok (.iushr, 1) := by decide +kernel
theorem dJ6_bitCount_0f7a4_46 : decode cJ6_bitCount_0f7a4 46 = .ok (.iadd, 1) := by decide +kernel
theorem dJ6_bitCount_0f7a4_47 : decode cJ6_bitCount_0f7a4 47 = .ok (.istore_n 0, 1) := by decide +kernel
theorem dJ6_bitCount_0f7a4_48 : decode cJ6_bitCount_0f7a4 48 = .ok (.iload_n 0, 1) := by decide +kernel
theorem dJ6_bitCount_0f7a4_49 : decode cJ6_bitCount_0f7a4 49 = .ok (.bipush 63, 2) := by decide +kernel
theorem dJ6_bitCount_0f7a4_51 : decode cJ6_bitCount_0f7a4 51 = .ok (.iand, 1) := by decide +kernel
theorem dJ6_bitCount_0f7a4_52 : decode cJ6_bitCount_0f7a4 52 = .ok (.ireturn, 1) := by decide +kernel
theorem dJ9_floorMod_7cf53_0 : decode cJ9_floorMod_7cf53 0 = .ok (.iload_n 0, 1) := by decide +kernel
theorem dJ9_floorMod_7cf53_1 : decode cJ9_floorMod_7cf53 1 = .ok (.iload_n 1, 1) := by decide +kernel
theorem dJ9_floorMod_7cf53_2 : decode cJ9_floorMod_7cf53 2 = .ok (.irem, 1) := by decide +kernel
theorem dJ9_floorMod_7cf53_3 : decode cJ9_floorMod_7cf53 3 = .ok (.istore_n 2, 1) := by decide +kernel
theorem dJ9_floorMod_7cf53_4 : decode cJ9_floorMod_7cf53 4 = .ok (.iload_n 0, 1) := by decide +kernel
theorem dJ9_floorMod_7cf53_5 : decode cJ9_floorMod_7cf53 5 = .ok (.iload_n 1, 1) := by decide +kernel
theorem dJ9_floorMod_7cf53_6 : decode cJ9_floorMod_7cf53 6 = .ok (.ixor, 1) := by decide +kernel
theorem dJ9_floorMod_7cf53_7 : decode cJ9_floorMod_7cf53 7 = .ok (.ifCond .ge 11, 3) := by decide +kernel
theorem dJ9_floorMod_7cf53_10 : decode cJ9_floorMod_7cf53 10 = .ok (.iload_n 2, 1) := by decide +kernel
theorem dJ9_floorMod_7cf53_11 : decode cJ9_floorMod_7cf53 11 = .ok (.ifCond .eq 7, 3) := by decide +kernel
theorem dJ9_floorMod_7cf53_14 : decode cJ9_floorMod_7cf53 14 = .ok (.iload_n 2, 1) := by decide +kernel
theorem dJ9_floorMod_7cf53_15 : decode cJ9_floorMod_7cf53 15 = .ok (.iload_n 1, 1) := by decide +kernel
theorem dJ9_floorMod_7cf53_16 : decode cJ9_floorMod_7cf53 16 = .ok (.iadd, 1) := by decide +kernel
theorem dJ9_floorMod_7cf53_17 : decode cJ9_floorMod_7cf53 17 = .ok (.ireturn, 1) := by decide +kernel
theorem dJ9_floorMod_7cf53_18 : decode cJ9_floorMod_7cf53 18 = .ok (.iload_n 2, 1) := by decide +kernel
theorem dJ9_floorMod_7cf53_19 : decode cJ9_floorMod_7cf53 19 = .ok (.ireturn, 1) := by decide +kernel
theorem dJ9_max_7cf53_0 : decode cJ9_max_7cf53 0 = .ok (.iload_n 0, 1) := by decide +kernel
theorem dJ9_max_7cf53_1 : decode cJ9_max_7cf53 1 = .ok (.iload_n 1, 1) := by decide +kernel
theorem dJ9_max_7cf53_2 : decode cJ9_max_7cf53 2 = .ok (.if_icmp .lt 7, 3) := by decide +kernel
theorem dJ9_max_7cf53_5 : decode cJ9_max_7cf53 5 = .ok (.iload_n 0, 1) := by decide +kernel
theorem dJ9_max_7cf53_6 : decode cJ9_max_7cf53 6 = .ok (.goto 4, 3) := by decide +kernel
theorem dJ9_max_7cf53_9 : decode cJ9_max_7cf53 9 = .ok (.iload_n 1, 1) := by decide +kernel
theorem dJ9_max_7cf53_10 : decode cJ9_max_7cf53 10 = .ok (.ireturn, 1) := by decide +kernel
theorem dJ9_min_7cf53_0 : decode cJ9_min_7cf53 0 = .ok (.iload_n 0, 1) := by decide +kernel
theorem dJ9_min_7cf53_1 : decode cJ9_min_7cf53 1 = .ok (.iload_n 1, 1) := by decide +kernel
theorem dJ9_min_7cf53_2 : decode cJ9_min_7cf53 2 = .ok (.if_icmp .gt 7, 3) := by decide +kernel
theorem dJ9_min_7cf53_5 : decode cJ9_min_7cf53 5 = .ok (.iload_n 0, 1) := by decide +kernel
theorem dJ9_min_7cf53_6 : decode cJ9_min_7cf53 6 = .ok (.goto 4, 3) := by decide +kernel
theorem dJ9_min_7cf53_9 : decode cJ9_min_7cf53 9 = .ok (.iload_n 1, 1) := by decide +kernel
theorem dJ9_min_7cf53_10 : decode cJ9_min_7cf53 10 = .ok (.ireturn, 1) := by decide +kernel
theorem dL_cell_0 : decode cL_cell 0 = .ok (.iload_n 1, 1) := by decide +kernel
