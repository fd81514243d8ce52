theorem dX8_ends_12 : decode cX8_ends 12 = .ok (.sipush 7115, 3) := by decide +kernel
theorem dX8_ends_15 : decode cX8_ends 15 = .ok (.if_icmp .ge 25, 3) := by decide +kernel
theorem dX8_ends_18 : decode cX8_ends 18 = .ok (.aload_n 0, 1) := by decide +kernel
theorem dX8_ends_19 : decode cX8_ends 19 = .ok (.getfield 13, 3) := by decide +kernel
theorem dX8_ends_22 : decode cX8_ends 22 = .ok (.iload_n 2, 1) := by decide +kernel
theorem dX8_ends_23 : decode cX8_ends 23 = .ok (.aload_n 0, 1) := by decide +kernel
theorem dX8_ends_24 : decode cX8_ends 24 = .ok (.getfield 13, 3) := by decide +kernel
theorem dX8_ends_27 : decode cX8_ends 27 = .ok (.iload_n 2, 1) := by decide +kernel
theorem dX8_ends_28 : decode cX8_ends 28 = .ok (.sipush 1423, 3) := by decide +kernel
theorem dX8_ends_31 : decode cX8_ends 31 = .ok (.iadd, 1) := by decide +kernel
theorem dX8_ends_32 : decode cX8_ends 32 = .ok (.iaload, 1) := by decide +kernel
theorem dX8_ends_33 : decode cX8_ends 33 = .ok (.iastore, 1) := by decide +kernel
theorem dX8_ends_34 : decode cX8_ends 34 = .ok (.iinc 2 1, 3) := by decide +kernel
theorem dX8_ends_37 : decode cX8_ends 37 = .ok (.goto (-26), 3) := by decide +kernel
theorem dX8_ends_40 : decode cX8_ends 40 = .ok (.aload_n 0, 1) := by decide +kernel
theorem dX8_ends_41 : decode cX8_ends 41 = .ok (.dup, 1) := by decide +kernel
theorem dX8_ends_42 : decode cX8_ends 42 = .ok (.getfield 31, 3) := by decide +kernel
theorem dX8_ends_45 : decode cX8_ends 45 = .ok (.iconst 1, 1) := by decide +kernel
theorem dX8_ends_46 : decode cX8_ends 46 = .ok (.isub, 1) := by decide +kernel
theorem dX8_ends_47 : decode cX8_ends 47 = .ok (.putfield 31, 3) := by decide +kernel
theorem dX8_ends_50 : decode cX8_ends 50 = .ok (.iconst 0, 1) := by decide +kernel
theorem dX8_ends_51 : decode cX8_ends 51 = .ok (.istore_n 2, 1) := by decide +kernel
theorem dX8_ends_52 : decode cX8_ends 52 = .ok (.iload_n 2, 1) := by decide +kernel
theorem dX8_ends_53 : decode cX8_ends 53 = .ok (.sipush 1423, 3) := by decide +kernel
theorem dX8_ends_56 : decode cX8_ends 56 = .ok (.if_icmp .ge 30, 3) := by decide +kernel
theorem dX8_ends_59 : decode cX8_ends 59 = .ok (.aload_n 0, 1) := by decide +kernel
theorem dX8_ends_60 : decode cX8_ends 60 = .ok (.getfield 13, 3) := by decide +kernel
theorem dX8_ends_63 : decode cX8_ends 63 = .ok (.sipush 1423, 3) := by decide +kernel
theorem dX8_ends_66 : decode cX8_ends 66 = .ok (.aload_n 0, 1) := by decide +kernel
theorem dX8_ends_67 : decode cX8_ends 67 = .ok (.getfield 31, 3) := by decide +kernel
theorem dX8_ends_70 : decode cX8_ends 70 = .ok (.imul, 1) := by decide +kernel
theorem dX8_ends_71 : decode cX8_ends 71 = .ok (.iload_n 2, 1) := by decide +kernel
theorem dX8_ends_72 : decode cX8_ends 72 = .ok (.iadd, 1) := by decide +kernel
theorem dX8_ends_73 : decode cX8_ends 73 = .ok (.aload_n 0, 1) := by decide +kernel
theorem dX8_ends_74 : decode cX8_ends 74 = .ok (.getfield 16, 3) := by decide +kernel
theorem dX8_ends_77 : decode cX8_ends 77 = .ok (.iload_n 2, 1) := by decide +kernel
theorem dX8_ends_78 : decode cX8_ends 78 = .ok (.iaload, 1) := by decide +kernel
theorem dX8_ends_79 : decode cX8_ends 79 = .ok (.iastore, 1) := by decide +kernel
theorem dX8_ends_80 : decode cX8_ends 80 = .ok (.iinc 2 1, 3) := by decide +kernel
theorem dX8_ends_83 : decode cX8_ends 83 = .ok (.goto (-31), 3) := by decide +kernel
theorem dX8_ends_86 : decode cX8_ends 86 = .ok (.aload_n 0, 1) := by decide +kernel
theorem dX8_ends_87 : decode cX8_ends 87 = .ok (.dup, 1) := by decide +kernel
theorem dX8_ends_88 : decode cX8_ends 88 = .ok (.getfield 31, 3) := by decide +kernel
theorem dX8_ends_91 : decode cX8_ends 91 = .ok (.iconst 1, 1) := by decide +kernel
theorem dX8_ends_92 : decode cX8_ends 92 = .ok (.iadd, 1) := by decide +kernel
theorem dX8_ends_93 : decode cX8_ends 93 = .ok (.putfield 31, 3) := by decide +kernel
theorem dX8_ends_96 : decode cX8_ends 96 = .ok (.iload_n 1, 1) := by decide +kernel
theorem dX8_ends_97 : decode cX8_ends 97 = .ok (.ireturn, 1) := by decide +kernel
set_option maxRecDepth 20000 in
theorem ggX8_closes_X8_ends : GoodIn wsX8_closes wsX8_ends := goodIn_r _ [5, 6, 7, 8, 9, 10, 11, 12, 13, 14, 15, 16, 17, 18, 19, 20, 21, 22] (by decide +kernel) (by decide +kernel)
set_option maxRecDepth 20000 in
theorem gX8_closes_X8_ends : GoodIn wsX8_closes (wsV RX8 35 RX8 yX8_ends wsX8_ends) := goodIn_app (goodIn_of _ (by decide +kernel)) ggX8_closes_X8_ends
theorem dX8_closes_0 : decode cX8_closes 0 = .ok (.iload_n 1, 1) := by decide +kernel
theorem dX8_closes_1 : decode cX8_closes 1 = .ok (.ifCond .ge 7, 3) := by decide +kernel
theorem dX8_closes_4 : decode cX8_closes 4 = .ok (.iload_n 1, 1) := by decide +kernel
theorem dX8_closes_5 : decode cX8_closes 5 = .ok (.goto 8, 3) := by decide +kernel
theorem dX8_closes_8 : decode cX8_closes 8 = .ok (.aload_n 0, 1) := by decide +kernel
theorem dX8_closes_9 : decode cX8_closes 9 = .ok (.iload_n 1, 1) := by decide +kernel
theorem dX8_closes_10 : decode cX8_closes 10 = .ok (.invokevirtual 35, 3) := by decide +kernel
theorem dX8_closes_13 : decode cX8_closes 13 = .ok (.ireturn, 1) := by decide +kernel
set_option maxRecDepth 20000 in
theorem ggX8_isProxy_X8_in : GoodIn wsX8_isProxy wsX8_in := goodIn_r _ [5] (by decide +kernel) (by decide +kernel)
set_option maxRecDepth 20000 in
theorem gX8_isProxy_X8_in : GoodIn wsX8_isProxy (va_wsS RX8 39 yX8_in wsX8_in) := goodIn_app (goodIn_of _ (by decide +kernel)) ggX8_isProxy_X8_in
theorem dX8_isProxy_0 : decode cX8_isProxy 0 = .ok (.iload_n 1, 1) := by decide +kernel
theorem dX8_isProxy_1 : decode cX8_isProxy 1 = .ok (.iconst 0, 1) := by decide +kernel
theorem dX8_isProxy_2 : decode cX8_isProxy 2 = .ok (.aload_n 0, 1) := by decide +kernel
theorem dX8_isProxy_3 : decode cX8_isProxy 3 = .ok (.getfield 7, 3) := by decide +kernel
theorem dX8_isProxy_6 : decode cX8_isProxy 6 = .ok (.iconst 0, 1) := by decide +kernel
theorem dX8_isProxy_7 : decode cX8_isProxy 7 = .ok (.iaload, 1) := by decide +kernel
theorem dX8_isProxy_8 : decode cX8_isProxy 8 = .ok (.iconst 1, 1) := by decide +kernel
theorem dX8_isProxy_9 : decode cX8_isProxy 9 = .ok (.isub, 1) := by decide +kernel
theorem dX8_isProxy_10 : decode cX8_isProxy 10 = .ok (.invokestatic 39, 3) := by decide +kernel
theorem dX8_isProxy_13 : decode cX8_isProxy 13 = .ok (.ireturn, 1) := by decide +kernel
set_option maxRecDepth 20000 in
theorem ggX8_isChild_X8_in : GoodIn wsX8_isChild wsX8_in := goodIn_r _ [5] (by decide +kernel) (by decide +kernel)
set_option maxRecDepth 20000 in
theorem gX8_isChild_X8_in : GoodIn wsX8_isChild (va_wsS RX8 39 yX8_in wsX8_in) := goodIn_app (goodIn_of _ (by decide +kernel)) ggX8_isChild_X8_in
theorem dX8_isChild_0 : decode cX8_isChild 0 = .ok (.iload_n 1, 1) := by decide +kernel
theorem dX8_isChild_1 : decode cX8_isChild 1 = .ok (.iconst 1, 1) := by decide +kernel
theorem dX8_isChild_2 : decode cX8_isChild 2 = .ok (.aload_n 0, 1) := by decide +kernel
theorem dX8_isChild_3 : decode cX8_isChild 3 = .ok (.getfield 7, 3) := by decide +kernel
theorem dX8_isChild_6 : decode cX8_isChild 6 = .ok (.iconst 0, 1) := by decide +kernel
theorem dX8_isChild_7 : decode cX8_isChild 7 = .ok (.iaload, 1) := by decide +kernel
theorem dX8_isChild_8 : decode cX8_isChild 8 = .ok (.iconst 1, 1) := by decide +kernel
theorem dX8_isChild_9 : decode cX8_isChild 9 = .ok (.isub, 1) := by decide +kernel
theorem dX8_isChild_10 : decode cX8_isChild 10 = .ok (.invokestatic 39, 3) := by decide +kernel
theorem dX8_isChild_13 : decode cX8_isChild 13 = .ok (.ireturn, 1) := by decide +kernel
set_option maxRecDepth 20000 in
theorem ggX8_isOrigin_X8_in : GoodIn wsX8_isOrigin wsX8_in := goodIn_r _ [4] (by decide +kernel) (by decide +kernel)
set_option maxRecDepth 20000 in
theorem gX8_isOrigin_X8_in : GoodIn wsX8_isOrigin (va_wsS RX8 39 yX8_in wsX8_in) := goodIn_app (goodIn_of _ (by decide +kernel)) ggX8_isOrigin_X8_in
theorem dX8_isOrigin_0 : decode cX8_isOrigin 0 = .ok (.iload_n 0, 1) := by decide +kernel
theorem dX8_isOrigin_1 : decode cX8_isOrigin 1 = .ok (.iconst 0, 1) := by decide +kernel
theorem dX8_isOrigin_2 : decode cX8_isOrigin 2 = .ok (.iconst 3, 1) := by decide +kernel
theorem dX8_isOrigin_3 : decode cX8_isOrigin 3 = .ok (.invokestatic 39, 3) := by decide +kernel
theorem dX8_isOrigin_6 : decode cX8_isOrigin 6 = .ok (.ireturn, 1) := by decide +kernel
set_option maxRecDepth 20000 in
theorem ggX8_isUpdate_X8_isOrigin : GoodIn wsX8_isUpdate wsX8_isOrigin := goodIn_r _ [5, 6, 7, 4, 8] (by decide +kernel) (by decide +kernel)
set_option maxRecDepth 20000 in
theorem gX8_isUpdate_X8_isOrigin : GoodIn wsX8_isUpdate (va_wsS RX8 43 yX8_isOrigin wsX8_isOrigin) := goodIn_app (goodIn_of _ (by decide +kernel)) ggX8_isUpdate_X8_isOrigin
set_option maxRecDepth 20000 in
theorem ggX8_isUpdate_X8_in : GoodIn wsX8_isUpdate wsX8_in := goodIn_r _ [8] (by decide +kernel) (by decide +kernel)
set_option maxRecDepth 20000 in
theorem gX8_isUpdate_X8_in : GoodIn wsX8_isUpdate (va_wsS RX8 39 yX8_in wsX8_in) := goodIn_app (goodIn_of _ (by decide +kernel)) ggX8_isUpdate_X8_in
theorem dX8_isUpdate_0 : decode cX8_isUpdate 0 = .ok (.iload_n 1, 1) := by decide +kernel
theorem dX8_isUpdate_1 : decode cX8_isUpdate 1 = .ok (.invokestatic 43, 3) := by decide +kernel
theorem dX8_isUpdate_4 : decode cX8_isUpdate 4 = .ok (.ifCond .eq 24, 3) := by decide +kernel
theorem dX8_isUpdate_7 : decode cX8_isUpdate 7 = .ok (.iload_n 2, 1) := by decide +kernel
theorem dX8_isUpdate_8 : decode cX8_isUpdate 8 = .ok (.iconst 1, 1) := by decide +kernel
theorem dX8_isUpdate_9 : decode cX8_isUpdate 9 = .ok (.aload_n 0, 1) := by decide +kernel
theorem dX8_isUpdate_10 : decode cX8_isUpdate 10 = .ok (.getfield 7, 3) := by decide +kernel
theorem dX8_isUpdate_13 : decode cX8_isUpdate 13 = .ok (.bipush 19, 2) := by decide +kernel
theorem dX8_isUpdate_15 : decode cX8_isUpdate 15 = .ok (.iload_n 1, 1) := by decide +kernel
theorem dX8_isUpdate_16 : decode cX8_isUpdate 16 = .ok (.iadd, 1) := by decide +kernel
theorem dX8_isUpdate_17 : decode cX8_isUpdate 17 = .ok (.iaload, 1) := by decide +kernel
theorem dX8_isUpdate_18 : decode cX8_isUpdate 18 = .ok (.invokestatic 39, 3) := by decide +kernel
theorem dX8_isUpdate_21 : decode cX8_isUpdate 21 = .ok (.ifCond .eq 7, 3) := by decide +kernel
theorem dX8_isUpdate_24 : decode cX8_isUpdate 24 = .ok (.iconst 1, 1) := by decide +kernel
theorem dX8_isUpdate_25 : decode cX8_isUpdate 25 = .ok (.goto 4, 3) := by decide +kernel
theorem dX8_isUpdate_28 : decode cX8_isUpdate 28 = .ok (.iconst 0, 1) := by decide +kernel
theorem dX8_isUpdate_29 : decode cX8_isUpdate 29 = .ok (.ireturn, 1) := by decide +kernel
theorem dX8_causeOf_0 : decode cX8_causeOf 0 = .ok (.aload_n 0, 1) := by decide +kernel
theorem dX8_causeOf_1 : decode cX8_causeOf 1 = .ok (.getfield 7, 3) := by decide +kernel
theorem dX8_causeOf_4 : decode cX8_causeOf 4 = .ok (.bipush 23, 2) := by decide +kernel
theorem dX8_causeOf_6 : decode cX8_causeOf 6 = .ok (.bipush 96, 2) := by decide +kernel
theorem dX8_causeOf_8 : decode cX8_causeOf 8 = .ok (.iload_n 1, 1) := by decide +kernel
theorem dX8_causeOf_9 : decode cX8_causeOf 9 = .ok (.imul, 1) := by decide +kernel
theorem dX8_causeOf_10 : decode cX8_causeOf 10 = .ok (.iadd, 1) := by decide +kernel
theorem dX8_causeOf_11 : decode cX8_causeOf 11 = .ok (.iconst 4, 1) := by decide +kernel
theorem dX8_causeOf_12 : decode cX8_causeOf 12 = .ok (.iload_n 2, 1) := by decide +kernel
theorem dX8_causeOf_13 : decode cX8_causeOf 13 = .ok (.iconst 1, 1) := by decide +kernel
theorem dX8_causeOf_14 : decode cX8_causeOf 14 = .ok (.isub, 1) := by decide +kernel
theorem dX8_causeOf_15 : decode cX8_causeOf 15 = .ok (.imul, 1) := by decide +kernel
theorem dX8_causeOf_16 : decode cX8_causeOf 16 = .ok (.iadd, 1) := by decide +kernel
theorem dX8_causeOf_17 : decode cX8_causeOf 17 = .ok (.iload_n 3, 1) := by decide +kernel
theorem dX8_causeOf_18 : decode cX8_causeOf 18 = .ok (.iadd, 1) := by decide +kernel
theorem dX8_causeOf_19 : decode cX8_causeOf 19 = .ok (.iaload, 1) := by decide +kernel
theorem dX8_causeOf_20 : decode cX8_causeOf 20 = .ok (.ireturn, 1) := by decide +kernel
theorem dX8_knows_0 : decode cX8_knows 0 = .ok (.aload_n 0, 1) := by decide +kernel
theorem dX8_knows_1 : decode cX8_knows 1 = .ok (.getfield 7, 3) := by decide +kernel
theorem dX8_knows_4 : decode cX8_knows 4 = .ok (.sipush 407, 3) := by decide +kernel
theorem dX8_knows_7 : decode cX8_knows 7 = .ok (.iconst 4, 1) := by decide +kernel
theorem dX8_knows_8 : decode cX8_knows 8 = .ok (.iload_n 1, 1) := by decide +kernel
theorem dX8_knows_9 : decode cX8_knows 9 = .ok (.imul, 1) := by decide +kernel
theorem dX8_knows_10 : decode cX8_knows 10 = .ok (.iadd, 1) := by decide +kernel
theorem dX8_knows_11 : decode cX8_knows 11 = .ok (.iload_n 2, 1) := by decide +kernel
theorem dX8_knows_12 : decode cX8_knows 12 = .ok (.iadd, 1) := by decide +kernel
theorem dX8_knows_13 : decode cX8_knows 13 = .ok (.iaload, 1) := by decide +kernel
theorem dX8_knows_14 : decode cX8_knows 14 = .ok (.iload_n 3, 1) := by decide +kernel
theorem dX8_knows_15 : decode cX8_knows 15 = .ok (.ishr, 1) := by decide +kernel
theorem dX8_knows_16 : decode cX8_knows 16 = .ok (.iconst 1, 1) := by decide +kernel
theorem dX8_knows_17 : decode cX8_knows 17 = .ok (.iand, 1) := by decide +kernel
theorem dX8_knows_18 : decode cX8_knows 18 = .ok (.iconst 1, 1) := by decide +kernel
theorem dX8_knows_19 : decode cX8_knows 19 = .ok (.if_icmp .ne 7, 3) := by decide +kernel
theorem dX8_knows_22 : decode cX8_knows 22 = .ok (.iconst 1, 1) := by decide +kernel
theorem dX8_knows_23 : decode cX8_knows 23 = .ok (.goto 4, 3) := by decide +kernel
theorem dX8_knows_26 : decode cX8_knows 26 = .ok (.iconst 0, 1) := by decide +kernel
theorem dX8_knows_27 : decode cX8_knows 27 = .ok (.ireturn, 1) := by decide +kernel
set_option maxRecDepth 20000 in
theorem ggX8_addProxy_X8_isProxy : GoodIn wsX8_addProxy wsX8_isProxy := goodIn_r _ [6, 1, 7, 8, 5, 9, 21, 22, 23, 24, 25, 26, 27, 28, 29, 30, 31, 32, 33, 34] (by decide +kernel) (by decide +kernel)
set_option maxRecDepth 20000 in
theorem gX8_addProxy_X8_isProxy : GoodIn wsX8_addProxy (wsV RX8 47 RX8 yX8_isProxy wsX8_isProxy) := goodIn_app (goodIn_of _ (by decide +kernel)) ggX8_addProxy_X8_isProxy
set_option maxRecDepth 20000 in
theorem ggX8_addProxy_X8_hold : GoodIn wsX8_addProxy wsX8_hold := goodIn_r _ [13, 14, 1, 21, 22, 23, 24, 25, 26, 27, 28, 29, 30, 31, 32, 33, 34] (by decide +kernel) (by decide +kernel)
set_option maxRecDepth 20000 in
theorem gX8_addProxy_X8_hold : GoodIn wsX8_addProxy (wsV RX8 50 RX8 yX8_hold wsX8_hold) := goodIn_app (goodIn_of _ (by decide +kernel)) ggX8_addProxy_X8_hold
set_option maxRecDepth 20000 in
theorem ggX8_addProxy_X8_ends : GoodIn wsX8_addProxy wsX8_ends := goodIn_r _ [18, 19, 20, 14, 21, 22, 23, 24, 25, 26, 27, 28, 29, 30, 31, 32, 33, 34] (by decide +kernel) (by decide +kernel)
set_option maxRecDepth 20000 in
theorem gX8_addProxy_X8_ends : GoodIn wsX8_addProxy (wsV RX8 35 RX8 yX8_ends wsX8_ends) := goodIn_app (goodIn_of _ (by decide +kernel)) ggX8_addProxy_X8_ends
theorem dX8_addProxy_0 : decode cX8_addProxy 0 = .ok (.aload_n 0, 1) := by decide +kernel
theorem dX8_addProxy_1 : decode cX8_addProxy 1 = .ok (.iload_n 1, 1) := by decide +kernel
theorem dX8_addProxy_2 : decode cX8_addProxy 2 = .ok (.invokevirtual 47, 3) := by decide +kernel
theorem dX8_addProxy_5 : decode cX8_addProxy 5 = .ok (.ifCond .ne 5, 3) := by decide +kernel
theorem dX8_addProxy_8 : decode cX8_addProxy 8 = .ok (.iconst (-1), 1) := by decide +kernel
theorem dX8_addProxy_9 : decode cX8_addProxy 9 = .ok (.ireturn, 1) := by decide +kernel
theorem dX8_addProxy_10 : decode cX8_addProxy 10 = .ok (.aload_n 0, 1) := by decide +kernel
theorem dX8_addProxy_11 : decode cX8_addProxy 11 = .ok (.getfield 7, 3) := by decide +kernel
theorem dX8_addProxy_14 : decode cX8_addProxy 14 = .ok (.iconst 0, 1) := by decide +kernel
theorem dX8_addProxy_15 : decode cX8_addProxy 15 = .ok (.iaload, 1) := by decide +kernel
theorem dX8_addProxy_16 : decode cX8_addProxy 16 = .ok (.bipush 8, 2) := by decide +kernel
theorem dX8_addProxy_18 : decode cX8_addProxy 18 = .ok (.if_icmp .ne 6, 3) := by decide +kernel
theorem dX8_addProxy_21 : decode cX8_addProxy 21 = .ok (.bipush (-3), 2) := by decide +kernel
theorem dX8_addProxy_23 : decode cX8_addProxy 23 = .ok (.ireturn, 1) := by decide +kernel
theorem dX8_addProxy_24 : decode cX8_addProxy 24 = .ok (.aload_n 0, 1) := by decide +kernel
theorem dX8_addProxy_25 : decode cX8_addProxy 25 = .ok (.invokevirtual 50, 3) := by decide +kernel
theorem dX8_addProxy_28 : decode cX8_addProxy 28 = .ok (.aload_n 0, 1) := by decide +kernel
theorem dX8_addProxy_29 : decode cX8_addProxy 29 = .ok (.getfield 7, 3) := by decide +kernel
theorem dX8_addProxy_32 : decode cX8_addProxy 32 = .ok (.iconst 0, 1) := by decide +kernel
theorem dX8_addProxy_33 : decode cX8_addProxy 33 = .ok (.iaload, 1) := by decide +kernel
theorem dX8_addProxy_34 : decode cX8_addProxy 34 = .ok (.istore_n 2, 1) := by decide +kernel
theorem dX8_addProxy_35 : decode cX8_addProxy 35 = .ok (.aload_n 0, 1) := by decide +kernel
theorem dX8_addProxy_36 : decode cX8_addProxy 36 = .ok (.getfield 7, 3) := by decide +kernel
theorem dX8_addProxy_39 : decode cX8_addProxy 39 = .ok (.bipush 7, 2) := by decide +kernel
theorem dX8_addProxy_41 : decode cX8_addProxy 41 = .ok (.iload_n 2, 1) := by decide +kernel
theorem dX8_addProxy_42 : decode cX8_addProxy 42 = .ok (.iadd, 1) := by decide +kernel
theorem dX8_addProxy_43 : decode cX8_addProxy 43 = .ok (.iload_n 1, 1) := by decide +kernel
theorem dX8_addProxy_44 : decode cX8_addProxy 44 = .ok (.iastore, 1) := by decide +kernel
theorem dX8_addProxy_45 : decode cX8_addProxy 45 = .ok (.aload_n 0, 1) := by decide +kernel
theorem dX8_addProxy_46 : decode cX8_addProxy 46 = .ok (.getfield 7, 3) := by decide +kernel
theorem dX8_addProxy_49 : decode cX8_addProxy 49 = .ok (.iconst 0, 1) := by decide +kernel
theorem dX8_addProxy_50 : decode cX8_addProxy 50 = .ok (.dup2, 1) := by decide +kernel
theorem dX8_addProxy_51 : decode cX8_addProxy 51 = .ok (.iaload, 1) := by decide +kernel
theorem dX8_addProxy_52 : decode cX8_addProxy 52 = .ok (.iconst 1, 1) := by decide +kernel
theorem dX8_addProxy_53 : decode cX8_addProxy 53 = .ok (.iadd, 1) := by decide +kernel
theorem dX8_addProxy_54 : decode cX8_addProxy 54 = .ok (.iastore, 1) := by decide +kernel
theorem dX8_addProxy_55 : decode cX8_addProxy 55 = .ok (.aload_n 0, 1) := by decide +kernel
theorem dX8_addProxy_56 : decode cX8_addProxy 56 = .ok (.iload_n 2, 1) := by decide +kernel
theorem dX8_addProxy_57 : decode cX8_addProxy 57 = .ok (.invokevirtual 35, 3) := by decide +kernel
theorem dX8_addProxy_60 : decode cX8_addProxy 60 = .ok (.ireturn, 1) := by decide +kernel
set_option maxRecDepth 20000 in
theorem ggX8_setHome_X8_isOrigin : GoodIn wsX8_setHome wsX8_isOrigin := goodIn_r _ [5, 6, 7, 4, 8] (by decide +kernel) (by decide +kernel)
set_option maxRecDepth 20000 in
theorem gX8_setHome_X8_isOrigin : GoodIn wsX8_setHome (va_wsS RX8 43 yX8_isOrigin wsX8_isOrigin) := goodIn_app (goodIn_of _ (by decide +kernel)) ggX8_setHome_X8_isOrigin
set_option maxRecDepth 20000 in
theorem ggX8_setHome_X8_isProxy : GoodIn wsX8_setHome wsX8_isProxy := goodIn_r _ [12, 1, 6, 7, 4, 8, 24, 25, 26, 27, 28, 29, 30, 31, 32, 33, 34, 35, 36, 37] (by decide +kernel) (by decide +kernel)
set_option maxRecDepth 20000 in
theorem gX8_setHome_X8_isProxy : GoodIn wsX8_setHome (wsV RX8 47 RX8 yX8_isProxy wsX8_isProxy) := goodIn_app (goodIn_of _ (by decide +kernel)) ggX8_setHome_X8_isProxy
set_option maxRecDepth 20000 in
theorem ggX8_setHome_X8_hold : GoodIn wsX8_setHome wsX8_hold := goodIn_r _ [16, 17, 1, 24, 25, 26, 27, 28, 29, 30, 31, 32, 33, 34, 35, 36, 37] (by decide +kernel) (by decide +kernel)
set_option maxRecDepth 20000 in
theorem gX8_setHome_X8_hold : GoodIn wsX8_setHome (wsV RX8 50 RX8 yX8_hold wsX8_hold) := goodIn_app (goodIn_of _ (by decide +kernel)) ggX8_setHome_X8_hold
set_option maxRecDepth 20000 in
theorem ggX8_setHome_X8_ends : GoodIn wsX8_setHome wsX8_ends := goodIn_r _ [21, 22, 23, 17, 24, 25, 26, 27, 28, 29, 30, 31, 32, 33, 34, 35, 36, 37] (by decide +kernel) (by decide +kernel)
set_option maxRecDepth 20000 in
theorem gX8_setHome_X8_ends : GoodIn wsX8_setHome (wsV RX8 35 RX8 yX8_ends wsX8_ends) := goodIn_app (goodIn_of _ (by decide +kernel)) ggX8_setHome_X8_ends
theorem dX8_setHome_0 : decode cX8_setHome 0 = .ok (.iload_n 1, 1) := by decide +kernel
theorem dX8_setHome_1 : decode cX8_setHome 1 = .ok (.invokestatic 43, 3) := by decide +kernel
theorem dX8_setHome_4 : decode cX8_setHome 4 = .ok (.ifCond .eq 11, 3) := by decide +kernel
theorem dX8_setHome_7 : decode cX8_setHome 7 = .ok (.aload_n 0, 1) := by decide +kernel
theorem dX8_setHome_8 : decode cX8_setHome 8 = .ok (.iload_n 2, 1) := by decide +kernel
theorem dX8_setHome_9 : decode cX8_setHome 9 = .ok (.invokevirtual 47, 3) := by decide +kernel
theorem dX8_setHome_12 : decode cX8_setHome 12 = .ok (.ifCond .ne 5, 3) := by decide +kernel
theorem dX8_setHome_15 : decode cX8_setHome 15 = .ok (.iconst (-1), 1) := by decide +kernel
theorem dX8_setHome_16 : decode cX8_setHome 16 = .ok (.ireturn, 1) := by decide +kernel
theorem dX8_setHome_17 : decode cX8_setHome 17 = .ok (.aload_n 0, 1) := by decide +kernel
theorem dX8_setHome_18 : decode cX8_setHome 18 = .ok (.getfield 7, 3) := by decide +kernel
theorem dX8_setHome_21 : decode cX8_setHome 21 = .ok (.bipush 19, 2) := by decide +kernel
theorem dX8_setHome_23 : decode cX8_setHome 23 = .ok (.iload_n 1, 1) := by decide +kernel
theorem dX8_setHome_24 : decode cX8_setHome 24 = .ok (.iadd, 1) := by decide +kernel
theorem dX8_setHome_25 : decode cX8_setHome 25 = .ok (.iaload, 1) := by decide +kernel
theorem dX8_setHome_26 : decode cX8_setHome 26 = .ok (.ifCond .le 6, 3) := by decide +kernel
theorem dX8_setHome_29 : decode cX8_setHome 29 = .ok (.bipush (-2), 2) := by decide +kernel
theorem dX8_setHome_31 : decode cX8_setHome 31 = .ok (.ireturn, 1) := by decide +kernel
theorem dX8_setHome_32 : decode cX8_setHome 32 = .ok (.aload_n 0, 1) := by decide +kernel
theorem dX8_setHome_33 : decode cX8_setHome 33 = .ok (.invokevirtual 50, 3) := by decide +kernel
theorem dX8_setHome_36 : decode cX8_setHome 36 = .ok (.aload_n 0, 1) := by decide +kernel
theorem dX8_setHome_37 : decode cX8_setHome 37 = .ok (.getfield 7, 3) := by decide +kernel
theorem dX8_setHome_40 : decode cX8_setHome 40 = .ok (.bipush 15, 2) := by decide +kernel
theorem dX8_setHome_42 : decode cX8_setHome 42 = .ok (.iload_n 1, 1) := by decide +kernel
theorem dX8_setHome_43 : decode cX8_setHome 43 = .ok (.iadd, 1) := by decide +kernel
theorem dX8_setHome_44 : decode cX8_setHome 44 = .ok (.iaload, 1) := by decide +kernel
theorem dX8_setHome_45 : decode cX8_setHome 45 = .ok (.istore_n 3, 1) := by decide +kernel
theorem dX8_setHome_46 : decode cX8_setHome 46 = .ok (.aload_n 0, 1) := by decide +kernel
theorem dX8_setHome_47 : decode cX8_setHome 47 = .ok (.getfield 7, 3) := by decide +kernel
theorem dX8_setHome_50 : decode cX8_setHome 50 = .ok (.bipush 15, 2) := by decide +kernel
theorem dX8_setHome_52 : decode cX8_setHome 52 = .ok (.iload_n 1, 1) := by decide +kernel
theorem dX8_setHome_53 : decode cX8_setHome 53 = .ok (.iadd, 1) := by decide +kernel
theorem dX8_setHome_54 : decode cX8_setHome 54 = .ok (.iload_n 2, 1) := by decide +kernel
theorem dX8_setHome_55 : decode cX8_setHome 55 = .ok (.iastore, 1) := by decide +kernel
theorem dX8_setHome_56 : decode cX8_setHome 56 = .ok (.aload_n 0, 1) := by decide +kernel
theorem dX8_setHome_57 : decode cX8_setHome 57 = .ok (.iload_n 3, 1) := by decide +kernel
theorem dX8_setHome_58 : decode cX8_setHome 58 = .ok (.invokevirtual 35, 3) := by decide +kernel
theorem dX8_setHome_61 : decode cX8_setHome 61 = .ok (.ireturn, 1) := by decide +kernel
set_option maxRecDepth 20000 in
theorem ggX8_setLimits_X8_in : GoodIn wsX8_setLimits wsX8_in := goodIn_r _ [5] (by decide +kernel) (by decide +kernel)
set_option maxRecDepth 20000 in
theorem gX8_setLimits_X8_in : GoodIn wsX8_setLimits (va_wsS RX8 39 yX8_in wsX8_in) := goodIn_app (goodIn_of _ (by decide +kernel)) ggX8_setLimits_X8_in
set_option maxRecDepth 20000 in
theorem ggX8_setLimits_X8_hold : GoodIn wsX8_setLimits wsX8_hold := goodIn_r _ [9, 10, 1, 17, 18, 19, 20, 21, 22, 23, 24, 25, 26, 27, 28, 29, 30] (by decide +kernel) (by decide +kernel)
set_option maxRecDepth 20000 in
theorem gX8_setLimits_X8_hold : GoodIn wsX8_setLimits (wsV RX8 50 RX8 yX8_hold wsX8_hold) := goodIn_app (goodIn_of _ (by decide +kernel)) ggX8_setLimits_X8_hold
set_option maxRecDepth 20000 in
theorem ggX8_setLimits_X8_ends : GoodIn wsX8_setLimits wsX8_ends := goodIn_r _ [14, 15, 16, 10, 17, 18, 19, 20, 21, 22, 23, 24, 25, 26, 27, 28, 29, 30] (by decide +kernel) (by decide +kernel)
set_option maxRecDepth 20000 in
theorem gX8_setLimits_X8_ends : GoodIn wsX8_setLimits (wsV RX8 35 RX8 yX8_ends wsX8_ends) := goodIn_app (goodIn_of _ (by decide +kernel)) ggX8_setLimits_X8_ends
theorem dX8_setLimits_0 : decode cX8_setLimits 0 = .ok (.iload_n 1, 1) := by decide +kernel
theorem dX8_setLimits_1 : decode cX8_setLimits 1 = .ok (.iconst 0, 1) := by decide +kernel
theorem dX8_setLimits_2 : decode cX8_setLimits 2 = .ok (.bipush 8, 2) := by decide +kernel
theorem dX8_setLimits_4 : decode cX8_setLimits 4 = .ok (.invokestatic 39, 3) := by decide +kernel
theorem dX8_setLimits_7 : decode cX8_setLimits 7 = .ok (.ifCond .eq 13, 3) := by decide +kernel
theorem dX8_setLimits_10 : decode cX8_setLimits 10 = .ok (.iload_n 2, 1) := by decide +kernel
theorem dX8_setLimits_11 : decode cX8_setLimits 11 = .ok (.iconst 1, 1) := by decide +kernel
theorem dX8_setLimits_12 : decode cX8_setLimits 12 = .ok (.bipush 12, 2) := by decide +kernel
theorem dX8_setLimits_14 : decode cX8_setLimits 14 = .ok (.invokestatic 39, 3) := by decide +kernel
theorem dX8_setLimits_17 : decode cX8_setLimits 17 = .ok (.ifCond .ne 5, 3) := by decide +kernel
theorem dX8_setLimits_20 : decode cX8_setLimits 20 = .ok (.iconst (-1), 1) := by decide +kernel
theorem dX8_setLimits_21 : decode cX8_setLimits 21 = .ok (.ireturn, 1) := by decide +kernel
theorem dX8_setLimits_22 : decode cX8_setLimits 22 = .ok (.aload_n 0, 1) := by decide +kernel
theorem dX8_setLimits_23 : decode cX8_setLimits 23 = .ok (.invokevirtual 50, 3) := by decide +kernel
theorem dX8_setLimits_26 : decode cX8_setLimits 26 = .ok (.aload_n 0, 1) := by decide +kernel
theorem dX8_setLimits_27 : decode cX8_setLimits 27 = .ok (.getfield 7, 3) := by decide +kernel
theorem dX8_setLimits_30 : decode cX8_setLimits 30 = .ok (.iconst 1, 1) := by decide +kernel
theorem dX8_setLimits_31 : decode cX8_setLimits 31 = .ok (.iaload, 1) := by decide +kernel
theorem dX8_setLimits_32 : decode cX8_setLimits 32 = .ok (.iload_n 1, 1) := by decide +kernel
theorem dX8_setLimits_33 : decode cX8_setLimits 33 = .ok (.if_icmp .ne 13, 3) := by decide +kernel
theorem dX8_setLimits_36 : decode cX8_setLimits 36 = .ok (.aload_n 0, 1) := by decide +kernel
theorem dX8_setLimits_37 : decode cX8_setLimits 37 = .ok (.getfield 7, 3) := by decide +kernel
theorem dX8_setLimits_40 : decode cX8_setLimits 40 = .ok (.iconst 2, 1) := by decide +kernel
theorem dX8_setLimits_41 : decode cX8_setLimits 41 = .ok (.iaload, 1) := by decide +kernel
theorem dX8_setLimits_42 : decode cX8_setLimits 42 = .ok (.iload_n 2, 1) := by decide +kernel
theorem dX8_setLimits_43 : decode cX8_setLimits 43 = .ok (.if_icmp .eq 7, 3) := by decide +kernel
theorem dX8_setLimits_46 : decode cX8_setLimits 46 = .ok (.iconst 1, 1) := by decide +kernel
theorem dX8_setLimits_47 : decode cX8_setLimits 47 = .ok (.goto 4, 3) := by decide +kernel
theorem dX8_setLimits_50 : decode cX8_setLimits 50 = .ok (.iconst 0, 1) := by decide +kernel
theorem dX8_setLimits_51 : decode cX8_setLimits 51 = .ok (.istore_n 3, 1) := by decide +kernel
theorem dX8_setLimits_52 : decode cX8_setLimits 52 = .ok (.aload_n 0, 1) := by decide +kernel
theorem dX8_setLimits_53 : decode cX8_setLimits 53 = .ok (.getfield 7, 3) := by decide +kernel
theorem dX8_setLimits_56 : decode cX8_setLimits 56 = .ok (.iconst 1, 1) := by decide +kernel
theorem dX8_setLimits_57 : decode cX8_setLimits 57 = .ok (.iload_n 1, 1) := by decide +kernel
theorem dX8_setLimits_58 : decode cX8_setLimits 58 = .ok (.iastore, 1) := by decide +kernel
theorem dX8_setLimits_59 : decode cX8_setLimits 59 = .ok (.aload_n 0, 1) := by decide +kernel
theorem dX8_setLimits_60 : decode cX8_setLimits 60 = .ok (.getfield 7, 3) := by decide +kernel
theorem dX8_setLimits_63 : decode cX8_setLimits 63 = .ok (.iconst 2, 1) := by decide +kernel
theorem dX8_setLimits_64 : decode cX8_setLimits 64 = .ok (.iload_n 2, 1) := by decide +kernel
theorem dX8_setLimits_65 : decode cX8_setLimits 65 = .ok (.iastore, 1) := by decide +kernel
theorem dX8_setLimits_66 : decode cX8_setLimits 66 = .ok (.aload_n 0, 1) := by decide +kernel
theorem dX8_setLimits_67 : decode cX8_setLimits 67 = .ok (.iload_n 3, 1) := by decide +kernel
theorem dX8_setLimits_68 : decode cX8_setLimits 68 = .ok (.ifCond .eq 7, 3) := by decide +kernel
theorem dX8_setLimits_71 : decode cX8_setLimits 71 = .ok (.iconst 1, 1) := by decide +kernel
theorem dX8_setLimits_72 : decode cX8_setLimits 72 = .ok (.goto 4, 3) := by decide +kernel
theorem dX8_setLimits_75 : decode cX8_setLimits 75 = .ok (.iconst 0, 1) := by decide +kernel
theorem dX8_setLimits_76 : decode cX8_setLimits 76 = .ok (.invokevirtual 35, 3) := by decide +kernel
theorem dX8_setLimits_79 : decode cX8_setLimits 79 = .ok (.ireturn, 1) := by decide +kernel
set_option maxRecDepth 20000 in
theorem ggX8_boundOf_X8_knows : GoodIn wsX8_boundOf wsX8_knows := goodIn_r _ [5, 6, 7, 8, 9, 10, 11, 12, 13, 14, 15, 16, 17, 18, 19, 20] (by decide +kernel) (by decide +kernel)
set_option maxRecDepth 20000 in
theorem gX8_boundOf_X8_knows : GoodIn wsX8_boundOf (wsV RX8 53 RX8 yX8_knows wsX8_knows) := goodIn_app (goodIn_of _ (by decide +kernel)) ggX8_boundOf_X8_knows
theorem dX8_boundOf_0 : decode cX8_boundOf 0 = .ok (.iconst 0, 1) := by decide +kernel
theorem dX8_boundOf_1 : decode cX8_boundOf 1 = .ok (.istore_n 3, 1) := by decide +kernel
theorem dX8_boundOf_2 : decode cX8_boundOf 2 = .ok (.iconst 1, 1) := by decide +kernel
theorem dX8_boundOf_3 : decode cX8_boundOf 3 = .ok (.istore 4, 2) := by decide +kernel
theorem dX8_boundOf_5 : decode cX8_boundOf 5 = .ok (.iload 4, 2) := by decide +kernel
theorem dX8_boundOf_7 : decode cX8_boundOf 7 = .ok (.bipush 24, 2) := by decide +kernel
theorem dX8_boundOf_9 : decode cX8_boundOf 9 = .ok (.if_icmp .gt 27, 3) := by decide +kernel
theorem dX8_boundOf_12 : decode cX8_boundOf 12 = .ok (.aload_n 0, 1) := by decide +kernel
theorem dX8_boundOf_13 : decode cX8_boundOf 13 = .ok (.iload_n 1, 1) := by decide +kernel
theorem dX8_boundOf_14 : decode cX8_boundOf 14 = .ok (.iload_n 2, 1) := by decide +kernel
theorem dX8_boundOf_15 : decode cX8_boundOf 15 = .ok (.iload 4, 2) := by decide +kernel
theorem dX8_boundOf_17 : decode cX8_boundOf 17 = .ok (.invokevirtual 53, 3) := by decide +kernel
theorem dX8_boundOf_20 : decode cX8_boundOf 20 = .ok (.ifCond .eq 8, 3) := by decide +kernel
theorem dX8_boundOf_23 : decode cX8_boundOf 23 = .ok (.iload 4, 2) := by decide +kernel
theorem dX8_boundOf_25 : decode cX8_boundOf 25 = .ok (.goto 4, 3) := by decide +kernel
theorem dX8_boundOf_28 : decode cX8_boundOf 28 = .ok (.iload_n 3, 1) := by decide +kernel
theorem dX8_boundOf_29 : decode cX8_boundOf 29 = .ok (.istore_n 3, 1) := by decide +kernel
theorem dX8_boundOf_30 : decode cX8_boundOf 30 = .ok (.iinc 4 1, 3) := by decide +kernel
theorem dX8_boundOf_33 : decode cX8_boundOf 33 = .ok (.goto (-28), 3) := by decide +kernel
theorem dX8_boundOf_36 : decode cX8_boundOf 36 = .ok (.iload_n 3, 1) := by decide +kernel
theorem dX8_boundOf_37 : decode cX8_boundOf 37 = .ok (.ireturn, 1) := by decide +kernel
set_option maxRecDepth 20000 in
theorem ggX8_rangesOf_X8_knows : GoodIn wsX8_rangesOf wsX8_knows := goodIn_r _ [5, 6, 7, 8, 9, 10, 11, 12, 13, 14, 15, 16, 17, 18, 19, 20] (by decide +kernel) (by decide +kernel)
set_option maxRecDepth 20000 in
theorem gX8_rangesOf_X8_knows : GoodIn wsX8_rangesOf (wsV RX8 53 RX8 yX8_knows wsX8_knows) := goodIn_app (goodIn_of _ (by decide +kernel)) ggX8_rangesOf_X8_knows
theorem dX8_rangesOf_0 : decode cX8_rangesOf 0 = .ok (.iconst 0, 1) := by decide +kernel
theorem dX8_rangesOf_1 : decode cX8_rangesOf 1 = .ok (.istore_n 3, 1) := by decide +kernel
theorem dX8_rangesOf_2 : decode cX8_rangesOf 2 = .ok (.iconst 1, 1) := by decide +kernel
theorem dX8_rangesOf_3 : decode cX8_rangesOf 3 = .ok (.istore 4, 2) := by decide +kernel
theorem dX8_rangesOf_5 : decode cX8_rangesOf 5 = .ok (.iload 4, 2) := by decide +kernel
theorem dX8_rangesOf_7 : decode cX8_rangesOf 7 = .ok (.bipush 24, 2) := by decide +kernel
theorem dX8_rangesOf_9 : decode cX8_rangesOf 9 = .ok (.if_icmp .ge 41, 3) := by decide +kernel
theorem dX8_rangesOf_12 : decode cX8_rangesOf 12 = .ok (.iload_n 3, 1) := by decide +kernel
theorem dX8_rangesOf_13 : decode cX8_rangesOf 13 = .ok (.aload_n 0, 1) := by decide +kernel
theorem dX8_rangesOf_14 : decode cX8_rangesOf 14 = .ok (.iload_n 1, 1) := by decide +kernel
theorem dX8_rangesOf_15 : decode cX8_rangesOf 15 = .ok (.iload_n 2, 1) := by decide +kernel
theorem dX8_rangesOf_16 : decode cX8_rangesOf 16 = .ok (.iload 4, 2) := by decide +kernel
theorem dX8_rangesOf_18 : decode cX8_rangesOf 18 = .ok (.invokevirtual 53, 3) := by decide +kernel
theorem dX8_rangesOf_21 : decode cX8_rangesOf 21 = .ok (.ifCond .ne 20, 3) := by decide +kernel
theorem dX8_rangesOf_24 : decode cX8_rangesOf 24 = .ok (.aload_n 0, 1) := by decide +kernel
theorem dX8_rangesOf_25 : decode cX8_rangesOf 25 = .ok (.iload_n 1, 1) := by decide +kernel
theorem dX8_rangesOf_26 : decode cX8_rangesOf 26 = .ok (.iload_n 2, 1) := by decide +kernel
theorem dX8_rangesOf_27 : decode cX8_rangesOf 27 = .ok (.iload 4, 2) := by decide +kernel
theorem dX8_rangesOf_29 : decode cX8_rangesOf 29 = .ok (.iconst 1, 1) := by decide +kernel
theorem dX8_rangesOf_30 : decode cX8_rangesOf 30 = .ok (.iadd, 1) := by decide +kernel
theorem dX8_rangesOf_31 : decode cX8_rangesOf 31 = .ok (.invokevirtual 53, 3) := by decide +kernel
theorem dX8_rangesOf_34 : decode cX8_rangesOf 34 = .ok (.ifCond .eq 7, 3) := by decide +kernel
theorem dX8_rangesOf_37 : decode cX8_rangesOf 37 = .ok (.iconst 1, 1) := by decide +kernel
theorem dX8_rangesOf_38 : decode cX8_rangesOf 38 = .ok (.goto 4, 3) := by decide +kernel
theorem dX8_rangesOf_41 : decode cX8_rangesOf 41 = .ok (.iconst 0, 1) := by decide +kernel
theorem dX8_rangesOf_42 : decode cX8_rangesOf 42 = .ok (.iadd, 1) := by decide +kernel
theorem dX8_rangesOf_43 : decode cX8_rangesOf 43 = .ok (.istore_n 3, 1) := by decide +kernel
theorem dX8_rangesOf_44 : decode cX8_rangesOf 44 = .ok (.iinc 4 1, 3) := by decide +kernel
theorem dX8_rangesOf_47 : decode cX8_rangesOf 47 = .ok (.goto (-42), 3) := by decide +kernel
theorem dX8_rangesOf_50 : decode cX8_rangesOf 50 = .ok (.iload_n 3, 1) := by decide +kernel
theorem dX8_rangesOf_51 : decode cX8_rangesOf 51 = .ok (.ireturn, 1) := by decide +kernel
set_option maxRecDepth 20000 in
theorem ggX8_allRanges_X8_rangesOf : GoodIn wsX8_allRanges wsX8_rangesOf := goodIn_r _ [5, 6, 7, 8, 4, 9, 10, 11, 12, 13, 14, 15, 16, 17, 18, 19, 20, 21, 22, 23, 24] (by decide +kernel) (by decide +kernel)
set_option maxRecDepth 20000 in
theorem gX8_allRanges_X8_rangesOf : GoodIn wsX8_allRanges (wsV RX8 56 RX8 yX8_rangesOf wsX8_rangesOf) := goodIn_app (goodIn_of _ (by decide +kernel)) ggX8_allRanges_X8_rangesOf
theorem dX8_allRanges_0 : decode cX8_allRanges 0 = .ok (.iconst 0, 1) := by decide +kernel
theorem dX8_allRanges_1 : decode cX8_allRanges 1 = .ok (.istore_n 2, 1) := by decide +kernel
theorem dX8_allRanges_2 : decode cX8_allRanges 2 = .ok (.iconst 0, 1) := by decide +kernel
theorem dX8_allRanges_3 : decode cX8_allRanges 3 = .ok (.istore_n 3, 1) := by decide +kernel
theorem dX8_allRanges_4 : decode cX8_allRanges 4 = .ok (.iload_n 3, 1) := by decide +kernel
theorem dX8_allRanges_5 : decode cX8_allRanges 5 = .ok (.iconst 4, 1) := by decide +kernel
theorem dX8_allRanges_6 : decode cX8_allRanges 6 = .ok (.if_icmp .ge 18, 3) := by decide +kernel
theorem dX8_allRanges_9 : decode cX8_allRanges 9 = .ok (.iload_n 2, 1) := by decide +kernel
theorem dX8_allRanges_10 : decode cX8_allRanges 10 = .ok (.aload_n 0, 1) := by decide +kernel
theorem dX8_allRanges_11 : decode cX8_allRanges 11 = .ok (.iload_n 1, 1) := by decide +kernel
theorem dX8_allRanges_12 : decode cX8_allRanges 12 = .ok (.iload_n 3, 1) := by decide +kernel
theorem dX8_allRanges_13 : decode cX8_allRanges 13 = .ok (.invokevirtual 56, 3) := by decide +kernel
theorem dX8_allRanges_16 : decode cX8_allRanges 16 = .ok (.iadd, 1) := by decide +kernel
theorem dX8_allRanges_17 : decode cX8_allRanges 17 = .ok (.istore_n 2, 1) := by decide +kernel
theorem dX8_allRanges_18 : decode cX8_allRanges 18 = .ok (.iinc 3 1, 3) := by decide +kernel
theorem dX8_allRanges_21 : decode cX8_allRanges 21 = .ok (.goto (-17), 3) := by decide +kernel
theorem dX8_allRanges_24 : decode cX8_allRanges 24 = .ok (.iload_n 2, 1) := by decide +kernel
theorem dX8_allRanges_25 : decode cX8_allRanges 25 = .ok (.ireturn, 1) := by decide +kernel
set_option maxRecDepth 20000 in
theorem ggX8_knownMany_X8_knows : GoodIn wsX8_knownMany wsX8_knows := goodIn_r _ [5, 6, 7, 8, 9, 10, 11, 12, 13, 14, 15, 16, 17, 18, 19, 20] (by decide +kernel) (by decide +kernel)
set_option maxRecDepth 20000 in
theorem gX8_knownMany_X8_knows : GoodIn wsX8_knownMany (wsV RX8 53 RX8 yX8_knows wsX8_knows) := goodIn_app (goodIn_of _ (by decide +kernel)) ggX8_knownMany_X8_knows
theorem dX8_knownMany_0 : decode cX8_knownMany 0 = .ok (.iconst 0, 1) := by decide +kernel
theorem dX8_knownMany_1 : decode cX8_knownMany 1 = .ok (.istore_n 3, 1) := by decide +kernel
theorem dX8_knownMany_2 : decode cX8_knownMany 2 = .ok (.iconst 1, 1) := by decide +kernel
theorem dX8_knownMany_3 : decode cX8_knownMany 3 = .ok (.istore 4, 2) := by decide +kernel
theorem dX8_knownMany_5 : decode cX8_knownMany 5 = .ok (.iload 4, 2) := by decide +kernel
theorem dX8_knownMany_7 : decode cX8_knownMany 7 = .ok (.bipush 24, 2) := by decide +kernel
theorem dX8_knownMany_9 : decode cX8_knownMany 9 = .ok (.if_icmp .gt 28, 3) := by decide +kernel
theorem dX8_knownMany_12 : decode cX8_knownMany 12 = .ok (.iload_n 3, 1) := by decide +kernel
theorem dX8_knownMany_13 : decode cX8_knownMany 13 = .ok (.aload_n 0, 1) := by decide +kernel
theorem dX8_knownMany_14 : decode cX8_knownMany 14 = .ok (.iload_n 1, 1) := by decide +kernel
theorem dX8_knownMany_15 : decode cX8_knownMany 15 = .ok (.iload_n 2, 1) := by decide +kernel
theorem dX8_knownMany_16 : decode cX8_knownMany 16 = .ok (.iload 4, 2) := by decide +kernel
theorem dX8_knownMany_18 : decode cX8_knownMany 18 = .ok (.invokevirtual 53, 3) := by decide +kernel
theorem dX8_knownMany_21 : decode cX8_knownMany 21 = .ok (.ifCond .eq 7, 3) := by decide +kernel
theorem dX8_knownMany_24 : decode cX8_knownMany 24 = .ok (.iconst 1, 1) := by decide +kernel
theorem dX8_knownMany_25 : decode cX8_knownMany 25 = .ok (.goto 4, 3) := by decide +kernel
theorem dX8_knownMany_28 : decode cX8_knownMany 28 = .ok (.iconst 0, 1) := by decide +kernel
theorem dX8_knownMany_29 : decode cX8_knownMany 29 = .ok (.iadd, 1) := by decide +kernel
theorem dX8_knownMany_30 : decode cX8_knownMany 30 = .ok (.istore_n 3, 1) := by decide +kernel
theorem dX8_knownMany_31 : decode cX8_knownMany 31 = .ok (.iinc 4 1, 3) := by decide +kernel
theorem dX8_knownMany_34 : decode cX8_knownMany 34 = .ok (.goto (-29), 3) := by decide +kernel
theorem dX8_knownMany_37 : decode cX8_knownMany 37 = .ok (.iload_n 3, 1) := by decide +kernel
theorem dX8_knownMany_38 : decode cX8_knownMany 38 = .ok (.ireturn, 1) := by decide +kernel
set_option maxRecDepth 20000 in
theorem ggX8_isCaused_X8_causeOf : GoodIn wsX8_isCaused wsX8_causeOf := goodIn_r _ [6, 7, 8, 9, 10, 11, 12, 13, 14, 15, 16, 17, 18, 19, 20, 21] (by decide +kernel) (by decide +kernel)
set_option maxRecDepth 20000 in
theorem gX8_isCaused_X8_causeOf : GoodIn wsX8_isCaused (wsV RX8 60 RX8 yX8_causeOf wsX8_causeOf) := goodIn_app (goodIn_of _ (by decide +kernel)) ggX8_isCaused_X8_causeOf
theorem dX8_isCaused_0 : decode cX8_isCaused 0 = .ok (.iconst 1, 1) := by decide +kernel
theorem dX8_isCaused_1 : decode cX8_isCaused 1 = .ok (.istore_n 3, 1) := by decide +kernel
theorem dX8_isCaused_2 : decode cX8_isCaused 2 = .ok (.iconst 0, 1) := by decide +kernel
theorem dX8_isCaused_3 : decode cX8_isCaused 3 = .ok (.istore 4, 2) := by decide +kernel
theorem dX8_isCaused_5 : decode cX8_isCaused 5 = .ok (.iload 4, 2) := by decide +kernel
theorem dX8_isCaused_7 : decode cX8_isCaused 7 = .ok (.iconst 4, 1) := by decide +kernel
theorem dX8_isCaused_8 : decode cX8_isCaused 8 = .ok (.if_icmp .ge 37, 3) := by decide +kernel
theorem dX8_isCaused_11 : decode cX8_isCaused 11 = .ok (.iload_n 3, 1) := by decide +kernel
theorem dX8_isCaused_12 : decode cX8_isCaused 12 = .ok (.ifCond .eq 25, 3) := by decide +kernel
theorem dX8_isCaused_15 : decode cX8_isCaused 15 = .ok (.aload_n 0, 1) := by decide +kernel
theorem dX8_isCaused_16 : decode cX8_isCaused 16 = .ok (.iload_n 1, 1) := by decide +kernel
theorem dX8_isCaused_17 : decode cX8_isCaused 17 = .ok (.iload_n 2, 1) := by decide +kernel
theorem dX8_isCaused_18 : decode cX8_isCaused 18 = .ok (.iload 4, 2) := by decide +kernel
theorem dX8_isCaused_20 : decode cX8_isCaused 20 = .ok (.invokevirtual 60, 3) := by decide +kernel
theorem dX8_isCaused_23 : decode cX8_isCaused 23 = .ok (.aload_n 0, 1) := by decide +kernel
theorem dX8_isCaused_24 : decode cX8_isCaused 24 = .ok (.getfield 22, 3) := by decide +kernel
theorem dX8_isCaused_27 : decode cX8_isCaused 27 = .ok (.iload 4, 2) := by decide +kernel
theorem dX8_isCaused_29 : decode cX8_isCaused 29 = .ok (.iaload, 1) := by decide +kernel
theorem dX8_isCaused_30 : decode cX8_isCaused 30 = .ok (.if_icmp .gt 7, 3) := by decide +kernel
theorem dX8_isCaused_33 : decode cX8_isCaused 33 = .ok (.iconst 1, 1) := by decide +kernel
theorem dX8_isCaused_34 : decode cX8_isCaused 34 = .ok (.goto 4, 3) := by decide +kernel
theorem dX8_isCaused_37 : decode cX8_isCaused 37 = .ok (.iconst 0, 1) := by decide +kernel
theorem dX8_isCaused_38 : decode cX8_isCaused 38 = .ok (.istore_n 3, 1) := by decide +kernel
theorem dX8_isCaused_39 : decode cX8_isCaused 39 = .ok (.iinc 4 1, 3) := by decide +kernel
theorem dX8_isCaused_42 : decode cX8_isCaused 42 = .ok (.goto (-37), 3) := by decide +kernel
theorem dX8_isCaused_45 : decode cX8_isCaused 45 = .ok (.iload_n 3, 1) := by decide +kernel
theorem dX8_isCaused_46 : decode cX8_isCaused 46 = .ok (.ireturn, 1) := by decide +kernel
set_option maxRecDepth 20000 in
theorem ggX8_serves_X8_knows : GoodIn wsX8_serves wsX8_knows := goodIn_r _ [6, 7, 16, 17, 18, 19, 20, 21, 22, 23, 24, 25, 26, 27, 28, 29] (by decide +kernel) (by decide +kernel)
set_option maxRecDepth 20000 in
theorem gX8_serves_X8_knows : GoodIn wsX8_serves (wsV RX8 53 RX8 yX8_knows wsX8_knows) := goodIn_app (goodIn_of _ (by decide +kernel)) ggX8_serves_X8_knows
set_option maxRecDepth 20000 in
theorem ggX8_serves_X8_isCaused : GoodIn wsX8_serves wsX8_isCaused := goodIn_r _ [11, 1, 12, 13, 14, 5, 15, 7, 16, 17, 18, 19, 20, 21, 22, 23, 24, 25, 26, 27, 28, 29] (by decide +kernel) (by decide +kernel)
set_option maxRecDepth 20000 in
theorem gX8_serves_X8_isCaused : GoodIn wsX8_serves (wsV RX8 64 RX8 yX8_isCaused wsX8_isCaused) := goodIn_app (goodIn_of _ (by decide +kernel)) ggX8_serves_X8_isCaused
theorem dX8_serves_0 : decode cX8_serves 0 = .ok (.iconst 0, 1) := by decide +kernel
theorem dX8_serves_1 : decode cX8_serves 1 = .ok (.istore_n 2, 1) := by decide +kernel
theorem dX8_serves_2 : decode cX8_serves 2 = .ok (.iload_n 2, 1) := by decide +kernel
theorem dX8_serves_3 : decode cX8_serves 3 = .ok (.iconst 4, 1) := by decide +kernel
theorem dX8_serves_4 : decode cX8_serves 4 = .ok (.if_icmp .ge 57, 3) := by decide +kernel
theorem dX8_serves_7 : decode cX8_serves 7 = .ok (.aload_n 0, 1) := by decide +kernel
theorem dX8_serves_8 : decode cX8_serves 8 = .ok (.getfield 22, 3) := by decide +kernel
theorem dX8_serves_11 : decode cX8_serves 11 = .ok (.iload_n 2, 1) := by decide +kernel
theorem dX8_serves_12 : decode cX8_serves 12 = .ok (.iconst 0, 1) := by decide +kernel
theorem dX8_serves_13 : decode cX8_serves 13 = .ok (.iastore, 1) := by decide +kernel
theorem dX8_serves_14 : decode cX8_serves 14 = .ok (.aload_n 0, 1) := by decide +kernel
theorem dX8_serves_15 : decode cX8_serves 15 = .ok (.getfield 22, 3) := by decide +kernel
theorem dX8_serves_18 : decode cX8_serves 18 = .ok (.iload_n 2, 1) := by decide +kernel
theorem dX8_serves_19 : decode cX8_serves 19 = .ok (.iaload, 1) := by decide +kernel
theorem dX8_serves_20 : decode cX8_serves 20 = .ok (.bipush 24, 2) := by decide +kernel
theorem dX8_serves_22 : decode cX8_serves 22 = .ok (.if_icmp .ge 33, 3) := by decide +kernel
theorem dX8_serves_25 : decode cX8_serves 25 = .ok (.aload_n 0, 1) := by decide +kernel
theorem dX8_serves_26 : decode cX8_serves 26 = .ok (.iload_n 1, 1) := by decide +kernel
theorem dX8_serves_27 : decode cX8_serves 27 = .ok (.iload_n 2, 1) := by decide +kernel
theorem dX8_serves_28 : decode cX8_serves 28 = .ok (.aload_n 0, 1) := by decide +kernel
theorem dX8_serves_29 : decode cX8_serves 29 = .ok (.getfield 22, 3) := by decide +kernel
theorem dX8_serves_32 : decode cX8_serves 32 = .ok (.iload_n 2, 1) := by decide +kernel
theorem dX8_serves_33 : decode cX8_serves 33 = .ok (.iaload, 1) := by decide +kernel
theorem dX8_serves_34 : decode cX8_serves 34 = .ok (.iconst 1, 1) := by decide +kernel
theorem dX8_serves_35 : decode cX8_serves 35 = .ok (.iadd, 1) := by decide +kernel
theorem dX8_serves_36 : decode cX8_serves 36 = .ok (.invokevirtual 53, 3) := by decide +kernel
theorem dX8_serves_39 : decode cX8_serves 39 = .ok (.ifCond .eq 16, 3) := by decide +kernel
theorem dX8_serves_42 : decode cX8_serves 42 = .ok (.aload_n 0, 1) := by decide +kernel
theorem dX8_serves_43 : decode cX8_serves 43 = .ok (.getfield 22, 3) := by decide +kernel
theorem dX8_serves_46 : decode cX8_serves 46 = .ok (.iload_n 2, 1) := by decide +kernel
theorem dX8_serves_47 : decode cX8_serves 47 = .ok (.dup2, 1) := by decide +kernel
theorem dX8_serves_48 : decode cX8_serves 48 = .ok (.iaload, 1) := by decide +kernel
theorem dX8_serves_49 : decode cX8_serves 49 = .ok (.iconst 1, 1) := by decide +kernel
theorem dX8_serves_50 : decode cX8_serves 50 = .ok (.iadd, 1) := by decide +kernel
theorem dX8_serves_51 : decode cX8_serves 51 = .ok (.iastore, 1) := by decide +kernel
theorem dX8_serves_52 : decode cX8_serves 52 = .ok (.goto (-38), 3) := by decide +kernel
theorem dX8_serves_55 : decode cX8_serves 55 = .ok (.iinc 2 1, 3) := by decide +kernel
theorem dX8_serves_58 : decode cX8_serves 58 = .ok (.goto (-56), 3) := by decide +kernel
theorem dX8_serves_61 : decode cX8_serves 61 = .ok (.iconst 1, 1) := by decide +kernel
theorem dX8_serves_62 : decode cX8_serves 62 = .ok (.istore_n 2, 1) := by decide +kernel
theorem dX8_serves_63 : decode cX8_serves 63 = .ok (.iload_n 2, 1) := by decide +kernel
theorem dX8_serves_64 : decode cX8_serves 64 = .ok (.ifCond .eq 82, 3) := by decide +kernel
theorem dX8_serves_67 : decode cX8_serves 67 = .ok (.iconst 0, 1) := by decide +kernel
theorem dX8_serves_68 : decode cX8_serves 68 = .ok (.istore_n 2, 1) := by decide +kernel
theorem dX8_serves_69 : decode cX8_serves 69 = .ok (.iconst 0, 1) := by decide +kernel
theorem dX8_serves_70 : decode cX8_serves 70 = .ok (.istore_n 3, 1) := by decide +kernel
theorem dX8_serves_71 : decode cX8_serves 71 = .ok (.iload_n 3, 1) := by decide +kernel
theorem dX8_serves_72 : decode cX8_serves 72 = .ok (.iconst 4, 1) := by decide +kernel
theorem dX8_serves_73 : decode cX8_serves 73 = .ok (.if_icmp .ge 70, 3) := by decide +kernel
theorem dX8_serves_76 : decode cX8_serves 76 = .ok (.iconst 1, 1) := by decide +kernel
theorem dX8_serves_77 : decode cX8_serves 77 = .ok (.istore 4, 2) := by decide +kernel
theorem dX8_serves_79 : decode cX8_serves 79 = .ok (.iload 4, 2) := by decide +kernel
theorem dX8_serves_81 : decode cX8_serves 81 = .ok (.aload_n 0, 1) := by decide +kernel
theorem dX8_serves_82 : decode cX8_serves 82 = .ok (.getfield 22, 3) := by decide +kernel
theorem dX8_serves_85 : decode cX8_serves 85 = .ok (.iload_n 3, 1) := by decide +kernel
theorem dX8_serves_86 : decode cX8_serves 86 = .ok (.iaload, 1) := by decide +kernel
theorem dX8_serves_87 : decode cX8_serves 87 = .ok (.if_icmp .gt 19, 3) := by decide +kernel
theorem dX8_serves_90 : decode cX8_serves 90 = .ok (.aload_n 0, 1) := by decide +kernel
theorem dX8_serves_91 : decode cX8_serves 91 = .ok (.iload_n 3, 1) := by decide +kernel
theorem dX8_serves_92 : decode cX8_serves 92 = .ok (.iload 4, 2) := by decide +kernel
theorem dX8_serves_94 : decode cX8_serves 94 = .ok (.invokevirtual 64, 3) := by decide +kernel
theorem dX8_serves_97 : decode cX8_serves 97 = .ok (.ifCond .eq 9, 3) := by decide +kernel
theorem dX8_serves_100 : decode cX8_serves 100 = .ok (.iinc 4 1, 3) := by decide +kernel
theorem dX8_serves_103 : decode cX8_serves 103 = .ok (.goto (-24), 3) := by decide +kernel
theorem dX8_serves_106 : decode cX8_serves 106 = .ok (.iload_n 2, 1) := by decide +kernel
theorem dX8_serves_107 : decode cX8_serves 107 = .ok (.ifCond .ne 14, 3) := by decide +kernel
theorem dX8_serves_110 : decode cX8_serves 110 = .ok (.iload 4, 2) := by decide +kernel
theorem dX8_serves_112 : decode cX8_serves 112 = .ok (.aload_n 0, 1) := by decide +kernel
theorem dX8_serves_113 : decode cX8_serves 113 = .ok (.getfield 22, 3) := by decide +kernel
theorem dX8_serves_116 : decode cX8_serves 116 = .ok (.iload_n 3, 1) := by decide +kernel
theorem dX8_serves_117 : decode cX8_serves 117 = .ok (.iaload, 1) := by decide +kernel
theorem dX8_serves_118 : decode cX8_serves 118 = .ok (.if_icmp .gt 7, 3) := by decide +kernel
theorem dX8_serves_121 : decode cX8_serves 121 = .ok (.iconst 1, 1) := by decide +kernel
theorem dX8_serves_122 : decode cX8_serves 122 = .ok (.goto 4, 3) := by decide +kernel
theorem dX8_serves_125 : decode cX8_serves 125 = .ok (.iconst 0, 1) := by decide +kernel
theorem dX8_serves_126 : decode cX8_serves 126 = .ok (.istore_n 2, 1) := by decide +kernel
theorem dX8_serves_127 : decode cX8_serves 127 = .ok (.aload_n 0, 1) := by decide +kernel
theorem dX8_serves_128 : decode cX8_serves 128 = .ok (.getfield 22, 3) := by decide +kernel
theorem dX8_serves_131 : decode cX8_serves 131 = .ok (.iload_n 3, 1) := by decide +kernel
theorem dX8_serves_132 : decode cX8_serves 132 = .ok (.iload 4, 2) := by decide +kernel
theorem dX8_serves_134 : decode cX8_serves 134 = .ok (.iconst 1, 1) := by decide +kernel
theorem dX8_serves_135 : decode cX8_serves 135 = .ok (.isub, 1) := by decide +kernel
theorem dX8_serves_136 : decode cX8_serves 136 = .ok (.iastore, 1) := by decide +kernel
theorem dX8_serves_137 : decode cX8_serves 137 = .ok (.iinc 3 1, 3) := by decide +kernel
theorem dX8_serves_140 : decode cX8_serves 140 = .ok (.goto (-69), 3) := by decide +kernel
theorem dX8_serves_143 : decode cX8_serves 143 = .ok (.goto (-80), 3) := by decide +kernel
theorem dX8_serves_146 : decode cX8_serves 146 = .ok (.return_, 1) := by decide +kernel
theorem dX8_depth_0 : decode cX8_depth 0 = .ok (.iconst 0, 1) := by decide +kernel
theorem dX8_depth_1 : decode cX8_depth 1 = .ok (.istore_n 2, 1) := by decide +kernel
theorem dX8_depth_2 : decode cX8_depth 2 = .ok (.iload_n 1, 1) := by decide +kernel
theorem dX8_depth_3 : decode cX8_depth 3 = .ok (.istore_n 3, 1) := by decide +kernel
theorem dX8_depth_4 : decode cX8_depth 4 = .ok (.iload_n 3, 1) := by decide +kernel
theorem dX8_depth_5 : decode cX8_depth 5 = .ok (.ifCond .le 19, 3) := by decide +kernel
theorem dX8_depth_8 : decode cX8_depth 8 = .ok (.aload_n 0, 1) := by decide +kernel
theorem dX8_depth_9 : decode cX8_depth 9 = .ok (.getfield 7, 3) := by decide +kernel
theorem dX8_depth_12 : decode cX8_depth 12 = .ok (.bipush 7, 2) := by decide +kernel
theorem dX8_depth_14 : decode cX8_depth 14 = .ok (.iload_n 3, 1) := by decide +kernel
theorem dX8_depth_15 : decode cX8_depth 15 = .ok (.iadd, 1) := by decide +kernel
theorem dX8_depth_16 : decode cX8_depth 16 = .ok (.iaload, 1) := by decide +kernel
theorem dX8_depth_17 : decode cX8_depth 17 = .ok (.istore_n 3, 1) := by decide +kernel
theorem dX8_depth_18 : decode cX8_depth 18 = .ok (.iinc 2 1, 3) := by decide +kernel
theorem dX8_depth_21 : decode cX8_depth 21 = .ok (.goto (-17), 3) := by decide +kernel
theorem dX8_depth_24 : decode cX8_depth 24 = .ok (.iload_n 2, 1) := by decide +kernel
theorem dX8_depth_25 : decode cX8_depth 25 = .ok (.ireturn, 1) := by decide +kernel
theorem dX8_children_0 : decode cX8_children 0 = .ok (.iconst 0, 1) := by decide +kernel
theorem dX8_children_1 : decode cX8_children 1 = .ok (.istore_n 2, 1) := by decide +kernel
theorem dX8_children_2 : decode cX8_children 2 = .ok (.iconst 1, 1) := by decide +kernel
theorem dX8_children_3 : decode cX8_children 3 = .ok (.istore_n 3, 1) := by decide +kernel
theorem dX8_children_4 : decode cX8_children 4 = .ok (.iload_n 3, 1) := by decide +kernel
theorem dX8_children_5 : decode cX8_children 5 = .ok (.aload_n 0, 1) := by decide +kernel
theorem dX8_children_6 : decode cX8_children 6 = .ok (.getfield 7, 3) := by decide +kernel
theorem dX8_children_9 : decode cX8_children 9 = .ok (.iconst 0, 1) := by decide +kernel
theorem dX8_children_10 : decode cX8_children 10 = .ok (.iaload, 1) := by decide +kernel
theorem dX8_children_11 : decode cX8_children 11 = .ok (.if_icmp .ge 30, 3) := by decide +kernel
theorem dX8_children_14 : decode cX8_children 14 = .ok (.iload_n 2, 1) := by decide +kernel
theorem dX8_children_15 : decode cX8_children 15 = .ok (.aload_n 0, 1) := by decide +kernel
theorem dX8_children_16 : decode cX8_children 16 = .ok (.getfield 7, 3) := by decide +kernel
theorem dX8_children_19 : decode cX8_children 19 = .ok (.bipush 7, 2) := by decide +kernel
theorem dX8_children_21 : decode cX8_children 21 = .ok (.iload_n 3, 1) := by decide +kernel
theorem dX8_children_22 : decode cX8_children 22 = .ok (.iadd, 1) := by decide +kernel
theorem dX8_children_23 : decode cX8_children 23 = .ok (.iaload, 1) := by decide +kernel
theorem dX8_children_24 : decode cX8_children 24 = .ok (.iload_n 1, 1) := by decide +kernel
theorem dX8_children_25 : decode cX8_children 25 = .ok (.if_icmp .ne 7, 3) := by decide +kernel
theorem dX8_children_28 : decode cX8_children 28 = .ok (.iconst 1, 1) := by decide +kernel
theorem dX8_children_29 : decode cX8_children 29 = .ok (.goto 4, 3) := by decide +kernel
theorem dX8_children_32 : decode cX8_children 32 = .ok (.iconst 0, 1) := by decide +kernel
theorem dX8_children_33 : decode cX8_children 33 = .ok (.iadd, 1) := by decide +kernel
theorem dX8_children_34 : decode cX8_children 34 = .ok (.istore_n 2, 1) := by decide +kernel
theorem dX8_children_35 : decode cX8_children 35 = .ok (.iinc 3 1, 3) := by decide +kernel
theorem dX8_children_38 : decode cX8_children 38 = .ok (.goto (-34), 3) := by decide +kernel
theorem dX8_children_41 : decode cX8_children 41 = .ok (.iload_n 2, 1) := by decide +kernel
theorem dX8_children_42 : decode cX8_children 42 = .ok (.ireturn, 1) := by decide +kernel
set_option maxRecDepth 20000 in
theorem ggX8_sumOf_X8_serves : GoodIn wsX8_sumOf wsX8_serves := goodIn_r _ [6, 1, 7, 8, 9, 5, 10, 11, 12, 13, 14, 15, 16, 17, 18, 19, 32, 33, 34, 35, 36, 37, 38, 39, 40, 41, 42, 43, 44, 45] (by decide +kernel) (by decide +kernel)
set_option maxRecDepth 20000 in
theorem gX8_sumOf_X8_serves : GoodIn wsX8_sumOf (wsV RX8 68 RX8 yX8_serves wsX8_serves) := goodIn_app (goodIn_of _ (by decide +kernel)) ggX8_sumOf_X8_serves
set_option maxRecDepth 20000 in
theorem ggX8_sumOf_X8_knownMany : GoodIn wsX8_sumOf wsX8_knownMany := goodIn_r _ [23, 7, 8, 9, 5, 10, 11, 32, 33, 34, 35, 36, 37, 38, 39, 40, 41, 42, 43, 44, 45] (by decide +kernel) (by decide +kernel)
set_option maxRecDepth 20000 in
theorem gX8_sumOf_X8_knownMany : GoodIn wsX8_sumOf (wsV RX8 72 RX8 yX8_knownMany wsX8_knownMany) := goodIn_app (goodIn_of _ (by decide +kernel)) ggX8_sumOf_X8_knownMany
set_option maxRecDepth 20000 in
theorem ggX8_sumOf_X8_rangesOf : GoodIn wsX8_sumOf wsX8_rangesOf := goodIn_r _ [27, 7, 8, 9, 5, 10, 11, 32, 33, 34, 35, 36, 37, 38, 39, 40, 41, 42, 43, 44, 45] (by decide +kernel) (by decide +kernel)
set_option maxRecDepth 20000 in
theorem gX8_sumOf_X8_rangesOf : GoodIn wsX8_sumOf (wsV RX8 56 RX8 yX8_rangesOf wsX8_rangesOf) := goodIn_app (goodIn_of _ (by decide +kernel)) ggX8_sumOf_X8_rangesOf
set_option maxRecDepth 20000 in
theorem ggX8_sumOf_X8_boundOf : GoodIn wsX8_sumOf wsX8_boundOf := goodIn_r _ [31, 7, 8, 9, 5, 10, 11, 32, 33, 34, 35, 36, 37, 38, 39, 40, 41, 42, 43, 44, 45] (by decide +kernel) (by decide +kernel)
set_option maxRecDepth 20000 in
theorem gX8_sumOf_X8_boundOf : GoodIn wsX8_sumOf (wsV RX8 75 RX8 yX8_boundOf wsX8_boundOf) := goodIn_app (goodIn_of _ (by decide +kernel)) ggX8_sumOf_X8_boundOf
theorem dX8_sumOf_0 : decode cX8_sumOf 0 = .ok (.aload_n 0, 1) := by decide +kernel
theorem dX8_sumOf_1 : decode cX8_sumOf 1 = .ok (.iload_n 1, 1) := by decide +kernel
theorem dX8_sumOf_2 : decode cX8_sumOf 2 = .ok (.invokevirtual 68, 3) := by decide +kernel
theorem dX8_sumOf_5 : decode cX8_sumOf 5 = .ok (.iconst 0, 1) := by decide +kernel
theorem dX8_sumOf_6 : decode cX8_sumOf 6 = .ok (.istore_n 3, 1) := by decide +kernel
theorem dX8_sumOf_7 : decode cX8_sumOf 7 = .ok (.iconst 0, 1) := by decide +kernel
theorem dX8_sumOf_8 : decode cX8_sumOf 8 = .ok (.istore 4, 2) := by decide +kernel
theorem dX8_sumOf_10 : decode cX8_sumOf 10 = .ok (.iload 4, 2) := by decide +kernel
theorem dX8_sumOf_12 : decode cX8_sumOf 12 = .ok (.iconst 4, 1) := by decide +kernel
theorem dX8_sumOf_13 : decode cX8_sumOf 13 = .ok (.if_icmp .ge 81, 3) := by decide +kernel
theorem dX8_sumOf_16 : decode cX8_sumOf 16 = .ok (.aload_n 0, 1) := by decide +kernel
theorem dX8_sumOf_17 : decode cX8_sumOf 17 = .ok (.iload_n 1, 1) := by decide +kernel
theorem dX8_sumOf_18 : decode cX8_sumOf 18 = .ok (.iload 4, 2) := by decide +kernel
theorem dX8_sumOf_20 : decode cX8_sumOf 20 = .ok (.invokevirtual 72, 3) := by decide +kernel
theorem dX8_sumOf_23 : decode cX8_sumOf 23 = .ok (.istore 5, 2) := by decide +kernel
theorem dX8_sumOf_25 : decode cX8_sumOf 25 = .ok (.iload_n 3, 1) := by decide +kernel
theorem dX8_sumOf_26 : decode cX8_sumOf 26 = .ok (.iload_n 2, 1) := by decide +kernel
theorem dX8_sumOf_27 : decode cX8_sumOf 27 = .ok (.ifCond .ne 8, 3) := by decide +kernel
theorem dX8_sumOf_30 : decode cX8_sumOf 30 = .ok (.iload 5, 2) := by decide +kernel
theorem dX8_sumOf_32 : decode cX8_sumOf 32 = .ok (.goto 54, 3) := by decide +kernel
theorem dX8_sumOf_35 : decode cX8_sumOf 35 = .ok (.iload_n 2, 1) := by decide +kernel
theorem dX8_sumOf_36 : decode cX8_sumOf 36 = .ok (.iconst 1, 1) := by decide +kernel
theorem dX8_sumOf_37 : decode cX8_sumOf 37 = .ok (.if_icmp .ne 13, 3) := by decide +kernel
theorem dX8_sumOf_40 : decode cX8_sumOf 40 = .ok (.aload_n 0, 1) := by decide +kernel
theorem dX8_sumOf_41 : decode cX8_sumOf 41 = .ok (.getfield 22, 3) := by decide +kernel
theorem dX8_sumOf_44 : decode cX8_sumOf 44 = .ok (.iload 4, 2) := by decide +kernel
theorem dX8_sumOf_46 : decode cX8_sumOf 46 = .ok (.iaload, 1) := by decide +kernel
theorem dX8_sumOf_47 : decode cX8_sumOf 47 = .ok (.goto 39, 3) := by decide +kernel
theorem dX8_sumOf_50 : decode cX8_sumOf 50 = .ok (.iload_n 2, 1) := by decide +kernel
theorem dX8_sumOf_51 : decode cX8_sumOf 51 = .ok (.iconst 2, 1) := by decide +kernel
theorem dX8_sumOf_52 : decode cX8_sumOf 52 = .ok (.if_icmp .ne 24, 3) := by decide +kernel
theorem dX8_sumOf_55 : decode cX8_sumOf 55 = .ok (.aload_n 0, 1) := by decide +kernel
theorem dX8_sumOf_56 : decode cX8_sumOf 56 = .ok (.iload_n 1, 1) := by decide +kernel
theorem dX8_sumOf_57 : decode cX8_sumOf 57 = .ok (.iload 4, 2) := by decide +kernel
theorem dX8_sumOf_59 : decode cX8_sumOf 59 = .ok (.invokevirtual 56, 3) := by decide +kernel
theorem dX8_sumOf_62 : decode cX8_sumOf 62 = .ok (.iload 5, 2) := by decide +kernel
theorem dX8_sumOf_64 : decode cX8_sumOf 64 = .ok (.ifCond .le 7, 3) := by decide +kernel
theorem dX8_sumOf_67 : decode cX8_sumOf 67 = .ok (.iconst 1, 1) := by decide +kernel
theorem dX8_sumOf_68 : decode cX8_sumOf 68 = .ok (.goto 4, 3) := by decide +kernel
theorem dX8_sumOf_71 : decode cX8_sumOf 71 = .ok (.iconst 0, 1) := by decide +kernel
theorem dX8_sumOf_72 : decode cX8_sumOf 72 = .ok (.iadd, 1) := by decide +kernel
theorem dX8_sumOf_73 : decode cX8_sumOf 73 = .ok (.goto 13, 3) := by decide +kernel
theorem dX8_sumOf_76 : decode cX8_sumOf 76 = .ok (.aload_n 0, 1) := by decide +kernel
theorem dX8_sumOf_77 : decode cX8_sumOf 77 = .ok (.iload_n 1, 1) := by decide +kernel
theorem dX8_sumOf_78 : decode cX8_sumOf 78 = .ok (.iload 4, 2) := by decide +kernel
theorem dX8_sumOf_80 : decode cX8_sumOf 80 = .ok (.invokevirtual 75, 3) := by decide +kernel
theorem dX8_sumOf_83 : decode cX8_sumOf 83 = .ok (.iload 5, 2) := by decide +kernel
theorem dX8_sumOf_85 : decode cX8_sumOf 85 = .ok (.isub, 1) := by decide +kernel
theorem dX8_sumOf_86 : decode cX8_sumOf 86 = .ok (.iadd, 1) := by decide +kernel
theorem dX8_sumOf_87 : decode cX8_sumOf 87 = .ok (.istore_n 3, 1) := by decide +kernel
theorem dX8_sumOf_88 : decode cX8_sumOf 88 = .ok (.iinc 4 1, 3) := by decide +kernel
theorem dX8_sumOf_91 : decode cX8_sumOf 91 = .ok (.goto (-81), 3) := by decide +kernel
theorem dX8_sumOf_94 : decode cX8_sumOf 94 = .ok (.iload_n 3, 1) := by decide +kernel
theorem dX8_sumOf_95 : decode cX8_sumOf 95 = .ok (.ireturn, 1) := by decide +kernel
set_option maxRecDepth 20000 in
theorem ggX8_proxy_X8_isProxy : GoodIn wsX8_proxy wsX8_isProxy := goodIn_r _ [6, 1, 7, 8, 5, 9, 51, 52, 53, 54, 55, 56, 57, 58, 59, 60, 61, 62, 63, 64] (by decide +kernel) (by decide +kernel)
set_option maxRecDepth 20000 in
theorem gX8_proxy_X8_isProxy : GoodIn wsX8_proxy (wsV RX8 47 RX8 yX8_isProxy wsX8_isProxy) := goodIn_app (goodIn_of _ (by decide +kernel)) ggX8_proxy_X8_isProxy
set_option maxRecDepth 20000 in
theorem ggX8_proxy_X8_depth : GoodIn wsX8_proxy wsX8_depth := goodIn_r _ [13, 1, 51, 52, 53, 54, 55, 56, 57, 58, 59, 60, 61, 62, 63, 64] (by decide +kernel) (by decide +kernel)
set_option maxRecDepth 20000 in
theorem gX8_proxy_X8_depth : GoodIn wsX8_proxy (wsV RX8 78 RX8 yX8_depth wsX8_depth) := goodIn_app (goodIn_of _ (by decide +kernel)) ggX8_proxy_X8_depth
set_option maxRecDepth 20000 in
theorem ggX8_proxy_X8_children : GoodIn wsX8_proxy wsX8_children := goodIn_r _ [17, 1, 51, 52, 53, 54, 55, 56, 57, 58, 59, 60, 61, 62, 63, 64] (by decide +kernel) (by decide +kernel)
set_option maxRecDepth 20000 in
theorem gX8_proxy_X8_children : GoodIn wsX8_proxy (wsV RX8 81 RX8 yX8_children wsX8_children) := goodIn_app (goodIn_of _ (by decide +kernel)) ggX8_proxy_X8_children
set_option maxRecDepth 20000 in
theorem ggX8_proxy_X8_sumOf : GoodIn wsX8_proxy wsX8_sumOf := goodIn_r _ [21, 22, 23, 24, 25, 5, 26, 27, 28, 29, 30, 1, 31, 32, 33, 34, 35, 36, 37, 38, 39, 40, 41, 42, 43, 44, 45, 46, 47, 48, 49, 50, 51, 52, 53, 54, 55, 56, 57, 58, 59, 60, 61, 62, 63, 64] (by decide +kernel) (by decide +kernel)
set_option maxRecDepth 20000 in
theorem gX8_proxy_X8_sumOf : GoodIn wsX8_proxy (wsV RX8 84 RX8 yX8_sumOf wsX8_sumOf) := goodIn_app (goodIn_of _ (by decide +kernel)) ggX8_proxy_X8_sumOf
theorem dX8_proxy_0 : decode cX8_proxy 0 = .ok (.aload_n 0, 1) := by decide +kernel
theorem dX8_proxy_1 : decode cX8_proxy 1 = .ok (.iload_n 1, 1) := by decide +kernel
theorem dX8_proxy_2 : decode cX8_proxy 2 = .ok (.invokevirtual 47, 3) := by decide +kernel
theorem dX8_proxy_5 : decode cX8_proxy 5 = .ok (.ifCond .ne 5, 3) := by decide +kernel
theorem dX8_proxy_8 : decode cX8_proxy 8 = .ok (.iconst (-1), 1) := by decide +kernel
theorem dX8_proxy_9 : decode cX8_proxy 9 = .ok (.ireturn, 1) := by decide +kernel
theorem dX8_proxy_10 : decode cX8_proxy 10 = .ok (.iload_n 2, 1) := by decide +kernel
theorem dX8_proxy_11 : decode cX8_proxy 11 = .ok (.tableswitch 106 0 7 #[45, 55, 61, 67, 74, 81, 92, 99], 45) := by decide +kernel
theorem dX8_proxy_56 : decode cX8_proxy 56 = .ok (.aload_n 0, 1) := by decide +kernel
theorem dX8_proxy_57 : decode cX8_proxy 57 = .ok (.getfield 7, 3) := by decide +kernel
theorem dX8_proxy_60 : decode cX8_proxy 60 = .ok (.bipush 7, 2) := by decide +kernel
theorem dX8_proxy_62 : decode cX8_proxy 62 = .ok (.iload_n 1, 1) := by decide +kernel
theorem dX8_proxy_63 : decode cX8_proxy 63 = .ok (.iadd, 1) := by decide +kernel
theorem dX8_proxy_64 : decode cX8_proxy 64 = .ok (.iaload, 1) := by decide +kernel
theorem dX8_proxy_65 : decode cX8_proxy 65 = .ok (.ireturn, 1) := by decide +kernel
theorem dX8_proxy_66 : decode cX8_proxy 66 = .ok (.aload_n 0, 1) := by decide +kernel
theorem dX8_proxy_67 : decode cX8_proxy 67 = .ok (.iload_n 1, 1) := by decide +kernel
theorem dX8_proxy_68 : decode cX8_proxy 68 = .ok (.invokevirtual 78, 3) := by decide +kernel
theorem dX8_proxy_71 : decode cX8_proxy 71 = .ok (.ireturn, 1) := by decide +kernel
theorem dX8_proxy_72 : decode cX8_proxy 72 = .ok (.aload_n 0, 1) := by decide +kernel
theorem dX8_proxy_73 : decode cX8_proxy 73 = .ok (.iload_n 1, 1) := by decide +kernel
theorem dX8_proxy_74 : decode cX8_proxy 74 = .ok (.invokevirtual 81, 3) := by decide +kernel
theorem dX8_proxy_77 : decode cX8_proxy 77 = .ok (.ireturn, 1) := by decide +kernel
theorem dX8_proxy_78 : decode cX8_proxy 78 = .ok (.aload_n 0, 1) := by decide +kernel
theorem dX8_proxy_79 : decode cX8_proxy 79 = .ok (.iload_n 1, 1) := by decide +kernel
theorem dX8_proxy_80 : decode cX8_proxy 80 = .ok (.iconst 0, 1) := by decide +kernel
theorem dX8_proxy_81 : decode cX8_proxy 81 = .ok (.invokevirtual 84, 3) := by decide +kernel
theorem dX8_proxy_84 : decode cX8_proxy 84 = .ok (.ireturn, 1) := by decide +kernel
theorem dX8_proxy_85 : decode cX8_proxy 85 = .ok (.aload_n 0, 1) := by decide +kernel
theorem dX8_proxy_86 : decode cX8_proxy 86 = .ok (.iload_n 1, 1) := by decide +kernel
theorem dX8_proxy_87 : decode cX8_proxy 87 = .ok (.iconst 1, 1) := by decide +kernel
theorem dX8_proxy_88 : decode cX8_proxy 88 = .ok (.invokevirtual 84, 3) := by decide +kernel
theorem dX8_proxy_91 : decode cX8_proxy 91 = .ok (.ireturn, 1) := by decide +kernel
theorem dX8_proxy_92 : decode cX8_proxy 92 = .ok (.aload_n 0, 1) := by decide +kernel
theorem dX8_proxy_93 : decode cX8_proxy 93 = .ok (.getfield 7, 3) := by decide +kernel
theorem dX8_proxy_96 : decode cX8_proxy 96 = .ok (.sipush 439, 3) := by decide +kernel
theorem dX8_proxy_99 : decode cX8_proxy 99 = .ok (.iload_n 1, 1) := by decide +kernel
theorem dX8_proxy_100 : decode cX8_proxy 100 = .ok (.iadd, 1) := by decide +kernel
theorem dX8_proxy_101 : decode cX8_proxy 101 = .ok (.iaload, 1) := by decide +kernel
theorem dX8_proxy_102 : decode cX8_proxy 102 = .ok (.ireturn, 1) := by decide +kernel
theorem dX8_proxy_103 : decode cX8_proxy 103 = .ok (.aload_n 0, 1) := by decide +kernel
theorem dX8_proxy_104 : decode cX8_proxy 104 = .ok (.iload_n 1, 1) := by decide +kernel
theorem dX8_proxy_105 : decode cX8_proxy 105 = .ok (.iconst 2, 1) := by decide +kernel
theorem dX8_proxy_106 : decode cX8_proxy 106 = .ok (.invokevirtual 84, 3) := by decide +kernel
theorem dX8_proxy_109 : decode cX8_proxy 109 = .ok (.ireturn, 1) := by decide +kernel
theorem dX8_proxy_110 : decode cX8_proxy 110 = .ok (.aload_n 0, 1) := by decide +kernel
theorem dX8_proxy_111 : decode cX8_proxy 111 = .ok (.iload_n 1, 1) := by decide +kernel
theorem dX8_proxy_112 : decode cX8_proxy 112 = .ok (.iconst 3, 1) := by decide +kernel
theorem dX8_proxy_113 : decode cX8_proxy 113 = .ok (.invokevirtual 84, 3) := by decide +kernel
theorem dX8_proxy_116 : decode cX8_proxy 116 = .ok (.ireturn, 1) := by decide +kernel
theorem dX8_proxy_117 : decode cX8_proxy 117 = .ok (.iconst (-1), 1) := by decide +kernel
theorem dX8_proxy_118 : decode cX8_proxy 118 = .ok (.ireturn, 1) := by decide +kernel
theorem dX8_count_0 : decode cX8_count 0 = .ok (.iload_n 1, 1) := by decide +kernel
theorem dX8_count_1 : decode cX8_count 1 = .ok (.tableswitch 138 0 8 #[51, 58, 65, 72, 104, 111, 118, 125, 133], 51) := by decide +kernel
theorem dX8_count_52 : decode cX8_count 52 = .ok (.aload_n 0, 1) := by decide +kernel
theorem dX8_count_53 : decode cX8_count 53 = .ok (.getfield 7, 3) := by decide +kernel
theorem dX8_count_56 : decode cX8_count 56 = .ok (.iconst 0, 1) := by decide +kernel
theorem dX8_count_57 : decode cX8_count 57 = .ok (.iaload, 1) := by decide +kernel
theorem dX8_count_58 : decode cX8_count 58 = .ok (.ireturn, 1) := by decide +kernel
theorem dX8_count_59 : decode cX8_count 59 = .ok (.aload_n 0, 1) := by decide +kernel
theorem dX8_count_60 : decode cX8_count 60 = .ok (.getfield 7, 3) := by decide +kernel
theorem dX8_count_63 : decode cX8_count 63 = .ok (.iconst 1, 1) := by decide +kernel
theorem dX8_count_64 : decode cX8_count 64 = .ok (.iaload, 1) := by decide +kernel
theorem dX8_count_65 : decode cX8_count 65 = .ok (.ireturn, 1) := by decide +kernel
theorem dX8_count_66 : decode cX8_count 66 = .ok (.aload_n 0, 1) := by decide +kernel
theorem dX8_count_67 : decode cX8_count 67 = .ok (.getfield 7, 3) := by decide +kernel
theorem dX8_count_70 : decode cX8_count 70 = .ok (.iconst 2, 1) := by decide +kernel
theorem dX8_count_71 : decode cX8_count 71 = .ok (.iaload, 1) := by decide +kernel
theorem dX8_count_72 : decode cX8_count 72 = .ok (.ireturn, 1) := by decide +kernel
theorem dX8_count_73 : decode cX8_count 73 = .ok (.aload_n 0, 1) := by decide +kernel
theorem dX8_count_74 : decode cX8_count 74 = .ok (.getfield 7, 3) := by decide +kernel
theorem dX8_count_77 : decode cX8_count 77 = .ok (.bipush 19, 2) := by decide +kernel
theorem dX8_count_79 : decode cX8_count 79 = .ok (.iaload, 1) := by decide +kernel
theorem dX8_count_80 : decode cX8_count 80 = .ok (.aload_n 0, 1) := by decide +kernel
theorem dX8_count_81 : decode cX8_count 81 = .ok (.getfield 7, 3) := by decide +kernel
theorem dX8_count_84 : decode cX8_count 84 = .ok (.bipush 20, 2) := by decide +kernel
theorem dX8_count_86 : decode cX8_count 86 = .ok (.iaload, 1) := by decide +kernel
theorem dX8_count_87 : decode cX8_count 87 = .ok (.iadd, 1) := by decide +kernel
theorem dX8_count_88 : decode cX8_count 88 = .ok (.aload_n 0, 1) := by decide +kernel
theorem dX8_count_89 : decode cX8_count 89 = .ok (.getfield 7, 3) := by decide +kernel
theorem dX8_count_92 : decode cX8_count 92 = .ok (.bipush 21, 2) := by decide +kernel
theorem dX8_count_94 : decode cX8_count 94 = .ok (.iaload, 1) := by decide +kernel
theorem dX8_count_95 : decode cX8_count 95 = .ok (.iadd, 1) := by decide +kernel
theorem dX8_count_96 : decode cX8_count 96 = .ok (.aload_n 0, 1) := by decide +kernel
theorem dX8_count_97 : decode cX8_count 97 = .ok (.getfield 7, 3) := by decide +kernel
theorem dX8_count_100 : decode cX8_count 100 = .ok (.bipush 22, 2) := by decide +kernel
theorem dX8_count_102 : decode cX8_count 102 = .ok (.iaload, 1) := by decide +kernel
theorem dX8_count_103 : decode cX8_count 103 = .ok (.iadd, 1) := by decide +kernel
theorem dX8_count_104 : decode cX8_count 104 = .ok (.ireturn, 1) := by decide +kernel
theorem dX8_count_105 : decode cX8_count 105 = .ok (.aload_n 0, 1) := by decide +kernel
theorem dX8_count_106 : decode cX8_count 106 = .ok (.getfield 7, 3) := by decide +kernel
theorem dX8_count_109 : decode cX8_count 109 = .ok (.iconst 3, 1) := by decide +kernel
theorem dX8_count_110 : decode cX8_count 110 = .ok (.iaload, 1) := by decide +kernel
theorem dX8_count_111 : decode cX8_count 111 = .ok (.ireturn, 1) := by decide +kernel
theorem dX8_count_112 : decode cX8_count 112 = .ok (.aload_n 0, 1) := by decide +kernel
theorem dX8_count_113 : decode cX8_count 113 = .ok (.getfield 7, 3) := by decide +kernel
theorem dX8_count_116 : decode cX8_count 116 = .ok (.iconst 4, 1) := by decide +kernel
theorem dX8_count_117 : decode cX8_count 117 = .ok (.iaload, 1) := by decide +kernel
theorem dX8_count_118 : decode cX8_count 118 = .ok (.ireturn, 1) := by decide +kernel
theorem dX8_count_119 : decode cX8_count 119 = .ok (.aload_n 0, 1) := by decide +kernel
theorem dX8_count_120 : decode cX8_count 120 = .ok (.getfield 7, 3) := by decide +kernel
theorem dX8_count_123 : decode cX8_count 123 = .ok (.iconst 5, 1) := by decide +kernel
theorem dX8_count_124 : decode cX8_count 124 = .ok (.iaload, 1) := by decide +kernel
theorem dX8_count_125 : decode cX8_count 125 = .ok (.ireturn, 1) := by decide +kernel
theorem dX8_count_126 : decode cX8_count 126 = .ok (.aload_n 0, 1) := by decide +kernel
theorem dX8_count_127 : decode cX8_count 127 = .ok (.getfield 7, 3) := by decide +kernel
theorem dX8_count_130 : decode cX8_count 130 = .ok (.bipush 6, 2) := by decide +kernel
theorem dX8_count_132 : decode cX8_count 132 = .ok (.iaload, 1) := by decide +kernel
theorem dX8_count_133 : decode cX8_count 133 = .ok (.ireturn, 1) := by decide +kernel
theorem dX8_count_134 : decode cX8_count 134 = .ok (.aload_n 0, 1) := by decide +kernel
theorem dX8_count_135 : decode cX8_count 135 = .ok (.getfield 31, 3) := by decide +kernel
theorem dX8_count_138 : decode cX8_count 138 = .ok (.ireturn, 1) := by decide +kernel
theorem dX8_count_139 : decode cX8_count 139 = .ok (.iconst (-1), 1) := by decide +kernel
theorem dX8_count_140 : decode cX8_count 140 = .ok (.ireturn, 1) := by decide +kernel
theorem dX8_keptPlace_0 : decode cX8_keptPlace 0 = .ok (.bipush (-9), 2) := by decide +kernel
theorem dX8_keptPlace_2 : decode cX8_keptPlace 2 = .ok (.istore_n 3, 1) := by decide +kernel
theorem dX8_keptPlace_3 : decode cX8_keptPlace 3 = .ok (.iconst 0, 1) := by decide +kernel
theorem dX8_keptPlace_4 : decode cX8_keptPlace 4 = .ok (.istore 4, 2) := by decide +kernel
theorem dX8_keptPlace_6 : decode cX8_keptPlace 6 = .ok (.iload 4, 2) := by decide +kernel
theorem dX8_keptPlace_8 : decode cX8_keptPlace 8 = .ok (.aload_n 0, 1) := by decide +kernel
theorem dX8_keptPlace_9 : decode cX8_keptPlace 9 = .ok (.getfield 7, 3) := by decide +kernel
theorem dX8_keptPlace_12 : decode cX8_keptPlace 12 = .ok (.sipush 439, 3) := by decide +kernel
theorem dX8_keptPlace_15 : decode cX8_keptPlace 15 = .ok (.iload_n 1, 1) := by decide +kernel
theorem dX8_keptPlace_16 : decode cX8_keptPlace 16 = .ok (.iadd, 1) := by decide +kernel
theorem dX8_keptPlace_17 : decode cX8_keptPlace 17 = .ok (.iaload, 1) := by decide +kernel
theorem dX8_keptPlace_18 : decode cX8_keptPlace 18 = .ok (.if_icmp .ge 36, 3) := by decide +kernel
theorem dX8_keptPlace_21 : decode cX8_keptPlace 21 = .ok (.aload_n 0, 1) := by decide +kernel
theorem dX8_keptPlace_22 : decode cX8_keptPlace 22 = .ok (.getfield 7, 3) := by decide +kernel
theorem dX8_keptPlace_25 : decode cX8_keptPlace 25 = .ok (.sipush 447, 3) := by decide +kernel
theorem dX8_keptPlace_28 : decode cX8_keptPlace 28 = .ok (.bipush 96, 2) := by decide +kernel
theorem dX8_keptPlace_30 : decode cX8_keptPlace 30 = .ok (.iload_n 1, 1) := by decide +kernel
theorem dX8_keptPlace_31 : decode cX8_keptPlace 31 = .ok (.imul, 1) := by decide +kernel
theorem dX8_keptPlace_32 : decode cX8_keptPlace 32 = .ok (.iadd, 1) := by decide +kernel
theorem dX8_keptPlace_33 : decode cX8_keptPlace 33 = .ok (.iload 4, 2) := by decide +kernel
theorem dX8_keptPlace_35 : decode cX8_keptPlace 35 = .ok (.iadd, 1) := by decide +kernel
theorem dX8_keptPlace_36 : decode cX8_keptPlace 36 = .ok (.iaload, 1) := by decide +kernel
theorem dX8_keptPlace_37 : decode cX8_keptPlace 37 = .ok (.iload_n 2, 1) := by decide +kernel
theorem dX8_keptPlace_38 : decode cX8_keptPlace 38 = .ok (.if_icmp .ne 8, 3) := by decide +kernel
theorem dX8_keptPlace_41 : decode cX8_keptPlace 41 = .ok (.iload 4, 2) := by decide +kernel
theorem dX8_keptPlace_43 : decode cX8_keptPlace 43 = .ok (.goto 4, 3) := by decide +kernel
theorem dX8_keptPlace_46 : decode cX8_keptPlace 46 = .ok (.iload_n 3, 1) := by decide +kernel
theorem dX8_keptPlace_47 : decode cX8_keptPlace 47 = .ok (.istore_n 3, 1) := by decide +kernel
theorem dX8_keptPlace_48 : decode cX8_keptPlace 48 = .ok (.iinc 4 1, 3) := by decide +kernel
theorem dX8_keptPlace_51 : decode cX8_keptPlace 51 = .ok (.goto (-45), 3) := by decide +kernel
theorem dX8_keptPlace_54 : decode cX8_keptPlace 54 = .ok (.iload_n 3, 1) := by decide +kernel
theorem dX8_keptPlace_55 : decode cX8_keptPlace 55 = .ok (.ireturn, 1) := by decide +kernel
set_option maxRecDepth 20000 in
theorem ggX8_keeps_X8_serves : GoodIn wsX8_keeps wsX8_serves := goodIn_r _ [7, 2, 8, 9, 10, 6, 11, 1, 12, 13, 14, 15, 16, 17, 18, 19, 20, 21, 22, 23, 24, 25, 26, 27, 28, 29, 30, 31, 32, 33] (by decide +kernel) (by decide +kernel)
set_option maxRecDepth 20000 in
theorem gX8_keeps_X8_serves : GoodIn wsX8_keeps (wsV RX8 68 RX8 yX8_serves wsX8_serves) := goodIn_app (goodIn_of _ (by decide +kernel)) ggX8_keeps_X8_serves
theorem dX8_keeps_0 : decode cX8_keeps 0 = .ok (.aload_n 0, 1) := by decide +kernel
theorem dX8_keeps_1 : decode cX8_keeps 1 = .ok (.getfield 7, 3) := by decide +kernel
theorem dX8_keeps_4 : decode cX8_keeps 4 = .ok (.sipush 447, 3) := by decide +kernel
theorem dX8_keeps_7 : decode cX8_keeps 7 = .ok (.bipush 96, 2) := by decide +kernel
theorem dX8_keeps_9 : decode cX8_keeps 9 = .ok (.iload_n 1, 1) := by decide +kernel
theorem dX8_keeps_10 : decode cX8_keeps 10 = .ok (.imul, 1) := by decide +kernel
theorem dX8_keeps_11 : decode cX8_keeps 11 = .ok (.iadd, 1) := by decide +kernel
theorem dX8_keeps_12 : decode cX8_keeps 12 = .ok (.aload_n 0, 1) := by decide +kernel
theorem dX8_keeps_13 : decode cX8_keeps 13 = .ok (.getfield 7, 3) := by decide +kernel
theorem dX8_keeps_16 : decode cX8_keeps 16 = .ok (.sipush 439, 3) := by decide +kernel
theorem dX8_keeps_19 : decode cX8_keeps 19 = .ok (.iload_n 1, 1) := by decide +kernel
theorem dX8_keeps_20 : decode cX8_keeps 20 = .ok (.iadd, 1) := by decide +kernel
theorem dX8_keeps_21 : decode cX8_keeps 21 = .ok (.iaload, 1) := by decide +kernel
theorem dX8_keeps_22 : decode cX8_keeps 22 = .ok (.iadd, 1) := by decide +kernel
theorem dX8_keeps_23 : decode cX8_keeps 23 = .ok (.iload_n 2, 1) := by decide +kernel
theorem dX8_keeps_24 : decode cX8_keeps 24 = .ok (.iastore, 1) := by decide +kernel
theorem dX8_keeps_25 : decode cX8_keeps 25 = .ok (.aload_n 0, 1) := by decide +kernel
theorem dX8_keeps_26 : decode cX8_keeps 26 = .ok (.getfield 7, 3) := by decide +kernel
theorem dX8_keeps_29 : decode cX8_keeps 29 = .ok (.sipush 439, 3) := by decide +kernel
theorem dX8_keeps_32 : decode cX8_keeps 32 = .ok (.iload_n 1, 1) := by decide +kernel
theorem dX8_keeps_33 : decode cX8_keeps 33 = .ok (.iadd, 1) := by decide +kernel
theorem dX8_keeps_34 : decode cX8_keeps 34 = .ok (.dup2, 1) := by decide +kernel
theorem dX8_keeps_35 : decode cX8_keeps 35 = .ok (.iaload, 1) := by decide +kernel
theorem dX8_keeps_36 : decode cX8_keeps 36 = .ok (.iconst 1, 1) := by decide +kernel
theorem dX8_keeps_37 : decode cX8_keeps 37 = .ok (.iadd, 1) := by decide +kernel
theorem dX8_keeps_38 : decode cX8_keeps 38 = .ok (.iastore, 1) := by decide +kernel
theorem dX8_keeps_39 : decode cX8_keeps 39 = .ok (.iload_n 1, 1) := by decide +kernel
theorem dX8_keeps_40 : decode cX8_keeps 40 = .ok (.ifCond .eq 22, 3) := by decide +kernel
theorem dX8_keeps_43 : decode cX8_keeps 43 = .ok (.aload_n 0, 1) := by decide +kernel
theorem dX8_keeps_44 : decode cX8_keeps 44 = .ok (.getfield 7, 3) := by decide +kernel
theorem dX8_keeps_47 : decode cX8_keeps 47 = .ok (.sipush 439, 3) := by decide +kernel
theorem dX8_keeps_50 : decode cX8_keeps 50 = .ok (.iload_n 1, 1) := by decide +kernel
theorem dX8_keeps_51 : decode cX8_keeps 51 = .ok (.iadd, 1) := by decide +kernel
theorem dX8_keeps_52 : decode cX8_keeps 52 = .ok (.iaload, 1) := by decide +kernel
theorem dX8_keeps_53 : decode cX8_keeps 53 = .ok (.aload_n 0, 1) := by decide +kernel
theorem dX8_keeps_54 : decode cX8_keeps 54 = .ok (.getfield 7, 3) := by decide +kernel
theorem dX8_keeps_57 : decode cX8_keeps 57 = .ok (.iconst 2, 1) := by decide +kernel
theorem dX8_keeps_58 : decode cX8_keeps 58 = .ok (.iaload, 1) := by decide +kernel
theorem dX8_keeps_59 : decode cX8_keeps 59 = .ok (.if_icmp .gt 4, 3) := by decide +kernel
theorem dX8_keeps_62 : decode cX8_keeps 62 = .ok (.return_, 1) := by decide +kernel
theorem dX8_keeps_63 : decode cX8_keeps 63 = .ok (.aload_n 0, 1) := by decide +kernel
theorem dX8_keeps_64 : decode cX8_keeps 64 = .ok (.iload_n 1, 1) := by decide +kernel
theorem dX8_keeps_65 : decode cX8_keeps 65 = .ok (.invokevirtual 68, 3) := by decide +kernel
theorem dX8_keeps_68 : decode cX8_keeps 68 = .ok (.iconst 0, 1) := by decide +kernel
theorem dX8_keeps_69 : decode cX8_keeps 69 = .ok (.istore_n 3, 1) := by decide +kernel
theorem dX8_keeps_70 : decode cX8_keeps 70 = .ok (.aload_n 0, 1) := by decide +kernel
theorem dX8_keeps_71 : decode cX8_keeps 71 = .ok (.getfield 7, 3) := by decide +kernel
theorem dX8_keeps_74 : decode cX8_keeps 74 = .ok (.sipush 439, 3) := by decide +kernel
theorem dX8_keeps_77 : decode cX8_keeps 77 = .ok (.iload_n 1, 1) := by decide +kernel
theorem dX8_keeps_78 : decode cX8_keeps 78 = .ok (.iadd, 1) := by decide +kernel
theorem dX8_keeps_79 : decode cX8_keeps 79 = .ok (.iaload, 1) := by decide +kernel
theorem dX8_keeps_80 : decode cX8_keeps 80 = .ok (.iconst 1, 1) := by decide +kernel
theorem dX8_keeps_81 : decode cX8_keeps 81 = .ok (.isub, 1) := by decide +kernel
theorem dX8_keeps_82 : decode cX8_keeps 82 = .ok (.istore 4, 2) := by decide +kernel
theorem dX8_keeps_84 : decode cX8_keeps 84 = .ok (.iload 4, 2) := by decide +kernel
theorem dX8_keeps_86 : decode cX8_keeps 86 = .ok (.ifCond .lt 52, 3) := by decide +kernel
theorem dX8_keeps_89 : decode cX8_keeps 89 = .ok (.aload_n 0, 1) := by decide +kernel
theorem dX8_keeps_90 : decode cX8_keeps 90 = .ok (.getfield 7, 3) := by decide +kernel
theorem dX8_keeps_93 : decode cX8_keeps 93 = .ok (.sipush 447, 3) := by decide +kernel
theorem dX8_keeps_96 : decode cX8_keeps 96 = .ok (.bipush 96, 2) := by decide +kernel
theorem dX8_keeps_98 : decode cX8_keeps 98 = .ok (.iload_n 1, 1) := by decide +kernel
theorem dX8_keeps_99 : decode cX8_keeps 99 = .ok (.imul, 1) := by decide +kernel
theorem dX8_keeps_100 : decode cX8_keeps 100 = .ok (.iadd, 1) := by decide +kernel
theorem dX8_keeps_101 : decode cX8_keeps 101 = .ok (.iload 4, 2) := by decide +kernel
theorem dX8_keeps_103 : decode cX8_keeps 103 = .ok (.iadd, 1) := by decide +kernel
theorem dX8_keeps_104 : decode cX8_keeps 104 = .ok (.iaload, 1) := by decide +kernel
theorem dX8_keeps_105 : decode cX8_keeps 105 = .ok (.istore 5, 2) := by decide +kernel
theorem dX8_keeps_107 : decode cX8_keeps 107 = .ok (.iload 5, 2) := by decide +kernel
theorem dX8_keeps_109 : decode cX8_keeps 109 = .ok (.bipush 100, 2) := by decide +kernel
theorem dX8_keeps_111 : decode cX8_keeps 111 = .ok (.irem, 1) := by decide +kernel
theorem dX8_keeps_112 : decode cX8_keeps 112 = .ok (.aload_n 0, 1) := by decide +kernel
theorem dX8_keeps_113 : decode cX8_keeps 113 = .ok (.getfield 22, 3) := by decide +kernel
theorem dX8_keeps_116 : decode cX8_keeps 116 = .ok (.iload 5, 2) := by decide +kernel
theorem dX8_keeps_118 : decode cX8_keeps 118 = .ok (.bipush 100, 2) := by decide +kernel
theorem dX8_keeps_120 : decode cX8_keeps 120 = .ok (.idiv, 1) := by decide +kernel
theorem dX8_keeps_121 : decode cX8_keeps 121 = .ok (.iaload, 1) := by decide +kernel
theorem dX8_keeps_122 : decode cX8_keeps 122 = .ok (.if_icmp .gt 8, 3) := by decide +kernel
theorem dX8_keeps_125 : decode cX8_keeps 125 = .ok (.iload 4, 2) := by decide +kernel
theorem dX8_keeps_127 : decode cX8_keeps 127 = .ok (.goto 4, 3) := by decide +kernel
theorem dX8_keeps_130 : decode cX8_keeps 130 = .ok (.iload_n 3, 1) := by decide +kernel
theorem dX8_keeps_131 : decode cX8_keeps 131 = .ok (.istore_n 3, 1) := by decide +kernel
theorem dX8_keeps_132 : decode cX8_keeps 132 = .ok (.iinc 4 (-1), 3) := by decide +kernel
theorem dX8_keeps_135 : decode cX8_keeps 135 = .ok (.goto (-51), 3) := by decide +kernel
theorem dX8_keeps_138 : decode cX8_keeps 138 = .ok (.aload_n 0, 1) := by decide +kernel
theorem dX8_keeps_139 : decode cX8_keeps 139 = .ok (.getfield 7, 3) := by decide +kernel
theorem dX8_keeps_142 : decode cX8_keeps 142 = .ok (.sipush 439, 3) := by decide +kernel
theorem dX8_keeps_145 : decode cX8_keeps 145 = .ok (.iload_n 1, 1) := by decide +kernel
theorem dX8_keeps_146 : decode cX8_keeps 146 = .ok (.iadd, 1) := by decide +kernel
theorem dX8_keeps_147 : decode cX8_keeps 147 = .ok (.dup2, 1) := by decide +kernel
theorem dX8_keeps_148 : decode cX8_keeps 148 = .ok (.iaload, 1) := by decide +kernel
theorem dX8_keeps_149 : decode cX8_keeps 149 = .ok (.iconst 1, 1) := by decide +kernel
theorem dX8_keeps_150 : decode cX8_keeps 150 = .ok (.isub, 1) := by decide +kernel
theorem dX8_keeps_151 : decode cX8_keeps 151 = .ok (.iastore, 1) := by decide +kernel
theorem dX8_keeps_152 : decode cX8_keeps 152 = .ok (.iload_n 3, 1) := by decide +kernel
theorem dX8_keeps_153 : decode cX8_keeps 153 = .ok (.istore 4, 2) := by decide +kernel
theorem dX8_keeps_155 : decode cX8_keeps 155 = .ok (.iload 4, 2) := by decide +kernel
theorem dX8_keeps_157 : decode cX8_keeps 157 = .ok (.aload_n 0, 1) := by decide +kernel
theorem dX8_keeps_158 : decode cX8_keeps 158 = .ok (.getfield 7, 3) := by decide +kernel
theorem dX8_keeps_161 : decode cX8_keeps 161 = .ok (.sipush 439, 3) := by decide +kernel
theorem dX8_keeps_164 : decode cX8_keeps 164 = .ok (.iload_n 1, 1) := by decide +kernel
theorem dX8_keeps_165 : decode cX8_keeps 165 = .ok (.iadd, 1) := by decide +kernel
theorem dX8_keeps_166 : decode cX8_keeps 166 = .ok (.iaload, 1) := by decide +kernel
theorem dX8_keeps_167 : decode cX8_keeps 167 = .ok (.if_icmp .ge 43, 3) := by decide +kernel
theorem dX8_keeps_170 : decode cX8_keeps 170 = .ok (.aload_n 0, 1) := by decide +kernel
theorem dX8_keeps_171 : decode cX8_keeps 171 = .ok (.getfield 7, 3) := by decide +kernel
theorem dX8_keeps_174 : decode cX8_keeps 174 = .ok (.sipush 447, 3) := by decide +kernel
theorem dX8_keeps_177 : decode cX8_keeps 177 = .ok (.bipush 96, 2) := by decide +kernel
theorem dX8_keeps_179 : decode cX8_keeps 179 = .ok (.iload_n 1, 1) := by decide +kernel
theorem dX8_keeps_180 : decode cX8_keeps 180 = .ok (.imul, 1) := by decide +kernel
theorem dX8_keeps_181 : decode cX8_keeps 181 = .ok (.iadd, 1) := by decide +kernel
theorem dX8_keeps_182 : decode cX8_keeps 182 = .ok (.iload 4, 2) := by decide +kernel
theorem dX8_keeps_184 : decode cX8_keeps 184 = .ok (.iadd, 1) := by decide +kernel
theorem dX8_keeps_185 : decode cX8_keeps 185 = .ok (.aload_n 0, 1) := by decide +kernel
theorem dX8_keeps_186 : decode cX8_keeps 186 = .ok (.getfield 7, 3) := by decide +kernel
theorem dX8_keeps_189 : decode cX8_keeps 189 = .ok (.sipush 447, 3) := by decide +kernel
theorem dX8_keeps_192 : decode cX8_keeps 192 = .ok (.bipush 96, 2) := by decide +kernel
theorem dX8_keeps_194 : decode cX8_keeps 194 = .ok (.iload_n 1, 1) := by decide +kernel
theorem dX8_keeps_195 : decode cX8_keeps 195 = .ok (.imul, 1) := by decide +kernel
theorem dX8_keeps_196 : decode cX8_keeps 196 = .ok (.iadd, 1) := by decide +kernel
theorem dX8_keeps_197 : decode cX8_keeps 197 = .ok (.iload 4, 2) := by decide +kernel
theorem dX8_keeps_199 : decode cX8_keeps 199 = .ok (.iadd, 1) := by decide +kernel
theorem dX8_keeps_200 : decode cX8_keeps 200 = .ok (.iconst 1, 1) := by decide +kernel
theorem dX8_keeps_201 : decode cX8_keeps 201 = .ok (.iadd, 1) := by decide +kernel
theorem dX8_keeps_202 : decode cX8_keeps 202 = .ok (.iaload, 1) := by decide +kernel
theorem dX8_keeps_203 : decode cX8_keeps 203 = .ok (.iastore, 1) := by decide +kernel
theorem dX8_keeps_204 : decode cX8_keeps 204 = .ok (.iinc 4 1, 3) := by decide +kernel
theorem dX8_keeps_207 : decode cX8_keeps 207 = .ok (.goto (-52), 3) := by decide +kernel
theorem dX8_keeps_210 : decode cX8_keeps 210 = .ok (.aload_n 0, 1) := by decide +kernel
theorem dX8_keeps_211 : decode cX8_keeps 211 = .ok (.getfield 7, 3) := by decide +kernel
theorem dX8_keeps_214 : decode cX8_keeps 214 = .ok (.bipush 6, 2) := by decide +kernel
theorem dX8_keeps_216 : decode cX8_keeps 216 = .ok (.dup2, 1) := by decide +kernel
theorem dX8_keeps_217 : decode cX8_keeps 217 = .ok (.iaload, 1) := by decide +kernel
theorem dX8_keeps_218 : decode cX8_keeps 218 = .ok (.iconst 1, 1) := by decide +kernel
theorem dX8_keeps_219 : decode cX8_keeps 219 = .ok (.iadd, 1) := by decide +kernel
theorem dX8_keeps_220 : decode cX8_keeps 220 = .ok (.iastore, 1) := by decide +kernel
theorem dX8_keeps_221 : decode cX8_keeps 221 = .ok (.return_, 1) := by decide +kernel
theorem dX8_queueOf_0 : decode cX8_queueOf 0 = .ok (.sipush 1215, 3) := by decide +kernel
theorem dX8_queueOf_3 : decode cX8_queueOf 3 = .ok (.bipush 26, 2) := by decide +kernel
theorem dX8_queueOf_5 : decode cX8_queueOf 5 = .ok (.iload_n 0, 1) := by decide +kernel
theorem dX8_queueOf_6 : decode cX8_queueOf 6 = .ok (.imul, 1) := by decide +kernel
theorem dX8_queueOf_7 : decode cX8_queueOf 7 = .ok (.iadd, 1) := by decide +kernel
theorem dX8_queueOf_8 : decode cX8_queueOf 8 = .ok (.bipush 13, 2) := by decide +kernel
theorem dX8_queueOf_10 : decode cX8_queueOf 10 = .ok (.iload_n 1, 1) := by decide +kernel
theorem dX8_queueOf_11 : decode cX8_queueOf 11 = .ok (.imul, 1) := by decide +kernel
theorem dX8_queueOf_12 : decode cX8_queueOf 12 = .ok (.iadd, 1) := by decide +kernel
theorem dX8_queueOf_13 : decode cX8_queueOf 13 = .ok (.ireturn, 1) := by decide +kernel
set_option maxRecDepth 20000 in
theorem ggX8_puts_X8_queueOf : GoodIn wsX8_puts wsX8_queueOf := goodIn_r _ [5] (by decide +kernel) (by decide +kernel)
set_option maxRecDepth 20000 in
theorem gX8_puts_X8_queueOf : GoodIn wsX8_puts (va_wsS RX8 87 yX8_queueOf wsX8_queueOf) := goodIn_app (goodIn_of _ (by decide +kernel)) ggX8_puts_X8_queueOf
theorem dX8_puts_0 : decode cX8_puts 0 = .ok (.iload_n 1, 1) := by decide +kernel
theorem dX8_puts_1 : decode cX8_puts 1 = .ok (.iload_n 2, 1) := by decide +kernel
theorem dX8_puts_2 : decode cX8_puts 2 = .ok (.invokestatic 87, 3) := by decide +kernel
theorem dX8_puts_5 : decode cX8_puts 5 = .ok (.istore 4, 2) := by decide +kernel
theorem dX8_puts_7 : decode cX8_puts 7 = .ok (.aload_n 0, 1) := by decide +kernel
theorem dX8_puts_8 : decode cX8_puts 8 = .ok (.getfield 7, 3) := by decide +kernel
theorem dX8_puts_11 : decode cX8_puts 11 = .ok (.iload 4, 2) := by decide +kernel
theorem dX8_puts_13 : decode cX8_puts 13 = .ok (.iaload, 1) := by decide +kernel
theorem dX8_puts_14 : decode cX8_puts 14 = .ok (.bipush 12, 2) := by decide +kernel
theorem dX8_puts_16 : decode cX8_puts 16 = .ok (.if_icmp .ne 16, 3) := by decide +kernel
theorem dX8_puts_19 : decode cX8_puts 19 = .ok (.aload_n 0, 1) := by decide +kernel
theorem dX8_puts_20 : decode cX8_puts 20 = .ok (.getfield 7, 3) := by decide +kernel
theorem dX8_puts_23 : decode cX8_puts 23 = .ok (.iconst 4, 1) := by decide +kernel
theorem dX8_puts_24 : decode cX8_puts 24 = .ok (.dup2, 1) := by decide +kernel
theorem dX8_puts_25 : decode cX8_puts 25 = .ok (.iaload, 1) := by decide +kernel
theorem dX8_puts_26 : decode cX8_puts 26 = .ok (.iconst 1, 1) := by decide +kernel
theorem dX8_puts_27 : decode cX8_puts 27 = .ok (.iadd, 1) := by decide +kernel
theorem dX8_puts_28 : decode cX8_puts 28 = .ok (.iastore, 1) := by decide +kernel
theorem dX8_puts_29 : decode cX8_puts 29 = .ok (.goto 30, 3) := by decide +kernel
theorem dX8_puts_32 : decode cX8_puts 32 = .ok (.aload_n 0, 1) := by decide +kernel
theorem dX8_puts_33 : decode cX8_puts 33 = .ok (.getfield 7, 3) := by decide +kernel
theorem dX8_puts_36 : decode cX8_puts 36 = .ok (.iload 4, 2) := by decide +kernel
theorem dX8_puts_38 : decode cX8_puts 38 = .ok (.dup2, 1) := by decide +kernel
theorem dX8_puts_39 : decode cX8_puts 39 = .ok (.iaload, 1) := by decide +kernel
theorem dX8_puts_40 : decode cX8_puts 40 = .ok (.iconst 1, 1) := by decide +kernel
theorem dX8_puts_41 : decode cX8_puts 41 = .ok (.iadd, 1) := by decide +kernel
theorem dX8_puts_42 : decode cX8_puts 42 = .ok (.iastore, 1) := by decide +kernel
theorem dX8_puts_43 : decode cX8_puts 43 = .ok (.aload_n 0, 1) := by decide +kernel
theorem dX8_puts_44 : decode cX8_puts 44 = .ok (.getfield 7, 3) := by decide +kernel
theorem dX8_puts_47 : decode cX8_puts 47 = .ok (.iload 4, 2) := by decide +kernel
theorem dX8_puts_49 : decode cX8_puts 49 = .ok (.aload_n 0, 1) := by decide +kernel
theorem dX8_puts_50 : decode cX8_puts 50 = .ok (.getfield 7, 3) := by decide +kernel
theorem dX8_puts_53 : decode cX8_puts 53 = .ok (.iload 4, 2) := by decide +kernel
theorem dX8_puts_55 : decode cX8_puts 55 = .ok (.iaload, 1) := by decide +kernel
theorem dX8_puts_56 : decode cX8_puts 56 = .ok (.iadd, 1) := by decide +kernel
theorem dX8_puts_57 : decode cX8_puts 57 = .ok (.iload_n 3, 1) := by decide +kernel
theorem dX8_puts_58 : decode cX8_puts 58 = .ok (.iastore, 1) := by decide +kernel
theorem dX8_puts_59 : decode cX8_puts 59 = .ok (.return_, 1) := by decide +kernel
set_option maxRecDepth 20000 in
theorem ggX8_learns_X8_keeps : GoodIn wsX8_learns wsX8_keeps := goodIn_r _ [6, 1, 7, 8, 9, 10, 5, 11, 12, 13, 14, 15, 16, 17, 18, 19, 20, 21, 22, 23, 31, 32, 33, 34, 35, 36, 37, 38, 39, 40, 41, 42, 43, 44] (by decide +kernel) (by decide +kernel)
set_option maxRecDepth 20000 in
theorem gX8_learns_X8_keeps : GoodIn wsX8_learns (wsV RX8 90 RX8 yX8_keeps wsX8_keeps) := goodIn_app (goodIn_of _ (by decide +kernel)) ggX8_learns_X8_keeps
set_option maxRecDepth 20000 in
theorem ggX8_learns_X8_puts : GoodIn wsX8_learns wsX8_puts := goodIn_r _ [27, 1, 28, 29, 5, 30, 31, 32, 33, 34, 35, 36, 37, 38, 39, 40, 41, 42, 43, 44] (by decide +kernel) (by decide +kernel)
set_option maxRecDepth 20000 in
theorem gX8_learns_X8_puts : GoodIn wsX8_learns (wsV RX8 94 RX8 yX8_puts wsX8_puts) := goodIn_app (goodIn_of _ (by decide +kernel)) ggX8_learns_X8_puts
theorem dX8_learns_0 : decode cX8_learns 0 = .ok (.aload_n 0, 1) := by decide +kernel
theorem dX8_learns_1 : decode cX8_learns 1 = .ok (.getfield 7, 3) := by decide +kernel
theorem dX8_learns_4 : decode cX8_learns 4 = .ok (.sipush 407, 3) := by decide +kernel
theorem dX8_learns_7 : decode cX8_learns 7 = .ok (.iconst 4, 1) := by decide +kernel
theorem dX8_learns_8 : decode cX8_learns 8 = .ok (.iload_n 1, 1) := by decide +kernel
theorem dX8_learns_9 : decode cX8_learns 9 = .ok (.imul, 1) := by decide +kernel
theorem dX8_learns_10 : decode cX8_learns 10 = .ok (.iadd, 1) := by decide +kernel
theorem dX8_learns_11 : decode cX8_learns 11 = .ok (.iload_n 2, 1) := by decide +kernel
theorem dX8_learns_12 : decode cX8_learns 12 = .ok (.bipush 100, 2) := by decide +kernel
theorem dX8_learns_14 : decode cX8_learns 14 = .ok (.idiv, 1) := by decide +kernel
theorem dX8_learns_15 : decode cX8_learns 15 = .ok (.iadd, 1) := by decide +kernel
theorem dX8_learns_16 : decode cX8_learns 16 = .ok (.dup2, 1) := by decide +kernel
theorem dX8_learns_17 : decode cX8_learns 17 = .ok (.iaload, 1) := by decide +kernel
theorem dX8_learns_18 : decode cX8_learns 18 = .ok (.iconst 1, 1) := by decide +kernel
theorem dX8_learns_19 : decode cX8_learns 19 = .ok (.iload_n 2, 1) := by decide +kernel
theorem dX8_learns_20 : decode cX8_learns 20 = .ok (.bipush 100, 2) := by decide +kernel
theorem dX8_learns_22 : decode cX8_learns 22 = .ok (.irem, 1) := by decide +kernel
theorem dX8_learns_23 : decode cX8_learns 23 = .ok (.ishl, 1) := by decide +kernel
theorem dX8_learns_24 : decode cX8_learns 24 = .ok (.ior, 1) := by decide +kernel
theorem dX8_learns_25 : decode cX8_learns 25 = .ok (.iastore, 1) := by decide +kernel
theorem dX8_learns_26 : decode cX8_learns 26 = .ok (.aload_n 0, 1) := by decide +kernel
theorem dX8_learns_27 : decode cX8_learns 27 = .ok (.iload_n 1, 1) := by decide +kernel
theorem dX8_learns_28 : decode cX8_learns 28 = .ok (.iload_n 2, 1) := by decide +kernel
theorem dX8_learns_29 : decode cX8_learns 29 = .ok (.invokevirtual 90, 3) := by decide +kernel
theorem dX8_learns_32 : decode cX8_learns 32 = .ok (.iload_n 1, 1) := by decide +kernel
theorem dX8_learns_33 : decode cX8_learns 33 = .ok (.ifCond .le 23, 3) := by decide +kernel
theorem dX8_learns_36 : decode cX8_learns 36 = .ok (.iload_n 3, 1) := by decide +kernel
theorem dX8_learns_37 : decode cX8_learns 37 = .ok (.aload_n 0, 1) := by decide +kernel
theorem dX8_learns_38 : decode cX8_learns 38 = .ok (.getfield 7, 3) := by decide +kernel
theorem dX8_learns_41 : decode cX8_learns 41 = .ok (.bipush 7, 2) := by decide +kernel
theorem dX8_learns_43 : decode cX8_learns 43 = .ok (.iload_n 1, 1) := by decide +kernel
theorem dX8_learns_44 : decode cX8_learns 44 = .ok (.iadd, 1) := by decide +kernel
theorem dX8_learns_45 : decode cX8_learns 45 = .ok (.iaload, 1) := by decide +kernel
theorem dX8_learns_46 : decode cX8_learns 46 = .ok (.if_icmp .eq 10, 3) := by decide +kernel
theorem dX8_learns_49 : decode cX8_learns 49 = .ok (.aload_n 0, 1) := by decide +kernel
theorem dX8_learns_50 : decode cX8_learns 50 = .ok (.iload_n 1, 1) := by decide +kernel
theorem dX8_learns_51 : decode cX8_learns 51 = .ok (.iconst 0, 1) := by decide +kernel
theorem dX8_learns_52 : decode cX8_learns 52 = .ok (.iload_n 2, 1) := by decide +kernel
theorem dX8_learns_53 : decode cX8_learns 53 = .ok (.invokevirtual 94, 3) := by decide +kernel
theorem dX8_learns_56 : decode cX8_learns 56 = .ok (.iconst 1, 1) := by decide +kernel
theorem dX8_learns_57 : decode cX8_learns 57 = .ok (.istore 4, 2) := by decide +kernel
theorem dX8_learns_59 : decode cX8_learns 59 = .ok (.iload 4, 2) := by decide +kernel
theorem dX8_learns_61 : decode cX8_learns 61 = .ok (.aload_n 0, 1) := by decide +kernel
theorem dX8_learns_62 : decode cX8_learns 62 = .ok (.getfield 7, 3) := by decide +kernel
theorem dX8_learns_65 : decode cX8_learns 65 = .ok (.iconst 0, 1) := by decide +kernel
theorem dX8_learns_66 : decode cX8_learns 66 = .ok (.iaload, 1) := by decide +kernel
theorem dX8_learns_67 : decode cX8_learns 67 = .ok (.if_icmp .ge 37, 3) := by decide +kernel
theorem dX8_learns_70 : decode cX8_learns 70 = .ok (.aload_n 0, 1) := by decide +kernel
theorem dX8_learns_71 : decode cX8_learns 71 = .ok (.getfield 7, 3) := by decide +kernel
theorem dX8_learns_74 : decode cX8_learns 74 = .ok (.bipush 7, 2) := by decide +kernel
theorem dX8_learns_76 : decode cX8_learns 76 = .ok (.iload 4, 2) := by decide +kernel
theorem dX8_learns_78 : decode cX8_learns 78 = .ok (.iadd, 1) := by decide +kernel
theorem dX8_learns_79 : decode cX8_learns 79 = .ok (.iaload, 1) := by decide +kernel
theorem dX8_learns_80 : decode cX8_learns 80 = .ok (.iload_n 1, 1) := by decide +kernel
theorem dX8_learns_81 : decode cX8_learns 81 = .ok (.if_icmp .ne 17, 3) := by decide +kernel
theorem dX8_learns_84 : decode cX8_learns 84 = .ok (.iload 4, 2) := by decide +kernel
theorem dX8_learns_86 : decode cX8_learns 86 = .ok (.iload_n 3, 1) := by decide +kernel
theorem dX8_learns_87 : decode cX8_learns 87 = .ok (.if_icmp .eq 11, 3) := by decide +kernel
theorem dX8_learns_90 : decode cX8_learns 90 = .ok (.aload_n 0, 1) := by decide +kernel
theorem dX8_learns_91 : decode cX8_learns 91 = .ok (.iload 4, 2) := by decide +kernel
theorem dX8_learns_93 : decode cX8_learns 93 = .ok (.iconst 1, 1) := by decide +kernel
theorem dX8_learns_94 : decode cX8_learns 94 = .ok (.iload_n 2, 1) := by decide +kernel
theorem dX8_learns_95 : decode cX8_learns 95 = .ok (.invokevirtual 94, 3) := by decide +kernel
theorem dX8_learns_98 : decode cX8_learns 98 = .ok (.iinc 4 1, 3) := by decide +kernel
theorem dX8_learns_101 : decode cX8_learns 101 = .ok (.goto (-42), 3) := by decide +kernel
theorem dX8_learns_104 : decode cX8_learns 104 = .ok (.return_, 1) := by decide +kernel
set_option maxRecDepth 20000 in
theorem ggX8_arrives_X8_knows : GoodIn wsX8_arrives wsX8_knows := goodIn_r _ [6, 1, 43, 44, 45, 46, 47, 48, 49, 50, 51, 52, 53, 54, 55, 56] (by decide +kernel) (by decide +kernel)
set_option maxRecDepth 20000 in
theorem gX8_arrives_X8_knows : GoodIn wsX8_arrives (wsV RX8 53 RX8 yX8_knows wsX8_knows) := goodIn_app (goodIn_of _ (by decide +kernel)) ggX8_arrives_X8_knows
set_option maxRecDepth 20000 in
theorem ggX8_arrives_X8_allRanges : GoodIn wsX8_arrives wsX8_allRanges := goodIn_r _ [10, 11, 12, 13, 5, 14, 2, 3, 4, 6, 1, 43, 44, 45, 46, 47, 48, 49, 50, 51, 52, 53, 54, 55, 56] (by decide +kernel) (by decide +kernel)
set_option maxRecDepth 20000 in
theorem gX8_arrives_X8_allRanges : GoodIn wsX8_arrives (wsV RX8 98 RX8 yX8_allRanges wsX8_allRanges) := goodIn_app (goodIn_of _ (by decide +kernel)) ggX8_arrives_X8_allRanges
set_option maxRecDepth 20000 in
theorem ggX8_arrives_X8_learns : GoodIn wsX8_arrives wsX8_learns := goodIn_r _ [18, 1, 19, 20, 21, 5, 22, 23, 24, 25, 26, 27, 2, 3, 4, 6, 28, 29, 30, 31, 32, 33, 34, 35, 36, 37, 38, 39, 40, 41, 42, 43, 44, 45, 46, 47, 48, 49, 50, 51, 52, 53, 54, 55, 56] (by decide +kernel) (by decide +kernel)
set_option maxRecDepth 20000 in
theorem gX8_arrives_X8_learns : GoodIn wsX8_arrives (wsV RX8 101 RX8 yX8_learns wsX8_learns) := goodIn_app (goodIn_of _ (by decide +kernel)) ggX8_arrives_X8_learns
theorem dX8_arrives_0 : decode cX8_arrives 0 = .ok (.iload_n 2, 1) := by decide +kernel
theorem dX8_arrives_1 : decode cX8_arrives 1 = .ok (.bipush 100, 2) := by decide +kernel
theorem dX8_arrives_3 : decode cX8_arrives 3 = .ok (.idiv, 1) := by decide +kernel
theorem dX8_arrives_4 : decode cX8_arrives 4 = .ok (.istore 4, 2) := by decide +kernel
theorem dX8_arrives_6 : decode cX8_arrives 6 = .ok (.iload_n 2, 1) := by decide +kernel
theorem dX8_arrives_7 : decode cX8_arrives 7 = .ok (.bipush 100, 2) := by decide +kernel
theorem dX8_arrives_9 : decode cX8_arrives 9 = .ok (.irem, 1) := by decide +kernel
theorem dX8_arrives_10 : decode cX8_arrives 10 = .ok (.istore 5, 2) := by decide +kernel
theorem dX8_arrives_12 : decode cX8_arrives 12 = .ok (.aload_n 0, 1) := by decide +kernel
theorem dX8_arrives_13 : decode cX8_arrives 13 = .ok (.iload_n 1, 1) := by decide +kernel
theorem dX8_arrives_14 : decode cX8_arrives 14 = .ok (.iload 4, 2) := by decide +kernel
theorem dX8_arrives_16 : decode cX8_arrives 16 = .ok (.iload 5, 2) := by decide +kernel
theorem dX8_arrives_18 : decode cX8_arrives 18 = .ok (.invokevirtual 53, 3) := by decide +kernel
theorem dX8_arrives_21 : decode cX8_arrives 21 = .ok (.ifCond .eq 5, 3) := by decide +kernel
theorem dX8_arrives_24 : decode cX8_arrives 24 = .ok (.iconst 0, 1) := by decide +kernel
theorem dX8_arrives_25 : decode cX8_arrives 25 = .ok (.ireturn, 1) := by decide +kernel
theorem dX8_arrives_26 : decode cX8_arrives 26 = .ok (.aload_n 0, 1) := by decide +kernel
theorem dX8_arrives_27 : decode cX8_arrives 27 = .ok (.getfield 7, 3) := by decide +kernel
theorem dX8_arrives_30 : decode cX8_arrives 30 = .ok (.sipush 407, 3) := by decide +kernel
theorem dX8_arrives_33 : decode cX8_arrives 33 = .ok (.iconst 4, 1) := by decide +kernel
theorem dX8_arrives_34 : decode cX8_arrives 34 = .ok (.iload_n 1, 1) := by decide +kernel
theorem dX8_arrives_35 : decode cX8_arrives 35 = .ok (.imul, 1) := by decide +kernel
theorem dX8_arrives_36 : decode cX8_arrives 36 = .ok (.iadd, 1) := by decide +kernel
theorem dX8_arrives_37 : decode cX8_arrives 37 = .ok (.iload 4, 2) := by decide +kernel
theorem dX8_arrives_39 : decode cX8_arrives 39 = .ok (.iadd, 1) := by decide +kernel
theorem dX8_arrives_40 : decode cX8_arrives 40 = .ok (.iaload, 1) := by decide +kernel
theorem dX8_arrives_41 : decode cX8_arrives 41 = .ok (.istore 6, 2) := by decide +kernel
theorem dX8_arrives_43 : decode cX8_arrives 43 = .ok (.aload_n 0, 1) := by decide +kernel
theorem dX8_arrives_44 : decode cX8_arrives 44 = .ok (.getfield 7, 3) := by decide +kernel
theorem dX8_arrives_47 : decode cX8_arrives 47 = .ok (.sipush 407, 3) := by decide +kernel
theorem dX8_arrives_50 : decode cX8_arrives 50 = .ok (.iconst 4, 1) := by decide +kernel
theorem dX8_arrives_51 : decode cX8_arrives 51 = .ok (.iload_n 1, 1) := by decide +kernel
theorem dX8_arrives_52 : decode cX8_arrives 52 = .ok (.imul, 1) := by decide +kernel
theorem dX8_arrives_53 : decode cX8_arrives 53 = .ok (.iadd, 1) := by decide +kernel
theorem dX8_arrives_54 : decode cX8_arrives 54 = .ok (.iload 4, 2) := by decide +kernel
theorem dX8_arrives_56 : decode cX8_arrives 56 = .ok (.iadd, 1) := by decide +kernel
theorem dX8_arrives_57 : decode cX8_arrives 57 = .ok (.dup2, 1) := by decide +kernel
theorem dX8_arrives_58 : decode cX8_arrives 58 = .ok (.iaload, 1) := by decide +kernel
theorem dX8_arrives_59 : decode cX8_arrives 59 = .ok (.iconst 1, 1) := by decide +kernel
theorem dX8_arrives_60 : decode cX8_arrives 60 = .ok (.iload 5, 2) := by decide +kernel
theorem dX8_arrives_62 : decode cX8_arrives 62 = .ok (.ishl, 1) := by decide +kernel
theorem dX8_arrives_63 : decode cX8_arrives 63 = .ok (.ior, 1) := by decide +kernel
theorem dX8_arrives_64 : decode cX8_arrives 64 = .ok (.iastore, 1) := by decide +kernel
theorem dX8_arrives_65 : decode cX8_arrives 65 = .ok (.iload_n 1, 1) := by decide +kernel
theorem dX8_arrives_66 : decode cX8_arrives 66 = .ok (.ifCond .le 21, 3) := by decide +kernel
theorem dX8_arrives_69 : decode cX8_arrives 69 = .ok (.aload_n 0, 1) := by decide +kernel
theorem dX8_arrives_70 : decode cX8_arrives 70 = .ok (.iload_n 1, 1) := by decide +kernel
theorem dX8_arrives_71 : decode cX8_arrives 71 = .ok (.invokevirtual 98, 3) := by decide +kernel
theorem dX8_arrives_74 : decode cX8_arrives 74 = .ok (.aload_n 0, 1) := by decide +kernel
theorem dX8_arrives_75 : decode cX8_arrives 75 = .ok (.getfield 7, 3) := by decide +kernel
theorem dX8_arrives_78 : decode cX8_arrives 78 = .ok (.iconst 1, 1) := by decide +kernel
theorem dX8_arrives_79 : decode cX8_arrives 79 = .ok (.iaload, 1) := by decide +kernel
theorem dX8_arrives_80 : decode cX8_arrives 80 = .ok (.if_icmp .le 7, 3) := by decide +kernel
theorem dX8_arrives_83 : decode cX8_arrives 83 = .ok (.iconst 1, 1) := by decide +kernel
theorem dX8_arrives_84 : decode cX8_arrives 84 = .ok (.goto 4, 3) := by decide +kernel
theorem dX8_arrives_87 : decode cX8_arrives 87 = .ok (.iconst 0, 1) := by decide +kernel
theorem dX8_arrives_88 : decode cX8_arrives 88 = .ok (.istore 7, 2) := by decide +kernel
theorem dX8_arrives_90 : decode cX8_arrives 90 = .ok (.aload_n 0, 1) := by decide +kernel
theorem dX8_arrives_91 : decode cX8_arrives 91 = .ok (.getfield 7, 3) := by decide +kernel
theorem dX8_arrives_94 : decode cX8_arrives 94 = .ok (.sipush 407, 3) := by decide +kernel
theorem dX8_arrives_97 : decode cX8_arrives 97 = .ok (.iconst 4, 1) := by decide +kernel
theorem dX8_arrives_98 : decode cX8_arrives 98 = .ok (.iload_n 1, 1) := by decide +kernel
theorem dX8_arrives_99 : decode cX8_arrives 99 = .ok (.imul, 1) := by decide +kernel
theorem dX8_arrives_100 : decode cX8_arrives 100 = .ok (.iadd, 1) := by decide +kernel
theorem dX8_arrives_101 : decode cX8_arrives 101 = .ok (.iload 4, 2) := by decide +kernel
theorem dX8_arrives_103 : decode cX8_arrives 103 = .ok (.iadd, 1) := by decide +kernel
theorem dX8_arrives_104 : decode cX8_arrives 104 = .ok (.iload 6, 2) := by decide +kernel
theorem dX8_arrives_106 : decode cX8_arrives 106 = .ok (.iastore, 1) := by decide +kernel
theorem dX8_arrives_107 : decode cX8_arrives 107 = .ok (.iload 7, 2) := by decide +kernel
theorem dX8_arrives_109 : decode cX8_arrives 109 = .ok (.ifCond .eq 15, 3) := by decide +kernel
theorem dX8_arrives_112 : decode cX8_arrives 112 = .ok (.aload_n 0, 1) := by decide +kernel
theorem dX8_arrives_113 : decode cX8_arrives 113 = .ok (.getfield 7, 3) := by decide +kernel
theorem dX8_arrives_116 : decode cX8_arrives 116 = .ok (.iconst 3, 1) := by decide +kernel
theorem dX8_arrives_117 : decode cX8_arrives 117 = .ok (.dup2, 1) := by decide +kernel
theorem dX8_arrives_118 : decode cX8_arrives 118 = .ok (.iaload, 1) := by decide +kernel
theorem dX8_arrives_119 : decode cX8_arrives 119 = .ok (.iconst 1, 1) := by decide +kernel
theorem dX8_arrives_120 : decode cX8_arrives 120 = .ok (.iadd, 1) := by decide +kernel
theorem dX8_arrives_121 : decode cX8_arrives 121 = .ok (.iastore, 1) := by decide +kernel
theorem dX8_arrives_122 : decode cX8_arrives 122 = .ok (.iconst (-1), 1) := by decide +kernel
theorem dX8_arrives_123 : decode cX8_arrives 123 = .ok (.ireturn, 1) := by decide +kernel
theorem dX8_arrives_124 : decode cX8_arrives 124 = .ok (.aload_n 0, 1) := by decide +kernel
theorem dX8_arrives_125 : decode cX8_arrives 125 = .ok (.iload_n 1, 1) := by decide +kernel
theorem dX8_arrives_126 : decode cX8_arrives 126 = .ok (.iload_n 2, 1) := by decide +kernel
theorem dX8_arrives_127 : decode cX8_arrives 127 = .ok (.iload_n 3, 1) := by decide +kernel
theorem dX8_arrives_128 : decode cX8_arrives 128 = .ok (.invokevirtual 101, 3) := by decide +kernel
theorem dX8_arrives_131 : decode cX8_arrives 131 = .ok (.iconst 1, 1) := by decide +kernel
theorem dX8_arrives_132 : decode cX8_arrives 132 = .ok (.ireturn, 1) := by decide +kernel
set_option maxRecDepth 20000 in
theorem ggX8_takes_X8_queueOf : GoodIn wsX8_takes wsX8_queueOf := goodIn_r _ [5] (by decide +kernel) (by decide +kernel)
set_option maxRecDepth 20000 in
theorem gX8_takes_X8_queueOf : GoodIn wsX8_takes (va_wsS RX8 87 yX8_queueOf wsX8_queueOf) := goodIn_app (goodIn_of _ (by decide +kernel)) ggX8_takes_X8_queueOf
theorem dX8_takes_0 : decode cX8_takes 0 = .ok (.iload_n 1, 1) := by decide +kernel
theorem dX8_takes_1 : decode cX8_takes 1 = .ok (.iload_n 2, 1) := by decide +kernel
theorem dX8_takes_2 : decode cX8_takes 2 = .ok (.invokestatic 87, 3) := by decide +kernel
theorem dX8_takes_5 : decode cX8_takes 5 = .ok (.istore_n 3, 1) := by decide +kernel
theorem dX8_takes_6 : decode cX8_takes 6 = .ok (.aload_n 0, 1) := by decide +kernel
theorem dX8_takes_7 : decode cX8_takes 7 = .ok (.getfield 7, 3) := by decide +kernel
theorem dX8_takes_10 : decode cX8_takes 10 = .ok (.iload_n 3, 1) := by decide +kernel
theorem dX8_takes_11 : decode cX8_takes 11 = .ok (.iconst 1, 1) := by decide +kernel
theorem dX8_takes_12 : decode cX8_takes 12 = .ok (.iadd, 1) := by decide +kernel
theorem dX8_takes_13 : decode cX8_takes 13 = .ok (.iaload, 1) := by decide +kernel
theorem dX8_takes_14 : decode cX8_takes 14 = .ok (.istore 4, 2) := by decide +kernel
theorem dX8_takes_16 : decode cX8_takes 16 = .ok (.aload_n 0, 1) := by decide +kernel
theorem dX8_takes_17 : decode cX8_takes 17 = .ok (.getfield 7, 3) := by decide +kernel
theorem dX8_takes_20 : decode cX8_takes 20 = .ok (.iload_n 3, 1) := by decide +kernel
theorem dX8_takes_21 : decode cX8_takes 21 = .ok (.dup2, 1) := by decide +kernel
theorem dX8_takes_22 : decode cX8_takes 22 = .ok (.iaload, 1) := by decide +kernel
theorem dX8_takes_23 : decode cX8_takes 23 = .ok (.iconst 1, 1) := by decide +kernel
theorem dX8_takes_24 : decode cX8_takes 24 = .ok (.isub, 1) := by decide +kernel
theorem dX8_takes_25 : decode cX8_takes 25 = .ok (.iastore, 1) := by decide +kernel
theorem dX8_takes_26 : decode cX8_takes 26 = .ok (.iconst 1, 1) := by decide +kernel
theorem dX8_takes_27 : decode cX8_takes 27 = .ok (.istore 5, 2) := by decide +kernel
theorem dX8_takes_29 : decode cX8_takes 29 = .ok (.iload 5, 2) := by decide +kernel
theorem dX8_takes_31 : decode cX8_takes 31 = .ok (.aload_n 0, 1) := by decide +kernel
theorem dX8_takes_32 : decode cX8_takes 32 = .ok (.getfield 7, 3) := by decide +kernel
theorem dX8_takes_35 : decode cX8_takes 35 = .ok (.iload_n 3, 1) := by decide +kernel
theorem dX8_takes_36 : decode cX8_takes 36 = .ok (.iaload, 1) := by decide +kernel
theorem dX8_takes_37 : decode cX8_takes 37 = .ok (.if_icmp .gt 29, 3) := by decide +kernel
theorem dX8_takes_40 : decode cX8_takes 40 = .ok (.aload_n 0, 1) := by decide +kernel
theorem dX8_takes_41 : decode cX8_takes 41 = .ok (.getfield 7, 3) := by decide +kernel
theorem dX8_takes_44 : decode cX8_takes 44 = .ok (.iload_n 3, 1) := by decide +kernel
theorem dX8_takes_45 : decode cX8_takes 45 = .ok (.iload 5, 2) := by decide +kernel
theorem dX8_takes_47 : decode cX8_takes 47 = .ok (.iadd, 1) := by decide +kernel
theorem dX8_takes_48 : decode cX8_takes 48 = .ok (.aload_n 0, 1) := by decide +kernel
theorem dX8_takes_49 : decode cX8_takes 49 = .ok (.getfield 7, 3) := by decide +kernel
theorem dX8_takes_52 : decode cX8_takes 52 = .ok (.iload_n 3, 1) := by decide +kernel
theorem dX8_takes_53 : decode cX8_takes 53 = .ok (.iload 5, 2) := by decide +kernel
theorem dX8_takes_55 : decode cX8_takes 55 = .ok (.iadd, 1) := by decide +kernel
theorem dX8_takes_56 : decode cX8_takes 56 = .ok (.iconst 1, 1) := by decide +kernel
theorem dX8_takes_57 : decode cX8_takes 57 = .ok (.iadd, 1) := by decide +kernel
theorem dX8_takes_58 : decode cX8_takes 58 = .ok (.iaload, 1) := by decide +kernel
theorem dX8_takes_59 : decode cX8_takes 59 = .ok (.iastore, 1) := by decide +kernel
theorem dX8_takes_60 : decode cX8_takes 60 = .ok (.iinc 5 1, 3) := by decide +kernel
theorem dX8_takes_63 : decode cX8_takes 63 = .ok (.goto (-34), 3) := by decide +kernel
theorem dX8_takes_66 : decode cX8_takes 66 = .ok (.iload 4, 2) := by decide +kernel
theorem dX8_takes_68 : decode cX8_takes 68 = .ok (.ireturn, 1) := by decide +kernel
set_option maxRecDepth 20000 in
theorem ggX8_makes_X8_isOrigin : GoodIn wsX8_makes wsX8_isOrigin := goodIn_r _ [6, 7, 8, 5, 9] (by decide +kernel) (by decide +kernel)
set_option maxRecDepth 20000 in
theorem gX8_makes_X8_isOrigin : GoodIn wsX8_makes (va_wsS RX8 43 yX8_isOrigin wsX8_isOrigin) := goodIn_app (goodIn_of _ (by decide +kernel)) ggX8_makes_X8_isOrigin
set_option maxRecDepth 20000 in
theorem ggX8_makes_X8_serves : GoodIn wsX8_makes wsX8_serves := goodIn_r _ [13, 2, 14, 15, 16, 5, 17, 1, 18, 19, 20, 21, 22, 23, 24, 25, 41, 42, 43, 44, 45, 46, 47, 48, 49, 50, 51, 52, 53, 54] (by decide +kernel) (by decide +kernel)
set_option maxRecDepth 20000 in
theorem gX8_makes_X8_serves : GoodIn wsX8_makes (wsV RX8 68 RX8 yX8_serves wsX8_serves) := goodIn_app (goodIn_of _ (by decide +kernel)) ggX8_makes_X8_serves
set_option maxRecDepth 20000 in
theorem ggX8_makes_X8_learns : GoodIn wsX8_makes wsX8_learns := goodIn_r _ [29, 1, 30, 31, 32, 5, 33, 2, 10, 11, 12, 13, 14, 15, 16, 17, 18, 19, 20, 21, 22, 23, 24, 25, 34, 35, 36, 37, 38, 39, 40, 41, 42, 43, 44, 45, 46, 47, 48, 49, 50, 51, 52, 53, 54] (by decide +kernel) (by decide +kernel)
set_option maxRecDepth 20000 in
theorem gX8_makes_X8_learns : GoodIn wsX8_makes (wsV RX8 101 RX8 yX8_learns wsX8_learns) := goodIn_app (goodIn_of _ (by decide +kernel)) ggX8_makes_X8_learns
theorem dX8_makes_0 : decode cX8_makes 0 = .ok (.iload_n 1, 1) := by decide +kernel
theorem dX8_makes_1 : decode cX8_makes 1 = .ok (.invokestatic 43, 3) := by decide +kernel
theorem dX8_makes_4 : decode cX8_makes 4 = .ok (.ifCond .ne 5, 3) := by decide +kernel
theorem dX8_makes_7 : decode cX8_makes 7 = .ok (.iconst (-1), 1) := by decide +kernel
theorem dX8_makes_8 : decode cX8_makes 8 = .ok (.ireturn, 1) := by decide +kernel
theorem dX8_makes_9 : decode cX8_makes 9 = .ok (.aload_n 0, 1) := by decide +kernel
theorem dX8_makes_10 : decode cX8_makes 10 = .ok (.getfield 7, 3) := by decide +kernel
theorem dX8_makes_13 : decode cX8_makes 13 = .ok (.bipush 19, 2) := by decide +kernel
theorem dX8_makes_15 : decode cX8_makes 15 = .ok (.iload_n 1, 1) := by decide +kernel
theorem dX8_makes_16 : decode cX8_makes 16 = .ok (.iadd, 1) := by decide +kernel
theorem dX8_makes_17 : decode cX8_makes 17 = .ok (.iaload, 1) := by decide +kernel
theorem dX8_makes_18 : decode cX8_makes 18 = .ok (.bipush 24, 2) := by decide +kernel
theorem dX8_makes_20 : decode cX8_makes 20 = .ok (.if_icmp .ne 6, 3) := by decide +kernel
theorem dX8_makes_23 : decode cX8_makes 23 = .ok (.bipush (-3), 2) := by decide +kernel
theorem dX8_makes_25 : decode cX8_makes 25 = .ok (.ireturn, 1) := by decide +kernel
theorem dX8_makes_26 : decode cX8_makes 26 = .ok (.aload_n 0, 1) := by decide +kernel
theorem dX8_makes_27 : decode cX8_makes 27 = .ok (.getfield 7, 3) := by decide +kernel
theorem dX8_makes_30 : decode cX8_makes 30 = .ok (.bipush 15, 2) := by decide +kernel
theorem dX8_makes_32 : decode cX8_makes 32 = .ok (.iload_n 1, 1) := by decide +kernel
theorem dX8_makes_33 : decode cX8_makes 33 = .ok (.iadd, 1) := by decide +kernel
theorem dX8_makes_34 : decode cX8_makes 34 = .ok (.iaload, 1) := by decide +kernel
theorem dX8_makes_35 : decode cX8_makes 35 = .ok (.istore_n 2, 1) := by decide +kernel
theorem dX8_makes_36 : decode cX8_makes 36 = .ok (.aload_n 0, 1) := by decide +kernel
theorem dX8_makes_37 : decode cX8_makes 37 = .ok (.iload_n 2, 1) := by decide +kernel
theorem dX8_makes_38 : decode cX8_makes 38 = .ok (.invokevirtual 68, 3) := by decide +kernel
theorem dX8_makes_41 : decode cX8_makes 41 = .ok (.aload_n 0, 1) := by decide +kernel
theorem dX8_makes_42 : decode cX8_makes 42 = .ok (.getfield 7, 3) := by decide +kernel
theorem dX8_makes_45 : decode cX8_makes 45 = .ok (.bipush 19, 2) := by decide +kernel
theorem dX8_makes_47 : decode cX8_makes 47 = .ok (.iload_n 1, 1) := by decide +kernel
theorem dX8_makes_48 : decode cX8_makes 48 = .ok (.iadd, 1) := by decide +kernel
theorem dX8_makes_49 : decode cX8_makes 49 = .ok (.iaload, 1) := by decide +kernel
theorem dX8_makes_50 : decode cX8_makes 50 = .ok (.iconst 1, 1) := by decide +kernel
theorem dX8_makes_51 : decode cX8_makes 51 = .ok (.iadd, 1) := by decide +kernel
theorem dX8_makes_52 : decode cX8_makes 52 = .ok (.istore_n 3, 1) := by decide +kernel
theorem dX8_makes_53 : decode cX8_makes 53 = .ok (.iconst 0, 1) := by decide +kernel
theorem dX8_makes_54 : decode cX8_makes 54 = .ok (.istore 4, 2) := by decide +kernel
theorem dX8_makes_56 : decode cX8_makes 56 = .ok (.iload 4, 2) := by decide +kernel
