theorem dX9_freeIn_18 : decode cX9_freeIn 18 = .ok (.iload_n 2, 1) := by decide +kernel
theorem dX9_freeIn_19 : decode cX9_freeIn 19 = .ok (.iload 4, 2) := by decide +kernel
theorem dX9_freeIn_21 : decode cX9_freeIn 21 = .ok (.invokestatic 108, 3) := by decide +kernel
theorem dX9_freeIn_24 : decode cX9_freeIn 24 = .ok (.ifCond .eq 10, 3) := by decide +kernel
theorem dX9_freeIn_27 : decode cX9_freeIn 27 = .ok (.iconst 1, 1) := by decide +kernel
theorem dX9_freeIn_28 : decode cX9_freeIn 28 = .ok (.iload 4, 2) := by decide +kernel
theorem dX9_freeIn_30 : decode cX9_freeIn 30 = .ok (.ishl, 1) := by decide +kernel
theorem dX9_freeIn_31 : decode cX9_freeIn 31 = .ok (.goto 4, 3) := by decide +kernel
theorem dX9_freeIn_34 : decode cX9_freeIn 34 = .ok (.iconst 0, 1) := by decide +kernel
theorem dX9_freeIn_35 : decode cX9_freeIn 35 = .ok (.ior, 1) := by decide +kernel
theorem dX9_freeIn_36 : decode cX9_freeIn 36 = .ok (.istore_n 3, 1) := by decide +kernel
theorem dX9_freeIn_37 : decode cX9_freeIn 37 = .ok (.iinc 4 1, 3) := by decide +kernel
theorem dX9_freeIn_40 : decode cX9_freeIn 40 = .ok (.goto (-35), 3) := by decide +kernel
theorem dX9_freeIn_43 : decode cX9_freeIn 43 = .ok (.iload_n 3, 1) := by decide +kernel
theorem dX9_freeIn_44 : decode cX9_freeIn 44 = .ok (.ireturn, 1) := by decide +kernel
set_option maxRecDepth 20000 in
theorem ggX9_allLone_X9_loneIn : GoodIn wsX9_allLone wsX9_loneIn := goodIn_r _ [6, 7, 8, 9, 10, 5, 11, 12, 13, 14, 15, 19, 20, 21, 22, 23, 24, 25, 26, 27, 28, 29, 30, 31, 32, 33, 34, 35, 36, 37, 38, 39, 40, 41, 42, 43, 44] (by decide +kernel) (by decide +kernel)
set_option maxRecDepth 20000 in
theorem gX9_allLone_X9_loneIn : GoodIn wsX9_allLone (wsV RX9 115 RX9 yX9_loneIn wsX9_loneIn) := goodIn_app (goodIn_of _ (by decide +kernel)) ggX9_allLone_X9_loneIn
set_option maxRecDepth 20000 in
theorem ggX9_allLone_X9_ones : GoodIn wsX9_allLone wsX9_ones := goodIn_r _ [18] (by decide +kernel) (by decide +kernel)
set_option maxRecDepth 20000 in
theorem gX9_allLone_X9_ones : GoodIn wsX9_allLone (va_wsS RX9 119 yX9_ones wsX9_ones) := goodIn_app (goodIn_of _ (by decide +kernel)) ggX9_allLone_X9_ones
theorem dX9_allLone_0 : decode cX9_allLone 0 = .ok (.iconst 0, 1) := by decide +kernel
theorem dX9_allLone_1 : decode cX9_allLone 1 = .ok (.istore_n 2, 1) := by decide +kernel
theorem dX9_allLone_2 : decode cX9_allLone 2 = .ok (.iconst 0, 1) := by decide +kernel
theorem dX9_allLone_3 : decode cX9_allLone 3 = .ok (.istore_n 3, 1) := by decide +kernel
theorem dX9_allLone_4 : decode cX9_allLone 4 = .ok (.iload_n 3, 1) := by decide +kernel
theorem dX9_allLone_5 : decode cX9_allLone 5 = .ok (.aload_n 0, 1) := by decide +kernel
theorem dX9_allLone_6 : decode cX9_allLone 6 = .ok (.getfield 63, 3) := by decide +kernel
theorem dX9_allLone_9 : decode cX9_allLone 9 = .ok (.if_icmp .ge 21, 3) := by decide +kernel
theorem dX9_allLone_12 : decode cX9_allLone 12 = .ok (.iload_n 2, 1) := by decide +kernel
theorem dX9_allLone_13 : decode cX9_allLone 13 = .ok (.aload_n 0, 1) := by decide +kernel
theorem dX9_allLone_14 : decode cX9_allLone 14 = .ok (.aload_n 1, 1) := by decide +kernel
theorem dX9_allLone_15 : decode cX9_allLone 15 = .ok (.iload_n 3, 1) := by decide +kernel
theorem dX9_allLone_16 : decode cX9_allLone 16 = .ok (.invokevirtual 115, 3) := by decide +kernel
theorem dX9_allLone_19 : decode cX9_allLone 19 = .ok (.invokestatic 119, 3) := by decide +kernel
theorem dX9_allLone_22 : decode cX9_allLone 22 = .ok (.iadd, 1) := by decide +kernel
theorem dX9_allLone_23 : decode cX9_allLone 23 = .ok (.istore_n 2, 1) := by decide +kernel
theorem dX9_allLone_24 : decode cX9_allLone 24 = .ok (.iinc 3 1, 3) := by decide +kernel
theorem dX9_allLone_27 : decode cX9_allLone 27 = .ok (.goto (-23), 3) := by decide +kernel
theorem dX9_allLone_30 : decode cX9_allLone 30 = .ok (.iload_n 2, 1) := by decide +kernel
theorem dX9_allLone_31 : decode cX9_allLone 31 = .ok (.ireturn, 1) := by decide +kernel
set_option maxRecDepth 20000 in
theorem ggX9_allFree_X9_freeIn : GoodIn wsX9_allFree wsX9_freeIn := goodIn_r _ [6, 7, 8, 9, 5, 10, 14, 15, 16, 17, 18, 19, 20, 21, 22, 23, 24, 25, 26, 27, 28, 29, 30, 31, 32, 33, 34, 35, 36, 37, 38, 39] (by decide +kernel) (by decide +kernel)
set_option maxRecDepth 20000 in
theorem gX9_allFree_X9_freeIn : GoodIn wsX9_allFree (wsV RX9 123 RX9 yX9_freeIn wsX9_freeIn) := goodIn_app (goodIn_of _ (by decide +kernel)) ggX9_allFree_X9_freeIn
set_option maxRecDepth 20000 in
theorem ggX9_allFree_X9_ones : GoodIn wsX9_allFree wsX9_ones := goodIn_r _ [13] (by decide +kernel) (by decide +kernel)
set_option maxRecDepth 20000 in
theorem gX9_allFree_X9_ones : GoodIn wsX9_allFree (va_wsS RX9 119 yX9_ones wsX9_ones) := goodIn_app (goodIn_of _ (by decide +kernel)) ggX9_allFree_X9_ones
theorem dX9_allFree_0 : decode cX9_allFree 0 = .ok (.iconst 0, 1) := by decide +kernel
theorem dX9_allFree_1 : decode cX9_allFree 1 = .ok (.istore_n 2, 1) := by decide +kernel
theorem dX9_allFree_2 : decode cX9_allFree 2 = .ok (.iconst 0, 1) := by decide +kernel
theorem dX9_allFree_3 : decode cX9_allFree 3 = .ok (.istore_n 3, 1) := by decide +kernel
theorem dX9_allFree_4 : decode cX9_allFree 4 = .ok (.iload_n 3, 1) := by decide +kernel
theorem dX9_allFree_5 : decode cX9_allFree 5 = .ok (.aload_n 0, 1) := by decide +kernel
theorem dX9_allFree_6 : decode cX9_allFree 6 = .ok (.getfield 63, 3) := by decide +kernel
theorem dX9_allFree_9 : decode cX9_allFree 9 = .ok (.if_icmp .ge 21, 3) := by decide +kernel
theorem dX9_allFree_12 : decode cX9_allFree 12 = .ok (.iload_n 2, 1) := by decide +kernel
theorem dX9_allFree_13 : decode cX9_allFree 13 = .ok (.aload_n 0, 1) := by decide +kernel
theorem dX9_allFree_14 : decode cX9_allFree 14 = .ok (.aload_n 1, 1) := by decide +kernel
theorem dX9_allFree_15 : decode cX9_allFree 15 = .ok (.iload_n 3, 1) := by decide +kernel
theorem dX9_allFree_16 : decode cX9_allFree 16 = .ok (.invokevirtual 123, 3) := by decide +kernel
theorem dX9_allFree_19 : decode cX9_allFree 19 = .ok (.invokestatic 119, 3) := by decide +kernel
theorem dX9_allFree_22 : decode cX9_allFree 22 = .ok (.iadd, 1) := by decide +kernel
theorem dX9_allFree_23 : decode cX9_allFree 23 = .ok (.istore_n 2, 1) := by decide +kernel
theorem dX9_allFree_24 : decode cX9_allFree 24 = .ok (.iinc 3 1, 3) := by decide +kernel
theorem dX9_allFree_27 : decode cX9_allFree 27 = .ok (.goto (-23), 3) := by decide +kernel
theorem dX9_allFree_30 : decode cX9_allFree 30 = .ok (.iload_n 2, 1) := by decide +kernel
theorem dX9_allFree_31 : decode cX9_allFree 31 = .ok (.ireturn, 1) := by decide +kernel
theorem dX9_viewsOf_0 : decode cX9_viewsOf 0 = .ok (.iconst 0, 1) := by decide +kernel
theorem dX9_viewsOf_1 : decode cX9_viewsOf 1 = .ok (.istore 4, 2) := by decide +kernel
theorem dX9_viewsOf_3 : decode cX9_viewsOf 3 = .ok (.iload_n 2, 1) := by decide +kernel
theorem dX9_viewsOf_4 : decode cX9_viewsOf 4 = .ok (.istore 5, 2) := by decide +kernel
theorem dX9_viewsOf_6 : decode cX9_viewsOf 6 = .ok (.iload 5, 2) := by decide +kernel
theorem dX9_viewsOf_8 : decode cX9_viewsOf 8 = .ok (.iload_n 2, 1) := by decide +kernel
theorem dX9_viewsOf_9 : decode cX9_viewsOf 9 = .ok (.iload_n 3, 1) := by decide +kernel
theorem dX9_viewsOf_10 : decode cX9_viewsOf 10 = .ok (.iadd, 1) := by decide +kernel
theorem dX9_viewsOf_11 : decode cX9_viewsOf 11 = .ok (.if_icmp .ge 26, 3) := by decide +kernel
theorem dX9_viewsOf_14 : decode cX9_viewsOf 14 = .ok (.iload 4, 2) := by decide +kernel
theorem dX9_viewsOf_16 : decode cX9_viewsOf 16 = .ok (.aload_n 0, 1) := by decide +kernel
theorem dX9_viewsOf_17 : decode cX9_viewsOf 17 = .ok (.getfield 16, 3) := by decide +kernel
theorem dX9_viewsOf_20 : decode cX9_viewsOf 20 = .ok (.bipush 9, 2) := by decide +kernel
theorem dX9_viewsOf_22 : decode cX9_viewsOf 22 = .ok (.iload_n 1, 1) := by decide +kernel
theorem dX9_viewsOf_23 : decode cX9_viewsOf 23 = .ok (.imul, 1) := by decide +kernel
theorem dX9_viewsOf_24 : decode cX9_viewsOf 24 = .ok (.iload 5, 2) := by decide +kernel
theorem dX9_viewsOf_26 : decode cX9_viewsOf 26 = .ok (.iadd, 1) := by decide +kernel
theorem dX9_viewsOf_27 : decode cX9_viewsOf 27 = .ok (.iaload, 1) := by decide +kernel
theorem dX9_viewsOf_28 : decode cX9_viewsOf 28 = .ok (.iadd, 1) := by decide +kernel
theorem dX9_viewsOf_29 : decode cX9_viewsOf 29 = .ok (.istore 4, 2) := by decide +kernel
theorem dX9_viewsOf_31 : decode cX9_viewsOf 31 = .ok (.iinc 5 1, 3) := by decide +kernel
theorem dX9_viewsOf_34 : decode cX9_viewsOf 34 = .ok (.goto (-28), 3) := by decide +kernel
theorem dX9_viewsOf_37 : decode cX9_viewsOf 37 = .ok (.iload 4, 2) := by decide +kernel
theorem dX9_viewsOf_39 : decode cX9_viewsOf 39 = .ok (.ireturn, 1) := by decide +kernel
theorem dX9_lay_0 : decode cX9_lay 0 = .ok (.iload_n 2, 1) := by decide +kernel
theorem dX9_lay_1 : decode cX9_lay 1 = .ok (.istore 5, 2) := by decide +kernel
theorem dX9_lay_3 : decode cX9_lay 3 = .ok (.iload 5, 2) := by decide +kernel
theorem dX9_lay_5 : decode cX9_lay 5 = .ok (.iload_n 2, 1) := by decide +kernel
theorem dX9_lay_6 : decode cX9_lay 6 = .ok (.iload_n 3, 1) := by decide +kernel
theorem dX9_lay_7 : decode cX9_lay 7 = .ok (.iadd, 1) := by decide +kernel
theorem dX9_lay_8 : decode cX9_lay 8 = .ok (.if_icmp .ge 23, 3) := by decide +kernel
theorem dX9_lay_11 : decode cX9_lay 11 = .ok (.aload_n 0, 1) := by decide +kernel
theorem dX9_lay_12 : decode cX9_lay 12 = .ok (.bipush 13, 2) := by decide +kernel
theorem dX9_lay_14 : decode cX9_lay 14 = .ok (.bipush 9, 2) := by decide +kernel
theorem dX9_lay_16 : decode cX9_lay 16 = .ok (.iload_n 1, 1) := by decide +kernel
theorem dX9_lay_17 : decode cX9_lay 17 = .ok (.imul, 1) := by decide +kernel
theorem dX9_lay_18 : decode cX9_lay 18 = .ok (.iadd, 1) := by decide +kernel
theorem dX9_lay_19 : decode cX9_lay 19 = .ok (.iload 5, 2) := by decide +kernel
theorem dX9_lay_21 : decode cX9_lay 21 = .ok (.iadd, 1) := by decide +kernel
theorem dX9_lay_22 : decode cX9_lay 22 = .ok (.iload 4, 2) := by decide +kernel
theorem dX9_lay_24 : decode cX9_lay 24 = .ok (.iastore, 1) := by decide +kernel
theorem dX9_lay_25 : decode cX9_lay 25 = .ok (.iinc 5 1, 3) := by decide +kernel
theorem dX9_lay_28 : decode cX9_lay 28 = .ok (.goto (-25), 3) := by decide +kernel
theorem dX9_lay_31 : decode cX9_lay 31 = .ok (.return_, 1) := by decide +kernel
set_option maxRecDepth 20000 in
theorem ggX9_isPlace_X9_isFree : GoodIn wsX9_isPlace wsX9_isFree := goodIn_r _ [6] (by decide +kernel) (by decide +kernel)
set_option maxRecDepth 20000 in
theorem gX9_isPlace_X9_isFree : GoodIn wsX9_isPlace (va_wsS RX9 108 yX9_isFree wsX9_isFree) := goodIn_app (goodIn_of _ (by decide +kernel)) ggX9_isPlace_X9_isFree
set_option maxRecDepth 20000 in
theorem ggX9_isPlace_X9_lay : GoodIn wsX9_isPlace wsX9_lay := goodIn_r _ [9] (by decide +kernel) (by decide +kernel)
set_option maxRecDepth 20000 in
theorem gX9_isPlace_X9_lay : GoodIn wsX9_isPlace (va_wsS RX9 126 yX9_lay wsX9_lay) := goodIn_app (goodIn_of _ (by decide +kernel)) ggX9_isPlace_X9_lay
set_option maxRecDepth 20000 in
theorem ggX9_isPlace_X9_allLone : GoodIn wsX9_isPlace wsX9_allLone := goodIn_r _ [13, 14, 15, 16, 17, 5, 18, 1, 19, 20, 21, 22, 2, 3, 4, 6, 23, 24, 25, 26, 27, 28, 29, 30, 31, 32, 33, 34, 35, 36, 37, 38, 39, 40, 41, 42, 43, 44, 45, 46, 47, 48, 49, 50, 51] (by decide +kernel) (by decide +kernel)
set_option maxRecDepth 20000 in
theorem gX9_isPlace_X9_allLone : GoodIn wsX9_isPlace (wsV RX9 130 RX9 yX9_allLone wsX9_allLone) := goodIn_app (goodIn_of _ (by decide +kernel)) ggX9_isPlace_X9_allLone
theorem dX9_isPlace_0 : decode cX9_isPlace 0 = .ok (.iload_n 3, 1) := by decide +kernel
theorem dX9_isPlace_1 : decode cX9_isPlace 1 = .ok (.iload 4, 2) := by decide +kernel
theorem dX9_isPlace_3 : decode cX9_isPlace 3 = .ok (.iadd, 1) := by decide +kernel
theorem dX9_isPlace_4 : decode cX9_isPlace 4 = .ok (.aload_n 0, 1) := by decide +kernel
theorem dX9_isPlace_5 : decode cX9_isPlace 5 = .ok (.getfield 13, 3) := by decide +kernel
theorem dX9_isPlace_8 : decode cX9_isPlace 8 = .ok (.iload_n 2, 1) := by decide +kernel
theorem dX9_isPlace_9 : decode cX9_isPlace 9 = .ok (.iaload, 1) := by decide +kernel
theorem dX9_isPlace_10 : decode cX9_isPlace 10 = .ok (.if_icmp .le 5, 3) := by decide +kernel
theorem dX9_isPlace_13 : decode cX9_isPlace 13 = .ok (.iconst 0, 1) := by decide +kernel
theorem dX9_isPlace_14 : decode cX9_isPlace 14 = .ok (.ireturn, 1) := by decide +kernel
theorem dX9_isPlace_15 : decode cX9_isPlace 15 = .ok (.iconst 1, 1) := by decide +kernel
theorem dX9_isPlace_16 : decode cX9_isPlace 16 = .ok (.istore 6, 2) := by decide +kernel
theorem dX9_isPlace_18 : decode cX9_isPlace 18 = .ok (.iload_n 3, 1) := by decide +kernel
theorem dX9_isPlace_19 : decode cX9_isPlace 19 = .ok (.istore 7, 2) := by decide +kernel
theorem dX9_isPlace_21 : decode cX9_isPlace 21 = .ok (.iload 7, 2) := by decide +kernel
theorem dX9_isPlace_23 : decode cX9_isPlace 23 = .ok (.iload_n 3, 1) := by decide +kernel
theorem dX9_isPlace_24 : decode cX9_isPlace 24 = .ok (.iload 4, 2) := by decide +kernel
theorem dX9_isPlace_26 : decode cX9_isPlace 26 = .ok (.iadd, 1) := by decide +kernel
theorem dX9_isPlace_27 : decode cX9_isPlace 27 = .ok (.if_icmp .ge 54, 3) := by decide +kernel
theorem dX9_isPlace_30 : decode cX9_isPlace 30 = .ok (.iload 6, 2) := by decide +kernel
theorem dX9_isPlace_32 : decode cX9_isPlace 32 = .ok (.ifCond .eq 40, 3) := by decide +kernel
theorem dX9_isPlace_35 : decode cX9_isPlace 35 = .ok (.aload_n 1, 1) := by decide +kernel
theorem dX9_isPlace_36 : decode cX9_isPlace 36 = .ok (.iload_n 2, 1) := by decide +kernel
theorem dX9_isPlace_37 : decode cX9_isPlace 37 = .ok (.iload 7, 2) := by decide +kernel
theorem dX9_isPlace_39 : decode cX9_isPlace 39 = .ok (.invokestatic 108, 3) := by decide +kernel
theorem dX9_isPlace_42 : decode cX9_isPlace 42 = .ok (.ifCond .eq 30, 3) := by decide +kernel
theorem dX9_isPlace_45 : decode cX9_isPlace 45 = .ok (.iload 7, 2) := by decide +kernel
theorem dX9_isPlace_47 : decode cX9_isPlace 47 = .ok (.iload_n 3, 1) := by decide +kernel
theorem dX9_isPlace_48 : decode cX9_isPlace 48 = .ok (.if_icmp .eq 20, 3) := by decide +kernel
theorem dX9_isPlace_51 : decode cX9_isPlace 51 = .ok (.aload_n 0, 1) := by decide +kernel
theorem dX9_isPlace_52 : decode cX9_isPlace 52 = .ok (.getfield 19, 3) := by decide +kernel
theorem dX9_isPlace_55 : decode cX9_isPlace 55 = .ok (.bipush 9, 2) := by decide +kernel
theorem dX9_isPlace_57 : decode cX9_isPlace 57 = .ok (.iload_n 2, 1) := by decide +kernel
theorem dX9_isPlace_58 : decode cX9_isPlace 58 = .ok (.imul, 1) := by decide +kernel
theorem dX9_isPlace_59 : decode cX9_isPlace 59 = .ok (.iload 7, 2) := by decide +kernel
theorem dX9_isPlace_61 : decode cX9_isPlace 61 = .ok (.iadd, 1) := by decide +kernel
theorem dX9_isPlace_62 : decode cX9_isPlace 62 = .ok (.iconst 1, 1) := by decide +kernel
theorem dX9_isPlace_63 : decode cX9_isPlace 63 = .ok (.isub, 1) := by decide +kernel
theorem dX9_isPlace_64 : decode cX9_isPlace 64 = .ok (.baload, 1) := by decide +kernel
theorem dX9_isPlace_65 : decode cX9_isPlace 65 = .ok (.ifCond .ne 7, 3) := by decide +kernel
theorem dX9_isPlace_68 : decode cX9_isPlace 68 = .ok (.iconst 1, 1) := by decide +kernel
theorem dX9_isPlace_69 : decode cX9_isPlace 69 = .ok (.goto 4, 3) := by decide +kernel
theorem dX9_isPlace_72 : decode cX9_isPlace 72 = .ok (.iconst 0, 1) := by decide +kernel
theorem dX9_isPlace_73 : decode cX9_isPlace 73 = .ok (.istore 6, 2) := by decide +kernel
theorem dX9_isPlace_75 : decode cX9_isPlace 75 = .ok (.iinc 7 1, 3) := by decide +kernel
theorem dX9_isPlace_78 : decode cX9_isPlace 78 = .ok (.goto (-57), 3) := by decide +kernel
theorem dX9_isPlace_81 : decode cX9_isPlace 81 = .ok (.iload 6, 2) := by decide +kernel
theorem dX9_isPlace_83 : decode cX9_isPlace 83 = .ok (.ifCond .ne 5, 3) := by decide +kernel
theorem dX9_isPlace_86 : decode cX9_isPlace 86 = .ok (.iconst 0, 1) := by decide +kernel
theorem dX9_isPlace_87 : decode cX9_isPlace 87 = .ok (.ireturn, 1) := by decide +kernel
theorem dX9_isPlace_88 : decode cX9_isPlace 88 = .ok (.aload_n 1, 1) := by decide +kernel
theorem dX9_isPlace_89 : decode cX9_isPlace 89 = .ok (.iload_n 2, 1) := by decide +kernel
theorem dX9_isPlace_90 : decode cX9_isPlace 90 = .ok (.iload_n 3, 1) := by decide +kernel
theorem dX9_isPlace_91 : decode cX9_isPlace 91 = .ok (.iload 4, 2) := by decide +kernel
theorem dX9_isPlace_93 : decode cX9_isPlace 93 = .ok (.bipush 31, 2) := by decide +kernel
theorem dX9_isPlace_95 : decode cX9_isPlace 95 = .ok (.invokestatic 126, 3) := by decide +kernel
theorem dX9_isPlace_98 : decode cX9_isPlace 98 = .ok (.aload_n 0, 1) := by decide +kernel
theorem dX9_isPlace_99 : decode cX9_isPlace 99 = .ok (.aload_n 1, 1) := by decide +kernel
theorem dX9_isPlace_100 : decode cX9_isPlace 100 = .ok (.invokevirtual 130, 3) := by decide +kernel
theorem dX9_isPlace_103 : decode cX9_isPlace 103 = .ok (.iload 5, 2) := by decide +kernel
theorem dX9_isPlace_105 : decode cX9_isPlace 105 = .ok (.if_icmp .gt 7, 3) := by decide +kernel
theorem dX9_isPlace_108 : decode cX9_isPlace 108 = .ok (.iconst 1, 1) := by decide +kernel
theorem dX9_isPlace_109 : decode cX9_isPlace 109 = .ok (.goto 4, 3) := by decide +kernel
theorem dX9_isPlace_112 : decode cX9_isPlace 112 = .ok (.iconst 0, 1) := by decide +kernel
theorem dX9_isPlace_113 : decode cX9_isPlace 113 = .ok (.istore 7, 2) := by decide +kernel
theorem dX9_isPlace_115 : decode cX9_isPlace 115 = .ok (.aload_n 1, 1) := by decide +kernel
theorem dX9_isPlace_116 : decode cX9_isPlace 116 = .ok (.iload_n 2, 1) := by decide +kernel
theorem dX9_isPlace_117 : decode cX9_isPlace 117 = .ok (.iload_n 3, 1) := by decide +kernel
theorem dX9_isPlace_118 : decode cX9_isPlace 118 = .ok (.iload 4, 2) := by decide +kernel
theorem dX9_isPlace_120 : decode cX9_isPlace 120 = .ok (.iconst 0, 1) := by decide +kernel
theorem dX9_isPlace_121 : decode cX9_isPlace 121 = .ok (.invokestatic 126, 3) := by decide +kernel
theorem dX9_isPlace_124 : decode cX9_isPlace 124 = .ok (.iload 7, 2) := by decide +kernel
theorem dX9_isPlace_126 : decode cX9_isPlace 126 = .ok (.ireturn, 1) := by decide +kernel
set_option maxRecDepth 20000 in
theorem ggX9_findPlace_X9_has : GoodIn wsX9_findPlace wsX9_has := goodIn_r _ [9] (by decide +kernel) (by decide +kernel)
set_option maxRecDepth 20000 in
theorem gX9_findPlace_X9_has : GoodIn wsX9_findPlace (va_wsS RX9 140 yX9_has wsX9_has) := goodIn_app (goodIn_of _ (by decide +kernel)) ggX9_findPlace_X9_has
set_option maxRecDepth 20000 in
theorem ggX9_findPlace_X9_isPlace : GoodIn wsX9_findPlace wsX9_isPlace := goodIn_r _ [13, 5, 14, 15, 16, 8, 17, 18, 19, 20, 21, 22, 23, 24, 4, 25, 26, 27, 28, 29, 30, 31, 32, 33, 34, 35, 41, 42, 43, 44, 45, 46, 47, 48, 49, 50, 51, 52, 53, 54, 55, 56, 57, 58, 59, 60, 61, 62, 63, 64, 65, 66] (by decide +kernel) (by decide +kernel)
set_option maxRecDepth 20000 in
theorem gX9_findPlace_X9_isPlace : GoodIn wsX9_findPlace (wsV RX9 144 RX9 yX9_isPlace wsX9_isPlace) := goodIn_app (goodIn_of _ (by decide +kernel)) ggX9_findPlace_X9_isPlace
set_option maxRecDepth 20000 in
theorem ggX9_findPlace_X9_viewsOf : GoodIn wsX9_findPlace wsX9_viewsOf := goodIn_r _ [39, 40, 41, 42, 43, 44, 45, 46, 47, 48, 49, 50, 51, 52, 53, 54, 55, 56, 57, 58, 59, 60, 61, 62, 63, 64, 65, 66] (by decide +kernel) (by decide +kernel)
set_option maxRecDepth 20000 in
theorem gX9_findPlace_X9_viewsOf : GoodIn wsX9_findPlace (wsV RX9 148 RX9 yX9_viewsOf wsX9_viewsOf) := goodIn_app (goodIn_of _ (by decide +kernel)) ggX9_findPlace_X9_viewsOf
theorem dX9_findPlace_0 : decode cX9_findPlace 0 = .ok (.aload_n 0, 1) := by decide +kernel
theorem dX9_findPlace_1 : decode cX9_findPlace 1 = .ok (.bipush (-9), 2) := by decide +kernel
theorem dX9_findPlace_3 : decode cX9_findPlace 3 = .ok (.putfield 56, 3) := by decide +kernel
theorem dX9_findPlace_6 : decode cX9_findPlace 6 = .ok (.aload_n 0, 1) := by decide +kernel
theorem dX9_findPlace_7 : decode cX9_findPlace 7 = .ok (.bipush (-9), 2) := by decide +kernel
theorem dX9_findPlace_9 : decode cX9_findPlace 9 = .ok (.putfield 134, 3) := by decide +kernel
theorem dX9_findPlace_12 : decode cX9_findPlace 12 = .ok (.aload_n 0, 1) := by decide +kernel
theorem dX9_findPlace_13 : decode cX9_findPlace 13 = .ok (.iconst 0, 1) := by decide +kernel
theorem dX9_findPlace_14 : decode cX9_findPlace 14 = .ok (.putfield 137, 3) := by decide +kernel
theorem dX9_findPlace_17 : decode cX9_findPlace 17 = .ok (.iconst 0, 1) := by decide +kernel
theorem dX9_findPlace_18 : decode cX9_findPlace 18 = .ok (.istore 6, 2) := by decide +kernel
theorem dX9_findPlace_20 : decode cX9_findPlace 20 = .ok (.iconst 0, 1) := by decide +kernel
theorem dX9_findPlace_21 : decode cX9_findPlace 21 = .ok (.istore 7, 2) := by decide +kernel
theorem dX9_findPlace_23 : decode cX9_findPlace 23 = .ok (.iload 7, 2) := by decide +kernel
theorem dX9_findPlace_25 : decode cX9_findPlace 25 = .ok (.aload_n 0, 1) := by decide +kernel
theorem dX9_findPlace_26 : decode cX9_findPlace 26 = .ok (.getfield 63, 3) := by decide +kernel
theorem dX9_findPlace_29 : decode cX9_findPlace 29 = .ok (.if_icmp .ge 189, 3) := by decide +kernel
theorem dX9_findPlace_32 : decode cX9_findPlace 32 = .ok (.iconst 0, 1) := by decide +kernel
theorem dX9_findPlace_33 : decode cX9_findPlace 33 = .ok (.istore 8, 2) := by decide +kernel
theorem dX9_findPlace_35 : decode cX9_findPlace 35 = .ok (.iload 8, 2) := by decide +kernel
theorem dX9_findPlace_37 : decode cX9_findPlace 37 = .ok (.aload_n 0, 1) := by decide +kernel
theorem dX9_findPlace_38 : decode cX9_findPlace 38 = .ok (.getfield 13, 3) := by decide +kernel
theorem dX9_findPlace_41 : decode cX9_findPlace 41 = .ok (.iload 7, 2) := by decide +kernel
theorem dX9_findPlace_43 : decode cX9_findPlace 43 = .ok (.iaload, 1) := by decide +kernel
theorem dX9_findPlace_44 : decode cX9_findPlace 44 = .ok (.if_icmp .ge 168, 3) := by decide +kernel
theorem dX9_findPlace_47 : decode cX9_findPlace 47 = .ok (.iload 4, 2) := by decide +kernel
theorem dX9_findPlace_49 : decode cX9_findPlace 49 = .ok (.iload 7, 2) := by decide +kernel
theorem dX9_findPlace_51 : decode cX9_findPlace 51 = .ok (.invokestatic 140, 3) := by decide +kernel
theorem dX9_findPlace_54 : decode cX9_findPlace 54 = .ok (.ifCond .eq 158, 3) := by decide +kernel
theorem dX9_findPlace_57 : decode cX9_findPlace 57 = .ok (.aload_n 1, 1) := by decide +kernel
theorem dX9_findPlace_58 : decode cX9_findPlace 58 = .ok (.iconst 0, 1) := by decide +kernel
theorem dX9_findPlace_59 : decode cX9_findPlace 59 = .ok (.iload 7, 2) := by decide +kernel
theorem dX9_findPlace_61 : decode cX9_findPlace 61 = .ok (.iadd, 1) := by decide +kernel
theorem dX9_findPlace_62 : decode cX9_findPlace 62 = .ok (.iaload, 1) := by decide +kernel
theorem dX9_findPlace_63 : decode cX9_findPlace 63 = .ok (.iload_n 3, 1) := by decide +kernel
theorem dX9_findPlace_64 : decode cX9_findPlace 64 = .ok (.if_icmp .gt 148, 3) := by decide +kernel
theorem dX9_findPlace_67 : decode cX9_findPlace 67 = .ok (.aload_n 0, 1) := by decide +kernel
theorem dX9_findPlace_68 : decode cX9_findPlace 68 = .ok (.aload_n 1, 1) := by decide +kernel
theorem dX9_findPlace_69 : decode cX9_findPlace 69 = .ok (.iload 7, 2) := by decide +kernel
theorem dX9_findPlace_71 : decode cX9_findPlace 71 = .ok (.iload 8, 2) := by decide +kernel
theorem dX9_findPlace_73 : decode cX9_findPlace 73 = .ok (.iload_n 2, 1) := by decide +kernel
theorem dX9_findPlace_74 : decode cX9_findPlace 74 = .ok (.iload 5, 2) := by decide +kernel
theorem dX9_findPlace_76 : decode cX9_findPlace 76 = .ok (.invokevirtual 144, 3) := by decide +kernel
theorem dX9_findPlace_79 : decode cX9_findPlace 79 = .ok (.ifCond .eq 127, 3) := by decide +kernel
theorem dX9_findPlace_82 : decode cX9_findPlace 82 = .ok (.aload_n 0, 1) := by decide +kernel
theorem dX9_findPlace_83 : decode cX9_findPlace 83 = .ok (.iload 7, 2) := by decide +kernel
theorem dX9_findPlace_85 : decode cX9_findPlace 85 = .ok (.iload 8, 2) := by decide +kernel
theorem dX9_findPlace_87 : decode cX9_findPlace 87 = .ok (.iload_n 2, 1) := by decide +kernel
theorem dX9_findPlace_88 : decode cX9_findPlace 88 = .ok (.invokevirtual 148, 3) := by decide +kernel
theorem dX9_findPlace_91 : decode cX9_findPlace 91 = .ok (.istore 9, 2) := by decide +kernel
theorem dX9_findPlace_93 : decode cX9_findPlace 93 = .ok (.aload_n 0, 1) := by decide +kernel
theorem dX9_findPlace_94 : decode cX9_findPlace 94 = .ok (.getfield 137, 3) := by decide +kernel
theorem dX9_findPlace_97 : decode cX9_findPlace 97 = .ok (.ifCond .eq 32, 3) := by decide +kernel
theorem dX9_findPlace_100 : decode cX9_findPlace 100 = .ok (.iload 9, 2) := by decide +kernel
theorem dX9_findPlace_102 : decode cX9_findPlace 102 = .ok (.aload_n 0, 1) := by decide +kernel
theorem dX9_findPlace_103 : decode cX9_findPlace 103 = .ok (.getfield 134, 3) := by decide +kernel
theorem dX9_findPlace_106 : decode cX9_findPlace 106 = .ok (.if_icmp .gt 23, 3) := by decide +kernel
theorem dX9_findPlace_109 : decode cX9_findPlace 109 = .ok (.iload 9, 2) := by decide +kernel
theorem dX9_findPlace_111 : decode cX9_findPlace 111 = .ok (.aload_n 0, 1) := by decide +kernel
theorem dX9_findPlace_112 : decode cX9_findPlace 112 = .ok (.getfield 134, 3) := by decide +kernel
theorem dX9_findPlace_115 : decode cX9_findPlace 115 = .ok (.if_icmp .ne 18, 3) := by decide +kernel
theorem dX9_findPlace_118 : decode cX9_findPlace 118 = .ok (.aload_n 1, 1) := by decide +kernel
theorem dX9_findPlace_119 : decode cX9_findPlace 119 = .ok (.iconst 0, 1) := by decide +kernel
theorem dX9_findPlace_120 : decode cX9_findPlace 120 = .ok (.iload 7, 2) := by decide +kernel
theorem dX9_findPlace_122 : decode cX9_findPlace 122 = .ok (.iadd, 1) := by decide +kernel
theorem dX9_findPlace_123 : decode cX9_findPlace 123 = .ok (.iaload, 1) := by decide +kernel
theorem dX9_findPlace_124 : decode cX9_findPlace 124 = .ok (.iload 6, 2) := by decide +kernel
theorem dX9_findPlace_126 : decode cX9_findPlace 126 = .ok (.if_icmp .ge 7, 3) := by decide +kernel
theorem dX9_findPlace_129 : decode cX9_findPlace 129 = .ok (.iconst 1, 1) := by decide +kernel
theorem dX9_findPlace_130 : decode cX9_findPlace 130 = .ok (.goto 4, 3) := by decide +kernel
theorem dX9_findPlace_133 : decode cX9_findPlace 133 = .ok (.iconst 0, 1) := by decide +kernel
theorem dX9_findPlace_134 : decode cX9_findPlace 134 = .ok (.istore 10, 2) := by decide +kernel
theorem dX9_findPlace_136 : decode cX9_findPlace 136 = .ok (.aload_n 0, 1) := by decide +kernel
theorem dX9_findPlace_137 : decode cX9_findPlace 137 = .ok (.dup, 1) := by decide +kernel
theorem dX9_findPlace_138 : decode cX9_findPlace 138 = .ok (.getfield 137, 3) := by decide +kernel
theorem dX9_findPlace_141 : decode cX9_findPlace 141 = .ok (.iconst 1, 1) := by decide +kernel
theorem dX9_findPlace_142 : decode cX9_findPlace 142 = .ok (.iadd, 1) := by decide +kernel
theorem dX9_findPlace_143 : decode cX9_findPlace 143 = .ok (.putfield 137, 3) := by decide +kernel
theorem dX9_findPlace_146 : decode cX9_findPlace 146 = .ok (.aload_n 0, 1) := by decide +kernel
theorem dX9_findPlace_147 : decode cX9_findPlace 147 = .ok (.iload 10, 2) := by decide +kernel
theorem dX9_findPlace_149 : decode cX9_findPlace 149 = .ok (.ifCond .eq 14, 3) := by decide +kernel
theorem dX9_findPlace_152 : decode cX9_findPlace 152 = .ok (.bipush 10, 2) := by decide +kernel
theorem dX9_findPlace_154 : decode cX9_findPlace 154 = .ok (.iload 7, 2) := by decide +kernel
theorem dX9_findPlace_156 : decode cX9_findPlace 156 = .ok (.imul, 1) := by decide +kernel
theorem dX9_findPlace_157 : decode cX9_findPlace 157 = .ok (.iload 8, 2) := by decide +kernel
theorem dX9_findPlace_159 : decode cX9_findPlace 159 = .ok (.iadd, 1) := by decide +kernel
theorem dX9_findPlace_160 : decode cX9_findPlace 160 = .ok (.goto 7, 3) := by decide +kernel
theorem dX9_findPlace_163 : decode cX9_findPlace 163 = .ok (.aload_n 0, 1) := by decide +kernel
theorem dX9_findPlace_164 : decode cX9_findPlace 164 = .ok (.getfield 56, 3) := by decide +kernel
theorem dX9_findPlace_167 : decode cX9_findPlace 167 = .ok (.putfield 56, 3) := by decide +kernel
theorem dX9_findPlace_170 : decode cX9_findPlace 170 = .ok (.aload_n 0, 1) := by decide +kernel
theorem dX9_findPlace_171 : decode cX9_findPlace 171 = .ok (.iload 10, 2) := by decide +kernel
theorem dX9_findPlace_173 : decode cX9_findPlace 173 = .ok (.ifCond .eq 8, 3) := by decide +kernel
theorem dX9_findPlace_176 : decode cX9_findPlace 176 = .ok (.iload 9, 2) := by decide +kernel
theorem dX9_findPlace_178 : decode cX9_findPlace 178 = .ok (.goto 7, 3) := by decide +kernel
theorem dX9_findPlace_181 : decode cX9_findPlace 181 = .ok (.aload_n 0, 1) := by decide +kernel
theorem dX9_findPlace_182 : decode cX9_findPlace 182 = .ok (.getfield 134, 3) := by decide +kernel
theorem dX9_findPlace_185 : decode cX9_findPlace 185 = .ok (.putfield 134, 3) := by decide +kernel
theorem dX9_findPlace_188 : decode cX9_findPlace 188 = .ok (.iload 10, 2) := by decide +kernel
theorem dX9_findPlace_190 : decode cX9_findPlace 190 = .ok (.ifCond .eq 12, 3) := by decide +kernel
theorem dX9_findPlace_193 : decode cX9_findPlace 193 = .ok (.aload_n 1, 1) := by decide +kernel
theorem dX9_findPlace_194 : decode cX9_findPlace 194 = .ok (.iconst 0, 1) := by decide +kernel
theorem dX9_findPlace_195 : decode cX9_findPlace 195 = .ok (.iload 7, 2) := by decide +kernel
theorem dX9_findPlace_197 : decode cX9_findPlace 197 = .ok (.iadd, 1) := by decide +kernel
theorem dX9_findPlace_198 : decode cX9_findPlace 198 = .ok (.iaload, 1) := by decide +kernel
theorem dX9_findPlace_199 : decode cX9_findPlace 199 = .ok (.goto 5, 3) := by decide +kernel
theorem dX9_findPlace_202 : decode cX9_findPlace 202 = .ok (.iload 6, 2) := by decide +kernel
theorem dX9_findPlace_204 : decode cX9_findPlace 204 = .ok (.istore 6, 2) := by decide +kernel
theorem dX9_findPlace_206 : decode cX9_findPlace 206 = .ok (.iinc 8 1, 3) := by decide +kernel
theorem dX9_findPlace_209 : decode cX9_findPlace 209 = .ok (.goto (-174), 3) := by decide +kernel
theorem dX9_findPlace_212 : decode cX9_findPlace 212 = .ok (.iinc 7 1, 3) := by decide +kernel
theorem dX9_findPlace_215 : decode cX9_findPlace 215 = .ok (.goto (-192), 3) := by decide +kernel
theorem dX9_findPlace_218 : decode cX9_findPlace 218 = .ok (.return_, 1) := by decide +kernel
set_option maxRecDepth 20000 in
theorem ggX9_findBest_X9_allLone : GoodIn wsX9_findBest wsX9_allLone := goodIn_r _ [5, 6, 7, 8, 9, 4, 10, 11, 12, 13, 14, 15, 16, 17, 18, 19, 20, 21, 22, 45, 46, 47, 48, 49, 50, 51, 52, 53, 54, 55, 56, 57, 58, 59, 60, 61, 62, 63, 64, 65, 66, 67, 68, 69, 70] (by decide +kernel) (by decide +kernel)
set_option maxRecDepth 20000 in
theorem gX9_findBest_X9_allLone : GoodIn wsX9_findBest (wsV RX9 130 RX9 yX9_allLone wsX9_allLone) := goodIn_app (goodIn_of _ (by decide +kernel)) ggX9_findBest_X9_allLone
set_option maxRecDepth 20000 in
theorem ggX9_findBest_X9_findPlace : GoodIn wsX9_findBest wsX9_findPlace := goodIn_r _ [26, 27, 28, 29, 6, 11, 30, 31, 4, 32, 33, 34, 35, 36, 16, 17, 18, 19, 37, 38, 39, 1, 2, 3, 5, 7, 8, 9, 10, 12, 13, 14, 15, 20, 21, 22, 40, 41, 42, 43, 44, 45, 46, 47, 48, 49, 50, 51, 52, 53, 54, 55, 56, 57, 58, 59, 60, 61, 62, 63, 64, 65, 66, 67, 68, 69, 70] (by decide +kernel) (by decide +kernel)
set_option maxRecDepth 20000 in
theorem gX9_findBest_X9_findPlace : GoodIn wsX9_findBest (wsV RX9 152 RX9 yX9_findPlace wsX9_findPlace) := goodIn_app (goodIn_of _ (by decide +kernel)) ggX9_findBest_X9_findPlace
theorem dX9_findBest_0 : decode cX9_findBest 0 = .ok (.aload_n 0, 1) := by decide +kernel
theorem dX9_findBest_1 : decode cX9_findBest 1 = .ok (.aload_n 1, 1) := by decide +kernel
theorem dX9_findBest_2 : decode cX9_findBest 2 = .ok (.iload_n 2, 1) := by decide +kernel
theorem dX9_findBest_3 : decode cX9_findBest 3 = .ok (.iload_n 3, 1) := by decide +kernel
theorem dX9_findBest_4 : decode cX9_findBest 4 = .ok (.bipush 15, 2) := by decide +kernel
theorem dX9_findBest_6 : decode cX9_findBest 6 = .ok (.aload_n 0, 1) := by decide +kernel
theorem dX9_findBest_7 : decode cX9_findBest 7 = .ok (.aload_n 1, 1) := by decide +kernel
theorem dX9_findBest_8 : decode cX9_findBest 8 = .ok (.invokevirtual 130, 3) := by decide +kernel
theorem dX9_findBest_11 : decode cX9_findBest 11 = .ok (.invokevirtual 152, 3) := by decide +kernel
theorem dX9_findBest_14 : decode cX9_findBest 14 = .ok (.return_, 1) := by decide +kernel
set_option maxRecDepth 20000 in
theorem ggX9_seatOn_X9_at : GoodIn wsX9_seatOn wsX9_at := goodIn_r _ [5] (by decide +kernel) (by decide +kernel)
set_option maxRecDepth 20000 in
theorem gX9_seatOn_X9_at : GoodIn wsX9_seatOn (va_wsS RX9 155 yX9_at wsX9_at) := goodIn_app (goodIn_of _ (by decide +kernel)) ggX9_seatOn_X9_at
set_option maxRecDepth 20000 in
theorem ggX9_seatOn_X9_lay : GoodIn wsX9_seatOn wsX9_lay := goodIn_r _ [8] (by decide +kernel) (by decide +kernel)
set_option maxRecDepth 20000 in
theorem gX9_seatOn_X9_lay : GoodIn wsX9_seatOn (va_wsS RX9 126 yX9_lay wsX9_lay) := goodIn_app (goodIn_of _ (by decide +kernel)) ggX9_seatOn_X9_lay
theorem dX9_seatOn_0 : decode cX9_seatOn 0 = .ok (.iload_n 2, 1) := by decide +kernel
theorem dX9_seatOn_1 : decode cX9_seatOn 1 = .ok (.invokestatic 155, 3) := by decide +kernel
theorem dX9_seatOn_4 : decode cX9_seatOn 4 = .ok (.istore_n 3, 1) := by decide +kernel
theorem dX9_seatOn_5 : decode cX9_seatOn 5 = .ok (.aload_n 1, 1) := by decide +kernel
theorem dX9_seatOn_6 : decode cX9_seatOn 6 = .ok (.iload_n 3, 1) := by decide +kernel
theorem dX9_seatOn_7 : decode cX9_seatOn 7 = .ok (.iconst 2, 1) := by decide +kernel
theorem dX9_seatOn_8 : decode cX9_seatOn 8 = .ok (.iadd, 1) := by decide +kernel
theorem dX9_seatOn_9 : decode cX9_seatOn 9 = .ok (.iconst 1, 1) := by decide +kernel
theorem dX9_seatOn_10 : decode cX9_seatOn 10 = .ok (.iastore, 1) := by decide +kernel
theorem dX9_seatOn_11 : decode cX9_seatOn 11 = .ok (.aload_n 1, 1) := by decide +kernel
theorem dX9_seatOn_12 : decode cX9_seatOn 12 = .ok (.iload_n 3, 1) := by decide +kernel
theorem dX9_seatOn_13 : decode cX9_seatOn 13 = .ok (.iconst 3, 1) := by decide +kernel
theorem dX9_seatOn_14 : decode cX9_seatOn 14 = .ok (.iadd, 1) := by decide +kernel
theorem dX9_seatOn_15 : decode cX9_seatOn 15 = .ok (.aload_n 0, 1) := by decide +kernel
theorem dX9_seatOn_16 : decode cX9_seatOn 16 = .ok (.getfield 56, 3) := by decide +kernel
theorem dX9_seatOn_19 : decode cX9_seatOn 19 = .ok (.bipush 10, 2) := by decide +kernel
theorem dX9_seatOn_21 : decode cX9_seatOn 21 = .ok (.idiv, 1) := by decide +kernel
theorem dX9_seatOn_22 : decode cX9_seatOn 22 = .ok (.iastore, 1) := by decide +kernel
theorem dX9_seatOn_23 : decode cX9_seatOn 23 = .ok (.aload_n 1, 1) := by decide +kernel
theorem dX9_seatOn_24 : decode cX9_seatOn 24 = .ok (.iload_n 3, 1) := by decide +kernel
theorem dX9_seatOn_25 : decode cX9_seatOn 25 = .ok (.iconst 4, 1) := by decide +kernel
theorem dX9_seatOn_26 : decode cX9_seatOn 26 = .ok (.iadd, 1) := by decide +kernel
theorem dX9_seatOn_27 : decode cX9_seatOn 27 = .ok (.aload_n 0, 1) := by decide +kernel
theorem dX9_seatOn_28 : decode cX9_seatOn 28 = .ok (.getfield 56, 3) := by decide +kernel
theorem dX9_seatOn_31 : decode cX9_seatOn 31 = .ok (.bipush 10, 2) := by decide +kernel
theorem dX9_seatOn_33 : decode cX9_seatOn 33 = .ok (.irem, 1) := by decide +kernel
theorem dX9_seatOn_34 : decode cX9_seatOn 34 = .ok (.iastore, 1) := by decide +kernel
theorem dX9_seatOn_35 : decode cX9_seatOn 35 = .ok (.aload_n 1, 1) := by decide +kernel
theorem dX9_seatOn_36 : decode cX9_seatOn 36 = .ok (.aload_n 0, 1) := by decide +kernel
theorem dX9_seatOn_37 : decode cX9_seatOn 37 = .ok (.getfield 56, 3) := by decide +kernel
theorem dX9_seatOn_40 : decode cX9_seatOn 40 = .ok (.bipush 10, 2) := by decide +kernel
theorem dX9_seatOn_42 : decode cX9_seatOn 42 = .ok (.idiv, 1) := by decide +kernel
theorem dX9_seatOn_43 : decode cX9_seatOn 43 = .ok (.aload_n 0, 1) := by decide +kernel
theorem dX9_seatOn_44 : decode cX9_seatOn 44 = .ok (.getfield 56, 3) := by decide +kernel
theorem dX9_seatOn_47 : decode cX9_seatOn 47 = .ok (.bipush 10, 2) := by decide +kernel
theorem dX9_seatOn_49 : decode cX9_seatOn 49 = .ok (.irem, 1) := by decide +kernel
theorem dX9_seatOn_50 : decode cX9_seatOn 50 = .ok (.aload_n 1, 1) := by decide +kernel
theorem dX9_seatOn_51 : decode cX9_seatOn 51 = .ok (.iload_n 3, 1) := by decide +kernel
theorem dX9_seatOn_52 : decode cX9_seatOn 52 = .ok (.iconst 0, 1) := by decide +kernel
theorem dX9_seatOn_53 : decode cX9_seatOn 53 = .ok (.iadd, 1) := by decide +kernel
theorem dX9_seatOn_54 : decode cX9_seatOn 54 = .ok (.iaload, 1) := by decide +kernel
theorem dX9_seatOn_55 : decode cX9_seatOn 55 = .ok (.iload_n 2, 1) := by decide +kernel
theorem dX9_seatOn_56 : decode cX9_seatOn 56 = .ok (.invokestatic 126, 3) := by decide +kernel
theorem dX9_seatOn_59 : decode cX9_seatOn 59 = .ok (.return_, 1) := by decide +kernel
set_option maxRecDepth 20000 in
theorem ggX9_payOn_X9_seatOn : GoodIn wsX9_payOn wsX9_seatOn := goodIn_r _ [6, 1, 7, 8, 5, 9, 10, 11, 12, 13, 14, 15, 16, 17, 18, 19, 20, 21, 22, 23, 24, 25, 26, 27, 28, 29, 30, 31, 32, 33, 34, 35, 36, 37, 38] (by decide +kernel) (by decide +kernel)
set_option maxRecDepth 20000 in
theorem gX9_payOn_X9_seatOn : GoodIn wsX9_payOn (wsV RX9 158 RX9 yX9_seatOn wsX9_seatOn) := goodIn_app (goodIn_of _ (by decide +kernel)) ggX9_payOn_X9_seatOn
set_option maxRecDepth 20000 in
theorem ggX9_payOn_X9_at : GoodIn wsX9_payOn wsX9_at := goodIn_r _ [9] (by decide +kernel) (by decide +kernel)
set_option maxRecDepth 20000 in
theorem gX9_payOn_X9_at : GoodIn wsX9_payOn (va_wsS RX9 155 yX9_at wsX9_at) := goodIn_app (goodIn_of _ (by decide +kernel)) ggX9_payOn_X9_at
theorem dX9_payOn_0 : decode cX9_payOn 0 = .ok (.aload_n 0, 1) := by decide +kernel
theorem dX9_payOn_1 : decode cX9_payOn 1 = .ok (.aload_n 1, 1) := by decide +kernel
theorem dX9_payOn_2 : decode cX9_payOn 2 = .ok (.iload_n 2, 1) := by decide +kernel
theorem dX9_payOn_3 : decode cX9_payOn 3 = .ok (.invokevirtual 158, 3) := by decide +kernel
theorem dX9_payOn_6 : decode cX9_payOn 6 = .ok (.iload_n 2, 1) := by decide +kernel
theorem dX9_payOn_7 : decode cX9_payOn 7 = .ok (.invokestatic 155, 3) := by decide +kernel
theorem dX9_payOn_10 : decode cX9_payOn 10 = .ok (.istore_n 3, 1) := by decide +kernel
theorem dX9_payOn_11 : decode cX9_payOn 11 = .ok (.aload_n 1, 1) := by decide +kernel
theorem dX9_payOn_12 : decode cX9_payOn 12 = .ok (.iload_n 3, 1) := by decide +kernel
theorem dX9_payOn_13 : decode cX9_payOn 13 = .ok (.iconst 5, 1) := by decide +kernel
theorem dX9_payOn_14 : decode cX9_payOn 14 = .ok (.iadd, 1) := by decide +kernel
theorem dX9_payOn_15 : decode cX9_payOn 15 = .ok (.aload_n 1, 1) := by decide +kernel
theorem dX9_payOn_16 : decode cX9_payOn 16 = .ok (.iload_n 3, 1) := by decide +kernel
theorem dX9_payOn_17 : decode cX9_payOn 17 = .ok (.iconst 0, 1) := by decide +kernel
theorem dX9_payOn_18 : decode cX9_payOn 18 = .ok (.iadd, 1) := by decide +kernel
theorem dX9_payOn_19 : decode cX9_payOn 19 = .ok (.iaload, 1) := by decide +kernel
theorem dX9_payOn_20 : decode cX9_payOn 20 = .ok (.aload_n 1, 1) := by decide +kernel
theorem dX9_payOn_21 : decode cX9_payOn 21 = .ok (.iconst 0, 1) := by decide +kernel
theorem dX9_payOn_22 : decode cX9_payOn 22 = .ok (.aload_n 0, 1) := by decide +kernel
theorem dX9_payOn_23 : decode cX9_payOn 23 = .ok (.getfield 56, 3) := by decide +kernel
theorem dX9_payOn_26 : decode cX9_payOn 26 = .ok (.bipush 10, 2) := by decide +kernel
theorem dX9_payOn_28 : decode cX9_payOn 28 = .ok (.idiv, 1) := by decide +kernel
theorem dX9_payOn_29 : decode cX9_payOn 29 = .ok (.iadd, 1) := by decide +kernel
theorem dX9_payOn_30 : decode cX9_payOn 30 = .ok (.iaload, 1) := by decide +kernel
theorem dX9_payOn_31 : decode cX9_payOn 31 = .ok (.imul, 1) := by decide +kernel
theorem dX9_payOn_32 : decode cX9_payOn 32 = .ok (.iastore, 1) := by decide +kernel
theorem dX9_payOn_33 : decode cX9_payOn 33 = .ok (.aload_n 1, 1) := by decide +kernel
theorem dX9_payOn_34 : decode cX9_payOn 34 = .ok (.iconst 5, 1) := by decide +kernel
theorem dX9_payOn_35 : decode cX9_payOn 35 = .ok (.dup2, 1) := by decide +kernel
theorem dX9_payOn_36 : decode cX9_payOn 36 = .ok (.iaload, 1) := by decide +kernel
theorem dX9_payOn_37 : decode cX9_payOn 37 = .ok (.aload_n 1, 1) := by decide +kernel
theorem dX9_payOn_38 : decode cX9_payOn 38 = .ok (.iload_n 3, 1) := by decide +kernel
theorem dX9_payOn_39 : decode cX9_payOn 39 = .ok (.iconst 5, 1) := by decide +kernel
theorem dX9_payOn_40 : decode cX9_payOn 40 = .ok (.iadd, 1) := by decide +kernel
theorem dX9_payOn_41 : decode cX9_payOn 41 = .ok (.iaload, 1) := by decide +kernel
theorem dX9_payOn_42 : decode cX9_payOn 42 = .ok (.iadd, 1) := by decide +kernel
theorem dX9_payOn_43 : decode cX9_payOn 43 = .ok (.iastore, 1) := by decide +kernel
theorem dX9_payOn_44 : decode cX9_payOn 44 = .ok (.return_, 1) := by decide +kernel
set_option maxRecDepth 20000 in
theorem ggX9_letInOn_X9_at : GoodIn wsX9_letInOn wsX9_at := goodIn_r _ [5] (by decide +kernel) (by decide +kernel)
set_option maxRecDepth 20000 in
theorem gX9_letInOn_X9_at : GoodIn wsX9_letInOn (va_wsS RX9 155 yX9_at wsX9_at) := goodIn_app (goodIn_of _ (by decide +kernel)) ggX9_letInOn_X9_at
set_option maxRecDepth 20000 in
theorem ggX9_letInOn_X9_findBest : GoodIn wsX9_letInOn wsX9_findBest := goodIn_r _ [9, 10, 11, 12, 4, 13, 14, 15, 16, 17, 18, 19, 20, 21, 22, 23, 24, 25, 26, 27, 28, 29, 30, 31, 32, 33, 34, 35, 36, 1, 37, 38, 39, 40, 41, 42, 43, 44, 45, 46, 47, 48, 49, 50, 51, 60, 61, 62, 63, 64, 65, 66, 67, 68, 69, 70, 71, 72, 73, 74, 75, 76, 77, 78, 79, 80, 81, 82, 83, 84, 85] (by decide +kernel) (by decide +kernel)
set_option maxRecDepth 20000 in
theorem gX9_letInOn_X9_findBest : GoodIn wsX9_letInOn (wsV RX9 162 RX9 yX9_findBest wsX9_findBest) := goodIn_app (goodIn_of _ (by decide +kernel)) ggX9_letInOn_X9_findBest
set_option maxRecDepth 20000 in
theorem ggX9_letInOn_X9_payOn : GoodIn wsX9_letInOn wsX9_payOn := goodIn_r _ [55, 35, 56, 57, 58, 4, 59, 2, 3, 5, 44, 45, 46, 60, 61, 62, 63, 64, 65, 66, 67, 68, 69, 70, 71, 72, 73, 74, 75, 76, 77, 78, 79, 80, 81, 82, 83, 84, 85] (by decide +kernel) (by decide +kernel)
set_option maxRecDepth 20000 in
theorem gX9_letInOn_X9_payOn : GoodIn wsX9_letInOn (wsV RX9 166 RX9 yX9_payOn wsX9_payOn) := goodIn_app (goodIn_of _ (by decide +kernel)) ggX9_letInOn_X9_payOn
theorem dX9_letInOn_0 : decode cX9_letInOn 0 = .ok (.aload_n 1, 1) := by decide +kernel
theorem dX9_letInOn_1 : decode cX9_letInOn 1 = .ok (.bipush 7, 2) := by decide +kernel
theorem dX9_letInOn_3 : decode cX9_letInOn 3 = .ok (.iaload, 1) := by decide +kernel
theorem dX9_letInOn_4 : decode cX9_letInOn 4 = .ok (.istore_n 2, 1) := by decide +kernel
theorem dX9_letInOn_5 : decode cX9_letInOn 5 = .ok (.aload_n 1, 1) := by decide +kernel
theorem dX9_letInOn_6 : decode cX9_letInOn 6 = .ok (.bipush 7, 2) := by decide +kernel
theorem dX9_letInOn_8 : decode cX9_letInOn 8 = .ok (.iconst 0, 1) := by decide +kernel
theorem dX9_letInOn_9 : decode cX9_letInOn 9 = .ok (.iastore, 1) := by decide +kernel
theorem dX9_letInOn_10 : decode cX9_letInOn 10 = .ok (.iconst 0, 1) := by decide +kernel
theorem dX9_letInOn_11 : decode cX9_letInOn 11 = .ok (.istore_n 3, 1) := by decide +kernel
theorem dX9_letInOn_12 : decode cX9_letInOn 12 = .ok (.iload_n 3, 1) := by decide +kernel
theorem dX9_letInOn_13 : decode cX9_letInOn 13 = .ok (.iload_n 2, 1) := by decide +kernel
theorem dX9_letInOn_14 : decode cX9_letInOn 14 = .ok (.if_icmp .ge 76, 3) := by decide +kernel
theorem dX9_letInOn_17 : decode cX9_letInOn 17 = .ok (.aload_n 1, 1) := by decide +kernel
theorem dX9_letInOn_18 : decode cX9_letInOn 18 = .ok (.bipush 8, 2) := by decide +kernel
theorem dX9_letInOn_20 : decode cX9_letInOn 20 = .ok (.iload_n 3, 1) := by decide +kernel
theorem dX9_letInOn_21 : decode cX9_letInOn 21 = .ok (.iadd, 1) := by decide +kernel
theorem dX9_letInOn_22 : decode cX9_letInOn 22 = .ok (.iaload, 1) := by decide +kernel
theorem dX9_letInOn_23 : decode cX9_letInOn 23 = .ok (.istore 4, 2) := by decide +kernel
theorem dX9_letInOn_25 : decode cX9_letInOn 25 = .ok (.aload_n 0, 1) := by decide +kernel
theorem dX9_letInOn_26 : decode cX9_letInOn 26 = .ok (.aload_n 1, 1) := by decide +kernel
theorem dX9_letInOn_27 : decode cX9_letInOn 27 = .ok (.aload_n 1, 1) := by decide +kernel
theorem dX9_letInOn_28 : decode cX9_letInOn 28 = .ok (.iload 4, 2) := by decide +kernel
theorem dX9_letInOn_30 : decode cX9_letInOn 30 = .ok (.invokestatic 155, 3) := by decide +kernel
theorem dX9_letInOn_33 : decode cX9_letInOn 33 = .ok (.iconst 0, 1) := by decide +kernel
theorem dX9_letInOn_34 : decode cX9_letInOn 34 = .ok (.iadd, 1) := by decide +kernel
theorem dX9_letInOn_35 : decode cX9_letInOn 35 = .ok (.iaload, 1) := by decide +kernel
theorem dX9_letInOn_36 : decode cX9_letInOn 36 = .ok (.aload_n 1, 1) := by decide +kernel
theorem dX9_letInOn_37 : decode cX9_letInOn 37 = .ok (.iload 4, 2) := by decide +kernel
theorem dX9_letInOn_39 : decode cX9_letInOn 39 = .ok (.invokestatic 155, 3) := by decide +kernel
theorem dX9_letInOn_42 : decode cX9_letInOn 42 = .ok (.iconst 1, 1) := by decide +kernel
theorem dX9_letInOn_43 : decode cX9_letInOn 43 = .ok (.iadd, 1) := by decide +kernel
theorem dX9_letInOn_44 : decode cX9_letInOn 44 = .ok (.iaload, 1) := by decide +kernel
theorem dX9_letInOn_45 : decode cX9_letInOn 45 = .ok (.invokevirtual 162, 3) := by decide +kernel
theorem dX9_letInOn_48 : decode cX9_letInOn 48 = .ok (.aload_n 0, 1) := by decide +kernel
theorem dX9_letInOn_49 : decode cX9_letInOn 49 = .ok (.getfield 137, 3) := by decide +kernel
theorem dX9_letInOn_52 : decode cX9_letInOn 52 = .ok (.ifCond .le 13, 3) := by decide +kernel
theorem dX9_letInOn_55 : decode cX9_letInOn 55 = .ok (.aload_n 0, 1) := by decide +kernel
theorem dX9_letInOn_56 : decode cX9_letInOn 56 = .ok (.aload_n 1, 1) := by decide +kernel
theorem dX9_letInOn_57 : decode cX9_letInOn 57 = .ok (.iload 4, 2) := by decide +kernel
theorem dX9_letInOn_59 : decode cX9_letInOn 59 = .ok (.invokevirtual 166, 3) := by decide +kernel
theorem dX9_letInOn_62 : decode cX9_letInOn 62 = .ok (.goto 22, 3) := by decide +kernel
theorem dX9_letInOn_65 : decode cX9_letInOn 65 = .ok (.aload_n 1, 1) := by decide +kernel
theorem dX9_letInOn_66 : decode cX9_letInOn 66 = .ok (.bipush 8, 2) := by decide +kernel
theorem dX9_letInOn_68 : decode cX9_letInOn 68 = .ok (.aload_n 1, 1) := by decide +kernel
theorem dX9_letInOn_69 : decode cX9_letInOn 69 = .ok (.bipush 7, 2) := by decide +kernel
theorem dX9_letInOn_71 : decode cX9_letInOn 71 = .ok (.iaload, 1) := by decide +kernel
theorem dX9_letInOn_72 : decode cX9_letInOn 72 = .ok (.iadd, 1) := by decide +kernel
theorem dX9_letInOn_73 : decode cX9_letInOn 73 = .ok (.iload 4, 2) := by decide +kernel
theorem dX9_letInOn_75 : decode cX9_letInOn 75 = .ok (.iastore, 1) := by decide +kernel
theorem dX9_letInOn_76 : decode cX9_letInOn 76 = .ok (.aload_n 1, 1) := by decide +kernel
theorem dX9_letInOn_77 : decode cX9_letInOn 77 = .ok (.bipush 7, 2) := by decide +kernel
theorem dX9_letInOn_79 : decode cX9_letInOn 79 = .ok (.dup2, 1) := by decide +kernel
theorem dX9_letInOn_80 : decode cX9_letInOn 80 = .ok (.iaload, 1) := by decide +kernel
theorem dX9_letInOn_81 : decode cX9_letInOn 81 = .ok (.iconst 1, 1) := by decide +kernel
theorem dX9_letInOn_82 : decode cX9_letInOn 82 = .ok (.iadd, 1) := by decide +kernel
theorem dX9_letInOn_83 : decode cX9_letInOn 83 = .ok (.iastore, 1) := by decide +kernel
theorem dX9_letInOn_84 : decode cX9_letInOn 84 = .ok (.iinc 3 1, 3) := by decide +kernel
theorem dX9_letInOn_87 : decode cX9_letInOn 87 = .ok (.goto (-75), 3) := by decide +kernel
theorem dX9_letInOn_90 : decode cX9_letInOn 90 = .ok (.return_, 1) := by decide +kernel
set_option maxRecDepth 20000 in
theorem ggX9_mayAsk_X9_findBest : GoodIn wsX9_mayAsk wsX9_findBest := goodIn_r _ [6, 7, 8, 9, 5, 10, 11, 12, 13, 14, 15, 16, 17, 18, 19, 20, 21, 22, 23, 24, 25, 26, 27, 28, 29, 30, 31, 32, 33, 1, 34, 35, 36, 37, 38, 39, 40, 41, 42, 43, 44, 45, 46, 47, 48, 49, 50, 51, 52, 53, 54, 55, 56, 57, 58, 59, 60, 61, 62, 63, 64, 65, 66, 67, 68, 69, 70, 71, 72, 73, 74] (by decide +kernel) (by decide +kernel)
set_option maxRecDepth 20000 in
theorem gX9_mayAsk_X9_findBest : GoodIn wsX9_mayAsk (wsV RX9 162 RX9 yX9_findBest wsX9_findBest) := goodIn_app (goodIn_of _ (by decide +kernel)) ggX9_mayAsk_X9_findBest
theorem dX9_mayAsk_0 : decode cX9_mayAsk 0 = .ok (.aload_n 0, 1) := by decide +kernel
theorem dX9_mayAsk_1 : decode cX9_mayAsk 1 = .ok (.aload_n 1, 1) := by decide +kernel
theorem dX9_mayAsk_2 : decode cX9_mayAsk 2 = .ok (.iload_n 2, 1) := by decide +kernel
theorem dX9_mayAsk_3 : decode cX9_mayAsk 3 = .ok (.iload_n 3, 1) := by decide +kernel
theorem dX9_mayAsk_4 : decode cX9_mayAsk 4 = .ok (.invokevirtual 162, 3) := by decide +kernel
theorem dX9_mayAsk_7 : decode cX9_mayAsk 7 = .ok (.aload_n 1, 1) := by decide +kernel
theorem dX9_mayAsk_8 : decode cX9_mayAsk 8 = .ok (.bipush 6, 2) := by decide +kernel
theorem dX9_mayAsk_10 : decode cX9_mayAsk 10 = .ok (.iaload, 1) := by decide +kernel
theorem dX9_mayAsk_11 : decode cX9_mayAsk 11 = .ok (.bipush 30, 2) := by decide +kernel
theorem dX9_mayAsk_13 : decode cX9_mayAsk 13 = .ok (.if_icmp .ge 22, 3) := by decide +kernel
theorem dX9_mayAsk_16 : decode cX9_mayAsk 16 = .ok (.aload_n 0, 1) := by decide +kernel
theorem dX9_mayAsk_17 : decode cX9_mayAsk 17 = .ok (.getfield 137, 3) := by decide +kernel
theorem dX9_mayAsk_20 : decode cX9_mayAsk 20 = .ok (.ifCond .gt 11, 3) := by decide +kernel
theorem dX9_mayAsk_23 : decode cX9_mayAsk 23 = .ok (.aload_n 1, 1) := by decide +kernel
theorem dX9_mayAsk_24 : decode cX9_mayAsk 24 = .ok (.bipush 7, 2) := by decide +kernel
theorem dX9_mayAsk_26 : decode cX9_mayAsk 26 = .ok (.iaload, 1) := by decide +kernel
theorem dX9_mayAsk_27 : decode cX9_mayAsk 27 = .ok (.iconst 5, 1) := by decide +kernel
theorem dX9_mayAsk_28 : decode cX9_mayAsk 28 = .ok (.if_icmp .ge 7, 3) := by decide +kernel
theorem dX9_mayAsk_31 : decode cX9_mayAsk 31 = .ok (.iconst 1, 1) := by decide +kernel
theorem dX9_mayAsk_32 : decode cX9_mayAsk 32 = .ok (.goto 4, 3) := by decide +kernel
theorem dX9_mayAsk_35 : decode cX9_mayAsk 35 = .ok (.iconst 0, 1) := by decide +kernel
theorem dX9_mayAsk_36 : decode cX9_mayAsk 36 = .ok (.ireturn, 1) := by decide +kernel
set_option maxRecDepth 20000 in
theorem ggX9_askOn_X9_findBest : GoodIn wsX9_askOn wsX9_findBest := goodIn_r _ [6, 7, 8, 9, 5, 10, 11, 12, 13, 14, 15, 16, 17, 18, 19, 20, 21, 22, 23, 24, 25, 26, 27, 28, 29, 30, 31, 32, 33, 1, 34, 35, 36, 37, 38, 39, 40, 41, 42, 43, 44, 45, 46, 47, 48, 60, 61, 62, 63, 64, 65, 66, 67, 68, 69, 70, 71, 72, 73, 74, 75, 76, 77, 78, 79, 80, 81, 82, 83, 84, 85] (by decide +kernel) (by decide +kernel)
set_option maxRecDepth 20000 in
theorem gX9_askOn_X9_findBest : GoodIn wsX9_askOn (wsV RX9 162 RX9 yX9_findBest wsX9_findBest) := goodIn_app (goodIn_of _ (by decide +kernel)) ggX9_askOn_X9_findBest
set_option maxRecDepth 20000 in
theorem ggX9_askOn_X9_at : GoodIn wsX9_askOn wsX9_at := goodIn_r _ [51] (by decide +kernel) (by decide +kernel)
set_option maxRecDepth 20000 in
theorem gX9_askOn_X9_at : GoodIn wsX9_askOn (va_wsS RX9 155 yX9_at wsX9_at) := goodIn_app (goodIn_of _ (by decide +kernel)) ggX9_askOn_X9_at
set_option maxRecDepth 20000 in
theorem ggX9_askOn_X9_payOn : GoodIn wsX9_askOn wsX9_payOn := goodIn_r _ [55, 32, 56, 57, 58, 5, 59, 49, 50, 51, 41, 42, 43, 60, 61, 62, 63, 64, 65, 66, 67, 68, 69, 70, 71, 72, 73, 74, 75, 76, 77, 78, 79, 80, 81, 82, 83, 84, 85] (by decide +kernel) (by decide +kernel)
set_option maxRecDepth 20000 in
theorem gX9_askOn_X9_payOn : GoodIn wsX9_askOn (wsV RX9 166 RX9 yX9_payOn wsX9_payOn) := goodIn_app (goodIn_of _ (by decide +kernel)) ggX9_askOn_X9_payOn
theorem dX9_askOn_0 : decode cX9_askOn 0 = .ok (.aload_n 0, 1) := by decide +kernel
theorem dX9_askOn_1 : decode cX9_askOn 1 = .ok (.aload_n 1, 1) := by decide +kernel
theorem dX9_askOn_2 : decode cX9_askOn 2 = .ok (.iload_n 2, 1) := by decide +kernel
theorem dX9_askOn_3 : decode cX9_askOn 3 = .ok (.iload_n 3, 1) := by decide +kernel
theorem dX9_askOn_4 : decode cX9_askOn 4 = .ok (.invokevirtual 162, 3) := by decide +kernel
theorem dX9_askOn_7 : decode cX9_askOn 7 = .ok (.aload_n 1, 1) := by decide +kernel
theorem dX9_askOn_8 : decode cX9_askOn 8 = .ok (.bipush 6, 2) := by decide +kernel
theorem dX9_askOn_10 : decode cX9_askOn 10 = .ok (.dup2, 1) := by decide +kernel
theorem dX9_askOn_11 : decode cX9_askOn 11 = .ok (.iaload, 1) := by decide +kernel
theorem dX9_askOn_12 : decode cX9_askOn 12 = .ok (.iconst 1, 1) := by decide +kernel
theorem dX9_askOn_13 : decode cX9_askOn 13 = .ok (.iadd, 1) := by decide +kernel
theorem dX9_askOn_14 : decode cX9_askOn 14 = .ok (.iastore, 1) := by decide +kernel
theorem dX9_askOn_15 : decode cX9_askOn 15 = .ok (.aload_n 1, 1) := by decide +kernel
theorem dX9_askOn_16 : decode cX9_askOn 16 = .ok (.bipush 6, 2) := by decide +kernel
theorem dX9_askOn_18 : decode cX9_askOn 18 = .ok (.iaload, 1) := by decide +kernel
theorem dX9_askOn_19 : decode cX9_askOn 19 = .ok (.istore 4, 2) := by decide +kernel
theorem dX9_askOn_21 : decode cX9_askOn 21 = .ok (.aload_n 1, 1) := by decide +kernel
theorem dX9_askOn_22 : decode cX9_askOn 22 = .ok (.iload 4, 2) := by decide +kernel
theorem dX9_askOn_24 : decode cX9_askOn 24 = .ok (.invokestatic 155, 3) := by decide +kernel
theorem dX9_askOn_27 : decode cX9_askOn 27 = .ok (.iconst 0, 1) := by decide +kernel
theorem dX9_askOn_28 : decode cX9_askOn 28 = .ok (.iadd, 1) := by decide +kernel
theorem dX9_askOn_29 : decode cX9_askOn 29 = .ok (.iload_n 2, 1) := by decide +kernel
theorem dX9_askOn_30 : decode cX9_askOn 30 = .ok (.iastore, 1) := by decide +kernel
theorem dX9_askOn_31 : decode cX9_askOn 31 = .ok (.aload_n 1, 1) := by decide +kernel
theorem dX9_askOn_32 : decode cX9_askOn 32 = .ok (.iload 4, 2) := by decide +kernel
theorem dX9_askOn_34 : decode cX9_askOn 34 = .ok (.invokestatic 155, 3) := by decide +kernel
theorem dX9_askOn_37 : decode cX9_askOn 37 = .ok (.iconst 1, 1) := by decide +kernel
theorem dX9_askOn_38 : decode cX9_askOn 38 = .ok (.iadd, 1) := by decide +kernel
theorem dX9_askOn_39 : decode cX9_askOn 39 = .ok (.iload_n 3, 1) := by decide +kernel
theorem dX9_askOn_40 : decode cX9_askOn 40 = .ok (.iastore, 1) := by decide +kernel
theorem dX9_askOn_41 : decode cX9_askOn 41 = .ok (.aload_n 1, 1) := by decide +kernel
theorem dX9_askOn_42 : decode cX9_askOn 42 = .ok (.iload 4, 2) := by decide +kernel
theorem dX9_askOn_44 : decode cX9_askOn 44 = .ok (.invokestatic 155, 3) := by decide +kernel
theorem dX9_askOn_47 : decode cX9_askOn 47 = .ok (.iconst 5, 1) := by decide +kernel
theorem dX9_askOn_48 : decode cX9_askOn 48 = .ok (.iadd, 1) := by decide +kernel
theorem dX9_askOn_49 : decode cX9_askOn 49 = .ok (.iconst 0, 1) := by decide +kernel
theorem dX9_askOn_50 : decode cX9_askOn 50 = .ok (.iastore, 1) := by decide +kernel
theorem dX9_askOn_51 : decode cX9_askOn 51 = .ok (.aload_n 0, 1) := by decide +kernel
theorem dX9_askOn_52 : decode cX9_askOn 52 = .ok (.getfield 137, 3) := by decide +kernel
theorem dX9_askOn_55 : decode cX9_askOn 55 = .ok (.ifCond .le 13, 3) := by decide +kernel
theorem dX9_askOn_58 : decode cX9_askOn 58 = .ok (.aload_n 0, 1) := by decide +kernel
theorem dX9_askOn_59 : decode cX9_askOn 59 = .ok (.aload_n 1, 1) := by decide +kernel
theorem dX9_askOn_60 : decode cX9_askOn 60 = .ok (.iload 4, 2) := by decide +kernel
theorem dX9_askOn_62 : decode cX9_askOn 62 = .ok (.invokevirtual 166, 3) := by decide +kernel
theorem dX9_askOn_65 : decode cX9_askOn 65 = .ok (.goto 32, 3) := by decide +kernel
theorem dX9_askOn_68 : decode cX9_askOn 68 = .ok (.aload_n 1, 1) := by decide +kernel
theorem dX9_askOn_69 : decode cX9_askOn 69 = .ok (.iload 4, 2) := by decide +kernel
theorem dX9_askOn_71 : decode cX9_askOn 71 = .ok (.invokestatic 155, 3) := by decide +kernel
theorem dX9_askOn_74 : decode cX9_askOn 74 = .ok (.iconst 2, 1) := by decide +kernel
theorem dX9_askOn_75 : decode cX9_askOn 75 = .ok (.iadd, 1) := by decide +kernel
theorem dX9_askOn_76 : decode cX9_askOn 76 = .ok (.iconst 2, 1) := by decide +kernel
theorem dX9_askOn_77 : decode cX9_askOn 77 = .ok (.iastore, 1) := by decide +kernel
theorem dX9_askOn_78 : decode cX9_askOn 78 = .ok (.aload_n 1, 1) := by decide +kernel
theorem dX9_askOn_79 : decode cX9_askOn 79 = .ok (.bipush 8, 2) := by decide +kernel
theorem dX9_askOn_81 : decode cX9_askOn 81 = .ok (.aload_n 1, 1) := by decide +kernel
theorem dX9_askOn_82 : decode cX9_askOn 82 = .ok (.bipush 7, 2) := by decide +kernel
theorem dX9_askOn_84 : decode cX9_askOn 84 = .ok (.iaload, 1) := by decide +kernel
theorem dX9_askOn_85 : decode cX9_askOn 85 = .ok (.iadd, 1) := by decide +kernel
theorem dX9_askOn_86 : decode cX9_askOn 86 = .ok (.iload 4, 2) := by decide +kernel
theorem dX9_askOn_88 : decode cX9_askOn 88 = .ok (.iastore, 1) := by decide +kernel
theorem dX9_askOn_89 : decode cX9_askOn 89 = .ok (.aload_n 1, 1) := by decide +kernel
theorem dX9_askOn_90 : decode cX9_askOn 90 = .ok (.bipush 7, 2) := by decide +kernel
theorem dX9_askOn_92 : decode cX9_askOn 92 = .ok (.dup2, 1) := by decide +kernel
theorem dX9_askOn_93 : decode cX9_askOn 93 = .ok (.iaload, 1) := by decide +kernel
theorem dX9_askOn_94 : decode cX9_askOn 94 = .ok (.iconst 1, 1) := by decide +kernel
theorem dX9_askOn_95 : decode cX9_askOn 95 = .ok (.iadd, 1) := by decide +kernel
theorem dX9_askOn_96 : decode cX9_askOn 96 = .ok (.iastore, 1) := by decide +kernel
theorem dX9_askOn_97 : decode cX9_askOn 97 = .ok (.return_, 1) := by decide +kernel
set_option maxRecDepth 20000 in
theorem ggX9_returnOn_X9_at : GoodIn wsX9_returnOn wsX9_at := goodIn_r _ [4] (by decide +kernel) (by decide +kernel)
set_option maxRecDepth 20000 in
theorem gX9_returnOn_X9_at : GoodIn wsX9_returnOn (va_wsS RX9 155 yX9_at wsX9_at) := goodIn_app (goodIn_of _ (by decide +kernel)) ggX9_returnOn_X9_at
set_option maxRecDepth 20000 in
theorem ggX9_returnOn_X9_lay : GoodIn wsX9_returnOn wsX9_lay := goodIn_r _ [7] (by decide +kernel) (by decide +kernel)
set_option maxRecDepth 20000 in
theorem gX9_returnOn_X9_lay : GoodIn wsX9_returnOn (va_wsS RX9 126 yX9_lay wsX9_lay) := goodIn_app (goodIn_of _ (by decide +kernel)) ggX9_returnOn_X9_lay
set_option maxRecDepth 20000 in
theorem ggX9_returnOn_X9_letInOn : GoodIn wsX9_returnOn wsX9_letInOn := goodIn_r _ [11, 12, 1, 2, 3, 4, 13, 14, 15, 16, 17, 18, 19, 20, 21, 22, 23, 24, 25, 26, 27, 28, 29, 30, 31, 32, 33, 34, 35, 36, 37, 38, 39, 40, 41, 42, 43, 44, 45, 46, 47, 48, 49, 50, 5, 6, 7, 51, 52, 53, 54, 55, 56, 57, 58, 59, 60, 61, 62, 63, 64, 65, 66, 67, 68, 69, 70, 71, 72, 73, 74, 75, 76, 77, 78, 79, 80, 81, 82, 83, 84, 85, 86, 87, 88, 89] (by decide +kernel) (by decide +kernel)
set_option maxRecDepth 20000 in
theorem gX9_returnOn_X9_letInOn : GoodIn wsX9_returnOn (wsV RX9 169 RX9 yX9_letInOn wsX9_letInOn) := goodIn_app (goodIn_of _ (by decide +kernel)) ggX9_returnOn_X9_letInOn
theorem dX9_returnOn_0 : decode cX9_returnOn 0 = .ok (.iload_n 2, 1) := by decide +kernel
theorem dX9_returnOn_1 : decode cX9_returnOn 1 = .ok (.invokestatic 155, 3) := by decide +kernel
theorem dX9_returnOn_4 : decode cX9_returnOn 4 = .ok (.istore_n 3, 1) := by decide +kernel
theorem dX9_returnOn_5 : decode cX9_returnOn 5 = .ok (.aload_n 1, 1) := by decide +kernel
theorem dX9_returnOn_6 : decode cX9_returnOn 6 = .ok (.iload_n 3, 1) := by decide +kernel
theorem dX9_returnOn_7 : decode cX9_returnOn 7 = .ok (.iconst 5, 1) := by decide +kernel
theorem dX9_returnOn_8 : decode cX9_returnOn 8 = .ok (.iadd, 1) := by decide +kernel
theorem dX9_returnOn_9 : decode cX9_returnOn 9 = .ok (.iaload, 1) := by decide +kernel
theorem dX9_returnOn_10 : decode cX9_returnOn 10 = .ok (.aload_n 1, 1) := by decide +kernel
theorem dX9_returnOn_11 : decode cX9_returnOn 11 = .ok (.iload_n 3, 1) := by decide +kernel
theorem dX9_returnOn_12 : decode cX9_returnOn 12 = .ok (.iconst 0, 1) := by decide +kernel
theorem dX9_returnOn_13 : decode cX9_returnOn 13 = .ok (.iadd, 1) := by decide +kernel
theorem dX9_returnOn_14 : decode cX9_returnOn 14 = .ok (.iaload, 1) := by decide +kernel
theorem dX9_returnOn_15 : decode cX9_returnOn 15 = .ok (.aload_n 1, 1) := by decide +kernel
theorem dX9_returnOn_16 : decode cX9_returnOn 16 = .ok (.iconst 4, 1) := by decide +kernel
theorem dX9_returnOn_17 : decode cX9_returnOn 17 = .ok (.iaload, 1) := by decide +kernel
theorem dX9_returnOn_18 : decode cX9_returnOn 18 = .ok (.imul, 1) := by decide +kernel
theorem dX9_returnOn_19 : decode cX9_returnOn 19 = .ok (.isub, 1) := by decide +kernel
theorem dX9_returnOn_20 : decode cX9_returnOn 20 = .ok (.istore 4, 2) := by decide +kernel
theorem dX9_returnOn_22 : decode cX9_returnOn 22 = .ok (.iload 4, 2) := by decide +kernel
theorem dX9_returnOn_24 : decode cX9_returnOn 24 = .ok (.ifCond .ge 7, 3) := by decide +kernel
theorem dX9_returnOn_27 : decode cX9_returnOn 27 = .ok (.iconst 0, 1) := by decide +kernel
theorem dX9_returnOn_28 : decode cX9_returnOn 28 = .ok (.goto 5, 3) := by decide +kernel
theorem dX9_returnOn_31 : decode cX9_returnOn 31 = .ok (.iload 4, 2) := by decide +kernel
theorem dX9_returnOn_33 : decode cX9_returnOn 33 = .ok (.istore 4, 2) := by decide +kernel
theorem dX9_returnOn_35 : decode cX9_returnOn 35 = .ok (.aload_n 1, 1) := by decide +kernel
theorem dX9_returnOn_36 : decode cX9_returnOn 36 = .ok (.iconst 5, 1) := by decide +kernel
theorem dX9_returnOn_37 : decode cX9_returnOn 37 = .ok (.dup2, 1) := by decide +kernel
theorem dX9_returnOn_38 : decode cX9_returnOn 38 = .ok (.iaload, 1) := by decide +kernel
theorem dX9_returnOn_39 : decode cX9_returnOn 39 = .ok (.iload 4, 2) := by decide +kernel
theorem dX9_returnOn_41 : decode cX9_returnOn 41 = .ok (.isub, 1) := by decide +kernel
theorem dX9_returnOn_42 : decode cX9_returnOn 42 = .ok (.iastore, 1) := by decide +kernel
theorem dX9_returnOn_43 : decode cX9_returnOn 43 = .ok (.aload_n 1, 1) := by decide +kernel
theorem dX9_returnOn_44 : decode cX9_returnOn 44 = .ok (.aload_n 1, 1) := by decide +kernel
theorem dX9_returnOn_45 : decode cX9_returnOn 45 = .ok (.iload_n 3, 1) := by decide +kernel
theorem dX9_returnOn_46 : decode cX9_returnOn 46 = .ok (.iconst 3, 1) := by decide +kernel
theorem dX9_returnOn_47 : decode cX9_returnOn 47 = .ok (.iadd, 1) := by decide +kernel
theorem dX9_returnOn_48 : decode cX9_returnOn 48 = .ok (.iaload, 1) := by decide +kernel
theorem dX9_returnOn_49 : decode cX9_returnOn 49 = .ok (.aload_n 1, 1) := by decide +kernel
theorem dX9_returnOn_50 : decode cX9_returnOn 50 = .ok (.iload_n 3, 1) := by decide +kernel
theorem dX9_returnOn_51 : decode cX9_returnOn 51 = .ok (.iconst 4, 1) := by decide +kernel
theorem dX9_returnOn_52 : decode cX9_returnOn 52 = .ok (.iadd, 1) := by decide +kernel
theorem dX9_returnOn_53 : decode cX9_returnOn 53 = .ok (.iaload, 1) := by decide +kernel
theorem dX9_returnOn_54 : decode cX9_returnOn 54 = .ok (.aload_n 1, 1) := by decide +kernel
theorem dX9_returnOn_55 : decode cX9_returnOn 55 = .ok (.iload_n 3, 1) := by decide +kernel
theorem dX9_returnOn_56 : decode cX9_returnOn 56 = .ok (.iconst 0, 1) := by decide +kernel
theorem dX9_returnOn_57 : decode cX9_returnOn 57 = .ok (.iadd, 1) := by decide +kernel
theorem dX9_returnOn_58 : decode cX9_returnOn 58 = .ok (.iaload, 1) := by decide +kernel
theorem dX9_returnOn_59 : decode cX9_returnOn 59 = .ok (.iconst 0, 1) := by decide +kernel
theorem dX9_returnOn_60 : decode cX9_returnOn 60 = .ok (.invokestatic 126, 3) := by decide +kernel
theorem dX9_returnOn_63 : decode cX9_returnOn 63 = .ok (.aload_n 1, 1) := by decide +kernel
theorem dX9_returnOn_64 : decode cX9_returnOn 64 = .ok (.iload_n 3, 1) := by decide +kernel
theorem dX9_returnOn_65 : decode cX9_returnOn 65 = .ok (.iconst 2, 1) := by decide +kernel
theorem dX9_returnOn_66 : decode cX9_returnOn 66 = .ok (.iadd, 1) := by decide +kernel
theorem dX9_returnOn_67 : decode cX9_returnOn 67 = .ok (.iconst 0, 1) := by decide +kernel
theorem dX9_returnOn_68 : decode cX9_returnOn 68 = .ok (.iastore, 1) := by decide +kernel
theorem dX9_returnOn_69 : decode cX9_returnOn 69 = .ok (.aload_n 1, 1) := by decide +kernel
theorem dX9_returnOn_70 : decode cX9_returnOn 70 = .ok (.iload_n 3, 1) := by decide +kernel
theorem dX9_returnOn_71 : decode cX9_returnOn 71 = .ok (.iconst 5, 1) := by decide +kernel
theorem dX9_returnOn_72 : decode cX9_returnOn 72 = .ok (.iadd, 1) := by decide +kernel
theorem dX9_returnOn_73 : decode cX9_returnOn 73 = .ok (.iconst 0, 1) := by decide +kernel
theorem dX9_returnOn_74 : decode cX9_returnOn 74 = .ok (.iastore, 1) := by decide +kernel
theorem dX9_returnOn_75 : decode cX9_returnOn 75 = .ok (.aload_n 0, 1) := by decide +kernel
theorem dX9_returnOn_76 : decode cX9_returnOn 76 = .ok (.aload_n 1, 1) := by decide +kernel
theorem dX9_returnOn_77 : decode cX9_returnOn 77 = .ok (.invokevirtual 169, 3) := by decide +kernel
theorem dX9_returnOn_80 : decode cX9_returnOn 80 = .ok (.iload 4, 2) := by decide +kernel
theorem dX9_returnOn_82 : decode cX9_returnOn 82 = .ok (.ireturn, 1) := by decide +kernel
set_option maxRecDepth 20000 in
theorem ggX9_seated_X9_at : GoodIn wsX9_seated wsX9_at := goodIn_r _ [4] (by decide +kernel) (by decide +kernel)
set_option maxRecDepth 20000 in
theorem gX9_seated_X9_at : GoodIn wsX9_seated (va_wsS RX9 155 yX9_at wsX9_at) := goodIn_app (goodIn_of _ (by decide +kernel)) ggX9_seated_X9_at
theorem dX9_seated_0 : decode cX9_seated 0 = .ok (.iconst 0, 1) := by decide +kernel
theorem dX9_seated_1 : decode cX9_seated 1 = .ok (.istore_n 1, 1) := by decide +kernel
theorem dX9_seated_2 : decode cX9_seated 2 = .ok (.iconst 1, 1) := by decide +kernel
theorem dX9_seated_3 : decode cX9_seated 3 = .ok (.istore_n 2, 1) := by decide +kernel
theorem dX9_seated_4 : decode cX9_seated 4 = .ok (.iload_n 2, 1) := by decide +kernel
theorem dX9_seated_5 : decode cX9_seated 5 = .ok (.aload_n 0, 1) := by decide +kernel
theorem dX9_seated_6 : decode cX9_seated 6 = .ok (.bipush 6, 2) := by decide +kernel
theorem dX9_seated_8 : decode cX9_seated 8 = .ok (.iaload, 1) := by decide +kernel
theorem dX9_seated_9 : decode cX9_seated 9 = .ok (.if_icmp .gt 29, 3) := by decide +kernel
theorem dX9_seated_12 : decode cX9_seated 12 = .ok (.iload_n 1, 1) := by decide +kernel
theorem dX9_seated_13 : decode cX9_seated 13 = .ok (.aload_n 0, 1) := by decide +kernel
theorem dX9_seated_14 : decode cX9_seated 14 = .ok (.iload_n 2, 1) := by decide +kernel
theorem dX9_seated_15 : decode cX9_seated 15 = .ok (.invokestatic 155, 3) := by decide +kernel
theorem dX9_seated_18 : decode cX9_seated 18 = .ok (.iconst 2, 1) := by decide +kernel
theorem dX9_seated_19 : decode cX9_seated 19 = .ok (.iadd, 1) := by decide +kernel
theorem dX9_seated_20 : decode cX9_seated 20 = .ok (.iaload, 1) := by decide +kernel
theorem dX9_seated_21 : decode cX9_seated 21 = .ok (.iconst 1, 1) := by decide +kernel
theorem dX9_seated_22 : decode cX9_seated 22 = .ok (.if_icmp .ne 7, 3) := by decide +kernel
theorem dX9_seated_25 : decode cX9_seated 25 = .ok (.iconst 1, 1) := by decide +kernel
theorem dX9_seated_26 : decode cX9_seated 26 = .ok (.goto 4, 3) := by decide +kernel
theorem dX9_seated_29 : decode cX9_seated 29 = .ok (.iconst 0, 1) := by decide +kernel
theorem dX9_seated_30 : decode cX9_seated 30 = .ok (.iadd, 1) := by decide +kernel
theorem dX9_seated_31 : decode cX9_seated 31 = .ok (.istore_n 1, 1) := by decide +kernel
theorem dX9_seated_32 : decode cX9_seated 32 = .ok (.iinc 2 1, 3) := by decide +kernel
theorem dX9_seated_35 : decode cX9_seated 35 = .ok (.goto (-31), 3) := by decide +kernel
theorem dX9_seated_38 : decode cX9_seated 38 = .ok (.iload_n 1, 1) := by decide +kernel
theorem dX9_seated_39 : decode cX9_seated 39 = .ok (.ireturn, 1) := by decide +kernel
set_option maxRecDepth 20000 in
theorem ggX9_row_X9_noRow : GoodIn wsX9_row wsX9_noRow := goodIn_r _ [9, 10, 11, 12, 8, 13, 29, 30, 31, 32, 33, 34, 35, 36, 37, 38, 39, 40, 41, 42, 43, 44, 45, 46, 47, 48, 49, 50, 51, 52, 53, 54] (by decide +kernel) (by decide +kernel)
set_option maxRecDepth 20000 in
theorem gX9_row_X9_noRow : GoodIn wsX9_row (wsV RX9 70 RX9 yX9_noRow wsX9_noRow) := goodIn_app (goodIn_of _ (by decide +kernel)) ggX9_row_X9_noRow
set_option maxRecDepth 20000 in
theorem ggX9_row_X9_freeIn : GoodIn wsX9_row wsX9_freeIn := goodIn_r _ [17, 3, 18, 19, 8, 20, 29, 30, 31, 32, 33, 34, 35, 36, 37, 38, 39, 40, 41, 42, 43, 44, 45, 46, 47, 48, 49, 50, 51, 52, 53, 54] (by decide +kernel) (by decide +kernel)
set_option maxRecDepth 20000 in
theorem gX9_row_X9_freeIn : GoodIn wsX9_row (wsV RX9 123 RX9 yX9_freeIn wsX9_freeIn) := goodIn_app (goodIn_of _ (by decide +kernel)) ggX9_row_X9_freeIn
set_option maxRecDepth 20000 in
theorem ggX9_row_X9_loneIn : GoodIn wsX9_row wsX9_loneIn := goodIn_r _ [24, 3, 25, 26, 27, 8, 28, 4, 18, 19, 20, 29, 30, 31, 32, 33, 34, 35, 36, 37, 38, 39, 40, 41, 42, 43, 44, 45, 46, 47, 48, 49, 50, 51, 52, 53, 54] (by decide +kernel) (by decide +kernel)
set_option maxRecDepth 20000 in
theorem gX9_row_X9_loneIn : GoodIn wsX9_row (wsV RX9 115 RX9 yX9_loneIn wsX9_loneIn) := goodIn_app (goodIn_of _ (by decide +kernel)) ggX9_row_X9_loneIn
theorem dX9_row_0 : decode cX9_row 0 = .ok (.aload_n 0, 1) := by decide +kernel
theorem dX9_row_1 : decode cX9_row 1 = .ok (.iconst 0, 1) := by decide +kernel
theorem dX9_row_2 : decode cX9_row 2 = .ok (.putfield 60, 3) := by decide +kernel
theorem dX9_row_5 : decode cX9_row 5 = .ok (.aload_n 0, 1) := by decide +kernel
theorem dX9_row_6 : decode cX9_row 6 = .ok (.iload_n 1, 1) := by decide +kernel
theorem dX9_row_7 : decode cX9_row 7 = .ok (.invokevirtual 70, 3) := by decide +kernel
theorem dX9_row_10 : decode cX9_row 10 = .ok (.ifCond .eq 5, 3) := by decide +kernel
theorem dX9_row_13 : decode cX9_row 13 = .ok (.iconst (-1), 1) := by decide +kernel
theorem dX9_row_14 : decode cX9_row 14 = .ok (.ireturn, 1) := by decide +kernel
theorem dX9_row_15 : decode cX9_row 15 = .ok (.iload_n 2, 1) := by decide +kernel
theorem dX9_row_16 : decode cX9_row 16 = .ok (.tableswitch 119 0 4 #[36, 45, 52, 99, 109], 36) := by decide +kernel
theorem dX9_row_52 : decode cX9_row 52 = .ok (.aload_n 0, 1) := by decide +kernel
theorem dX9_row_53 : decode cX9_row 53 = .ok (.getfield 35, 3) := by decide +kernel
theorem dX9_row_56 : decode cX9_row 56 = .ok (.iconst 0, 1) := by decide +kernel
theorem dX9_row_57 : decode cX9_row 57 = .ok (.iload_n 1, 1) := by decide +kernel
theorem dX9_row_58 : decode cX9_row 58 = .ok (.iadd, 1) := by decide +kernel
theorem dX9_row_59 : decode cX9_row 59 = .ok (.iaload, 1) := by decide +kernel
theorem dX9_row_60 : decode cX9_row 60 = .ok (.ireturn, 1) := by decide +kernel
theorem dX9_row_61 : decode cX9_row 61 = .ok (.aload_n 0, 1) := by decide +kernel
theorem dX9_row_62 : decode cX9_row 62 = .ok (.getfield 13, 3) := by decide +kernel
theorem dX9_row_65 : decode cX9_row 65 = .ok (.iload_n 1, 1) := by decide +kernel
theorem dX9_row_66 : decode cX9_row 66 = .ok (.iaload, 1) := by decide +kernel
theorem dX9_row_67 : decode cX9_row 67 = .ok (.ireturn, 1) := by decide +kernel
theorem dX9_row_68 : decode cX9_row 68 = .ok (.iconst 1, 1) := by decide +kernel
theorem dX9_row_69 : decode cX9_row 69 = .ok (.istore_n 3, 1) := by decide +kernel
theorem dX9_row_70 : decode cX9_row 70 = .ok (.iconst 0, 1) := by decide +kernel
theorem dX9_row_71 : decode cX9_row 71 = .ok (.istore 4, 2) := by decide +kernel
theorem dX9_row_73 : decode cX9_row 73 = .ok (.iload 4, 2) := by decide +kernel
theorem dX9_row_75 : decode cX9_row 75 = .ok (.aload_n 0, 1) := by decide +kernel
theorem dX9_row_76 : decode cX9_row 76 = .ok (.getfield 13, 3) := by decide +kernel
theorem dX9_row_79 : decode cX9_row 79 = .ok (.iload_n 1, 1) := by decide +kernel
theorem dX9_row_80 : decode cX9_row 80 = .ok (.iaload, 1) := by decide +kernel
theorem dX9_row_81 : decode cX9_row 81 = .ok (.if_icmp .ge 32, 3) := by decide +kernel
theorem dX9_row_84 : decode cX9_row 84 = .ok (.iload_n 3, 1) := by decide +kernel
theorem dX9_row_85 : decode cX9_row 85 = .ok (.aload_n 0, 1) := by decide +kernel
theorem dX9_row_86 : decode cX9_row 86 = .ok (.getfield 19, 3) := by decide +kernel
theorem dX9_row_89 : decode cX9_row 89 = .ok (.bipush 9, 2) := by decide +kernel
theorem dX9_row_91 : decode cX9_row 91 = .ok (.iload_n 1, 1) := by decide +kernel
theorem dX9_row_92 : decode cX9_row 92 = .ok (.imul, 1) := by decide +kernel
theorem dX9_row_93 : decode cX9_row 93 = .ok (.iload 4, 2) := by decide +kernel
theorem dX9_row_95 : decode cX9_row 95 = .ok (.iadd, 1) := by decide +kernel
theorem dX9_row_96 : decode cX9_row 96 = .ok (.baload, 1) := by decide +kernel
theorem dX9_row_97 : decode cX9_row 97 = .ok (.ifCond .eq 7, 3) := by decide +kernel
theorem dX9_row_100 : decode cX9_row 100 = .ok (.iconst 1, 1) := by decide +kernel
theorem dX9_row_101 : decode cX9_row 101 = .ok (.goto 4, 3) := by decide +kernel
theorem dX9_row_104 : decode cX9_row 104 = .ok (.iconst 0, 1) := by decide +kernel
theorem dX9_row_105 : decode cX9_row 105 = .ok (.iadd, 1) := by decide +kernel
theorem dX9_row_106 : decode cX9_row 106 = .ok (.istore_n 3, 1) := by decide +kernel
theorem dX9_row_107 : decode cX9_row 107 = .ok (.iinc 4 1, 3) := by decide +kernel
theorem dX9_row_110 : decode cX9_row 110 = .ok (.goto (-37), 3) := by decide +kernel
theorem dX9_row_113 : decode cX9_row 113 = .ok (.iload_n 3, 1) := by decide +kernel
theorem dX9_row_114 : decode cX9_row 114 = .ok (.ireturn, 1) := by decide +kernel
theorem dX9_row_115 : decode cX9_row 115 = .ok (.aload_n 0, 1) := by decide +kernel
theorem dX9_row_116 : decode cX9_row 116 = .ok (.aload_n 0, 1) := by decide +kernel
theorem dX9_row_117 : decode cX9_row 117 = .ok (.getfield 35, 3) := by decide +kernel
theorem dX9_row_120 : decode cX9_row 120 = .ok (.iload_n 1, 1) := by decide +kernel
theorem dX9_row_121 : decode cX9_row 121 = .ok (.invokevirtual 123, 3) := by decide +kernel
theorem dX9_row_124 : decode cX9_row 124 = .ok (.ireturn, 1) := by decide +kernel
theorem dX9_row_125 : decode cX9_row 125 = .ok (.aload_n 0, 1) := by decide +kernel
theorem dX9_row_126 : decode cX9_row 126 = .ok (.aload_n 0, 1) := by decide +kernel
theorem dX9_row_127 : decode cX9_row 127 = .ok (.getfield 35, 3) := by decide +kernel
theorem dX9_row_130 : decode cX9_row 130 = .ok (.iload_n 1, 1) := by decide +kernel
theorem dX9_row_131 : decode cX9_row 131 = .ok (.invokevirtual 115, 3) := by decide +kernel
theorem dX9_row_134 : decode cX9_row 134 = .ok (.ireturn, 1) := by decide +kernel
theorem dX9_row_135 : decode cX9_row 135 = .ok (.bipush (-2), 2) := by decide +kernel
theorem dX9_row_137 : decode cX9_row 137 = .ok (.ireturn, 1) := by decide +kernel
set_option maxRecDepth 20000 in
theorem ggX9_seat_X9_noSeat : GoodIn wsX9_seat wsX9_noSeat := goodIn_r _ [9, 10, 11, 12, 13, 8, 14, 15, 16, 17, 18, 19, 20, 21, 22, 23, 24, 25, 26, 27, 28, 29, 30, 31, 32, 33, 34, 35, 36, 37, 38, 39, 40, 41, 42, 43, 44] (by decide +kernel) (by decide +kernel)
set_option maxRecDepth 20000 in
theorem gX9_seat_X9_noSeat : GoodIn wsX9_seat (wsV RX9 173 RX9 yX9_noSeat wsX9_noSeat) := goodIn_app (goodIn_of _ (by decide +kernel)) ggX9_seat_X9_noSeat
theorem dX9_seat_0 : decode cX9_seat 0 = .ok (.aload_n 0, 1) := by decide +kernel
theorem dX9_seat_1 : decode cX9_seat 1 = .ok (.iconst 0, 1) := by decide +kernel
theorem dX9_seat_2 : decode cX9_seat 2 = .ok (.putfield 60, 3) := by decide +kernel
theorem dX9_seat_5 : decode cX9_seat 5 = .ok (.aload_n 0, 1) := by decide +kernel
theorem dX9_seat_6 : decode cX9_seat 6 = .ok (.iload_n 1, 1) := by decide +kernel
theorem dX9_seat_7 : decode cX9_seat 7 = .ok (.iload_n 2, 1) := by decide +kernel
theorem dX9_seat_8 : decode cX9_seat 8 = .ok (.invokevirtual 173, 3) := by decide +kernel
theorem dX9_seat_11 : decode cX9_seat 11 = .ok (.ifCond .eq 5, 3) := by decide +kernel
theorem dX9_seat_14 : decode cX9_seat 14 = .ok (.iconst (-1), 1) := by decide +kernel
theorem dX9_seat_15 : decode cX9_seat 15 = .ok (.ireturn, 1) := by decide +kernel
theorem dX9_seat_16 : decode cX9_seat 16 = .ok (.iload_n 3, 1) := by decide +kernel
theorem dX9_seat_17 : decode cX9_seat 17 = .ok (.tableswitch 74 0 2 #[27, 39, 59], 27) := by decide +kernel
theorem dX9_seat_44 : decode cX9_seat 44 = .ok (.aload_n 0, 1) := by decide +kernel
theorem dX9_seat_45 : decode cX9_seat 45 = .ok (.getfield 16, 3) := by decide +kernel
theorem dX9_seat_48 : decode cX9_seat 48 = .ok (.bipush 9, 2) := by decide +kernel
theorem dX9_seat_50 : decode cX9_seat 50 = .ok (.iload_n 1, 1) := by decide +kernel
theorem dX9_seat_51 : decode cX9_seat 51 = .ok (.imul, 1) := by decide +kernel
theorem dX9_seat_52 : decode cX9_seat 52 = .ok (.iload_n 2, 1) := by decide +kernel
theorem dX9_seat_53 : decode cX9_seat 53 = .ok (.iadd, 1) := by decide +kernel
theorem dX9_seat_54 : decode cX9_seat 54 = .ok (.iaload, 1) := by decide +kernel
theorem dX9_seat_55 : decode cX9_seat 55 = .ok (.ireturn, 1) := by decide +kernel
theorem dX9_seat_56 : decode cX9_seat 56 = .ok (.aload_n 0, 1) := by decide +kernel
theorem dX9_seat_57 : decode cX9_seat 57 = .ok (.getfield 19, 3) := by decide +kernel
theorem dX9_seat_60 : decode cX9_seat 60 = .ok (.bipush 9, 2) := by decide +kernel
theorem dX9_seat_62 : decode cX9_seat 62 = .ok (.iload_n 1, 1) := by decide +kernel
theorem dX9_seat_63 : decode cX9_seat 63 = .ok (.imul, 1) := by decide +kernel
theorem dX9_seat_64 : decode cX9_seat 64 = .ok (.iload_n 2, 1) := by decide +kernel
theorem dX9_seat_65 : decode cX9_seat 65 = .ok (.iadd, 1) := by decide +kernel
theorem dX9_seat_66 : decode cX9_seat 66 = .ok (.baload, 1) := by decide +kernel
theorem dX9_seat_67 : decode cX9_seat 67 = .ok (.ifCond .eq 7, 3) := by decide +kernel
theorem dX9_seat_70 : decode cX9_seat 70 = .ok (.iconst 1, 1) := by decide +kernel
theorem dX9_seat_71 : decode cX9_seat 71 = .ok (.goto 4, 3) := by decide +kernel
theorem dX9_seat_74 : decode cX9_seat 74 = .ok (.iconst 0, 1) := by decide +kernel
theorem dX9_seat_75 : decode cX9_seat 75 = .ok (.ireturn, 1) := by decide +kernel
theorem dX9_seat_76 : decode cX9_seat 76 = .ok (.aload_n 0, 1) := by decide +kernel
theorem dX9_seat_77 : decode cX9_seat 77 = .ok (.getfield 35, 3) := by decide +kernel
theorem dX9_seat_80 : decode cX9_seat 80 = .ok (.bipush 13, 2) := by decide +kernel
theorem dX9_seat_82 : decode cX9_seat 82 = .ok (.bipush 9, 2) := by decide +kernel
theorem dX9_seat_84 : decode cX9_seat 84 = .ok (.iload_n 1, 1) := by decide +kernel
theorem dX9_seat_85 : decode cX9_seat 85 = .ok (.imul, 1) := by decide +kernel
theorem dX9_seat_86 : decode cX9_seat 86 = .ok (.iadd, 1) := by decide +kernel
theorem dX9_seat_87 : decode cX9_seat 87 = .ok (.iload_n 2, 1) := by decide +kernel
theorem dX9_seat_88 : decode cX9_seat 88 = .ok (.iadd, 1) := by decide +kernel
theorem dX9_seat_89 : decode cX9_seat 89 = .ok (.iaload, 1) := by decide +kernel
theorem dX9_seat_90 : decode cX9_seat 90 = .ok (.ireturn, 1) := by decide +kernel
theorem dX9_seat_91 : decode cX9_seat 91 = .ok (.bipush (-2), 2) := by decide +kernel
theorem dX9_seat_93 : decode cX9_seat 93 = .ok (.ireturn, 1) := by decide +kernel
set_option maxRecDepth 20000 in
theorem ggX9_party_X9_noParty : GoodIn wsX9_party wsX9_noParty := goodIn_r _ [8, 3, 9, 10, 7, 11, 15, 16, 17, 18, 19, 20, 21, 22, 23, 24, 25, 26, 27, 28, 29, 30, 31, 32, 33, 34, 35, 36, 37, 38, 39, 40] (by decide +kernel) (by decide +kernel)
set_option maxRecDepth 20000 in
theorem gX9_party_X9_noParty : GoodIn wsX9_party (wsV RX9 176 RX9 yX9_noParty wsX9_noParty) := goodIn_app (goodIn_of _ (by decide +kernel)) ggX9_party_X9_noParty
set_option maxRecDepth 20000 in
theorem ggX9_party_X9_in : GoodIn wsX9_party wsX9_in := goodIn_r _ [11] (by decide +kernel) (by decide +kernel)
set_option maxRecDepth 20000 in
theorem gX9_party_X9_in : GoodIn wsX9_party (va_wsS RX9 66 yX9_in wsX9_in) := goodIn_app (goodIn_of _ (by decide +kernel)) ggX9_party_X9_in
set_option maxRecDepth 20000 in
theorem ggX9_party_X9_at : GoodIn wsX9_party wsX9_at := goodIn_r _ [14] (by decide +kernel) (by decide +kernel)
set_option maxRecDepth 20000 in
theorem gX9_party_X9_at : GoodIn wsX9_party (va_wsS RX9 155 yX9_at wsX9_at) := goodIn_app (goodIn_of _ (by decide +kernel)) ggX9_party_X9_at
theorem dX9_party_0 : decode cX9_party 0 = .ok (.aload_n 0, 1) := by decide +kernel
theorem dX9_party_1 : decode cX9_party 1 = .ok (.iconst 0, 1) := by decide +kernel
theorem dX9_party_2 : decode cX9_party 2 = .ok (.putfield 60, 3) := by decide +kernel
theorem dX9_party_5 : decode cX9_party 5 = .ok (.aload_n 0, 1) := by decide +kernel
theorem dX9_party_6 : decode cX9_party 6 = .ok (.iload_n 1, 1) := by decide +kernel
theorem dX9_party_7 : decode cX9_party 7 = .ok (.invokevirtual 176, 3) := by decide +kernel
theorem dX9_party_10 : decode cX9_party 10 = .ok (.ifCond .eq 5, 3) := by decide +kernel
theorem dX9_party_13 : decode cX9_party 13 = .ok (.iconst (-1), 1) := by decide +kernel
theorem dX9_party_14 : decode cX9_party 14 = .ok (.ireturn, 1) := by decide +kernel
theorem dX9_party_15 : decode cX9_party 15 = .ok (.iload_n 2, 1) := by decide +kernel
theorem dX9_party_16 : decode cX9_party 16 = .ok (.i2l, 1) := by decide +kernel
theorem dX9_party_17 : decode cX9_party 17 = .ok (.lconst 0, 1) := by decide +kernel
theorem dX9_party_18 : decode cX9_party 18 = .ok (.ldc2_w 179, 3) := by decide +kernel
theorem dX9_party_21 : decode cX9_party 21 = .ok (.invokestatic 66, 3) := by decide +kernel
theorem dX9_party_24 : decode cX9_party 24 = .ok (.ifCond .ne 6, 3) := by decide +kernel
theorem dX9_party_27 : decode cX9_party 27 = .ok (.bipush (-2), 2) := by decide +kernel
theorem dX9_party_29 : decode cX9_party 29 = .ok (.ireturn, 1) := by decide +kernel
theorem dX9_party_30 : decode cX9_party 30 = .ok (.aload_n 0, 1) := by decide +kernel
theorem dX9_party_31 : decode cX9_party 31 = .ok (.getfield 35, 3) := by decide +kernel
theorem dX9_party_34 : decode cX9_party 34 = .ok (.iload_n 1, 1) := by decide +kernel
theorem dX9_party_35 : decode cX9_party 35 = .ok (.invokestatic 155, 3) := by decide +kernel
theorem dX9_party_38 : decode cX9_party 38 = .ok (.iconst 2, 1) := by decide +kernel
theorem dX9_party_39 : decode cX9_party 39 = .ok (.iadd, 1) := by decide +kernel
theorem dX9_party_40 : decode cX9_party 40 = .ok (.iaload, 1) := by decide +kernel
theorem dX9_party_41 : decode cX9_party 41 = .ok (.iconst 1, 1) := by decide +kernel
theorem dX9_party_42 : decode cX9_party 42 = .ok (.if_icmp .ne 7, 3) := by decide +kernel
theorem dX9_party_45 : decode cX9_party 45 = .ok (.iconst 1, 1) := by decide +kernel
theorem dX9_party_46 : decode cX9_party 46 = .ok (.goto 4, 3) := by decide +kernel
theorem dX9_party_49 : decode cX9_party 49 = .ok (.iconst 0, 1) := by decide +kernel
theorem dX9_party_50 : decode cX9_party 50 = .ok (.istore_n 3, 1) := by decide +kernel
theorem dX9_party_51 : decode cX9_party 51 = .ok (.iload_n 2, 1) := by decide +kernel
theorem dX9_party_52 : decode cX9_party 52 = .ok (.iconst 3, 1) := by decide +kernel
theorem dX9_party_53 : decode cX9_party 53 = .ok (.if_icmp .eq 8, 3) := by decide +kernel
theorem dX9_party_56 : decode cX9_party 56 = .ok (.iload_n 2, 1) := by decide +kernel
theorem dX9_party_57 : decode cX9_party 57 = .ok (.iconst 4, 1) := by decide +kernel
theorem dX9_party_58 : decode cX9_party 58 = .ok (.if_icmp .ne 12, 3) := by decide +kernel
theorem dX9_party_61 : decode cX9_party 61 = .ok (.iload_n 3, 1) := by decide +kernel
theorem dX9_party_62 : decode cX9_party 62 = .ok (.ifCond .ne 8, 3) := by decide +kernel
theorem dX9_party_65 : decode cX9_party 65 = .ok (.bipush (-9), 2) := by decide +kernel
theorem dX9_party_67 : decode cX9_party 67 = .ok (.goto 14, 3) := by decide +kernel
theorem dX9_party_70 : decode cX9_party 70 = .ok (.aload_n 0, 1) := by decide +kernel
theorem dX9_party_71 : decode cX9_party 71 = .ok (.getfield 35, 3) := by decide +kernel
theorem dX9_party_74 : decode cX9_party 74 = .ok (.iload_n 1, 1) := by decide +kernel
theorem dX9_party_75 : decode cX9_party 75 = .ok (.invokestatic 155, 3) := by decide +kernel
theorem dX9_party_78 : decode cX9_party 78 = .ok (.iload_n 2, 1) := by decide +kernel
theorem dX9_party_79 : decode cX9_party 79 = .ok (.iadd, 1) := by decide +kernel
theorem dX9_party_80 : decode cX9_party 80 = .ok (.iaload, 1) := by decide +kernel
theorem dX9_party_81 : decode cX9_party 81 = .ok (.ireturn, 1) := by decide +kernel
theorem dX9_note_0 : decode cX9_note 0 = .ok (.aload_n 0, 1) := by decide +kernel
theorem dX9_note_1 : decode cX9_note 1 = .ok (.getfield 105, 3) := by decide +kernel
theorem dX9_note_4 : decode cX9_note 4 = .ok (.bipush 14, 2) := by decide +kernel
theorem dX9_note_6 : decode cX9_note 6 = .ok (.if_icmp .ne 44, 3) := by decide +kernel
theorem dX9_note_9 : decode cX9_note 9 = .ok (.iconst 0, 1) := by decide +kernel
theorem dX9_note_10 : decode cX9_note 10 = .ok (.istore_n 1, 1) := by decide +kernel
theorem dX9_note_11 : decode cX9_note 11 = .ok (.iload_n 1, 1) := by decide +kernel
theorem dX9_note_12 : decode cX9_note 12 = .ok (.sipush 2977, 3) := by decide +kernel
theorem dX9_note_15 : decode cX9_note 15 = .ok (.if_icmp .ge 25, 3) := by decide +kernel
theorem dX9_note_18 : decode cX9_note 18 = .ok (.aload_n 0, 1) := by decide +kernel
theorem dX9_note_19 : decode cX9_note 19 = .ok (.getfield 41, 3) := by decide +kernel
theorem dX9_note_22 : decode cX9_note 22 = .ok (.iload_n 1, 1) := by decide +kernel
theorem dX9_note_23 : decode cX9_note 23 = .ok (.aload_n 0, 1) := by decide +kernel
theorem dX9_note_24 : decode cX9_note 24 = .ok (.getfield 41, 3) := by decide +kernel
theorem dX9_note_27 : decode cX9_note 27 = .ok (.iload_n 1, 1) := by decide +kernel
theorem dX9_note_28 : decode cX9_note 28 = .ok (.sipush 229, 3) := by decide +kernel
theorem dX9_note_31 : decode cX9_note 31 = .ok (.iadd, 1) := by decide +kernel
theorem dX9_note_32 : decode cX9_note 32 = .ok (.iaload, 1) := by decide +kernel
theorem dX9_note_33 : decode cX9_note 33 = .ok (.iastore, 1) := by decide +kernel
theorem dX9_note_34 : decode cX9_note 34 = .ok (.iinc 1 1, 3) := by decide +kernel
theorem dX9_note_37 : decode cX9_note 37 = .ok (.goto (-26), 3) := by decide +kernel
theorem dX9_note_40 : decode cX9_note 40 = .ok (.aload_n 0, 1) := by decide +kernel
theorem dX9_note_41 : decode cX9_note 41 = .ok (.dup, 1) := by decide +kernel
theorem dX9_note_42 : decode cX9_note 42 = .ok (.getfield 105, 3) := by decide +kernel
theorem dX9_note_45 : decode cX9_note 45 = .ok (.iconst 1, 1) := by decide +kernel
theorem dX9_note_46 : decode cX9_note 46 = .ok (.isub, 1) := by decide +kernel
theorem dX9_note_47 : decode cX9_note 47 = .ok (.putfield 105, 3) := by decide +kernel
theorem dX9_note_50 : decode cX9_note 50 = .ok (.iconst 0, 1) := by decide +kernel
theorem dX9_note_51 : decode cX9_note 51 = .ok (.istore_n 1, 1) := by decide +kernel
theorem dX9_note_52 : decode cX9_note 52 = .ok (.iload_n 1, 1) := by decide +kernel
theorem dX9_note_53 : decode cX9_note 53 = .ok (.sipush 229, 3) := by decide +kernel
theorem dX9_note_56 : decode cX9_note 56 = .ok (.if_icmp .ge 30, 3) := by decide +kernel
theorem dX9_note_59 : decode cX9_note 59 = .ok (.aload_n 0, 1) := by decide +kernel
theorem dX9_note_60 : decode cX9_note 60 = .ok (.getfield 41, 3) := by decide +kernel
theorem dX9_note_63 : decode cX9_note 63 = .ok (.sipush 229, 3) := by decide +kernel
theorem dX9_note_66 : decode cX9_note 66 = .ok (.aload_n 0, 1) := by decide +kernel
theorem dX9_note_67 : decode cX9_note 67 = .ok (.getfield 105, 3) := by decide +kernel
theorem dX9_note_70 : decode cX9_note 70 = .ok (.imul, 1) := by decide +kernel
theorem dX9_note_71 : decode cX9_note 71 = .ok (.iload_n 1, 1) := by decide +kernel
theorem dX9_note_72 : decode cX9_note 72 = .ok (.iadd, 1) := by decide +kernel
theorem dX9_note_73 : decode cX9_note 73 = .ok (.aload_n 0, 1) := by decide +kernel
theorem dX9_note_74 : decode cX9_note 74 = .ok (.getfield 35, 3) := by decide +kernel
theorem dX9_note_77 : decode cX9_note 77 = .ok (.iload_n 1, 1) := by decide +kernel
theorem dX9_note_78 : decode cX9_note 78 = .ok (.iaload, 1) := by decide +kernel
theorem dX9_note_79 : decode cX9_note 79 = .ok (.iastore, 1) := by decide +kernel
theorem dX9_note_80 : decode cX9_note 80 = .ok (.iinc 1 1, 3) := by decide +kernel
theorem dX9_note_83 : decode cX9_note 83 = .ok (.goto (-31), 3) := by decide +kernel
theorem dX9_note_86 : decode cX9_note 86 = .ok (.aload_n 0, 1) := by decide +kernel
theorem dX9_note_87 : decode cX9_note 87 = .ok (.dup, 1) := by decide +kernel
theorem dX9_note_88 : decode cX9_note 88 = .ok (.getfield 105, 3) := by decide +kernel
theorem dX9_note_91 : decode cX9_note 91 = .ok (.iconst 1, 1) := by decide +kernel
theorem dX9_note_92 : decode cX9_note 92 = .ok (.iadd, 1) := by decide +kernel
theorem dX9_note_93 : decode cX9_note 93 = .ok (.putfield 105, 3) := by decide +kernel
theorem dX9_note_96 : decode cX9_note 96 = .ok (.return_, 1) := by decide +kernel
set_option maxRecDepth 20000 in
theorem ggX9_isAsk_X9_in : GoodIn wsX9_isAsk wsX9_in := goodIn_r _ [6] (by decide +kernel) (by decide +kernel)
set_option maxRecDepth 20000 in
theorem gX9_isAsk_X9_in : GoodIn wsX9_isAsk (va_wsS RX9 66 yX9_in wsX9_in) := goodIn_app (goodIn_of _ (by decide +kernel)) ggX9_isAsk_X9_in
theorem dX9_isAsk_0 : decode cX9_isAsk 0 = .ok (.iload_n 0, 1) := by decide +kernel
theorem dX9_isAsk_1 : decode cX9_isAsk 1 = .ok (.i2l, 1) := by decide +kernel
theorem dX9_isAsk_2 : decode cX9_isAsk 2 = .ok (.lconst 1, 1) := by decide +kernel
theorem dX9_isAsk_3 : decode cX9_isAsk 3 = .ok (.ldc2_w 181, 3) := by decide +kernel
theorem dX9_isAsk_6 : decode cX9_isAsk 6 = .ok (.invokestatic 66, 3) := by decide +kernel
theorem dX9_isAsk_9 : decode cX9_isAsk 9 = .ok (.ifCond .eq 19, 3) := by decide +kernel
theorem dX9_isAsk_12 : decode cX9_isAsk 12 = .ok (.iload_n 1, 1) := by decide +kernel
theorem dX9_isAsk_13 : decode cX9_isAsk 13 = .ok (.i2l, 1) := by decide +kernel
theorem dX9_isAsk_14 : decode cX9_isAsk 14 = .ok (.lconst 1, 1) := by decide +kernel
theorem dX9_isAsk_15 : decode cX9_isAsk 15 = .ok (.ldc2_w 183, 3) := by decide +kernel
theorem dX9_isAsk_18 : decode cX9_isAsk 18 = .ok (.invokestatic 66, 3) := by decide +kernel
theorem dX9_isAsk_21 : decode cX9_isAsk 21 = .ok (.ifCond .eq 7, 3) := by decide +kernel
theorem dX9_isAsk_24 : decode cX9_isAsk 24 = .ok (.iconst 1, 1) := by decide +kernel
theorem dX9_isAsk_25 : decode cX9_isAsk 25 = .ok (.goto 4, 3) := by decide +kernel
theorem dX9_isAsk_28 : decode cX9_isAsk 28 = .ok (.iconst 0, 1) := by decide +kernel
theorem dX9_isAsk_29 : decode cX9_isAsk 29 = .ok (.ireturn, 1) := by decide +kernel
set_option maxRecDepth 20000 in
theorem ggX9_ask_X9_isAsk : GoodIn wsX9_ask wsX9_isAsk := goodIn_r _ [6, 7, 8, 9, 10, 5, 11] (by decide +kernel) (by decide +kernel)
set_option maxRecDepth 20000 in
theorem gX9_ask_X9_isAsk : GoodIn wsX9_ask (va_wsS RX9 185 yX9_isAsk wsX9_isAsk) := goodIn_app (goodIn_of _ (by decide +kernel)) ggX9_ask_X9_isAsk
set_option maxRecDepth 20000 in
theorem ggX9_ask_X9_mayAsk : GoodIn wsX9_ask wsX9_mayAsk := goodIn_r _ [15, 16, 17, 18, 19, 5, 20, 21, 22, 23, 24, 25, 26, 27, 28, 29, 30, 31, 32, 33, 34, 35, 36, 37, 38, 39, 40, 41, 42, 43, 44, 45, 46, 47, 48, 49, 50, 51, 52, 53, 54, 55, 56, 57, 58, 59, 60, 61, 62, 84, 85, 86, 87, 88, 89, 90, 91, 92, 93, 94, 95, 96, 97, 98, 99, 100, 101, 102, 103, 104, 105, 106, 107, 108, 109] (by decide +kernel) (by decide +kernel)
set_option maxRecDepth 20000 in
theorem gX9_ask_X9_mayAsk : GoodIn wsX9_ask (wsV RX9 188 RX9 yX9_mayAsk wsX9_mayAsk) := goodIn_app (goodIn_of _ (by decide +kernel)) ggX9_ask_X9_mayAsk
set_option maxRecDepth 20000 in
theorem ggX9_ask_X9_note : GoodIn wsX9_ask wsX9_note := goodIn_r _ [66, 67, 68, 2, 84, 85, 86, 87, 88, 89, 90, 91, 92, 93, 94, 95, 96, 97, 98, 99, 100, 101, 102, 103, 104, 105, 106, 107, 108, 109] (by decide +kernel) (by decide +kernel)
set_option maxRecDepth 20000 in
theorem gX9_ask_X9_note : GoodIn wsX9_ask (wsV RX9 191 RX9 yX9_note wsX9_note) := goodIn_app (goodIn_of _ (by decide +kernel)) ggX9_ask_X9_note
set_option maxRecDepth 20000 in
theorem ggX9_ask_X9_askOn : GoodIn wsX9_ask wsX9_askOn := goodIn_r _ [72, 16, 17, 18, 19, 5, 20, 21, 22, 23, 24, 25, 26, 27, 28, 29, 30, 31, 32, 33, 34, 35, 36, 37, 38, 39, 40, 41, 42, 43, 44, 45, 46, 47, 48, 49, 50, 51, 52, 53, 54, 55, 56, 57, 58, 59, 60, 61, 62, 73, 74, 75, 76, 77, 78, 79, 80, 81, 82, 83, 84, 85, 86, 87, 88, 89, 90, 91, 92, 93, 94, 95, 96, 97, 98, 99, 100, 101, 102, 103, 104, 105, 106, 107, 108, 109] (by decide +kernel) (by decide +kernel)
set_option maxRecDepth 20000 in
theorem gX9_ask_X9_askOn : GoodIn wsX9_ask (wsV RX9 194 RX9 yX9_askOn wsX9_askOn) := goodIn_app (goodIn_of _ (by decide +kernel)) ggX9_ask_X9_askOn
theorem dX9_ask_0 : decode cX9_ask 0 = .ok (.aload_n 0, 1) := by decide +kernel
theorem dX9_ask_1 : decode cX9_ask 1 = .ok (.iconst 0, 1) := by decide +kernel
theorem dX9_ask_2 : decode cX9_ask 2 = .ok (.putfield 60, 3) := by decide +kernel
theorem dX9_ask_5 : decode cX9_ask 5 = .ok (.iload_n 1, 1) := by decide +kernel
theorem dX9_ask_6 : decode cX9_ask 6 = .ok (.iload_n 2, 1) := by decide +kernel
theorem dX9_ask_7 : decode cX9_ask 7 = .ok (.invokestatic 185, 3) := by decide +kernel
theorem dX9_ask_10 : decode cX9_ask 10 = .ok (.ifCond .ne 6, 3) := by decide +kernel
theorem dX9_ask_13 : decode cX9_ask 13 = .ok (.bipush (-2), 2) := by decide +kernel
theorem dX9_ask_15 : decode cX9_ask 15 = .ok (.ireturn, 1) := by decide +kernel
theorem dX9_ask_16 : decode cX9_ask 16 = .ok (.aload_n 0, 1) := by decide +kernel
theorem dX9_ask_17 : decode cX9_ask 17 = .ok (.aload_n 0, 1) := by decide +kernel
theorem dX9_ask_18 : decode cX9_ask 18 = .ok (.getfield 35, 3) := by decide +kernel
theorem dX9_ask_21 : decode cX9_ask 21 = .ok (.iload_n 1, 1) := by decide +kernel
theorem dX9_ask_22 : decode cX9_ask 22 = .ok (.iload_n 2, 1) := by decide +kernel
theorem dX9_ask_23 : decode cX9_ask 23 = .ok (.invokevirtual 188, 3) := by decide +kernel
theorem dX9_ask_26 : decode cX9_ask 26 = .ok (.ifCond .ne 6, 3) := by decide +kernel
theorem dX9_ask_29 : decode cX9_ask 29 = .ok (.bipush (-4), 2) := by decide +kernel
theorem dX9_ask_31 : decode cX9_ask 31 = .ok (.ireturn, 1) := by decide +kernel
theorem dX9_ask_32 : decode cX9_ask 32 = .ok (.aload_n 0, 1) := by decide +kernel
theorem dX9_ask_33 : decode cX9_ask 33 = .ok (.invokevirtual 191, 3) := by decide +kernel
theorem dX9_ask_36 : decode cX9_ask 36 = .ok (.aload_n 0, 1) := by decide +kernel
theorem dX9_ask_37 : decode cX9_ask 37 = .ok (.aload_n 0, 1) := by decide +kernel
theorem dX9_ask_38 : decode cX9_ask 38 = .ok (.getfield 35, 3) := by decide +kernel
theorem dX9_ask_41 : decode cX9_ask 41 = .ok (.iload_n 1, 1) := by decide +kernel
theorem dX9_ask_42 : decode cX9_ask 42 = .ok (.iload_n 2, 1) := by decide +kernel
theorem dX9_ask_43 : decode cX9_ask 43 = .ok (.invokevirtual 194, 3) := by decide +kernel
theorem dX9_ask_46 : decode cX9_ask 46 = .ok (.aload_n 0, 1) := by decide +kernel
theorem dX9_ask_47 : decode cX9_ask 47 = .ok (.getfield 35, 3) := by decide +kernel
theorem dX9_ask_50 : decode cX9_ask 50 = .ok (.bipush 6, 2) := by decide +kernel
theorem dX9_ask_52 : decode cX9_ask 52 = .ok (.iaload, 1) := by decide +kernel
theorem dX9_ask_53 : decode cX9_ask 53 = .ok (.ireturn, 1) := by decide +kernel
set_option maxRecDepth 20000 in
theorem ggX9_giveBack_X9_noParty : GoodIn wsX9_giveBack wsX9_noParty := goodIn_r _ [7, 2, 8, 9, 6, 10, 83, 84, 85, 86, 87, 88, 89, 90, 91, 92, 93, 94, 95, 96, 97, 98, 99, 100, 101, 102, 103, 104, 105, 106, 107, 108] (by decide +kernel) (by decide +kernel)
set_option maxRecDepth 20000 in
theorem gX9_giveBack_X9_noParty : GoodIn wsX9_giveBack (wsV RX9 176 RX9 yX9_noParty wsX9_noParty) := goodIn_app (goodIn_of _ (by decide +kernel)) ggX9_giveBack_X9_noParty
set_option maxRecDepth 20000 in
theorem ggX9_giveBack_X9_at : GoodIn wsX9_giveBack wsX9_at := goodIn_r _ [13] (by decide +kernel) (by decide +kernel)
set_option maxRecDepth 20000 in
theorem gX9_giveBack_X9_at : GoodIn wsX9_giveBack (va_wsS RX9 155 yX9_at wsX9_at) := goodIn_app (goodIn_of _ (by decide +kernel)) ggX9_giveBack_X9_at
set_option maxRecDepth 20000 in
theorem ggX9_giveBack_X9_note : GoodIn wsX9_giveBack wsX9_note := goodIn_r _ [17, 18, 19, 2, 83, 84, 85, 86, 87, 88, 89, 90, 91, 92, 93, 94, 95, 96, 97, 98, 99, 100, 101, 102, 103, 104, 105, 106, 107, 108] (by decide +kernel) (by decide +kernel)
set_option maxRecDepth 20000 in
theorem gX9_giveBack_X9_note : GoodIn wsX9_giveBack (wsV RX9 191 RX9 yX9_note wsX9_note) := goodIn_app (goodIn_of _ (by decide +kernel)) ggX9_giveBack_X9_note
set_option maxRecDepth 20000 in
theorem ggX9_giveBack_X9_returnOn : GoodIn wsX9_giveBack wsX9_returnOn := goodIn_r _ [23, 11, 12, 6, 13, 24, 25, 26, 27, 28, 29, 30, 31, 32, 33, 34, 35, 36, 37, 38, 39, 40, 41, 42, 43, 44, 45, 46, 47, 48, 49, 50, 51, 52, 53, 54, 55, 56, 57, 58, 59, 60, 61, 62, 63, 64, 65, 66, 67, 68, 69, 70, 71, 72, 73, 74, 75, 76, 77, 78, 79, 80, 81, 82, 83, 84, 85, 86, 87, 88, 89, 90, 91, 92, 93, 94, 95, 96, 97, 98, 99, 100, 101, 102, 103, 104, 105, 106, 107, 108] (by decide +kernel) (by decide +kernel)
set_option maxRecDepth 20000 in
theorem gX9_giveBack_X9_returnOn : GoodIn wsX9_giveBack (wsV RX9 197 RX9 yX9_returnOn wsX9_returnOn) := goodIn_app (goodIn_of _ (by decide +kernel)) ggX9_giveBack_X9_returnOn
theorem dX9_giveBack_0 : decode cX9_giveBack 0 = .ok (.aload_n 0, 1) := by decide +kernel
theorem dX9_giveBack_1 : decode cX9_giveBack 1 = .ok (.iconst 0, 1) := by decide +kernel
theorem dX9_giveBack_2 : decode cX9_giveBack 2 = .ok (.putfield 60, 3) := by decide +kernel
theorem dX9_giveBack_5 : decode cX9_giveBack 5 = .ok (.aload_n 0, 1) := by decide +kernel
theorem dX9_giveBack_6 : decode cX9_giveBack 6 = .ok (.iload_n 1, 1) := by decide +kernel
theorem dX9_giveBack_7 : decode cX9_giveBack 7 = .ok (.invokevirtual 176, 3) := by decide +kernel
theorem dX9_giveBack_10 : decode cX9_giveBack 10 = .ok (.ifCond .eq 5, 3) := by decide +kernel
theorem dX9_giveBack_13 : decode cX9_giveBack 13 = .ok (.iconst (-1), 1) := by decide +kernel
theorem dX9_giveBack_14 : decode cX9_giveBack 14 = .ok (.ireturn, 1) := by decide +kernel
theorem dX9_giveBack_15 : decode cX9_giveBack 15 = .ok (.aload_n 0, 1) := by decide +kernel
theorem dX9_giveBack_16 : decode cX9_giveBack 16 = .ok (.getfield 35, 3) := by decide +kernel
theorem dX9_giveBack_19 : decode cX9_giveBack 19 = .ok (.iload_n 1, 1) := by decide +kernel
theorem dX9_giveBack_20 : decode cX9_giveBack 20 = .ok (.invokestatic 155, 3) := by decide +kernel
theorem dX9_giveBack_23 : decode cX9_giveBack 23 = .ok (.iconst 2, 1) := by decide +kernel
theorem dX9_giveBack_24 : decode cX9_giveBack 24 = .ok (.iadd, 1) := by decide +kernel
theorem dX9_giveBack_25 : decode cX9_giveBack 25 = .ok (.iaload, 1) := by decide +kernel
theorem dX9_giveBack_26 : decode cX9_giveBack 26 = .ok (.iconst 1, 1) := by decide +kernel
theorem dX9_giveBack_27 : decode cX9_giveBack 27 = .ok (.if_icmp .eq 6, 3) := by decide +kernel
theorem dX9_giveBack_30 : decode cX9_giveBack 30 = .ok (.bipush (-3), 2) := by decide +kernel
theorem dX9_giveBack_32 : decode cX9_giveBack 32 = .ok (.ireturn, 1) := by decide +kernel
theorem dX9_giveBack_33 : decode cX9_giveBack 33 = .ok (.aload_n 0, 1) := by decide +kernel
theorem dX9_giveBack_34 : decode cX9_giveBack 34 = .ok (.invokevirtual 191, 3) := by decide +kernel
theorem dX9_giveBack_37 : decode cX9_giveBack 37 = .ok (.aload_n 0, 1) := by decide +kernel
theorem dX9_giveBack_38 : decode cX9_giveBack 38 = .ok (.aload_n 0, 1) := by decide +kernel
theorem dX9_giveBack_39 : decode cX9_giveBack 39 = .ok (.getfield 35, 3) := by decide +kernel
theorem dX9_giveBack_42 : decode cX9_giveBack 42 = .ok (.iload_n 1, 1) := by decide +kernel
theorem dX9_giveBack_43 : decode cX9_giveBack 43 = .ok (.invokevirtual 197, 3) := by decide +kernel
theorem dX9_giveBack_46 : decode cX9_giveBack 46 = .ok (.ireturn, 1) := by decide +kernel
set_option maxRecDepth 20000 in
theorem ggX9_leave_X9_noParty : GoodIn wsX9_leave wsX9_noParty := goodIn_r _ [7, 2, 8, 9, 6, 10, 20, 21, 22, 23, 24, 25, 26, 27, 28, 29, 30, 31, 32, 33, 34, 35, 36, 37, 38, 39, 40, 41, 42, 43, 44, 45] (by decide +kernel) (by decide +kernel)
set_option maxRecDepth 20000 in
theorem gX9_leave_X9_noParty : GoodIn wsX9_leave (wsV RX9 176 RX9 yX9_noParty wsX9_noParty) := goodIn_app (goodIn_of _ (by decide +kernel)) ggX9_leave_X9_noParty
set_option maxRecDepth 20000 in
theorem ggX9_leave_X9_at : GoodIn wsX9_leave wsX9_at := goodIn_r _ [13] (by decide +kernel) (by decide +kernel)
set_option maxRecDepth 20000 in
theorem gX9_leave_X9_at : GoodIn wsX9_leave (va_wsS RX9 155 yX9_at wsX9_at) := goodIn_app (goodIn_of _ (by decide +kernel)) ggX9_leave_X9_at
set_option maxRecDepth 20000 in
theorem ggX9_leave_X9_note : GoodIn wsX9_leave wsX9_note := goodIn_r _ [17, 18, 19, 2, 20, 21, 22, 23, 24, 25, 26, 27, 28, 29, 30, 31, 32, 33, 34, 35, 36, 37, 38, 39, 40, 41, 42, 43, 44, 45] (by decide +kernel) (by decide +kernel)
set_option maxRecDepth 20000 in
theorem gX9_leave_X9_note : GoodIn wsX9_leave (wsV RX9 191 RX9 yX9_note wsX9_note) := goodIn_app (goodIn_of _ (by decide +kernel)) ggX9_leave_X9_note
theorem dX9_leave_0 : decode cX9_leave 0 = .ok (.aload_n 0, 1) := by decide +kernel
theorem dX9_leave_1 : decode cX9_leave 1 = .ok (.iconst 0, 1) := by decide +kernel
theorem dX9_leave_2 : decode cX9_leave 2 = .ok (.putfield 60, 3) := by decide +kernel
theorem dX9_leave_5 : decode cX9_leave 5 = .ok (.aload_n 0, 1) := by decide +kernel
theorem dX9_leave_6 : decode cX9_leave 6 = .ok (.iload_n 1, 1) := by decide +kernel
theorem dX9_leave_7 : decode cX9_leave 7 = .ok (.invokevirtual 176, 3) := by decide +kernel
theorem dX9_leave_10 : decode cX9_leave 10 = .ok (.ifCond .eq 5, 3) := by decide +kernel
theorem dX9_leave_13 : decode cX9_leave 13 = .ok (.iconst (-1), 1) := by decide +kernel
theorem dX9_leave_14 : decode cX9_leave 14 = .ok (.ireturn, 1) := by decide +kernel
theorem dX9_leave_15 : decode cX9_leave 15 = .ok (.aload_n 0, 1) := by decide +kernel
theorem dX9_leave_16 : decode cX9_leave 16 = .ok (.getfield 35, 3) := by decide +kernel
theorem dX9_leave_19 : decode cX9_leave 19 = .ok (.iload_n 1, 1) := by decide +kernel
theorem dX9_leave_20 : decode cX9_leave 20 = .ok (.invokestatic 155, 3) := by decide +kernel
theorem dX9_leave_23 : decode cX9_leave 23 = .ok (.iconst 2, 1) := by decide +kernel
theorem dX9_leave_24 : decode cX9_leave 24 = .ok (.iadd, 1) := by decide +kernel
theorem dX9_leave_25 : decode cX9_leave 25 = .ok (.iaload, 1) := by decide +kernel
theorem dX9_leave_26 : decode cX9_leave 26 = .ok (.iconst 2, 1) := by decide +kernel
theorem dX9_leave_27 : decode cX9_leave 27 = .ok (.if_icmp .eq 6, 3) := by decide +kernel
theorem dX9_leave_30 : decode cX9_leave 30 = .ok (.bipush (-3), 2) := by decide +kernel
theorem dX9_leave_32 : decode cX9_leave 32 = .ok (.ireturn, 1) := by decide +kernel
theorem dX9_leave_33 : decode cX9_leave 33 = .ok (.aload_n 0, 1) := by decide +kernel
theorem dX9_leave_34 : decode cX9_leave 34 = .ok (.invokevirtual 191, 3) := by decide +kernel
theorem dX9_leave_37 : decode cX9_leave 37 = .ok (.aload_n 0, 1) := by decide +kernel
theorem dX9_leave_38 : decode cX9_leave 38 = .ok (.getfield 35, 3) := by decide +kernel
theorem dX9_leave_41 : decode cX9_leave 41 = .ok (.iload_n 1, 1) := by decide +kernel
theorem dX9_leave_42 : decode cX9_leave 42 = .ok (.invokestatic 155, 3) := by decide +kernel
theorem dX9_leave_45 : decode cX9_leave 45 = .ok (.iconst 2, 1) := by decide +kernel
theorem dX9_leave_46 : decode cX9_leave 46 = .ok (.iadd, 1) := by decide +kernel
theorem dX9_leave_47 : decode cX9_leave 47 = .ok (.iconst 0, 1) := by decide +kernel
theorem dX9_leave_48 : decode cX9_leave 48 = .ok (.iastore, 1) := by decide +kernel
theorem dX9_leave_49 : decode cX9_leave 49 = .ok (.aload_n 0, 1) := by decide +kernel
theorem dX9_leave_50 : decode cX9_leave 50 = .ok (.getfield 35, 3) := by decide +kernel
theorem dX9_leave_53 : decode cX9_leave 53 = .ok (.bipush 7, 2) := by decide +kernel
theorem dX9_leave_55 : decode cX9_leave 55 = .ok (.iaload, 1) := by decide +kernel
theorem dX9_leave_56 : decode cX9_leave 56 = .ok (.istore_n 2, 1) := by decide +kernel
theorem dX9_leave_57 : decode cX9_leave 57 = .ok (.aload_n 0, 1) := by decide +kernel
theorem dX9_leave_58 : decode cX9_leave 58 = .ok (.getfield 35, 3) := by decide +kernel
theorem dX9_leave_61 : decode cX9_leave 61 = .ok (.bipush 7, 2) := by decide +kernel
theorem dX9_leave_63 : decode cX9_leave 63 = .ok (.iconst 0, 1) := by decide +kernel
theorem dX9_leave_64 : decode cX9_leave 64 = .ok (.iastore, 1) := by decide +kernel
theorem dX9_leave_65 : decode cX9_leave 65 = .ok (.iconst 0, 1) := by decide +kernel
theorem dX9_leave_66 : decode cX9_leave 66 = .ok (.istore_n 3, 1) := by decide +kernel
theorem dX9_leave_67 : decode cX9_leave 67 = .ok (.iload_n 3, 1) := by decide +kernel
theorem dX9_leave_68 : decode cX9_leave 68 = .ok (.iload_n 2, 1) := by decide +kernel
theorem dX9_leave_69 : decode cX9_leave 69 = .ok (.if_icmp .ge 54, 3) := by decide +kernel
theorem dX9_leave_72 : decode cX9_leave 72 = .ok (.aload_n 0, 1) := by decide +kernel
theorem dX9_leave_73 : decode cX9_leave 73 = .ok (.getfield 35, 3) := by decide +kernel
theorem dX9_leave_76 : decode cX9_leave 76 = .ok (.bipush 8, 2) := by decide +kernel
theorem dX9_leave_78 : decode cX9_leave 78 = .ok (.iload_n 3, 1) := by decide +kernel
theorem dX9_leave_79 : decode cX9_leave 79 = .ok (.iadd, 1) := by decide +kernel
theorem dX9_leave_80 : decode cX9_leave 80 = .ok (.iaload, 1) := by decide +kernel
theorem dX9_leave_81 : decode cX9_leave 81 = .ok (.istore 4, 2) := by decide +kernel
theorem dX9_leave_83 : decode cX9_leave 83 = .ok (.iload 4, 2) := by decide +kernel
theorem dX9_leave_85 : decode cX9_leave 85 = .ok (.iload_n 1, 1) := by decide +kernel
theorem dX9_leave_86 : decode cX9_leave 86 = .ok (.if_icmp .eq 31, 3) := by decide +kernel
theorem dX9_leave_89 : decode cX9_leave 89 = .ok (.aload_n 0, 1) := by decide +kernel
theorem dX9_leave_90 : decode cX9_leave 90 = .ok (.getfield 35, 3) := by decide +kernel
theorem dX9_leave_93 : decode cX9_leave 93 = .ok (.bipush 8, 2) := by decide +kernel
theorem dX9_leave_95 : decode cX9_leave 95 = .ok (.aload_n 0, 1) := by decide +kernel
theorem dX9_leave_96 : decode cX9_leave 96 = .ok (.getfield 35, 3) := by decide +kernel
theorem dX9_leave_99 : decode cX9_leave 99 = .ok (.bipush 7, 2) := by decide +kernel
theorem dX9_leave_101 : decode cX9_leave 101 = .ok (.iaload, 1) := by decide +kernel
theorem dX9_leave_102 : decode cX9_leave 102 = .ok (.iadd, 1) := by decide +kernel
theorem dX9_leave_103 : decode cX9_leave 103 = .ok (.iload 4, 2) := by decide +kernel
theorem dX9_leave_105 : decode cX9_leave 105 = .ok (.iastore, 1) := by decide +kernel
theorem dX9_leave_106 : decode cX9_leave 106 = .ok (.aload_n 0, 1) := by decide +kernel
theorem dX9_leave_107 : decode cX9_leave 107 = .ok (.getfield 35, 3) := by decide +kernel
theorem dX9_leave_110 : decode cX9_leave 110 = .ok (.bipush 7, 2) := by decide +kernel
theorem dX9_leave_112 : decode cX9_leave 112 = .ok (.dup2, 1) := by decide +kernel
theorem dX9_leave_113 : decode cX9_leave 113 = .ok (.iaload, 1) := by decide +kernel
theorem dX9_leave_114 : decode cX9_leave 114 = .ok (.iconst 1, 1) := by decide +kernel
theorem dX9_leave_115 : decode cX9_leave 115 = .ok (.iadd, 1) := by decide +kernel
theorem dX9_leave_116 : decode cX9_leave 116 = .ok (.iastore, 1) := by decide +kernel
theorem dX9_leave_117 : decode cX9_leave 117 = .ok (.iinc 3 1, 3) := by decide +kernel
theorem dX9_leave_120 : decode cX9_leave 120 = .ok (.goto (-53), 3) := by decide +kernel
theorem dX9_leave_123 : decode cX9_leave 123 = .ok (.aload_n 0, 1) := by decide +kernel
theorem dX9_leave_124 : decode cX9_leave 124 = .ok (.getfield 35, 3) := by decide +kernel
theorem dX9_leave_127 : decode cX9_leave 127 = .ok (.bipush 7, 2) := by decide +kernel
theorem dX9_leave_129 : decode cX9_leave 129 = .ok (.iaload, 1) := by decide +kernel
theorem dX9_leave_130 : decode cX9_leave 130 = .ok (.ireturn, 1) := by decide +kernel
set_option maxRecDepth 20000 in
theorem ggX9_shift_X9_noParty : GoodIn wsX9_shift wsX9_noParty := goodIn_r _ [10, 2, 11, 12, 9, 13, 83, 84, 85, 86, 87, 88, 89, 90, 91, 92, 93, 94, 95, 96, 97, 98, 99, 100, 101, 102, 103, 104, 105, 106, 107, 108] (by decide +kernel) (by decide +kernel)
set_option maxRecDepth 20000 in
theorem gX9_shift_X9_noParty : GoodIn wsX9_shift (wsV RX9 176 RX9 yX9_noParty wsX9_noParty) := goodIn_app (goodIn_of _ (by decide +kernel)) ggX9_shift_X9_noParty
set_option maxRecDepth 20000 in
theorem ggX9_shift_X9_at : GoodIn wsX9_shift wsX9_at := goodIn_r _ [16] (by decide +kernel) (by decide +kernel)
set_option maxRecDepth 20000 in
theorem gX9_shift_X9_at : GoodIn wsX9_shift (va_wsS RX9 155 yX9_at wsX9_at) := goodIn_app (goodIn_of _ (by decide +kernel)) ggX9_shift_X9_at
set_option maxRecDepth 20000 in
theorem ggX9_shift_X9_viewsOf : GoodIn wsX9_shift wsX9_viewsOf := goodIn_r _ [20, 21, 83, 84, 85, 86, 87, 88, 89, 90, 91, 92, 93, 94, 95, 96, 97, 98, 99, 100, 101, 102, 103, 104, 105, 106, 107, 108] (by decide +kernel) (by decide +kernel)
set_option maxRecDepth 20000 in
theorem gX9_shift_X9_viewsOf : GoodIn wsX9_shift (wsV RX9 148 RX9 yX9_viewsOf wsX9_viewsOf) := goodIn_app (goodIn_of _ (by decide +kernel)) ggX9_shift_X9_viewsOf
set_option maxRecDepth 20000 in
theorem ggX9_shift_X9_copy : GoodIn wsX9_shift wsX9_copy := goodIn_r _ [24] (by decide +kernel) (by decide +kernel)
set_option maxRecDepth 20000 in
theorem gX9_shift_X9_copy : GoodIn wsX9_shift (va_wsS RX9 101 yX9_copy wsX9_copy) := goodIn_app (goodIn_of _ (by decide +kernel)) ggX9_shift_X9_copy
set_option maxRecDepth 20000 in
theorem ggX9_shift_X9_lay : GoodIn wsX9_shift wsX9_lay := goodIn_r _ [27] (by decide +kernel) (by decide +kernel)
set_option maxRecDepth 20000 in
theorem gX9_shift_X9_lay : GoodIn wsX9_shift (va_wsS RX9 126 yX9_lay wsX9_lay) := goodIn_app (goodIn_of _ (by decide +kernel)) ggX9_shift_X9_lay
set_option maxRecDepth 20000 in
theorem ggX9_shift_X9_allLone : GoodIn wsX9_shift wsX9_allLone := goodIn_r _ [31, 32, 33, 34, 35, 9, 36, 37, 38, 39, 40, 41, 42, 43, 44, 45, 46, 47, 48, 83, 84, 85, 86, 87, 88, 89, 90, 91, 92, 93, 94, 95, 96, 97, 98, 99, 100, 101, 102, 103, 104, 105, 106, 107, 108] (by decide +kernel) (by decide +kernel)
set_option maxRecDepth 20000 in
theorem gX9_shift_X9_allLone : GoodIn wsX9_shift (wsV RX9 130 RX9 yX9_allLone wsX9_allLone) := goodIn_app (goodIn_of _ (by decide +kernel)) ggX9_shift_X9_allLone
set_option maxRecDepth 20000 in
theorem ggX9_shift_X9_findPlace : GoodIn wsX9_shift wsX9_findPlace := goodIn_r _ [52, 53, 5, 4, 32, 37, 54, 55, 9, 56, 57, 58, 59, 60, 42, 43, 44, 45, 25, 26, 27, 28, 29, 30, 31, 33, 34, 35, 36, 38, 39, 40, 41, 46, 47, 48, 17, 18, 19, 20, 21, 83, 84, 85, 86, 87, 88, 89, 90, 91, 92, 93, 94, 95, 96, 97, 98, 99, 100, 101, 102, 103, 104, 105, 106, 107, 108] (by decide +kernel) (by decide +kernel)
set_option maxRecDepth 20000 in
theorem gX9_shift_X9_findPlace : GoodIn wsX9_shift (wsV RX9 152 RX9 yX9_findPlace wsX9_findPlace) := goodIn_app (goodIn_of _ (by decide +kernel)) ggX9_shift_X9_findPlace
set_option maxRecDepth 20000 in
theorem ggX9_shift_X9_note : GoodIn wsX9_shift wsX9_note := goodIn_r _ [64, 65, 66, 2, 83, 84, 85, 86, 87, 88, 89, 90, 91, 92, 93, 94, 95, 96, 97, 98, 99, 100, 101, 102, 103, 104, 105, 106, 107, 108] (by decide +kernel) (by decide +kernel)
set_option maxRecDepth 20000 in
theorem gX9_shift_X9_note : GoodIn wsX9_shift (wsV RX9 191 RX9 yX9_note wsX9_note) := goodIn_app (goodIn_of _ (by decide +kernel)) ggX9_shift_X9_note
set_option maxRecDepth 20000 in
theorem ggX9_shift_X9_seatOn : GoodIn wsX9_shift wsX9_seatOn := goodIn_r _ [70, 53, 14, 15, 9, 16, 25, 26, 27, 83, 84, 85, 86, 87, 88, 89, 90, 91, 92, 93, 94, 95, 96, 97, 98, 99, 100, 101, 102, 103, 104, 105, 106, 107, 108] (by decide +kernel) (by decide +kernel)
