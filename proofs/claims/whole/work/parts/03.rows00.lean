theorem dX0_init_0 : decode cX0_init 0 = .ok (.aload_n 0, 1) := by decide +kernel
theorem dX0_init_1 : decode cX0_init 1 = .ok (.invokespecial 3, 3) := by decide +kernel
theorem dX0_init_4 : decode cX0_init 4 = .ok (.aload_n 0, 1) := by decide +kernel
theorem dX0_init_5 : decode cX0_init 5 = .ok (.iconst 4, 1) := by decide +kernel
theorem dX0_init_6 : decode cX0_init 6 = .ok (.newarray .int, 2) := by decide +kernel
theorem dX0_init_8 : decode cX0_init 8 = .ok (.putfield 9, 3) := by decide +kernel
theorem dX0_init_11 : decode cX0_init 11 = .ok (.aload_n 0, 1) := by decide +kernel
theorem dX0_init_12 : decode cX0_init 12 = .ok (.iconst 4, 1) := by decide +kernel
theorem dX0_init_13 : decode cX0_init 13 = .ok (.newarray .int, 2) := by decide +kernel
theorem dX0_init_15 : decode cX0_init 15 = .ok (.putfield 15, 3) := by decide +kernel
theorem dX0_init_18 : decode cX0_init 18 = .ok (.aload_n 0, 1) := by decide +kernel
theorem dX0_init_19 : decode cX0_init 19 = .ok (.bipush 31, 2) := by decide +kernel
theorem dX0_init_21 : decode cX0_init 21 = .ok (.newarray .int, 2) := by decide +kernel
theorem dX0_init_23 : decode cX0_init 23 = .ok (.putfield 18, 3) := by decide +kernel
theorem dX0_init_26 : decode cX0_init 26 = .ok (.aload_n 0, 1) := by decide +kernel
theorem dX0_init_27 : decode cX0_init 27 = .ok (.bipush 31, 2) := by decide +kernel
theorem dX0_init_29 : decode cX0_init 29 = .ok (.newarray .int, 2) := by decide +kernel
theorem dX0_init_31 : decode cX0_init 31 = .ok (.putfield 21, 3) := by decide +kernel
theorem dX0_init_34 : decode cX0_init 34 = .ok (.aload_n 0, 1) := by decide +kernel
theorem dX0_init_35 : decode cX0_init 35 = .ok (.bipush 31, 2) := by decide +kernel
theorem dX0_init_37 : decode cX0_init 37 = .ok (.newarray .int, 2) := by decide +kernel
theorem dX0_init_39 : decode cX0_init 39 = .ok (.putfield 24, 3) := by decide +kernel
theorem dX0_init_42 : decode cX0_init 42 = .ok (.aload_n 0, 1) := by decide +kernel
theorem dX0_init_43 : decode cX0_init 43 = .ok (.bipush 31, 2) := by decide +kernel
theorem dX0_init_45 : decode cX0_init 45 = .ok (.newarray .int, 2) := by decide +kernel
theorem dX0_init_47 : decode cX0_init 47 = .ok (.putfield 27, 3) := by decide +kernel
theorem dX0_init_50 : decode cX0_init 50 = .ok (.aload_n 0, 1) := by decide +kernel
theorem dX0_init_51 : decode cX0_init 51 = .ok (.iconst 5, 1) := by decide +kernel
theorem dX0_init_52 : decode cX0_init 52 = .ok (.newarray .int, 2) := by decide +kernel
theorem dX0_init_54 : decode cX0_init 54 = .ok (.putfield 30, 3) := by decide +kernel
theorem dX0_init_57 : decode cX0_init 57 = .ok (.return_, 1) := by decide +kernel
set_option maxRecDepth 20000 in
theorem ggX0_open_X4_firstPrice : GoodIn wsX0_open wsX4_firstPrice := goodIn_r _ [11, 12, 13, 14, 15, 10, 16, 17, 37, 38, 39, 40, 41, 42] (by decide +kernel) (by decide +kernel)
set_option maxRecDepth 20000 in
theorem gX0_open_X4_firstPrice : GoodIn wsX0_open (wsV RX0 33 RX4 yX4_firstPrice wsX4_firstPrice) := goodIn_app (goodIn_of _ (by decide +kernel)) ggX0_open_X4_firstPrice
set_option maxRecDepth 20000 in
theorem ggX0_open_X4_seatsIn : GoodIn wsX0_open wsX4_seatsIn := goodIn_r _ [21, 22, 13, 14, 15, 10, 16, 17, 37, 38, 39, 40, 41, 42] (by decide +kernel) (by decide +kernel)
set_option maxRecDepth 20000 in
theorem gX0_open_X4_seatsIn : GoodIn wsX0_open (wsV RX0 39 RX4 yX4_seatsIn wsX4_seatsIn) := goodIn_app (goodIn_of _ (by decide +kernel)) ggX0_open_X4_seatsIn
set_option maxRecDepth 20000 in
theorem ggX0_open_X8_span : GoodIn wsX0_open wsX8_span := goodIn_r _ [25] (by decide +kernel) (by decide +kernel)
set_option maxRecDepth 20000 in
theorem gX0_open_X8_span_n42 : GoodIn wsX0_open (wsX8_span) := ggX0_open_X8_span
theorem dX0_open_0 : decode cX0_open 0 = .ok (.iconst 0, 1) := by decide +kernel
theorem dX0_open_1 : decode cX0_open 1 = .ok (.istore_n 2, 1) := by decide +kernel
theorem dX0_open_2 : decode cX0_open 2 = .ok (.iload_n 2, 1) := by decide +kernel
theorem dX0_open_3 : decode cX0_open 3 = .ok (.iconst 4, 1) := by decide +kernel
theorem dX0_open_4 : decode cX0_open 4 = .ok (.if_icmp .ge 35, 3) := by decide +kernel
theorem dX0_open_7 : decode cX0_open 7 = .ok (.aload_n 0, 1) := by decide +kernel
theorem dX0_open_8 : decode cX0_open 8 = .ok (.getfield 9, 3) := by decide +kernel
theorem dX0_open_11 : decode cX0_open 11 = .ok (.iload_n 2, 1) := by decide +kernel
theorem dX0_open_12 : decode cX0_open 12 = .ok (.aload_n 1, 1) := by decide +kernel
theorem dX0_open_13 : decode cX0_open 13 = .ok (.iload_n 2, 1) := by decide +kernel
theorem dX0_open_14 : decode cX0_open 14 = .ok (.invokevirtual 33, 3) := by decide +kernel
theorem dX0_open_17 : decode cX0_open 17 = .ok (.iastore, 1) := by decide +kernel
theorem dX0_open_18 : decode cX0_open 18 = .ok (.aload_n 0, 1) := by decide +kernel
theorem dX0_open_19 : decode cX0_open 19 = .ok (.getfield 15, 3) := by decide +kernel
theorem dX0_open_22 : decode cX0_open 22 = .ok (.iload_n 2, 1) := by decide +kernel
theorem dX0_open_23 : decode cX0_open 23 = .ok (.iconst 0, 1) := by decide +kernel
theorem dX0_open_24 : decode cX0_open 24 = .ok (.aload_n 1, 1) := by decide +kernel
theorem dX0_open_25 : decode cX0_open 25 = .ok (.iload_n 2, 1) := by decide +kernel
theorem dX0_open_26 : decode cX0_open 26 = .ok (.invokevirtual 39, 3) := by decide +kernel
theorem dX0_open_29 : decode cX0_open 29 = .ok (.invokestatic 42, 3) := by decide +kernel
theorem dX0_open_32 : decode cX0_open 32 = .ok (.iastore, 1) := by decide +kernel
theorem dX0_open_33 : decode cX0_open 33 = .ok (.iinc 2 1, 3) := by decide +kernel
theorem dX0_open_36 : decode cX0_open 36 = .ok (.goto (-34), 3) := by decide +kernel
theorem dX0_open_39 : decode cX0_open 39 = .ok (.aload_n 0, 1) := by decide +kernel
theorem dX0_open_40 : decode cX0_open 40 = .ok (.iconst 0, 1) := by decide +kernel
theorem dX0_open_41 : decode cX0_open 41 = .ok (.putfield 46, 3) := by decide +kernel
theorem dX0_open_44 : decode cX0_open 44 = .ok (.aload_n 0, 1) := by decide +kernel
theorem dX0_open_45 : decode cX0_open 45 = .ok (.iconst 0, 1) := by decide +kernel
theorem dX0_open_46 : decode cX0_open 46 = .ok (.putfield 50, 3) := by decide +kernel
theorem dX0_open_49 : decode cX0_open 49 = .ok (.aload_n 0, 1) := by decide +kernel
theorem dX0_open_50 : decode cX0_open 50 = .ok (.iconst 0, 1) := by decide +kernel
theorem dX0_open_51 : decode cX0_open 51 = .ok (.putfield 53, 3) := by decide +kernel
theorem dX0_open_54 : decode cX0_open 54 = .ok (.aload_n 0, 1) := by decide +kernel
theorem dX0_open_55 : decode cX0_open 55 = .ok (.iconst 0, 1) := by decide +kernel
theorem dX0_open_56 : decode cX0_open 56 = .ok (.putfield 56, 3) := by decide +kernel
theorem dX0_open_59 : decode cX0_open 59 = .ok (.return_, 1) := by decide +kernel
theorem dX0_copyFrom_0 : decode cX0_copyFrom 0 = .ok (.aload_n 1, 1) := by decide +kernel
theorem dX0_copyFrom_1 : decode cX0_copyFrom 1 = .ok (.ifnonnull 4, 3) := by decide +kernel
theorem dX0_copyFrom_4 : decode cX0_copyFrom 4 = .ok (.return_, 1) := by decide +kernel
theorem dX0_copyFrom_5 : decode cX0_copyFrom 5 = .ok (.aload_n 1, 1) := by decide +kernel
theorem dX0_copyFrom_6 : decode cX0_copyFrom 6 = .ok (.getfield 9, 3) := by decide +kernel
theorem dX0_copyFrom_9 : decode cX0_copyFrom 9 = .ok (.iconst 0, 1) := by decide +kernel
theorem dX0_copyFrom_10 : decode cX0_copyFrom 10 = .ok (.aload_n 0, 1) := by decide +kernel
theorem dX0_copyFrom_11 : decode cX0_copyFrom 11 = .ok (.getfield 9, 3) := by decide +kernel
theorem dX0_copyFrom_14 : decode cX0_copyFrom 14 = .ok (.iconst 0, 1) := by decide +kernel
theorem dX0_copyFrom_15 : decode cX0_copyFrom 15 = .ok (.iconst 4, 1) := by decide +kernel
theorem dX0_copyFrom_16 : decode cX0_copyFrom 16 = .ok (.invokestatic 59, 3) := by decide +kernel
theorem dX0_copyFrom_19 : decode cX0_copyFrom 19 = .ok (.aload_n 1, 1) := by decide +kernel
theorem dX0_copyFrom_20 : decode cX0_copyFrom 20 = .ok (.getfield 15, 3) := by decide +kernel
theorem dX0_copyFrom_23 : decode cX0_copyFrom 23 = .ok (.iconst 0, 1) := by decide +kernel
theorem dX0_copyFrom_24 : decode cX0_copyFrom 24 = .ok (.aload_n 0, 1) := by decide +kernel
theorem dX0_copyFrom_25 : decode cX0_copyFrom 25 = .ok (.getfield 15, 3) := by decide +kernel
theorem dX0_copyFrom_28 : decode cX0_copyFrom 28 = .ok (.iconst 0, 1) := by decide +kernel
theorem dX0_copyFrom_29 : decode cX0_copyFrom 29 = .ok (.iconst 4, 1) := by decide +kernel
theorem dX0_copyFrom_30 : decode cX0_copyFrom 30 = .ok (.invokestatic 59, 3) := by decide +kernel
theorem dX0_copyFrom_33 : decode cX0_copyFrom 33 = .ok (.aload_n 1, 1) := by decide +kernel
theorem dX0_copyFrom_34 : decode cX0_copyFrom 34 = .ok (.getfield 18, 3) := by decide +kernel
theorem dX0_copyFrom_37 : decode cX0_copyFrom 37 = .ok (.iconst 0, 1) := by decide +kernel
theorem dX0_copyFrom_38 : decode cX0_copyFrom 38 = .ok (.aload_n 0, 1) := by decide +kernel
theorem dX0_copyFrom_39 : decode cX0_copyFrom 39 = .ok (.getfield 18, 3) := by decide +kernel
theorem dX0_copyFrom_42 : decode cX0_copyFrom 42 = .ok (.iconst 0, 1) := by decide +kernel
theorem dX0_copyFrom_43 : decode cX0_copyFrom 43 = .ok (.bipush 31, 2) := by decide +kernel
theorem dX0_copyFrom_45 : decode cX0_copyFrom 45 = .ok (.invokestatic 59, 3) := by decide +kernel
theorem dX0_copyFrom_48 : decode cX0_copyFrom 48 = .ok (.aload_n 1, 1) := by decide +kernel
theorem dX0_copyFrom_49 : decode cX0_copyFrom 49 = .ok (.getfield 21, 3) := by decide +kernel
theorem dX0_copyFrom_52 : decode cX0_copyFrom 52 = .ok (.iconst 0, 1) := by decide +kernel
theorem dX0_copyFrom_53 : decode cX0_copyFrom 53 = .ok (.aload_n 0, 1) := by decide +kernel
theorem dX0_copyFrom_54 : decode cX0_copyFrom 54 = .ok (.getfield 21, 3) := by decide +kernel
theorem dX0_copyFrom_57 : decode cX0_copyFrom 57 = .ok (.iconst 0, 1) := by decide +kernel
theorem dX0_copyFrom_58 : decode cX0_copyFrom 58 = .ok (.bipush 31, 2) := by decide +kernel
theorem dX0_copyFrom_60 : decode cX0_copyFrom 60 = .ok (.invokestatic 59, 3) := by decide +kernel
theorem dX0_copyFrom_63 : decode cX0_copyFrom 63 = .ok (.aload_n 1, 1) := by decide +kernel
theorem dX0_copyFrom_64 : decode cX0_copyFrom 64 = .ok (.getfield 24, 3) := by decide +kernel
theorem dX0_copyFrom_67 : decode cX0_copyFrom 67 = .ok (.iconst 0, 1) := by decide +kernel
theorem dX0_copyFrom_68 : decode cX0_copyFrom 68 = .ok (.aload_n 0, 1) := by decide +kernel
theorem dX0_copyFrom_69 : decode cX0_copyFrom 69 = .ok (.getfield 24, 3) := by decide +kernel
theorem dX0_copyFrom_72 : decode cX0_copyFrom 72 = .ok (.iconst 0, 1) := by decide +kernel
theorem dX0_copyFrom_73 : decode cX0_copyFrom 73 = .ok (.bipush 31, 2) := by decide +kernel
theorem dX0_copyFrom_75 : decode cX0_copyFrom 75 = .ok (.invokestatic 59, 3) := by decide +kernel
theorem dX0_copyFrom_78 : decode cX0_copyFrom 78 = .ok (.aload_n 1, 1) := by decide +kernel
theorem dX0_copyFrom_79 : decode cX0_copyFrom 79 = .ok (.getfield 27, 3) := by decide +kernel
theorem dX0_copyFrom_82 : decode cX0_copyFrom 82 = .ok (.iconst 0, 1) := by decide +kernel
theorem dX0_copyFrom_83 : decode cX0_copyFrom 83 = .ok (.aload_n 0, 1) := by decide +kernel
theorem dX0_copyFrom_84 : decode cX0_copyFrom 84 = .ok (.getfield 27, 3) := by decide +kernel
theorem dX0_copyFrom_87 : decode cX0_copyFrom 87 = .ok (.iconst 0, 1) := by decide +kernel
theorem dX0_copyFrom_88 : decode cX0_copyFrom 88 = .ok (.bipush 31, 2) := by decide +kernel
theorem dX0_copyFrom_90 : decode cX0_copyFrom 90 = .ok (.invokestatic 59, 3) := by decide +kernel
theorem dX0_copyFrom_93 : decode cX0_copyFrom 93 = .ok (.aload_n 1, 1) := by decide +kernel
theorem dX0_copyFrom_94 : decode cX0_copyFrom 94 = .ok (.getfield 30, 3) := by decide +kernel
theorem dX0_copyFrom_97 : decode cX0_copyFrom 97 = .ok (.iconst 0, 1) := by decide +kernel
theorem dX0_copyFrom_98 : decode cX0_copyFrom 98 = .ok (.aload_n 0, 1) := by decide +kernel
theorem dX0_copyFrom_99 : decode cX0_copyFrom 99 = .ok (.getfield 30, 3) := by decide +kernel
theorem dX0_copyFrom_102 : decode cX0_copyFrom 102 = .ok (.iconst 0, 1) := by decide +kernel
theorem dX0_copyFrom_103 : decode cX0_copyFrom 103 = .ok (.iconst 5, 1) := by decide +kernel
theorem dX0_copyFrom_104 : decode cX0_copyFrom 104 = .ok (.invokestatic 59, 3) := by decide +kernel
theorem dX0_copyFrom_107 : decode cX0_copyFrom 107 = .ok (.aload_n 0, 1) := by decide +kernel
theorem dX0_copyFrom_108 : decode cX0_copyFrom 108 = .ok (.aload_n 1, 1) := by decide +kernel
theorem dX0_copyFrom_109 : decode cX0_copyFrom 109 = .ok (.getfield 46, 3) := by decide +kernel
theorem dX0_copyFrom_112 : decode cX0_copyFrom 112 = .ok (.putfield 46, 3) := by decide +kernel
theorem dX0_copyFrom_115 : decode cX0_copyFrom 115 = .ok (.aload_n 0, 1) := by decide +kernel
theorem dX0_copyFrom_116 : decode cX0_copyFrom 116 = .ok (.aload_n 1, 1) := by decide +kernel
theorem dX0_copyFrom_117 : decode cX0_copyFrom 117 = .ok (.getfield 50, 3) := by decide +kernel
theorem dX0_copyFrom_120 : decode cX0_copyFrom 120 = .ok (.putfield 50, 3) := by decide +kernel
theorem dX0_copyFrom_123 : decode cX0_copyFrom 123 = .ok (.aload_n 0, 1) := by decide +kernel
theorem dX0_copyFrom_124 : decode cX0_copyFrom 124 = .ok (.aload_n 1, 1) := by decide +kernel
theorem dX0_copyFrom_125 : decode cX0_copyFrom 125 = .ok (.getfield 53, 3) := by decide +kernel
theorem dX0_copyFrom_128 : decode cX0_copyFrom 128 = .ok (.putfield 53, 3) := by decide +kernel
theorem dX0_copyFrom_131 : decode cX0_copyFrom 131 = .ok (.aload_n 0, 1) := by decide +kernel
theorem dX0_copyFrom_132 : decode cX0_copyFrom 132 = .ok (.aload_n 1, 1) := by decide +kernel
theorem dX0_copyFrom_133 : decode cX0_copyFrom 133 = .ok (.getfield 56, 3) := by decide +kernel
theorem dX0_copyFrom_136 : decode cX0_copyFrom 136 = .ok (.putfield 56, 3) := by decide +kernel
theorem dX0_copyFrom_139 : decode cX0_copyFrom 139 = .ok (.return_, 1) := by decide +kernel
theorem dX0_asked_0 : decode cX0_asked 0 = .ok (.aload_n 0, 1) := by decide +kernel
theorem dX0_asked_1 : decode cX0_asked 1 = .ok (.getfield 46, 3) := by decide +kernel
theorem dX0_asked_4 : decode cX0_asked 4 = .ok (.ireturn, 1) := by decide +kernel
theorem dX0_waiting_0 : decode cX0_waiting 0 = .ok (.aload_n 0, 1) := by decide +kernel
theorem dX0_waiting_1 : decode cX0_waiting 1 = .ok (.getfield 50, 3) := by decide +kernel
theorem dX0_waiting_4 : decode cX0_waiting 4 = .ok (.ireturn, 1) := by decide +kernel
theorem dX0_currentFee_0 : decode cX0_currentFee 0 = .ok (.aload_n 0, 1) := by decide +kernel
theorem dX0_currentFee_1 : decode cX0_currentFee 1 = .ok (.getfield 53, 3) := by decide +kernel
theorem dX0_currentFee_4 : decode cX0_currentFee 4 = .ok (.ireturn, 1) := by decide +kernel
theorem dX0_setFee_0 : decode cX0_setFee 0 = .ok (.aload_n 0, 1) := by decide +kernel
theorem dX0_setFee_1 : decode cX0_setFee 1 = .ok (.iload_n 1, 1) := by decide +kernel
theorem dX0_setFee_2 : decode cX0_setFee 2 = .ok (.putfield 53, 3) := by decide +kernel
theorem dX0_setFee_5 : decode cX0_setFee 5 = .ok (.return_, 1) := by decide +kernel
theorem dX0_takings_0 : decode cX0_takings 0 = .ok (.aload_n 0, 1) := by decide +kernel
theorem dX0_takings_1 : decode cX0_takings 1 = .ok (.getfield 56, 3) := by decide +kernel
theorem dX0_takings_4 : decode cX0_takings 4 = .ok (.ireturn, 1) := by decide +kernel
theorem dX0_isRow_0 : decode cX0_isRow 0 = .ok (.iload_n 0, 1) := by decide +kernel
theorem dX0_isRow_1 : decode cX0_isRow 1 = .ok (.ifCond .lt 12, 3) := by decide +kernel
theorem dX0_isRow_4 : decode cX0_isRow 4 = .ok (.iload_n 0, 1) := by decide +kernel
theorem dX0_isRow_5 : decode cX0_isRow 5 = .ok (.iconst 4, 1) := by decide +kernel
theorem dX0_isRow_6 : decode cX0_isRow 6 = .ok (.if_icmp .ge 7, 3) := by decide +kernel
theorem dX0_isRow_9 : decode cX0_isRow 9 = .ok (.iconst 1, 1) := by decide +kernel
theorem dX0_isRow_10 : decode cX0_isRow 10 = .ok (.goto 4, 3) := by decide +kernel
theorem dX0_isRow_13 : decode cX0_isRow 13 = .ok (.iconst 0, 1) := by decide +kernel
theorem dX0_isRow_14 : decode cX0_isRow 14 = .ok (.ireturn, 1) := by decide +kernel
set_option maxRecDepth 20000 in
theorem ggX0_priceOf_X0_isRow : GoodIn wsX0_priceOf wsX0_isRow := goodIn_r _ [5] (by decide +kernel) (by decide +kernel)
set_option maxRecDepth 20000 in
theorem gX0_priceOf_X0_isRow : GoodIn wsX0_priceOf (va_wsS RX0 65 yX0_isRow wsX0_isRow) := goodIn_app (goodIn_of _ (by decide +kernel)) ggX0_priceOf_X0_isRow
theorem dX0_priceOf_0 : decode cX0_priceOf 0 = .ok (.iload_n 1, 1) := by decide +kernel
theorem dX0_priceOf_1 : decode cX0_priceOf 1 = .ok (.invokestatic 65, 3) := by decide +kernel
theorem dX0_priceOf_4 : decode cX0_priceOf 4 = .ok (.ifCond .eq 12, 3) := by decide +kernel
theorem dX0_priceOf_7 : decode cX0_priceOf 7 = .ok (.aload_n 0, 1) := by decide +kernel
theorem dX0_priceOf_8 : decode cX0_priceOf 8 = .ok (.getfield 9, 3) := by decide +kernel
theorem dX0_priceOf_11 : decode cX0_priceOf 11 = .ok (.iload_n 1, 1) := by decide +kernel
theorem dX0_priceOf_12 : decode cX0_priceOf 12 = .ok (.iaload, 1) := by decide +kernel
theorem dX0_priceOf_13 : decode cX0_priceOf 13 = .ok (.goto 4, 3) := by decide +kernel
theorem dX0_priceOf_16 : decode cX0_priceOf 16 = .ok (.iconst 0, 1) := by decide +kernel
theorem dX0_priceOf_17 : decode cX0_priceOf 17 = .ok (.ireturn, 1) := by decide +kernel
set_option maxRecDepth 20000 in
theorem ggX0_setPrice_X0_isRow : GoodIn wsX0_setPrice wsX0_isRow := goodIn_r _ [5] (by decide +kernel) (by decide +kernel)
set_option maxRecDepth 20000 in
theorem gX0_setPrice_X0_isRow : GoodIn wsX0_setPrice (va_wsS RX0 65 yX0_isRow wsX0_isRow) := goodIn_app (goodIn_of _ (by decide +kernel)) ggX0_setPrice_X0_isRow
theorem dX0_setPrice_0 : decode cX0_setPrice 0 = .ok (.iload_n 1, 1) := by decide +kernel
theorem dX0_setPrice_1 : decode cX0_setPrice 1 = .ok (.invokestatic 65, 3) := by decide +kernel
theorem dX0_setPrice_4 : decode cX0_setPrice 4 = .ok (.ifCond .eq 10, 3) := by decide +kernel
theorem dX0_setPrice_7 : decode cX0_setPrice 7 = .ok (.aload_n 0, 1) := by decide +kernel
theorem dX0_setPrice_8 : decode cX0_setPrice 8 = .ok (.getfield 9, 3) := by decide +kernel
theorem dX0_setPrice_11 : decode cX0_setPrice 11 = .ok (.iload_n 1, 1) := by decide +kernel
theorem dX0_setPrice_12 : decode cX0_setPrice 12 = .ok (.iload_n 2, 1) := by decide +kernel
theorem dX0_setPrice_13 : decode cX0_setPrice 13 = .ok (.iastore, 1) := by decide +kernel
theorem dX0_setPrice_14 : decode cX0_setPrice 14 = .ok (.return_, 1) := by decide +kernel
set_option maxRecDepth 20000 in
theorem ggX0_freeIn_X0_isRow : GoodIn wsX0_freeIn wsX0_isRow := goodIn_r _ [5] (by decide +kernel) (by decide +kernel)
set_option maxRecDepth 20000 in
theorem gX0_freeIn_X0_isRow : GoodIn wsX0_freeIn (va_wsS RX0 65 yX0_isRow wsX0_isRow) := goodIn_app (goodIn_of _ (by decide +kernel)) ggX0_freeIn_X0_isRow
theorem dX0_freeIn_0 : decode cX0_freeIn 0 = .ok (.iload_n 1, 1) := by decide +kernel
theorem dX0_freeIn_1 : decode cX0_freeIn 1 = .ok (.invokestatic 65, 3) := by decide +kernel
theorem dX0_freeIn_4 : decode cX0_freeIn 4 = .ok (.ifCond .eq 12, 3) := by decide +kernel
theorem dX0_freeIn_7 : decode cX0_freeIn 7 = .ok (.aload_n 0, 1) := by decide +kernel
theorem dX0_freeIn_8 : decode cX0_freeIn 8 = .ok (.getfield 15, 3) := by decide +kernel
theorem dX0_freeIn_11 : decode cX0_freeIn 11 = .ok (.iload_n 1, 1) := by decide +kernel
theorem dX0_freeIn_12 : decode cX0_freeIn 12 = .ok (.iaload, 1) := by decide +kernel
theorem dX0_freeIn_13 : decode cX0_freeIn 13 = .ok (.goto 4, 3) := by decide +kernel
theorem dX0_freeIn_16 : decode cX0_freeIn 16 = .ok (.iconst 0, 1) := by decide +kernel
theorem dX0_freeIn_17 : decode cX0_freeIn 17 = .ok (.ireturn, 1) := by decide +kernel
set_option maxRecDepth 20000 in
theorem ggX0_freeSeats_J6_bitCount_0f7a4 : GoodIn wsX0_freeSeats wsJ6_bitCount_0f7a4 := goodIn_r _ [5, 6, 7, 8] (by decide +kernel) (by decide +kernel)
set_option maxRecDepth 20000 in
theorem gX0_freeSeats_J6_bitCount_0f7a4 : GoodIn wsX0_freeSeats (va_wsS RX0 69 yJ6_bitCount_0f7a4 wsJ6_bitCount_0f7a4) := goodIn_app (goodIn_of _ (by decide +kernel)) ggX0_freeSeats_J6_bitCount_0f7a4
theorem dX0_freeSeats_0 : decode cX0_freeSeats 0 = .ok (.iconst 0, 1) := by decide +kernel
theorem dX0_freeSeats_1 : decode cX0_freeSeats 1 = .ok (.istore_n 1, 1) := by decide +kernel
theorem dX0_freeSeats_2 : decode cX0_freeSeats 2 = .ok (.iconst 0, 1) := by decide +kernel
theorem dX0_freeSeats_3 : decode cX0_freeSeats 3 = .ok (.istore_n 2, 1) := by decide +kernel
theorem dX0_freeSeats_4 : decode cX0_freeSeats 4 = .ok (.iload_n 2, 1) := by decide +kernel
theorem dX0_freeSeats_5 : decode cX0_freeSeats 5 = .ok (.iconst 4, 1) := by decide +kernel
theorem dX0_freeSeats_6 : decode cX0_freeSeats 6 = .ok (.if_icmp .ge 21, 3) := by decide +kernel
theorem dX0_freeSeats_9 : decode cX0_freeSeats 9 = .ok (.iload_n 1, 1) := by decide +kernel
theorem dX0_freeSeats_10 : decode cX0_freeSeats 10 = .ok (.aload_n 0, 1) := by decide +kernel
theorem dX0_freeSeats_11 : decode cX0_freeSeats 11 = .ok (.getfield 15, 3) := by decide +kernel
theorem dX0_freeSeats_14 : decode cX0_freeSeats 14 = .ok (.iload_n 2, 1) := by decide +kernel
theorem dX0_freeSeats_15 : decode cX0_freeSeats 15 = .ok (.iaload, 1) := by decide +kernel
theorem dX0_freeSeats_16 : decode cX0_freeSeats 16 = .ok (.invokestatic 69, 3) := by decide +kernel
theorem dX0_freeSeats_19 : decode cX0_freeSeats 19 = .ok (.iadd, 1) := by decide +kernel
theorem dX0_freeSeats_20 : decode cX0_freeSeats 20 = .ok (.istore_n 1, 1) := by decide +kernel
theorem dX0_freeSeats_21 : decode cX0_freeSeats 21 = .ok (.iinc 2 1, 3) := by decide +kernel
theorem dX0_freeSeats_24 : decode cX0_freeSeats 24 = .ok (.goto (-20), 3) := by decide +kernel
theorem dX0_freeSeats_27 : decode cX0_freeSeats 27 = .ok (.iload_n 1, 1) := by decide +kernel
theorem dX0_freeSeats_28 : decode cX0_freeSeats 28 = .ok (.ireturn, 1) := by decide +kernel
set_option maxRecDepth 20000 in
theorem ggX0_take_X8_rowOf : GoodIn wsX0_take wsX8_rowOf := goodIn_r _ [4] (by decide +kernel) (by decide +kernel)
set_option maxRecDepth 20000 in
theorem gX0_take_X8_rowOf_n74 : GoodIn wsX0_take (wsX8_rowOf) := ggX0_take_X8_rowOf
set_option maxRecDepth 20000 in
theorem ggX0_take_X0_isRow : GoodIn wsX0_take wsX0_isRow := goodIn_r _ [8] (by decide +kernel) (by decide +kernel)
set_option maxRecDepth 20000 in
theorem gX0_take_X0_isRow : GoodIn wsX0_take (va_wsS RX0 65 yX0_isRow wsX0_isRow) := goodIn_app (goodIn_of _ (by decide +kernel)) ggX0_take_X0_isRow
set_option maxRecDepth 20000 in
theorem ggX0_take_X8_firstOf : GoodIn wsX0_take wsX8_firstOf := goodIn_r _ [10] (by decide +kernel) (by decide +kernel)
set_option maxRecDepth 20000 in
theorem gX0_take_X8_firstOf_n77 : GoodIn wsX0_take (wsX8_firstOf) := ggX0_take_X8_firstOf
set_option maxRecDepth 20000 in
theorem ggX0_take_X8_span : GoodIn wsX0_take wsX8_span := goodIn_r _ [12] (by decide +kernel) (by decide +kernel)
set_option maxRecDepth 20000 in
theorem gX0_take_X8_span_n42 : GoodIn wsX0_take (wsX8_span) := ggX0_take_X8_span
theorem dX0_take_0 : decode cX0_take 0 = .ok (.iload_n 1, 1) := by decide +kernel
theorem dX0_take_1 : decode cX0_take 1 = .ok (.invokestatic 74, 3) := by decide +kernel
theorem dX0_take_4 : decode cX0_take 4 = .ok (.istore_n 3, 1) := by decide +kernel
theorem dX0_take_5 : decode cX0_take 5 = .ok (.iload_n 3, 1) := by decide +kernel
theorem dX0_take_6 : decode cX0_take 6 = .ok (.invokestatic 65, 3) := by decide +kernel
theorem dX0_take_9 : decode cX0_take 9 = .ok (.ifCond .eq 22, 3) := by decide +kernel
theorem dX0_take_12 : decode cX0_take 12 = .ok (.aload_n 0, 1) := by decide +kernel
theorem dX0_take_13 : decode cX0_take 13 = .ok (.getfield 15, 3) := by decide +kernel
theorem dX0_take_16 : decode cX0_take 16 = .ok (.iload_n 3, 1) := by decide +kernel
theorem dX0_take_17 : decode cX0_take 17 = .ok (.dup2, 1) := by decide +kernel
theorem dX0_take_18 : decode cX0_take 18 = .ok (.iaload, 1) := by decide +kernel
theorem dX0_take_19 : decode cX0_take 19 = .ok (.iload_n 1, 1) := by decide +kernel
theorem dX0_take_20 : decode cX0_take 20 = .ok (.invokestatic 77, 3) := by decide +kernel
theorem dX0_take_23 : decode cX0_take 23 = .ok (.iload_n 2, 1) := by decide +kernel
theorem dX0_take_24 : decode cX0_take 24 = .ok (.invokestatic 42, 3) := by decide +kernel
theorem dX0_take_27 : decode cX0_take 27 = .ok (.iconst (-1), 1) := by decide +kernel
theorem dX0_take_28 : decode cX0_take 28 = .ok (.ixor, 1) := by decide +kernel
theorem dX0_take_29 : decode cX0_take 29 = .ok (.iand, 1) := by decide +kernel
theorem dX0_take_30 : decode cX0_take 30 = .ok (.iastore, 1) := by decide +kernel
theorem dX0_take_31 : decode cX0_take 31 = .ok (.return_, 1) := by decide +kernel
set_option maxRecDepth 20000 in
theorem ggX0_clear_X8_rowOf : GoodIn wsX0_clear wsX8_rowOf := goodIn_r _ [4] (by decide +kernel) (by decide +kernel)
set_option maxRecDepth 20000 in
theorem gX0_clear_X8_rowOf_n74 : GoodIn wsX0_clear (wsX8_rowOf) := ggX0_clear_X8_rowOf
set_option maxRecDepth 20000 in
theorem ggX0_clear_X0_isRow : GoodIn wsX0_clear wsX0_isRow := goodIn_r _ [8] (by decide +kernel) (by decide +kernel)
set_option maxRecDepth 20000 in
theorem gX0_clear_X0_isRow : GoodIn wsX0_clear (va_wsS RX0 65 yX0_isRow wsX0_isRow) := goodIn_app (goodIn_of _ (by decide +kernel)) ggX0_clear_X0_isRow
set_option maxRecDepth 20000 in
theorem ggX0_clear_X8_firstOf : GoodIn wsX0_clear wsX8_firstOf := goodIn_r _ [10] (by decide +kernel) (by decide +kernel)
set_option maxRecDepth 20000 in
theorem gX0_clear_X8_firstOf_n77 : GoodIn wsX0_clear (wsX8_firstOf) := ggX0_clear_X8_firstOf
set_option maxRecDepth 20000 in
theorem ggX0_clear_X8_span : GoodIn wsX0_clear wsX8_span := goodIn_r _ [12] (by decide +kernel) (by decide +kernel)
set_option maxRecDepth 20000 in
theorem gX0_clear_X8_span_n42 : GoodIn wsX0_clear (wsX8_span) := ggX0_clear_X8_span
theorem dX0_clear_0 : decode cX0_clear 0 = .ok (.iload_n 1, 1) := by decide +kernel
theorem dX0_clear_1 : decode cX0_clear 1 = .ok (.invokestatic 74, 3) := by decide +kernel
theorem dX0_clear_4 : decode cX0_clear 4 = .ok (.istore_n 3, 1) := by decide +kernel
theorem dX0_clear_5 : decode cX0_clear 5 = .ok (.iload_n 3, 1) := by decide +kernel
theorem dX0_clear_6 : decode cX0_clear 6 = .ok (.invokestatic 65, 3) := by decide +kernel
theorem dX0_clear_9 : decode cX0_clear 9 = .ok (.ifCond .eq 20, 3) := by decide +kernel
theorem dX0_clear_12 : decode cX0_clear 12 = .ok (.aload_n 0, 1) := by decide +kernel
theorem dX0_clear_13 : decode cX0_clear 13 = .ok (.getfield 15, 3) := by decide +kernel
theorem dX0_clear_16 : decode cX0_clear 16 = .ok (.iload_n 3, 1) := by decide +kernel
theorem dX0_clear_17 : decode cX0_clear 17 = .ok (.dup2, 1) := by decide +kernel
theorem dX0_clear_18 : decode cX0_clear 18 = .ok (.iaload, 1) := by decide +kernel
theorem dX0_clear_19 : decode cX0_clear 19 = .ok (.iload_n 1, 1) := by decide +kernel
theorem dX0_clear_20 : decode cX0_clear 20 = .ok (.invokestatic 77, 3) := by decide +kernel
theorem dX0_clear_23 : decode cX0_clear 23 = .ok (.iload_n 2, 1) := by decide +kernel
theorem dX0_clear_24 : decode cX0_clear 24 = .ok (.invokestatic 42, 3) := by decide +kernel
theorem dX0_clear_27 : decode cX0_clear 27 = .ok (.ior, 1) := by decide +kernel
theorem dX0_clear_28 : decode cX0_clear 28 = .ok (.iastore, 1) := by decide +kernel
theorem dX0_clear_29 : decode cX0_clear 29 = .ok (.return_, 1) := by decide +kernel
theorem dX0_knows_0 : decode cX0_knows 0 = .ok (.iload_n 1, 1) := by decide +kernel
theorem dX0_knows_1 : decode cX0_knows 1 = .ok (.iconst 1, 1) := by decide +kernel
theorem dX0_knows_2 : decode cX0_knows 2 = .ok (.if_icmp .lt 15, 3) := by decide +kernel
theorem dX0_knows_5 : decode cX0_knows 5 = .ok (.iload_n 1, 1) := by decide +kernel
theorem dX0_knows_6 : decode cX0_knows 6 = .ok (.aload_n 0, 1) := by decide +kernel
theorem dX0_knows_7 : decode cX0_knows 7 = .ok (.getfield 46, 3) := by decide +kernel
theorem dX0_knows_10 : decode cX0_knows 10 = .ok (.if_icmp .gt 7, 3) := by decide +kernel
theorem dX0_knows_13 : decode cX0_knows 13 = .ok (.iconst 1, 1) := by decide +kernel
theorem dX0_knows_14 : decode cX0_knows 14 = .ok (.goto 4, 3) := by decide +kernel
theorem dX0_knows_17 : decode cX0_knows 17 = .ok (.iconst 0, 1) := by decide +kernel
theorem dX0_knows_18 : decode cX0_knows 18 = .ok (.ireturn, 1) := by decide +kernel
set_option maxRecDepth 20000 in
theorem ggX0_sizeOf_X0_knows : GoodIn wsX0_sizeOf wsX0_knows := goodIn_r _ [6, 7, 8, 9, 10, 11, 12, 13, 14, 15, 16, 17, 18] (by decide +kernel) (by decide +kernel)
set_option maxRecDepth 20000 in
theorem gX0_sizeOf_X0_knows : GoodIn wsX0_sizeOf (wsV RX0 80 RX0 yX0_knows wsX0_knows) := goodIn_app (goodIn_of _ (by decide +kernel)) ggX0_sizeOf_X0_knows
theorem dX0_sizeOf_0 : decode cX0_sizeOf 0 = .ok (.aload_n 0, 1) := by decide +kernel
theorem dX0_sizeOf_1 : decode cX0_sizeOf 1 = .ok (.iload_n 1, 1) := by decide +kernel
theorem dX0_sizeOf_2 : decode cX0_sizeOf 2 = .ok (.invokevirtual 80, 3) := by decide +kernel
theorem dX0_sizeOf_5 : decode cX0_sizeOf 5 = .ok (.ifCond .eq 12, 3) := by decide +kernel
theorem dX0_sizeOf_8 : decode cX0_sizeOf 8 = .ok (.aload_n 0, 1) := by decide +kernel
theorem dX0_sizeOf_9 : decode cX0_sizeOf 9 = .ok (.getfield 18, 3) := by decide +kernel
theorem dX0_sizeOf_12 : decode cX0_sizeOf 12 = .ok (.iload_n 1, 1) := by decide +kernel
theorem dX0_sizeOf_13 : decode cX0_sizeOf 13 = .ok (.iaload, 1) := by decide +kernel
theorem dX0_sizeOf_14 : decode cX0_sizeOf 14 = .ok (.goto 4, 3) := by decide +kernel
theorem dX0_sizeOf_17 : decode cX0_sizeOf 17 = .ok (.iconst 0, 1) := by decide +kernel
theorem dX0_sizeOf_18 : decode cX0_sizeOf 18 = .ok (.ireturn, 1) := by decide +kernel
set_option maxRecDepth 20000 in
theorem ggX0_limitOf_X0_knows : GoodIn wsX0_limitOf wsX0_knows := goodIn_r _ [6, 7, 8, 9, 10, 11, 12, 13, 14, 15, 16, 17, 18] (by decide +kernel) (by decide +kernel)
set_option maxRecDepth 20000 in
theorem gX0_limitOf_X0_knows : GoodIn wsX0_limitOf (wsV RX0 80 RX0 yX0_knows wsX0_knows) := goodIn_app (goodIn_of _ (by decide +kernel)) ggX0_limitOf_X0_knows
theorem dX0_limitOf_0 : decode cX0_limitOf 0 = .ok (.aload_n 0, 1) := by decide +kernel
theorem dX0_limitOf_1 : decode cX0_limitOf 1 = .ok (.iload_n 1, 1) := by decide +kernel
theorem dX0_limitOf_2 : decode cX0_limitOf 2 = .ok (.invokevirtual 80, 3) := by decide +kernel
theorem dX0_limitOf_5 : decode cX0_limitOf 5 = .ok (.ifCond .eq 12, 3) := by decide +kernel
theorem dX0_limitOf_8 : decode cX0_limitOf 8 = .ok (.aload_n 0, 1) := by decide +kernel
theorem dX0_limitOf_9 : decode cX0_limitOf 9 = .ok (.getfield 21, 3) := by decide +kernel
theorem dX0_limitOf_12 : decode cX0_limitOf 12 = .ok (.iload_n 1, 1) := by decide +kernel
theorem dX0_limitOf_13 : decode cX0_limitOf 13 = .ok (.iaload, 1) := by decide +kernel
theorem dX0_limitOf_14 : decode cX0_limitOf 14 = .ok (.goto 4, 3) := by decide +kernel
theorem dX0_limitOf_17 : decode cX0_limitOf 17 = .ok (.iconst 0, 1) := by decide +kernel
theorem dX0_limitOf_18 : decode cX0_limitOf 18 = .ok (.ireturn, 1) := by decide +kernel
set_option maxRecDepth 20000 in
theorem ggX0_placeOf_X0_knows : GoodIn wsX0_placeOf wsX0_knows := goodIn_r _ [6, 7, 8, 9, 10, 11, 12, 13, 14, 15, 16, 17, 18] (by decide +kernel) (by decide +kernel)
set_option maxRecDepth 20000 in
theorem gX0_placeOf_X0_knows : GoodIn wsX0_placeOf (wsV RX0 80 RX0 yX0_knows wsX0_knows) := goodIn_app (goodIn_of _ (by decide +kernel)) ggX0_placeOf_X0_knows
theorem dX0_placeOf_0 : decode cX0_placeOf 0 = .ok (.aload_n 0, 1) := by decide +kernel
theorem dX0_placeOf_1 : decode cX0_placeOf 1 = .ok (.iload_n 1, 1) := by decide +kernel
theorem dX0_placeOf_2 : decode cX0_placeOf 2 = .ok (.invokevirtual 80, 3) := by decide +kernel
theorem dX0_placeOf_5 : decode cX0_placeOf 5 = .ok (.ifCond .eq 12, 3) := by decide +kernel
theorem dX0_placeOf_8 : decode cX0_placeOf 8 = .ok (.aload_n 0, 1) := by decide +kernel
theorem dX0_placeOf_9 : decode cX0_placeOf 9 = .ok (.getfield 24, 3) := by decide +kernel
theorem dX0_placeOf_12 : decode cX0_placeOf 12 = .ok (.iload_n 1, 1) := by decide +kernel
theorem dX0_placeOf_13 : decode cX0_placeOf 13 = .ok (.iaload, 1) := by decide +kernel
theorem dX0_placeOf_14 : decode cX0_placeOf 14 = .ok (.goto 5, 3) := by decide +kernel
theorem dX0_placeOf_17 : decode cX0_placeOf 17 = .ok (.bipush (-9), 2) := by decide +kernel
theorem dX0_placeOf_19 : decode cX0_placeOf 19 = .ok (.ireturn, 1) := by decide +kernel
set_option maxRecDepth 20000 in
theorem ggX0_paidBy_X0_knows : GoodIn wsX0_paidBy wsX0_knows := goodIn_r _ [6, 7, 8, 9, 10, 11, 12, 13, 14, 15, 16, 17, 18] (by decide +kernel) (by decide +kernel)
set_option maxRecDepth 20000 in
theorem gX0_paidBy_X0_knows : GoodIn wsX0_paidBy (wsV RX0 80 RX0 yX0_knows wsX0_knows) := goodIn_app (goodIn_of _ (by decide +kernel)) ggX0_paidBy_X0_knows
theorem dX0_paidBy_0 : decode cX0_paidBy 0 = .ok (.aload_n 0, 1) := by decide +kernel
theorem dX0_paidBy_1 : decode cX0_paidBy 1 = .ok (.iload_n 1, 1) := by decide +kernel
theorem dX0_paidBy_2 : decode cX0_paidBy 2 = .ok (.invokevirtual 80, 3) := by decide +kernel
theorem dX0_paidBy_5 : decode cX0_paidBy 5 = .ok (.ifCond .eq 12, 3) := by decide +kernel
theorem dX0_paidBy_8 : decode cX0_paidBy 8 = .ok (.aload_n 0, 1) := by decide +kernel
theorem dX0_paidBy_9 : decode cX0_paidBy 9 = .ok (.getfield 27, 3) := by decide +kernel
theorem dX0_paidBy_12 : decode cX0_paidBy 12 = .ok (.iload_n 1, 1) := by decide +kernel
theorem dX0_paidBy_13 : decode cX0_paidBy 13 = .ok (.iaload, 1) := by decide +kernel
theorem dX0_paidBy_14 : decode cX0_paidBy 14 = .ok (.goto 4, 3) := by decide +kernel
theorem dX0_paidBy_17 : decode cX0_paidBy 17 = .ok (.iconst 0, 1) := by decide +kernel
theorem dX0_paidBy_18 : decode cX0_paidBy 18 = .ok (.ireturn, 1) := by decide +kernel
set_option maxRecDepth 20000 in
theorem ggX0_isSeated_X0_placeOf : GoodIn wsX0_isSeated wsX0_placeOf := goodIn_r _ [5, 6, 7, 8, 9, 4, 10, 11, 12, 13, 14, 15, 16, 17, 18, 19, 20, 21, 22] (by decide +kernel) (by decide +kernel)
set_option maxRecDepth 20000 in
theorem gX0_isSeated_X0_placeOf : GoodIn wsX0_isSeated (wsV RX0 83 RX0 yX0_placeOf wsX0_placeOf) := goodIn_app (goodIn_of _ (by decide +kernel)) ggX0_isSeated_X0_placeOf
theorem dX0_isSeated_0 : decode cX0_isSeated 0 = .ok (.aload_n 0, 1) := by decide +kernel
theorem dX0_isSeated_1 : decode cX0_isSeated 1 = .ok (.iload_n 1, 1) := by decide +kernel
theorem dX0_isSeated_2 : decode cX0_isSeated 2 = .ok (.invokevirtual 83, 3) := by decide +kernel
theorem dX0_isSeated_5 : decode cX0_isSeated 5 = .ok (.bipush (-9), 2) := by decide +kernel
theorem dX0_isSeated_7 : decode cX0_isSeated 7 = .ok (.if_icmp .eq 7, 3) := by decide +kernel
theorem dX0_isSeated_10 : decode cX0_isSeated 10 = .ok (.iconst 1, 1) := by decide +kernel
theorem dX0_isSeated_11 : decode cX0_isSeated 11 = .ok (.goto 4, 3) := by decide +kernel
theorem dX0_isSeated_14 : decode cX0_isSeated 14 = .ok (.iconst 0, 1) := by decide +kernel
theorem dX0_isSeated_15 : decode cX0_isSeated 15 = .ok (.ireturn, 1) := by decide +kernel
set_option maxRecDepth 20000 in
theorem ggX0_isWaiting_X0_positionOf : GoodIn wsX0_isWaiting wsX0_positionOf := goodIn_r _ [5, 6, 7, 8, 9, 10, 11, 12, 13, 14, 15, 16, 17, 18] (by decide +kernel) (by decide +kernel)
set_option maxRecDepth 20000 in
theorem gX0_isWaiting_X0_positionOf : GoodIn wsX0_isWaiting (wsV RX0 86 RX0 yX0_positionOf wsX0_positionOf) := goodIn_app (goodIn_of _ (by decide +kernel)) ggX0_isWaiting_X0_positionOf
theorem dX0_isWaiting_0 : decode cX0_isWaiting 0 = .ok (.aload_n 0, 1) := by decide +kernel
theorem dX0_isWaiting_1 : decode cX0_isWaiting 1 = .ok (.iload_n 1, 1) := by decide +kernel
theorem dX0_isWaiting_2 : decode cX0_isWaiting 2 = .ok (.invokevirtual 86, 3) := by decide +kernel
theorem dX0_isWaiting_5 : decode cX0_isWaiting 5 = .ok (.bipush (-9), 2) := by decide +kernel
theorem dX0_isWaiting_7 : decode cX0_isWaiting 7 = .ok (.if_icmp .eq 7, 3) := by decide +kernel
theorem dX0_isWaiting_10 : decode cX0_isWaiting 10 = .ok (.iconst 1, 1) := by decide +kernel
theorem dX0_isWaiting_11 : decode cX0_isWaiting 11 = .ok (.goto 4, 3) := by decide +kernel
theorem dX0_isWaiting_14 : decode cX0_isWaiting 14 = .ok (.iconst 0, 1) := by decide +kernel
theorem dX0_isWaiting_15 : decode cX0_isWaiting 15 = .ok (.ireturn, 1) := by decide +kernel
set_option maxRecDepth 20000 in
theorem ggX0_seated_X0_isSeated : GoodIn wsX0_seated wsX0_isSeated := goodIn_r _ [6, 7, 8, 9, 5, 10, 11, 12, 13, 14, 15, 1, 16, 17, 18, 19, 20, 21, 22, 23, 24, 25, 26] (by decide +kernel) (by decide +kernel)
set_option maxRecDepth 20000 in
theorem gX0_seated_X0_isSeated : GoodIn wsX0_seated (wsV RX0 89 RX0 yX0_isSeated wsX0_isSeated) := goodIn_app (goodIn_of _ (by decide +kernel)) ggX0_seated_X0_isSeated
theorem dX0_seated_0 : decode cX0_seated 0 = .ok (.iconst 0, 1) := by decide +kernel
theorem dX0_seated_1 : decode cX0_seated 1 = .ok (.istore_n 1, 1) := by decide +kernel
theorem dX0_seated_2 : decode cX0_seated 2 = .ok (.iconst 1, 1) := by decide +kernel
theorem dX0_seated_3 : decode cX0_seated 3 = .ok (.istore_n 2, 1) := by decide +kernel
theorem dX0_seated_4 : decode cX0_seated 4 = .ok (.iload_n 2, 1) := by decide +kernel
theorem dX0_seated_5 : decode cX0_seated 5 = .ok (.aload_n 0, 1) := by decide +kernel
theorem dX0_seated_6 : decode cX0_seated 6 = .ok (.getfield 46, 3) := by decide +kernel
theorem dX0_seated_9 : decode cX0_seated 9 = .ok (.if_icmp .gt 20, 3) := by decide +kernel
theorem dX0_seated_12 : decode cX0_seated 12 = .ok (.aload_n 0, 1) := by decide +kernel
theorem dX0_seated_13 : decode cX0_seated 13 = .ok (.iload_n 2, 1) := by decide +kernel
theorem dX0_seated_14 : decode cX0_seated 14 = .ok (.invokevirtual 89, 3) := by decide +kernel
theorem dX0_seated_17 : decode cX0_seated 17 = .ok (.ifCond .eq 6, 3) := by decide +kernel
theorem dX0_seated_20 : decode cX0_seated 20 = .ok (.iinc 1 1, 3) := by decide +kernel
theorem dX0_seated_23 : decode cX0_seated 23 = .ok (.iinc 2 1, 3) := by decide +kernel
theorem dX0_seated_26 : decode cX0_seated 26 = .ok (.goto (-22), 3) := by decide +kernel
theorem dX0_seated_29 : decode cX0_seated 29 = .ok (.iload_n 1, 1) := by decide +kernel
theorem dX0_seated_30 : decode cX0_seated 30 = .ok (.ireturn, 1) := by decide +kernel
set_option maxRecDepth 20000 in
theorem ggX0_seatedAt_X0_isSeated : GoodIn wsX0_seatedAt wsX0_isSeated := goodIn_r _ [6, 7, 8, 9, 5, 10, 11, 12, 13, 14, 15, 1, 16, 17, 18, 19, 20, 21, 22, 23, 24, 25, 26] (by decide +kernel) (by decide +kernel)
set_option maxRecDepth 20000 in
theorem gX0_seatedAt_X0_isSeated : GoodIn wsX0_seatedAt (wsV RX0 89 RX0 yX0_isSeated wsX0_isSeated) := goodIn_app (goodIn_of _ (by decide +kernel)) ggX0_seatedAt_X0_isSeated
theorem dX0_seatedAt_0 : decode cX0_seatedAt 0 = .ok (.iconst 0, 1) := by decide +kernel
theorem dX0_seatedAt_1 : decode cX0_seatedAt 1 = .ok (.istore_n 2, 1) := by decide +kernel
theorem dX0_seatedAt_2 : decode cX0_seatedAt 2 = .ok (.iconst 1, 1) := by decide +kernel
theorem dX0_seatedAt_3 : decode cX0_seatedAt 3 = .ok (.istore_n 3, 1) := by decide +kernel
theorem dX0_seatedAt_4 : decode cX0_seatedAt 4 = .ok (.iload_n 3, 1) := by decide +kernel
theorem dX0_seatedAt_5 : decode cX0_seatedAt 5 = .ok (.aload_n 0, 1) := by decide +kernel
theorem dX0_seatedAt_6 : decode cX0_seatedAt 6 = .ok (.getfield 46, 3) := by decide +kernel
theorem dX0_seatedAt_9 : decode cX0_seatedAt 9 = .ok (.if_icmp .gt 27, 3) := by decide +kernel
theorem dX0_seatedAt_12 : decode cX0_seatedAt 12 = .ok (.aload_n 0, 1) := by decide +kernel
theorem dX0_seatedAt_13 : decode cX0_seatedAt 13 = .ok (.iload_n 3, 1) := by decide +kernel
theorem dX0_seatedAt_14 : decode cX0_seatedAt 14 = .ok (.invokevirtual 89, 3) := by decide +kernel
theorem dX0_seatedAt_17 : decode cX0_seatedAt 17 = .ok (.ifCond .eq 13, 3) := by decide +kernel
theorem dX0_seatedAt_20 : decode cX0_seatedAt 20 = .ok (.iload_n 2, 1) := by decide +kernel
theorem dX0_seatedAt_21 : decode cX0_seatedAt 21 = .ok (.iload_n 1, 1) := by decide +kernel
theorem dX0_seatedAt_22 : decode cX0_seatedAt 22 = .ok (.if_icmp .ne 5, 3) := by decide +kernel
theorem dX0_seatedAt_25 : decode cX0_seatedAt 25 = .ok (.iload_n 3, 1) := by decide +kernel
theorem dX0_seatedAt_26 : decode cX0_seatedAt 26 = .ok (.ireturn, 1) := by decide +kernel
theorem dX0_seatedAt_27 : decode cX0_seatedAt 27 = .ok (.iinc 2 1, 3) := by decide +kernel
theorem dX0_seatedAt_30 : decode cX0_seatedAt 30 = .ok (.iinc 3 1, 3) := by decide +kernel
theorem dX0_seatedAt_33 : decode cX0_seatedAt 33 = .ok (.goto (-29), 3) := by decide +kernel
theorem dX0_seatedAt_36 : decode cX0_seatedAt 36 = .ok (.bipush (-9), 2) := by decide +kernel
theorem dX0_seatedAt_38 : decode cX0_seatedAt 38 = .ok (.ireturn, 1) := by decide +kernel
set_option maxRecDepth 20000 in
theorem ggX0_takerOf_X8_placeAt : GoodIn wsX0_takerOf wsX8_placeAt := goodIn_r _ [4] (by decide +kernel) (by decide +kernel)
set_option maxRecDepth 20000 in
theorem gX0_takerOf_X8_placeAt_n92 : GoodIn wsX0_takerOf (wsX8_placeAt) := ggX0_takerOf_X8_placeAt
set_option maxRecDepth 20000 in
theorem ggX0_takerOf_X0_placeOf : GoodIn wsX0_takerOf wsX0_placeOf := goodIn_r _ [9, 10, 11, 12, 13, 8, 14, 1, 24, 25, 26, 27, 28, 29, 30, 31, 32, 33, 34] (by decide +kernel) (by decide +kernel)
set_option maxRecDepth 20000 in
theorem gX0_takerOf_X0_placeOf : GoodIn wsX0_takerOf (wsV RX0 83 RX0 yX0_placeOf wsX0_placeOf) := goodIn_app (goodIn_of _ (by decide +kernel)) ggX0_takerOf_X0_placeOf
set_option maxRecDepth 20000 in
theorem ggX0_takerOf_X0_isSeated : GoodIn wsX0_takerOf wsX0_isSeated := goodIn_r _ [18, 5, 6, 7, 8, 9, 10, 11, 12, 13, 14, 1, 24, 25, 26, 27, 28, 29, 30, 31, 32, 33, 34] (by decide +kernel) (by decide +kernel)
set_option maxRecDepth 20000 in
theorem gX0_takerOf_X0_isSeated : GoodIn wsX0_takerOf (wsV RX0 89 RX0 yX0_isSeated wsX0_isSeated) := goodIn_app (goodIn_of _ (by decide +kernel)) ggX0_takerOf_X0_isSeated
set_option maxRecDepth 20000 in
theorem ggX0_takerOf_X0_sizeOf : GoodIn wsX0_takerOf wsX0_sizeOf := goodIn_r _ [22, 23, 11, 12, 13, 8, 14, 1, 24, 25, 26, 27, 28, 29, 30, 31, 32, 33, 34] (by decide +kernel) (by decide +kernel)
set_option maxRecDepth 20000 in
theorem gX0_takerOf_X0_sizeOf : GoodIn wsX0_takerOf (wsV RX0 95 RX0 yX0_sizeOf wsX0_sizeOf) := goodIn_app (goodIn_of _ (by decide +kernel)) ggX0_takerOf_X0_sizeOf
theorem dX0_takerOf_0 : decode cX0_takerOf 0 = .ok (.iconst 1, 1) := by decide +kernel
theorem dX0_takerOf_1 : decode cX0_takerOf 1 = .ok (.istore_n 3, 1) := by decide +kernel
theorem dX0_takerOf_2 : decode cX0_takerOf 2 = .ok (.iload_n 3, 1) := by decide +kernel
theorem dX0_takerOf_3 : decode cX0_takerOf 3 = .ok (.aload_n 0, 1) := by decide +kernel
theorem dX0_takerOf_4 : decode cX0_takerOf 4 = .ok (.getfield 46, 3) := by decide +kernel
theorem dX0_takerOf_7 : decode cX0_takerOf 7 = .ok (.if_icmp .gt 47, 3) := by decide +kernel
theorem dX0_takerOf_10 : decode cX0_takerOf 10 = .ok (.iload_n 1, 1) := by decide +kernel
theorem dX0_takerOf_11 : decode cX0_takerOf 11 = .ok (.iload_n 2, 1) := by decide +kernel
theorem dX0_takerOf_12 : decode cX0_takerOf 12 = .ok (.invokestatic 92, 3) := by decide +kernel
theorem dX0_takerOf_15 : decode cX0_takerOf 15 = .ok (.aload_n 0, 1) := by decide +kernel
theorem dX0_takerOf_16 : decode cX0_takerOf 16 = .ok (.iload_n 3, 1) := by decide +kernel
theorem dX0_takerOf_17 : decode cX0_takerOf 17 = .ok (.invokevirtual 83, 3) := by decide +kernel
theorem dX0_takerOf_20 : decode cX0_takerOf 20 = .ok (.isub, 1) := by decide +kernel
theorem dX0_takerOf_21 : decode cX0_takerOf 21 = .ok (.istore 4, 2) := by decide +kernel
theorem dX0_takerOf_23 : decode cX0_takerOf 23 = .ok (.aload_n 0, 1) := by decide +kernel
theorem dX0_takerOf_24 : decode cX0_takerOf 24 = .ok (.iload_n 3, 1) := by decide +kernel
theorem dX0_takerOf_25 : decode cX0_takerOf 25 = .ok (.invokevirtual 89, 3) := by decide +kernel
theorem dX0_takerOf_28 : decode cX0_takerOf 28 = .ok (.ifCond .eq 20, 3) := by decide +kernel
theorem dX0_takerOf_31 : decode cX0_takerOf 31 = .ok (.iload 4, 2) := by decide +kernel
theorem dX0_takerOf_33 : decode cX0_takerOf 33 = .ok (.ifCond .lt 15, 3) := by decide +kernel
theorem dX0_takerOf_36 : decode cX0_takerOf 36 = .ok (.iload 4, 2) := by decide +kernel
theorem dX0_takerOf_38 : decode cX0_takerOf 38 = .ok (.aload_n 0, 1) := by decide +kernel
theorem dX0_takerOf_39 : decode cX0_takerOf 39 = .ok (.iload_n 3, 1) := by decide +kernel
theorem dX0_takerOf_40 : decode cX0_takerOf 40 = .ok (.invokevirtual 95, 3) := by decide +kernel
theorem dX0_takerOf_43 : decode cX0_takerOf 43 = .ok (.if_icmp .ge 5, 3) := by decide +kernel
theorem dX0_takerOf_46 : decode cX0_takerOf 46 = .ok (.iload_n 3, 1) := by decide +kernel
theorem dX0_takerOf_47 : decode cX0_takerOf 47 = .ok (.ireturn, 1) := by decide +kernel
theorem dX0_takerOf_48 : decode cX0_takerOf 48 = .ok (.iinc 3 1, 3) := by decide +kernel
theorem dX0_takerOf_51 : decode cX0_takerOf 51 = .ok (.goto (-49), 3) := by decide +kernel
theorem dX0_takerOf_54 : decode cX0_takerOf 54 = .ok (.iconst 0, 1) := by decide +kernel
theorem dX0_takerOf_55 : decode cX0_takerOf 55 = .ok (.ireturn, 1) := by decide +kernel
theorem dX0_positionOf_0 : decode cX0_positionOf 0 = .ok (.iconst 0, 1) := by decide +kernel
theorem dX0_positionOf_1 : decode cX0_positionOf 1 = .ok (.istore_n 2, 1) := by decide +kernel
theorem dX0_positionOf_2 : decode cX0_positionOf 2 = .ok (.iload_n 2, 1) := by decide +kernel
theorem dX0_positionOf_3 : decode cX0_positionOf 3 = .ok (.aload_n 0, 1) := by decide +kernel
theorem dX0_positionOf_4 : decode cX0_positionOf 4 = .ok (.getfield 50, 3) := by decide +kernel
theorem dX0_positionOf_7 : decode cX0_positionOf 7 = .ok (.if_icmp .ge 26, 3) := by decide +kernel
theorem dX0_positionOf_10 : decode cX0_positionOf 10 = .ok (.iload_n 2, 1) := by decide +kernel
theorem dX0_positionOf_11 : decode cX0_positionOf 11 = .ok (.iconst 5, 1) := by decide +kernel
theorem dX0_positionOf_12 : decode cX0_positionOf 12 = .ok (.if_icmp .ge 21, 3) := by decide +kernel
theorem dX0_positionOf_15 : decode cX0_positionOf 15 = .ok (.aload_n 0, 1) := by decide +kernel
theorem dX0_positionOf_16 : decode cX0_positionOf 16 = .ok (.getfield 30, 3) := by decide +kernel
theorem dX0_positionOf_19 : decode cX0_positionOf 19 = .ok (.iload_n 2, 1) := by decide +kernel
theorem dX0_positionOf_20 : decode cX0_positionOf 20 = .ok (.iaload, 1) := by decide +kernel
theorem dX0_positionOf_21 : decode cX0_positionOf 21 = .ok (.iload_n 1, 1) := by decide +kernel
theorem dX0_positionOf_22 : decode cX0_positionOf 22 = .ok (.if_icmp .ne 5, 3) := by decide +kernel
theorem dX0_positionOf_25 : decode cX0_positionOf 25 = .ok (.iload_n 2, 1) := by decide +kernel
theorem dX0_positionOf_26 : decode cX0_positionOf 26 = .ok (.ireturn, 1) := by decide +kernel
theorem dX0_positionOf_27 : decode cX0_positionOf 27 = .ok (.iinc 2 1, 3) := by decide +kernel
theorem dX0_positionOf_30 : decode cX0_positionOf 30 = .ok (.goto (-28), 3) := by decide +kernel
theorem dX0_positionOf_33 : decode cX0_positionOf 33 = .ok (.bipush (-9), 2) := by decide +kernel
theorem dX0_positionOf_35 : decode cX0_positionOf 35 = .ok (.ireturn, 1) := by decide +kernel
theorem dX0_waitingAt_0 : decode cX0_waitingAt 0 = .ok (.iload_n 1, 1) := by decide +kernel
theorem dX0_waitingAt_1 : decode cX0_waitingAt 1 = .ok (.ifCond .lt 20, 3) := by decide +kernel
theorem dX0_waitingAt_4 : decode cX0_waitingAt 4 = .ok (.iload_n 1, 1) := by decide +kernel
theorem dX0_waitingAt_5 : decode cX0_waitingAt 5 = .ok (.aload_n 0, 1) := by decide +kernel
theorem dX0_waitingAt_6 : decode cX0_waitingAt 6 = .ok (.getfield 50, 3) := by decide +kernel
theorem dX0_waitingAt_9 : decode cX0_waitingAt 9 = .ok (.if_icmp .ge 12, 3) := by decide +kernel
theorem dX0_waitingAt_12 : decode cX0_waitingAt 12 = .ok (.aload_n 0, 1) := by decide +kernel
theorem dX0_waitingAt_13 : decode cX0_waitingAt 13 = .ok (.getfield 30, 3) := by decide +kernel
theorem dX0_waitingAt_16 : decode cX0_waitingAt 16 = .ok (.iload_n 1, 1) := by decide +kernel
theorem dX0_waitingAt_17 : decode cX0_waitingAt 17 = .ok (.iaload, 1) := by decide +kernel
theorem dX0_waitingAt_18 : decode cX0_waitingAt 18 = .ok (.goto 5, 3) := by decide +kernel
theorem dX0_waitingAt_21 : decode cX0_waitingAt 21 = .ok (.bipush (-9), 2) := by decide +kernel
theorem dX0_waitingAt_23 : decode cX0_waitingAt 23 = .ok (.ireturn, 1) := by decide +kernel
theorem dX0_isFullFor_0 : decode cX0_isFullFor 0 = .ok (.aload_n 0, 1) := by decide +kernel
theorem dX0_isFullFor_1 : decode cX0_isFullFor 1 = .ok (.getfield 46, 3) := by decide +kernel
theorem dX0_isFullFor_4 : decode cX0_isFullFor 4 = .ok (.bipush 30, 2) := by decide +kernel
theorem dX0_isFullFor_6 : decode cX0_isFullFor 6 = .ok (.if_icmp .ge 17, 3) := by decide +kernel
theorem dX0_isFullFor_9 : decode cX0_isFullFor 9 = .ok (.iload_n 1, 1) := by decide +kernel
theorem dX0_isFullFor_10 : decode cX0_isFullFor 10 = .ok (.bipush (-9), 2) := by decide +kernel
theorem dX0_isFullFor_12 : decode cX0_isFullFor 12 = .ok (.if_icmp .ne 15, 3) := by decide +kernel
theorem dX0_isFullFor_15 : decode cX0_isFullFor 15 = .ok (.aload_n 0, 1) := by decide +kernel
theorem dX0_isFullFor_16 : decode cX0_isFullFor 16 = .ok (.getfield 50, 3) := by decide +kernel
theorem dX0_isFullFor_19 : decode cX0_isFullFor 19 = .ok (.iconst 5, 1) := by decide +kernel
theorem dX0_isFullFor_20 : decode cX0_isFullFor 20 = .ok (.if_icmp .lt 7, 3) := by decide +kernel
theorem dX0_isFullFor_23 : decode cX0_isFullFor 23 = .ok (.iconst 1, 1) := by decide +kernel
theorem dX0_isFullFor_24 : decode cX0_isFullFor 24 = .ok (.goto 4, 3) := by decide +kernel
theorem dX0_isFullFor_27 : decode cX0_isFullFor 27 = .ok (.iconst 0, 1) := by decide +kernel
theorem dX0_isFullFor_28 : decode cX0_isFullFor 28 = .ok (.ireturn, 1) := by decide +kernel
set_option maxRecDepth 20000 in
theorem ggX0_admit_X0_isFullFor : GoodIn wsX0_admit wsX0_isFullFor := goodIn_r _ [12, 1, 7, 42, 43, 44, 45, 46, 47, 48, 49, 50, 51, 52] (by decide +kernel) (by decide +kernel)
set_option maxRecDepth 20000 in
theorem gX0_admit_X0_isFullFor : GoodIn wsX0_admit (wsV RX0 98 RX0 yX0_isFullFor wsX0_isFullFor) := goodIn_app (goodIn_of _ (by decide +kernel)) ggX0_admit_X0_isFullFor
set_option maxRecDepth 20000 in
theorem ggX0_admit_X0_settle : GoodIn wsX0_admit wsX0_settle := goodIn_r _ [16, 4, 5, 2, 17, 18, 19, 20, 11, 21, 1, 22, 23, 24, 25, 26, 27, 28, 29, 30, 31, 32, 33, 34, 35, 36, 37, 38, 39, 40, 41, 42, 43, 44, 45, 46, 47, 48, 49, 50, 51, 52] (by decide +kernel) (by decide +kernel)
set_option maxRecDepth 20000 in
theorem gX0_admit_X0_settle : GoodIn wsX0_admit (wsV RX0 101 RX0 yX0_settle wsX0_settle) := goodIn_app (goodIn_of _ (by decide +kernel)) ggX0_admit_X0_settle
theorem dX0_admit_0 : decode cX0_admit 0 = .ok (.aload_n 0, 1) := by decide +kernel
theorem dX0_admit_1 : decode cX0_admit 1 = .ok (.iload_n 3, 1) := by decide +kernel
theorem dX0_admit_2 : decode cX0_admit 2 = .ok (.invokevirtual 98, 3) := by decide +kernel
theorem dX0_admit_5 : decode cX0_admit 5 = .ok (.ifCond .eq 6, 3) := by decide +kernel
theorem dX0_admit_8 : decode cX0_admit 8 = .ok (.bipush (-4), 2) := by decide +kernel
theorem dX0_admit_10 : decode cX0_admit 10 = .ok (.ireturn, 1) := by decide +kernel
theorem dX0_admit_11 : decode cX0_admit 11 = .ok (.aload_n 0, 1) := by decide +kernel
theorem dX0_admit_12 : decode cX0_admit 12 = .ok (.dup, 1) := by decide +kernel
theorem dX0_admit_13 : decode cX0_admit 13 = .ok (.getfield 46, 3) := by decide +kernel
theorem dX0_admit_16 : decode cX0_admit 16 = .ok (.iconst 1, 1) := by decide +kernel
theorem dX0_admit_17 : decode cX0_admit 17 = .ok (.iadd, 1) := by decide +kernel
theorem dX0_admit_18 : decode cX0_admit 18 = .ok (.putfield 46, 3) := by decide +kernel
theorem dX0_admit_21 : decode cX0_admit 21 = .ok (.aload_n 0, 1) := by decide +kernel
theorem dX0_admit_22 : decode cX0_admit 22 = .ok (.getfield 18, 3) := by decide +kernel
theorem dX0_admit_25 : decode cX0_admit 25 = .ok (.aload_n 0, 1) := by decide +kernel
theorem dX0_admit_26 : decode cX0_admit 26 = .ok (.getfield 46, 3) := by decide +kernel
theorem dX0_admit_29 : decode cX0_admit 29 = .ok (.iload_n 1, 1) := by decide +kernel
theorem dX0_admit_30 : decode cX0_admit 30 = .ok (.iastore, 1) := by decide +kernel
theorem dX0_admit_31 : decode cX0_admit 31 = .ok (.aload_n 0, 1) := by decide +kernel
theorem dX0_admit_32 : decode cX0_admit 32 = .ok (.getfield 21, 3) := by decide +kernel
theorem dX0_admit_35 : decode cX0_admit 35 = .ok (.aload_n 0, 1) := by decide +kernel
theorem dX0_admit_36 : decode cX0_admit 36 = .ok (.getfield 46, 3) := by decide +kernel
theorem dX0_admit_39 : decode cX0_admit 39 = .ok (.iload_n 2, 1) := by decide +kernel
theorem dX0_admit_40 : decode cX0_admit 40 = .ok (.iastore, 1) := by decide +kernel
theorem dX0_admit_41 : decode cX0_admit 41 = .ok (.aload_n 0, 1) := by decide +kernel
theorem dX0_admit_42 : decode cX0_admit 42 = .ok (.getfield 24, 3) := by decide +kernel
theorem dX0_admit_45 : decode cX0_admit 45 = .ok (.aload_n 0, 1) := by decide +kernel
theorem dX0_admit_46 : decode cX0_admit 46 = .ok (.getfield 46, 3) := by decide +kernel
theorem dX0_admit_49 : decode cX0_admit 49 = .ok (.bipush (-9), 2) := by decide +kernel
theorem dX0_admit_51 : decode cX0_admit 51 = .ok (.iastore, 1) := by decide +kernel
theorem dX0_admit_52 : decode cX0_admit 52 = .ok (.aload_n 0, 1) := by decide +kernel
theorem dX0_admit_53 : decode cX0_admit 53 = .ok (.getfield 27, 3) := by decide +kernel
theorem dX0_admit_56 : decode cX0_admit 56 = .ok (.aload_n 0, 1) := by decide +kernel
theorem dX0_admit_57 : decode cX0_admit 57 = .ok (.getfield 46, 3) := by decide +kernel
theorem dX0_admit_60 : decode cX0_admit 60 = .ok (.iconst 0, 1) := by decide +kernel
theorem dX0_admit_61 : decode cX0_admit 61 = .ok (.iastore, 1) := by decide +kernel
theorem dX0_admit_62 : decode cX0_admit 62 = .ok (.iload_n 3, 1) := by decide +kernel
theorem dX0_admit_63 : decode cX0_admit 63 = .ok (.bipush (-9), 2) := by decide +kernel
theorem dX0_admit_65 : decode cX0_admit 65 = .ok (.if_icmp .ne 29, 3) := by decide +kernel
theorem dX0_admit_68 : decode cX0_admit 68 = .ok (.aload_n 0, 1) := by decide +kernel
theorem dX0_admit_69 : decode cX0_admit 69 = .ok (.getfield 30, 3) := by decide +kernel
theorem dX0_admit_72 : decode cX0_admit 72 = .ok (.aload_n 0, 1) := by decide +kernel
theorem dX0_admit_73 : decode cX0_admit 73 = .ok (.getfield 50, 3) := by decide +kernel
theorem dX0_admit_76 : decode cX0_admit 76 = .ok (.aload_n 0, 1) := by decide +kernel
theorem dX0_admit_77 : decode cX0_admit 77 = .ok (.getfield 46, 3) := by decide +kernel
theorem dX0_admit_80 : decode cX0_admit 80 = .ok (.iastore, 1) := by decide +kernel
theorem dX0_admit_81 : decode cX0_admit 81 = .ok (.aload_n 0, 1) := by decide +kernel
theorem dX0_admit_82 : decode cX0_admit 82 = .ok (.dup, 1) := by decide +kernel
theorem dX0_admit_83 : decode cX0_admit 83 = .ok (.getfield 50, 3) := by decide +kernel
theorem dX0_admit_86 : decode cX0_admit 86 = .ok (.iconst 1, 1) := by decide +kernel
theorem dX0_admit_87 : decode cX0_admit 87 = .ok (.iadd, 1) := by decide +kernel
theorem dX0_admit_88 : decode cX0_admit 88 = .ok (.putfield 50, 3) := by decide +kernel
theorem dX0_admit_91 : decode cX0_admit 91 = .ok (.goto 12, 3) := by decide +kernel
theorem dX0_admit_94 : decode cX0_admit 94 = .ok (.aload_n 0, 1) := by decide +kernel
theorem dX0_admit_95 : decode cX0_admit 95 = .ok (.aload_n 0, 1) := by decide +kernel
theorem dX0_admit_96 : decode cX0_admit 96 = .ok (.getfield 46, 3) := by decide +kernel
theorem dX0_admit_99 : decode cX0_admit 99 = .ok (.iload_n 3, 1) := by decide +kernel
theorem dX0_admit_100 : decode cX0_admit 100 = .ok (.invokevirtual 101, 3) := by decide +kernel
theorem dX0_admit_103 : decode cX0_admit 103 = .ok (.aload_n 0, 1) := by decide +kernel
theorem dX0_admit_104 : decode cX0_admit 104 = .ok (.getfield 46, 3) := by decide +kernel
theorem dX0_admit_107 : decode cX0_admit 107 = .ok (.ireturn, 1) := by decide +kernel
set_option maxRecDepth 20000 in
theorem ggX0_settle_X0_knows : GoodIn wsX0_settle wsX0_knows := goodIn_r _ [9, 10, 31, 32, 33, 34, 35, 36, 37, 38, 39, 40, 41] (by decide +kernel) (by decide +kernel)
set_option maxRecDepth 20000 in
theorem gX0_settle_X0_knows : GoodIn wsX0_settle (wsV RX0 80 RX0 yX0_knows wsX0_knows) := goodIn_app (goodIn_of _ (by decide +kernel)) ggX0_settle_X0_knows
set_option maxRecDepth 20000 in
theorem ggX0_settle_X8_rowOf : GoodIn wsX0_settle wsX8_rowOf := goodIn_r _ [13] (by decide +kernel) (by decide +kernel)
set_option maxRecDepth 20000 in
theorem gX0_settle_X8_rowOf_n74 : GoodIn wsX0_settle (wsX8_rowOf) := ggX0_settle_X8_rowOf
set_option maxRecDepth 20000 in
theorem ggX0_settle_X0_priceOf : GoodIn wsX0_settle wsX0_priceOf := goodIn_r _ [17, 18, 19, 20, 8, 21, 31, 32, 33, 34, 35, 36, 37, 38, 39, 40, 41] (by decide +kernel) (by decide +kernel)
set_option maxRecDepth 20000 in
theorem gX0_settle_X0_priceOf : GoodIn wsX0_settle (wsV RX0 105 RX0 yX0_priceOf wsX0_priceOf) := goodIn_app (goodIn_of _ (by decide +kernel)) ggX0_settle_X0_priceOf
set_option maxRecDepth 20000 in
theorem ggX0_settle_X0_take : GoodIn wsX0_settle wsX0_take := goodIn_r _ [25, 26, 11, 12, 13, 19, 20, 8, 21, 27, 28, 29, 30, 31, 32, 33, 34, 35, 36, 37, 38, 39, 40, 41] (by decide +kernel) (by decide +kernel)
set_option maxRecDepth 20000 in
theorem gX0_settle_X0_take : GoodIn wsX0_settle (wsV RX0 108 RX0 yX0_take wsX0_take) := goodIn_app (goodIn_of _ (by decide +kernel)) ggX0_settle_X0_take
theorem dX0_settle_0 : decode cX0_settle 0 = .ok (.aload_n 0, 1) := by decide +kernel
theorem dX0_settle_1 : decode cX0_settle 1 = .ok (.iload_n 1, 1) := by decide +kernel
theorem dX0_settle_2 : decode cX0_settle 2 = .ok (.invokevirtual 80, 3) := by decide +kernel
theorem dX0_settle_5 : decode cX0_settle 5 = .ok (.ifCond .ne 4, 3) := by decide +kernel
theorem dX0_settle_8 : decode cX0_settle 8 = .ok (.return_, 1) := by decide +kernel
theorem dX0_settle_9 : decode cX0_settle 9 = .ok (.aload_n 0, 1) := by decide +kernel
theorem dX0_settle_10 : decode cX0_settle 10 = .ok (.getfield 24, 3) := by decide +kernel
theorem dX0_settle_13 : decode cX0_settle 13 = .ok (.iload_n 1, 1) := by decide +kernel
theorem dX0_settle_14 : decode cX0_settle 14 = .ok (.iload_n 2, 1) := by decide +kernel
theorem dX0_settle_15 : decode cX0_settle 15 = .ok (.iastore, 1) := by decide +kernel
theorem dX0_settle_16 : decode cX0_settle 16 = .ok (.aload_n 0, 1) := by decide +kernel
theorem dX0_settle_17 : decode cX0_settle 17 = .ok (.getfield 27, 3) := by decide +kernel
theorem dX0_settle_20 : decode cX0_settle 20 = .ok (.iload_n 1, 1) := by decide +kernel
theorem dX0_settle_21 : decode cX0_settle 21 = .ok (.aload_n 0, 1) := by decide +kernel
theorem dX0_settle_22 : decode cX0_settle 22 = .ok (.getfield 18, 3) := by decide +kernel
theorem dX0_settle_25 : decode cX0_settle 25 = .ok (.iload_n 1, 1) := by decide +kernel
theorem dX0_settle_26 : decode cX0_settle 26 = .ok (.iaload, 1) := by decide +kernel
theorem dX0_settle_27 : decode cX0_settle 27 = .ok (.aload_n 0, 1) := by decide +kernel
theorem dX0_settle_28 : decode cX0_settle 28 = .ok (.iload_n 2, 1) := by decide +kernel
theorem dX0_settle_29 : decode cX0_settle 29 = .ok (.invokestatic 74, 3) := by decide +kernel
theorem dX0_settle_32 : decode cX0_settle 32 = .ok (.invokevirtual 105, 3) := by decide +kernel
theorem dX0_settle_35 : decode cX0_settle 35 = .ok (.imul, 1) := by decide +kernel
theorem dX0_settle_36 : decode cX0_settle 36 = .ok (.iastore, 1) := by decide +kernel
theorem dX0_settle_37 : decode cX0_settle 37 = .ok (.aload_n 0, 1) := by decide +kernel
theorem dX0_settle_38 : decode cX0_settle 38 = .ok (.dup, 1) := by decide +kernel
theorem dX0_settle_39 : decode cX0_settle 39 = .ok (.getfield 56, 3) := by decide +kernel
theorem dX0_settle_42 : decode cX0_settle 42 = .ok (.aload_n 0, 1) := by decide +kernel
theorem dX0_settle_43 : decode cX0_settle 43 = .ok (.getfield 27, 3) := by decide +kernel
theorem dX0_settle_46 : decode cX0_settle 46 = .ok (.iload_n 1, 1) := by decide +kernel
theorem dX0_settle_47 : decode cX0_settle 47 = .ok (.iaload, 1) := by decide +kernel
theorem dX0_settle_48 : decode cX0_settle 48 = .ok (.iadd, 1) := by decide +kernel
theorem dX0_settle_49 : decode cX0_settle 49 = .ok (.putfield 56, 3) := by decide +kernel
theorem dX0_settle_52 : decode cX0_settle 52 = .ok (.aload_n 0, 1) := by decide +kernel
theorem dX0_settle_53 : decode cX0_settle 53 = .ok (.iload_n 2, 1) := by decide +kernel
theorem dX0_settle_54 : decode cX0_settle 54 = .ok (.aload_n 0, 1) := by decide +kernel
theorem dX0_settle_55 : decode cX0_settle 55 = .ok (.getfield 18, 3) := by decide +kernel
theorem dX0_settle_58 : decode cX0_settle 58 = .ok (.iload_n 1, 1) := by decide +kernel
theorem dX0_settle_59 : decode cX0_settle 59 = .ok (.iaload, 1) := by decide +kernel
theorem dX0_settle_60 : decode cX0_settle 60 = .ok (.invokevirtual 108, 3) := by decide +kernel
theorem dX0_settle_63 : decode cX0_settle 63 = .ok (.return_, 1) := by decide +kernel
set_option maxRecDepth 20000 in
theorem ggX0_release_X0_isSeated : GoodIn wsX0_release wsX0_isSeated := goodIn_r _ [14, 15, 16, 17, 13, 18, 8, 19, 20, 21, 22, 23, 39, 40, 41, 42, 43, 44, 45, 46, 47, 48, 49] (by decide +kernel) (by decide +kernel)
set_option maxRecDepth 20000 in
theorem gX0_release_X0_isSeated : GoodIn wsX0_release (wsV RX0 89 RX0 yX0_isSeated wsX0_isSeated) := goodIn_app (goodIn_of _ (by decide +kernel)) ggX0_release_X0_isSeated
set_option maxRecDepth 20000 in
theorem ggX0_release_X0_clear : GoodIn wsX0_release wsX0_clear := goodIn_r _ [27, 28, 29, 30, 31, 32, 33, 13, 34, 35, 36, 37, 38, 39, 40, 41, 42, 43, 44, 45, 46, 47, 48, 49] (by decide +kernel) (by decide +kernel)
set_option maxRecDepth 20000 in
theorem gX0_release_X0_clear : GoodIn wsX0_release (wsV RX0 116 RX0 yX0_clear wsX0_clear) := goodIn_app (goodIn_of _ (by decide +kernel)) ggX0_release_X0_clear
theorem dX0_release_0 : decode cX0_release 0 = .ok (.aload_n 0, 1) := by decide +kernel
theorem dX0_release_1 : decode cX0_release 1 = .ok (.iload_n 1, 1) := by decide +kernel
theorem dX0_release_2 : decode cX0_release 2 = .ok (.invokevirtual 89, 3) := by decide +kernel
theorem dX0_release_5 : decode cX0_release 5 = .ok (.ifCond .ne 5, 3) := by decide +kernel
theorem dX0_release_8 : decode cX0_release 8 = .ok (.iconst 0, 1) := by decide +kernel
theorem dX0_release_9 : decode cX0_release 9 = .ok (.ireturn, 1) := by decide +kernel
theorem dX0_release_10 : decode cX0_release 10 = .ok (.iconst 0, 1) := by decide +kernel
theorem dX0_release_11 : decode cX0_release 11 = .ok (.aload_n 0, 1) := by decide +kernel
theorem dX0_release_12 : decode cX0_release 12 = .ok (.getfield 27, 3) := by decide +kernel
theorem dX0_release_15 : decode cX0_release 15 = .ok (.iload_n 1, 1) := by decide +kernel
theorem dX0_release_16 : decode cX0_release 16 = .ok (.iaload, 1) := by decide +kernel
theorem dX0_release_17 : decode cX0_release 17 = .ok (.aload_n 0, 1) := by decide +kernel
theorem dX0_release_18 : decode cX0_release 18 = .ok (.getfield 18, 3) := by decide +kernel
theorem dX0_release_21 : decode cX0_release 21 = .ok (.iload_n 1, 1) := by decide +kernel
theorem dX0_release_22 : decode cX0_release 22 = .ok (.iaload, 1) := by decide +kernel
theorem dX0_release_23 : decode cX0_release 23 = .ok (.aload_n 0, 1) := by decide +kernel
theorem dX0_release_24 : decode cX0_release 24 = .ok (.getfield 53, 3) := by decide +kernel
theorem dX0_release_27 : decode cX0_release 27 = .ok (.imul, 1) := by decide +kernel
theorem dX0_release_28 : decode cX0_release 28 = .ok (.isub, 1) := by decide +kernel
theorem dX0_release_29 : decode cX0_release 29 = .ok (.invokestatic 111, 3) := by decide +kernel
theorem dX0_release_32 : decode cX0_release 32 = .ok (.istore_n 2, 1) := by decide +kernel
theorem dX0_release_33 : decode cX0_release 33 = .ok (.aload_n 0, 1) := by decide +kernel
theorem dX0_release_34 : decode cX0_release 34 = .ok (.aload_n 0, 1) := by decide +kernel
theorem dX0_release_35 : decode cX0_release 35 = .ok (.getfield 24, 3) := by decide +kernel
theorem dX0_release_38 : decode cX0_release 38 = .ok (.iload_n 1, 1) := by decide +kernel
theorem dX0_release_39 : decode cX0_release 39 = .ok (.iaload, 1) := by decide +kernel
theorem dX0_release_40 : decode cX0_release 40 = .ok (.aload_n 0, 1) := by decide +kernel
theorem dX0_release_41 : decode cX0_release 41 = .ok (.getfield 18, 3) := by decide +kernel
theorem dX0_release_44 : decode cX0_release 44 = .ok (.iload_n 1, 1) := by decide +kernel
theorem dX0_release_45 : decode cX0_release 45 = .ok (.iaload, 1) := by decide +kernel
theorem dX0_release_46 : decode cX0_release 46 = .ok (.invokevirtual 116, 3) := by decide +kernel
theorem dX0_release_49 : decode cX0_release 49 = .ok (.aload_n 0, 1) := by decide +kernel
theorem dX0_release_50 : decode cX0_release 50 = .ok (.getfield 24, 3) := by decide +kernel
theorem dX0_release_53 : decode cX0_release 53 = .ok (.iload_n 1, 1) := by decide +kernel
theorem dX0_release_54 : decode cX0_release 54 = .ok (.bipush (-9), 2) := by decide +kernel
theorem dX0_release_56 : decode cX0_release 56 = .ok (.iastore, 1) := by decide +kernel
theorem dX0_release_57 : decode cX0_release 57 = .ok (.aload_n 0, 1) := by decide +kernel
theorem dX0_release_58 : decode cX0_release 58 = .ok (.getfield 27, 3) := by decide +kernel
theorem dX0_release_61 : decode cX0_release 61 = .ok (.iload_n 1, 1) := by decide +kernel
theorem dX0_release_62 : decode cX0_release 62 = .ok (.iconst 0, 1) := by decide +kernel
theorem dX0_release_63 : decode cX0_release 63 = .ok (.iastore, 1) := by decide +kernel
theorem dX0_release_64 : decode cX0_release 64 = .ok (.aload_n 0, 1) := by decide +kernel
theorem dX0_release_65 : decode cX0_release 65 = .ok (.dup, 1) := by decide +kernel
theorem dX0_release_66 : decode cX0_release 66 = .ok (.getfield 56, 3) := by decide +kernel
theorem dX0_release_69 : decode cX0_release 69 = .ok (.iload_n 2, 1) := by decide +kernel
theorem dX0_release_70 : decode cX0_release 70 = .ok (.isub, 1) := by decide +kernel
theorem dX0_release_71 : decode cX0_release 71 = .ok (.putfield 56, 3) := by decide +kernel
theorem dX0_release_74 : decode cX0_release 74 = .ok (.iload_n 2, 1) := by decide +kernel
theorem dX0_release_75 : decode cX0_release 75 = .ok (.ireturn, 1) := by decide +kernel
set_option maxRecDepth 20000 in
theorem ggX0_move_X0_isSeated : GoodIn wsX0_move wsX0_isSeated := goodIn_r _ [7, 8, 9, 10, 6, 11, 1, 12, 13, 14, 15, 16, 36, 37, 38, 39, 40, 41, 42, 43, 44, 45, 46] (by decide +kernel) (by decide +kernel)
set_option maxRecDepth 20000 in
theorem gX0_move_X0_isSeated : GoodIn wsX0_move (wsV RX0 89 RX0 yX0_isSeated wsX0_isSeated) := goodIn_app (goodIn_of _ (by decide +kernel)) ggX0_move_X0_isSeated
set_option maxRecDepth 20000 in
theorem ggX0_move_X0_clear : GoodIn wsX0_move wsX0_clear := goodIn_r _ [20, 21, 22, 23, 24, 25, 26, 6, 27, 28, 29, 30, 31, 36, 37, 38, 39, 40, 41, 42, 43, 44, 45, 46] (by decide +kernel) (by decide +kernel)
set_option maxRecDepth 20000 in
theorem gX0_move_X0_clear : GoodIn wsX0_move (wsV RX0 116 RX0 yX0_clear wsX0_clear) := goodIn_app (goodIn_of _ (by decide +kernel)) ggX0_move_X0_clear
set_option maxRecDepth 20000 in
theorem ggX0_move_X0_take : GoodIn wsX0_move wsX0_take := goodIn_r _ [35, 21, 22, 23, 24, 25, 26, 6, 27, 28, 29, 30, 31, 36, 37, 38, 39, 40, 41, 42, 43, 44, 45, 46] (by decide +kernel) (by decide +kernel)
set_option maxRecDepth 20000 in
theorem gX0_move_X0_take : GoodIn wsX0_move (wsV RX0 108 RX0 yX0_take wsX0_take) := goodIn_app (goodIn_of _ (by decide +kernel)) ggX0_move_X0_take
theorem dX0_move_0 : decode cX0_move 0 = .ok (.aload_n 0, 1) := by decide +kernel
theorem dX0_move_1 : decode cX0_move 1 = .ok (.iload_n 1, 1) := by decide +kernel
theorem dX0_move_2 : decode cX0_move 2 = .ok (.invokevirtual 89, 3) := by decide +kernel
theorem dX0_move_5 : decode cX0_move 5 = .ok (.ifCond .ne 4, 3) := by decide +kernel
theorem dX0_move_8 : decode cX0_move 8 = .ok (.return_, 1) := by decide +kernel
theorem dX0_move_9 : decode cX0_move 9 = .ok (.aload_n 0, 1) := by decide +kernel
theorem dX0_move_10 : decode cX0_move 10 = .ok (.aload_n 0, 1) := by decide +kernel
theorem dX0_move_11 : decode cX0_move 11 = .ok (.getfield 24, 3) := by decide +kernel
theorem dX0_move_14 : decode cX0_move 14 = .ok (.iload_n 1, 1) := by decide +kernel
theorem dX0_move_15 : decode cX0_move 15 = .ok (.iaload, 1) := by decide +kernel
theorem dX0_move_16 : decode cX0_move 16 = .ok (.aload_n 0, 1) := by decide +kernel
theorem dX0_move_17 : decode cX0_move 17 = .ok (.getfield 18, 3) := by decide +kernel
theorem dX0_move_20 : decode cX0_move 20 = .ok (.iload_n 1, 1) := by decide +kernel
theorem dX0_move_21 : decode cX0_move 21 = .ok (.iaload, 1) := by decide +kernel
theorem dX0_move_22 : decode cX0_move 22 = .ok (.invokevirtual 116, 3) := by decide +kernel
theorem dX0_move_25 : decode cX0_move 25 = .ok (.aload_n 0, 1) := by decide +kernel
theorem dX0_move_26 : decode cX0_move 26 = .ok (.getfield 24, 3) := by decide +kernel
theorem dX0_move_29 : decode cX0_move 29 = .ok (.iload_n 1, 1) := by decide +kernel
theorem dX0_move_30 : decode cX0_move 30 = .ok (.iload_n 2, 1) := by decide +kernel
theorem dX0_move_31 : decode cX0_move 31 = .ok (.iastore, 1) := by decide +kernel
theorem dX0_move_32 : decode cX0_move 32 = .ok (.aload_n 0, 1) := by decide +kernel
theorem dX0_move_33 : decode cX0_move 33 = .ok (.iload_n 2, 1) := by decide +kernel
theorem dX0_move_34 : decode cX0_move 34 = .ok (.aload_n 0, 1) := by decide +kernel
theorem dX0_move_35 : decode cX0_move 35 = .ok (.getfield 18, 3) := by decide +kernel
theorem dX0_move_38 : decode cX0_move 38 = .ok (.iload_n 1, 1) := by decide +kernel
theorem dX0_move_39 : decode cX0_move 39 = .ok (.iaload, 1) := by decide +kernel
theorem dX0_move_40 : decode cX0_move 40 = .ok (.invokevirtual 108, 3) := by decide +kernel
theorem dX0_move_43 : decode cX0_move 43 = .ok (.return_, 1) := by decide +kernel
set_option maxRecDepth 20000 in
theorem ggX0_dequeue_X0_positionOf : GoodIn wsX0_dequeue wsX0_positionOf := goodIn_r _ [7, 1, 2, 8, 9, 10, 11, 12, 13, 14, 15, 16, 17, 18] (by decide +kernel) (by decide +kernel)
set_option maxRecDepth 20000 in
theorem gX0_dequeue_X0_positionOf : GoodIn wsX0_dequeue (wsV RX0 86 RX0 yX0_positionOf wsX0_positionOf) := goodIn_app (goodIn_of _ (by decide +kernel)) ggX0_dequeue_X0_positionOf
theorem dX0_dequeue_0 : decode cX0_dequeue 0 = .ok (.aload_n 0, 1) := by decide +kernel
theorem dX0_dequeue_1 : decode cX0_dequeue 1 = .ok (.iload_n 1, 1) := by decide +kernel
theorem dX0_dequeue_2 : decode cX0_dequeue 2 = .ok (.invokevirtual 86, 3) := by decide +kernel
theorem dX0_dequeue_5 : decode cX0_dequeue 5 = .ok (.istore_n 2, 1) := by decide +kernel
theorem dX0_dequeue_6 : decode cX0_dequeue 6 = .ok (.iload_n 2, 1) := by decide +kernel
theorem dX0_dequeue_7 : decode cX0_dequeue 7 = .ok (.ifCond .ge 4, 3) := by decide +kernel
theorem dX0_dequeue_10 : decode cX0_dequeue 10 = .ok (.return_, 1) := by decide +kernel
theorem dX0_dequeue_11 : decode cX0_dequeue 11 = .ok (.iload_n 2, 1) := by decide +kernel
theorem dX0_dequeue_12 : decode cX0_dequeue 12 = .ok (.istore_n 3, 1) := by decide +kernel
theorem dX0_dequeue_13 : decode cX0_dequeue 13 = .ok (.iload_n 3, 1) := by decide +kernel
theorem dX0_dequeue_14 : decode cX0_dequeue 14 = .ok (.iconst 1, 1) := by decide +kernel
theorem dX0_dequeue_15 : decode cX0_dequeue 15 = .ok (.iadd, 1) := by decide +kernel
theorem dX0_dequeue_16 : decode cX0_dequeue 16 = .ok (.aload_n 0, 1) := by decide +kernel
theorem dX0_dequeue_17 : decode cX0_dequeue 17 = .ok (.getfield 50, 3) := by decide +kernel
theorem dX0_dequeue_20 : decode cX0_dequeue 20 = .ok (.if_icmp .ge 30, 3) := by decide +kernel
theorem dX0_dequeue_23 : decode cX0_dequeue 23 = .ok (.iload_n 3, 1) := by decide +kernel
theorem dX0_dequeue_24 : decode cX0_dequeue 24 = .ok (.iconst 1, 1) := by decide +kernel
theorem dX0_dequeue_25 : decode cX0_dequeue 25 = .ok (.iadd, 1) := by decide +kernel
theorem dX0_dequeue_26 : decode cX0_dequeue 26 = .ok (.iconst 5, 1) := by decide +kernel
theorem dX0_dequeue_27 : decode cX0_dequeue 27 = .ok (.if_icmp .ge 23, 3) := by decide +kernel
theorem dX0_dequeue_30 : decode cX0_dequeue 30 = .ok (.aload_n 0, 1) := by decide +kernel
theorem dX0_dequeue_31 : decode cX0_dequeue 31 = .ok (.getfield 30, 3) := by decide +kernel
theorem dX0_dequeue_34 : decode cX0_dequeue 34 = .ok (.iload_n 3, 1) := by decide +kernel
theorem dX0_dequeue_35 : decode cX0_dequeue 35 = .ok (.aload_n 0, 1) := by decide +kernel
theorem dX0_dequeue_36 : decode cX0_dequeue 36 = .ok (.getfield 30, 3) := by decide +kernel
theorem dX0_dequeue_39 : decode cX0_dequeue 39 = .ok (.iload_n 3, 1) := by decide +kernel
theorem dX0_dequeue_40 : decode cX0_dequeue 40 = .ok (.iconst 1, 1) := by decide +kernel
theorem dX0_dequeue_41 : decode cX0_dequeue 41 = .ok (.iadd, 1) := by decide +kernel
theorem dX0_dequeue_42 : decode cX0_dequeue 42 = .ok (.iaload, 1) := by decide +kernel
theorem dX0_dequeue_43 : decode cX0_dequeue 43 = .ok (.iastore, 1) := by decide +kernel
theorem dX0_dequeue_44 : decode cX0_dequeue 44 = .ok (.iinc 3 1, 3) := by decide +kernel
theorem dX0_dequeue_47 : decode cX0_dequeue 47 = .ok (.goto (-34), 3) := by decide +kernel
theorem dX0_dequeue_50 : decode cX0_dequeue 50 = .ok (.aload_n 0, 1) := by decide +kernel
theorem dX0_dequeue_51 : decode cX0_dequeue 51 = .ok (.dup, 1) := by decide +kernel
theorem dX0_dequeue_52 : decode cX0_dequeue 52 = .ok (.getfield 50, 3) := by decide +kernel
theorem dX0_dequeue_55 : decode cX0_dequeue 55 = .ok (.iconst 1, 1) := by decide +kernel
theorem dX0_dequeue_56 : decode cX0_dequeue 56 = .ok (.isub, 1) := by decide +kernel
theorem dX0_dequeue_57 : decode cX0_dequeue 57 = .ok (.putfield 50, 3) := by decide +kernel
theorem dX0_dequeue_60 : decode cX0_dequeue 60 = .ok (.return_, 1) := by decide +kernel
theorem dX1_init_0 : decode cX1_init 0 = .ok (.aload_n 0, 1) := by decide +kernel
theorem dX1_init_1 : decode cX1_init 1 = .ok (.invokespecial 3, 3) := by decide +kernel
theorem dX1_init_4 : decode cX1_init 4 = .ok (.return_, 1) := by decide +kernel
theorem dX1_places_0 : decode cX1_places 0 = .ok (.aload_n 0, 1) := by decide +kernel
theorem dX1_places_1 : decode cX1_places 1 = .ok (.getfield 9, 3) := by decide +kernel
theorem dX1_places_4 : decode cX1_places 4 = .ok (.ireturn, 1) := by decide +kernel
theorem dX1_quality_0 : decode cX1_quality 0 = .ok (.aload_n 0, 1) := by decide +kernel
theorem dX1_quality_1 : decode cX1_quality 1 = .ok (.getfield 15, 3) := by decide +kernel
theorem dX1_quality_4 : decode cX1_quality 4 = .ok (.ireturn, 1) := by decide +kernel
set_option maxRecDepth 20000 in
theorem ggX1_look_X4_rows : GoodIn wsX1_look wsX4_rows := goodIn_r _ [9, 10, 77, 78, 79, 80, 81, 82] (by decide +kernel) (by decide +kernel)
set_option maxRecDepth 20000 in
theorem gX1_look_X4_rows : GoodIn wsX1_look (wsV RX1 24 RX4 yX4_rows wsX4_rows) := goodIn_app (goodIn_of _ (by decide +kernel)) ggX1_look_X4_rows
set_option maxRecDepth 20000 in
theorem ggX1_look_X0_priceOf : GoodIn wsX1_look wsX0_priceOf := goodIn_r _ [15, 16, 17, 18, 14, 19, 83, 84, 85, 86, 87, 88, 89, 90, 91, 92, 93] (by decide +kernel) (by decide +kernel)
set_option maxRecDepth 20000 in
theorem gX1_look_X0_priceOf : GoodIn wsX1_look (wsV RX1 30 RX0 yX0_priceOf wsX0_priceOf) := goodIn_app (goodIn_of _ (by decide +kernel)) ggX1_look_X0_priceOf
set_option maxRecDepth 20000 in
theorem ggX1_look_X1_lookInRow : GoodIn wsX1_look wsX1_lookInRow := goodIn_r _ [24, 25, 26, 27, 14, 28, 29, 17, 18, 19, 30, 31, 32, 8, 33, 34, 35, 36, 37, 38, 10, 39, 40, 41, 42, 43, 44, 45, 46, 47, 48, 49, 50, 51, 52, 53, 54, 55, 56, 57, 58, 59, 60, 61, 62, 63, 64, 65, 66, 67, 68, 11, 12, 13, 15, 16, 69, 70, 71, 23, 72, 1, 2, 3, 4, 83, 84, 85, 86, 87, 88, 89, 90, 91, 92, 93, 77, 78, 79, 80, 81, 82, 73, 74, 75, 76] (by decide +kernel) (by decide +kernel)
set_option maxRecDepth 20000 in
theorem gX1_look_X1_lookInRow : GoodIn wsX1_look (wsV RX1 36 RX1 yX1_lookInRow wsX1_lookInRow) := goodIn_app (goodIn_of _ (by decide +kernel)) ggX1_look_X1_lookInRow
theorem dX1_look_0 : decode cX1_look 0 = .ok (.aload_n 0, 1) := by decide +kernel
theorem dX1_look_1 : decode cX1_look 1 = .ok (.iconst 0, 1) := by decide +kernel
theorem dX1_look_2 : decode cX1_look 2 = .ok (.putfield 9, 3) := by decide +kernel
theorem dX1_look_5 : decode cX1_look 5 = .ok (.aload_n 0, 1) := by decide +kernel
theorem dX1_look_6 : decode cX1_look 6 = .ok (.bipush (-9), 2) := by decide +kernel
theorem dX1_look_8 : decode cX1_look 8 = .ok (.putfield 18, 3) := by decide +kernel
theorem dX1_look_11 : decode cX1_look 11 = .ok (.aload_n 0, 1) := by decide +kernel
theorem dX1_look_12 : decode cX1_look 12 = .ok (.iconst 0, 1) := by decide +kernel
theorem dX1_look_13 : decode cX1_look 13 = .ok (.putfield 15, 3) := by decide +kernel
theorem dX1_look_16 : decode cX1_look 16 = .ok (.aload_n 0, 1) := by decide +kernel
theorem dX1_look_17 : decode cX1_look 17 = .ok (.iconst 0, 1) := by decide +kernel
theorem dX1_look_18 : decode cX1_look 18 = .ok (.putfield 21, 3) := by decide +kernel
theorem dX1_look_21 : decode cX1_look 21 = .ok (.iconst 0, 1) := by decide +kernel
theorem dX1_look_22 : decode cX1_look 22 = .ok (.istore 7, 2) := by decide +kernel
theorem dX1_look_24 : decode cX1_look 24 = .ok (.iload 7, 2) := by decide +kernel
theorem dX1_look_26 : decode cX1_look 26 = .ok (.aload_n 1, 1) := by decide +kernel
theorem dX1_look_27 : decode cX1_look 27 = .ok (.invokevirtual 24, 3) := by decide +kernel
theorem dX1_look_30 : decode cX1_look 30 = .ok (.if_icmp .ge 41, 3) := by decide +kernel
theorem dX1_look_33 : decode cX1_look 33 = .ok (.iload 6, 2) := by decide +kernel
theorem dX1_look_35 : decode cX1_look 35 = .ok (.iconst 1, 1) := by decide +kernel
theorem dX1_look_36 : decode cX1_look 36 = .ok (.iload 7, 2) := by decide +kernel
theorem dX1_look_38 : decode cX1_look 38 = .ok (.ishl, 1) := by decide +kernel
theorem dX1_look_39 : decode cX1_look 39 = .ok (.iand, 1) := by decide +kernel
theorem dX1_look_40 : decode cX1_look 40 = .ok (.ifCond .eq 25, 3) := by decide +kernel
theorem dX1_look_43 : decode cX1_look 43 = .ok (.aload_n 2, 1) := by decide +kernel
theorem dX1_look_44 : decode cX1_look 44 = .ok (.iload 7, 2) := by decide +kernel
theorem dX1_look_46 : decode cX1_look 46 = .ok (.invokevirtual 30, 3) := by decide +kernel
theorem dX1_look_49 : decode cX1_look 49 = .ok (.iload 4, 2) := by decide +kernel
theorem dX1_look_51 : decode cX1_look 51 = .ok (.if_icmp .gt 14, 3) := by decide +kernel
theorem dX1_look_54 : decode cX1_look 54 = .ok (.aload_n 0, 1) := by decide +kernel
theorem dX1_look_55 : decode cX1_look 55 = .ok (.aload_n 1, 1) := by decide +kernel
theorem dX1_look_56 : decode cX1_look 56 = .ok (.aload_n 2, 1) := by decide +kernel
theorem dX1_look_57 : decode cX1_look 57 = .ok (.iload 7, 2) := by decide +kernel
theorem dX1_look_59 : decode cX1_look 59 = .ok (.iload_n 3, 1) := by decide +kernel
theorem dX1_look_60 : decode cX1_look 60 = .ok (.iload 5, 2) := by decide +kernel
theorem dX1_look_62 : decode cX1_look 62 = .ok (.invokevirtual 36, 3) := by decide +kernel
theorem dX1_look_65 : decode cX1_look 65 = .ok (.iinc 7 1, 3) := by decide +kernel
theorem dX1_look_68 : decode cX1_look 68 = .ok (.goto (-44), 3) := by decide +kernel
theorem dX1_look_71 : decode cX1_look 71 = .ok (.aload_n 0, 1) := by decide +kernel
theorem dX1_look_72 : decode cX1_look 72 = .ok (.getfield 18, 3) := by decide +kernel
theorem dX1_look_75 : decode cX1_look 75 = .ok (.ireturn, 1) := by decide +kernel
set_option maxRecDepth 20000 in
theorem ggX1_lookInRow_X0_freeIn : GoodIn wsX1_lookInRow wsX0_freeIn := goodIn_r _ [5, 6, 7, 8, 4, 9, 65, 66, 67, 68, 69, 70, 71, 72, 73, 74, 75] (by decide +kernel) (by decide +kernel)
set_option maxRecDepth 20000 in
theorem gX1_lookInRow_X0_freeIn : GoodIn wsX1_lookInRow (wsV RX1 40 RX0 yX0_freeIn wsX0_freeIn) := goodIn_app (goodIn_of _ (by decide +kernel)) ggX1_lookInRow_X0_freeIn
set_option maxRecDepth 20000 in
theorem ggX1_lookInRow_X4_loneOf : GoodIn wsX1_lookInRow wsX4_loneOf := goodIn_r _ [14, 15, 16, 17, 18, 13, 19, 20, 76, 77, 78, 79, 80, 81] (by decide +kernel) (by decide +kernel)
set_option maxRecDepth 20000 in
theorem gX1_lookInRow_X4_loneOf : GoodIn wsX1_lookInRow (wsV RX1 43 RX4 yX4_loneOf wsX4_loneOf) := goodIn_app (goodIn_of _ (by decide +kernel)) ggX1_lookInRow_X4_loneOf
set_option maxRecDepth 20000 in
theorem ggX1_lookInRow_J6_bitCount_0f7a4 : GoodIn wsX1_lookInRow wsJ6_bitCount_0f7a4 := goodIn_r _ [24, 25, 26, 27] (by decide +kernel) (by decide +kernel)
set_option maxRecDepth 20000 in
theorem gX1_lookInRow_J6_bitCount_0f7a4 : GoodIn wsX1_lookInRow (va_wsS RX1 47 yJ6_bitCount_0f7a4 wsJ6_bitCount_0f7a4) := goodIn_app (goodIn_of _ (by decide +kernel)) ggX1_lookInRow_J6_bitCount_0f7a4
set_option maxRecDepth 20000 in
theorem ggX1_lookInRow_X4_seatsIn : GoodIn wsX1_lookInRow wsX4_seatsIn := goodIn_r _ [31, 32, 16, 17, 18, 13, 19, 20, 76, 77, 78, 79, 80, 81] (by decide +kernel) (by decide +kernel)
set_option maxRecDepth 20000 in
theorem gX1_lookInRow_X4_seatsIn : GoodIn wsX1_lookInRow (wsV RX1 52 RX4 yX4_seatsIn wsX4_seatsIn) := goodIn_app (goodIn_of _ (by decide +kernel)) ggX1_lookInRow_X4_seatsIn
set_option maxRecDepth 20000 in
theorem ggX1_lookInRow_X8_span : GoodIn wsX1_lookInRow wsX8_span := goodIn_r _ [35] (by decide +kernel) (by decide +kernel)
set_option maxRecDepth 20000 in
theorem gX1_lookInRow_X8_span_n55 : GoodIn wsX1_lookInRow (wsX8_span) := ggX1_lookInRow_X8_span
set_option maxRecDepth 20000 in
theorem ggX1_lookInRow_X4_isUnbroken : GoodIn wsX1_lookInRow wsX4_isUnbroken := goodIn_r _ [39, 15, 33, 34, 35, 16, 17, 18, 13, 19, 20, 76, 77, 78, 79, 80, 81] (by decide +kernel) (by decide +kernel)
set_option maxRecDepth 20000 in
theorem gX1_lookInRow_X4_isUnbroken : GoodIn wsX1_lookInRow (wsV RX1 58 RX4 yX4_isUnbroken wsX4_isUnbroken) := goodIn_app (goodIn_of _ (by decide +kernel)) ggX1_lookInRow_X4_isUnbroken
set_option maxRecDepth 20000 in
theorem ggX1_lookInRow_X8_placeAt : GoodIn wsX1_lookInRow wsX8_placeAt := goodIn_r _ [41] (by decide +kernel) (by decide +kernel)
set_option maxRecDepth 20000 in
theorem gX1_lookInRow_X8_placeAt_n62 : GoodIn wsX1_lookInRow (wsX8_placeAt) := ggX1_lookInRow_X8_placeAt
set_option maxRecDepth 20000 in
theorem ggX1_lookInRow_X4_qualityOf : GoodIn wsX1_lookInRow wsX4_qualityOf := goodIn_r _ [45, 46, 47, 34, 48, 49, 50, 76, 77, 78, 79, 80, 81] (by decide +kernel) (by decide +kernel)
set_option maxRecDepth 20000 in
theorem gX1_lookInRow_X4_qualityOf : GoodIn wsX1_lookInRow (wsV RX1 65 RX4 yX4_qualityOf wsX4_qualityOf) := goodIn_app (goodIn_of _ (by decide +kernel)) ggX1_lookInRow_X4_qualityOf
set_option maxRecDepth 20000 in
theorem ggX1_lookInRow_X0_priceOf : GoodIn wsX1_lookInRow wsX0_priceOf := goodIn_r _ [54, 55, 7, 8, 4, 9, 65, 66, 67, 68, 69, 70, 71, 72, 73, 74, 75] (by decide +kernel) (by decide +kernel)
set_option maxRecDepth 20000 in
theorem gX1_lookInRow_X0_priceOf : GoodIn wsX1_lookInRow (wsV RX1 30 RX0 yX0_priceOf wsX0_priceOf) := goodIn_app (goodIn_of _ (by decide +kernel)) ggX1_lookInRow_X0_priceOf
set_option maxRecDepth 20000 in
theorem ggX1_lookInRow_X1_consider : GoodIn wsX1_lookInRow wsX1_consider := goodIn_r _ [60, 61, 62, 63, 64, 82, 83, 84, 85] (by decide +kernel) (by decide +kernel)
set_option maxRecDepth 20000 in
theorem gX1_lookInRow_X1_consider : GoodIn wsX1_lookInRow (wsV RX1 68 RX1 yX1_consider wsX1_consider) := goodIn_app (goodIn_of _ (by decide +kernel)) ggX1_lookInRow_X1_consider
theorem dX1_lookInRow_0 : decode cX1_lookInRow 0 = .ok (.aload_n 2, 1) := by decide +kernel
theorem dX1_lookInRow_1 : decode cX1_lookInRow 1 = .ok (.iload_n 3, 1) := by decide +kernel
theorem dX1_lookInRow_2 : decode cX1_lookInRow 2 = .ok (.invokevirtual 40, 3) := by decide +kernel
theorem dX1_lookInRow_5 : decode cX1_lookInRow 5 = .ok (.istore 6, 2) := by decide +kernel
theorem dX1_lookInRow_7 : decode cX1_lookInRow 7 = .ok (.aload_n 1, 1) := by decide +kernel
theorem dX1_lookInRow_8 : decode cX1_lookInRow 8 = .ok (.iload_n 3, 1) := by decide +kernel
theorem dX1_lookInRow_9 : decode cX1_lookInRow 9 = .ok (.iload 6, 2) := by decide +kernel
theorem dX1_lookInRow_11 : decode cX1_lookInRow 11 = .ok (.invokevirtual 43, 3) := by decide +kernel
theorem dX1_lookInRow_14 : decode cX1_lookInRow 14 = .ok (.invokestatic 47, 3) := by decide +kernel
theorem dX1_lookInRow_17 : decode cX1_lookInRow 17 = .ok (.iload 5, 2) := by decide +kernel
theorem dX1_lookInRow_19 : decode cX1_lookInRow 19 = .ok (.iadd, 1) := by decide +kernel
theorem dX1_lookInRow_20 : decode cX1_lookInRow 20 = .ok (.istore 7, 2) := by decide +kernel
theorem dX1_lookInRow_22 : decode cX1_lookInRow 22 = .ok (.iconst 0, 1) := by decide +kernel
theorem dX1_lookInRow_23 : decode cX1_lookInRow 23 = .ok (.istore 8, 2) := by decide +kernel
theorem dX1_lookInRow_25 : decode cX1_lookInRow 25 = .ok (.iload 8, 2) := by decide +kernel
theorem dX1_lookInRow_27 : decode cX1_lookInRow 27 = .ok (.iload 4, 2) := by decide +kernel
theorem dX1_lookInRow_29 : decode cX1_lookInRow 29 = .ok (.iadd, 1) := by decide +kernel
theorem dX1_lookInRow_30 : decode cX1_lookInRow 30 = .ok (.aload_n 1, 1) := by decide +kernel
theorem dX1_lookInRow_31 : decode cX1_lookInRow 31 = .ok (.iload_n 3, 1) := by decide +kernel
theorem dX1_lookInRow_32 : decode cX1_lookInRow 32 = .ok (.invokevirtual 52, 3) := by decide +kernel
theorem dX1_lookInRow_35 : decode cX1_lookInRow 35 = .ok (.if_icmp .gt 87, 3) := by decide +kernel
theorem dX1_lookInRow_38 : decode cX1_lookInRow 38 = .ok (.iload 8, 2) := by decide +kernel
theorem dX1_lookInRow_40 : decode cX1_lookInRow 40 = .ok (.iload 4, 2) := by decide +kernel
theorem dX1_lookInRow_42 : decode cX1_lookInRow 42 = .ok (.invokestatic 55, 3) := by decide +kernel
theorem dX1_lookInRow_45 : decode cX1_lookInRow 45 = .ok (.istore 9, 2) := by decide +kernel
theorem dX1_lookInRow_47 : decode cX1_lookInRow 47 = .ok (.iload 6, 2) := by decide +kernel
theorem dX1_lookInRow_49 : decode cX1_lookInRow 49 = .ok (.iload 9, 2) := by decide +kernel
theorem dX1_lookInRow_51 : decode cX1_lookInRow 51 = .ok (.iand, 1) := by decide +kernel
theorem dX1_lookInRow_52 : decode cX1_lookInRow 52 = .ok (.iload 9, 2) := by decide +kernel
theorem dX1_lookInRow_54 : decode cX1_lookInRow 54 = .ok (.if_icmp .ne 62, 3) := by decide +kernel
theorem dX1_lookInRow_57 : decode cX1_lookInRow 57 = .ok (.aload_n 1, 1) := by decide +kernel
theorem dX1_lookInRow_58 : decode cX1_lookInRow 58 = .ok (.iload_n 3, 1) := by decide +kernel
theorem dX1_lookInRow_59 : decode cX1_lookInRow 59 = .ok (.iload 8, 2) := by decide +kernel
theorem dX1_lookInRow_61 : decode cX1_lookInRow 61 = .ok (.iload 4, 2) := by decide +kernel
theorem dX1_lookInRow_63 : decode cX1_lookInRow 63 = .ok (.invokevirtual 58, 3) := by decide +kernel
theorem dX1_lookInRow_66 : decode cX1_lookInRow 66 = .ok (.ifCond .eq 50, 3) := by decide +kernel
theorem dX1_lookInRow_69 : decode cX1_lookInRow 69 = .ok (.aload_n 1, 1) := by decide +kernel
theorem dX1_lookInRow_70 : decode cX1_lookInRow 70 = .ok (.iload_n 3, 1) := by decide +kernel
theorem dX1_lookInRow_71 : decode cX1_lookInRow 71 = .ok (.iload 6, 2) := by decide +kernel
theorem dX1_lookInRow_73 : decode cX1_lookInRow 73 = .ok (.iload 9, 2) := by decide +kernel
theorem dX1_lookInRow_75 : decode cX1_lookInRow 75 = .ok (.iconst (-1), 1) := by decide +kernel
theorem dX1_lookInRow_76 : decode cX1_lookInRow 76 = .ok (.ixor, 1) := by decide +kernel
theorem dX1_lookInRow_77 : decode cX1_lookInRow 77 = .ok (.iand, 1) := by decide +kernel
theorem dX1_lookInRow_78 : decode cX1_lookInRow 78 = .ok (.invokevirtual 43, 3) := by decide +kernel
theorem dX1_lookInRow_81 : decode cX1_lookInRow 81 = .ok (.invokestatic 47, 3) := by decide +kernel
theorem dX1_lookInRow_84 : decode cX1_lookInRow 84 = .ok (.iload 7, 2) := by decide +kernel
theorem dX1_lookInRow_86 : decode cX1_lookInRow 86 = .ok (.if_icmp .gt 30, 3) := by decide +kernel
theorem dX1_lookInRow_89 : decode cX1_lookInRow 89 = .ok (.iload_n 3, 1) := by decide +kernel
theorem dX1_lookInRow_90 : decode cX1_lookInRow 90 = .ok (.iload 8, 2) := by decide +kernel
theorem dX1_lookInRow_92 : decode cX1_lookInRow 92 = .ok (.invokestatic 62, 3) := by decide +kernel
theorem dX1_lookInRow_95 : decode cX1_lookInRow 95 = .ok (.istore 10, 2) := by decide +kernel
theorem dX1_lookInRow_97 : decode cX1_lookInRow 97 = .ok (.aload_n 0, 1) := by decide +kernel
theorem dX1_lookInRow_98 : decode cX1_lookInRow 98 = .ok (.iload 10, 2) := by decide +kernel
theorem dX1_lookInRow_100 : decode cX1_lookInRow 100 = .ok (.aload_n 1, 1) := by decide +kernel
theorem dX1_lookInRow_101 : decode cX1_lookInRow 101 = .ok (.iload 10, 2) := by decide +kernel
theorem dX1_lookInRow_103 : decode cX1_lookInRow 103 = .ok (.iload 4, 2) := by decide +kernel
theorem dX1_lookInRow_105 : decode cX1_lookInRow 105 = .ok (.invokevirtual 65, 3) := by decide +kernel
theorem dX1_lookInRow_108 : decode cX1_lookInRow 108 = .ok (.aload_n 2, 1) := by decide +kernel
theorem dX1_lookInRow_109 : decode cX1_lookInRow 109 = .ok (.iload_n 3, 1) := by decide +kernel
theorem dX1_lookInRow_110 : decode cX1_lookInRow 110 = .ok (.invokevirtual 30, 3) := by decide +kernel
theorem dX1_lookInRow_113 : decode cX1_lookInRow 113 = .ok (.invokevirtual 68, 3) := by decide +kernel
theorem dX1_lookInRow_116 : decode cX1_lookInRow 116 = .ok (.iinc 8 1, 3) := by decide +kernel
theorem dX1_lookInRow_119 : decode cX1_lookInRow 119 = .ok (.goto (-94), 3) := by decide +kernel
theorem dX1_lookInRow_122 : decode cX1_lookInRow 122 = .ok (.return_, 1) := by decide +kernel
theorem dX1_consider_0 : decode cX1_consider 0 = .ok (.aload_n 0, 1) := by decide +kernel
theorem dX1_consider_1 : decode cX1_consider 1 = .ok (.dup, 1) := by decide +kernel
theorem dX1_consider_2 : decode cX1_consider 2 = .ok (.getfield 9, 3) := by decide +kernel
theorem dX1_consider_5 : decode cX1_consider 5 = .ok (.iconst 1, 1) := by decide +kernel
theorem dX1_consider_6 : decode cX1_consider 6 = .ok (.iadd, 1) := by decide +kernel
theorem dX1_consider_7 : decode cX1_consider 7 = .ok (.putfield 9, 3) := by decide +kernel
theorem dX1_consider_10 : decode cX1_consider 10 = .ok (.aload_n 0, 1) := by decide +kernel
theorem dX1_consider_11 : decode cX1_consider 11 = .ok (.getfield 18, 3) := by decide +kernel
theorem dX1_consider_14 : decode cX1_consider 14 = .ok (.bipush (-9), 2) := by decide +kernel
theorem dX1_consider_16 : decode cX1_consider 16 = .ok (.if_icmp .eq 27, 3) := by decide +kernel
theorem dX1_consider_19 : decode cX1_consider 19 = .ok (.iload_n 2, 1) := by decide +kernel
theorem dX1_consider_20 : decode cX1_consider 20 = .ok (.aload_n 0, 1) := by decide +kernel
theorem dX1_consider_21 : decode cX1_consider 21 = .ok (.getfield 15, 3) := by decide +kernel
theorem dX1_consider_24 : decode cX1_consider 24 = .ok (.if_icmp .gt 19, 3) := by decide +kernel
theorem dX1_consider_27 : decode cX1_consider 27 = .ok (.iload_n 2, 1) := by decide +kernel
theorem dX1_consider_28 : decode cX1_consider 28 = .ok (.aload_n 0, 1) := by decide +kernel
theorem dX1_consider_29 : decode cX1_consider 29 = .ok (.getfield 15, 3) := by decide +kernel
theorem dX1_consider_32 : decode cX1_consider 32 = .ok (.if_icmp .ne 26, 3) := by decide +kernel
theorem dX1_consider_35 : decode cX1_consider 35 = .ok (.iload_n 3, 1) := by decide +kernel
theorem dX1_consider_36 : decode cX1_consider 36 = .ok (.aload_n 0, 1) := by decide +kernel
theorem dX1_consider_37 : decode cX1_consider 37 = .ok (.getfield 21, 3) := by decide +kernel
theorem dX1_consider_40 : decode cX1_consider 40 = .ok (.if_icmp .ge 18, 3) := by decide +kernel
theorem dX1_consider_43 : decode cX1_consider 43 = .ok (.aload_n 0, 1) := by decide +kernel
theorem dX1_consider_44 : decode cX1_consider 44 = .ok (.iload_n 1, 1) := by decide +kernel
theorem dX1_consider_45 : decode cX1_consider 45 = .ok (.putfield 18, 3) := by decide +kernel
theorem dX1_consider_48 : decode cX1_consider 48 = .ok (.aload_n 0, 1) := by decide +kernel
theorem dX1_consider_49 : decode cX1_consider 49 = .ok (.iload_n 2, 1) := by decide +kernel
theorem dX1_consider_50 : decode cX1_consider 50 = .ok (.putfield 15, 3) := by decide +kernel
theorem dX1_consider_53 : decode cX1_consider 53 = .ok (.aload_n 0, 1) := by decide +kernel
theorem dX1_consider_54 : decode cX1_consider 54 = .ok (.iload_n 3, 1) := by decide +kernel
theorem dX1_consider_55 : decode cX1_consider 55 = .ok (.putfield 21, 3) := by decide +kernel
theorem dX1_consider_58 : decode cX1_consider 58 = .ok (.return_, 1) := by decide +kernel
theorem dX2_init_0 : decode cX2_init 0 = .ok (.aload_n 0, 1) := by decide +kernel
theorem dX2_init_1 : decode cX2_init 1 = .ok (.invokespecial 3, 3) := by decide +kernel
theorem dX2_init_4 : decode cX2_init 4 = .ok (.aload_n 0, 1) := by decide +kernel
theorem dX2_init_5 : decode cX2_init 5 = .ok (.bipush 10, 2) := by decide +kernel
theorem dX2_init_7 : decode cX2_init 7 = .ok (.newarray .long, 2) := by decide +kernel
theorem dX2_init_9 : decode cX2_init 9 = .ok (.putfield 9, 3) := by decide +kernel
theorem dX2_init_12 : decode cX2_init 12 = .ok (.return_, 1) := by decide +kernel
theorem dX2_begin_0 : decode cX2_begin 0 = .ok (.iconst 0, 1) := by decide +kernel
theorem dX2_begin_1 : decode cX2_begin 1 = .ok (.istore_n 1, 1) := by decide +kernel
theorem dX2_begin_2 : decode cX2_begin 2 = .ok (.iload_n 1, 1) := by decide +kernel
theorem dX2_begin_3 : decode cX2_begin 3 = .ok (.bipush 9, 2) := by decide +kernel
theorem dX2_begin_5 : decode cX2_begin 5 = .ok (.if_icmp .gt 16, 3) := by decide +kernel
theorem dX2_begin_8 : decode cX2_begin 8 = .ok (.aload_n 0, 1) := by decide +kernel
theorem dX2_begin_9 : decode cX2_begin 9 = .ok (.getfield 9, 3) := by decide +kernel
theorem dX2_begin_12 : decode cX2_begin 12 = .ok (.iload_n 1, 1) := by decide +kernel
theorem dX2_begin_13 : decode cX2_begin 13 = .ok (.lconst 0, 1) := by decide +kernel
theorem dX2_begin_14 : decode cX2_begin 14 = .ok (.lastore, 1) := by decide +kernel
theorem dX2_begin_15 : decode cX2_begin 15 = .ok (.iinc 1 1, 3) := by decide +kernel
theorem dX2_begin_18 : decode cX2_begin 18 = .ok (.goto (-16), 3) := by decide +kernel
theorem dX2_begin_21 : decode cX2_begin 21 = .ok (.aload_n 0, 1) := by decide +kernel
theorem dX2_begin_22 : decode cX2_begin 22 = .ok (.getfield 9, 3) := by decide +kernel
theorem dX2_begin_25 : decode cX2_begin 25 = .ok (.iconst 0, 1) := by decide +kernel
theorem dX2_begin_26 : decode cX2_begin 26 = .ok (.lconst 1, 1) := by decide +kernel
theorem dX2_begin_27 : decode cX2_begin 27 = .ok (.lastore, 1) := by decide +kernel
theorem dX2_begin_28 : decode cX2_begin 28 = .ok (.aload_n 0, 1) := by decide +kernel
theorem dX2_begin_29 : decode cX2_begin 29 = .ok (.lconst 1, 1) := by decide +kernel
theorem dX2_begin_30 : decode cX2_begin 30 = .ok (.putfield 15, 3) := by decide +kernel
theorem dX2_begin_33 : decode cX2_begin 33 = .ok (.return_, 1) := by decide +kernel
theorem dX2_add_0 : decode cX2_add 0 = .ok (.iload_n 1, 1) := by decide +kernel
theorem dX2_add_1 : decode cX2_add 1 = .ok (.ifCond .ge 4, 3) := by decide +kernel
theorem dX2_add_4 : decode cX2_add 4 = .ok (.return_, 1) := by decide +kernel
theorem dX2_add_5 : decode cX2_add 5 = .ok (.bipush 9, 2) := by decide +kernel
theorem dX2_add_7 : decode cX2_add 7 = .ok (.istore_n 3, 1) := by decide +kernel
theorem dX2_add_8 : decode cX2_add 8 = .ok (.iload_n 3, 1) := by decide +kernel
theorem dX2_add_9 : decode cX2_add 9 = .ok (.ifCond .lt 52, 3) := by decide +kernel
theorem dX2_add_12 : decode cX2_add 12 = .ok (.iload_n 3, 1) := by decide +kernel
theorem dX2_add_13 : decode cX2_add 13 = .ok (.iload_n 1, 1) := by decide +kernel
theorem dX2_add_14 : decode cX2_add 14 = .ok (.if_icmp .lt 20, 3) := by decide +kernel
theorem dX2_add_17 : decode cX2_add 17 = .ok (.aload_n 0, 1) := by decide +kernel
theorem dX2_add_18 : decode cX2_add 18 = .ok (.getfield 9, 3) := by decide +kernel
theorem dX2_add_21 : decode cX2_add 21 = .ok (.iload_n 3, 1) := by decide +kernel
theorem dX2_add_22 : decode cX2_add 22 = .ok (.iload_n 1, 1) := by decide +kernel
theorem dX2_add_23 : decode cX2_add 23 = .ok (.isub, 1) := by decide +kernel
theorem dX2_add_24 : decode cX2_add 24 = .ok (.laload, 1) := by decide +kernel
theorem dX2_add_25 : decode cX2_add 25 = .ok (.bipush 10, 2) := by decide +kernel
theorem dX2_add_27 : decode cX2_add 27 = .ok (.iload_n 2, 1) := by decide +kernel
theorem dX2_add_28 : decode cX2_add 28 = .ok (.isub, 1) := by decide +kernel
theorem dX2_add_29 : decode cX2_add 29 = .ok (.i2l, 1) := by decide +kernel
theorem dX2_add_30 : decode cX2_add 30 = .ok (.lmul, 1) := by decide +kernel
theorem dX2_add_31 : decode cX2_add 31 = .ok (.goto 4, 3) := by decide +kernel
theorem dX2_add_34 : decode cX2_add 34 = .ok (.lconst 0, 1) := by decide +kernel
theorem dX2_add_35 : decode cX2_add 35 = .ok (.lstore 4, 2) := by decide +kernel
theorem dX2_add_37 : decode cX2_add 37 = .ok (.aload_n 0, 1) := by decide +kernel
theorem dX2_add_38 : decode cX2_add 38 = .ok (.getfield 9, 3) := by decide +kernel
theorem dX2_add_41 : decode cX2_add 41 = .ok (.iload_n 3, 1) := by decide +kernel
theorem dX2_add_42 : decode cX2_add 42 = .ok (.aload_n 0, 1) := by decide +kernel
theorem dX2_add_43 : decode cX2_add 43 = .ok (.getfield 9, 3) := by decide +kernel
theorem dX2_add_46 : decode cX2_add 46 = .ok (.iload_n 3, 1) := by decide +kernel
theorem dX2_add_47 : decode cX2_add 47 = .ok (.laload, 1) := by decide +kernel
theorem dX2_add_48 : decode cX2_add 48 = .ok (.iload_n 2, 1) := by decide +kernel
theorem dX2_add_49 : decode cX2_add 49 = .ok (.i2l, 1) := by decide +kernel
theorem dX2_add_50 : decode cX2_add 50 = .ok (.lmul, 1) := by decide +kernel
theorem dX2_add_51 : decode cX2_add 51 = .ok (.lload 4, 2) := by decide +kernel
theorem dX2_add_53 : decode cX2_add 53 = .ok (.ladd, 1) := by decide +kernel
theorem dX2_add_54 : decode cX2_add 54 = .ok (.lastore, 1) := by decide +kernel
theorem dX2_add_55 : decode cX2_add 55 = .ok (.iinc 3 (-1), 3) := by decide +kernel
theorem dX2_add_58 : decode cX2_add 58 = .ok (.goto (-50), 3) := by decide +kernel
theorem dX2_add_61 : decode cX2_add 61 = .ok (.aload_n 0, 1) := by decide +kernel
theorem dX2_add_62 : decode cX2_add 62 = .ok (.dup, 1) := by decide +kernel
theorem dX2_add_63 : decode cX2_add 63 = .ok (.getfield 15, 3) := by decide +kernel
theorem dX2_add_66 : decode cX2_add 66 = .ok (.ldc2_w 19, 3) := by decide +kernel
theorem dX2_add_69 : decode cX2_add 69 = .ok (.lmul, 1) := by decide +kernel
theorem dX2_add_70 : decode cX2_add 70 = .ok (.putfield 15, 3) := by decide +kernel
theorem dX2_add_73 : decode cX2_add 73 = .ok (.return_, 1) := by decide +kernel
theorem dX2_whole_0 : decode cX2_whole 0 = .ok (.aload_n 0, 1) := by decide +kernel
theorem dX2_whole_1 : decode cX2_whole 1 = .ok (.getfield 15, 3) := by decide +kernel
theorem dX2_whole_4 : decode cX2_whole 4 = .ok (.lreturn, 1) := by decide +kernel
theorem dX2_atLeast_0 : decode cX2_atLeast 0 = .ok (.lconst 0, 1) := by decide +kernel
theorem dX2_atLeast_1 : decode cX2_atLeast 1 = .ok (.lstore_n 2, 1) := by decide +kernel
theorem dX2_atLeast_2 : decode cX2_atLeast 2 = .ok (.iconst 0, 1) := by decide +kernel
theorem dX2_atLeast_3 : decode cX2_atLeast 3 = .ok (.iload_n 1, 1) := by decide +kernel
theorem dX2_atLeast_4 : decode cX2_atLeast 4 = .ok (.invokestatic 21, 3) := by decide +kernel
theorem dX2_atLeast_7 : decode cX2_atLeast 7 = .ok (.istore 4, 2) := by decide +kernel
theorem dX2_atLeast_9 : decode cX2_atLeast 9 = .ok (.iload 4, 2) := by decide +kernel
theorem dX2_atLeast_11 : decode cX2_atLeast 11 = .ok (.bipush 9, 2) := by decide +kernel
theorem dX2_atLeast_13 : decode cX2_atLeast 13 = .ok (.if_icmp .gt 19, 3) := by decide +kernel
theorem dX2_atLeast_16 : decode cX2_atLeast 16 = .ok (.lload_n 2, 1) := by decide +kernel
theorem dX2_atLeast_17 : decode cX2_atLeast 17 = .ok (.aload_n 0, 1) := by decide +kernel
theorem dX2_atLeast_18 : decode cX2_atLeast 18 = .ok (.getfield 9, 3) := by decide +kernel
theorem dX2_atLeast_21 : decode cX2_atLeast 21 = .ok (.iload 4, 2) := by decide +kernel
theorem dX2_atLeast_23 : decode cX2_atLeast 23 = .ok (.laload, 1) := by decide +kernel
theorem dX2_atLeast_24 : decode cX2_atLeast 24 = .ok (.ladd, 1) := by decide +kernel
theorem dX2_atLeast_25 : decode cX2_atLeast 25 = .ok (.lstore_n 2, 1) := by decide +kernel
theorem dX2_atLeast_26 : decode cX2_atLeast 26 = .ok (.iinc 4 1, 3) := by decide +kernel
theorem dX2_atLeast_29 : decode cX2_atLeast 29 = .ok (.goto (-20), 3) := by decide +kernel
theorem dX2_atLeast_32 : decode cX2_atLeast 32 = .ok (.lload_n 2, 1) := by decide +kernel
theorem dX2_atLeast_33 : decode cX2_atLeast 33 = .ok (.lreturn, 1) := by decide +kernel
set_option maxRecDepth 20000 in
theorem ggX3_init_X0_init : GoodIn wsX3_init wsX0_init := goodIn_r _ [9, 10, 2, 3, 11, 12, 13, 14, 15, 16, 17, 18, 22, 23, 24, 25, 26, 27, 28, 29, 30, 31, 32] (by decide +kernel) (by decide +kernel)
set_option maxRecDepth 20000 in
theorem gX3_init_X0_init_n17 : GoodIn wsX3_init (wsX0_init) := ggX3_init_X0_init
theorem dX3_init_0 : decode cX3_init 0 = .ok (.aload_n 0, 1) := by decide +kernel
theorem dX3_init_1 : decode cX3_init 1 = .ok (.invokespecial 3, 3) := by decide +kernel
theorem dX3_init_4 : decode cX3_init 4 = .ok (.aload_n 0, 1) := by decide +kernel
theorem dX3_init_5 : decode cX3_init 5 = .ok (.bipush 14, 2) := by decide +kernel
theorem dX3_init_7 : decode cX3_init 7 = .ok (.anewarray 9, 3) := by decide +kernel
theorem dX3_init_10 : decode cX3_init 10 = .ok (.putfield 11, 3) := by decide +kernel
theorem dX3_init_13 : decode cX3_init 13 = .ok (.iconst 0, 1) := by decide +kernel
theorem dX3_init_14 : decode cX3_init 14 = .ok (.istore_n 1, 1) := by decide +kernel
theorem dX3_init_15 : decode cX3_init 15 = .ok (.iload_n 1, 1) := by decide +kernel
theorem dX3_init_16 : decode cX3_init 16 = .ok (.bipush 14, 2) := by decide +kernel
theorem dX3_init_18 : decode cX3_init 18 = .ok (.if_icmp .ge 22, 3) := by decide +kernel
theorem dX3_init_21 : decode cX3_init 21 = .ok (.aload_n 0, 1) := by decide +kernel
theorem dX3_init_22 : decode cX3_init 22 = .ok (.getfield 11, 3) := by decide +kernel
theorem dX3_init_25 : decode cX3_init 25 = .ok (.iload_n 1, 1) := by decide +kernel
theorem dX3_init_26 : decode cX3_init 26 = .ok (.new 9, 3) := by decide +kernel
theorem dX3_init_29 : decode cX3_init 29 = .ok (.dup, 1) := by decide +kernel
theorem dX3_init_30 : decode cX3_init 30 = .ok (.invokespecial 17, 3) := by decide +kernel
theorem dX3_init_33 : decode cX3_init 33 = .ok (.aastore, 1) := by decide +kernel
theorem dX3_init_34 : decode cX3_init 34 = .ok (.iinc 1 1, 3) := by decide +kernel
theorem dX3_init_37 : decode cX3_init 37 = .ok (.goto (-22), 3) := by decide +kernel
theorem dX3_init_40 : decode cX3_init 40 = .ok (.return_, 1) := by decide +kernel
theorem dX3_acts_0 : decode cX3_acts 0 = .ok (.aload_n 0, 1) := by decide +kernel
theorem dX3_acts_1 : decode cX3_acts 1 = .ok (.getfield 18, 3) := by decide +kernel
theorem dX3_acts_4 : decode cX3_acts 4 = .ok (.ireturn, 1) := by decide +kernel
theorem dX3_clear_0 : decode cX3_clear 0 = .ok (.aload_n 0, 1) := by decide +kernel
theorem dX3_clear_1 : decode cX3_clear 1 = .ok (.iconst 0, 1) := by decide +kernel
theorem dX3_clear_2 : decode cX3_clear 2 = .ok (.putfield 18, 3) := by decide +kernel
theorem dX3_clear_5 : decode cX3_clear 5 = .ok (.return_, 1) := by decide +kernel
set_option maxRecDepth 20000 in
theorem ggX3_remember_X0_copyFrom : GoodIn wsX3_remember wsX0_copyFrom := goodIn_r _ [12, 13, 14, 15, 16, 17, 18, 19, 20, 21, 22, 23, 24, 25, 26, 27, 31, 32, 33, 34, 35, 36, 37, 38, 39, 40, 41] (by decide +kernel) (by decide +kernel)
set_option maxRecDepth 20000 in
theorem gX3_remember_X0_copyFrom : GoodIn wsX3_remember (wsV RX3 25 RX0 yX0_copyFrom wsX0_copyFrom) := goodIn_app (goodIn_of _ (by decide +kernel)) ggX3_remember_X0_copyFrom
theorem dX3_remember_0 : decode cX3_remember 0 = .ok (.aload_n 0, 1) := by decide +kernel
theorem dX3_remember_1 : decode cX3_remember 1 = .ok (.getfield 22, 3) := by decide +kernel
theorem dX3_remember_4 : decode cX3_remember 4 = .ok (.ifCond .lt 24, 3) := by decide +kernel
theorem dX3_remember_7 : decode cX3_remember 7 = .ok (.aload_n 0, 1) := by decide +kernel
theorem dX3_remember_8 : decode cX3_remember 8 = .ok (.getfield 22, 3) := by decide +kernel
theorem dX3_remember_11 : decode cX3_remember 11 = .ok (.bipush 14, 2) := by decide +kernel
theorem dX3_remember_13 : decode cX3_remember 13 = .ok (.if_icmp .ge 15, 3) := by decide +kernel
theorem dX3_remember_16 : decode cX3_remember 16 = .ok (.aload_n 0, 1) := by decide +kernel
theorem dX3_remember_17 : decode cX3_remember 17 = .ok (.getfield 11, 3) := by decide +kernel
theorem dX3_remember_20 : decode cX3_remember 20 = .ok (.aload_n 0, 1) := by decide +kernel
theorem dX3_remember_21 : decode cX3_remember 21 = .ok (.getfield 22, 3) := by decide +kernel
theorem dX3_remember_24 : decode cX3_remember 24 = .ok (.aaload, 1) := by decide +kernel
theorem dX3_remember_25 : decode cX3_remember 25 = .ok (.ifnonnull 4, 3) := by decide +kernel
theorem dX3_remember_28 : decode cX3_remember 28 = .ok (.return_, 1) := by decide +kernel
theorem dX3_remember_29 : decode cX3_remember 29 = .ok (.aload_n 0, 1) := by decide +kernel
theorem dX3_remember_30 : decode cX3_remember 30 = .ok (.getfield 11, 3) := by decide +kernel
theorem dX3_remember_33 : decode cX3_remember 33 = .ok (.aload_n 0, 1) := by decide +kernel
theorem dX3_remember_34 : decode cX3_remember 34 = .ok (.getfield 22, 3) := by decide +kernel
theorem dX3_remember_37 : decode cX3_remember 37 = .ok (.aaload, 1) := by decide +kernel
theorem dX3_remember_38 : decode cX3_remember 38 = .ok (.aload_n 1, 1) := by decide +kernel
theorem dX3_remember_39 : decode cX3_remember 39 = .ok (.invokevirtual 25, 3) := by decide +kernel
theorem dX3_remember_42 : decode cX3_remember 42 = .ok (.aload_n 0, 1) := by decide +kernel
theorem dX3_remember_43 : decode cX3_remember 43 = .ok (.aload_n 0, 1) := by decide +kernel
theorem dX3_remember_44 : decode cX3_remember 44 = .ok (.getfield 22, 3) := by decide +kernel
theorem dX3_remember_47 : decode cX3_remember 47 = .ok (.iconst 1, 1) := by decide +kernel
theorem dX3_remember_48 : decode cX3_remember 48 = .ok (.iadd, 1) := by decide +kernel
theorem dX3_remember_49 : decode cX3_remember 49 = .ok (.bipush 14, 2) := by decide +kernel
theorem dX3_remember_51 : decode cX3_remember 51 = .ok (.if_icmp .ge 12, 3) := by decide +kernel
theorem dX3_remember_54 : decode cX3_remember 54 = .ok (.aload_n 0, 1) := by decide +kernel
theorem dX3_remember_55 : decode cX3_remember 55 = .ok (.getfield 22, 3) := by decide +kernel
theorem dX3_remember_58 : decode cX3_remember 58 = .ok (.iconst 1, 1) := by decide +kernel
theorem dX3_remember_59 : decode cX3_remember 59 = .ok (.iadd, 1) := by decide +kernel
theorem dX3_remember_60 : decode cX3_remember 60 = .ok (.goto 4, 3) := by decide +kernel
theorem dX3_remember_63 : decode cX3_remember 63 = .ok (.iconst 0, 1) := by decide +kernel
theorem dX3_remember_64 : decode cX3_remember 64 = .ok (.putfield 22, 3) := by decide +kernel
theorem dX3_remember_67 : decode cX3_remember 67 = .ok (.aload_n 0, 1) := by decide +kernel
theorem dX3_remember_68 : decode cX3_remember 68 = .ok (.aload_n 0, 1) := by decide +kernel
theorem dX3_remember_69 : decode cX3_remember 69 = .ok (.getfield 18, 3) := by decide +kernel
theorem dX3_remember_72 : decode cX3_remember 72 = .ok (.iconst 1, 1) := by decide +kernel
theorem dX3_remember_73 : decode cX3_remember 73 = .ok (.iadd, 1) := by decide +kernel
theorem dX3_remember_74 : decode cX3_remember 74 = .ok (.bipush 14, 2) := by decide +kernel
theorem dX3_remember_76 : decode cX3_remember 76 = .ok (.invokestatic 29, 3) := by decide +kernel
theorem dX3_remember_79 : decode cX3_remember 79 = .ok (.putfield 18, 3) := by decide +kernel
theorem dX3_remember_82 : decode cX3_remember 82 = .ok (.return_, 1) := by decide +kernel
set_option maxRecDepth 20000 in
theorem ggX3_restore_X0_copyFrom : GoodIn wsX3_restore wsX0_copyFrom := goodIn_r _ [8, 9, 10, 11, 12, 13, 14, 15, 16, 17, 18, 19, 20, 21, 22, 23, 27, 28, 29, 30, 31, 32, 33, 34, 35, 36, 37] (by decide +kernel) (by decide +kernel)
set_option maxRecDepth 20000 in
theorem gX3_restore_X0_copyFrom : GoodIn wsX3_restore (wsV RX3 25 RX0 yX0_copyFrom wsX0_copyFrom) := goodIn_app (goodIn_of _ (by decide +kernel)) ggX3_restore_X0_copyFrom
theorem dX3_restore_0 : decode cX3_restore 0 = .ok (.aload_n 0, 1) := by decide +kernel
theorem dX3_restore_1 : decode cX3_restore 1 = .ok (.getfield 22, 3) := by decide +kernel
theorem dX3_restore_4 : decode cX3_restore 4 = .ok (.ifCond .le 12, 3) := by decide +kernel
theorem dX3_restore_7 : decode cX3_restore 7 = .ok (.aload_n 0, 1) := by decide +kernel
theorem dX3_restore_8 : decode cX3_restore 8 = .ok (.getfield 22, 3) := by decide +kernel
theorem dX3_restore_11 : decode cX3_restore 11 = .ok (.iconst 1, 1) := by decide +kernel
theorem dX3_restore_12 : decode cX3_restore 12 = .ok (.isub, 1) := by decide +kernel
theorem dX3_restore_13 : decode cX3_restore 13 = .ok (.goto 5, 3) := by decide +kernel
theorem dX3_restore_16 : decode cX3_restore 16 = .ok (.bipush 13, 2) := by decide +kernel
theorem dX3_restore_18 : decode cX3_restore 18 = .ok (.istore_n 2, 1) := by decide +kernel
theorem dX3_restore_19 : decode cX3_restore 19 = .ok (.aload_n 0, 1) := by decide +kernel
theorem dX3_restore_20 : decode cX3_restore 20 = .ok (.getfield 18, 3) := by decide +kernel
