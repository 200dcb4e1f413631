theorem dX3_restore_23 : decode cX3_restore 23 = .ok (.ifCond .le 9, 3) := by decide +kernel
theorem dX3_restore_26 : decode cX3_restore 26 = .ok (.iload_n 2, 1) := by decide +kernel
theorem dX3_restore_27 : decode cX3_restore 27 = .ok (.bipush 14, 2) := by decide +kernel
theorem dX3_restore_29 : decode cX3_restore 29 = .ok (.if_icmp .lt 4, 3) := by decide +kernel
theorem dX3_restore_32 : decode cX3_restore 32 = .ok (.return_, 1) := by decide +kernel
theorem dX3_restore_33 : decode cX3_restore 33 = .ok (.aload_n 1, 1) := by decide +kernel
theorem dX3_restore_34 : decode cX3_restore 34 = .ok (.aload_n 0, 1) := by decide +kernel
theorem dX3_restore_35 : decode cX3_restore 35 = .ok (.getfield 11, 3) := by decide +kernel
theorem dX3_restore_38 : decode cX3_restore 38 = .ok (.iload_n 2, 1) := by decide +kernel
theorem dX3_restore_39 : decode cX3_restore 39 = .ok (.aaload, 1) := by decide +kernel
theorem dX3_restore_40 : decode cX3_restore 40 = .ok (.invokevirtual 25, 3) := by decide +kernel
theorem dX3_restore_43 : decode cX3_restore 43 = .ok (.aload_n 0, 1) := by decide +kernel
theorem dX3_restore_44 : decode cX3_restore 44 = .ok (.iload_n 2, 1) := by decide +kernel
theorem dX3_restore_45 : decode cX3_restore 45 = .ok (.putfield 22, 3) := by decide +kernel
theorem dX3_restore_48 : decode cX3_restore 48 = .ok (.aload_n 0, 1) := by decide +kernel
theorem dX3_restore_49 : decode cX3_restore 49 = .ok (.dup, 1) := by decide +kernel
theorem dX3_restore_50 : decode cX3_restore 50 = .ok (.getfield 18, 3) := by decide +kernel
theorem dX3_restore_53 : decode cX3_restore 53 = .ok (.iconst 1, 1) := by decide +kernel
theorem dX3_restore_54 : decode cX3_restore 54 = .ok (.isub, 1) := by decide +kernel
theorem dX3_restore_55 : decode cX3_restore 55 = .ok (.putfield 18, 3) := by decide +kernel
theorem dX3_restore_58 : decode cX3_restore 58 = .ok (.return_, 1) := by decide +kernel
theorem dX4_init_0 : decode cX4_init 0 = .ok (.aload_n 0, 1) := by decide +kernel
theorem dX4_init_1 : decode cX4_init 1 = .ok (.invokespecial 3, 3) := by decide +kernel
theorem dX4_init_4 : decode cX4_init 4 = .ok (.aload_n 0, 1) := by decide +kernel
theorem dX4_init_5 : decode cX4_init 5 = .ok (.iconst 4, 1) := by decide +kernel
theorem dX4_init_6 : decode cX4_init 6 = .ok (.newarray .int, 2) := by decide +kernel
theorem dX4_init_8 : decode cX4_init 8 = .ok (.putfield 9, 3) := by decide +kernel
theorem dX4_init_11 : decode cX4_init 11 = .ok (.aload_n 0, 1) := by decide +kernel
theorem dX4_init_12 : decode cX4_init 12 = .ok (.iconst 4, 1) := by decide +kernel
theorem dX4_init_13 : decode cX4_init 13 = .ok (.newarray .int, 2) := by decide +kernel
theorem dX4_init_15 : decode cX4_init 15 = .ok (.putfield 15, 3) := by decide +kernel
theorem dX4_init_18 : decode cX4_init 18 = .ok (.aload_n 0, 1) := by decide +kernel
theorem dX4_init_19 : decode cX4_init 19 = .ok (.iconst 4, 1) := by decide +kernel
theorem dX4_init_20 : decode cX4_init 20 = .ok (.newarray .int, 2) := by decide +kernel
theorem dX4_init_22 : decode cX4_init 22 = .ok (.putfield 18, 3) := by decide +kernel
theorem dX4_init_25 : decode cX4_init 25 = .ok (.aload_n 0, 1) := by decide +kernel
theorem dX4_init_26 : decode cX4_init 26 = .ok (.bipush 36, 2) := by decide +kernel
theorem dX4_init_28 : decode cX4_init 28 = .ok (.newarray .int, 2) := by decide +kernel
theorem dX4_init_30 : decode cX4_init 30 = .ok (.putfield 21, 3) := by decide +kernel
theorem dX4_init_33 : decode cX4_init 33 = .ok (.return_, 1) := by decide +kernel
set_option maxRecDepth 20000 in
theorem ggX4_readFrom_X7_length : GoodIn wsX4_readFrom wsX7_length := goodIn_r _ [7, 8, 61, 62] (by decide +kernel) (by decide +kernel)
set_option maxRecDepth 20000 in
theorem gX4_readFrom_X7_length : GoodIn wsX4_readFrom (wsV RX4 31 RX7 yX7_length wsX7_length) := goodIn_app (goodIn_of _ (by decide +kernel)) ggX4_readFrom_X7_length
set_option maxRecDepth 20000 in
theorem ggX4_readFrom_X7_letterAt : GoodIn wsX4_readFrom wsX7_letterAt := goodIn_r _ [12, 8, 13, 61, 62] (by decide +kernel) (by decide +kernel)
set_option maxRecDepth 20000 in
theorem gX4_readFrom_X7_letterAt : GoodIn wsX4_readFrom (wsV RX4 37 RX7 yX7_letterAt wsX7_letterAt) := goodIn_app (goodIn_of _ (by decide +kernel)) ggX4_readFrom_X7_letterAt
set_option maxRecDepth 20000 in
theorem ggX4_readFrom_X4_takes : GoodIn wsX4_readFrom wsX4_takes := goodIn_r _ [18, 19, 20, 21, 17, 22, 2, 23, 24, 25, 26, 1, 27, 28, 29, 30, 31, 32, 33, 34, 35, 36, 37, 38, 39, 40, 41, 42, 43, 44, 45, 46, 47, 48, 49, 50, 51, 52, 53, 54, 55, 56, 57, 58, 59, 60] (by decide +kernel) (by decide +kernel)
set_option maxRecDepth 20000 in
theorem gX4_readFrom_X4_takes : GoodIn wsX4_readFrom (wsV RX4 41 RX4 yX4_takes wsX4_takes) := goodIn_app (goodIn_of _ (by decide +kernel)) ggX4_readFrom_X4_takes
theorem dX4_readFrom_0 : decode cX4_readFrom 0 = .ok (.aload_n 0, 1) := by decide +kernel
theorem dX4_readFrom_1 : decode cX4_readFrom 1 = .ok (.iconst 0, 1) := by decide +kernel
theorem dX4_readFrom_2 : decode cX4_readFrom 2 = .ok (.putfield 24, 3) := by decide +kernel
theorem dX4_readFrom_5 : decode cX4_readFrom 5 = .ok (.aload_n 0, 1) := by decide +kernel
theorem dX4_readFrom_6 : decode cX4_readFrom 6 = .ok (.iconst 0, 1) := by decide +kernel
theorem dX4_readFrom_7 : decode cX4_readFrom 7 = .ok (.putfield 28, 3) := by decide +kernel
theorem dX4_readFrom_10 : decode cX4_readFrom 10 = .ok (.iconst 0, 1) := by decide +kernel
theorem dX4_readFrom_11 : decode cX4_readFrom 11 = .ok (.istore_n 2, 1) := by decide +kernel
theorem dX4_readFrom_12 : decode cX4_readFrom 12 = .ok (.iload_n 2, 1) := by decide +kernel
theorem dX4_readFrom_13 : decode cX4_readFrom 13 = .ok (.aload_n 1, 1) := by decide +kernel
theorem dX4_readFrom_14 : decode cX4_readFrom 14 = .ok (.invokevirtual 31, 3) := by decide +kernel
theorem dX4_readFrom_17 : decode cX4_readFrom 17 = .ok (.if_icmp .ge 23, 3) := by decide +kernel
theorem dX4_readFrom_20 : decode cX4_readFrom 20 = .ok (.aload_n 0, 1) := by decide +kernel
theorem dX4_readFrom_21 : decode cX4_readFrom 21 = .ok (.aload_n 1, 1) := by decide +kernel
theorem dX4_readFrom_22 : decode cX4_readFrom 22 = .ok (.iload_n 2, 1) := by decide +kernel
theorem dX4_readFrom_23 : decode cX4_readFrom 23 = .ok (.invokevirtual 37, 3) := by decide +kernel
theorem dX4_readFrom_26 : decode cX4_readFrom 26 = .ok (.invokevirtual 41, 3) := by decide +kernel
theorem dX4_readFrom_29 : decode cX4_readFrom 29 = .ok (.ifCond .ne 5, 3) := by decide +kernel
theorem dX4_readFrom_32 : decode cX4_readFrom 32 = .ok (.iload_n 2, 1) := by decide +kernel
theorem dX4_readFrom_33 : decode cX4_readFrom 33 = .ok (.ireturn, 1) := by decide +kernel
theorem dX4_readFrom_34 : decode cX4_readFrom 34 = .ok (.iinc 2 1, 3) := by decide +kernel
theorem dX4_readFrom_37 : decode cX4_readFrom 37 = .ok (.goto (-25), 3) := by decide +kernel
theorem dX4_readFrom_40 : decode cX4_readFrom 40 = .ok (.aload_n 0, 1) := by decide +kernel
theorem dX4_readFrom_41 : decode cX4_readFrom 41 = .ok (.getfield 28, 3) := by decide +kernel
theorem dX4_readFrom_44 : decode cX4_readFrom 44 = .ok (.iconst 1, 1) := by decide +kernel
theorem dX4_readFrom_45 : decode cX4_readFrom 45 = .ok (.if_icmp .eq 11, 3) := by decide +kernel
theorem dX4_readFrom_48 : decode cX4_readFrom 48 = .ok (.aload_n 0, 1) := by decide +kernel
theorem dX4_readFrom_49 : decode cX4_readFrom 49 = .ok (.getfield 28, 3) := by decide +kernel
theorem dX4_readFrom_52 : decode cX4_readFrom 52 = .ok (.iconst 4, 1) := by decide +kernel
theorem dX4_readFrom_53 : decode cX4_readFrom 53 = .ok (.if_icmp .ne 8, 3) := by decide +kernel
theorem dX4_readFrom_56 : decode cX4_readFrom 56 = .ok (.bipush (-9), 2) := by decide +kernel
theorem dX4_readFrom_58 : decode cX4_readFrom 58 = .ok (.goto 7, 3) := by decide +kernel
theorem dX4_readFrom_61 : decode cX4_readFrom 61 = .ok (.aload_n 1, 1) := by decide +kernel
theorem dX4_readFrom_62 : decode cX4_readFrom 62 = .ok (.invokevirtual 31, 3) := by decide +kernel
theorem dX4_readFrom_65 : decode cX4_readFrom 65 = .ok (.ireturn, 1) := by decide +kernel
set_option maxRecDepth 20000 in
theorem ggX4_takes_X4_takesHead : GoodIn wsX4_takes wsX4_takesHead := goodIn_r _ [5, 6, 40, 41, 42, 43, 44, 45] (by decide +kernel) (by decide +kernel)
set_option maxRecDepth 20000 in
theorem gX4_takes_X4_takesHead : GoodIn wsX4_takes (wsV RX4 45 RX4 yX4_takesHead wsX4_takesHead) := goodIn_app (goodIn_of _ (by decide +kernel)) ggX4_takes_X4_takesHead
set_option maxRecDepth 20000 in
theorem ggX4_takes_X4_takesRow : GoodIn wsX4_takes wsX4_takesRow := goodIn_r _ [10, 6, 11, 12, 13, 40, 41, 42, 43, 44, 45] (by decide +kernel) (by decide +kernel)
set_option maxRecDepth 20000 in
theorem gX4_takes_X4_takesRow : GoodIn wsX4_takes (wsV RX4 49 RX4 yX4_takesRow wsX4_takesRow) := goodIn_app (goodIn_of _ (by decide +kernel)) ggX4_takes_X4_takesRow
set_option maxRecDepth 20000 in
theorem ggX4_takes_X4_takesAisle : GoodIn wsX4_takes wsX4_takesAisle := goodIn_r _ [17, 6, 11, 18, 19, 20, 4, 21, 12, 22, 23, 24, 25, 40, 41, 42, 43, 44, 45] (by decide +kernel) (by decide +kernel)
set_option maxRecDepth 20000 in
theorem gX4_takes_X4_takesAisle : GoodIn wsX4_takes (wsV RX4 52 RX4 yX4_takesAisle wsX4_takesAisle) := goodIn_app (goodIn_of _ (by decide +kernel)) ggX4_takes_X4_takesAisle
set_option maxRecDepth 20000 in
theorem ggX4_takes_X4_takesDigit : GoodIn wsX4_takes wsX4_takesDigit := goodIn_r _ [29, 11, 6, 22, 23, 24, 4, 25, 30, 31, 32, 33, 34, 35, 36, 37, 38, 12, 13, 39, 40, 41, 42, 43, 44, 45] (by decide +kernel) (by decide +kernel)
set_option maxRecDepth 20000 in
theorem gX4_takes_X4_takesDigit : GoodIn wsX4_takes (wsV RX4 55 RX4 yX4_takesDigit wsX4_takesDigit) := goodIn_app (goodIn_of _ (by decide +kernel)) ggX4_takes_X4_takesDigit
theorem dX4_takes_0 : decode cX4_takes 0 = .ok (.iload_n 1, 1) := by decide +kernel
theorem dX4_takes_1 : decode cX4_takes 1 = .ok (.lookupswitch 50 #[(72, 35), (114, 40), (124, 45)], 35) := by decide +kernel
theorem dX4_takes_36 : decode cX4_takes 36 = .ok (.aload_n 0, 1) := by decide +kernel
theorem dX4_takes_37 : decode cX4_takes 37 = .ok (.invokevirtual 45, 3) := by decide +kernel
theorem dX4_takes_40 : decode cX4_takes 40 = .ok (.ireturn, 1) := by decide +kernel
theorem dX4_takes_41 : decode cX4_takes 41 = .ok (.aload_n 0, 1) := by decide +kernel
theorem dX4_takes_42 : decode cX4_takes 42 = .ok (.invokevirtual 49, 3) := by decide +kernel
theorem dX4_takes_45 : decode cX4_takes 45 = .ok (.ireturn, 1) := by decide +kernel
theorem dX4_takes_46 : decode cX4_takes 46 = .ok (.aload_n 0, 1) := by decide +kernel
theorem dX4_takes_47 : decode cX4_takes 47 = .ok (.invokevirtual 52, 3) := by decide +kernel
theorem dX4_takes_50 : decode cX4_takes 50 = .ok (.ireturn, 1) := by decide +kernel
theorem dX4_takes_51 : decode cX4_takes 51 = .ok (.iload_n 1, 1) := by decide +kernel
theorem dX4_takes_52 : decode cX4_takes 52 = .ok (.bipush 48, 2) := by decide +kernel
theorem dX4_takes_54 : decode cX4_takes 54 = .ok (.if_icmp .lt 24, 3) := by decide +kernel
theorem dX4_takes_57 : decode cX4_takes 57 = .ok (.iload_n 1, 1) := by decide +kernel
theorem dX4_takes_58 : decode cX4_takes 58 = .ok (.bipush 57, 2) := by decide +kernel
theorem dX4_takes_60 : decode cX4_takes 60 = .ok (.if_icmp .gt 18, 3) := by decide +kernel
theorem dX4_takes_63 : decode cX4_takes 63 = .ok (.aload_n 0, 1) := by decide +kernel
theorem dX4_takes_64 : decode cX4_takes 64 = .ok (.iload_n 1, 1) := by decide +kernel
theorem dX4_takes_65 : decode cX4_takes 65 = .ok (.bipush 48, 2) := by decide +kernel
theorem dX4_takes_67 : decode cX4_takes 67 = .ok (.isub, 1) := by decide +kernel
theorem dX4_takes_68 : decode cX4_takes 68 = .ok (.invokevirtual 55, 3) := by decide +kernel
theorem dX4_takes_71 : decode cX4_takes 71 = .ok (.ifCond .eq 7, 3) := by decide +kernel
theorem dX4_takes_74 : decode cX4_takes 74 = .ok (.iconst 1, 1) := by decide +kernel
theorem dX4_takes_75 : decode cX4_takes 75 = .ok (.goto 4, 3) := by decide +kernel
theorem dX4_takes_78 : decode cX4_takes 78 = .ok (.iconst 0, 1) := by decide +kernel
theorem dX4_takes_79 : decode cX4_takes 79 = .ok (.ireturn, 1) := by decide +kernel
theorem dX4_takesHead_0 : decode cX4_takesHead 0 = .ok (.aload_n 0, 1) := by decide +kernel
theorem dX4_takesHead_1 : decode cX4_takesHead 1 = .ok (.getfield 28, 3) := by decide +kernel
theorem dX4_takesHead_4 : decode cX4_takesHead 4 = .ok (.ifCond .eq 5, 3) := by decide +kernel
theorem dX4_takesHead_7 : decode cX4_takesHead 7 = .ok (.iconst 0, 1) := by decide +kernel
theorem dX4_takesHead_8 : decode cX4_takesHead 8 = .ok (.ireturn, 1) := by decide +kernel
theorem dX4_takesHead_9 : decode cX4_takesHead 9 = .ok (.aload_n 0, 1) := by decide +kernel
theorem dX4_takesHead_10 : decode cX4_takesHead 10 = .ok (.iconst 1, 1) := by decide +kernel
theorem dX4_takesHead_11 : decode cX4_takesHead 11 = .ok (.putfield 28, 3) := by decide +kernel
theorem dX4_takesHead_14 : decode cX4_takesHead 14 = .ok (.iconst 1, 1) := by decide +kernel
theorem dX4_takesHead_15 : decode cX4_takesHead 15 = .ok (.ireturn, 1) := by decide +kernel
theorem dX4_takesRow_0 : decode cX4_takesRow 0 = .ok (.aload_n 0, 1) := by decide +kernel
theorem dX4_takesRow_1 : decode cX4_takesRow 1 = .ok (.getfield 28, 3) := by decide +kernel
theorem dX4_takesRow_4 : decode cX4_takesRow 4 = .ok (.iconst 1, 1) := by decide +kernel
theorem dX4_takesRow_5 : decode cX4_takesRow 5 = .ok (.if_icmp .eq 11, 3) := by decide +kernel
theorem dX4_takesRow_8 : decode cX4_takesRow 8 = .ok (.aload_n 0, 1) := by decide +kernel
theorem dX4_takesRow_9 : decode cX4_takesRow 9 = .ok (.getfield 28, 3) := by decide +kernel
theorem dX4_takesRow_12 : decode cX4_takesRow 12 = .ok (.iconst 4, 1) := by decide +kernel
theorem dX4_takesRow_13 : decode cX4_takesRow 13 = .ok (.if_icmp .ne 18, 3) := by decide +kernel
theorem dX4_takesRow_16 : decode cX4_takesRow 16 = .ok (.aload_n 0, 1) := by decide +kernel
theorem dX4_takesRow_17 : decode cX4_takesRow 17 = .ok (.getfield 24, 3) := by decide +kernel
theorem dX4_takesRow_20 : decode cX4_takesRow 20 = .ok (.ifCond .lt 11, 3) := by decide +kernel
theorem dX4_takesRow_23 : decode cX4_takesRow 23 = .ok (.aload_n 0, 1) := by decide +kernel
theorem dX4_takesRow_24 : decode cX4_takesRow 24 = .ok (.getfield 24, 3) := by decide +kernel
theorem dX4_takesRow_27 : decode cX4_takesRow 27 = .ok (.iconst 4, 1) := by decide +kernel
theorem dX4_takesRow_28 : decode cX4_takesRow 28 = .ok (.if_icmp .lt 5, 3) := by decide +kernel
theorem dX4_takesRow_31 : decode cX4_takesRow 31 = .ok (.iconst 0, 1) := by decide +kernel
theorem dX4_takesRow_32 : decode cX4_takesRow 32 = .ok (.ireturn, 1) := by decide +kernel
theorem dX4_takesRow_33 : decode cX4_takesRow 33 = .ok (.aload_n 0, 1) := by decide +kernel
theorem dX4_takesRow_34 : decode cX4_takesRow 34 = .ok (.getfield 15, 3) := by decide +kernel
theorem dX4_takesRow_37 : decode cX4_takesRow 37 = .ok (.aload_n 0, 1) := by decide +kernel
theorem dX4_takesRow_38 : decode cX4_takesRow 38 = .ok (.getfield 24, 3) := by decide +kernel
theorem dX4_takesRow_41 : decode cX4_takesRow 41 = .ok (.iconst 0, 1) := by decide +kernel
theorem dX4_takesRow_42 : decode cX4_takesRow 42 = .ok (.iastore, 1) := by decide +kernel
theorem dX4_takesRow_43 : decode cX4_takesRow 43 = .ok (.aload_n 0, 1) := by decide +kernel
theorem dX4_takesRow_44 : decode cX4_takesRow 44 = .ok (.getfield 18, 3) := by decide +kernel
theorem dX4_takesRow_47 : decode cX4_takesRow 47 = .ok (.aload_n 0, 1) := by decide +kernel
theorem dX4_takesRow_48 : decode cX4_takesRow 48 = .ok (.getfield 24, 3) := by decide +kernel
theorem dX4_takesRow_51 : decode cX4_takesRow 51 = .ok (.iconst 0, 1) := by decide +kernel
theorem dX4_takesRow_52 : decode cX4_takesRow 52 = .ok (.iastore, 1) := by decide +kernel
theorem dX4_takesRow_53 : decode cX4_takesRow 53 = .ok (.aload_n 0, 1) := by decide +kernel
theorem dX4_takesRow_54 : decode cX4_takesRow 54 = .ok (.dup, 1) := by decide +kernel
theorem dX4_takesRow_55 : decode cX4_takesRow 55 = .ok (.getfield 24, 3) := by decide +kernel
theorem dX4_takesRow_58 : decode cX4_takesRow 58 = .ok (.iconst 1, 1) := by decide +kernel
theorem dX4_takesRow_59 : decode cX4_takesRow 59 = .ok (.iadd, 1) := by decide +kernel
theorem dX4_takesRow_60 : decode cX4_takesRow 60 = .ok (.putfield 24, 3) := by decide +kernel
theorem dX4_takesRow_63 : decode cX4_takesRow 63 = .ok (.aload_n 0, 1) := by decide +kernel
theorem dX4_takesRow_64 : decode cX4_takesRow 64 = .ok (.iconst 2, 1) := by decide +kernel
theorem dX4_takesRow_65 : decode cX4_takesRow 65 = .ok (.putfield 28, 3) := by decide +kernel
theorem dX4_takesRow_68 : decode cX4_takesRow 68 = .ok (.iconst 1, 1) := by decide +kernel
theorem dX4_takesRow_69 : decode cX4_takesRow 69 = .ok (.ireturn, 1) := by decide +kernel
set_option maxRecDepth 20000 in
theorem ggX4_takesAisle_X4_seatsIn : GoodIn wsX4_takesAisle wsX4_seatsIn := goodIn_r _ [7, 8, 9, 10, 11, 6, 12, 2, 13, 14, 15, 16, 17, 18] (by decide +kernel) (by decide +kernel)
set_option maxRecDepth 20000 in
theorem gX4_takesAisle_X4_seatsIn : GoodIn wsX4_takesAisle (wsV RX4 58 RX4 yX4_seatsIn wsX4_seatsIn) := goodIn_app (goodIn_of _ (by decide +kernel)) ggX4_takesAisle_X4_seatsIn
theorem dX4_takesAisle_0 : decode cX4_takesAisle 0 = .ok (.aload_n 0, 1) := by decide +kernel
theorem dX4_takesAisle_1 : decode cX4_takesAisle 1 = .ok (.getfield 28, 3) := by decide +kernel
theorem dX4_takesAisle_4 : decode cX4_takesAisle 4 = .ok (.iconst 4, 1) := by decide +kernel
theorem dX4_takesAisle_5 : decode cX4_takesAisle 5 = .ok (.if_icmp .ne 18, 3) := by decide +kernel
theorem dX4_takesAisle_8 : decode cX4_takesAisle 8 = .ok (.aload_n 0, 1) := by decide +kernel
theorem dX4_takesAisle_9 : decode cX4_takesAisle 9 = .ok (.aload_n 0, 1) := by decide +kernel
theorem dX4_takesAisle_10 : decode cX4_takesAisle 10 = .ok (.getfield 24, 3) := by decide +kernel
theorem dX4_takesAisle_13 : decode cX4_takesAisle 13 = .ok (.iconst 1, 1) := by decide +kernel
theorem dX4_takesAisle_14 : decode cX4_takesAisle 14 = .ok (.isub, 1) := by decide +kernel
theorem dX4_takesAisle_15 : decode cX4_takesAisle 15 = .ok (.invokevirtual 58, 3) := by decide +kernel
theorem dX4_takesAisle_18 : decode cX4_takesAisle 18 = .ok (.bipush 9, 2) := by decide +kernel
theorem dX4_takesAisle_20 : decode cX4_takesAisle 20 = .ok (.if_icmp .lt 5, 3) := by decide +kernel
theorem dX4_takesAisle_23 : decode cX4_takesAisle 23 = .ok (.iconst 0, 1) := by decide +kernel
theorem dX4_takesAisle_24 : decode cX4_takesAisle 24 = .ok (.ireturn, 1) := by decide +kernel
theorem dX4_takesAisle_25 : decode cX4_takesAisle 25 = .ok (.aload_n 0, 1) := by decide +kernel
theorem dX4_takesAisle_26 : decode cX4_takesAisle 26 = .ok (.iconst 3, 1) := by decide +kernel
theorem dX4_takesAisle_27 : decode cX4_takesAisle 27 = .ok (.putfield 28, 3) := by decide +kernel
theorem dX4_takesAisle_30 : decode cX4_takesAisle 30 = .ok (.iconst 1, 1) := by decide +kernel
theorem dX4_takesAisle_31 : decode cX4_takesAisle 31 = .ok (.ireturn, 1) := by decide +kernel
set_option maxRecDepth 20000 in
theorem ggX4_takesDigit_X4_hasRow : GoodIn wsX4_takesDigit wsX4_hasRow := goodIn_r _ [7, 1, 20, 21, 22, 23, 24, 25] (by decide +kernel) (by decide +kernel)
set_option maxRecDepth 20000 in
theorem gX4_takesDigit_X4_hasRow : GoodIn wsX4_takesDigit (wsV RX4 61 RX4 yX4_hasRow wsX4_hasRow) := goodIn_app (goodIn_of _ (by decide +kernel)) ggX4_takesDigit_X4_hasRow
set_option maxRecDepth 20000 in
theorem ggX4_takesDigit_X4_takesPrice : GoodIn wsX4_takesDigit wsX4_takesPrice := goodIn_r _ [11, 12, 2, 20, 21, 22, 23, 24, 25] (by decide +kernel) (by decide +kernel)
set_option maxRecDepth 20000 in
theorem gX4_takesDigit_X4_takesPrice : GoodIn wsX4_takesDigit (wsV RX4 64 RX4 yX4_takesPrice wsX4_takesPrice) := goodIn_app (goodIn_of _ (by decide +kernel)) ggX4_takesDigit_X4_takesPrice
set_option maxRecDepth 20000 in
theorem ggX4_takesDigit_X4_takesView : GoodIn wsX4_takesDigit wsX4_takesView := goodIn_r _ [16, 17, 2, 18, 19, 20, 21, 22, 23, 24, 25] (by decide +kernel) (by decide +kernel)
set_option maxRecDepth 20000 in
theorem gX4_takesDigit_X4_takesView : GoodIn wsX4_takesDigit (wsV RX4 68 RX4 yX4_takesView wsX4_takesView) := goodIn_app (goodIn_of _ (by decide +kernel)) ggX4_takesDigit_X4_takesView
theorem dX4_takesDigit_0 : decode cX4_takesDigit 0 = .ok (.aload_n 0, 1) := by decide +kernel
theorem dX4_takesDigit_1 : decode cX4_takesDigit 1 = .ok (.aload_n 0, 1) := by decide +kernel
theorem dX4_takesDigit_2 : decode cX4_takesDigit 2 = .ok (.getfield 24, 3) := by decide +kernel
theorem dX4_takesDigit_5 : decode cX4_takesDigit 5 = .ok (.iconst 1, 1) := by decide +kernel
theorem dX4_takesDigit_6 : decode cX4_takesDigit 6 = .ok (.isub, 1) := by decide +kernel
theorem dX4_takesDigit_7 : decode cX4_takesDigit 7 = .ok (.invokevirtual 61, 3) := by decide +kernel
theorem dX4_takesDigit_10 : decode cX4_takesDigit 10 = .ok (.ifCond .ne 5, 3) := by decide +kernel
theorem dX4_takesDigit_13 : decode cX4_takesDigit 13 = .ok (.iconst 0, 1) := by decide +kernel
theorem dX4_takesDigit_14 : decode cX4_takesDigit 14 = .ok (.ireturn, 1) := by decide +kernel
theorem dX4_takesDigit_15 : decode cX4_takesDigit 15 = .ok (.aload_n 0, 1) := by decide +kernel
theorem dX4_takesDigit_16 : decode cX4_takesDigit 16 = .ok (.getfield 28, 3) := by decide +kernel
theorem dX4_takesDigit_19 : decode cX4_takesDigit 19 = .ok (.iconst 2, 1) := by decide +kernel
theorem dX4_takesDigit_20 : decode cX4_takesDigit 20 = .ok (.if_icmp .ne 15, 3) := by decide +kernel
theorem dX4_takesDigit_23 : decode cX4_takesDigit 23 = .ok (.aload_n 0, 1) := by decide +kernel
theorem dX4_takesDigit_24 : decode cX4_takesDigit 24 = .ok (.aload_n 0, 1) := by decide +kernel
theorem dX4_takesDigit_25 : decode cX4_takesDigit 25 = .ok (.getfield 24, 3) := by decide +kernel
theorem dX4_takesDigit_28 : decode cX4_takesDigit 28 = .ok (.iconst 1, 1) := by decide +kernel
theorem dX4_takesDigit_29 : decode cX4_takesDigit 29 = .ok (.isub, 1) := by decide +kernel
theorem dX4_takesDigit_30 : decode cX4_takesDigit 30 = .ok (.iload_n 1, 1) := by decide +kernel
theorem dX4_takesDigit_31 : decode cX4_takesDigit 31 = .ok (.invokevirtual 64, 3) := by decide +kernel
theorem dX4_takesDigit_34 : decode cX4_takesDigit 34 = .ok (.ireturn, 1) := by decide +kernel
theorem dX4_takesDigit_35 : decode cX4_takesDigit 35 = .ok (.aload_n 0, 1) := by decide +kernel
theorem dX4_takesDigit_36 : decode cX4_takesDigit 36 = .ok (.getfield 28, 3) := by decide +kernel
theorem dX4_takesDigit_39 : decode cX4_takesDigit 39 = .ok (.iconst 3, 1) := by decide +kernel
theorem dX4_takesDigit_40 : decode cX4_takesDigit 40 = .ok (.if_icmp .eq 11, 3) := by decide +kernel
theorem dX4_takesDigit_43 : decode cX4_takesDigit 43 = .ok (.aload_n 0, 1) := by decide +kernel
theorem dX4_takesDigit_44 : decode cX4_takesDigit 44 = .ok (.getfield 28, 3) := by decide +kernel
theorem dX4_takesDigit_47 : decode cX4_takesDigit 47 = .ok (.iconst 4, 1) := by decide +kernel
theorem dX4_takesDigit_48 : decode cX4_takesDigit 48 = .ok (.if_icmp .ne 21, 3) := by decide +kernel
theorem dX4_takesDigit_51 : decode cX4_takesDigit 51 = .ok (.aload_n 0, 1) := by decide +kernel
theorem dX4_takesDigit_52 : decode cX4_takesDigit 52 = .ok (.aload_n 0, 1) := by decide +kernel
theorem dX4_takesDigit_53 : decode cX4_takesDigit 53 = .ok (.getfield 24, 3) := by decide +kernel
theorem dX4_takesDigit_56 : decode cX4_takesDigit 56 = .ok (.iconst 1, 1) := by decide +kernel
theorem dX4_takesDigit_57 : decode cX4_takesDigit 57 = .ok (.isub, 1) := by decide +kernel
theorem dX4_takesDigit_58 : decode cX4_takesDigit 58 = .ok (.iload_n 1, 1) := by decide +kernel
theorem dX4_takesDigit_59 : decode cX4_takesDigit 59 = .ok (.invokevirtual 68, 3) := by decide +kernel
theorem dX4_takesDigit_62 : decode cX4_takesDigit 62 = .ok (.ifCond .eq 7, 3) := by decide +kernel
theorem dX4_takesDigit_65 : decode cX4_takesDigit 65 = .ok (.iconst 1, 1) := by decide +kernel
theorem dX4_takesDigit_66 : decode cX4_takesDigit 66 = .ok (.goto 4, 3) := by decide +kernel
theorem dX4_takesDigit_69 : decode cX4_takesDigit 69 = .ok (.iconst 0, 1) := by decide +kernel
theorem dX4_takesDigit_70 : decode cX4_takesDigit 70 = .ok (.ireturn, 1) := by decide +kernel
theorem dX4_takesPrice_0 : decode cX4_takesPrice 0 = .ok (.iload_n 2, 1) := by decide +kernel
theorem dX4_takesPrice_1 : decode cX4_takesPrice 1 = .ok (.ifCond .ne 5, 3) := by decide +kernel
theorem dX4_takesPrice_4 : decode cX4_takesPrice 4 = .ok (.iconst 0, 1) := by decide +kernel
theorem dX4_takesPrice_5 : decode cX4_takesPrice 5 = .ok (.ireturn, 1) := by decide +kernel
theorem dX4_takesPrice_6 : decode cX4_takesPrice 6 = .ok (.aload_n 0, 1) := by decide +kernel
theorem dX4_takesPrice_7 : decode cX4_takesPrice 7 = .ok (.getfield 9, 3) := by decide +kernel
theorem dX4_takesPrice_10 : decode cX4_takesPrice 10 = .ok (.iload_n 1, 1) := by decide +kernel
theorem dX4_takesPrice_11 : decode cX4_takesPrice 11 = .ok (.iload_n 2, 1) := by decide +kernel
theorem dX4_takesPrice_12 : decode cX4_takesPrice 12 = .ok (.iastore, 1) := by decide +kernel
theorem dX4_takesPrice_13 : decode cX4_takesPrice 13 = .ok (.aload_n 0, 1) := by decide +kernel
theorem dX4_takesPrice_14 : decode cX4_takesPrice 14 = .ok (.iconst 3, 1) := by decide +kernel
theorem dX4_takesPrice_15 : decode cX4_takesPrice 15 = .ok (.putfield 28, 3) := by decide +kernel
theorem dX4_takesPrice_18 : decode cX4_takesPrice 18 = .ok (.iconst 1, 1) := by decide +kernel
theorem dX4_takesPrice_19 : decode cX4_takesPrice 19 = .ok (.ireturn, 1) := by decide +kernel
theorem dX4_takesView_0 : decode cX4_takesView 0 = .ok (.aload_n 0, 1) := by decide +kernel
theorem dX4_takesView_1 : decode cX4_takesView 1 = .ok (.getfield 15, 3) := by decide +kernel
theorem dX4_takesView_4 : decode cX4_takesView 4 = .ok (.iload_n 1, 1) := by decide +kernel
theorem dX4_takesView_5 : decode cX4_takesView 5 = .ok (.iaload, 1) := by decide +kernel
theorem dX4_takesView_6 : decode cX4_takesView 6 = .ok (.istore_n 3, 1) := by decide +kernel
theorem dX4_takesView_7 : decode cX4_takesView 7 = .ok (.iload_n 3, 1) := by decide +kernel
theorem dX4_takesView_8 : decode cX4_takesView 8 = .ok (.ifCond .lt 9, 3) := by decide +kernel
theorem dX4_takesView_11 : decode cX4_takesView 11 = .ok (.iload_n 3, 1) := by decide +kernel
theorem dX4_takesView_12 : decode cX4_takesView 12 = .ok (.bipush 9, 2) := by decide +kernel
theorem dX4_takesView_14 : decode cX4_takesView 14 = .ok (.if_icmp .lt 5, 3) := by decide +kernel
theorem dX4_takesView_17 : decode cX4_takesView 17 = .ok (.iconst 0, 1) := by decide +kernel
theorem dX4_takesView_18 : decode cX4_takesView 18 = .ok (.ireturn, 1) := by decide +kernel
theorem dX4_takesView_19 : decode cX4_takesView 19 = .ok (.aload_n 0, 1) := by decide +kernel
theorem dX4_takesView_20 : decode cX4_takesView 20 = .ok (.getfield 28, 3) := by decide +kernel
theorem dX4_takesView_23 : decode cX4_takesView 23 = .ok (.iconst 4, 1) := by decide +kernel
theorem dX4_takesView_24 : decode cX4_takesView 24 = .ok (.if_icmp .ne 17, 3) := by decide +kernel
theorem dX4_takesView_27 : decode cX4_takesView 27 = .ok (.aload_n 0, 1) := by decide +kernel
theorem dX4_takesView_28 : decode cX4_takesView 28 = .ok (.getfield 18, 3) := by decide +kernel
theorem dX4_takesView_31 : decode cX4_takesView 31 = .ok (.iload_n 1, 1) := by decide +kernel
theorem dX4_takesView_32 : decode cX4_takesView 32 = .ok (.dup2, 1) := by decide +kernel
theorem dX4_takesView_33 : decode cX4_takesView 33 = .ok (.iaload, 1) := by decide +kernel
theorem dX4_takesView_34 : decode cX4_takesView 34 = .ok (.iconst 1, 1) := by decide +kernel
theorem dX4_takesView_35 : decode cX4_takesView 35 = .ok (.iload_n 3, 1) := by decide +kernel
theorem dX4_takesView_36 : decode cX4_takesView 36 = .ok (.iconst 1, 1) := by decide +kernel
theorem dX4_takesView_37 : decode cX4_takesView 37 = .ok (.isub, 1) := by decide +kernel
theorem dX4_takesView_38 : decode cX4_takesView 38 = .ok (.ishl, 1) := by decide +kernel
theorem dX4_takesView_39 : decode cX4_takesView 39 = .ok (.ior, 1) := by decide +kernel
theorem dX4_takesView_40 : decode cX4_takesView 40 = .ok (.iastore, 1) := by decide +kernel
theorem dX4_takesView_41 : decode cX4_takesView 41 = .ok (.aload_n 0, 1) := by decide +kernel
theorem dX4_takesView_42 : decode cX4_takesView 42 = .ok (.getfield 21, 3) := by decide +kernel
theorem dX4_takesView_45 : decode cX4_takesView 45 = .ok (.iload_n 1, 1) := by decide +kernel
theorem dX4_takesView_46 : decode cX4_takesView 46 = .ok (.bipush 9, 2) := by decide +kernel
theorem dX4_takesView_48 : decode cX4_takesView 48 = .ok (.imul, 1) := by decide +kernel
theorem dX4_takesView_49 : decode cX4_takesView 49 = .ok (.iload_n 3, 1) := by decide +kernel
theorem dX4_takesView_50 : decode cX4_takesView 50 = .ok (.iadd, 1) := by decide +kernel
theorem dX4_takesView_51 : decode cX4_takesView 51 = .ok (.iload_n 2, 1) := by decide +kernel
theorem dX4_takesView_52 : decode cX4_takesView 52 = .ok (.iastore, 1) := by decide +kernel
theorem dX4_takesView_53 : decode cX4_takesView 53 = .ok (.aload_n 0, 1) := by decide +kernel
theorem dX4_takesView_54 : decode cX4_takesView 54 = .ok (.getfield 15, 3) := by decide +kernel
theorem dX4_takesView_57 : decode cX4_takesView 57 = .ok (.iload_n 1, 1) := by decide +kernel
theorem dX4_takesView_58 : decode cX4_takesView 58 = .ok (.iload_n 3, 1) := by decide +kernel
theorem dX4_takesView_59 : decode cX4_takesView 59 = .ok (.iconst 1, 1) := by decide +kernel
theorem dX4_takesView_60 : decode cX4_takesView 60 = .ok (.iadd, 1) := by decide +kernel
theorem dX4_takesView_61 : decode cX4_takesView 61 = .ok (.iastore, 1) := by decide +kernel
theorem dX4_takesView_62 : decode cX4_takesView 62 = .ok (.aload_n 0, 1) := by decide +kernel
theorem dX4_takesView_63 : decode cX4_takesView 63 = .ok (.iconst 4, 1) := by decide +kernel
theorem dX4_takesView_64 : decode cX4_takesView 64 = .ok (.putfield 28, 3) := by decide +kernel
theorem dX4_takesView_67 : decode cX4_takesView 67 = .ok (.iconst 1, 1) := by decide +kernel
theorem dX4_takesView_68 : decode cX4_takesView 68 = .ok (.ireturn, 1) := by decide +kernel
theorem dX4_rows_0 : decode cX4_rows 0 = .ok (.aload_n 0, 1) := by decide +kernel
theorem dX4_rows_1 : decode cX4_rows 1 = .ok (.getfield 24, 3) := by decide +kernel
theorem dX4_rows_4 : decode cX4_rows 4 = .ok (.ireturn, 1) := by decide +kernel
theorem dX4_hasRow_0 : decode cX4_hasRow 0 = .ok (.iload_n 1, 1) := by decide +kernel
theorem dX4_hasRow_1 : decode cX4_hasRow 1 = .ok (.ifCond .lt 15, 3) := by decide +kernel
theorem dX4_hasRow_4 : decode cX4_hasRow 4 = .ok (.iload_n 1, 1) := by decide +kernel
theorem dX4_hasRow_5 : decode cX4_hasRow 5 = .ok (.aload_n 0, 1) := by decide +kernel
theorem dX4_hasRow_6 : decode cX4_hasRow 6 = .ok (.getfield 24, 3) := by decide +kernel
theorem dX4_hasRow_9 : decode cX4_hasRow 9 = .ok (.if_icmp .ge 7, 3) := by decide +kernel
theorem dX4_hasRow_12 : decode cX4_hasRow 12 = .ok (.iconst 1, 1) := by decide +kernel
theorem dX4_hasRow_13 : decode cX4_hasRow 13 = .ok (.goto 4, 3) := by decide +kernel
theorem dX4_hasRow_16 : decode cX4_hasRow 16 = .ok (.iconst 0, 1) := by decide +kernel
theorem dX4_hasRow_17 : decode cX4_hasRow 17 = .ok (.ireturn, 1) := by decide +kernel
set_option maxRecDepth 20000 in
theorem ggX4_hasSeat_X4_hasRow : GoodIn wsX4_hasSeat wsX4_hasRow := goodIn_r _ [6, 7, 8, 9, 10, 11, 12, 13] (by decide +kernel) (by decide +kernel)
set_option maxRecDepth 20000 in
theorem gX4_hasSeat_X4_hasRow : GoodIn wsX4_hasSeat (wsV RX4 61 RX4 yX4_hasRow wsX4_hasRow) := goodIn_app (goodIn_of _ (by decide +kernel)) ggX4_hasSeat_X4_hasRow
theorem dX4_hasSeat_0 : decode cX4_hasSeat 0 = .ok (.aload_n 0, 1) := by decide +kernel
theorem dX4_hasSeat_1 : decode cX4_hasSeat 1 = .ok (.iload_n 1, 1) := by decide +kernel
theorem dX4_hasSeat_2 : decode cX4_hasSeat 2 = .ok (.invokevirtual 61, 3) := by decide +kernel
theorem dX4_hasSeat_5 : decode cX4_hasSeat 5 = .ok (.ifCond .eq 21, 3) := by decide +kernel
theorem dX4_hasSeat_8 : decode cX4_hasSeat 8 = .ok (.iload_n 2, 1) := by decide +kernel
theorem dX4_hasSeat_9 : decode cX4_hasSeat 9 = .ok (.ifCond .lt 17, 3) := by decide +kernel
theorem dX4_hasSeat_12 : decode cX4_hasSeat 12 = .ok (.iload_n 2, 1) := by decide +kernel
theorem dX4_hasSeat_13 : decode cX4_hasSeat 13 = .ok (.aload_n 0, 1) := by decide +kernel
theorem dX4_hasSeat_14 : decode cX4_hasSeat 14 = .ok (.getfield 15, 3) := by decide +kernel
theorem dX4_hasSeat_17 : decode cX4_hasSeat 17 = .ok (.iload_n 1, 1) := by decide +kernel
theorem dX4_hasSeat_18 : decode cX4_hasSeat 18 = .ok (.iaload, 1) := by decide +kernel
theorem dX4_hasSeat_19 : decode cX4_hasSeat 19 = .ok (.if_icmp .ge 7, 3) := by decide +kernel
theorem dX4_hasSeat_22 : decode cX4_hasSeat 22 = .ok (.iconst 1, 1) := by decide +kernel
theorem dX4_hasSeat_23 : decode cX4_hasSeat 23 = .ok (.goto 4, 3) := by decide +kernel
theorem dX4_hasSeat_26 : decode cX4_hasSeat 26 = .ok (.iconst 0, 1) := by decide +kernel
theorem dX4_hasSeat_27 : decode cX4_hasSeat 27 = .ok (.ireturn, 1) := by decide +kernel
set_option maxRecDepth 20000 in
theorem ggX4_firstPrice_X4_hasRow : GoodIn wsX4_firstPrice wsX4_hasRow := goodIn_r _ [6, 7, 8, 9, 10, 11, 12, 13] (by decide +kernel) (by decide +kernel)
set_option maxRecDepth 20000 in
theorem gX4_firstPrice_X4_hasRow : GoodIn wsX4_firstPrice (wsV RX4 61 RX4 yX4_hasRow wsX4_hasRow) := goodIn_app (goodIn_of _ (by decide +kernel)) ggX4_firstPrice_X4_hasRow
theorem dX4_firstPrice_0 : decode cX4_firstPrice 0 = .ok (.aload_n 0, 1) := by decide +kernel
theorem dX4_firstPrice_1 : decode cX4_firstPrice 1 = .ok (.iload_n 1, 1) := by decide +kernel
theorem dX4_firstPrice_2 : decode cX4_firstPrice 2 = .ok (.invokevirtual 61, 3) := by decide +kernel
theorem dX4_firstPrice_5 : decode cX4_firstPrice 5 = .ok (.ifCond .eq 12, 3) := by decide +kernel
theorem dX4_firstPrice_8 : decode cX4_firstPrice 8 = .ok (.aload_n 0, 1) := by decide +kernel
theorem dX4_firstPrice_9 : decode cX4_firstPrice 9 = .ok (.getfield 9, 3) := by decide +kernel
theorem dX4_firstPrice_12 : decode cX4_firstPrice 12 = .ok (.iload_n 1, 1) := by decide +kernel
theorem dX4_firstPrice_13 : decode cX4_firstPrice 13 = .ok (.iaload, 1) := by decide +kernel
theorem dX4_firstPrice_14 : decode cX4_firstPrice 14 = .ok (.goto 4, 3) := by decide +kernel
theorem dX4_firstPrice_17 : decode cX4_firstPrice 17 = .ok (.iconst 0, 1) := by decide +kernel
theorem dX4_firstPrice_18 : decode cX4_firstPrice 18 = .ok (.ireturn, 1) := by decide +kernel
set_option maxRecDepth 20000 in
theorem ggX4_seatsIn_X4_hasRow : GoodIn wsX4_seatsIn wsX4_hasRow := goodIn_r _ [6, 7, 8, 9, 10, 11, 12, 13] (by decide +kernel) (by decide +kernel)
set_option maxRecDepth 20000 in
theorem gX4_seatsIn_X4_hasRow : GoodIn wsX4_seatsIn (wsV RX4 61 RX4 yX4_hasRow wsX4_hasRow) := goodIn_app (goodIn_of _ (by decide +kernel)) ggX4_seatsIn_X4_hasRow
theorem dX4_seatsIn_0 : decode cX4_seatsIn 0 = .ok (.aload_n 0, 1) := by decide +kernel
theorem dX4_seatsIn_1 : decode cX4_seatsIn 1 = .ok (.iload_n 1, 1) := by decide +kernel
theorem dX4_seatsIn_2 : decode cX4_seatsIn 2 = .ok (.invokevirtual 61, 3) := by decide +kernel
theorem dX4_seatsIn_5 : decode cX4_seatsIn 5 = .ok (.ifCond .eq 12, 3) := by decide +kernel
theorem dX4_seatsIn_8 : decode cX4_seatsIn 8 = .ok (.aload_n 0, 1) := by decide +kernel
theorem dX4_seatsIn_9 : decode cX4_seatsIn 9 = .ok (.getfield 15, 3) := by decide +kernel
theorem dX4_seatsIn_12 : decode cX4_seatsIn 12 = .ok (.iload_n 1, 1) := by decide +kernel
theorem dX4_seatsIn_13 : decode cX4_seatsIn 13 = .ok (.iaload, 1) := by decide +kernel
theorem dX4_seatsIn_14 : decode cX4_seatsIn 14 = .ok (.goto 4, 3) := by decide +kernel
theorem dX4_seatsIn_17 : decode cX4_seatsIn 17 = .ok (.iconst 0, 1) := by decide +kernel
theorem dX4_seatsIn_18 : decode cX4_seatsIn 18 = .ok (.ireturn, 1) := by decide +kernel
set_option maxRecDepth 20000 in
theorem ggX4_blocksIn_X4_hasRow : GoodIn wsX4_blocksIn wsX4_hasRow := goodIn_r _ [7, 8, 16, 17, 18, 19, 20, 21] (by decide +kernel) (by decide +kernel)
set_option maxRecDepth 20000 in
theorem gX4_blocksIn_X4_hasRow : GoodIn wsX4_blocksIn (wsV RX4 61 RX4 yX4_hasRow wsX4_hasRow) := goodIn_app (goodIn_of _ (by decide +kernel)) ggX4_blocksIn_X4_hasRow
set_option maxRecDepth 20000 in
theorem ggX4_blocksIn_J6_bitCount_0f7a4 : GoodIn wsX4_blocksIn wsJ6_bitCount_0f7a4 := goodIn_r _ [12, 13, 14, 15] (by decide +kernel) (by decide +kernel)
set_option maxRecDepth 20000 in
theorem gX4_blocksIn_J6_bitCount_0f7a4 : GoodIn wsX4_blocksIn (va_wsS RX4 71 yJ6_bitCount_0f7a4 wsJ6_bitCount_0f7a4) := goodIn_app (goodIn_of _ (by decide +kernel)) ggX4_blocksIn_J6_bitCount_0f7a4
theorem dX4_blocksIn_0 : decode cX4_blocksIn 0 = .ok (.aload_n 0, 1) := by decide +kernel
theorem dX4_blocksIn_1 : decode cX4_blocksIn 1 = .ok (.iload_n 1, 1) := by decide +kernel
theorem dX4_blocksIn_2 : decode cX4_blocksIn 2 = .ok (.invokevirtual 61, 3) := by decide +kernel
theorem dX4_blocksIn_5 : decode cX4_blocksIn 5 = .ok (.ifCond .eq 22, 3) := by decide +kernel
theorem dX4_blocksIn_8 : decode cX4_blocksIn 8 = .ok (.aload_n 0, 1) := by decide +kernel
theorem dX4_blocksIn_9 : decode cX4_blocksIn 9 = .ok (.getfield 15, 3) := by decide +kernel
theorem dX4_blocksIn_12 : decode cX4_blocksIn 12 = .ok (.iload_n 1, 1) := by decide +kernel
theorem dX4_blocksIn_13 : decode cX4_blocksIn 13 = .ok (.iaload, 1) := by decide +kernel
theorem dX4_blocksIn_14 : decode cX4_blocksIn 14 = .ok (.aload_n 0, 1) := by decide +kernel
theorem dX4_blocksIn_15 : decode cX4_blocksIn 15 = .ok (.getfield 18, 3) := by decide +kernel
theorem dX4_blocksIn_18 : decode cX4_blocksIn 18 = .ok (.iload_n 1, 1) := by decide +kernel
theorem dX4_blocksIn_19 : decode cX4_blocksIn 19 = .ok (.iaload, 1) := by decide +kernel
theorem dX4_blocksIn_20 : decode cX4_blocksIn 20 = .ok (.invokestatic 71, 3) := by decide +kernel
theorem dX4_blocksIn_23 : decode cX4_blocksIn 23 = .ok (.isub, 1) := by decide +kernel
theorem dX4_blocksIn_24 : decode cX4_blocksIn 24 = .ok (.goto 4, 3) := by decide +kernel
theorem dX4_blocksIn_27 : decode cX4_blocksIn 27 = .ok (.iconst 0, 1) := by decide +kernel
theorem dX4_blocksIn_28 : decode cX4_blocksIn 28 = .ok (.ireturn, 1) := by decide +kernel
set_option maxRecDepth 20000 in
theorem ggX4_viewOf_X4_hasSeat : GoodIn wsX4_viewOf wsX4_hasSeat := goodIn_r _ [6, 7, 8, 9, 10, 5, 11, 12, 13, 14, 15, 16, 17, 18] (by decide +kernel) (by decide +kernel)
set_option maxRecDepth 20000 in
theorem gX4_viewOf_X4_hasSeat : GoodIn wsX4_viewOf (wsV RX4 76 RX4 yX4_hasSeat wsX4_hasSeat) := goodIn_app (goodIn_of _ (by decide +kernel)) ggX4_viewOf_X4_hasSeat
theorem dX4_viewOf_0 : decode cX4_viewOf 0 = .ok (.aload_n 0, 1) := by decide +kernel
theorem dX4_viewOf_1 : decode cX4_viewOf 1 = .ok (.iload_n 1, 1) := by decide +kernel
theorem dX4_viewOf_2 : decode cX4_viewOf 2 = .ok (.iload_n 2, 1) := by decide +kernel
theorem dX4_viewOf_3 : decode cX4_viewOf 3 = .ok (.invokevirtual 76, 3) := by decide +kernel
theorem dX4_viewOf_6 : decode cX4_viewOf 6 = .ok (.ifCond .eq 17, 3) := by decide +kernel
theorem dX4_viewOf_9 : decode cX4_viewOf 9 = .ok (.aload_n 0, 1) := by decide +kernel
theorem dX4_viewOf_10 : decode cX4_viewOf 10 = .ok (.getfield 21, 3) := by decide +kernel
theorem dX4_viewOf_13 : decode cX4_viewOf 13 = .ok (.iload_n 1, 1) := by decide +kernel
theorem dX4_viewOf_14 : decode cX4_viewOf 14 = .ok (.bipush 9, 2) := by decide +kernel
theorem dX4_viewOf_16 : decode cX4_viewOf 16 = .ok (.imul, 1) := by decide +kernel
theorem dX4_viewOf_17 : decode cX4_viewOf 17 = .ok (.iload_n 2, 1) := by decide +kernel
theorem dX4_viewOf_18 : decode cX4_viewOf 18 = .ok (.iadd, 1) := by decide +kernel
theorem dX4_viewOf_19 : decode cX4_viewOf 19 = .ok (.iaload, 1) := by decide +kernel
theorem dX4_viewOf_20 : decode cX4_viewOf 20 = .ok (.goto 4, 3) := by decide +kernel
theorem dX4_viewOf_23 : decode cX4_viewOf 23 = .ok (.iconst 0, 1) := by decide +kernel
theorem dX4_viewOf_24 : decode cX4_viewOf 24 = .ok (.ireturn, 1) := by decide +kernel
set_option maxRecDepth 20000 in
theorem ggX4_hasAisleAfter_X4_hasSeat : GoodIn wsX4_hasAisleAfter wsX4_hasSeat := goodIn_r _ [6, 7, 8, 9, 10, 5, 11, 12, 13, 14, 15, 16, 17, 18] (by decide +kernel) (by decide +kernel)
set_option maxRecDepth 20000 in
theorem gX4_hasAisleAfter_X4_hasSeat : GoodIn wsX4_hasAisleAfter (wsV RX4 76 RX4 yX4_hasSeat wsX4_hasSeat) := goodIn_app (goodIn_of _ (by decide +kernel)) ggX4_hasAisleAfter_X4_hasSeat
theorem dX4_hasAisleAfter_0 : decode cX4_hasAisleAfter 0 = .ok (.aload_n 0, 1) := by decide +kernel
theorem dX4_hasAisleAfter_1 : decode cX4_hasAisleAfter 1 = .ok (.iload_n 1, 1) := by decide +kernel
theorem dX4_hasAisleAfter_2 : decode cX4_hasAisleAfter 2 = .ok (.iload_n 2, 1) := by decide +kernel
theorem dX4_hasAisleAfter_3 : decode cX4_hasAisleAfter 3 = .ok (.iconst 1, 1) := by decide +kernel
theorem dX4_hasAisleAfter_4 : decode cX4_hasAisleAfter 4 = .ok (.iadd, 1) := by decide +kernel
theorem dX4_hasAisleAfter_5 : decode cX4_hasAisleAfter 5 = .ok (.invokevirtual 76, 3) := by decide +kernel
theorem dX4_hasAisleAfter_8 : decode cX4_hasAisleAfter 8 = .ok (.ifCond .eq 20, 3) := by decide +kernel
theorem dX4_hasAisleAfter_11 : decode cX4_hasAisleAfter 11 = .ok (.aload_n 0, 1) := by decide +kernel
theorem dX4_hasAisleAfter_12 : decode cX4_hasAisleAfter 12 = .ok (.getfield 18, 3) := by decide +kernel
theorem dX4_hasAisleAfter_15 : decode cX4_hasAisleAfter 15 = .ok (.iload_n 1, 1) := by decide +kernel
theorem dX4_hasAisleAfter_16 : decode cX4_hasAisleAfter 16 = .ok (.iaload, 1) := by decide +kernel
theorem dX4_hasAisleAfter_17 : decode cX4_hasAisleAfter 17 = .ok (.iconst 1, 1) := by decide +kernel
theorem dX4_hasAisleAfter_18 : decode cX4_hasAisleAfter 18 = .ok (.iload_n 2, 1) := by decide +kernel
theorem dX4_hasAisleAfter_19 : decode cX4_hasAisleAfter 19 = .ok (.ishl, 1) := by decide +kernel
theorem dX4_hasAisleAfter_20 : decode cX4_hasAisleAfter 20 = .ok (.iand, 1) := by decide +kernel
theorem dX4_hasAisleAfter_21 : decode cX4_hasAisleAfter 21 = .ok (.ifCond .ne 7, 3) := by decide +kernel
theorem dX4_hasAisleAfter_24 : decode cX4_hasAisleAfter 24 = .ok (.iconst 1, 1) := by decide +kernel
theorem dX4_hasAisleAfter_25 : decode cX4_hasAisleAfter 25 = .ok (.goto 4, 3) := by decide +kernel
theorem dX4_hasAisleAfter_28 : decode cX4_hasAisleAfter 28 = .ok (.iconst 0, 1) := by decide +kernel
theorem dX4_hasAisleAfter_29 : decode cX4_hasAisleAfter 29 = .ok (.ireturn, 1) := by decide +kernel
set_option maxRecDepth 20000 in
theorem ggX4_isUnbroken_X8_span : GoodIn wsX4_isUnbroken wsX8_span := goodIn_r _ [4] (by decide +kernel) (by decide +kernel)
set_option maxRecDepth 20000 in
theorem gX4_isUnbroken_X8_span_n79 : GoodIn wsX4_isUnbroken (wsX8_span) := ggX4_isUnbroken_X8_span
set_option maxRecDepth 20000 in
theorem ggX4_isUnbroken_X4_hasRow : GoodIn wsX4_isUnbroken wsX4_hasRow := goodIn_r _ [9, 10, 11, 12, 13, 14, 15, 16] (by decide +kernel) (by decide +kernel)
set_option maxRecDepth 20000 in
theorem gX4_isUnbroken_X4_hasRow : GoodIn wsX4_isUnbroken (wsV RX4 61 RX4 yX4_hasRow wsX4_hasRow) := goodIn_app (goodIn_of _ (by decide +kernel)) ggX4_isUnbroken_X4_hasRow
theorem dX4_isUnbroken_0 : decode cX4_isUnbroken 0 = .ok (.iload_n 2, 1) := by decide +kernel
theorem dX4_isUnbroken_1 : decode cX4_isUnbroken 1 = .ok (.iload_n 3, 1) := by decide +kernel
theorem dX4_isUnbroken_2 : decode cX4_isUnbroken 2 = .ok (.iconst 1, 1) := by decide +kernel
theorem dX4_isUnbroken_3 : decode cX4_isUnbroken 3 = .ok (.isub, 1) := by decide +kernel
theorem dX4_isUnbroken_4 : decode cX4_isUnbroken 4 = .ok (.invokestatic 79, 3) := by decide +kernel
theorem dX4_isUnbroken_7 : decode cX4_isUnbroken 7 = .ok (.istore 4, 2) := by decide +kernel
theorem dX4_isUnbroken_9 : decode cX4_isUnbroken 9 = .ok (.aload_n 0, 1) := by decide +kernel
theorem dX4_isUnbroken_10 : decode cX4_isUnbroken 10 = .ok (.iload_n 1, 1) := by decide +kernel
theorem dX4_isUnbroken_11 : decode cX4_isUnbroken 11 = .ok (.invokevirtual 61, 3) := by decide +kernel
theorem dX4_isUnbroken_14 : decode cX4_isUnbroken 14 = .ok (.ifCond .eq 21, 3) := by decide +kernel
theorem dX4_isUnbroken_17 : decode cX4_isUnbroken 17 = .ok (.aload_n 0, 1) := by decide +kernel
theorem dX4_isUnbroken_18 : decode cX4_isUnbroken 18 = .ok (.getfield 18, 3) := by decide +kernel
theorem dX4_isUnbroken_21 : decode cX4_isUnbroken 21 = .ok (.iload_n 1, 1) := by decide +kernel
theorem dX4_isUnbroken_22 : decode cX4_isUnbroken 22 = .ok (.iaload, 1) := by decide +kernel
theorem dX4_isUnbroken_23 : decode cX4_isUnbroken 23 = .ok (.iload 4, 2) := by decide +kernel
theorem dX4_isUnbroken_25 : decode cX4_isUnbroken 25 = .ok (.iand, 1) := by decide +kernel
theorem dX4_isUnbroken_26 : decode cX4_isUnbroken 26 = .ok (.iload 4, 2) := by decide +kernel
theorem dX4_isUnbroken_28 : decode cX4_isUnbroken 28 = .ok (.if_icmp .ne 7, 3) := by decide +kernel
theorem dX4_isUnbroken_31 : decode cX4_isUnbroken 31 = .ok (.iconst 1, 1) := by decide +kernel
theorem dX4_isUnbroken_32 : decode cX4_isUnbroken 32 = .ok (.goto 4, 3) := by decide +kernel
theorem dX4_isUnbroken_35 : decode cX4_isUnbroken 35 = .ok (.iconst 0, 1) := by decide +kernel
theorem dX4_isUnbroken_36 : decode cX4_isUnbroken 36 = .ok (.ireturn, 1) := by decide +kernel
set_option maxRecDepth 20000 in
theorem ggX4_loneOf_X4_hasRow : GoodIn wsX4_loneOf wsX4_hasRow := goodIn_r _ [6, 7, 8, 9, 10, 11, 12, 13] (by decide +kernel) (by decide +kernel)
set_option maxRecDepth 20000 in
theorem gX4_loneOf_X4_hasRow : GoodIn wsX4_loneOf (wsV RX4 61 RX4 yX4_hasRow wsX4_hasRow) := goodIn_app (goodIn_of _ (by decide +kernel)) ggX4_loneOf_X4_hasRow
theorem dX4_loneOf_0 : decode cX4_loneOf 0 = .ok (.aload_n 0, 1) := by decide +kernel
theorem dX4_loneOf_1 : decode cX4_loneOf 1 = .ok (.iload_n 1, 1) := by decide +kernel
theorem dX4_loneOf_2 : decode cX4_loneOf 2 = .ok (.invokevirtual 61, 3) := by decide +kernel
theorem dX4_loneOf_5 : decode cX4_loneOf 5 = .ok (.ifCond .ne 5, 3) := by decide +kernel
theorem dX4_loneOf_8 : decode cX4_loneOf 8 = .ok (.iconst 0, 1) := by decide +kernel
theorem dX4_loneOf_9 : decode cX4_loneOf 9 = .ok (.ireturn, 1) := by decide +kernel
theorem dX4_loneOf_10 : decode cX4_loneOf 10 = .ok (.iload_n 2, 1) := by decide +kernel
theorem dX4_loneOf_11 : decode cX4_loneOf 11 = .ok (.iconst 1, 1) := by decide +kernel
theorem dX4_loneOf_12 : decode cX4_loneOf 12 = .ok (.ishr, 1) := by decide +kernel
theorem dX4_loneOf_13 : decode cX4_loneOf 13 = .ok (.aload_n 0, 1) := by decide +kernel
theorem dX4_loneOf_14 : decode cX4_loneOf 14 = .ok (.getfield 18, 3) := by decide +kernel
theorem dX4_loneOf_17 : decode cX4_loneOf 17 = .ok (.iload_n 1, 1) := by decide +kernel
theorem dX4_loneOf_18 : decode cX4_loneOf 18 = .ok (.iaload, 1) := by decide +kernel
theorem dX4_loneOf_19 : decode cX4_loneOf 19 = .ok (.iand, 1) := by decide +kernel
theorem dX4_loneOf_20 : decode cX4_loneOf 20 = .ok (.istore_n 3, 1) := by decide +kernel
theorem dX4_loneOf_21 : decode cX4_loneOf 21 = .ok (.iload_n 2, 1) := by decide +kernel
theorem dX4_loneOf_22 : decode cX4_loneOf 22 = .ok (.aload_n 0, 1) := by decide +kernel
theorem dX4_loneOf_23 : decode cX4_loneOf 23 = .ok (.getfield 18, 3) := by decide +kernel
theorem dX4_loneOf_26 : decode cX4_loneOf 26 = .ok (.iload_n 1, 1) := by decide +kernel
theorem dX4_loneOf_27 : decode cX4_loneOf 27 = .ok (.iaload, 1) := by decide +kernel
theorem dX4_loneOf_28 : decode cX4_loneOf 28 = .ok (.iand, 1) := by decide +kernel
theorem dX4_loneOf_29 : decode cX4_loneOf 29 = .ok (.iconst 1, 1) := by decide +kernel
theorem dX4_loneOf_30 : decode cX4_loneOf 30 = .ok (.ishl, 1) := by decide +kernel
theorem dX4_loneOf_31 : decode cX4_loneOf 31 = .ok (.istore 4, 2) := by decide +kernel
theorem dX4_loneOf_33 : decode cX4_loneOf 33 = .ok (.iload_n 2, 1) := by decide +kernel
theorem dX4_loneOf_34 : decode cX4_loneOf 34 = .ok (.iload_n 3, 1) := by decide +kernel
theorem dX4_loneOf_35 : decode cX4_loneOf 35 = .ok (.iconst (-1), 1) := by decide +kernel
theorem dX4_loneOf_36 : decode cX4_loneOf 36 = .ok (.ixor, 1) := by decide +kernel
theorem dX4_loneOf_37 : decode cX4_loneOf 37 = .ok (.iand, 1) := by decide +kernel
theorem dX4_loneOf_38 : decode cX4_loneOf 38 = .ok (.iload 4, 2) := by decide +kernel
theorem dX4_loneOf_40 : decode cX4_loneOf 40 = .ok (.iconst (-1), 1) := by decide +kernel
theorem dX4_loneOf_41 : decode cX4_loneOf 41 = .ok (.ixor, 1) := by decide +kernel
theorem dX4_loneOf_42 : decode cX4_loneOf 42 = .ok (.iand, 1) := by decide +kernel
theorem dX4_loneOf_43 : decode cX4_loneOf 43 = .ok (.ireturn, 1) := by decide +kernel
set_option maxRecDepth 20000 in
theorem ggX4_loneSeats_X0_freeIn : GoodIn wsX4_loneSeats wsX0_freeIn := goodIn_r _ [6, 7, 8, 9, 5, 10, 34, 35, 36, 37, 38, 39, 40, 41, 42, 43, 44] (by decide +kernel) (by decide +kernel)
set_option maxRecDepth 20000 in
theorem gX4_loneSeats_X0_freeIn : GoodIn wsX4_loneSeats (wsV RX4 83 RX0 yX0_freeIn wsX0_freeIn) := goodIn_app (goodIn_of _ (by decide +kernel)) ggX4_loneSeats_X0_freeIn
set_option maxRecDepth 20000 in
theorem ggX4_loneSeats_X4_loneOf : GoodIn wsX4_loneSeats wsX4_loneOf := goodIn_r _ [15, 16, 17, 18, 19, 14, 20, 1, 28, 29, 30, 31, 32, 33] (by decide +kernel) (by decide +kernel)
set_option maxRecDepth 20000 in
theorem gX4_loneSeats_X4_loneOf : GoodIn wsX4_loneSeats (wsV RX4 88 RX4 yX4_loneOf wsX4_loneOf) := goodIn_app (goodIn_of _ (by decide +kernel)) ggX4_loneSeats_X4_loneOf
set_option maxRecDepth 20000 in
theorem ggX4_loneSeats_J6_bitCount_0f7a4 : GoodIn wsX4_loneSeats wsJ6_bitCount_0f7a4 := goodIn_r _ [24, 25, 26, 27] (by decide +kernel) (by decide +kernel)
set_option maxRecDepth 20000 in
theorem gX4_loneSeats_J6_bitCount_0f7a4 : GoodIn wsX4_loneSeats (va_wsS RX4 71 yJ6_bitCount_0f7a4 wsJ6_bitCount_0f7a4) := goodIn_app (goodIn_of _ (by decide +kernel)) ggX4_loneSeats_J6_bitCount_0f7a4
theorem dX4_loneSeats_0 : decode cX4_loneSeats 0 = .ok (.iconst 0, 1) := by decide +kernel
theorem dX4_loneSeats_1 : decode cX4_loneSeats 1 = .ok (.istore_n 2, 1) := by decide +kernel
theorem dX4_loneSeats_2 : decode cX4_loneSeats 2 = .ok (.iconst 0, 1) := by decide +kernel
theorem dX4_loneSeats_3 : decode cX4_loneSeats 3 = .ok (.istore_n 3, 1) := by decide +kernel
theorem dX4_loneSeats_4 : decode cX4_loneSeats 4 = .ok (.iload_n 3, 1) := by decide +kernel
theorem dX4_loneSeats_5 : decode cX4_loneSeats 5 = .ok (.aload_n 0, 1) := by decide +kernel
theorem dX4_loneSeats_6 : decode cX4_loneSeats 6 = .ok (.getfield 24, 3) := by decide +kernel
theorem dX4_loneSeats_9 : decode cX4_loneSeats 9 = .ok (.if_icmp .ge 25, 3) := by decide +kernel
theorem dX4_loneSeats_12 : decode cX4_loneSeats 12 = .ok (.iload_n 2, 1) := by decide +kernel
theorem dX4_loneSeats_13 : decode cX4_loneSeats 13 = .ok (.aload_n 0, 1) := by decide +kernel
theorem dX4_loneSeats_14 : decode cX4_loneSeats 14 = .ok (.iload_n 3, 1) := by decide +kernel
theorem dX4_loneSeats_15 : decode cX4_loneSeats 15 = .ok (.aload_n 1, 1) := by decide +kernel
theorem dX4_loneSeats_16 : decode cX4_loneSeats 16 = .ok (.iload_n 3, 1) := by decide +kernel
theorem dX4_loneSeats_17 : decode cX4_loneSeats 17 = .ok (.invokevirtual 83, 3) := by decide +kernel
theorem dX4_loneSeats_20 : decode cX4_loneSeats 20 = .ok (.invokevirtual 88, 3) := by decide +kernel
theorem dX4_loneSeats_23 : decode cX4_loneSeats 23 = .ok (.invokestatic 71, 3) := by decide +kernel
theorem dX4_loneSeats_26 : decode cX4_loneSeats 26 = .ok (.iadd, 1) := by decide +kernel
theorem dX4_loneSeats_27 : decode cX4_loneSeats 27 = .ok (.istore_n 2, 1) := by decide +kernel
theorem dX4_loneSeats_28 : decode cX4_loneSeats 28 = .ok (.iinc 3 1, 3) := by decide +kernel
theorem dX4_loneSeats_31 : decode cX4_loneSeats 31 = .ok (.goto (-27), 3) := by decide +kernel
theorem dX4_loneSeats_34 : decode cX4_loneSeats 34 = .ok (.iload_n 2, 1) := by decide +kernel
theorem dX4_loneSeats_35 : decode cX4_loneSeats 35 = .ok (.ireturn, 1) := by decide +kernel
set_option maxRecDepth 20000 in
theorem ggX4_qualityOf_X8_rowOf : GoodIn wsX4_qualityOf wsX8_rowOf := goodIn_r _ [4] (by decide +kernel) (by decide +kernel)
set_option maxRecDepth 20000 in
theorem gX4_qualityOf_X8_rowOf_n91 : GoodIn wsX4_qualityOf (wsX8_rowOf) := ggX4_qualityOf_X8_rowOf
set_option maxRecDepth 20000 in
theorem ggX4_qualityOf_X8_firstOf : GoodIn wsX4_qualityOf wsX8_firstOf := goodIn_r _ [6] (by decide +kernel) (by decide +kernel)
set_option maxRecDepth 20000 in
theorem gX4_qualityOf_X8_firstOf_n94 : GoodIn wsX4_qualityOf (wsX8_firstOf) := ggX4_qualityOf_X8_firstOf
theorem dX4_qualityOf_0 : decode cX4_qualityOf 0 = .ok (.iconst 0, 1) := by decide +kernel
theorem dX4_qualityOf_1 : decode cX4_qualityOf 1 = .ok (.istore_n 3, 1) := by decide +kernel
theorem dX4_qualityOf_2 : decode cX4_qualityOf 2 = .ok (.iload_n 1, 1) := by decide +kernel
theorem dX4_qualityOf_3 : decode cX4_qualityOf 3 = .ok (.invokestatic 91, 3) := by decide +kernel
theorem dX4_qualityOf_6 : decode cX4_qualityOf 6 = .ok (.bipush 9, 2) := by decide +kernel
theorem dX4_qualityOf_8 : decode cX4_qualityOf 8 = .ok (.imul, 1) := by decide +kernel
theorem dX4_qualityOf_9 : decode cX4_qualityOf 9 = .ok (.iload_n 1, 1) := by decide +kernel
theorem dX4_qualityOf_10 : decode cX4_qualityOf 10 = .ok (.invokestatic 94, 3) := by decide +kernel
theorem dX4_qualityOf_13 : decode cX4_qualityOf 13 = .ok (.iadd, 1) := by decide +kernel
theorem dX4_qualityOf_14 : decode cX4_qualityOf 14 = .ok (.istore 4, 2) := by decide +kernel
theorem dX4_qualityOf_16 : decode cX4_qualityOf 16 = .ok (.iload 4, 2) := by decide +kernel
theorem dX4_qualityOf_18 : decode cX4_qualityOf 18 = .ok (.istore 5, 2) := by decide +kernel
theorem dX4_qualityOf_20 : decode cX4_qualityOf 20 = .ok (.iload 5, 2) := by decide +kernel
theorem dX4_qualityOf_22 : decode cX4_qualityOf 22 = .ok (.iload 4, 2) := by decide +kernel
theorem dX4_qualityOf_24 : decode cX4_qualityOf 24 = .ok (.iload_n 2, 1) := by decide +kernel
theorem dX4_qualityOf_25 : decode cX4_qualityOf 25 = .ok (.iadd, 1) := by decide +kernel
theorem dX4_qualityOf_26 : decode cX4_qualityOf 26 = .ok (.if_icmp .ge 35, 3) := by decide +kernel
theorem dX4_qualityOf_29 : decode cX4_qualityOf 29 = .ok (.iload_n 3, 1) := by decide +kernel
theorem dX4_qualityOf_30 : decode cX4_qualityOf 30 = .ok (.iload 5, 2) := by decide +kernel
theorem dX4_qualityOf_32 : decode cX4_qualityOf 32 = .ok (.ifCond .lt 20, 3) := by decide +kernel
theorem dX4_qualityOf_35 : decode cX4_qualityOf 35 = .ok (.iload 5, 2) := by decide +kernel
theorem dX4_qualityOf_37 : decode cX4_qualityOf 37 = .ok (.bipush 36, 2) := by decide +kernel
theorem dX4_qualityOf_39 : decode cX4_qualityOf 39 = .ok (.if_icmp .ge 13, 3) := by decide +kernel
theorem dX4_qualityOf_42 : decode cX4_qualityOf 42 = .ok (.aload_n 0, 1) := by decide +kernel
theorem dX4_qualityOf_43 : decode cX4_qualityOf 43 = .ok (.getfield 21, 3) := by decide +kernel
theorem dX4_qualityOf_46 : decode cX4_qualityOf 46 = .ok (.iload 5, 2) := by decide +kernel
theorem dX4_qualityOf_48 : decode cX4_qualityOf 48 = .ok (.iaload, 1) := by decide +kernel
theorem dX4_qualityOf_49 : decode cX4_qualityOf 49 = .ok (.goto 4, 3) := by decide +kernel
theorem dX4_qualityOf_52 : decode cX4_qualityOf 52 = .ok (.iconst 0, 1) := by decide +kernel
theorem dX4_qualityOf_53 : decode cX4_qualityOf 53 = .ok (.iadd, 1) := by decide +kernel
theorem dX4_qualityOf_54 : decode cX4_qualityOf 54 = .ok (.istore_n 3, 1) := by decide +kernel
theorem dX4_qualityOf_55 : decode cX4_qualityOf 55 = .ok (.iinc 5 1, 3) := by decide +kernel
theorem dX4_qualityOf_58 : decode cX4_qualityOf 58 = .ok (.goto (-38), 3) := by decide +kernel
theorem dX4_qualityOf_61 : decode cX4_qualityOf 61 = .ok (.iload_n 3, 1) := by decide +kernel
theorem dX4_qualityOf_62 : decode cX4_qualityOf 62 = .ok (.ireturn, 1) := by decide +kernel
theorem dX5_init_0 : decode cX5_init 0 = .ok (.aload_n 0, 1) := by decide +kernel
theorem dX5_init_1 : decode cX5_init 1 = .ok (.invokespecial 3, 3) := by decide +kernel
theorem dX5_init_4 : decode cX5_init 4 = .ok (.aload_n 0, 1) := by decide +kernel
theorem dX5_init_5 : decode cX5_init 5 = .ok (.bipush 6, 2) := by decide +kernel
theorem dX5_init_7 : decode cX5_init 7 = .ok (.newarray .int, 2) := by decide +kernel
theorem dX5_init_9 : decode cX5_init 9 = .ok (.putfield 9, 3) := by decide +kernel
theorem dX5_init_12 : decode cX5_init 12 = .ok (.aload_n 0, 1) := by decide +kernel
theorem dX5_init_13 : decode cX5_init 13 = .ok (.bipush 6, 2) := by decide +kernel
theorem dX5_init_15 : decode cX5_init 15 = .ok (.newarray .int, 2) := by decide +kernel
theorem dX5_init_17 : decode cX5_init 17 = .ok (.putfield 15, 3) := by decide +kernel
theorem dX5_init_20 : decode cX5_init 20 = .ok (.aload_n 0, 1) := by decide +kernel
theorem dX5_init_21 : decode cX5_init 21 = .ok (.bipush 6, 2) := by decide +kernel
theorem dX5_init_23 : decode cX5_init 23 = .ok (.newarray .boolean, 2) := by decide +kernel
theorem dX5_init_25 : decode cX5_init 25 = .ok (.putfield 18, 3) := by decide +kernel
theorem dX5_init_28 : decode cX5_init 28 = .ok (.return_, 1) := by decide +kernel
theorem dX5_number_0 : decode cX5_number 0 = .ok (.aload_n 0, 1) := by decide +kernel
theorem dX5_number_1 : decode cX5_number 1 = .ok (.getfield 22, 3) := by decide +kernel
theorem dX5_number_4 : decode cX5_number 4 = .ok (.ireturn, 1) := by decide +kernel
theorem dX5_clear_0 : decode cX5_clear 0 = .ok (.aload_n 0, 1) := by decide +kernel
theorem dX5_clear_1 : decode cX5_clear 1 = .ok (.iconst 0, 1) := by decide +kernel
theorem dX5_clear_2 : decode cX5_clear 2 = .ok (.putfield 22, 3) := by decide +kernel
theorem dX5_clear_5 : decode cX5_clear 5 = .ok (.return_, 1) := by decide +kernel
theorem dX5_add_0 : decode cX5_add 0 = .ok (.aload_n 0, 1) := by decide +kernel
theorem dX5_add_1 : decode cX5_add 1 = .ok (.getfield 22, 3) := by decide +kernel
theorem dX5_add_4 : decode cX5_add 4 = .ok (.ifCond .lt 12, 3) := by decide +kernel
theorem dX5_add_7 : decode cX5_add 7 = .ok (.aload_n 0, 1) := by decide +kernel
theorem dX5_add_8 : decode cX5_add 8 = .ok (.getfield 22, 3) := by decide +kernel
theorem dX5_add_11 : decode cX5_add 11 = .ok (.bipush 6, 2) := by decide +kernel
theorem dX5_add_13 : decode cX5_add 13 = .ok (.if_icmp .lt 5, 3) := by decide +kernel
theorem dX5_add_16 : decode cX5_add 16 = .ok (.iconst 0, 1) := by decide +kernel
theorem dX5_add_17 : decode cX5_add 17 = .ok (.ireturn, 1) := by decide +kernel
theorem dX5_add_18 : decode cX5_add 18 = .ok (.aload_n 0, 1) := by decide +kernel
theorem dX5_add_19 : decode cX5_add 19 = .ok (.getfield 9, 3) := by decide +kernel
theorem dX5_add_22 : decode cX5_add 22 = .ok (.aload_n 0, 1) := by decide +kernel
theorem dX5_add_23 : decode cX5_add 23 = .ok (.getfield 22, 3) := by decide +kernel
theorem dX5_add_26 : decode cX5_add 26 = .ok (.iload_n 1, 1) := by decide +kernel
theorem dX5_add_27 : decode cX5_add 27 = .ok (.iastore, 1) := by decide +kernel
theorem dX5_add_28 : decode cX5_add 28 = .ok (.aload_n 0, 1) := by decide +kernel
theorem dX5_add_29 : decode cX5_add 29 = .ok (.getfield 15, 3) := by decide +kernel
theorem dX5_add_32 : decode cX5_add 32 = .ok (.aload_n 0, 1) := by decide +kernel
theorem dX5_add_33 : decode cX5_add 33 = .ok (.getfield 22, 3) := by decide +kernel
theorem dX5_add_36 : decode cX5_add 36 = .ok (.iload_n 2, 1) := by decide +kernel
theorem dX5_add_37 : decode cX5_add 37 = .ok (.iastore, 1) := by decide +kernel
theorem dX5_add_38 : decode cX5_add 38 = .ok (.aload_n 0, 1) := by decide +kernel
theorem dX5_add_39 : decode cX5_add 39 = .ok (.getfield 18, 3) := by decide +kernel
theorem dX5_add_42 : decode cX5_add 42 = .ok (.aload_n 0, 1) := by decide +kernel
theorem dX5_add_43 : decode cX5_add 43 = .ok (.getfield 22, 3) := by decide +kernel
theorem dX5_add_46 : decode cX5_add 46 = .ok (.iload_n 3, 1) := by decide +kernel
theorem dX5_add_47 : decode cX5_add 47 = .ok (.bastore, 1) := by decide +kernel
theorem dX5_add_48 : decode cX5_add 48 = .ok (.aload_n 0, 1) := by decide +kernel
theorem dX5_add_49 : decode cX5_add 49 = .ok (.dup, 1) := by decide +kernel
theorem dX5_add_50 : decode cX5_add 50 = .ok (.getfield 22, 3) := by decide +kernel
theorem dX5_add_53 : decode cX5_add 53 = .ok (.iconst 1, 1) := by decide +kernel
theorem dX5_add_54 : decode cX5_add 54 = .ok (.iadd, 1) := by decide +kernel
theorem dX5_add_55 : decode cX5_add 55 = .ok (.putfield 22, 3) := by decide +kernel
theorem dX5_add_58 : decode cX5_add 58 = .ok (.iconst 1, 1) := by decide +kernel
theorem dX5_add_59 : decode cX5_add 59 = .ok (.ireturn, 1) := by decide +kernel
set_option maxRecDepth 20000 in
theorem ggX5_allowAbsence_X4_hasSeat : GoodIn wsX5_allowAbsence wsX4_hasSeat := goodIn_r _ [9, 10, 11, 12, 13, 8, 14, 15, 47, 48, 49, 50, 51, 52] (by decide +kernel) (by decide +kernel)
set_option maxRecDepth 20000 in
theorem gX5_allowAbsence_X4_hasSeat : GoodIn wsX5_allowAbsence (wsV RX5 26 RX4 yX4_hasSeat wsX4_hasSeat) := goodIn_app (goodIn_of _ (by decide +kernel)) ggX5_allowAbsence_X4_hasSeat
set_option maxRecDepth 20000 in
theorem ggX5_allowAbsence_X0_takerOf : GoodIn wsX5_allowAbsence wsX0_takerOf := goodIn_r _ [20, 21, 22, 23, 24, 25, 26, 27, 19, 28, 29, 30, 31, 32, 33, 34, 35, 36, 37, 38, 39, 40, 41, 42, 53, 54, 55, 56, 57, 58, 59, 60, 61, 62, 63] (by decide +kernel) (by decide +kernel)
set_option maxRecDepth 20000 in
theorem gX5_allowAbsence_X0_takerOf : GoodIn wsX5_allowAbsence (wsV RX5 32 RX0 yX0_takerOf wsX0_takerOf) := goodIn_app (goodIn_of _ (by decide +kernel)) ggX5_allowAbsence_X0_takerOf
theorem dX5_allowAbsence_0 : decode cX5_allowAbsence 0 = .ok (.iconst 0, 1) := by decide +kernel
theorem dX5_allowAbsence_1 : decode cX5_allowAbsence 1 = .ok (.istore 4, 2) := by decide +kernel
theorem dX5_allowAbsence_3 : decode cX5_allowAbsence 3 = .ok (.iload 4, 2) := by decide +kernel
theorem dX5_allowAbsence_5 : decode cX5_allowAbsence 5 = .ok (.aload_n 0, 1) := by decide +kernel
theorem dX5_allowAbsence_6 : decode cX5_allowAbsence 6 = .ok (.getfield 22, 3) := by decide +kernel
theorem dX5_allowAbsence_9 : decode cX5_allowAbsence 9 = .ok (.if_icmp .ge 89, 3) := by decide +kernel
theorem dX5_allowAbsence_12 : decode cX5_allowAbsence 12 = .ok (.iload 4, 2) := by decide +kernel
theorem dX5_allowAbsence_14 : decode cX5_allowAbsence 14 = .ok (.bipush 6, 2) := by decide +kernel
theorem dX5_allowAbsence_16 : decode cX5_allowAbsence 16 = .ok (.if_icmp .ge 82, 3) := by decide +kernel
theorem dX5_allowAbsence_19 : decode cX5_allowAbsence 19 = .ok (.aload_n 1, 1) := by decide +kernel
theorem dX5_allowAbsence_20 : decode cX5_allowAbsence 20 = .ok (.aload_n 0, 1) := by decide +kernel
theorem dX5_allowAbsence_21 : decode cX5_allowAbsence 21 = .ok (.getfield 9, 3) := by decide +kernel
theorem dX5_allowAbsence_24 : decode cX5_allowAbsence 24 = .ok (.iload 4, 2) := by decide +kernel
theorem dX5_allowAbsence_26 : decode cX5_allowAbsence 26 = .ok (.iaload, 1) := by decide +kernel
theorem dX5_allowAbsence_27 : decode cX5_allowAbsence 27 = .ok (.aload_n 0, 1) := by decide +kernel
theorem dX5_allowAbsence_28 : decode cX5_allowAbsence 28 = .ok (.getfield 15, 3) := by decide +kernel
theorem dX5_allowAbsence_31 : decode cX5_allowAbsence 31 = .ok (.iload 4, 2) := by decide +kernel
theorem dX5_allowAbsence_33 : decode cX5_allowAbsence 33 = .ok (.iaload, 1) := by decide +kernel
theorem dX5_allowAbsence_34 : decode cX5_allowAbsence 34 = .ok (.invokevirtual 26, 3) := by decide +kernel
theorem dX5_allowAbsence_37 : decode cX5_allowAbsence 37 = .ok (.ifCond .eq 55, 3) := by decide +kernel
theorem dX5_allowAbsence_40 : decode cX5_allowAbsence 40 = .ok (.aload_n 2, 1) := by decide +kernel
theorem dX5_allowAbsence_41 : decode cX5_allowAbsence 41 = .ok (.aload_n 0, 1) := by decide +kernel
theorem dX5_allowAbsence_42 : decode cX5_allowAbsence 42 = .ok (.getfield 9, 3) := by decide +kernel
theorem dX5_allowAbsence_45 : decode cX5_allowAbsence 45 = .ok (.iload 4, 2) := by decide +kernel
theorem dX5_allowAbsence_47 : decode cX5_allowAbsence 47 = .ok (.iaload, 1) := by decide +kernel
theorem dX5_allowAbsence_48 : decode cX5_allowAbsence 48 = .ok (.aload_n 0, 1) := by decide +kernel
theorem dX5_allowAbsence_49 : decode cX5_allowAbsence 49 = .ok (.getfield 15, 3) := by decide +kernel
theorem dX5_allowAbsence_52 : decode cX5_allowAbsence 52 = .ok (.iload 4, 2) := by decide +kernel
theorem dX5_allowAbsence_54 : decode cX5_allowAbsence 54 = .ok (.iaload, 1) := by decide +kernel
theorem dX5_allowAbsence_55 : decode cX5_allowAbsence 55 = .ok (.invokevirtual 32, 3) := by decide +kernel
theorem dX5_allowAbsence_58 : decode cX5_allowAbsence 58 = .ok (.istore 5, 2) := by decide +kernel
theorem dX5_allowAbsence_60 : decode cX5_allowAbsence 60 = .ok (.iload 5, 2) := by decide +kernel
theorem dX5_allowAbsence_62 : decode cX5_allowAbsence 62 = .ok (.ifCond .eq 13, 3) := by decide +kernel
theorem dX5_allowAbsence_65 : decode cX5_allowAbsence 65 = .ok (.iload 5, 2) := by decide +kernel
theorem dX5_allowAbsence_67 : decode cX5_allowAbsence 67 = .ok (.iload_n 3, 1) := by decide +kernel
theorem dX5_allowAbsence_68 : decode cX5_allowAbsence 68 = .ok (.if_icmp .eq 7, 3) := by decide +kernel
theorem dX5_allowAbsence_71 : decode cX5_allowAbsence 71 = .ok (.iconst 1, 1) := by decide +kernel
theorem dX5_allowAbsence_72 : decode cX5_allowAbsence 72 = .ok (.goto 4, 3) := by decide +kernel
theorem dX5_allowAbsence_75 : decode cX5_allowAbsence 75 = .ok (.iconst 0, 1) := by decide +kernel
theorem dX5_allowAbsence_76 : decode cX5_allowAbsence 76 = .ok (.istore 6, 2) := by decide +kernel
theorem dX5_allowAbsence_78 : decode cX5_allowAbsence 78 = .ok (.iload 6, 2) := by decide +kernel
theorem dX5_allowAbsence_80 : decode cX5_allowAbsence 80 = .ok (.aload_n 0, 1) := by decide +kernel
theorem dX5_allowAbsence_81 : decode cX5_allowAbsence 81 = .ok (.getfield 18, 3) := by decide +kernel
theorem dX5_allowAbsence_84 : decode cX5_allowAbsence 84 = .ok (.iload 4, 2) := by decide +kernel
theorem dX5_allowAbsence_86 : decode cX5_allowAbsence 86 = .ok (.baload, 1) := by decide +kernel
theorem dX5_allowAbsence_87 : decode cX5_allowAbsence 87 = .ok (.if_icmp .eq 5, 3) := by decide +kernel
theorem dX5_allowAbsence_90 : decode cX5_allowAbsence 90 = .ok (.iconst 0, 1) := by decide +kernel
theorem dX5_allowAbsence_91 : decode cX5_allowAbsence 91 = .ok (.ireturn, 1) := by decide +kernel
theorem dX5_allowAbsence_92 : decode cX5_allowAbsence 92 = .ok (.iinc 4 1, 3) := by decide +kernel
theorem dX5_allowAbsence_95 : decode cX5_allowAbsence 95 = .ok (.goto (-92), 3) := by decide +kernel
theorem dX5_allowAbsence_98 : decode cX5_allowAbsence 98 = .ok (.iconst 1, 1) := by decide +kernel
theorem dX5_allowAbsence_99 : decode cX5_allowAbsence 99 = .ok (.ireturn, 1) := by decide +kernel
set_option maxRecDepth 20000 in
theorem ggX6_init_X0_init : GoodIn wsX6_init wsX0_init := goodIn_r _ [11, 12, 2, 3, 13, 14, 15, 16, 17, 18, 19, 20, 23, 24, 25, 26, 27, 28, 29, 30, 31, 32, 33] (by decide +kernel) (by decide +kernel)
set_option maxRecDepth 20000 in
theorem gX6_init_X0_init_n21 : GoodIn wsX6_init (wsX0_init) := ggX6_init_X0_init
theorem dX6_init_0 : decode cX6_init 0 = .ok (.aload_n 0, 1) := by decide +kernel
theorem dX6_init_1 : decode cX6_init 1 = .ok (.invokespecial 3, 3) := by decide +kernel
theorem dX6_init_4 : decode cX6_init 4 = .ok (.aload_n 0, 1) := by decide +kernel
theorem dX6_init_5 : decode cX6_init 5 = .ok (.iconst 2, 1) := by decide +kernel
theorem dX6_init_6 : decode cX6_init 6 = .ok (.anewarray 9, 3) := by decide +kernel
theorem dX6_init_9 : decode cX6_init 9 = .ok (.putfield 11, 3) := by decide +kernel
theorem dX6_init_12 : decode cX6_init 12 = .ok (.aload_n 0, 1) := by decide +kernel
theorem dX6_init_13 : decode cX6_init 13 = .ok (.iconst 2, 1) := by decide +kernel
theorem dX6_init_14 : decode cX6_init 14 = .ok (.newarray .boolean, 2) := by decide +kernel
theorem dX6_init_16 : decode cX6_init 16 = .ok (.putfield 17, 3) := by decide +kernel
theorem dX6_init_19 : decode cX6_init 19 = .ok (.iconst 0, 1) := by decide +kernel
theorem dX6_init_20 : decode cX6_init 20 = .ok (.istore_n 1, 1) := by decide +kernel
theorem dX6_init_21 : decode cX6_init 21 = .ok (.iload_n 1, 1) := by decide +kernel
theorem dX6_init_22 : decode cX6_init 22 = .ok (.iconst 2, 1) := by decide +kernel
theorem dX6_init_23 : decode cX6_init 23 = .ok (.if_icmp .ge 22, 3) := by decide +kernel
theorem dX6_init_26 : decode cX6_init 26 = .ok (.aload_n 0, 1) := by decide +kernel
theorem dX6_init_27 : decode cX6_init 27 = .ok (.getfield 11, 3) := by decide +kernel
theorem dX6_init_30 : decode cX6_init 30 = .ok (.iload_n 1, 1) := by decide +kernel
theorem dX6_init_31 : decode cX6_init 31 = .ok (.new 9, 3) := by decide +kernel
theorem dX6_init_34 : decode cX6_init 34 = .ok (.dup, 1) := by decide +kernel
theorem dX6_init_35 : decode cX6_init 35 = .ok (.invokespecial 21, 3) := by decide +kernel
theorem dX6_init_38 : decode cX6_init 38 = .ok (.aastore, 1) := by decide +kernel
theorem dX6_init_39 : decode cX6_init 39 = .ok (.iinc 1 1, 3) := by decide +kernel
theorem dX6_init_42 : decode cX6_init 42 = .ok (.goto (-21), 3) := by decide +kernel
theorem dX6_init_45 : decode cX6_init 45 = .ok (.return_, 1) := by decide +kernel
theorem dX6_has_0 : decode cX6_has 0 = .ok (.iload_n 1, 1) := by decide +kernel
theorem dX6_has_1 : decode cX6_has 1 = .ok (.ifCond .lt 12, 3) := by decide +kernel
theorem dX6_has_4 : decode cX6_has 4 = .ok (.iload_n 1, 1) := by decide +kernel
theorem dX6_has_5 : decode cX6_has 5 = .ok (.iconst 2, 1) := by decide +kernel
theorem dX6_has_6 : decode cX6_has 6 = .ok (.if_icmp .ge 7, 3) := by decide +kernel
theorem dX6_has_9 : decode cX6_has 9 = .ok (.iconst 1, 1) := by decide +kernel
theorem dX6_has_10 : decode cX6_has 10 = .ok (.goto 4, 3) := by decide +kernel
theorem dX6_has_13 : decode cX6_has 13 = .ok (.iconst 0, 1) := by decide +kernel
theorem dX6_has_14 : decode cX6_has 14 = .ok (.ireturn, 1) := by decide +kernel
set_option maxRecDepth 20000 in
theorem ggX6_isFilled_X6_has : GoodIn wsX6_isFilled wsX6_has := goodIn_r _ [6] (by decide +kernel) (by decide +kernel)
set_option maxRecDepth 20000 in
theorem gX6_isFilled_X6_has : GoodIn wsX6_isFilled (wsV RX6 22 RX6 yX6_has wsX6_has) := goodIn_app (goodIn_of _ (by decide +kernel)) ggX6_isFilled_X6_has
theorem dX6_isFilled_0 : decode cX6_isFilled 0 = .ok (.aload_n 0, 1) := by decide +kernel
theorem dX6_isFilled_1 : decode cX6_isFilled 1 = .ok (.iload_n 1, 1) := by decide +kernel
theorem dX6_isFilled_2 : decode cX6_isFilled 2 = .ok (.invokevirtual 22, 3) := by decide +kernel
theorem dX6_isFilled_5 : decode cX6_isFilled 5 = .ok (.ifCond .eq 16, 3) := by decide +kernel
theorem dX6_isFilled_8 : decode cX6_isFilled 8 = .ok (.aload_n 0, 1) := by decide +kernel
theorem dX6_isFilled_9 : decode cX6_isFilled 9 = .ok (.getfield 17, 3) := by decide +kernel
theorem dX6_isFilled_12 : decode cX6_isFilled 12 = .ok (.iload_n 1, 1) := by decide +kernel
theorem dX6_isFilled_13 : decode cX6_isFilled 13 = .ok (.baload, 1) := by decide +kernel
theorem dX6_isFilled_14 : decode cX6_isFilled 14 = .ok (.ifCond .eq 7, 3) := by decide +kernel
theorem dX6_isFilled_17 : decode cX6_isFilled 17 = .ok (.iconst 1, 1) := by decide +kernel
theorem dX6_isFilled_18 : decode cX6_isFilled 18 = .ok (.goto 4, 3) := by decide +kernel
theorem dX6_isFilled_21 : decode cX6_isFilled 21 = .ok (.iconst 0, 1) := by decide +kernel
theorem dX6_isFilled_22 : decode cX6_isFilled 22 = .ok (.ireturn, 1) := by decide +kernel
theorem dX6_clear_0 : decode cX6_clear 0 = .ok (.iconst 0, 1) := by decide +kernel
theorem dX6_clear_1 : decode cX6_clear 1 = .ok (.istore_n 1, 1) := by decide +kernel
theorem dX6_clear_2 : decode cX6_clear 2 = .ok (.iload_n 1, 1) := by decide +kernel
theorem dX6_clear_3 : decode cX6_clear 3 = .ok (.iconst 2, 1) := by decide +kernel
theorem dX6_clear_4 : decode cX6_clear 4 = .ok (.if_icmp .ge 16, 3) := by decide +kernel
theorem dX6_clear_7 : decode cX6_clear 7 = .ok (.aload_n 0, 1) := by decide +kernel
theorem dX6_clear_8 : decode cX6_clear 8 = .ok (.getfield 17, 3) := by decide +kernel
theorem dX6_clear_11 : decode cX6_clear 11 = .ok (.iload_n 1, 1) := by decide +kernel
theorem dX6_clear_12 : decode cX6_clear 12 = .ok (.iconst 0, 1) := by decide +kernel
theorem dX6_clear_13 : decode cX6_clear 13 = .ok (.bastore, 1) := by decide +kernel
theorem dX6_clear_14 : decode cX6_clear 14 = .ok (.iinc 1 1, 3) := by decide +kernel
theorem dX6_clear_17 : decode cX6_clear 17 = .ok (.goto (-15), 3) := by decide +kernel
theorem dX6_clear_20 : decode cX6_clear 20 = .ok (.return_, 1) := by decide +kernel
set_option maxRecDepth 20000 in
theorem ggX6_put_X6_has : GoodIn wsX6_put wsX6_has := goodIn_r _ [7] (by decide +kernel) (by decide +kernel)
set_option maxRecDepth 20000 in
theorem gX6_put_X6_has : GoodIn wsX6_put (wsV RX6 22 RX6 yX6_has wsX6_has) := goodIn_app (goodIn_of _ (by decide +kernel)) ggX6_put_X6_has
set_option maxRecDepth 20000 in
theorem ggX6_put_X0_copyFrom : GoodIn wsX6_put wsX0_copyFrom := goodIn_r _ [12, 13, 14, 15, 16, 17, 18, 19, 20, 21, 22, 23, 24, 25, 26, 27, 30, 31, 32, 33, 34, 35, 36, 37, 38, 39, 40] (by decide +kernel) (by decide +kernel)
set_option maxRecDepth 20000 in
theorem gX6_put_X0_copyFrom : GoodIn wsX6_put (wsV RX6 26 RX0 yX0_copyFrom wsX0_copyFrom) := goodIn_app (goodIn_of _ (by decide +kernel)) ggX6_put_X0_copyFrom
theorem dX6_put_0 : decode cX6_put 0 = .ok (.aload_n 0, 1) := by decide +kernel
theorem dX6_put_1 : decode cX6_put 1 = .ok (.iload_n 1, 1) := by decide +kernel
theorem dX6_put_2 : decode cX6_put 2 = .ok (.invokevirtual 22, 3) := by decide +kernel
theorem dX6_put_5 : decode cX6_put 5 = .ok (.ifCond .eq 12, 3) := by decide +kernel
theorem dX6_put_8 : decode cX6_put 8 = .ok (.aload_n 0, 1) := by decide +kernel
theorem dX6_put_9 : decode cX6_put 9 = .ok (.getfield 11, 3) := by decide +kernel
theorem dX6_put_12 : decode cX6_put 12 = .ok (.iload_n 1, 1) := by decide +kernel
theorem dX6_put_13 : decode cX6_put 13 = .ok (.aaload, 1) := by decide +kernel
theorem dX6_put_14 : decode cX6_put 14 = .ok (.ifnonnull 4, 3) := by decide +kernel
theorem dX6_put_17 : decode cX6_put 17 = .ok (.return_, 1) := by decide +kernel
theorem dX6_put_18 : decode cX6_put 18 = .ok (.aload_n 0, 1) := by decide +kernel
theorem dX6_put_19 : decode cX6_put 19 = .ok (.getfield 11, 3) := by decide +kernel
theorem dX6_put_22 : decode cX6_put 22 = .ok (.iload_n 1, 1) := by decide +kernel
theorem dX6_put_23 : decode cX6_put 23 = .ok (.aaload, 1) := by decide +kernel
theorem dX6_put_24 : decode cX6_put 24 = .ok (.aload_n 2, 1) := by decide +kernel
theorem dX6_put_25 : decode cX6_put 25 = .ok (.invokevirtual 26, 3) := by decide +kernel
theorem dX6_put_28 : decode cX6_put 28 = .ok (.aload_n 0, 1) := by decide +kernel
theorem dX6_put_29 : decode cX6_put 29 = .ok (.getfield 17, 3) := by decide +kernel
theorem dX6_put_32 : decode cX6_put 32 = .ok (.iload_n 1, 1) := by decide +kernel
theorem dX6_put_33 : decode cX6_put 33 = .ok (.iconst 1, 1) := by decide +kernel
theorem dX6_put_34 : decode cX6_put 34 = .ok (.bastore, 1) := by decide +kernel
theorem dX6_put_35 : decode cX6_put 35 = .ok (.return_, 1) := by decide +kernel
set_option maxRecDepth 20000 in
theorem ggX6_restore_X6_isFilled : GoodIn wsX6_restore wsX6_isFilled := goodIn_r _ [6, 7, 8, 9, 10, 5, 11, 32, 33] (by decide +kernel) (by decide +kernel)
set_option maxRecDepth 20000 in
theorem gX6_restore_X6_isFilled : GoodIn wsX6_restore (wsV RX6 30 RX6 yX6_isFilled wsX6_isFilled) := goodIn_app (goodIn_of _ (by decide +kernel)) ggX6_restore_X6_isFilled
set_option maxRecDepth 20000 in
theorem ggX6_restore_X0_copyFrom : GoodIn wsX6_restore wsX0_copyFrom := goodIn_r _ [16, 17, 18, 19, 20, 21, 22, 23, 24, 25, 26, 27, 28, 29, 30, 31, 34, 35, 36, 37, 38, 39, 40, 41, 42, 43, 44] (by decide +kernel) (by decide +kernel)
set_option maxRecDepth 20000 in
theorem gX6_restore_X0_copyFrom : GoodIn wsX6_restore (wsV RX6 26 RX0 yX0_copyFrom wsX0_copyFrom) := goodIn_app (goodIn_of _ (by decide +kernel)) ggX6_restore_X0_copyFrom
theorem dX6_restore_0 : decode cX6_restore 0 = .ok (.aload_n 0, 1) := by decide +kernel
theorem dX6_restore_1 : decode cX6_restore 1 = .ok (.iload_n 1, 1) := by decide +kernel
theorem dX6_restore_2 : decode cX6_restore 2 = .ok (.invokevirtual 30, 3) := by decide +kernel
theorem dX6_restore_5 : decode cX6_restore 5 = .ok (.ifCond .eq 13, 3) := by decide +kernel
theorem dX6_restore_8 : decode cX6_restore 8 = .ok (.aload_n 2, 1) := by decide +kernel
theorem dX6_restore_9 : decode cX6_restore 9 = .ok (.aload_n 0, 1) := by decide +kernel
theorem dX6_restore_10 : decode cX6_restore 10 = .ok (.getfield 11, 3) := by decide +kernel
theorem dX6_restore_13 : decode cX6_restore 13 = .ok (.iload_n 1, 1) := by decide +kernel
theorem dX6_restore_14 : decode cX6_restore 14 = .ok (.aaload, 1) := by decide +kernel
theorem dX6_restore_15 : decode cX6_restore 15 = .ok (.invokevirtual 26, 3) := by decide +kernel
theorem dX6_restore_18 : decode cX6_restore 18 = .ok (.return_, 1) := by decide +kernel
theorem dX7_init_0 : decode cX7_init 0 = .ok (.aload_n 0, 1) := by decide +kernel
theorem dX7_init_1 : decode cX7_init 1 = .ok (.invokespecial 3, 3) := by decide +kernel
theorem dX7_init_4 : decode cX7_init 4 = .ok (.aload_n 0, 1) := by decide +kernel
theorem dX7_init_5 : decode cX7_init 5 = .ok (.bipush 80, 2) := by decide +kernel
theorem dX7_init_7 : decode cX7_init 7 = .ok (.newarray .int, 2) := by decide +kernel
theorem dX7_init_9 : decode cX7_init 9 = .ok (.putfield 9, 3) := by decide +kernel
theorem dX7_init_12 : decode cX7_init 12 = .ok (.return_, 1) := by decide +kernel
theorem dX7_length_0 : decode cX7_length 0 = .ok (.aload_n 0, 1) := by decide +kernel
theorem dX7_length_1 : decode cX7_length 1 = .ok (.getfield 15, 3) := by decide +kernel
theorem dX7_length_4 : decode cX7_length 4 = .ok (.ireturn, 1) := by decide +kernel
theorem dX7_letterAt_0 : decode cX7_letterAt 0 = .ok (.iload_n 1, 1) := by decide +kernel
theorem dX7_letterAt_1 : decode cX7_letterAt 1 = .ok (.ifCond .lt 20, 3) := by decide +kernel
theorem dX7_letterAt_4 : decode cX7_letterAt 4 = .ok (.iload_n 1, 1) := by decide +kernel
theorem dX7_letterAt_5 : decode cX7_letterAt 5 = .ok (.aload_n 0, 1) := by decide +kernel
theorem dX7_letterAt_6 : decode cX7_letterAt 6 = .ok (.getfield 15, 3) := by decide +kernel
theorem dX7_letterAt_9 : decode cX7_letterAt 9 = .ok (.if_icmp .ge 12, 3) := by decide +kernel
theorem dX7_letterAt_12 : decode cX7_letterAt 12 = .ok (.aload_n 0, 1) := by decide +kernel
theorem dX7_letterAt_13 : decode cX7_letterAt 13 = .ok (.getfield 9, 3) := by decide +kernel
theorem dX7_letterAt_16 : decode cX7_letterAt 16 = .ok (.iload_n 1, 1) := by decide +kernel
theorem dX7_letterAt_17 : decode cX7_letterAt 17 = .ok (.iaload, 1) := by decide +kernel
theorem dX7_letterAt_18 : decode cX7_letterAt 18 = .ok (.goto 5, 3) := by decide +kernel
theorem dX7_letterAt_21 : decode cX7_letterAt 21 = .ok (.bipush (-9), 2) := by decide +kernel
theorem dX7_letterAt_23 : decode cX7_letterAt 23 = .ok (.ireturn, 1) := by decide +kernel
theorem dX7_append_0 : decode cX7_append 0 = .ok (.aload_n 0, 1) := by decide +kernel
theorem dX7_append_1 : decode cX7_append 1 = .ok (.getfield 15, 3) := by decide +kernel
theorem dX7_append_4 : decode cX7_append 4 = .ok (.ifCond .lt 12, 3) := by decide +kernel
theorem dX7_append_7 : decode cX7_append 7 = .ok (.aload_n 0, 1) := by decide +kernel
theorem dX7_append_8 : decode cX7_append 8 = .ok (.getfield 15, 3) := by decide +kernel
theorem dX7_append_11 : decode cX7_append 11 = .ok (.bipush 80, 2) := by decide +kernel
theorem dX7_append_13 : decode cX7_append 13 = .ok (.if_icmp .lt 5, 3) := by decide +kernel
theorem dX7_append_16 : decode cX7_append 16 = .ok (.iconst 0, 1) := by decide +kernel
theorem dX7_append_17 : decode cX7_append 17 = .ok (.ireturn, 1) := by decide +kernel
theorem dX7_append_18 : decode cX7_append 18 = .ok (.aload_n 0, 1) := by decide +kernel
theorem dX7_append_19 : decode cX7_append 19 = .ok (.getfield 9, 3) := by decide +kernel
theorem dX7_append_22 : decode cX7_append 22 = .ok (.aload_n 0, 1) := by decide +kernel
theorem dX7_append_23 : decode cX7_append 23 = .ok (.getfield 15, 3) := by decide +kernel
theorem dX7_append_26 : decode cX7_append 26 = .ok (.iload_n 1, 1) := by decide +kernel
theorem dX7_append_27 : decode cX7_append 27 = .ok (.iastore, 1) := by decide +kernel
theorem dX7_append_28 : decode cX7_append 28 = .ok (.aload_n 0, 1) := by decide +kernel
theorem dX7_append_29 : decode cX7_append 29 = .ok (.dup, 1) := by decide +kernel
theorem dX7_append_30 : decode cX7_append 30 = .ok (.getfield 15, 3) := by decide +kernel
theorem dX7_append_33 : decode cX7_append 33 = .ok (.iconst 1, 1) := by decide +kernel
theorem dX7_append_34 : decode cX7_append 34 = .ok (.iadd, 1) := by decide +kernel
theorem dX7_append_35 : decode cX7_append 35 = .ok (.putfield 15, 3) := by decide +kernel
theorem dX7_append_38 : decode cX7_append 38 = .ok (.iconst 1, 1) := by decide +kernel
theorem dX7_append_39 : decode cX7_append 39 = .ok (.ireturn, 1) := by decide +kernel
theorem dX7_clear_0 : decode cX7_clear 0 = .ok (.aload_n 0, 1) := by decide +kernel
theorem dX7_clear_1 : decode cX7_clear 1 = .ok (.iconst 0, 1) := by decide +kernel
theorem dX7_clear_2 : decode cX7_clear 2 = .ok (.putfield 15, 3) := by decide +kernel
theorem dX7_clear_5 : decode cX7_clear 5 = .ok (.return_, 1) := by decide +kernel
set_option maxRecDepth 20000 in
theorem ggX8_init_X7_init : GoodIn wsX8_init wsX7_init := goodIn_r _ [40, 41, 2, 3, 42, 43, 89, 90] (by decide +kernel) (by decide +kernel)
set_option maxRecDepth 20000 in
theorem gX8_init_X7_init_n11 : GoodIn wsX8_init (wsX7_init) := ggX8_init_X7_init
set_option maxRecDepth 20000 in
theorem ggX8_init_X4_init : GoodIn wsX8_init wsX4_init := goodIn_r _ [45, 46, 2, 3, 42, 47, 48, 49, 50, 102, 103, 104, 105, 106, 107] (by decide +kernel) (by decide +kernel)
set_option maxRecDepth 20000 in
theorem gX8_init_X4_init_n18 : GoodIn wsX8_init (wsX4_init) := ggX8_init_X4_init
set_option maxRecDepth 20000 in
theorem ggX8_init_X0_init : GoodIn wsX8_init wsX0_init := goodIn_r _ [52, 53, 2, 3, 42, 54, 55, 56, 57, 58, 59, 60, 108, 109, 110, 111, 112, 113, 114, 115, 116, 117, 118] (by decide +kernel) (by decide +kernel)
set_option maxRecDepth 20000 in
theorem gX8_init_X0_init_n28 : GoodIn wsX8_init (wsX0_init) := ggX8_init_X0_init
set_option maxRecDepth 20000 in
theorem ggX8_init_X3_init : GoodIn wsX8_init wsX3_init := goodIn_r _ [63, 64, 2, 3, 65, 66, 14, 15, 51, 52, 53, 42, 54, 55, 56, 57, 58, 59, 60, 119, 120, 121, 108, 109, 110, 111, 112, 113, 114, 115, 116, 117, 118] (by decide +kernel) (by decide +kernel)
set_option maxRecDepth 20000 in
theorem gX8_init_X3_init : GoodIn wsX8_init (wsX3_init) := ggX8_init_X3_init
set_option maxRecDepth 20000 in
theorem ggX8_init_X6_init : GoodIn wsX8_init wsX6_init := goodIn_r _ [69, 70, 2, 3, 71, 72, 73, 74, 14, 15, 51, 52, 53, 42, 54, 55, 56, 57, 58, 59, 60, 122, 123, 108, 109, 110, 111, 112, 113, 114, 115, 116, 117, 118] (by decide +kernel) (by decide +kernel)
set_option maxRecDepth 20000 in
theorem gX8_init_X6_init : GoodIn wsX8_init (wsX6_init) := ggX8_init_X6_init
set_option maxRecDepth 20000 in
theorem ggX8_init_X5_init : GoodIn wsX8_init wsX5_init := goodIn_r _ [76, 77, 2, 3, 42, 78, 79, 73, 80, 124, 125, 126, 127] (by decide +kernel) (by decide +kernel)
set_option maxRecDepth 20000 in
theorem gX8_init_X5_init_n52 : GoodIn wsX8_init (wsX5_init) := ggX8_init_X5_init
set_option maxRecDepth 20000 in
theorem ggX8_init_X1_init : GoodIn wsX8_init wsX1_init := goodIn_r _ [82, 83, 2, 3] (by decide +kernel) (by decide +kernel)
set_option maxRecDepth 20000 in
theorem gX8_init_X1_init_n59 : GoodIn wsX8_init (wsX1_init) := ggX8_init_X1_init
set_option maxRecDepth 20000 in
theorem ggX8_init_X2_init : GoodIn wsX8_init wsX2_init := goodIn_r _ [85, 86, 2, 3, 87, 88, 132, 133] (by decide +kernel) (by decide +kernel)
set_option maxRecDepth 20000 in
theorem gX8_init_X2_init_n66 : GoodIn wsX8_init (wsX2_init) := ggX8_init_X2_init
theorem dX8_init_0 : decode cX8_init 0 = .ok (.aload_n 0, 1) := by decide +kernel
theorem dX8_init_1 : decode cX8_init 1 = .ok (.invokespecial 3, 3) := by decide +kernel
theorem dX8_init_4 : decode cX8_init 4 = .ok (.aload_n 0, 1) := by decide +kernel
theorem dX8_init_5 : decode cX8_init 5 = .ok (.new 9, 3) := by decide +kernel
theorem dX8_init_8 : decode cX8_init 8 = .ok (.dup, 1) := by decide +kernel
theorem dX8_init_9 : decode cX8_init 9 = .ok (.invokespecial 11, 3) := by decide +kernel
theorem dX8_init_12 : decode cX8_init 12 = .ok (.putfield 12, 3) := by decide +kernel
theorem dX8_init_15 : decode cX8_init 15 = .ok (.aload_n 0, 1) := by decide +kernel
theorem dX8_init_16 : decode cX8_init 16 = .ok (.new 16, 3) := by decide +kernel
theorem dX8_init_19 : decode cX8_init 19 = .ok (.dup, 1) := by decide +kernel
theorem dX8_init_20 : decode cX8_init 20 = .ok (.invokespecial 18, 3) := by decide +kernel
theorem dX8_init_23 : decode cX8_init 23 = .ok (.putfield 19, 3) := by decide +kernel
theorem dX8_init_26 : decode cX8_init 26 = .ok (.aload_n 0, 1) := by decide +kernel
theorem dX8_init_27 : decode cX8_init 27 = .ok (.new 16, 3) := by decide +kernel
theorem dX8_init_30 : decode cX8_init 30 = .ok (.dup, 1) := by decide +kernel
theorem dX8_init_31 : decode cX8_init 31 = .ok (.invokespecial 18, 3) := by decide +kernel
theorem dX8_init_34 : decode cX8_init 34 = .ok (.putfield 23, 3) := by decide +kernel
theorem dX8_init_37 : decode cX8_init 37 = .ok (.aload_n 0, 1) := by decide +kernel
theorem dX8_init_38 : decode cX8_init 38 = .ok (.new 26, 3) := by decide +kernel
theorem dX8_init_41 : decode cX8_init 41 = .ok (.dup, 1) := by decide +kernel
theorem dX8_init_42 : decode cX8_init 42 = .ok (.invokespecial 28, 3) := by decide +kernel
theorem dX8_init_45 : decode cX8_init 45 = .ok (.putfield 29, 3) := by decide +kernel
theorem dX8_init_48 : decode cX8_init 48 = .ok (.aload_n 0, 1) := by decide +kernel
theorem dX8_init_49 : decode cX8_init 49 = .ok (.new 26, 3) := by decide +kernel
theorem dX8_init_52 : decode cX8_init 52 = .ok (.dup, 1) := by decide +kernel
theorem dX8_init_53 : decode cX8_init 53 = .ok (.invokespecial 28, 3) := by decide +kernel
theorem dX8_init_56 : decode cX8_init 56 = .ok (.putfield 33, 3) := by decide +kernel
theorem dX8_init_59 : decode cX8_init 59 = .ok (.aload_n 0, 1) := by decide +kernel
theorem dX8_init_60 : decode cX8_init 60 = .ok (.new 36, 3) := by decide +kernel
theorem dX8_init_63 : decode cX8_init 63 = .ok (.dup, 1) := by decide +kernel
theorem dX8_init_64 : decode cX8_init 64 = .ok (.invokespecial 38, 3) := by decide +kernel
theorem dX8_init_67 : decode cX8_init 67 = .ok (.putfield 39, 3) := by decide +kernel
theorem dX8_init_70 : decode cX8_init 70 = .ok (.aload_n 0, 1) := by decide +kernel
theorem dX8_init_71 : decode cX8_init 71 = .ok (.new 43, 3) := by decide +kernel
theorem dX8_init_74 : decode cX8_init 74 = .ok (.dup, 1) := by decide +kernel
theorem dX8_init_75 : decode cX8_init 75 = .ok (.invokespecial 45, 3) := by decide +kernel
theorem dX8_init_78 : decode cX8_init 78 = .ok (.putfield 46, 3) := by decide +kernel
theorem dX8_init_81 : decode cX8_init 81 = .ok (.aload_n 0, 1) := by decide +kernel
theorem dX8_init_82 : decode cX8_init 82 = .ok (.new 50, 3) := by decide +kernel
theorem dX8_init_85 : decode cX8_init 85 = .ok (.dup, 1) := by decide +kernel
theorem dX8_init_86 : decode cX8_init 86 = .ok (.invokespecial 52, 3) := by decide +kernel
theorem dX8_init_89 : decode cX8_init 89 = .ok (.putfield 53, 3) := by decide +kernel
theorem dX8_init_92 : decode cX8_init 92 = .ok (.aload_n 0, 1) := by decide +kernel
theorem dX8_init_93 : decode cX8_init 93 = .ok (.new 57, 3) := by decide +kernel
theorem dX8_init_96 : decode cX8_init 96 = .ok (.dup, 1) := by decide +kernel
theorem dX8_init_97 : decode cX8_init 97 = .ok (.invokespecial 59, 3) := by decide +kernel
theorem dX8_init_100 : decode cX8_init 100 = .ok (.putfield 60, 3) := by decide +kernel
theorem dX8_init_103 : decode cX8_init 103 = .ok (.aload_n 0, 1) := by decide +kernel
theorem dX8_init_104 : decode cX8_init 104 = .ok (.new 64, 3) := by decide +kernel
theorem dX8_init_107 : decode cX8_init 107 = .ok (.dup, 1) := by decide +kernel
theorem dX8_init_108 : decode cX8_init 108 = .ok (.invokespecial 66, 3) := by decide +kernel
theorem dX8_init_111 : decode cX8_init 111 = .ok (.putfield 67, 3) := by decide +kernel
theorem dX8_init_114 : decode cX8_init 114 = .ok (.aload_n 0, 1) := by decide +kernel
theorem dX8_init_115 : decode cX8_init 115 = .ok (.lconst 0, 1) := by decide +kernel
theorem dX8_init_116 : decode cX8_init 116 = .ok (.putfield 71, 3) := by decide +kernel
theorem dX8_init_119 : decode cX8_init 119 = .ok (.return_, 1) := by decide +kernel
set_option maxRecDepth 20000 in
theorem ggX8_write_X7_append : GoodIn wsX8_write wsX7_append := goodIn_r _ [6, 7, 8, 24, 25] (by decide +kernel) (by decide +kernel)
set_option maxRecDepth 20000 in
theorem gX8_write_X7_append : GoodIn wsX8_write (wsV RX8 75 RX7 yX7_append wsX7_append) := goodIn_app (goodIn_of _ (by decide +kernel)) ggX8_write_X7_append
set_option maxRecDepth 20000 in
theorem ggX8_write_X7_length : GoodIn wsX8_write wsX7_length := goodIn_r _ [12, 7, 24, 25] (by decide +kernel) (by decide +kernel)
set_option maxRecDepth 20000 in
theorem gX8_write_X7_length : GoodIn wsX8_write (wsV RX8 79 RX7 yX7_length wsX7_length) := goodIn_app (goodIn_of _ (by decide +kernel)) ggX8_write_X7_length
theorem dX8_write_0 : decode cX8_write 0 = .ok (.iload_n 1, 1) := by decide +kernel
theorem dX8_write_1 : decode cX8_write 1 = .ok (.ifCond .lt 10, 3) := by decide +kernel
theorem dX8_write_4 : decode cX8_write 4 = .ok (.iload_n 1, 1) := by decide +kernel
theorem dX8_write_5 : decode cX8_write 5 = .ok (.sipush 255, 3) := by decide +kernel
theorem dX8_write_8 : decode cX8_write 8 = .ok (.if_icmp .le 6, 3) := by decide +kernel
theorem dX8_write_11 : decode cX8_write 11 = .ok (.bipush (-2), 2) := by decide +kernel
theorem dX8_write_13 : decode cX8_write 13 = .ok (.ireturn, 1) := by decide +kernel
theorem dX8_write_14 : decode cX8_write 14 = .ok (.aload_n 0, 1) := by decide +kernel
theorem dX8_write_15 : decode cX8_write 15 = .ok (.getfield 12, 3) := by decide +kernel
theorem dX8_write_18 : decode cX8_write 18 = .ok (.iload_n 1, 1) := by decide +kernel
theorem dX8_write_19 : decode cX8_write 19 = .ok (.invokevirtual 75, 3) := by decide +kernel
theorem dX8_write_22 : decode cX8_write 22 = .ok (.ifCond .eq 13, 3) := by decide +kernel
theorem dX8_write_25 : decode cX8_write 25 = .ok (.aload_n 0, 1) := by decide +kernel
theorem dX8_write_26 : decode cX8_write 26 = .ok (.getfield 12, 3) := by decide +kernel
theorem dX8_write_29 : decode cX8_write 29 = .ok (.invokevirtual 79, 3) := by decide +kernel
theorem dX8_write_32 : decode cX8_write 32 = .ok (.goto 5, 3) := by decide +kernel
theorem dX8_write_35 : decode cX8_write 35 = .ok (.bipush (-4), 2) := by decide +kernel
theorem dX8_write_37 : decode cX8_write 37 = .ok (.ireturn, 1) := by decide +kernel
set_option maxRecDepth 20000 in
theorem ggX8_wipe_X7_length : GoodIn wsX8_wipe wsX7_length := goodIn_r _ [6, 7, 23, 24] (by decide +kernel) (by decide +kernel)
set_option maxRecDepth 20000 in
theorem gX8_wipe_X7_length : GoodIn wsX8_wipe (wsV RX8 79 RX7 yX7_length wsX7_length) := goodIn_app (goodIn_of _ (by decide +kernel)) ggX8_wipe_X7_length
set_option maxRecDepth 20000 in
theorem ggX8_wipe_X7_clear : GoodIn wsX8_wipe wsX7_clear := goodIn_r _ [11, 7, 23, 24] (by decide +kernel) (by decide +kernel)
set_option maxRecDepth 20000 in
theorem gX8_wipe_X7_clear : GoodIn wsX8_wipe (wsV RX8 83 RX7 yX7_clear wsX7_clear) := goodIn_app (goodIn_of _ (by decide +kernel)) ggX8_wipe_X7_clear
theorem dX8_wipe_0 : decode cX8_wipe 0 = .ok (.aload_n 0, 1) := by decide +kernel
theorem dX8_wipe_1 : decode cX8_wipe 1 = .ok (.getfield 12, 3) := by decide +kernel
theorem dX8_wipe_4 : decode cX8_wipe 4 = .ok (.invokevirtual 79, 3) := by decide +kernel
theorem dX8_wipe_7 : decode cX8_wipe 7 = .ok (.istore_n 1, 1) := by decide +kernel
theorem dX8_wipe_8 : decode cX8_wipe 8 = .ok (.aload_n 0, 1) := by decide +kernel
theorem dX8_wipe_9 : decode cX8_wipe 9 = .ok (.getfield 12, 3) := by decide +kernel
theorem dX8_wipe_12 : decode cX8_wipe 12 = .ok (.invokevirtual 83, 3) := by decide +kernel
theorem dX8_wipe_15 : decode cX8_wipe 15 = .ok (.iload_n 1, 1) := by decide +kernel
theorem dX8_wipe_16 : decode cX8_wipe 16 = .ok (.ireturn, 1) := by decide +kernel
set_option maxRecDepth 20000 in
theorem ggX8_fault_X4_readFrom : GoodIn wsX8_fault wsX4_readFrom := goodIn_r _ [7, 8, 9, 10, 11, 12, 13, 14, 15, 16, 17, 18, 19, 20, 21, 22, 23, 6, 24, 25, 26, 27, 28, 29, 30, 31, 32, 33, 34, 35, 36, 37, 38, 39, 40, 41, 42, 43, 44, 45, 46, 47, 48, 49, 50, 51, 52, 53, 54, 55, 56, 57, 58, 59, 60, 72, 73, 74, 75, 76, 77, 78, 79] (by decide +kernel) (by decide +kernel)
set_option maxRecDepth 20000 in
theorem gX8_fault_X4_readFrom : GoodIn wsX8_fault (wsV RX8 86 RX4 yX4_readFrom wsX4_readFrom) := goodIn_app (goodIn_of _ (by decide +kernel)) ggX8_fault_X4_readFrom
theorem dX8_fault_0 : decode cX8_fault 0 = .ok (.aload_n 0, 1) := by decide +kernel
theorem dX8_fault_1 : decode cX8_fault 1 = .ok (.getfield 19, 3) := by decide +kernel
theorem dX8_fault_4 : decode cX8_fault 4 = .ok (.aload_n 0, 1) := by decide +kernel
theorem dX8_fault_5 : decode cX8_fault 5 = .ok (.getfield 12, 3) := by decide +kernel
theorem dX8_fault_8 : decode cX8_fault 8 = .ok (.invokevirtual 86, 3) := by decide +kernel
theorem dX8_fault_11 : decode cX8_fault 11 = .ok (.ireturn, 1) := by decide +kernel
set_option maxRecDepth 20000 in
theorem ggX8_hall_X4_readFrom : GoodIn wsX8_hall wsX4_readFrom := goodIn_r _ [11, 12, 13, 14, 15, 16, 17, 18, 19, 20, 21, 22, 23, 24, 25, 26, 27, 10, 28, 29, 30, 31, 32, 33, 34, 35, 36, 37, 38, 39, 40, 41, 42, 43, 44, 45, 46, 47, 48, 49, 50, 51, 52, 53, 54, 55, 56, 57, 58, 59, 60, 61, 62, 63, 64, 111, 112, 113, 114, 115, 116, 117, 118] (by decide +kernel) (by decide +kernel)
set_option maxRecDepth 20000 in
theorem gX8_hall_X4_readFrom : GoodIn wsX8_hall (wsV RX8 86 RX4 yX4_readFrom wsX4_readFrom) := goodIn_app (goodIn_of _ (by decide +kernel)) ggX8_hall_X4_readFrom
set_option maxRecDepth 20000 in
theorem ggX8_hall_X0_open : GoodIn wsX8_hall wsX0_open := goodIn_r _ [69, 70, 71, 72, 73, 74, 75, 76, 77, 78, 10, 79, 59, 47, 48, 49, 50, 12, 80, 44, 45, 46, 37, 81, 82, 83, 119, 120, 121, 122, 123, 124, 125, 126, 127, 128, 129, 111, 112, 113, 114, 115, 116] (by decide +kernel) (by decide +kernel)
set_option maxRecDepth 20000 in
theorem gX8_hall_X0_open : GoodIn wsX8_hall (wsV RX8 90 RX0 yX0_open wsX0_open) := goodIn_app (goodIn_of _ (by decide +kernel)) ggX8_hall_X0_open
set_option maxRecDepth 20000 in
theorem ggX8_hall_X3_clear : GoodIn wsX8_hall wsX3_clear := goodIn_r _ [88, 89, 130, 131, 132] (by decide +kernel) (by decide +kernel)
set_option maxRecDepth 20000 in
theorem gX8_hall_X3_clear : GoodIn wsX8_hall (wsV RX8 94 RX3 yX3_clear wsX3_clear) := goodIn_app (goodIn_of _ (by decide +kernel)) ggX8_hall_X3_clear
set_option maxRecDepth 20000 in
theorem ggX8_hall_X6_clear : GoodIn wsX8_hall wsX6_clear := goodIn_r _ [94, 95, 133, 134] (by decide +kernel) (by decide +kernel)
set_option maxRecDepth 20000 in
theorem gX8_hall_X6_clear : GoodIn wsX8_hall (wsV RX8 95 RX6 yX6_clear wsX6_clear) := goodIn_app (goodIn_of _ (by decide +kernel)) ggX8_hall_X6_clear
set_option maxRecDepth 20000 in
theorem ggX8_hall_X4_rows : GoodIn wsX8_hall wsX4_rows := goodIn_r _ [99, 12, 111, 112, 113, 114, 115, 116] (by decide +kernel) (by decide +kernel)
set_option maxRecDepth 20000 in
theorem gX8_hall_X4_rows : GoodIn wsX8_hall (wsV RX8 96 RX4 yX4_rows wsX4_rows) := goodIn_app (goodIn_of _ (by decide +kernel)) ggX8_hall_X4_rows
theorem dX8_hall_0 : decode cX8_hall 0 = .ok (.aload_n 0, 1) := by decide +kernel
theorem dX8_hall_1 : decode cX8_hall 1 = .ok (.getfield 19, 3) := by decide +kernel
theorem dX8_hall_4 : decode cX8_hall 4 = .ok (.aload_n 0, 1) := by decide +kernel
theorem dX8_hall_5 : decode cX8_hall 5 = .ok (.getfield 12, 3) := by decide +kernel
theorem dX8_hall_8 : decode cX8_hall 8 = .ok (.invokevirtual 86, 3) := by decide +kernel
theorem dX8_hall_11 : decode cX8_hall 11 = .ok (.bipush (-9), 2) := by decide +kernel
theorem dX8_hall_13 : decode cX8_hall 13 = .ok (.if_icmp .eq 6, 3) := by decide +kernel
theorem dX8_hall_16 : decode cX8_hall 16 = .ok (.bipush (-3), 2) := by decide +kernel
theorem dX8_hall_18 : decode cX8_hall 18 = .ok (.ireturn, 1) := by decide +kernel
theorem dX8_hall_19 : decode cX8_hall 19 = .ok (.aload_n 0, 1) := by decide +kernel
theorem dX8_hall_20 : decode cX8_hall 20 = .ok (.getfield 23, 3) := by decide +kernel
theorem dX8_hall_23 : decode cX8_hall 23 = .ok (.aload_n 0, 1) := by decide +kernel
theorem dX8_hall_24 : decode cX8_hall 24 = .ok (.getfield 12, 3) := by decide +kernel
theorem dX8_hall_27 : decode cX8_hall 27 = .ok (.invokevirtual 86, 3) := by decide +kernel
theorem dX8_hall_30 : decode cX8_hall 30 = .ok (.pop, 1) := by decide +kernel
theorem dX8_hall_31 : decode cX8_hall 31 = .ok (.aload_n 0, 1) := by decide +kernel
theorem dX8_hall_32 : decode cX8_hall 32 = .ok (.getfield 29, 3) := by decide +kernel
theorem dX8_hall_35 : decode cX8_hall 35 = .ok (.aload_n 0, 1) := by decide +kernel
theorem dX8_hall_36 : decode cX8_hall 36 = .ok (.getfield 23, 3) := by decide +kernel
theorem dX8_hall_39 : decode cX8_hall 39 = .ok (.invokevirtual 90, 3) := by decide +kernel
theorem dX8_hall_42 : decode cX8_hall 42 = .ok (.aload_n 0, 1) := by decide +kernel
theorem dX8_hall_43 : decode cX8_hall 43 = .ok (.getfield 39, 3) := by decide +kernel
theorem dX8_hall_46 : decode cX8_hall 46 = .ok (.invokevirtual 94, 3) := by decide +kernel
theorem dX8_hall_49 : decode cX8_hall 49 = .ok (.aload_n 0, 1) := by decide +kernel
theorem dX8_hall_50 : decode cX8_hall 50 = .ok (.getfield 46, 3) := by decide +kernel
theorem dX8_hall_53 : decode cX8_hall 53 = .ok (.invokevirtual 95, 3) := by decide +kernel
theorem dX8_hall_56 : decode cX8_hall 56 = .ok (.aload_n 0, 1) := by decide +kernel
theorem dX8_hall_57 : decode cX8_hall 57 = .ok (.getfield 23, 3) := by decide +kernel
theorem dX8_hall_60 : decode cX8_hall 60 = .ok (.invokevirtual 96, 3) := by decide +kernel
theorem dX8_hall_63 : decode cX8_hall 63 = .ok (.ireturn, 1) := by decide +kernel
set_option maxRecDepth 20000 in
theorem ggX8_row_X4_hasRow : GoodIn wsX8_row wsX4_hasRow := goodIn_r _ [7, 8, 56, 57, 58, 59, 60, 61] (by decide +kernel) (by decide +kernel)
set_option maxRecDepth 20000 in
theorem gX8_row_X4_hasRow : GoodIn wsX8_row (wsV RX8 99 RX4 yX4_hasRow wsX4_hasRow) := goodIn_app (goodIn_of _ (by decide +kernel)) ggX8_row_X4_hasRow
set_option maxRecDepth 20000 in
theorem ggX8_row_X0_priceOf : GoodIn wsX8_row wsX0_priceOf := goodIn_r _ [13, 14, 15, 16, 12, 17, 62, 63, 64, 65, 66, 67, 68, 69, 70, 71, 72] (by decide +kernel) (by decide +kernel)
set_option maxRecDepth 20000 in
theorem gX8_row_X0_priceOf : GoodIn wsX8_row (wsV RX8 102 RX0 yX0_priceOf wsX0_priceOf) := goodIn_app (goodIn_of _ (by decide +kernel)) ggX8_row_X0_priceOf
set_option maxRecDepth 20000 in
theorem ggX8_row_X4_seatsIn : GoodIn wsX8_row wsX4_seatsIn := goodIn_r _ [21, 22, 23, 4, 5, 6, 7, 8, 56, 57, 58, 59, 60, 61] (by decide +kernel) (by decide +kernel)
set_option maxRecDepth 20000 in
theorem gX8_row_X4_seatsIn : GoodIn wsX8_row (wsV RX8 106 RX4 yX4_seatsIn wsX4_seatsIn) := goodIn_app (goodIn_of _ (by decide +kernel)) ggX8_row_X4_seatsIn
set_option maxRecDepth 20000 in
theorem ggX8_row_X4_blocksIn : GoodIn wsX8_row wsX4_blocksIn := goodIn_r _ [27, 22, 28, 23, 4, 5, 6, 7, 8, 29, 30, 31, 32, 33, 34, 35, 56, 57, 58, 59, 60, 61] (by decide +kernel) (by decide +kernel)
set_option maxRecDepth 20000 in
theorem gX8_row_X4_blocksIn : GoodIn wsX8_row (wsV RX8 109 RX4 yX4_blocksIn wsX4_blocksIn) := goodIn_app (goodIn_of _ (by decide +kernel)) ggX8_row_X4_blocksIn
set_option maxRecDepth 20000 in
theorem ggX8_row_X0_freeIn : GoodIn wsX8_row wsX0_freeIn := goodIn_r _ [39, 40, 15, 16, 12, 17, 62, 63, 64, 65, 66, 67, 68, 69, 70, 71, 72] (by decide +kernel) (by decide +kernel)
set_option maxRecDepth 20000 in
theorem gX8_row_X0_freeIn : GoodIn wsX8_row (wsV RX8 112 RX0 yX0_freeIn wsX0_freeIn) := goodIn_app (goodIn_of _ (by decide +kernel)) ggX8_row_X0_freeIn
set_option maxRecDepth 20000 in
theorem ggX8_row_X4_loneOf : GoodIn wsX8_row wsX4_loneOf := goodIn_r _ [44, 28, 23, 4, 5, 6, 7, 8, 56, 57, 58, 59, 60, 61] (by decide +kernel) (by decide +kernel)
set_option maxRecDepth 20000 in
theorem gX8_row_X4_loneOf : GoodIn wsX8_row (wsV RX8 115 RX4 yX4_loneOf wsX4_loneOf) := goodIn_app (goodIn_of _ (by decide +kernel)) ggX8_row_X4_loneOf
theorem dX8_row_0 : decode cX8_row 0 = .ok (.aload_n 0, 1) := by decide +kernel
theorem dX8_row_1 : decode cX8_row 1 = .ok (.getfield 23, 3) := by decide +kernel
theorem dX8_row_4 : decode cX8_row 4 = .ok (.iload_n 1, 1) := by decide +kernel
theorem dX8_row_5 : decode cX8_row 5 = .ok (.invokevirtual 99, 3) := by decide +kernel
theorem dX8_row_8 : decode cX8_row 8 = .ok (.ifCond .ne 5, 3) := by decide +kernel
theorem dX8_row_11 : decode cX8_row 11 = .ok (.iconst (-1), 1) := by decide +kernel
theorem dX8_row_12 : decode cX8_row 12 = .ok (.ireturn, 1) := by decide +kernel
theorem dX8_row_13 : decode cX8_row 13 = .ok (.iload_n 2, 1) := by decide +kernel
theorem dX8_row_14 : decode cX8_row 14 = .ok (.tableswitch 87 0 4 #[34, 43, 52, 61, 70], 34) := by decide +kernel
theorem dX8_row_48 : decode cX8_row 48 = .ok (.aload_n 0, 1) := by decide +kernel
theorem dX8_row_49 : decode cX8_row 49 = .ok (.getfield 29, 3) := by decide +kernel
theorem dX8_row_52 : decode cX8_row 52 = .ok (.iload_n 1, 1) := by decide +kernel
theorem dX8_row_53 : decode cX8_row 53 = .ok (.invokevirtual 102, 3) := by decide +kernel
theorem dX8_row_56 : decode cX8_row 56 = .ok (.ireturn, 1) := by decide +kernel
theorem dX8_row_57 : decode cX8_row 57 = .ok (.aload_n 0, 1) := by decide +kernel
theorem dX8_row_58 : decode cX8_row 58 = .ok (.getfield 23, 3) := by decide +kernel
theorem dX8_row_61 : decode cX8_row 61 = .ok (.iload_n 1, 1) := by decide +kernel
theorem dX8_row_62 : decode cX8_row 62 = .ok (.invokevirtual 106, 3) := by decide +kernel
theorem dX8_row_65 : decode cX8_row 65 = .ok (.ireturn, 1) := by decide +kernel
theorem dX8_row_66 : decode cX8_row 66 = .ok (.aload_n 0, 1) := by decide +kernel
theorem dX8_row_67 : decode cX8_row 67 = .ok (.getfield 23, 3) := by decide +kernel
theorem dX8_row_70 : decode cX8_row 70 = .ok (.iload_n 1, 1) := by decide +kernel
theorem dX8_row_71 : decode cX8_row 71 = .ok (.invokevirtual 109, 3) := by decide +kernel
theorem dX8_row_74 : decode cX8_row 74 = .ok (.ireturn, 1) := by decide +kernel
theorem dX8_row_75 : decode cX8_row 75 = .ok (.aload_n 0, 1) := by decide +kernel
theorem dX8_row_76 : decode cX8_row 76 = .ok (.getfield 29, 3) := by decide +kernel
theorem dX8_row_79 : decode cX8_row 79 = .ok (.iload_n 1, 1) := by decide +kernel
theorem dX8_row_80 : decode cX8_row 80 = .ok (.invokevirtual 112, 3) := by decide +kernel
theorem dX8_row_83 : decode cX8_row 83 = .ok (.ireturn, 1) := by decide +kernel
theorem dX8_row_84 : decode cX8_row 84 = .ok (.aload_n 0, 1) := by decide +kernel
theorem dX8_row_85 : decode cX8_row 85 = .ok (.getfield 23, 3) := by decide +kernel
theorem dX8_row_88 : decode cX8_row 88 = .ok (.iload_n 1, 1) := by decide +kernel
theorem dX8_row_89 : decode cX8_row 89 = .ok (.aload_n 0, 1) := by decide +kernel
theorem dX8_row_90 : decode cX8_row 90 = .ok (.getfield 29, 3) := by decide +kernel
theorem dX8_row_93 : decode cX8_row 93 = .ok (.iload_n 1, 1) := by decide +kernel
theorem dX8_row_94 : decode cX8_row 94 = .ok (.invokevirtual 112, 3) := by decide +kernel
theorem dX8_row_97 : decode cX8_row 97 = .ok (.invokevirtual 115, 3) := by decide +kernel
theorem dX8_row_100 : decode cX8_row 100 = .ok (.ireturn, 1) := by decide +kernel
theorem dX8_row_101 : decode cX8_row 101 = .ok (.bipush (-2), 2) := by decide +kernel
theorem dX8_row_103 : decode cX8_row 103 = .ok (.ireturn, 1) := by decide +kernel
set_option maxRecDepth 20000 in
theorem ggX8_seat_X4_hasSeat : GoodIn wsX8_seat wsX4_hasSeat := goodIn_r _ [7, 8, 9, 10, 11, 6, 12, 13, 63, 64, 65, 66, 67, 68] (by decide +kernel) (by decide +kernel)
set_option maxRecDepth 20000 in
theorem gX8_seat_X4_hasSeat : GoodIn wsX8_seat (wsV RX8 119 RX4 yX4_hasSeat wsX4_hasSeat) := goodIn_app (goodIn_of _ (by decide +kernel)) ggX8_seat_X4_hasSeat
set_option maxRecDepth 20000 in
theorem ggX8_seat_X4_viewOf : GoodIn wsX8_seat wsX4_viewOf := goodIn_r _ [17, 18, 19, 4, 5, 6, 7, 8, 9, 10, 11, 12, 13, 63, 64, 65, 66, 67, 68] (by decide +kernel) (by decide +kernel)
set_option maxRecDepth 20000 in
theorem gX8_seat_X4_viewOf : GoodIn wsX8_seat (wsV RX8 123 RX4 yX4_viewOf wsX4_viewOf) := goodIn_app (goodIn_of _ (by decide +kernel)) ggX8_seat_X4_viewOf
set_option maxRecDepth 20000 in
theorem ggX8_seat_X4_hasAisleAfter : GoodIn wsX8_seat wsX4_hasAisleAfter := goodIn_r _ [23, 24, 19, 4, 5, 6, 7, 8, 9, 10, 11, 12, 13, 63, 64, 65, 66, 67, 68] (by decide +kernel) (by decide +kernel)
set_option maxRecDepth 20000 in
theorem gX8_seat_X4_hasAisleAfter : GoodIn wsX8_seat (wsV RX8 126 RX4 yX4_hasAisleAfter wsX4_hasAisleAfter) := goodIn_app (goodIn_of _ (by decide +kernel)) ggX8_seat_X4_hasAisleAfter
set_option maxRecDepth 20000 in
theorem ggX8_seat_X0_takerOf : GoodIn wsX8_seat wsX0_takerOf := goodIn_r _ [29, 30, 31, 32, 33, 34, 35, 36, 28, 37, 38, 39, 40, 41, 42, 43, 44, 45, 46, 47, 48, 49, 50, 51, 69, 70, 71, 72, 73, 74, 75, 76, 77, 78, 79] (by decide +kernel) (by decide +kernel)
set_option maxRecDepth 20000 in
theorem gX8_seat_X0_takerOf : GoodIn wsX8_seat (wsV RX8 129 RX0 yX0_takerOf wsX0_takerOf) := goodIn_app (goodIn_of _ (by decide +kernel)) ggX8_seat_X0_takerOf
theorem dX8_seat_0 : decode cX8_seat 0 = .ok (.aload_n 0, 1) := by decide +kernel
theorem dX8_seat_1 : decode cX8_seat 1 = .ok (.getfield 23, 3) := by decide +kernel
theorem dX8_seat_4 : decode cX8_seat 4 = .ok (.iload_n 1, 1) := by decide +kernel
theorem dX8_seat_5 : decode cX8_seat 5 = .ok (.iload_n 2, 1) := by decide +kernel
theorem dX8_seat_6 : decode cX8_seat 6 = .ok (.invokevirtual 119, 3) := by decide +kernel
theorem dX8_seat_9 : decode cX8_seat 9 = .ok (.ifCond .ne 5, 3) := by decide +kernel
theorem dX8_seat_12 : decode cX8_seat 12 = .ok (.iconst (-1), 1) := by decide +kernel
theorem dX8_seat_13 : decode cX8_seat 13 = .ok (.ireturn, 1) := by decide +kernel
theorem dX8_seat_14 : decode cX8_seat 14 = .ok (.iload_n 3, 1) := by decide +kernel
theorem dX8_seat_15 : decode cX8_seat 15 = .ok (.tableswitch 63 0 2 #[25, 35, 53], 25) := by decide +kernel
theorem dX8_seat_40 : decode cX8_seat 40 = .ok (.aload_n 0, 1) := by decide +kernel
theorem dX8_seat_41 : decode cX8_seat 41 = .ok (.getfield 23, 3) := by decide +kernel
theorem dX8_seat_44 : decode cX8_seat 44 = .ok (.iload_n 1, 1) := by decide +kernel
theorem dX8_seat_45 : decode cX8_seat 45 = .ok (.iload_n 2, 1) := by decide +kernel
theorem dX8_seat_46 : decode cX8_seat 46 = .ok (.invokevirtual 123, 3) := by decide +kernel
theorem dX8_seat_49 : decode cX8_seat 49 = .ok (.ireturn, 1) := by decide +kernel
theorem dX8_seat_50 : decode cX8_seat 50 = .ok (.aload_n 0, 1) := by decide +kernel
theorem dX8_seat_51 : decode cX8_seat 51 = .ok (.getfield 23, 3) := by decide +kernel
theorem dX8_seat_54 : decode cX8_seat 54 = .ok (.iload_n 1, 1) := by decide +kernel
theorem dX8_seat_55 : decode cX8_seat 55 = .ok (.iload_n 2, 1) := by decide +kernel
theorem dX8_seat_56 : decode cX8_seat 56 = .ok (.invokevirtual 126, 3) := by decide +kernel
theorem dX8_seat_59 : decode cX8_seat 59 = .ok (.ifCond .eq 7, 3) := by decide +kernel
theorem dX8_seat_62 : decode cX8_seat 62 = .ok (.iconst 1, 1) := by decide +kernel
theorem dX8_seat_63 : decode cX8_seat 63 = .ok (.goto 4, 3) := by decide +kernel
theorem dX8_seat_66 : decode cX8_seat 66 = .ok (.iconst 0, 1) := by decide +kernel
theorem dX8_seat_67 : decode cX8_seat 67 = .ok (.ireturn, 1) := by decide +kernel
theorem dX8_seat_68 : decode cX8_seat 68 = .ok (.aload_n 0, 1) := by decide +kernel
theorem dX8_seat_69 : decode cX8_seat 69 = .ok (.getfield 29, 3) := by decide +kernel
theorem dX8_seat_72 : decode cX8_seat 72 = .ok (.iload_n 1, 1) := by decide +kernel
theorem dX8_seat_73 : decode cX8_seat 73 = .ok (.iload_n 2, 1) := by decide +kernel
theorem dX8_seat_74 : decode cX8_seat 74 = .ok (.invokevirtual 129, 3) := by decide +kernel
theorem dX8_seat_77 : decode cX8_seat 77 = .ok (.ireturn, 1) := by decide +kernel
theorem dX8_seat_78 : decode cX8_seat 78 = .ok (.bipush (-2), 2) := by decide +kernel
theorem dX8_seat_80 : decode cX8_seat 80 = .ok (.ireturn, 1) := by decide +kernel
set_option maxRecDepth 20000 in
theorem ggX8_party_X0_knows : GoodIn wsX8_party wsX0_knows := goodIn_r _ [6, 7, 62, 63, 64, 65, 66, 67, 68, 69, 70, 71, 72] (by decide +kernel) (by decide +kernel)
set_option maxRecDepth 20000 in
theorem gX8_party_X0_knows : GoodIn wsX8_party (wsV RX8 132 RX0 yX0_knows wsX0_knows) := goodIn_app (goodIn_of _ (by decide +kernel)) ggX8_party_X0_knows
set_option maxRecDepth 20000 in
theorem ggX8_party_X0_isSeated : GoodIn wsX8_party wsX0_isSeated := goodIn_r _ [11, 12, 13, 14, 5, 15, 16, 17, 3, 4, 6, 7, 62, 63, 64, 65, 66, 67, 68, 69, 70, 71, 72] (by decide +kernel) (by decide +kernel)
set_option maxRecDepth 20000 in
theorem gX8_party_X0_isSeated : GoodIn wsX8_party (wsV RX8 135 RX0 yX0_isSeated wsX0_isSeated) := goodIn_app (goodIn_of _ (by decide +kernel)) ggX8_party_X0_isSeated
set_option maxRecDepth 20000 in
theorem ggX8_party_X0_sizeOf : GoodIn wsX8_party wsX0_sizeOf := goodIn_r _ [21, 22, 17, 3, 4, 5, 6, 7, 62, 63, 64, 65, 66, 67, 68, 69, 70, 71, 72] (by decide +kernel) (by decide +kernel)
set_option maxRecDepth 20000 in
theorem gX8_party_X0_sizeOf : GoodIn wsX8_party (wsV RX8 138 RX0 yX0_sizeOf wsX0_sizeOf) := goodIn_app (goodIn_of _ (by decide +kernel)) ggX8_party_X0_sizeOf
set_option maxRecDepth 20000 in
theorem ggX8_party_X0_limitOf : GoodIn wsX8_party wsX0_limitOf := goodIn_r _ [26, 27, 17, 3, 4, 5, 6, 7, 62, 63, 64, 65, 66, 67, 68, 69, 70, 71, 72] (by decide +kernel) (by decide +kernel)
set_option maxRecDepth 20000 in
theorem gX8_party_X0_limitOf : GoodIn wsX8_party (wsV RX8 141 RX0 yX0_limitOf wsX0_limitOf) := goodIn_app (goodIn_of _ (by decide +kernel)) ggX8_party_X0_limitOf
set_option maxRecDepth 20000 in
theorem ggX8_party_X0_isWaiting : GoodIn wsX8_party wsX0_isWaiting := goodIn_r _ [31, 32, 33, 34, 5, 35, 36, 37, 62, 63, 64, 65, 66, 67, 68, 69, 70, 71, 72] (by decide +kernel) (by decide +kernel)
set_option maxRecDepth 20000 in
theorem gX8_party_X0_isWaiting : GoodIn wsX8_party (wsV RX8 144 RX0 yX0_isWaiting wsX0_isWaiting) := goodIn_app (goodIn_of _ (by decide +kernel)) ggX8_party_X0_isWaiting
set_option maxRecDepth 20000 in
theorem ggX8_party_X0_placeOf : GoodIn wsX8_party wsX0_placeOf := goodIn_r _ [15, 16, 17, 3, 4, 5, 6, 7, 62, 63, 64, 65, 66, 67, 68, 69, 70, 71, 72] (by decide +kernel) (by decide +kernel)
set_option maxRecDepth 20000 in
theorem gX8_party_X0_placeOf : GoodIn wsX8_party (wsV RX8 147 RX0 yX0_placeOf wsX0_placeOf) := goodIn_app (goodIn_of _ (by decide +kernel)) ggX8_party_X0_placeOf
set_option maxRecDepth 20000 in
theorem ggX8_party_X8_rowOf : GoodIn wsX8_party wsX8_rowOf := goodIn_r _ [42] (by decide +kernel) (by decide +kernel)
set_option maxRecDepth 20000 in
theorem gX8_party_X8_rowOf : GoodIn wsX8_party (va_wsS RX8 150 yX8_rowOf wsX8_rowOf) := goodIn_app (goodIn_of _ (by decide +kernel)) ggX8_party_X8_rowOf
set_option maxRecDepth 20000 in
theorem ggX8_party_X8_firstOf : GoodIn wsX8_party wsX8_firstOf := goodIn_r _ [45] (by decide +kernel) (by decide +kernel)
set_option maxRecDepth 20000 in
theorem gX8_party_X8_firstOf : GoodIn wsX8_party (va_wsS RX8 153 yX8_firstOf wsX8_firstOf) := goodIn_app (goodIn_of _ (by decide +kernel)) ggX8_party_X8_firstOf
set_option maxRecDepth 20000 in
theorem ggX8_party_X0_paidBy : GoodIn wsX8_party wsX0_paidBy := goodIn_r _ [49, 50, 17, 3, 4, 5, 6, 7, 62, 63, 64, 65, 66, 67, 68, 69, 70, 71, 72] (by decide +kernel) (by decide +kernel)
set_option maxRecDepth 20000 in
theorem gX8_party_X0_paidBy : GoodIn wsX8_party (wsV RX8 156 RX0 yX0_paidBy wsX0_paidBy) := goodIn_app (goodIn_of _ (by decide +kernel)) ggX8_party_X0_paidBy
theorem dX8_party_0 : decode cX8_party 0 = .ok (.aload_n 0, 1) := by decide +kernel
theorem dX8_party_1 : decode cX8_party 1 = .ok (.getfield 29, 3) := by decide +kernel
theorem dX8_party_4 : decode cX8_party 4 = .ok (.iload_n 1, 1) := by decide +kernel
theorem dX8_party_5 : decode cX8_party 5 = .ok (.invokevirtual 132, 3) := by decide +kernel
theorem dX8_party_8 : decode cX8_party 8 = .ok (.ifCond .ne 5, 3) := by decide +kernel
theorem dX8_party_11 : decode cX8_party 11 = .ok (.iconst (-1), 1) := by decide +kernel
theorem dX8_party_12 : decode cX8_party 12 = .ok (.ireturn, 1) := by decide +kernel
theorem dX8_party_13 : decode cX8_party 13 = .ok (.aload_n 0, 1) := by decide +kernel
theorem dX8_party_14 : decode cX8_party 14 = .ok (.getfield 29, 3) := by decide +kernel
theorem dX8_party_17 : decode cX8_party 17 = .ok (.iload_n 1, 1) := by decide +kernel
theorem dX8_party_18 : decode cX8_party 18 = .ok (.invokevirtual 135, 3) := by decide +kernel
theorem dX8_party_21 : decode cX8_party 21 = .ok (.istore_n 3, 1) := by decide +kernel
theorem dX8_party_22 : decode cX8_party 22 = .ok (.iload_n 2, 1) := by decide +kernel
theorem dX8_party_23 : decode cX8_party 23 = .ok (.tableswitch 131 0 5 #[37, 46, 55, 80, 101, 122], 37) := by decide +kernel
theorem dX8_party_60 : decode cX8_party 60 = .ok (.aload_n 0, 1) := by decide +kernel
theorem dX8_party_61 : decode cX8_party 61 = .ok (.getfield 29, 3) := by decide +kernel
theorem dX8_party_64 : decode cX8_party 64 = .ok (.iload_n 1, 1) := by decide +kernel
theorem dX8_party_65 : decode cX8_party 65 = .ok (.invokevirtual 138, 3) := by decide +kernel
theorem dX8_party_68 : decode cX8_party 68 = .ok (.ireturn, 1) := by decide +kernel
theorem dX8_party_69 : decode cX8_party 69 = .ok (.aload_n 0, 1) := by decide +kernel
theorem dX8_party_70 : decode cX8_party 70 = .ok (.getfield 29, 3) := by decide +kernel
