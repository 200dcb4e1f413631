theorem dX8_placeInsteadFor_32 : decode cX8_placeInsteadFor 32 = .ok (.iload_n 2, 1) := by decide +kernel
theorem dX8_placeInsteadFor_33 : decode cX8_placeInsteadFor 33 = .ok (.invokevirtual 319, 3) := by decide +kernel
theorem dX8_placeInsteadFor_36 : decode cX8_placeInsteadFor 36 = .ok (.aload_n 0, 1) := by decide +kernel
theorem dX8_placeInsteadFor_37 : decode cX8_placeInsteadFor 37 = .ok (.getfield 23, 3) := by decide +kernel
theorem dX8_placeInsteadFor_40 : decode cX8_placeInsteadFor 40 = .ok (.aload_n 0, 1) := by decide +kernel
theorem dX8_placeInsteadFor_41 : decode cX8_placeInsteadFor 41 = .ok (.getfield 29, 3) := by decide +kernel
theorem dX8_placeInsteadFor_44 : decode cX8_placeInsteadFor 44 = .ok (.invokevirtual 311, 3) := by decide +kernel
theorem dX8_placeInsteadFor_47 : decode cX8_placeInsteadFor 47 = .ok (.aload_n 0, 1) := by decide +kernel
theorem dX8_placeInsteadFor_48 : decode cX8_placeInsteadFor 48 = .ok (.getfield 23, 3) := by decide +kernel
theorem dX8_placeInsteadFor_51 : decode cX8_placeInsteadFor 51 = .ok (.aload_n 0, 1) := by decide +kernel
theorem dX8_placeInsteadFor_52 : decode cX8_placeInsteadFor 52 = .ok (.getfield 33, 3) := by decide +kernel
theorem dX8_placeInsteadFor_55 : decode cX8_placeInsteadFor 55 = .ok (.invokevirtual 311, 3) := by decide +kernel
theorem dX8_placeInsteadFor_58 : decode cX8_placeInsteadFor 58 = .ok (.isub, 1) := by decide +kernel
theorem dX8_placeInsteadFor_59 : decode cX8_placeInsteadFor 59 = .ok (.istore_n 3, 1) := by decide +kernel
theorem dX8_placeInsteadFor_60 : decode cX8_placeInsteadFor 60 = .ok (.aload_n 0, 1) := by decide +kernel
theorem dX8_placeInsteadFor_61 : decode cX8_placeInsteadFor 61 = .ok (.getfield 60, 3) := by decide +kernel
theorem dX8_placeInsteadFor_64 : decode cX8_placeInsteadFor 64 = .ok (.aload_n 0, 1) := by decide +kernel
theorem dX8_placeInsteadFor_65 : decode cX8_placeInsteadFor 65 = .ok (.getfield 23, 3) := by decide +kernel
theorem dX8_placeInsteadFor_68 : decode cX8_placeInsteadFor 68 = .ok (.aload_n 0, 1) := by decide +kernel
theorem dX8_placeInsteadFor_69 : decode cX8_placeInsteadFor 69 = .ok (.getfield 33, 3) := by decide +kernel
theorem dX8_placeInsteadFor_72 : decode cX8_placeInsteadFor 72 = .ok (.iload_n 2, 1) := by decide +kernel
theorem dX8_placeInsteadFor_73 : decode cX8_placeInsteadFor 73 = .ok (.aload_n 0, 1) := by decide +kernel
theorem dX8_placeInsteadFor_74 : decode cX8_placeInsteadFor 74 = .ok (.getfield 29, 3) := by decide +kernel
theorem dX8_placeInsteadFor_77 : decode cX8_placeInsteadFor 77 = .ok (.iload_n 1, 1) := by decide +kernel
theorem dX8_placeInsteadFor_78 : decode cX8_placeInsteadFor 78 = .ok (.invokevirtual 141, 3) := by decide +kernel
theorem dX8_placeInsteadFor_81 : decode cX8_placeInsteadFor 81 = .ok (.iload_n 3, 1) := by decide +kernel
theorem dX8_placeInsteadFor_82 : decode cX8_placeInsteadFor 82 = .ok (.bipush 15, 2) := by decide +kernel
theorem dX8_placeInsteadFor_84 : decode cX8_placeInsteadFor 84 = .ok (.invokevirtual 165, 3) := by decide +kernel
theorem dX8_placeInsteadFor_87 : decode cX8_placeInsteadFor 87 = .ok (.ireturn, 1) := by decide +kernel
set_option maxRecDepth 20000 in
theorem ggX8_qualityWith_X1_look : GoodIn wsX8_qualityWith wsX1_look := goodIn_r _ [8, 9, 10, 11, 12, 13, 14, 15, 16, 17, 18, 19, 20, 21, 22, 23, 24, 25, 26, 27, 28, 29, 30, 7, 31, 32, 33, 34, 35, 36, 37, 38, 39, 40, 41, 42, 43, 44, 45, 46, 47, 48, 49, 50, 51, 52, 53, 54, 55, 56, 57, 58, 59, 60, 61, 62, 63, 64, 65, 66, 67, 68, 69, 70, 71, 72, 73, 74, 75, 76, 77, 78, 79, 95, 96, 97, 98, 99, 100, 101, 102, 103, 104, 105, 106, 107, 108, 109, 110, 111, 112, 113, 114, 115] (by decide +kernel) (by decide +kernel)
set_option maxRecDepth 20000 in
theorem gX8_qualityWith_X1_look : GoodIn wsX8_qualityWith (wsV RX8 165 RX1 yX1_look wsX1_look) := goodIn_app (goodIn_of _ (by decide +kernel)) ggX8_qualityWith_X1_look
set_option maxRecDepth 20000 in
theorem ggX8_qualityWith_X1_quality : GoodIn wsX8_qualityWith wsX1_quality := goodIn_r _ [83, 11, 95, 96, 97, 98] (by decide +kernel) (by decide +kernel)
set_option maxRecDepth 20000 in
theorem gX8_qualityWith_X1_quality : GoodIn wsX8_qualityWith (wsV RX8 196 RX1 yX1_quality wsX1_quality) := goodIn_app (goodIn_of _ (by decide +kernel)) ggX8_qualityWith_X1_quality
theorem dX8_qualityWith_0 : decode cX8_qualityWith 0 = .ok (.aload_n 0, 1) := by decide +kernel
theorem dX8_qualityWith_1 : decode cX8_qualityWith 1 = .ok (.getfield 60, 3) := by decide +kernel
theorem dX8_qualityWith_4 : decode cX8_qualityWith 4 = .ok (.aload_n 0, 1) := by decide +kernel
theorem dX8_qualityWith_5 : decode cX8_qualityWith 5 = .ok (.getfield 23, 3) := by decide +kernel
theorem dX8_qualityWith_8 : decode cX8_qualityWith 8 = .ok (.aload_n 0, 1) := by decide +kernel
theorem dX8_qualityWith_9 : decode cX8_qualityWith 9 = .ok (.getfield 29, 3) := by decide +kernel
theorem dX8_qualityWith_12 : decode cX8_qualityWith 12 = .ok (.iload_n 2, 1) := by decide +kernel
theorem dX8_qualityWith_13 : decode cX8_qualityWith 13 = .ok (.bipush 9, 2) := by decide +kernel
theorem dX8_qualityWith_15 : decode cX8_qualityWith 15 = .ok (.iconst 0, 1) := by decide +kernel
theorem dX8_qualityWith_16 : decode cX8_qualityWith 16 = .ok (.iload_n 1, 1) := by decide +kernel
theorem dX8_qualityWith_17 : decode cX8_qualityWith 17 = .ok (.invokevirtual 165, 3) := by decide +kernel
theorem dX8_qualityWith_20 : decode cX8_qualityWith 20 = .ok (.pop, 1) := by decide +kernel
theorem dX8_qualityWith_21 : decode cX8_qualityWith 21 = .ok (.aload_n 0, 1) := by decide +kernel
theorem dX8_qualityWith_22 : decode cX8_qualityWith 22 = .ok (.getfield 60, 3) := by decide +kernel
theorem dX8_qualityWith_25 : decode cX8_qualityWith 25 = .ok (.invokevirtual 196, 3) := by decide +kernel
theorem dX8_qualityWith_28 : decode cX8_qualityWith 28 = .ok (.ireturn, 1) := by decide +kernel
set_option maxRecDepth 20000 in
theorem ggX8_letIn_X0_waiting : GoodIn wsX8_letIn wsX0_waiting := goodIn_r _ [7, 8, 135, 136, 137, 138, 139, 140, 141, 142, 143, 144, 145] (by decide +kernel) (by decide +kernel)
set_option maxRecDepth 20000 in
theorem gX8_letIn_X0_waiting : GoodIn wsX8_letIn (wsV RX8 190 RX0 yX0_waiting wsX0_waiting) := goodIn_app (goodIn_of _ (by decide +kernel)) ggX8_letIn_X0_waiting
set_option maxRecDepth 20000 in
theorem ggX8_letIn_X0_waitingAt : GoodIn wsX8_letIn wsX0_waitingAt := goodIn_r _ [12, 8, 13, 135, 136, 137, 138, 139, 140, 141, 142, 143, 144, 145] (by decide +kernel) (by decide +kernel)
set_option maxRecDepth 20000 in
theorem gX8_letIn_X0_waitingAt : GoodIn wsX8_letIn (wsV RX8 230 RX0 yX0_waitingAt wsX0_waitingAt) := goodIn_app (goodIn_of _ (by decide +kernel)) ggX8_letIn_X0_waitingAt
set_option maxRecDepth 20000 in
theorem ggX8_letIn_X0_sizeOf : GoodIn wsX8_letIn wsX0_sizeOf := goodIn_r _ [17, 18, 19, 20, 21, 6, 22, 23, 135, 136, 137, 138, 139, 140, 141, 142, 143, 144, 145] (by decide +kernel) (by decide +kernel)
set_option maxRecDepth 20000 in
theorem gX8_letIn_X0_sizeOf : GoodIn wsX8_letIn (wsV RX8 138 RX0 yX0_sizeOf wsX0_sizeOf) := goodIn_app (goodIn_of _ (by decide +kernel)) ggX8_letIn_X0_sizeOf
set_option maxRecDepth 20000 in
theorem ggX8_letIn_X0_limitOf : GoodIn wsX8_letIn wsX0_limitOf := goodIn_r _ [27, 28, 19, 20, 21, 6, 22, 23, 135, 136, 137, 138, 139, 140, 141, 142, 143, 144, 145] (by decide +kernel) (by decide +kernel)
set_option maxRecDepth 20000 in
theorem gX8_letIn_X0_limitOf : GoodIn wsX8_letIn (wsV RX8 141 RX0 yX0_limitOf wsX0_limitOf) := goodIn_app (goodIn_of _ (by decide +kernel)) ggX8_letIn_X0_limitOf
set_option maxRecDepth 20000 in
theorem ggX8_letIn_X1_look : GoodIn wsX8_letIn wsX1_look := goodIn_r _ [33, 34, 35, 36, 37, 38, 39, 40, 41, 42, 43, 44, 45, 46, 6, 47, 48, 49, 50, 51, 52, 53, 54, 32, 55, 56, 57, 58, 59, 60, 61, 62, 63, 64, 65, 66, 67, 68, 69, 70, 71, 72, 73, 74, 75, 76, 77, 78, 79, 80, 81, 82, 83, 84, 85, 86, 87, 88, 89, 90, 91, 92, 93, 94, 95, 96, 97, 98, 99, 100, 101, 102, 103, 146, 147, 148, 149, 150, 151, 152, 153, 154, 155, 135, 136, 137, 138, 139, 140, 141, 142, 143, 144, 145] (by decide +kernel) (by decide +kernel)
set_option maxRecDepth 20000 in
theorem gX8_letIn_X1_look : GoodIn wsX8_letIn (wsV RX8 165 RX1 yX1_look wsX1_look) := goodIn_app (goodIn_of _ (by decide +kernel)) ggX8_letIn_X1_look
set_option maxRecDepth 20000 in
theorem ggX8_letIn_X0_dequeue : GoodIn wsX8_letIn wsX0_dequeue := goodIn_r _ [107, 8, 13, 108, 109, 110, 6, 111, 135, 136, 137, 138, 139, 140, 141, 142, 143, 144, 145] (by decide +kernel) (by decide +kernel)
set_option maxRecDepth 20000 in
theorem gX8_letIn_X0_dequeue : GoodIn wsX8_letIn (wsV RX8 186 RX0 yX0_dequeue wsX0_dequeue) := goodIn_app (goodIn_of _ (by decide +kernel)) ggX8_letIn_X0_dequeue
set_option maxRecDepth 20000 in
theorem ggX8_letIn_X0_settle : GoodIn wsX8_letIn wsX0_settle := goodIn_r _ [115, 116, 117, 18, 118, 19, 20, 21, 6, 22, 23, 96, 83, 97, 119, 45, 46, 47, 48, 49, 50, 51, 120, 121, 122, 123, 60, 98, 99, 82, 84, 135, 136, 137, 138, 139, 140, 141, 142, 143, 144, 145] (by decide +kernel) (by decide +kernel)
set_option maxRecDepth 20000 in
theorem gX8_letIn_X0_settle : GoodIn wsX8_letIn (wsV RX8 321 RX0 yX0_settle wsX0_settle) := goodIn_app (goodIn_of _ (by decide +kernel)) ggX8_letIn_X0_settle
theorem dX8_letIn_0 : decode cX8_letIn 0 = .ok (.aload_n 1, 1) := by decide +kernel
theorem dX8_letIn_1 : decode cX8_letIn 1 = .ok (.invokevirtual 190, 3) := by decide +kernel
theorem dX8_letIn_4 : decode cX8_letIn 4 = .ok (.istore_n 2, 1) := by decide +kernel
theorem dX8_letIn_5 : decode cX8_letIn 5 = .ok (.iconst 0, 1) := by decide +kernel
theorem dX8_letIn_6 : decode cX8_letIn 6 = .ok (.istore_n 3, 1) := by decide +kernel
theorem dX8_letIn_7 : decode cX8_letIn 7 = .ok (.iconst 0, 1) := by decide +kernel
theorem dX8_letIn_8 : decode cX8_letIn 8 = .ok (.istore 4, 2) := by decide +kernel
theorem dX8_letIn_10 : decode cX8_letIn 10 = .ok (.iload 4, 2) := by decide +kernel
theorem dX8_letIn_12 : decode cX8_letIn 12 = .ok (.iload_n 2, 1) := by decide +kernel
theorem dX8_letIn_13 : decode cX8_letIn 13 = .ok (.if_icmp .ge 80, 3) := by decide +kernel
theorem dX8_letIn_16 : decode cX8_letIn 16 = .ok (.aload_n 1, 1) := by decide +kernel
theorem dX8_letIn_17 : decode cX8_letIn 17 = .ok (.iload_n 3, 1) := by decide +kernel
theorem dX8_letIn_18 : decode cX8_letIn 18 = .ok (.invokevirtual 230, 3) := by decide +kernel
theorem dX8_letIn_21 : decode cX8_letIn 21 = .ok (.istore 5, 2) := by decide +kernel
theorem dX8_letIn_23 : decode cX8_letIn 23 = .ok (.aload_n 1, 1) := by decide +kernel
theorem dX8_letIn_24 : decode cX8_letIn 24 = .ok (.iload 5, 2) := by decide +kernel
theorem dX8_letIn_26 : decode cX8_letIn 26 = .ok (.invokevirtual 138, 3) := by decide +kernel
theorem dX8_letIn_29 : decode cX8_letIn 29 = .ok (.istore 6, 2) := by decide +kernel
theorem dX8_letIn_31 : decode cX8_letIn 31 = .ok (.aload_n 1, 1) := by decide +kernel
theorem dX8_letIn_32 : decode cX8_letIn 32 = .ok (.iload 5, 2) := by decide +kernel
theorem dX8_letIn_34 : decode cX8_letIn 34 = .ok (.invokevirtual 141, 3) := by decide +kernel
theorem dX8_letIn_37 : decode cX8_letIn 37 = .ok (.istore 7, 2) := by decide +kernel
theorem dX8_letIn_39 : decode cX8_letIn 39 = .ok (.aload_n 0, 1) := by decide +kernel
theorem dX8_letIn_40 : decode cX8_letIn 40 = .ok (.getfield 60, 3) := by decide +kernel
theorem dX8_letIn_43 : decode cX8_letIn 43 = .ok (.aload_n 0, 1) := by decide +kernel
theorem dX8_letIn_44 : decode cX8_letIn 44 = .ok (.getfield 23, 3) := by decide +kernel
theorem dX8_letIn_47 : decode cX8_letIn 47 = .ok (.aload_n 1, 1) := by decide +kernel
theorem dX8_letIn_48 : decode cX8_letIn 48 = .ok (.iload 6, 2) := by decide +kernel
theorem dX8_letIn_50 : decode cX8_letIn 50 = .ok (.iload 7, 2) := by decide +kernel
theorem dX8_letIn_52 : decode cX8_letIn 52 = .ok (.iconst 0, 1) := by decide +kernel
theorem dX8_letIn_53 : decode cX8_letIn 53 = .ok (.bipush 15, 2) := by decide +kernel
theorem dX8_letIn_55 : decode cX8_letIn 55 = .ok (.invokevirtual 165, 3) := by decide +kernel
theorem dX8_letIn_58 : decode cX8_letIn 58 = .ok (.istore 8, 2) := by decide +kernel
theorem dX8_letIn_60 : decode cX8_letIn 60 = .ok (.iload 8, 2) := by decide +kernel
theorem dX8_letIn_62 : decode cX8_letIn 62 = .ok (.bipush (-9), 2) := by decide +kernel
theorem dX8_letIn_64 : decode cX8_letIn 64 = .ok (.if_icmp .ne 9, 3) := by decide +kernel
theorem dX8_letIn_67 : decode cX8_letIn 67 = .ok (.iinc 3 1, 3) := by decide +kernel
theorem dX8_letIn_70 : decode cX8_letIn 70 = .ok (.goto 17, 3) := by decide +kernel
theorem dX8_letIn_73 : decode cX8_letIn 73 = .ok (.aload_n 1, 1) := by decide +kernel
theorem dX8_letIn_74 : decode cX8_letIn 74 = .ok (.iload 5, 2) := by decide +kernel
theorem dX8_letIn_76 : decode cX8_letIn 76 = .ok (.invokevirtual 186, 3) := by decide +kernel
theorem dX8_letIn_79 : decode cX8_letIn 79 = .ok (.aload_n 1, 1) := by decide +kernel
theorem dX8_letIn_80 : decode cX8_letIn 80 = .ok (.iload 5, 2) := by decide +kernel
theorem dX8_letIn_82 : decode cX8_letIn 82 = .ok (.iload 8, 2) := by decide +kernel
theorem dX8_letIn_84 : decode cX8_letIn 84 = .ok (.invokevirtual 321, 3) := by decide +kernel
theorem dX8_letIn_87 : decode cX8_letIn 87 = .ok (.iinc 4 1, 3) := by decide +kernel
theorem dX8_letIn_90 : decode cX8_letIn 90 = .ok (.goto (-80), 3) := by decide +kernel
theorem dX8_letIn_93 : decode cX8_letIn 93 = .ok (.return_, 1) := by decide +kernel
set_option maxRecDepth 20000 in
theorem ggX8_holds_X8_asksAndSits : GoodIn wsX8_holds wsX8_asksAndSits := goodIn_r _ [8, 3, 1, 2, 9, 10, 7, 11, 12, 13, 14, 15, 16, 17, 18, 19, 20, 21, 22, 23, 24, 25, 26, 27, 28, 29, 30, 31, 32, 33, 34, 35, 36, 37, 38, 39, 40, 41, 42, 43, 44, 45, 46, 47, 48, 49, 50, 51, 52, 53, 54, 55, 56, 57, 58, 59, 60, 61, 62, 63, 64, 65, 66, 67, 68, 69, 70, 71, 72, 73, 74, 75, 76, 77, 78, 79, 80, 81, 82, 83, 84, 85, 86, 87, 88, 89, 90, 91, 92, 93, 94, 95, 96, 97, 98, 99, 100, 101, 102, 103, 104, 105, 106, 107, 108, 109, 110, 111, 112, 113, 114, 115, 116, 117, 118, 119, 195, 196, 197, 198, 199, 200, 201, 202, 203, 204, 205, 206, 207, 208, 209, 210, 211, 212, 213, 214, 215, 216, 217, 218, 219, 220, 221, 222, 223, 224, 225, 226] (by decide +kernel) (by decide +kernel)
set_option maxRecDepth 20000 in
theorem gX8_holds_X8_asksAndSits : GoodIn wsX8_holds (wsV RX8 324 RX8 yX8_asksAndSits wsX8_asksAndSits) := goodIn_app (goodIn_of _ (by decide +kernel)) ggX8_holds_X8_asksAndSits
set_option maxRecDepth 20000 in
theorem ggX8_holds_X8_givesBack : GoodIn wsX8_holds wsX8_givesBack := goodIn_r _ [123, 2, 124, 125, 126, 33, 127, 128, 129, 130, 131, 102, 111, 112, 113, 114, 94, 132, 133, 134, 135, 103, 100, 136, 137, 138, 139, 140, 110, 141, 142, 143, 144, 145, 47, 82, 7, 83, 36, 37, 38, 84, 85, 69, 70, 146, 147, 148, 149, 3, 1, 150, 151, 152, 153, 95, 154, 155, 156, 157, 104, 158, 159, 160, 161, 162, 163, 164, 165, 101, 15, 16, 17, 18, 19, 20, 21, 22, 23, 24, 25, 26, 27, 28, 29, 30, 31, 32, 34, 35, 39, 40, 41, 42, 43, 44, 45, 46, 48, 49, 50, 51, 52, 53, 54, 55, 56, 57, 58, 59, 60, 61, 62, 63, 64, 65, 66, 67, 68, 71, 72, 73, 74, 75, 76, 77, 78, 79, 80, 81, 86, 87, 88, 89, 166, 167, 168, 169, 170, 171, 172, 173, 174, 107, 108, 109, 115, 116, 117, 118, 119, 195, 196, 197, 198, 199, 200, 201, 202, 203, 204, 205, 216, 217, 218, 219, 220, 221, 222, 223, 224, 225, 226, 206, 207, 208, 209, 210, 211, 212, 213, 214, 215] (by decide +kernel) (by decide +kernel)
set_option maxRecDepth 20000 in
theorem gX8_holds_X8_givesBack : GoodIn wsX8_holds (wsV RX8 327 RX8 yX8_givesBack wsX8_givesBack) := goodIn_app (goodIn_of _ (by decide +kernel)) ggX8_holds_X8_givesBack
set_option maxRecDepth 20000 in
theorem ggX8_holds_X8_becomesPrice : GoodIn wsX8_holds wsX8_becomesPrice := goodIn_r _ [178, 1, 2, 179, 54, 55, 27, 56, 29, 12, 13, 7, 14, 180, 181, 182, 33, 183, 35, 36, 37, 38, 146, 147, 148, 149, 3, 150, 151, 152, 153, 95, 154, 155, 156, 157, 104, 158, 159, 160, 161, 100, 111, 112, 113, 114, 94, 162, 163, 164, 165, 101, 15, 16, 17, 18, 19, 20, 21, 22, 23, 24, 25, 26, 28, 30, 31, 32, 34, 39, 40, 41, 42, 43, 44, 45, 46, 47, 48, 49, 50, 51, 52, 53, 57, 58, 59, 60, 61, 62, 63, 64, 65, 66, 67, 68, 69, 70, 71, 72, 73, 74, 75, 76, 77, 78, 79, 80, 81, 82, 83, 84, 85, 86, 87, 88, 89, 166, 167, 168, 169, 170, 171, 172, 173, 174, 107, 108, 109, 102, 103, 110, 115, 116, 117, 118, 119, 195, 196, 197, 198, 199, 200, 201, 202, 203, 204, 205, 210, 211, 212, 213, 214, 215, 216, 217, 218, 219, 220, 221, 222, 223, 224, 225, 226, 206, 207, 208, 209] (by decide +kernel) (by decide +kernel)
set_option maxRecDepth 20000 in
theorem gX8_holds_X8_becomesPrice : GoodIn wsX8_holds (wsV RX8 330 RX8 yX8_becomesPrice wsX8_becomesPrice) := goodIn_app (goodIn_of _ (by decide +kernel)) ggX8_holds_X8_becomesPrice
set_option maxRecDepth 20000 in
theorem ggX8_holds_X4_hasSeat : GoodIn wsX8_holds wsX4_hasSeat := goodIn_r _ [187, 68, 53, 54, 55, 27, 56, 29, 210, 211, 212, 213, 214, 215] (by decide +kernel) (by decide +kernel)
set_option maxRecDepth 20000 in
theorem gX8_holds_X4_hasSeat : GoodIn wsX8_holds (wsV RX8 119 RX4 yX4_hasSeat wsX4_hasSeat) := goodIn_app (goodIn_of _ (by decide +kernel)) ggX8_holds_X4_hasSeat
set_option maxRecDepth 20000 in
theorem ggX8_holds_X0_freeIn : GoodIn wsX8_holds wsX0_freeIn := goodIn_r _ [46, 47, 36, 37, 33, 38, 216, 217, 218, 219, 220, 221, 222, 223, 224, 225, 226] (by decide +kernel) (by decide +kernel)
set_option maxRecDepth 20000 in
theorem gX8_holds_X0_freeIn : GoodIn wsX8_holds (wsV RX8 112 RX0 yX0_freeIn wsX0_freeIn) := goodIn_app (goodIn_of _ (by decide +kernel)) ggX8_holds_X0_freeIn
set_option maxRecDepth 20000 in
theorem ggX8_holds_X4_loneOf : GoodIn wsX8_holds wsX4_loneOf := goodIn_r _ [51, 52, 53, 54, 55, 27, 56, 29, 210, 211, 212, 213, 214, 215] (by decide +kernel) (by decide +kernel)
set_option maxRecDepth 20000 in
theorem gX8_holds_X4_loneOf : GoodIn wsX8_holds (wsV RX8 115 RX4 yX4_loneOf wsX4_loneOf) := goodIn_app (goodIn_of _ (by decide +kernel)) ggX8_holds_X4_loneOf
set_option maxRecDepth 20000 in
theorem ggX8_holds_X0_freeSeats : GoodIn wsX8_holds wsX0_freeSeats := goodIn_r _ [193, 47, 194, 58, 59, 60, 61, 62, 63, 216, 217, 218, 219, 220, 221, 222, 223, 224, 225, 226] (by decide +kernel) (by decide +kernel)
set_option maxRecDepth 20000 in
theorem gX8_holds_X0_freeSeats : GoodIn wsX8_holds (wsV RX8 308 RX0 yX0_freeSeats wsX0_freeSeats) := goodIn_app (goodIn_of _ (by decide +kernel)) ggX8_holds_X0_freeSeats
set_option maxRecDepth 20000 in
theorem ggX8_holds_X0_isSeated : GoodIn wsX8_holds wsX0_isSeated := goodIn_r _ [127, 128, 129, 130, 33, 131, 102, 111, 112, 113, 114, 94, 216, 217, 218, 219, 220, 221, 222, 223, 224, 225, 226] (by decide +kernel) (by decide +kernel)
set_option maxRecDepth 20000 in
theorem gX8_holds_X0_isSeated : GoodIn wsX8_holds (wsV RX8 135 RX0 yX0_isSeated wsX0_isSeated) := goodIn_app (goodIn_of _ (by decide +kernel)) ggX8_holds_X0_isSeated
set_option maxRecDepth 20000 in
theorem ggX8_holds_X8_isSize : GoodIn wsX8_holds wsX8_isSize := goodIn_r _ [11] (by decide +kernel) (by decide +kernel)
set_option maxRecDepth 20000 in
theorem gX8_holds_X8_isSize : GoodIn wsX8_holds (va_wsS RX8 159 yX8_isSize wsX8_isSize) := goodIn_app (goodIn_of _ (by decide +kernel)) ggX8_holds_X8_isSize
set_option maxRecDepth 20000 in
theorem ggX8_holds_X8_isPrice : GoodIn wsX8_holds wsX8_isPrice := goodIn_r _ [14] (by decide +kernel) (by decide +kernel)
set_option maxRecDepth 20000 in
theorem gX8_holds_X8_isPrice : GoodIn wsX8_holds (va_wsS RX8 162 yX8_isPrice wsX8_isPrice) := goodIn_app (goodIn_of _ (by decide +kernel)) ggX8_holds_X8_isPrice
set_option maxRecDepth 20000 in
theorem ggX8_holds_X1_look : GoodIn wsX8_holds wsX1_look := goodIn_r _ [19, 20, 21, 22, 23, 24, 25, 26, 27, 28, 29, 30, 31, 32, 33, 34, 35, 36, 37, 38, 39, 40, 41, 18, 42, 43, 44, 45, 46, 47, 48, 49, 50, 51, 52, 53, 54, 55, 56, 57, 58, 59, 60, 61, 62, 63, 64, 65, 66, 67, 68, 69, 7, 70, 71, 72, 73, 74, 75, 76, 77, 78, 79, 80, 81, 82, 83, 84, 85, 86, 87, 88, 89, 206, 207, 208, 209, 210, 211, 212, 213, 214, 215, 216, 217, 218, 219, 220, 221, 222, 223, 224, 225, 226] (by decide +kernel) (by decide +kernel)
set_option maxRecDepth 20000 in
theorem gX8_holds_X1_look : GoodIn wsX8_holds (wsV RX8 165 RX1 yX1_look wsX1_look) := goodIn_app (goodIn_of _ (by decide +kernel)) ggX8_holds_X1_look
theorem dX8_holds_0 : decode cX8_holds 0 = .ok (.iload_n 1, 1) := by decide +kernel
theorem dX8_holds_1 : decode cX8_holds 1 = .ok (.bipush 10, 2) := by decide +kernel
theorem dX8_holds_3 : decode cX8_holds 3 = .ok (.idiv, 1) := by decide +kernel
theorem dX8_holds_4 : decode cX8_holds 4 = .ok (.bipush 10, 2) := by decide +kernel
theorem dX8_holds_6 : decode cX8_holds 6 = .ok (.irem, 1) := by decide +kernel
theorem dX8_holds_7 : decode cX8_holds 7 = .ok (.istore_n 2, 1) := by decide +kernel
theorem dX8_holds_8 : decode cX8_holds 8 = .ok (.iload_n 1, 1) := by decide +kernel
theorem dX8_holds_9 : decode cX8_holds 9 = .ok (.bipush 10, 2) := by decide +kernel
theorem dX8_holds_11 : decode cX8_holds 11 = .ok (.irem, 1) := by decide +kernel
theorem dX8_holds_12 : decode cX8_holds 12 = .ok (.istore_n 3, 1) := by decide +kernel
theorem dX8_holds_13 : decode cX8_holds 13 = .ok (.iload_n 1, 1) := by decide +kernel
theorem dX8_holds_14 : decode cX8_holds 14 = .ok (.bipush 100, 2) := by decide +kernel
theorem dX8_holds_16 : decode cX8_holds 16 = .ok (.irem, 1) := by decide +kernel
theorem dX8_holds_17 : decode cX8_holds 17 = .ok (.istore 4, 2) := by decide +kernel
theorem dX8_holds_19 : decode cX8_holds 19 = .ok (.iload_n 1, 1) := by decide +kernel
theorem dX8_holds_20 : decode cX8_holds 20 = .ok (.bipush 100, 2) := by decide +kernel
theorem dX8_holds_22 : decode cX8_holds 22 = .ok (.idiv, 1) := by decide +kernel
theorem dX8_holds_23 : decode cX8_holds 23 = .ok (.tableswitch 176 1 7 #[41, 48, 55, 62, 103, 121, 131], 41) := by decide +kernel
theorem dX8_holds_64 : decode cX8_holds 64 = .ok (.aload_n 0, 1) := by decide +kernel
theorem dX8_holds_65 : decode cX8_holds 65 = .ok (.iload_n 2, 1) := by decide +kernel
theorem dX8_holds_66 : decode cX8_holds 66 = .ok (.iload_n 3, 1) := by decide +kernel
theorem dX8_holds_67 : decode cX8_holds 67 = .ok (.invokevirtual 324, 3) := by decide +kernel
theorem dX8_holds_70 : decode cX8_holds 70 = .ok (.ireturn, 1) := by decide +kernel
theorem dX8_holds_71 : decode cX8_holds 71 = .ok (.aload_n 0, 1) := by decide +kernel
theorem dX8_holds_72 : decode cX8_holds 72 = .ok (.iload 4, 2) := by decide +kernel
theorem dX8_holds_74 : decode cX8_holds 74 = .ok (.invokevirtual 327, 3) := by decide +kernel
theorem dX8_holds_77 : decode cX8_holds 77 = .ok (.ireturn, 1) := by decide +kernel
theorem dX8_holds_78 : decode cX8_holds 78 = .ok (.aload_n 0, 1) := by decide +kernel
theorem dX8_holds_79 : decode cX8_holds 79 = .ok (.iload_n 2, 1) := by decide +kernel
theorem dX8_holds_80 : decode cX8_holds 80 = .ok (.iload_n 3, 1) := by decide +kernel
theorem dX8_holds_81 : decode cX8_holds 81 = .ok (.invokevirtual 330, 3) := by decide +kernel
theorem dX8_holds_84 : decode cX8_holds 84 = .ok (.ireturn, 1) := by decide +kernel
theorem dX8_holds_85 : decode cX8_holds 85 = .ok (.aload_n 0, 1) := by decide +kernel
theorem dX8_holds_86 : decode cX8_holds 86 = .ok (.getfield 23, 3) := by decide +kernel
theorem dX8_holds_89 : decode cX8_holds 89 = .ok (.iload_n 2, 1) := by decide +kernel
theorem dX8_holds_90 : decode cX8_holds 90 = .ok (.iload_n 3, 1) := by decide +kernel
theorem dX8_holds_91 : decode cX8_holds 91 = .ok (.invokevirtual 119, 3) := by decide +kernel
theorem dX8_holds_94 : decode cX8_holds 94 = .ok (.ifCond .eq 30, 3) := by decide +kernel
theorem dX8_holds_97 : decode cX8_holds 97 = .ok (.aload_n 0, 1) := by decide +kernel
theorem dX8_holds_98 : decode cX8_holds 98 = .ok (.getfield 23, 3) := by decide +kernel
theorem dX8_holds_101 : decode cX8_holds 101 = .ok (.iload_n 2, 1) := by decide +kernel
theorem dX8_holds_102 : decode cX8_holds 102 = .ok (.aload_n 0, 1) := by decide +kernel
theorem dX8_holds_103 : decode cX8_holds 103 = .ok (.getfield 33, 3) := by decide +kernel
theorem dX8_holds_106 : decode cX8_holds 106 = .ok (.iload_n 2, 1) := by decide +kernel
theorem dX8_holds_107 : decode cX8_holds 107 = .ok (.invokevirtual 112, 3) := by decide +kernel
theorem dX8_holds_110 : decode cX8_holds 110 = .ok (.invokevirtual 115, 3) := by decide +kernel
theorem dX8_holds_113 : decode cX8_holds 113 = .ok (.iconst 1, 1) := by decide +kernel
theorem dX8_holds_114 : decode cX8_holds 114 = .ok (.iload_n 3, 1) := by decide +kernel
theorem dX8_holds_115 : decode cX8_holds 115 = .ok (.ishl, 1) := by decide +kernel
theorem dX8_holds_116 : decode cX8_holds 116 = .ok (.iand, 1) := by decide +kernel
theorem dX8_holds_117 : decode cX8_holds 117 = .ok (.ifCond .eq 7, 3) := by decide +kernel
theorem dX8_holds_120 : decode cX8_holds 120 = .ok (.iconst 1, 1) := by decide +kernel
theorem dX8_holds_121 : decode cX8_holds 121 = .ok (.goto 4, 3) := by decide +kernel
theorem dX8_holds_124 : decode cX8_holds 124 = .ok (.iconst 0, 1) := by decide +kernel
theorem dX8_holds_125 : decode cX8_holds 125 = .ok (.ireturn, 1) := by decide +kernel
theorem dX8_holds_126 : decode cX8_holds 126 = .ok (.aload_n 0, 1) := by decide +kernel
theorem dX8_holds_127 : decode cX8_holds 127 = .ok (.getfield 33, 3) := by decide +kernel
theorem dX8_holds_130 : decode cX8_holds 130 = .ok (.invokevirtual 308, 3) := by decide +kernel
theorem dX8_holds_133 : decode cX8_holds 133 = .ok (.iload 4, 2) := by decide +kernel
theorem dX8_holds_135 : decode cX8_holds 135 = .ok (.if_icmp .ne 7, 3) := by decide +kernel
theorem dX8_holds_138 : decode cX8_holds 138 = .ok (.iconst 1, 1) := by decide +kernel
theorem dX8_holds_139 : decode cX8_holds 139 = .ok (.goto 4, 3) := by decide +kernel
theorem dX8_holds_142 : decode cX8_holds 142 = .ok (.iconst 0, 1) := by decide +kernel
theorem dX8_holds_143 : decode cX8_holds 143 = .ok (.ireturn, 1) := by decide +kernel
theorem dX8_holds_144 : decode cX8_holds 144 = .ok (.aload_n 0, 1) := by decide +kernel
theorem dX8_holds_145 : decode cX8_holds 145 = .ok (.getfield 33, 3) := by decide +kernel
theorem dX8_holds_148 : decode cX8_holds 148 = .ok (.iload 4, 2) := by decide +kernel
theorem dX8_holds_150 : decode cX8_holds 150 = .ok (.invokevirtual 135, 3) := by decide +kernel
theorem dX8_holds_153 : decode cX8_holds 153 = .ok (.ireturn, 1) := by decide +kernel
theorem dX8_holds_154 : decode cX8_holds 154 = .ok (.iload_n 2, 1) := by decide +kernel
theorem dX8_holds_155 : decode cX8_holds 155 = .ok (.invokestatic 159, 3) := by decide +kernel
theorem dX8_holds_158 : decode cX8_holds 158 = .ok (.ifCond .eq 39, 3) := by decide +kernel
theorem dX8_holds_161 : decode cX8_holds 161 = .ok (.iload_n 3, 1) := by decide +kernel
theorem dX8_holds_162 : decode cX8_holds 162 = .ok (.invokestatic 162, 3) := by decide +kernel
theorem dX8_holds_165 : decode cX8_holds 165 = .ok (.ifCond .eq 32, 3) := by decide +kernel
theorem dX8_holds_168 : decode cX8_holds 168 = .ok (.aload_n 0, 1) := by decide +kernel
theorem dX8_holds_169 : decode cX8_holds 169 = .ok (.getfield 60, 3) := by decide +kernel
theorem dX8_holds_172 : decode cX8_holds 172 = .ok (.aload_n 0, 1) := by decide +kernel
theorem dX8_holds_173 : decode cX8_holds 173 = .ok (.getfield 23, 3) := by decide +kernel
theorem dX8_holds_176 : decode cX8_holds 176 = .ok (.aload_n 0, 1) := by decide +kernel
theorem dX8_holds_177 : decode cX8_holds 177 = .ok (.getfield 33, 3) := by decide +kernel
theorem dX8_holds_180 : decode cX8_holds 180 = .ok (.iload_n 2, 1) := by decide +kernel
theorem dX8_holds_181 : decode cX8_holds 181 = .ok (.iload_n 3, 1) := by decide +kernel
theorem dX8_holds_182 : decode cX8_holds 182 = .ok (.iconst 0, 1) := by decide +kernel
theorem dX8_holds_183 : decode cX8_holds 183 = .ok (.bipush 15, 2) := by decide +kernel
theorem dX8_holds_185 : decode cX8_holds 185 = .ok (.invokevirtual 165, 3) := by decide +kernel
theorem dX8_holds_188 : decode cX8_holds 188 = .ok (.bipush (-9), 2) := by decide +kernel
theorem dX8_holds_190 : decode cX8_holds 190 = .ok (.if_icmp .eq 7, 3) := by decide +kernel
theorem dX8_holds_193 : decode cX8_holds 193 = .ok (.iconst 1, 1) := by decide +kernel
theorem dX8_holds_194 : decode cX8_holds 194 = .ok (.goto 4, 3) := by decide +kernel
theorem dX8_holds_197 : decode cX8_holds 197 = .ok (.iconst 0, 1) := by decide +kernel
theorem dX8_holds_198 : decode cX8_holds 198 = .ok (.ireturn, 1) := by decide +kernel
theorem dX8_holds_199 : decode cX8_holds 199 = .ok (.iconst 0, 1) := by decide +kernel
theorem dX8_holds_200 : decode cX8_holds 200 = .ok (.ireturn, 1) := by decide +kernel
set_option maxRecDepth 20000 in
theorem ggX8_asksAndSits_X8_isSize : GoodIn wsX8_asksAndSits wsX8_isSize := goodIn_r _ [7] (by decide +kernel) (by decide +kernel)
set_option maxRecDepth 20000 in
theorem gX8_asksAndSits_X8_isSize : GoodIn wsX8_asksAndSits (va_wsS RX8 159 yX8_isSize wsX8_isSize) := goodIn_app (goodIn_of _ (by decide +kernel)) ggX8_asksAndSits_X8_isSize
set_option maxRecDepth 20000 in
theorem ggX8_asksAndSits_X8_isPrice : GoodIn wsX8_asksAndSits wsX8_isPrice := goodIn_r _ [10] (by decide +kernel) (by decide +kernel)
set_option maxRecDepth 20000 in
theorem gX8_asksAndSits_X8_isPrice : GoodIn wsX8_asksAndSits (va_wsS RX8 162 yX8_isPrice wsX8_isPrice) := goodIn_app (goodIn_of _ (by decide +kernel)) ggX8_asksAndSits_X8_isPrice
set_option maxRecDepth 20000 in
theorem ggX8_asksAndSits_X1_look : GoodIn wsX8_asksAndSits wsX1_look := goodIn_r _ [15, 16, 17, 18, 19, 20, 21, 22, 23, 24, 25, 26, 27, 28, 29, 30, 31, 32, 33, 34, 35, 36, 37, 14, 38, 39, 40, 41, 42, 43, 44, 45, 46, 47, 48, 49, 50, 51, 52, 53, 54, 55, 56, 57, 58, 59, 60, 61, 62, 63, 64, 65, 6, 66, 67, 68, 69, 70, 71, 72, 73, 74, 75, 76, 77, 78, 79, 80, 81, 82, 83, 84, 85, 127, 128, 129, 130, 131, 132, 133, 134, 135, 136, 137, 138, 139, 140, 141, 142, 143, 144, 145, 146, 147] (by decide +kernel) (by decide +kernel)
set_option maxRecDepth 20000 in
theorem gX8_asksAndSits_X1_look : GoodIn wsX8_asksAndSits (wsV RX8 165 RX1 yX1_look wsX1_look) := goodIn_app (goodIn_of _ (by decide +kernel)) ggX8_asksAndSits_X1_look
set_option maxRecDepth 20000 in
theorem ggX8_asksAndSits_X0_isFullFor : GoodIn wsX8_asksAndSits wsX0_isFullFor := goodIn_r _ [89, 90, 91, 137, 138, 139, 140, 141, 142, 143, 144, 145, 146, 147] (by decide +kernel) (by decide +kernel)
set_option maxRecDepth 20000 in
theorem gX8_asksAndSits_X0_isFullFor : GoodIn wsX8_asksAndSits (wsV RX8 169 RX0 yX0_isFullFor wsX0_isFullFor) := goodIn_app (goodIn_of _ (by decide +kernel)) ggX8_asksAndSits_X0_isFullFor
set_option maxRecDepth 20000 in
theorem ggX8_asksAndSits_X0_admit : GoodIn wsX8_asksAndSits wsX0_admit := goodIn_r _ [95, 90, 96, 97, 98, 99, 100, 91, 101, 87, 88, 29, 89, 102, 103, 104, 105, 106, 107, 108, 109, 110, 78, 6, 79, 111, 27, 28, 30, 31, 32, 33, 34, 112, 113, 114, 115, 43, 80, 81, 65, 66, 137, 138, 139, 140, 141, 142, 143, 144, 145, 146, 147] (by decide +kernel) (by decide +kernel)
set_option maxRecDepth 20000 in
theorem gX8_asksAndSits_X0_admit : GoodIn wsX8_asksAndSits (wsV RX8 176 RX0 yX0_admit wsX0_admit) := goodIn_app (goodIn_of _ (by decide +kernel)) ggX8_asksAndSits_X0_admit
theorem dX8_asksAndSits_0 : decode cX8_asksAndSits 0 = .ok (.iload_n 1, 1) := by decide +kernel
theorem dX8_asksAndSits_1 : decode cX8_asksAndSits 1 = .ok (.invokestatic 159, 3) := by decide +kernel
theorem dX8_asksAndSits_4 : decode cX8_asksAndSits 4 = .ok (.ifCond .eq 10, 3) := by decide +kernel
theorem dX8_asksAndSits_7 : decode cX8_asksAndSits 7 = .ok (.iload_n 2, 1) := by decide +kernel
theorem dX8_asksAndSits_8 : decode cX8_asksAndSits 8 = .ok (.invokestatic 162, 3) := by decide +kernel
theorem dX8_asksAndSits_11 : decode cX8_asksAndSits 11 = .ok (.ifCond .ne 5, 3) := by decide +kernel
theorem dX8_asksAndSits_14 : decode cX8_asksAndSits 14 = .ok (.iconst 0, 1) := by decide +kernel
theorem dX8_asksAndSits_15 : decode cX8_asksAndSits 15 = .ok (.ireturn, 1) := by decide +kernel
theorem dX8_asksAndSits_16 : decode cX8_asksAndSits 16 = .ok (.aload_n 0, 1) := by decide +kernel
theorem dX8_asksAndSits_17 : decode cX8_asksAndSits 17 = .ok (.getfield 60, 3) := by decide +kernel
theorem dX8_asksAndSits_20 : decode cX8_asksAndSits 20 = .ok (.aload_n 0, 1) := by decide +kernel
theorem dX8_asksAndSits_21 : decode cX8_asksAndSits 21 = .ok (.getfield 23, 3) := by decide +kernel
theorem dX8_asksAndSits_24 : decode cX8_asksAndSits 24 = .ok (.aload_n 0, 1) := by decide +kernel
theorem dX8_asksAndSits_25 : decode cX8_asksAndSits 25 = .ok (.getfield 33, 3) := by decide +kernel
theorem dX8_asksAndSits_28 : decode cX8_asksAndSits 28 = .ok (.iload_n 1, 1) := by decide +kernel
theorem dX8_asksAndSits_29 : decode cX8_asksAndSits 29 = .ok (.iload_n 2, 1) := by decide +kernel
theorem dX8_asksAndSits_30 : decode cX8_asksAndSits 30 = .ok (.iconst 0, 1) := by decide +kernel
theorem dX8_asksAndSits_31 : decode cX8_asksAndSits 31 = .ok (.bipush 15, 2) := by decide +kernel
theorem dX8_asksAndSits_33 : decode cX8_asksAndSits 33 = .ok (.invokevirtual 165, 3) := by decide +kernel
theorem dX8_asksAndSits_36 : decode cX8_asksAndSits 36 = .ok (.istore_n 3, 1) := by decide +kernel
theorem dX8_asksAndSits_37 : decode cX8_asksAndSits 37 = .ok (.iload_n 3, 1) := by decide +kernel
theorem dX8_asksAndSits_38 : decode cX8_asksAndSits 38 = .ok (.bipush (-9), 2) := by decide +kernel
theorem dX8_asksAndSits_40 : decode cX8_asksAndSits 40 = .ok (.if_icmp .eq 14, 3) := by decide +kernel
theorem dX8_asksAndSits_43 : decode cX8_asksAndSits 43 = .ok (.aload_n 0, 1) := by decide +kernel
theorem dX8_asksAndSits_44 : decode cX8_asksAndSits 44 = .ok (.getfield 33, 3) := by decide +kernel
theorem dX8_asksAndSits_47 : decode cX8_asksAndSits 47 = .ok (.iload_n 3, 1) := by decide +kernel
theorem dX8_asksAndSits_48 : decode cX8_asksAndSits 48 = .ok (.invokevirtual 169, 3) := by decide +kernel
theorem dX8_asksAndSits_51 : decode cX8_asksAndSits 51 = .ok (.ifCond .eq 5, 3) := by decide +kernel
theorem dX8_asksAndSits_54 : decode cX8_asksAndSits 54 = .ok (.iconst 0, 1) := by decide +kernel
theorem dX8_asksAndSits_55 : decode cX8_asksAndSits 55 = .ok (.ireturn, 1) := by decide +kernel
theorem dX8_asksAndSits_56 : decode cX8_asksAndSits 56 = .ok (.aload_n 0, 1) := by decide +kernel
theorem dX8_asksAndSits_57 : decode cX8_asksAndSits 57 = .ok (.getfield 33, 3) := by decide +kernel
theorem dX8_asksAndSits_60 : decode cX8_asksAndSits 60 = .ok (.iload_n 1, 1) := by decide +kernel
theorem dX8_asksAndSits_61 : decode cX8_asksAndSits 61 = .ok (.iload_n 2, 1) := by decide +kernel
theorem dX8_asksAndSits_62 : decode cX8_asksAndSits 62 = .ok (.iload_n 3, 1) := by decide +kernel
theorem dX8_asksAndSits_63 : decode cX8_asksAndSits 63 = .ok (.invokevirtual 176, 3) := by decide +kernel
theorem dX8_asksAndSits_66 : decode cX8_asksAndSits 66 = .ok (.pop, 1) := by decide +kernel
theorem dX8_asksAndSits_67 : decode cX8_asksAndSits 67 = .ok (.iconst 1, 1) := by decide +kernel
theorem dX8_asksAndSits_68 : decode cX8_asksAndSits 68 = .ok (.ireturn, 1) := by decide +kernel
set_option maxRecDepth 20000 in
theorem ggX8_givesBack_X0_isSeated : GoodIn wsX8_givesBack wsX0_isSeated := goodIn_r _ [6, 7, 8, 9, 5, 10, 11, 12, 13, 14, 15, 16, 162, 163, 164, 165, 166, 167, 168, 169, 170, 171, 172] (by decide +kernel) (by decide +kernel)
set_option maxRecDepth 20000 in
theorem gX8_givesBack_X0_isSeated : GoodIn wsX8_givesBack (wsV RX8 135 RX0 yX0_isSeated wsX0_isSeated) := goodIn_app (goodIn_of _ (by decide +kernel)) ggX8_givesBack_X0_isSeated
set_option maxRecDepth 20000 in
theorem ggX8_givesBack_X0_release : GoodIn wsX8_givesBack wsX0_release := goodIn_r _ [20, 21, 22, 23, 24, 25, 26, 27, 11, 28, 29, 3, 4, 5, 6, 7, 8, 9, 10, 12, 13, 14, 15, 16, 30, 31, 32, 33, 34, 35, 36, 37, 38, 39, 40, 41, 42, 43, 44, 162, 163, 164, 165, 166, 167, 168, 169, 170, 171, 172] (by decide +kernel) (by decide +kernel)
set_option maxRecDepth 20000 in
theorem gX8_givesBack_X0_release : GoodIn wsX8_givesBack (wsV RX8 180 RX0 yX0_release wsX0_release) := goodIn_app (goodIn_of _ (by decide +kernel)) ggX8_givesBack_X0_release
set_option maxRecDepth 20000 in
theorem ggX8_givesBack_X8_letIn : GoodIn wsX8_givesBack wsX8_letIn := goodIn_r _ [48, 49, 50, 51, 52, 53, 5, 54, 55, 56, 57, 58, 59, 60, 61, 62, 63, 64, 22, 12, 13, 14, 15, 16, 65, 66, 67, 68, 69, 70, 71, 72, 73, 74, 75, 76, 77, 78, 79, 80, 81, 82, 83, 84, 85, 86, 87, 88, 89, 38, 39, 40, 90, 91, 92, 93, 94, 95, 96, 97, 34, 98, 99, 100, 101, 102, 103, 104, 105, 106, 107, 108, 109, 110, 111, 112, 113, 114, 115, 116, 117, 118, 43, 36, 44, 119, 120, 121, 122, 123, 124, 125, 126, 127, 128, 129, 35, 37, 41, 42, 130, 131, 132, 133, 134, 135, 136, 137, 138, 139, 140, 141, 142, 143, 144, 145, 11, 21, 28, 146, 147, 148, 149, 150, 151, 152, 153, 154, 155, 156, 157, 158, 159, 160, 161, 162, 163, 164, 165, 166, 167, 168, 169, 170, 171, 172, 173, 174, 175, 176, 177, 178, 179, 180, 181, 182] (by decide +kernel) (by decide +kernel)
set_option maxRecDepth 20000 in
theorem gX8_givesBack_X8_letIn : GoodIn wsX8_givesBack (wsV RX8 183 RX8 yX8_letIn wsX8_letIn) := goodIn_app (goodIn_of _ (by decide +kernel)) ggX8_givesBack_X8_letIn
theorem dX8_givesBack_0 : decode cX8_givesBack 0 = .ok (.aload_n 0, 1) := by decide +kernel
theorem dX8_givesBack_1 : decode cX8_givesBack 1 = .ok (.getfield 33, 3) := by decide +kernel
theorem dX8_givesBack_4 : decode cX8_givesBack 4 = .ok (.iload_n 1, 1) := by decide +kernel
theorem dX8_givesBack_5 : decode cX8_givesBack 5 = .ok (.invokevirtual 135, 3) := by decide +kernel
theorem dX8_givesBack_8 : decode cX8_givesBack 8 = .ok (.ifCond .ne 5, 3) := by decide +kernel
theorem dX8_givesBack_11 : decode cX8_givesBack 11 = .ok (.iconst 0, 1) := by decide +kernel
theorem dX8_givesBack_12 : decode cX8_givesBack 12 = .ok (.ireturn, 1) := by decide +kernel
theorem dX8_givesBack_13 : decode cX8_givesBack 13 = .ok (.aload_n 0, 1) := by decide +kernel
theorem dX8_givesBack_14 : decode cX8_givesBack 14 = .ok (.getfield 33, 3) := by decide +kernel
theorem dX8_givesBack_17 : decode cX8_givesBack 17 = .ok (.iload_n 1, 1) := by decide +kernel
theorem dX8_givesBack_18 : decode cX8_givesBack 18 = .ok (.invokevirtual 180, 3) := by decide +kernel
theorem dX8_givesBack_21 : decode cX8_givesBack 21 = .ok (.pop, 1) := by decide +kernel
theorem dX8_givesBack_22 : decode cX8_givesBack 22 = .ok (.aload_n 0, 1) := by decide +kernel
theorem dX8_givesBack_23 : decode cX8_givesBack 23 = .ok (.aload_n 0, 1) := by decide +kernel
theorem dX8_givesBack_24 : decode cX8_givesBack 24 = .ok (.getfield 33, 3) := by decide +kernel
theorem dX8_givesBack_27 : decode cX8_givesBack 27 = .ok (.invokevirtual 183, 3) := by decide +kernel
theorem dX8_givesBack_30 : decode cX8_givesBack 30 = .ok (.iconst 1, 1) := by decide +kernel
theorem dX8_givesBack_31 : decode cX8_givesBack 31 = .ok (.ireturn, 1) := by decide +kernel
set_option maxRecDepth 20000 in
theorem ggX8_becomesPrice_X4_hasRow : GoodIn wsX8_becomesPrice wsX4_hasRow := goodIn_r _ [7, 8, 148, 149, 150, 151, 152, 153] (by decide +kernel) (by decide +kernel)
set_option maxRecDepth 20000 in
theorem gX8_becomesPrice_X4_hasRow : GoodIn wsX8_becomesPrice (wsV RX8 99 RX4 yX4_hasRow wsX4_hasRow) := goodIn_app (goodIn_of _ (by decide +kernel)) ggX8_becomesPrice_X4_hasRow
set_option maxRecDepth 20000 in
theorem ggX8_becomesPrice_X8_isPrice : GoodIn wsX8_becomesPrice wsX8_isPrice := goodIn_r _ [12] (by decide +kernel) (by decide +kernel)
set_option maxRecDepth 20000 in
theorem gX8_becomesPrice_X8_isPrice : GoodIn wsX8_becomesPrice (va_wsS RX8 162 yX8_isPrice wsX8_isPrice) := goodIn_app (goodIn_of _ (by decide +kernel)) ggX8_becomesPrice_X8_isPrice
set_option maxRecDepth 20000 in
theorem ggX8_becomesPrice_X0_setPrice : GoodIn wsX8_becomesPrice wsX0_setPrice := goodIn_r _ [17, 18, 19, 20, 16, 21, 154, 155, 156, 157, 158, 159, 160, 161, 162, 163, 164] (by decide +kernel) (by decide +kernel)
set_option maxRecDepth 20000 in
theorem gX8_becomesPrice_X0_setPrice : GoodIn wsX8_becomesPrice (wsV RX8 206 RX0 yX0_setPrice wsX0_setPrice) := goodIn_app (goodIn_of _ (by decide +kernel)) ggX8_becomesPrice_X0_setPrice
set_option maxRecDepth 20000 in
theorem ggX8_becomesPrice_X8_letIn : GoodIn wsX8_becomesPrice wsX8_letIn := goodIn_r _ [25, 26, 1, 27, 28, 29, 16, 30, 31, 32, 33, 34, 35, 36, 37, 38, 39, 40, 41, 42, 43, 44, 45, 46, 47, 48, 49, 50, 51, 52, 53, 54, 55, 56, 57, 58, 59, 60, 61, 62, 63, 6, 64, 8, 65, 66, 67, 68, 18, 19, 20, 21, 69, 70, 71, 72, 73, 74, 75, 76, 77, 78, 79, 80, 81, 82, 83, 4, 5, 7, 84, 85, 86, 87, 88, 89, 90, 91, 92, 93, 94, 95, 96, 11, 97, 98, 99, 100, 101, 102, 103, 104, 105, 106, 107, 108, 109, 110, 111, 112, 113, 114, 115, 116, 117, 118, 119, 120, 121, 122, 123, 124, 125, 126, 127, 128, 129, 130, 131, 132, 133, 134, 135, 136, 137, 138, 139, 140, 141, 142, 143, 144, 145, 146, 147, 154, 155, 156, 157, 158, 159, 160, 161, 162, 163, 164, 165, 166, 167, 168, 148, 149, 150, 151, 152, 153] (by decide +kernel) (by decide +kernel)
set_option maxRecDepth 20000 in
theorem gX8_becomesPrice_X8_letIn : GoodIn wsX8_becomesPrice (wsV RX8 183 RX8 yX8_letIn wsX8_letIn) := goodIn_app (goodIn_of _ (by decide +kernel)) ggX8_becomesPrice_X8_letIn
theorem dX8_becomesPrice_0 : decode cX8_becomesPrice 0 = .ok (.aload_n 0, 1) := by decide +kernel
theorem dX8_becomesPrice_1 : decode cX8_becomesPrice 1 = .ok (.getfield 23, 3) := by decide +kernel
theorem dX8_becomesPrice_4 : decode cX8_becomesPrice 4 = .ok (.iload_n 1, 1) := by decide +kernel
theorem dX8_becomesPrice_5 : decode cX8_becomesPrice 5 = .ok (.invokevirtual 99, 3) := by decide +kernel
theorem dX8_becomesPrice_8 : decode cX8_becomesPrice 8 = .ok (.ifCond .eq 10, 3) := by decide +kernel
theorem dX8_becomesPrice_11 : decode cX8_becomesPrice 11 = .ok (.iload_n 2, 1) := by decide +kernel
theorem dX8_becomesPrice_12 : decode cX8_becomesPrice 12 = .ok (.invokestatic 162, 3) := by decide +kernel
theorem dX8_becomesPrice_15 : decode cX8_becomesPrice 15 = .ok (.ifCond .ne 5, 3) := by decide +kernel
theorem dX8_becomesPrice_18 : decode cX8_becomesPrice 18 = .ok (.iconst 0, 1) := by decide +kernel
theorem dX8_becomesPrice_19 : decode cX8_becomesPrice 19 = .ok (.ireturn, 1) := by decide +kernel
theorem dX8_becomesPrice_20 : decode cX8_becomesPrice 20 = .ok (.aload_n 0, 1) := by decide +kernel
theorem dX8_becomesPrice_21 : decode cX8_becomesPrice 21 = .ok (.getfield 33, 3) := by decide +kernel
theorem dX8_becomesPrice_24 : decode cX8_becomesPrice 24 = .ok (.iload_n 1, 1) := by decide +kernel
theorem dX8_becomesPrice_25 : decode cX8_becomesPrice 25 = .ok (.iload_n 2, 1) := by decide +kernel
theorem dX8_becomesPrice_26 : decode cX8_becomesPrice 26 = .ok (.invokevirtual 206, 3) := by decide +kernel
theorem dX8_becomesPrice_29 : decode cX8_becomesPrice 29 = .ok (.aload_n 0, 1) := by decide +kernel
theorem dX8_becomesPrice_30 : decode cX8_becomesPrice 30 = .ok (.aload_n 0, 1) := by decide +kernel
theorem dX8_becomesPrice_31 : decode cX8_becomesPrice 31 = .ok (.getfield 33, 3) := by decide +kernel
theorem dX8_becomesPrice_34 : decode cX8_becomesPrice 34 = .ok (.invokevirtual 183, 3) := by decide +kernel
theorem dX8_becomesPrice_37 : decode cX8_becomesPrice 37 = .ok (.iconst 1, 1) := by decide +kernel
theorem dX8_becomesPrice_38 : decode cX8_becomesPrice 38 = .ok (.ireturn, 1) := by decide +kernel
set_option maxRecDepth 20000 in
theorem ggX8_happen_X1_look : GoodIn wsX8_happen wsX1_look := goodIn_r _ [8, 9, 10, 11, 12, 13, 14, 15, 16, 17, 18, 19, 20, 21, 22, 23, 24, 25, 26, 27, 28, 29, 30, 7, 31, 32, 33, 34, 35, 36, 37, 38, 39, 40, 41, 42, 43, 44, 45, 46, 47, 48, 49, 50, 51, 52, 53, 54, 55, 56, 57, 58, 59, 60, 61, 62, 63, 64, 65, 66, 67, 68, 69, 70, 71, 72, 73, 74, 75, 76, 77, 78, 79, 184, 185, 186, 187, 188, 189, 190, 191, 192, 193, 194, 195, 196, 197, 198, 199, 200, 201, 202, 203, 204] (by decide +kernel) (by decide +kernel)
set_option maxRecDepth 20000 in
theorem gX8_happen_X1_look : GoodIn wsX8_happen (wsV RX8 165 RX1 yX1_look wsX1_look) := goodIn_app (goodIn_of _ (by decide +kernel)) ggX8_happen_X1_look
set_option maxRecDepth 20000 in
theorem ggX8_happen_X0_isFullFor : GoodIn wsX8_happen wsX0_isFullFor := goodIn_r _ [83, 84, 85, 194, 195, 196, 197, 198, 199, 200, 201, 202, 203, 204] (by decide +kernel) (by decide +kernel)
set_option maxRecDepth 20000 in
theorem gX8_happen_X0_isFullFor : GoodIn wsX8_happen (wsV RX8 169 RX0 yX0_isFullFor wsX0_isFullFor) := goodIn_app (goodIn_of _ (by decide +kernel)) ggX8_happen_X0_isFullFor
set_option maxRecDepth 20000 in
theorem ggX8_happen_X0_admit : GoodIn wsX8_happen wsX0_admit := goodIn_r _ [89, 84, 90, 91, 92, 93, 94, 85, 95, 81, 82, 22, 83, 96, 97, 98, 99, 100, 101, 102, 103, 104, 72, 59, 73, 105, 20, 21, 23, 24, 25, 26, 27, 106, 107, 108, 109, 36, 74, 75, 58, 60, 194, 195, 196, 197, 198, 199, 200, 201, 202, 203, 204] (by decide +kernel) (by decide +kernel)
set_option maxRecDepth 20000 in
theorem gX8_happen_X0_admit : GoodIn wsX8_happen (wsV RX8 176 RX0 yX0_admit wsX0_admit) := goodIn_app (goodIn_of _ (by decide +kernel)) ggX8_happen_X0_admit
set_option maxRecDepth 20000 in
theorem ggX8_happen_X0_seated : GoodIn wsX8_happen wsX0_seated := goodIn_r _ [113, 84, 114, 115, 116, 22, 117, 118, 119, 120, 121, 92, 101, 102, 103, 104, 194, 195, 196, 197, 198, 199, 200, 201, 202, 203, 204] (by decide +kernel) (by decide +kernel)
set_option maxRecDepth 20000 in
theorem gX8_happen_X0_seated : GoodIn wsX8_happen (wsV RX8 305 RX0 yX0_seated wsX0_seated) := goodIn_app (goodIn_of _ (by decide +kernel)) ggX8_happen_X0_seated
set_option maxRecDepth 20000 in
theorem ggX8_happen_X0_seatedAt : GoodIn wsX8_happen wsX0_seatedAt := goodIn_r _ [125, 84, 114, 115, 116, 22, 117, 118, 119, 120, 121, 92, 101, 102, 103, 104, 194, 195, 196, 197, 198, 199, 200, 201, 202, 203, 204] (by decide +kernel) (by decide +kernel)
set_option maxRecDepth 20000 in
theorem gX8_happen_X0_seatedAt : GoodIn wsX8_happen (wsV RX8 333 RX0 yX0_seatedAt wsX0_seatedAt) := goodIn_app (goodIn_of _ (by decide +kernel)) ggX8_happen_X0_seatedAt
set_option maxRecDepth 20000 in
theorem ggX8_happen_X8_givesBack : GoodIn wsX8_happen wsX8_givesBack := goodIn_r _ [129, 3, 130, 115, 116, 22, 117, 118, 119, 120, 121, 92, 101, 102, 103, 104, 84, 131, 132, 133, 134, 93, 90, 135, 136, 137, 138, 139, 100, 114, 140, 141, 142, 143, 36, 72, 59, 73, 25, 26, 27, 74, 75, 58, 60, 144, 145, 146, 147, 1, 2, 148, 149, 150, 151, 85, 152, 153, 154, 155, 94, 156, 157, 158, 159, 160, 161, 162, 163, 91, 4, 5, 6, 7, 8, 9, 10, 11, 12, 13, 14, 15, 16, 17, 18, 19, 20, 21, 23, 24, 28, 29, 30, 31, 32, 33, 34, 35, 37, 38, 39, 40, 41, 42, 43, 44, 45, 46, 47, 48, 49, 50, 51, 52, 53, 54, 55, 56, 57, 61, 62, 63, 64, 65, 66, 67, 68, 69, 70, 71, 76, 77, 78, 79, 164, 165, 166, 167, 168, 169, 170, 171, 172, 97, 98, 99, 105, 106, 107, 108, 109, 173, 174, 175, 176, 177, 178, 179, 180, 181, 182, 183, 194, 195, 196, 197, 198, 199, 200, 201, 202, 203, 204, 184, 185, 186, 187, 188, 189, 190, 191, 192, 193] (by decide +kernel) (by decide +kernel)
set_option maxRecDepth 20000 in
theorem gX8_happen_X8_givesBack : GoodIn wsX8_happen (wsV RX8 327 RX8 yX8_givesBack wsX8_givesBack) := goodIn_app (goodIn_of _ (by decide +kernel)) ggX8_happen_X8_givesBack
theorem dX8_happen_0 : decode cX8_happen 0 = .ok (.iload_n 1, 1) := by decide +kernel
theorem dX8_happen_1 : decode cX8_happen 1 = .ok (.iconst 4, 1) := by decide +kernel
theorem dX8_happen_2 : decode cX8_happen 2 = .ok (.irem, 1) := by decide +kernel
theorem dX8_happen_3 : decode cX8_happen 3 = .ok (.iconst 3, 1) := by decide +kernel
theorem dX8_happen_4 : decode cX8_happen 4 = .ok (.if_icmp .eq 69, 3) := by decide +kernel
theorem dX8_happen_7 : decode cX8_happen 7 = .ok (.iconst 1, 1) := by decide +kernel
theorem dX8_happen_8 : decode cX8_happen 8 = .ok (.iload_n 1, 1) := by decide +kernel
theorem dX8_happen_9 : decode cX8_happen 9 = .ok (.iconst 4, 1) := by decide +kernel
theorem dX8_happen_10 : decode cX8_happen 10 = .ok (.idiv, 1) := by decide +kernel
theorem dX8_happen_11 : decode cX8_happen 11 = .ok (.bipush 6, 2) := by decide +kernel
theorem dX8_happen_13 : decode cX8_happen 13 = .ok (.irem, 1) := by decide +kernel
theorem dX8_happen_14 : decode cX8_happen 14 = .ok (.iadd, 1) := by decide +kernel
theorem dX8_happen_15 : decode cX8_happen 15 = .ok (.istore_n 2, 1) := by decide +kernel
theorem dX8_happen_16 : decode cX8_happen 16 = .ok (.iconst 1, 1) := by decide +kernel
theorem dX8_happen_17 : decode cX8_happen 17 = .ok (.iload_n 1, 1) := by decide +kernel
theorem dX8_happen_18 : decode cX8_happen 18 = .ok (.bipush 24, 2) := by decide +kernel
theorem dX8_happen_20 : decode cX8_happen 20 = .ok (.idiv, 1) := by decide +kernel
theorem dX8_happen_21 : decode cX8_happen 21 = .ok (.bipush 9, 2) := by decide +kernel
theorem dX8_happen_23 : decode cX8_happen 23 = .ok (.irem, 1) := by decide +kernel
theorem dX8_happen_24 : decode cX8_happen 24 = .ok (.iadd, 1) := by decide +kernel
theorem dX8_happen_25 : decode cX8_happen 25 = .ok (.istore_n 3, 1) := by decide +kernel
theorem dX8_happen_26 : decode cX8_happen 26 = .ok (.aload_n 0, 1) := by decide +kernel
theorem dX8_happen_27 : decode cX8_happen 27 = .ok (.getfield 60, 3) := by decide +kernel
theorem dX8_happen_30 : decode cX8_happen 30 = .ok (.aload_n 0, 1) := by decide +kernel
theorem dX8_happen_31 : decode cX8_happen 31 = .ok (.getfield 23, 3) := by decide +kernel
theorem dX8_happen_34 : decode cX8_happen 34 = .ok (.aload_n 0, 1) := by decide +kernel
theorem dX8_happen_35 : decode cX8_happen 35 = .ok (.getfield 33, 3) := by decide +kernel
theorem dX8_happen_38 : decode cX8_happen 38 = .ok (.iload_n 2, 1) := by decide +kernel
theorem dX8_happen_39 : decode cX8_happen 39 = .ok (.iload_n 3, 1) := by decide +kernel
theorem dX8_happen_40 : decode cX8_happen 40 = .ok (.iconst 0, 1) := by decide +kernel
theorem dX8_happen_41 : decode cX8_happen 41 = .ok (.bipush 15, 2) := by decide +kernel
theorem dX8_happen_43 : decode cX8_happen 43 = .ok (.invokevirtual 165, 3) := by decide +kernel
theorem dX8_happen_46 : decode cX8_happen 46 = .ok (.istore 4, 2) := by decide +kernel
theorem dX8_happen_48 : decode cX8_happen 48 = .ok (.aload_n 0, 1) := by decide +kernel
theorem dX8_happen_49 : decode cX8_happen 49 = .ok (.getfield 33, 3) := by decide +kernel
theorem dX8_happen_52 : decode cX8_happen 52 = .ok (.iload 4, 2) := by decide +kernel
theorem dX8_happen_54 : decode cX8_happen 54 = .ok (.invokevirtual 169, 3) := by decide +kernel
theorem dX8_happen_57 : decode cX8_happen 57 = .ok (.ifCond .ne 15, 3) := by decide +kernel
theorem dX8_happen_60 : decode cX8_happen 60 = .ok (.aload_n 0, 1) := by decide +kernel
theorem dX8_happen_61 : decode cX8_happen 61 = .ok (.getfield 33, 3) := by decide +kernel
theorem dX8_happen_64 : decode cX8_happen 64 = .ok (.iload_n 2, 1) := by decide +kernel
theorem dX8_happen_65 : decode cX8_happen 65 = .ok (.iload_n 3, 1) := by decide +kernel
theorem dX8_happen_66 : decode cX8_happen 66 = .ok (.iload 4, 2) := by decide +kernel
theorem dX8_happen_68 : decode cX8_happen 68 = .ok (.invokevirtual 176, 3) := by decide +kernel
theorem dX8_happen_71 : decode cX8_happen 71 = .ok (.pop, 1) := by decide +kernel
theorem dX8_happen_72 : decode cX8_happen 72 = .ok (.return_, 1) := by decide +kernel
theorem dX8_happen_73 : decode cX8_happen 73 = .ok (.aload_n 0, 1) := by decide +kernel
theorem dX8_happen_74 : decode cX8_happen 74 = .ok (.getfield 33, 3) := by decide +kernel
theorem dX8_happen_77 : decode cX8_happen 77 = .ok (.invokevirtual 305, 3) := by decide +kernel
theorem dX8_happen_80 : decode cX8_happen 80 = .ok (.istore_n 2, 1) := by decide +kernel
theorem dX8_happen_81 : decode cX8_happen 81 = .ok (.iload_n 2, 1) := by decide +kernel
theorem dX8_happen_82 : decode cX8_happen 82 = .ok (.ifCond .le 20, 3) := by decide +kernel
theorem dX8_happen_85 : decode cX8_happen 85 = .ok (.aload_n 0, 1) := by decide +kernel
theorem dX8_happen_86 : decode cX8_happen 86 = .ok (.aload_n 0, 1) := by decide +kernel
theorem dX8_happen_87 : decode cX8_happen 87 = .ok (.getfield 33, 3) := by decide +kernel
theorem dX8_happen_90 : decode cX8_happen 90 = .ok (.iload_n 1, 1) := by decide +kernel
theorem dX8_happen_91 : decode cX8_happen 91 = .ok (.iconst 4, 1) := by decide +kernel
theorem dX8_happen_92 : decode cX8_happen 92 = .ok (.idiv, 1) := by decide +kernel
theorem dX8_happen_93 : decode cX8_happen 93 = .ok (.iload_n 2, 1) := by decide +kernel
theorem dX8_happen_94 : decode cX8_happen 94 = .ok (.irem, 1) := by decide +kernel
theorem dX8_happen_95 : decode cX8_happen 95 = .ok (.invokevirtual 333, 3) := by decide +kernel
theorem dX8_happen_98 : decode cX8_happen 98 = .ok (.invokevirtual 327, 3) := by decide +kernel
theorem dX8_happen_101 : decode cX8_happen 101 = .ok (.pop, 1) := by decide +kernel
theorem dX8_happen_102 : decode cX8_happen 102 = .ok (.return_, 1) := by decide +kernel
theorem dX9_init_0 : decode cX9_init 0 = .ok (.aload_n 0, 1) := by decide +kernel
theorem dX9_init_1 : decode cX9_init 1 = .ok (.invokespecial 1, 3) := by decide +kernel
theorem dX9_init_4 : decode cX9_init 4 = .ok (.aload_n 0, 1) := by decide +kernel
theorem dX9_init_5 : decode cX9_init 5 = .ok (.bipush 80, 2) := by decide +kernel
theorem dX9_init_7 : decode cX9_init 7 = .ok (.newarray .int, 2) := by decide +kernel
theorem dX9_init_9 : decode cX9_init 9 = .ok (.putfield 7, 3) := by decide +kernel
theorem dX9_init_12 : decode cX9_init 12 = .ok (.aload_n 0, 1) := by decide +kernel
theorem dX9_init_13 : decode cX9_init 13 = .ok (.iconst 4, 1) := by decide +kernel
theorem dX9_init_14 : decode cX9_init 14 = .ok (.newarray .int, 2) := by decide +kernel
theorem dX9_init_16 : decode cX9_init 16 = .ok (.putfield 13, 3) := by decide +kernel
theorem dX9_init_19 : decode cX9_init 19 = .ok (.aload_n 0, 1) := by decide +kernel
theorem dX9_init_20 : decode cX9_init 20 = .ok (.bipush 36, 2) := by decide +kernel
theorem dX9_init_22 : decode cX9_init 22 = .ok (.newarray .int, 2) := by decide +kernel
theorem dX9_init_24 : decode cX9_init 24 = .ok (.putfield 16, 3) := by decide +kernel
theorem dX9_init_27 : decode cX9_init 27 = .ok (.aload_n 0, 1) := by decide +kernel
theorem dX9_init_28 : decode cX9_init 28 = .ok (.bipush 36, 2) := by decide +kernel
theorem dX9_init_30 : decode cX9_init 30 = .ok (.newarray .boolean, 2) := by decide +kernel
theorem dX9_init_32 : decode cX9_init 32 = .ok (.putfield 19, 3) := by decide +kernel
theorem dX9_init_35 : decode cX9_init 35 = .ok (.aload_n 0, 1) := by decide +kernel
theorem dX9_init_36 : decode cX9_init 36 = .ok (.iconst 4, 1) := by decide +kernel
theorem dX9_init_37 : decode cX9_init 37 = .ok (.newarray .int, 2) := by decide +kernel
theorem dX9_init_39 : decode cX9_init 39 = .ok (.putfield 23, 3) := by decide +kernel
theorem dX9_init_42 : decode cX9_init 42 = .ok (.aload_n 0, 1) := by decide +kernel
theorem dX9_init_43 : decode cX9_init 43 = .ok (.bipush 36, 2) := by decide +kernel
theorem dX9_init_45 : decode cX9_init 45 = .ok (.newarray .int, 2) := by decide +kernel
theorem dX9_init_47 : decode cX9_init 47 = .ok (.putfield 26, 3) := by decide +kernel
theorem dX9_init_50 : decode cX9_init 50 = .ok (.aload_n 0, 1) := by decide +kernel
theorem dX9_init_51 : decode cX9_init 51 = .ok (.bipush 36, 2) := by decide +kernel
theorem dX9_init_53 : decode cX9_init 53 = .ok (.newarray .boolean, 2) := by decide +kernel
theorem dX9_init_55 : decode cX9_init 55 = .ok (.putfield 29, 3) := by decide +kernel
theorem dX9_init_58 : decode cX9_init 58 = .ok (.aload_n 0, 1) := by decide +kernel
theorem dX9_init_59 : decode cX9_init 59 = .ok (.sipush 229, 3) := by decide +kernel
theorem dX9_init_62 : decode cX9_init 62 = .ok (.newarray .int, 2) := by decide +kernel
theorem dX9_init_64 : decode cX9_init 64 = .ok (.putfield 32, 3) := by decide +kernel
theorem dX9_init_67 : decode cX9_init 67 = .ok (.aload_n 0, 1) := by decide +kernel
theorem dX9_init_68 : decode cX9_init 68 = .ok (.sipush 229, 3) := by decide +kernel
theorem dX9_init_71 : decode cX9_init 71 = .ok (.newarray .int, 2) := by decide +kernel
theorem dX9_init_73 : decode cX9_init 73 = .ok (.putfield 35, 3) := by decide +kernel
theorem dX9_init_76 : decode cX9_init 76 = .ok (.aload_n 0, 1) := by decide +kernel
theorem dX9_init_77 : decode cX9_init 77 = .ok (.sipush 229, 3) := by decide +kernel
theorem dX9_init_80 : decode cX9_init 80 = .ok (.newarray .int, 2) := by decide +kernel
theorem dX9_init_82 : decode cX9_init 82 = .ok (.putfield 38, 3) := by decide +kernel
theorem dX9_init_85 : decode cX9_init 85 = .ok (.aload_n 0, 1) := by decide +kernel
theorem dX9_init_86 : decode cX9_init 86 = .ok (.sipush 3206, 3) := by decide +kernel
theorem dX9_init_89 : decode cX9_init 89 = .ok (.newarray .int, 2) := by decide +kernel
theorem dX9_init_91 : decode cX9_init 91 = .ok (.putfield 41, 3) := by decide +kernel
theorem dX9_init_94 : decode cX9_init 94 = .ok (.aload_n 0, 1) := by decide +kernel
theorem dX9_init_95 : decode cX9_init 95 = .ok (.sipush 458, 3) := by decide +kernel
theorem dX9_init_98 : decode cX9_init 98 = .ok (.newarray .int, 2) := by decide +kernel
theorem dX9_init_100 : decode cX9_init 100 = .ok (.putfield 44, 3) := by decide +kernel
theorem dX9_init_103 : decode cX9_init 103 = .ok (.aload_n 0, 1) := by decide +kernel
theorem dX9_init_104 : decode cX9_init 104 = .ok (.iconst 2, 1) := by decide +kernel
theorem dX9_init_105 : decode cX9_init 105 = .ok (.newarray .boolean, 2) := by decide +kernel
theorem dX9_init_107 : decode cX9_init 107 = .ok (.putfield 47, 3) := by decide +kernel
theorem dX9_init_110 : decode cX9_init 110 = .ok (.aload_n 0, 1) := by decide +kernel
theorem dX9_init_111 : decode cX9_init 111 = .ok (.bipush 6, 2) := by decide +kernel
theorem dX9_init_113 : decode cX9_init 113 = .ok (.newarray .int, 2) := by decide +kernel
theorem dX9_init_115 : decode cX9_init 115 = .ok (.putfield 50, 3) := by decide +kernel
theorem dX9_init_118 : decode cX9_init 118 = .ok (.aload_n 0, 1) := by decide +kernel
theorem dX9_init_119 : decode cX9_init 119 = .ok (.bipush 6, 2) := by decide +kernel
theorem dX9_init_121 : decode cX9_init 121 = .ok (.newarray .int, 2) := by decide +kernel
theorem dX9_init_123 : decode cX9_init 123 = .ok (.putfield 53, 3) := by decide +kernel
theorem dX9_init_126 : decode cX9_init 126 = .ok (.aload_n 0, 1) := by decide +kernel
theorem dX9_init_127 : decode cX9_init 127 = .ok (.bipush (-9), 2) := by decide +kernel
theorem dX9_init_129 : decode cX9_init 129 = .ok (.putfield 56, 3) := by decide +kernel
theorem dX9_init_132 : decode cX9_init 132 = .ok (.return_, 1) := by decide +kernel
theorem dX9_in_0 : decode cX9_in 0 = .ok (.lload_n 0, 1) := by decide +kernel
theorem dX9_in_1 : decode cX9_in 1 = .ok (.lload_n 2, 1) := by decide +kernel
theorem dX9_in_2 : decode cX9_in 2 = .ok (.lcmp, 1) := by decide +kernel
theorem dX9_in_3 : decode cX9_in 3 = .ok (.ifCond .lt 14, 3) := by decide +kernel
theorem dX9_in_6 : decode cX9_in 6 = .ok (.lload_n 0, 1) := by decide +kernel
theorem dX9_in_7 : decode cX9_in 7 = .ok (.lload 4, 2) := by decide +kernel
theorem dX9_in_9 : decode cX9_in 9 = .ok (.lcmp, 1) := by decide +kernel
theorem dX9_in_10 : decode cX9_in 10 = .ok (.ifCond .gt 7, 3) := by decide +kernel
theorem dX9_in_13 : decode cX9_in 13 = .ok (.iconst 1, 1) := by decide +kernel
theorem dX9_in_14 : decode cX9_in 14 = .ok (.goto 4, 3) := by decide +kernel
theorem dX9_in_17 : decode cX9_in 17 = .ok (.iconst 0, 1) := by decide +kernel
theorem dX9_in_18 : decode cX9_in 18 = .ok (.ireturn, 1) := by decide +kernel
theorem dX9_has_0 : decode cX9_has 0 = .ok (.iload_n 0, 1) := by decide +kernel
theorem dX9_has_1 : decode cX9_has 1 = .ok (.iload_n 1, 1) := by decide +kernel
theorem dX9_has_2 : decode cX9_has 2 = .ok (.ishr, 1) := by decide +kernel
theorem dX9_has_3 : decode cX9_has 3 = .ok (.iconst 1, 1) := by decide +kernel
theorem dX9_has_4 : decode cX9_has 4 = .ok (.iand, 1) := by decide +kernel
theorem dX9_has_5 : decode cX9_has 5 = .ok (.iconst 1, 1) := by decide +kernel
theorem dX9_has_6 : decode cX9_has 6 = .ok (.if_icmp .ne 7, 3) := by decide +kernel
theorem dX9_has_9 : decode cX9_has 9 = .ok (.iconst 1, 1) := by decide +kernel
theorem dX9_has_10 : decode cX9_has 10 = .ok (.goto 4, 3) := by decide +kernel
theorem dX9_has_13 : decode cX9_has 13 = .ok (.iconst 0, 1) := by decide +kernel
theorem dX9_has_14 : decode cX9_has 14 = .ok (.ireturn, 1) := by decide +kernel
theorem dX9_ones_0 : decode cX9_ones 0 = .ok (.iconst 0, 1) := by decide +kernel
theorem dX9_ones_1 : decode cX9_ones 1 = .ok (.istore_n 1, 1) := by decide +kernel
theorem dX9_ones_2 : decode cX9_ones 2 = .ok (.iconst 0, 1) := by decide +kernel
theorem dX9_ones_3 : decode cX9_ones 3 = .ok (.istore_n 2, 1) := by decide +kernel
theorem dX9_ones_4 : decode cX9_ones 4 = .ok (.iload_n 2, 1) := by decide +kernel
theorem dX9_ones_5 : decode cX9_ones 5 = .ok (.bipush 9, 2) := by decide +kernel
theorem dX9_ones_7 : decode cX9_ones 7 = .ok (.if_icmp .ge 17, 3) := by decide +kernel
theorem dX9_ones_10 : decode cX9_ones 10 = .ok (.iload_n 1, 1) := by decide +kernel
theorem dX9_ones_11 : decode cX9_ones 11 = .ok (.iload_n 0, 1) := by decide +kernel
theorem dX9_ones_12 : decode cX9_ones 12 = .ok (.iload_n 2, 1) := by decide +kernel
theorem dX9_ones_13 : decode cX9_ones 13 = .ok (.ishr, 1) := by decide +kernel
theorem dX9_ones_14 : decode cX9_ones 14 = .ok (.iconst 1, 1) := by decide +kernel
theorem dX9_ones_15 : decode cX9_ones 15 = .ok (.iand, 1) := by decide +kernel
theorem dX9_ones_16 : decode cX9_ones 16 = .ok (.iadd, 1) := by decide +kernel
theorem dX9_ones_17 : decode cX9_ones 17 = .ok (.istore_n 1, 1) := by decide +kernel
theorem dX9_ones_18 : decode cX9_ones 18 = .ok (.iinc 2 1, 3) := by decide +kernel
theorem dX9_ones_21 : decode cX9_ones 21 = .ok (.goto (-17), 3) := by decide +kernel
theorem dX9_ones_24 : decode cX9_ones 24 = .ok (.iload_n 1, 1) := by decide +kernel
theorem dX9_ones_25 : decode cX9_ones 25 = .ok (.ireturn, 1) := by decide +kernel
theorem dX9_power_0 : decode cX9_power 0 = .ok (.iconst 1, 1) := by decide +kernel
theorem dX9_power_1 : decode cX9_power 1 = .ok (.istore_n 2, 1) := by decide +kernel
theorem dX9_power_2 : decode cX9_power 2 = .ok (.iconst 0, 1) := by decide +kernel
theorem dX9_power_3 : decode cX9_power 3 = .ok (.istore_n 3, 1) := by decide +kernel
theorem dX9_power_4 : decode cX9_power 4 = .ok (.iload_n 3, 1) := by decide +kernel
theorem dX9_power_5 : decode cX9_power 5 = .ok (.iload_n 1, 1) := by decide +kernel
theorem dX9_power_6 : decode cX9_power 6 = .ok (.if_icmp .ge 13, 3) := by decide +kernel
theorem dX9_power_9 : decode cX9_power 9 = .ok (.iload_n 2, 1) := by decide +kernel
theorem dX9_power_10 : decode cX9_power 10 = .ok (.iload_n 0, 1) := by decide +kernel
theorem dX9_power_11 : decode cX9_power 11 = .ok (.imul, 1) := by decide +kernel
theorem dX9_power_12 : decode cX9_power 12 = .ok (.istore_n 2, 1) := by decide +kernel
theorem dX9_power_13 : decode cX9_power 13 = .ok (.iinc 3 1, 3) := by decide +kernel
theorem dX9_power_16 : decode cX9_power 16 = .ok (.goto (-12), 3) := by decide +kernel
theorem dX9_power_19 : decode cX9_power 19 = .ok (.iload_n 2, 1) := by decide +kernel
theorem dX9_power_20 : decode cX9_power 20 = .ok (.ireturn, 1) := by decide +kernel
theorem dX9_copy_0 : decode cX9_copy 0 = .ok (.iconst 0, 1) := by decide +kernel
theorem dX9_copy_1 : decode cX9_copy 1 = .ok (.istore_n 2, 1) := by decide +kernel
theorem dX9_copy_2 : decode cX9_copy 2 = .ok (.iload_n 2, 1) := by decide +kernel
theorem dX9_copy_3 : decode cX9_copy 3 = .ok (.sipush 229, 3) := by decide +kernel
theorem dX9_copy_6 : decode cX9_copy 6 = .ok (.if_icmp .ge 15, 3) := by decide +kernel
theorem dX9_copy_9 : decode cX9_copy 9 = .ok (.aload_n 1, 1) := by decide +kernel
theorem dX9_copy_10 : decode cX9_copy 10 = .ok (.iload_n 2, 1) := by decide +kernel
theorem dX9_copy_11 : decode cX9_copy 11 = .ok (.aload_n 0, 1) := by decide +kernel
theorem dX9_copy_12 : decode cX9_copy 12 = .ok (.iload_n 2, 1) := by decide +kernel
theorem dX9_copy_13 : decode cX9_copy 13 = .ok (.iaload, 1) := by decide +kernel
theorem dX9_copy_14 : decode cX9_copy 14 = .ok (.iastore, 1) := by decide +kernel
theorem dX9_copy_15 : decode cX9_copy 15 = .ok (.iinc 2 1, 3) := by decide +kernel
theorem dX9_copy_18 : decode cX9_copy 18 = .ok (.goto (-16), 3) := by decide +kernel
theorem dX9_copy_21 : decode cX9_copy 21 = .ok (.return_, 1) := by decide +kernel
set_option maxRecDepth 20000 in
theorem ggX9_noRow_X9_in : GoodIn wsX9_noRow wsX9_in := goodIn_r _ [5] (by decide +kernel) (by decide +kernel)
set_option maxRecDepth 20000 in
theorem gX9_noRow_X9_in : GoodIn wsX9_noRow (va_wsS RX9 66 yX9_in wsX9_in) := goodIn_app (goodIn_of _ (by decide +kernel)) ggX9_noRow_X9_in
theorem dX9_noRow_0 : decode cX9_noRow 0 = .ok (.iload_n 1, 1) := by decide +kernel
theorem dX9_noRow_1 : decode cX9_noRow 1 = .ok (.i2l, 1) := by decide +kernel
theorem dX9_noRow_2 : decode cX9_noRow 2 = .ok (.lconst 0, 1) := by decide +kernel
theorem dX9_noRow_3 : decode cX9_noRow 3 = .ok (.aload_n 0, 1) := by decide +kernel
theorem dX9_noRow_4 : decode cX9_noRow 4 = .ok (.getfield 63, 3) := by decide +kernel
theorem dX9_noRow_7 : decode cX9_noRow 7 = .ok (.iconst 1, 1) := by decide +kernel
theorem dX9_noRow_8 : decode cX9_noRow 8 = .ok (.isub, 1) := by decide +kernel
theorem dX9_noRow_9 : decode cX9_noRow 9 = .ok (.i2l, 1) := by decide +kernel
theorem dX9_noRow_10 : decode cX9_noRow 10 = .ok (.invokestatic 66, 3) := by decide +kernel
theorem dX9_noRow_13 : decode cX9_noRow 13 = .ok (.ifCond .ne 7, 3) := by decide +kernel
theorem dX9_noRow_16 : decode cX9_noRow 16 = .ok (.iconst 1, 1) := by decide +kernel
theorem dX9_noRow_17 : decode cX9_noRow 17 = .ok (.goto 4, 3) := by decide +kernel
theorem dX9_noRow_20 : decode cX9_noRow 20 = .ok (.iconst 0, 1) := by decide +kernel
theorem dX9_noRow_21 : decode cX9_noRow 21 = .ok (.ireturn, 1) := by decide +kernel
set_option maxRecDepth 20000 in
theorem ggX9_noSeat_X9_noRow : GoodIn wsX9_noSeat wsX9_noRow := goodIn_r _ [6, 7, 8, 9, 5, 10, 11, 12, 13, 14, 15, 16, 17, 18, 19, 20, 21, 22, 23, 24, 25, 26, 27, 28, 29, 30, 31, 32, 33, 34, 35, 36] (by decide +kernel) (by decide +kernel)
set_option maxRecDepth 20000 in
theorem gX9_noSeat_X9_noRow : GoodIn wsX9_noSeat (wsV RX9 70 RX9 yX9_noRow wsX9_noRow) := goodIn_app (goodIn_of _ (by decide +kernel)) ggX9_noSeat_X9_noRow
set_option maxRecDepth 20000 in
theorem ggX9_noSeat_X9_in : GoodIn wsX9_noSeat wsX9_in := goodIn_r _ [10] (by decide +kernel) (by decide +kernel)
set_option maxRecDepth 20000 in
theorem gX9_noSeat_X9_in : GoodIn wsX9_noSeat (va_wsS RX9 66 yX9_in wsX9_in) := goodIn_app (goodIn_of _ (by decide +kernel)) ggX9_noSeat_X9_in
theorem dX9_noSeat_0 : decode cX9_noSeat 0 = .ok (.aload_n 0, 1) := by decide +kernel
theorem dX9_noSeat_1 : decode cX9_noSeat 1 = .ok (.iload_n 1, 1) := by decide +kernel
theorem dX9_noSeat_2 : decode cX9_noSeat 2 = .ok (.invokevirtual 70, 3) := by decide +kernel
theorem dX9_noSeat_5 : decode cX9_noSeat 5 = .ok (.ifCond .ne 21, 3) := by decide +kernel
theorem dX9_noSeat_8 : decode cX9_noSeat 8 = .ok (.iload_n 2, 1) := by decide +kernel
theorem dX9_noSeat_9 : decode cX9_noSeat 9 = .ok (.i2l, 1) := by decide +kernel
theorem dX9_noSeat_10 : decode cX9_noSeat 10 = .ok (.lconst 0, 1) := by decide +kernel
theorem dX9_noSeat_11 : decode cX9_noSeat 11 = .ok (.aload_n 0, 1) := by decide +kernel
theorem dX9_noSeat_12 : decode cX9_noSeat 12 = .ok (.getfield 13, 3) := by decide +kernel
theorem dX9_noSeat_15 : decode cX9_noSeat 15 = .ok (.iload_n 1, 1) := by decide +kernel
theorem dX9_noSeat_16 : decode cX9_noSeat 16 = .ok (.iaload, 1) := by decide +kernel
theorem dX9_noSeat_17 : decode cX9_noSeat 17 = .ok (.iconst 1, 1) := by decide +kernel
theorem dX9_noSeat_18 : decode cX9_noSeat 18 = .ok (.isub, 1) := by decide +kernel
theorem dX9_noSeat_19 : decode cX9_noSeat 19 = .ok (.i2l, 1) := by decide +kernel
theorem dX9_noSeat_20 : decode cX9_noSeat 20 = .ok (.invokestatic 66, 3) := by decide +kernel
theorem dX9_noSeat_23 : decode cX9_noSeat 23 = .ok (.ifCond .ne 7, 3) := by decide +kernel
theorem dX9_noSeat_26 : decode cX9_noSeat 26 = .ok (.iconst 1, 1) := by decide +kernel
theorem dX9_noSeat_27 : decode cX9_noSeat 27 = .ok (.goto 4, 3) := by decide +kernel
theorem dX9_noSeat_30 : decode cX9_noSeat 30 = .ok (.iconst 0, 1) := by decide +kernel
theorem dX9_noSeat_31 : decode cX9_noSeat 31 = .ok (.ireturn, 1) := by decide +kernel
set_option maxRecDepth 20000 in
theorem ggX9_noParty_X9_in : GoodIn wsX9_noParty wsX9_in := goodIn_r _ [5] (by decide +kernel) (by decide +kernel)
set_option maxRecDepth 20000 in
theorem gX9_noParty_X9_in : GoodIn wsX9_noParty (va_wsS RX9 66 yX9_in wsX9_in) := goodIn_app (goodIn_of _ (by decide +kernel)) ggX9_noParty_X9_in
theorem dX9_noParty_0 : decode cX9_noParty 0 = .ok (.iload_n 1, 1) := by decide +kernel
theorem dX9_noParty_1 : decode cX9_noParty 1 = .ok (.i2l, 1) := by decide +kernel
theorem dX9_noParty_2 : decode cX9_noParty 2 = .ok (.lconst 1, 1) := by decide +kernel
theorem dX9_noParty_3 : decode cX9_noParty 3 = .ok (.aload_n 0, 1) := by decide +kernel
theorem dX9_noParty_4 : decode cX9_noParty 4 = .ok (.getfield 35, 3) := by decide +kernel
theorem dX9_noParty_7 : decode cX9_noParty 7 = .ok (.bipush 6, 2) := by decide +kernel
theorem dX9_noParty_9 : decode cX9_noParty 9 = .ok (.iaload, 1) := by decide +kernel
theorem dX9_noParty_10 : decode cX9_noParty 10 = .ok (.i2l, 1) := by decide +kernel
theorem dX9_noParty_11 : decode cX9_noParty 11 = .ok (.invokestatic 66, 3) := by decide +kernel
theorem dX9_noParty_14 : decode cX9_noParty 14 = .ok (.ifCond .ne 7, 3) := by decide +kernel
theorem dX9_noParty_17 : decode cX9_noParty 17 = .ok (.iconst 1, 1) := by decide +kernel
theorem dX9_noParty_18 : decode cX9_noParty 18 = .ok (.goto 4, 3) := by decide +kernel
theorem dX9_noParty_21 : decode cX9_noParty 21 = .ok (.iconst 0, 1) := by decide +kernel
theorem dX9_noParty_22 : decode cX9_noParty 22 = .ok (.ireturn, 1) := by decide +kernel
theorem dX9_at_0 : decode cX9_at 0 = .ok (.bipush 49, 2) := by decide +kernel
theorem dX9_at_2 : decode cX9_at 2 = .ok (.bipush 6, 2) := by decide +kernel
theorem dX9_at_4 : decode cX9_at 4 = .ok (.iload_n 0, 1) := by decide +kernel
theorem dX9_at_5 : decode cX9_at 5 = .ok (.iconst 1, 1) := by decide +kernel
theorem dX9_at_6 : decode cX9_at 6 = .ok (.isub, 1) := by decide +kernel
theorem dX9_at_7 : decode cX9_at 7 = .ok (.imul, 1) := by decide +kernel
theorem dX9_at_8 : decode cX9_at 8 = .ok (.iadd, 1) := by decide +kernel
theorem dX9_at_9 : decode cX9_at 9 = .ok (.ireturn, 1) := by decide +kernel
set_option maxRecDepth 20000 in
theorem ggX9_write_X9_in : GoodIn wsX9_write wsX9_in := goodIn_r _ [8] (by decide +kernel) (by decide +kernel)
set_option maxRecDepth 20000 in
theorem gX9_write_X9_in : GoodIn wsX9_write (va_wsS RX9 66 yX9_in wsX9_in) := goodIn_app (goodIn_of _ (by decide +kernel)) ggX9_write_X9_in
theorem dX9_write_0 : decode cX9_write 0 = .ok (.aload_n 0, 1) := by decide +kernel
theorem dX9_write_1 : decode cX9_write 1 = .ok (.iconst 0, 1) := by decide +kernel
theorem dX9_write_2 : decode cX9_write 2 = .ok (.putfield 60, 3) := by decide +kernel
theorem dX9_write_5 : decode cX9_write 5 = .ok (.iload_n 1, 1) := by decide +kernel
theorem dX9_write_6 : decode cX9_write 6 = .ok (.i2l, 1) := by decide +kernel
theorem dX9_write_7 : decode cX9_write 7 = .ok (.lconst 0, 1) := by decide +kernel
theorem dX9_write_8 : decode cX9_write 8 = .ok (.ldc2_w 74, 3) := by decide +kernel
theorem dX9_write_11 : decode cX9_write 11 = .ok (.invokestatic 66, 3) := by decide +kernel
theorem dX9_write_14 : decode cX9_write 14 = .ok (.ifCond .ne 6, 3) := by decide +kernel
theorem dX9_write_17 : decode cX9_write 17 = .ok (.bipush (-2), 2) := by decide +kernel
theorem dX9_write_19 : decode cX9_write 19 = .ok (.ireturn, 1) := by decide +kernel
theorem dX9_write_20 : decode cX9_write 20 = .ok (.aload_n 0, 1) := by decide +kernel
theorem dX9_write_21 : decode cX9_write 21 = .ok (.getfield 76, 3) := by decide +kernel
theorem dX9_write_24 : decode cX9_write 24 = .ok (.bipush 80, 2) := by decide +kernel
theorem dX9_write_26 : decode cX9_write 26 = .ok (.if_icmp .ne 6, 3) := by decide +kernel
theorem dX9_write_29 : decode cX9_write 29 = .ok (.bipush (-4), 2) := by decide +kernel
theorem dX9_write_31 : decode cX9_write 31 = .ok (.ireturn, 1) := by decide +kernel
theorem dX9_write_32 : decode cX9_write 32 = .ok (.aload_n 0, 1) := by decide +kernel
theorem dX9_write_33 : decode cX9_write 33 = .ok (.getfield 7, 3) := by decide +kernel
theorem dX9_write_36 : decode cX9_write 36 = .ok (.aload_n 0, 1) := by decide +kernel
theorem dX9_write_37 : decode cX9_write 37 = .ok (.getfield 76, 3) := by decide +kernel
theorem dX9_write_40 : decode cX9_write 40 = .ok (.iload_n 1, 1) := by decide +kernel
theorem dX9_write_41 : decode cX9_write 41 = .ok (.iastore, 1) := by decide +kernel
theorem dX9_write_42 : decode cX9_write 42 = .ok (.aload_n 0, 1) := by decide +kernel
theorem dX9_write_43 : decode cX9_write 43 = .ok (.dup, 1) := by decide +kernel
theorem dX9_write_44 : decode cX9_write 44 = .ok (.getfield 76, 3) := by decide +kernel
theorem dX9_write_47 : decode cX9_write 47 = .ok (.iconst 1, 1) := by decide +kernel
theorem dX9_write_48 : decode cX9_write 48 = .ok (.iadd, 1) := by decide +kernel
theorem dX9_write_49 : decode cX9_write 49 = .ok (.putfield 76, 3) := by decide +kernel
theorem dX9_write_52 : decode cX9_write 52 = .ok (.aload_n 0, 1) := by decide +kernel
theorem dX9_write_53 : decode cX9_write 53 = .ok (.getfield 76, 3) := by decide +kernel
theorem dX9_write_56 : decode cX9_write 56 = .ok (.ireturn, 1) := by decide +kernel
theorem dX9_wipe_0 : decode cX9_wipe 0 = .ok (.aload_n 0, 1) := by decide +kernel
theorem dX9_wipe_1 : decode cX9_wipe 1 = .ok (.iconst 0, 1) := by decide +kernel
theorem dX9_wipe_2 : decode cX9_wipe 2 = .ok (.putfield 60, 3) := by decide +kernel
theorem dX9_wipe_5 : decode cX9_wipe 5 = .ok (.aload_n 0, 1) := by decide +kernel
theorem dX9_wipe_6 : decode cX9_wipe 6 = .ok (.getfield 76, 3) := by decide +kernel
theorem dX9_wipe_9 : decode cX9_wipe 9 = .ok (.istore_n 1, 1) := by decide +kernel
theorem dX9_wipe_10 : decode cX9_wipe 10 = .ok (.aload_n 0, 1) := by decide +kernel
theorem dX9_wipe_11 : decode cX9_wipe 11 = .ok (.iconst 0, 1) := by decide +kernel
theorem dX9_wipe_12 : decode cX9_wipe 12 = .ok (.putfield 76, 3) := by decide +kernel
theorem dX9_wipe_15 : decode cX9_wipe 15 = .ok (.iload_n 1, 1) := by decide +kernel
theorem dX9_wipe_16 : decode cX9_wipe 16 = .ok (.ireturn, 1) := by decide +kernel
set_option maxRecDepth 20000 in
theorem ggX9_figure_X9_in : GoodIn wsX9_figure wsX9_in := goodIn_r _ [7] (by decide +kernel) (by decide +kernel)
set_option maxRecDepth 20000 in
theorem gX9_figure_X9_in : GoodIn wsX9_figure (va_wsS RX9 66 yX9_in wsX9_in) := goodIn_app (goodIn_of _ (by decide +kernel)) ggX9_figure_X9_in
theorem dX9_figure_0 : decode cX9_figure 0 = .ok (.aload_n 0, 1) := by decide +kernel
theorem dX9_figure_1 : decode cX9_figure 1 = .ok (.getfield 79, 3) := by decide +kernel
theorem dX9_figure_4 : decode cX9_figure 4 = .ok (.aload_n 0, 1) := by decide +kernel
theorem dX9_figure_5 : decode cX9_figure 5 = .ok (.getfield 76, 3) := by decide +kernel
theorem dX9_figure_8 : decode cX9_figure 8 = .ok (.if_icmp .ge 18, 3) := by decide +kernel
theorem dX9_figure_11 : decode cX9_figure 11 = .ok (.aload_n 0, 1) := by decide +kernel
theorem dX9_figure_12 : decode cX9_figure 12 = .ok (.getfield 7, 3) := by decide +kernel
theorem dX9_figure_15 : decode cX9_figure 15 = .ok (.aload_n 0, 1) := by decide +kernel
theorem dX9_figure_16 : decode cX9_figure 16 = .ok (.getfield 79, 3) := by decide +kernel
theorem dX9_figure_19 : decode cX9_figure 19 = .ok (.iaload, 1) := by decide +kernel
theorem dX9_figure_20 : decode cX9_figure 20 = .ok (.bipush 48, 2) := by decide +kernel
theorem dX9_figure_22 : decode cX9_figure 22 = .ok (.isub, 1) := by decide +kernel
theorem dX9_figure_23 : decode cX9_figure 23 = .ok (.goto 5, 3) := by decide +kernel
theorem dX9_figure_26 : decode cX9_figure 26 = .ok (.bipush (-9), 2) := by decide +kernel
theorem dX9_figure_28 : decode cX9_figure 28 = .ok (.istore_n 3, 1) := by decide +kernel
theorem dX9_figure_29 : decode cX9_figure 29 = .ok (.iload_n 3, 1) := by decide +kernel
theorem dX9_figure_30 : decode cX9_figure 30 = .ok (.i2l, 1) := by decide +kernel
theorem dX9_figure_31 : decode cX9_figure 31 = .ok (.iload_n 1, 1) := by decide +kernel
theorem dX9_figure_32 : decode cX9_figure 32 = .ok (.i2l, 1) := by decide +kernel
theorem dX9_figure_33 : decode cX9_figure 33 = .ok (.iload_n 2, 1) := by decide +kernel
theorem dX9_figure_34 : decode cX9_figure 34 = .ok (.i2l, 1) := by decide +kernel
theorem dX9_figure_35 : decode cX9_figure 35 = .ok (.invokestatic 66, 3) := by decide +kernel
theorem dX9_figure_38 : decode cX9_figure 38 = .ok (.ifCond .ne 6, 3) := by decide +kernel
theorem dX9_figure_41 : decode cX9_figure 41 = .ok (.bipush (-9), 2) := by decide +kernel
theorem dX9_figure_43 : decode cX9_figure 43 = .ok (.ireturn, 1) := by decide +kernel
theorem dX9_figure_44 : decode cX9_figure 44 = .ok (.aload_n 0, 1) := by decide +kernel
theorem dX9_figure_45 : decode cX9_figure 45 = .ok (.dup, 1) := by decide +kernel
theorem dX9_figure_46 : decode cX9_figure 46 = .ok (.getfield 79, 3) := by decide +kernel
theorem dX9_figure_49 : decode cX9_figure 49 = .ok (.iconst 1, 1) := by decide +kernel
theorem dX9_figure_50 : decode cX9_figure 50 = .ok (.iadd, 1) := by decide +kernel
theorem dX9_figure_51 : decode cX9_figure 51 = .ok (.putfield 79, 3) := by decide +kernel
theorem dX9_figure_54 : decode cX9_figure 54 = .ok (.iload_n 3, 1) := by decide +kernel
theorem dX9_figure_55 : decode cX9_figure 55 = .ok (.ireturn, 1) := by decide +kernel
set_option maxRecDepth 20000 in
theorem ggX9_readRow_X9_figure : GoodIn wsX9_readRow wsX9_figure := goodIn_r _ [15, 2, 4, 1, 16, 17, 14, 18, 19, 20, 21, 22, 23, 24, 25, 26, 27, 28, 29, 30, 31, 32, 33, 34, 35, 36, 37, 38, 39, 40, 41, 42, 43, 44] (by decide +kernel) (by decide +kernel)
set_option maxRecDepth 20000 in
theorem gX9_readRow_X9_figure : GoodIn wsX9_readRow (wsV RX9 85 RX9 yX9_figure wsX9_figure) := goodIn_app (goodIn_of _ (by decide +kernel)) ggX9_readRow_X9_figure
set_option maxRecDepth 20000 in
theorem ggX9_readRow_X9_in : GoodIn wsX9_readRow wsX9_in := goodIn_r _ [18] (by decide +kernel) (by decide +kernel)
set_option maxRecDepth 20000 in
theorem gX9_readRow_X9_in : GoodIn wsX9_readRow (va_wsS RX9 66 yX9_in wsX9_in) := goodIn_app (goodIn_of _ (by decide +kernel)) ggX9_readRow_X9_in
theorem dX9_readRow_0 : decode cX9_readRow 0 = .ok (.aload_n 0, 1) := by decide +kernel
theorem dX9_readRow_1 : decode cX9_readRow 1 = .ok (.getfield 7, 3) := by decide +kernel
theorem dX9_readRow_4 : decode cX9_readRow 4 = .ok (.aload_n 0, 1) := by decide +kernel
theorem dX9_readRow_5 : decode cX9_readRow 5 = .ok (.getfield 79, 3) := by decide +kernel
theorem dX9_readRow_8 : decode cX9_readRow 8 = .ok (.iaload, 1) := by decide +kernel
theorem dX9_readRow_9 : decode cX9_readRow 9 = .ok (.bipush 114, 2) := by decide +kernel
theorem dX9_readRow_11 : decode cX9_readRow 11 = .ok (.if_icmp .ne 11, 3) := by decide +kernel
theorem dX9_readRow_14 : decode cX9_readRow 14 = .ok (.aload_n 0, 1) := by decide +kernel
theorem dX9_readRow_15 : decode cX9_readRow 15 = .ok (.getfield 82, 3) := by decide +kernel
theorem dX9_readRow_18 : decode cX9_readRow 18 = .ok (.iconst 4, 1) := by decide +kernel
theorem dX9_readRow_19 : decode cX9_readRow 19 = .ok (.if_icmp .ne 5, 3) := by decide +kernel
theorem dX9_readRow_22 : decode cX9_readRow 22 = .ok (.iconst 0, 1) := by decide +kernel
theorem dX9_readRow_23 : decode cX9_readRow 23 = .ok (.ireturn, 1) := by decide +kernel
theorem dX9_readRow_24 : decode cX9_readRow 24 = .ok (.aload_n 0, 1) := by decide +kernel
theorem dX9_readRow_25 : decode cX9_readRow 25 = .ok (.dup, 1) := by decide +kernel
theorem dX9_readRow_26 : decode cX9_readRow 26 = .ok (.getfield 79, 3) := by decide +kernel
theorem dX9_readRow_29 : decode cX9_readRow 29 = .ok (.iconst 1, 1) := by decide +kernel
theorem dX9_readRow_30 : decode cX9_readRow 30 = .ok (.iadd, 1) := by decide +kernel
theorem dX9_readRow_31 : decode cX9_readRow 31 = .ok (.putfield 79, 3) := by decide +kernel
theorem dX9_readRow_34 : decode cX9_readRow 34 = .ok (.aload_n 0, 1) := by decide +kernel
theorem dX9_readRow_35 : decode cX9_readRow 35 = .ok (.iconst 1, 1) := by decide +kernel
theorem dX9_readRow_36 : decode cX9_readRow 36 = .ok (.bipush 9, 2) := by decide +kernel
theorem dX9_readRow_38 : decode cX9_readRow 38 = .ok (.invokevirtual 85, 3) := by decide +kernel
theorem dX9_readRow_41 : decode cX9_readRow 41 = .ok (.istore_n 1, 1) := by decide +kernel
theorem dX9_readRow_42 : decode cX9_readRow 42 = .ok (.iload_n 1, 1) := by decide +kernel
theorem dX9_readRow_43 : decode cX9_readRow 43 = .ok (.bipush (-9), 2) := by decide +kernel
theorem dX9_readRow_45 : decode cX9_readRow 45 = .ok (.if_icmp .ne 5, 3) := by decide +kernel
theorem dX9_readRow_48 : decode cX9_readRow 48 = .ok (.iconst 0, 1) := by decide +kernel
theorem dX9_readRow_49 : decode cX9_readRow 49 = .ok (.ireturn, 1) := by decide +kernel
theorem dX9_readRow_50 : decode cX9_readRow 50 = .ok (.iconst 0, 1) := by decide +kernel
theorem dX9_readRow_51 : decode cX9_readRow 51 = .ok (.istore_n 2, 1) := by decide +kernel
theorem dX9_readRow_52 : decode cX9_readRow 52 = .ok (.iconst 0, 1) := by decide +kernel
theorem dX9_readRow_53 : decode cX9_readRow 53 = .ok (.istore_n 3, 1) := by decide +kernel
theorem dX9_readRow_54 : decode cX9_readRow 54 = .ok (.iconst 1, 1) := by decide +kernel
theorem dX9_readRow_55 : decode cX9_readRow 55 = .ok (.istore 4, 2) := by decide +kernel
theorem dX9_readRow_57 : decode cX9_readRow 57 = .ok (.iload 4, 2) := by decide +kernel
theorem dX9_readRow_59 : decode cX9_readRow 59 = .ok (.ifCond .eq 163, 3) := by decide +kernel
theorem dX9_readRow_62 : decode cX9_readRow 62 = .ok (.aload_n 0, 1) := by decide +kernel
theorem dX9_readRow_63 : decode cX9_readRow 63 = .ok (.getfield 79, 3) := by decide +kernel
theorem dX9_readRow_66 : decode cX9_readRow 66 = .ok (.aload_n 0, 1) := by decide +kernel
theorem dX9_readRow_67 : decode cX9_readRow 67 = .ok (.getfield 76, 3) := by decide +kernel
theorem dX9_readRow_70 : decode cX9_readRow 70 = .ok (.if_icmp .ge 15, 3) := by decide +kernel
theorem dX9_readRow_73 : decode cX9_readRow 73 = .ok (.aload_n 0, 1) := by decide +kernel
theorem dX9_readRow_74 : decode cX9_readRow 74 = .ok (.getfield 7, 3) := by decide +kernel
theorem dX9_readRow_77 : decode cX9_readRow 77 = .ok (.aload_n 0, 1) := by decide +kernel
theorem dX9_readRow_78 : decode cX9_readRow 78 = .ok (.getfield 79, 3) := by decide +kernel
theorem dX9_readRow_81 : decode cX9_readRow 81 = .ok (.iaload, 1) := by decide +kernel
theorem dX9_readRow_82 : decode cX9_readRow 82 = .ok (.goto 4, 3) := by decide +kernel
theorem dX9_readRow_85 : decode cX9_readRow 85 = .ok (.iconst 0, 1) := by decide +kernel
theorem dX9_readRow_86 : decode cX9_readRow 86 = .ok (.istore 5, 2) := by decide +kernel
theorem dX9_readRow_88 : decode cX9_readRow 88 = .ok (.iconst 0, 1) := by decide +kernel
theorem dX9_readRow_89 : decode cX9_readRow 89 = .ok (.istore 4, 2) := by decide +kernel
theorem dX9_readRow_91 : decode cX9_readRow 91 = .ok (.iload 5, 2) := by decide +kernel
theorem dX9_readRow_93 : decode cX9_readRow 93 = .ok (.i2l, 1) := by decide +kernel
theorem dX9_readRow_94 : decode cX9_readRow 94 = .ok (.ldc2_w 89, 3) := by decide +kernel
theorem dX9_readRow_97 : decode cX9_readRow 97 = .ok (.ldc2_w 91, 3) := by decide +kernel
theorem dX9_readRow_100 : decode cX9_readRow 100 = .ok (.invokestatic 66, 3) := by decide +kernel
theorem dX9_readRow_103 : decode cX9_readRow 103 = .ok (.ifCond .eq 54, 3) := by decide +kernel
theorem dX9_readRow_106 : decode cX9_readRow 106 = .ok (.iload_n 2, 1) := by decide +kernel
theorem dX9_readRow_107 : decode cX9_readRow 107 = .ok (.bipush 9, 2) := by decide +kernel
theorem dX9_readRow_109 : decode cX9_readRow 109 = .ok (.if_icmp .ge 48, 3) := by decide +kernel
theorem dX9_readRow_112 : decode cX9_readRow 112 = .ok (.aload_n 0, 1) := by decide +kernel
theorem dX9_readRow_113 : decode cX9_readRow 113 = .ok (.getfield 26, 3) := by decide +kernel
theorem dX9_readRow_116 : decode cX9_readRow 116 = .ok (.bipush 9, 2) := by decide +kernel
theorem dX9_readRow_118 : decode cX9_readRow 118 = .ok (.aload_n 0, 1) := by decide +kernel
theorem dX9_readRow_119 : decode cX9_readRow 119 = .ok (.getfield 82, 3) := by decide +kernel
theorem dX9_readRow_122 : decode cX9_readRow 122 = .ok (.imul, 1) := by decide +kernel
theorem dX9_readRow_123 : decode cX9_readRow 123 = .ok (.iload_n 2, 1) := by decide +kernel
theorem dX9_readRow_124 : decode cX9_readRow 124 = .ok (.iadd, 1) := by decide +kernel
theorem dX9_readRow_125 : decode cX9_readRow 125 = .ok (.iload 5, 2) := by decide +kernel
theorem dX9_readRow_127 : decode cX9_readRow 127 = .ok (.bipush 48, 2) := by decide +kernel
theorem dX9_readRow_129 : decode cX9_readRow 129 = .ok (.isub, 1) := by decide +kernel
theorem dX9_readRow_130 : decode cX9_readRow 130 = .ok (.iastore, 1) := by decide +kernel
theorem dX9_readRow_131 : decode cX9_readRow 131 = .ok (.aload_n 0, 1) := by decide +kernel
theorem dX9_readRow_132 : decode cX9_readRow 132 = .ok (.getfield 29, 3) := by decide +kernel
theorem dX9_readRow_135 : decode cX9_readRow 135 = .ok (.bipush 9, 2) := by decide +kernel
theorem dX9_readRow_137 : decode cX9_readRow 137 = .ok (.aload_n 0, 1) := by decide +kernel
theorem dX9_readRow_138 : decode cX9_readRow 138 = .ok (.getfield 82, 3) := by decide +kernel
theorem dX9_readRow_141 : decode cX9_readRow 141 = .ok (.imul, 1) := by decide +kernel
theorem dX9_readRow_142 : decode cX9_readRow 142 = .ok (.iload_n 2, 1) := by decide +kernel
theorem dX9_readRow_143 : decode cX9_readRow 143 = .ok (.iadd, 1) := by decide +kernel
theorem dX9_readRow_144 : decode cX9_readRow 144 = .ok (.iconst 0, 1) := by decide +kernel
theorem dX9_readRow_145 : decode cX9_readRow 145 = .ok (.bastore, 1) := by decide +kernel
theorem dX9_readRow_146 : decode cX9_readRow 146 = .ok (.iinc 2 1, 3) := by decide +kernel
theorem dX9_readRow_149 : decode cX9_readRow 149 = .ok (.iconst 0, 1) := by decide +kernel
theorem dX9_readRow_150 : decode cX9_readRow 150 = .ok (.istore_n 3, 1) := by decide +kernel
theorem dX9_readRow_151 : decode cX9_readRow 151 = .ok (.iconst 1, 1) := by decide +kernel
theorem dX9_readRow_152 : decode cX9_readRow 152 = .ok (.istore 4, 2) := by decide +kernel
theorem dX9_readRow_154 : decode cX9_readRow 154 = .ok (.goto 46, 3) := by decide +kernel
theorem dX9_readRow_157 : decode cX9_readRow 157 = .ok (.iload 5, 2) := by decide +kernel
theorem dX9_readRow_159 : decode cX9_readRow 159 = .ok (.bipush 124, 2) := by decide +kernel
theorem dX9_readRow_161 : decode cX9_readRow 161 = .ok (.if_icmp .ne 39, 3) := by decide +kernel
theorem dX9_readRow_164 : decode cX9_readRow 164 = .ok (.iload_n 2, 1) := by decide +kernel
theorem dX9_readRow_165 : decode cX9_readRow 165 = .ok (.ifCond .le 35, 3) := by decide +kernel
theorem dX9_readRow_168 : decode cX9_readRow 168 = .ok (.iload_n 2, 1) := by decide +kernel
theorem dX9_readRow_169 : decode cX9_readRow 169 = .ok (.bipush 9, 2) := by decide +kernel
theorem dX9_readRow_171 : decode cX9_readRow 171 = .ok (.if_icmp .ge 29, 3) := by decide +kernel
theorem dX9_readRow_174 : decode cX9_readRow 174 = .ok (.iload_n 3, 1) := by decide +kernel
theorem dX9_readRow_175 : decode cX9_readRow 175 = .ok (.ifCond .ne 25, 3) := by decide +kernel
theorem dX9_readRow_178 : decode cX9_readRow 178 = .ok (.aload_n 0, 1) := by decide +kernel
theorem dX9_readRow_179 : decode cX9_readRow 179 = .ok (.getfield 29, 3) := by decide +kernel
theorem dX9_readRow_182 : decode cX9_readRow 182 = .ok (.bipush 9, 2) := by decide +kernel
theorem dX9_readRow_184 : decode cX9_readRow 184 = .ok (.aload_n 0, 1) := by decide +kernel
theorem dX9_readRow_185 : decode cX9_readRow 185 = .ok (.getfield 82, 3) := by decide +kernel
theorem dX9_readRow_188 : decode cX9_readRow 188 = .ok (.imul, 1) := by decide +kernel
theorem dX9_readRow_189 : decode cX9_readRow 189 = .ok (.iload_n 2, 1) := by decide +kernel
theorem dX9_readRow_190 : decode cX9_readRow 190 = .ok (.iadd, 1) := by decide +kernel
theorem dX9_readRow_191 : decode cX9_readRow 191 = .ok (.iconst 1, 1) := by decide +kernel
theorem dX9_readRow_192 : decode cX9_readRow 192 = .ok (.isub, 1) := by decide +kernel
theorem dX9_readRow_193 : decode cX9_readRow 193 = .ok (.iconst 1, 1) := by decide +kernel
theorem dX9_readRow_194 : decode cX9_readRow 194 = .ok (.bastore, 1) := by decide +kernel
theorem dX9_readRow_195 : decode cX9_readRow 195 = .ok (.iconst 1, 1) := by decide +kernel
theorem dX9_readRow_196 : decode cX9_readRow 196 = .ok (.istore_n 3, 1) := by decide +kernel
theorem dX9_readRow_197 : decode cX9_readRow 197 = .ok (.iconst 1, 1) := by decide +kernel
theorem dX9_readRow_198 : decode cX9_readRow 198 = .ok (.istore 4, 2) := by decide +kernel
theorem dX9_readRow_200 : decode cX9_readRow 200 = .ok (.aload_n 0, 1) := by decide +kernel
theorem dX9_readRow_201 : decode cX9_readRow 201 = .ok (.dup, 1) := by decide +kernel
theorem dX9_readRow_202 : decode cX9_readRow 202 = .ok (.getfield 79, 3) := by decide +kernel
theorem dX9_readRow_205 : decode cX9_readRow 205 = .ok (.iload 4, 2) := by decide +kernel
theorem dX9_readRow_207 : decode cX9_readRow 207 = .ok (.ifCond .eq 7, 3) := by decide +kernel
theorem dX9_readRow_210 : decode cX9_readRow 210 = .ok (.iconst 1, 1) := by decide +kernel
theorem dX9_readRow_211 : decode cX9_readRow 211 = .ok (.goto 4, 3) := by decide +kernel
theorem dX9_readRow_214 : decode cX9_readRow 214 = .ok (.iconst 0, 1) := by decide +kernel
theorem dX9_readRow_215 : decode cX9_readRow 215 = .ok (.iadd, 1) := by decide +kernel
theorem dX9_readRow_216 : decode cX9_readRow 216 = .ok (.putfield 79, 3) := by decide +kernel
theorem dX9_readRow_219 : decode cX9_readRow 219 = .ok (.goto (-162), 3) := by decide +kernel
theorem dX9_readRow_222 : decode cX9_readRow 222 = .ok (.iload_n 2, 1) := by decide +kernel
theorem dX9_readRow_223 : decode cX9_readRow 223 = .ok (.ifCond .eq 7, 3) := by decide +kernel
theorem dX9_readRow_226 : decode cX9_readRow 226 = .ok (.iload_n 3, 1) := by decide +kernel
theorem dX9_readRow_227 : decode cX9_readRow 227 = .ok (.ifCond .eq 5, 3) := by decide +kernel
theorem dX9_readRow_230 : decode cX9_readRow 230 = .ok (.iconst 0, 1) := by decide +kernel
theorem dX9_readRow_231 : decode cX9_readRow 231 = .ok (.ireturn, 1) := by decide +kernel
theorem dX9_readRow_232 : decode cX9_readRow 232 = .ok (.aload_n 0, 1) := by decide +kernel
theorem dX9_readRow_233 : decode cX9_readRow 233 = .ok (.getfield 32, 3) := by decide +kernel
theorem dX9_readRow_236 : decode cX9_readRow 236 = .ok (.iconst 0, 1) := by decide +kernel
theorem dX9_readRow_237 : decode cX9_readRow 237 = .ok (.aload_n 0, 1) := by decide +kernel
theorem dX9_readRow_238 : decode cX9_readRow 238 = .ok (.getfield 82, 3) := by decide +kernel
theorem dX9_readRow_241 : decode cX9_readRow 241 = .ok (.iadd, 1) := by decide +kernel
theorem dX9_readRow_242 : decode cX9_readRow 242 = .ok (.iload_n 1, 1) := by decide +kernel
theorem dX9_readRow_243 : decode cX9_readRow 243 = .ok (.iastore, 1) := by decide +kernel
theorem dX9_readRow_244 : decode cX9_readRow 244 = .ok (.aload_n 0, 1) := by decide +kernel
theorem dX9_readRow_245 : decode cX9_readRow 245 = .ok (.getfield 23, 3) := by decide +kernel
theorem dX9_readRow_248 : decode cX9_readRow 248 = .ok (.aload_n 0, 1) := by decide +kernel
theorem dX9_readRow_249 : decode cX9_readRow 249 = .ok (.getfield 82, 3) := by decide +kernel
theorem dX9_readRow_252 : decode cX9_readRow 252 = .ok (.iload_n 2, 1) := by decide +kernel
theorem dX9_readRow_253 : decode cX9_readRow 253 = .ok (.iastore, 1) := by decide +kernel
theorem dX9_readRow_254 : decode cX9_readRow 254 = .ok (.aload_n 0, 1) := by decide +kernel
theorem dX9_readRow_255 : decode cX9_readRow 255 = .ok (.dup, 1) := by decide +kernel
theorem dX9_readRow_256 : decode cX9_readRow 256 = .ok (.getfield 82, 3) := by decide +kernel
theorem dX9_readRow_259 : decode cX9_readRow 259 = .ok (.iconst 1, 1) := by decide +kernel
theorem dX9_readRow_260 : decode cX9_readRow 260 = .ok (.iadd, 1) := by decide +kernel
theorem dX9_readRow_261 : decode cX9_readRow 261 = .ok (.putfield 82, 3) := by decide +kernel
theorem dX9_readRow_264 : decode cX9_readRow 264 = .ok (.iconst 1, 1) := by decide +kernel
theorem dX9_readRow_265 : decode cX9_readRow 265 = .ok (.ireturn, 1) := by decide +kernel
set_option maxRecDepth 20000 in
theorem ggX9_readHall_X9_readRow : GoodIn wsX9_readHall wsX9_readRow := goodIn_r _ [10, 5, 1, 2, 4, 11, 12, 13, 14, 3, 15, 16, 17, 18, 9, 19, 20, 21, 22, 23, 24, 25, 26, 27, 28, 29, 30, 31, 32, 33, 34, 35, 36, 37, 38, 39, 40, 41, 42, 43, 44, 45, 46, 47, 48] (by decide +kernel) (by decide +kernel)
set_option maxRecDepth 20000 in
theorem gX9_readHall_X9_readRow : GoodIn wsX9_readHall (wsV RX9 93 RX9 yX9_readRow wsX9_readRow) := goodIn_app (goodIn_of _ (by decide +kernel)) ggX9_readHall_X9_readRow
theorem dX9_readHall_0 : decode cX9_readHall 0 = .ok (.aload_n 0, 1) := by decide +kernel
theorem dX9_readHall_1 : decode cX9_readHall 1 = .ok (.iconst 0, 1) := by decide +kernel
theorem dX9_readHall_2 : decode cX9_readHall 2 = .ok (.putfield 79, 3) := by decide +kernel
theorem dX9_readHall_5 : decode cX9_readHall 5 = .ok (.aload_n 0, 1) := by decide +kernel
theorem dX9_readHall_6 : decode cX9_readHall 6 = .ok (.iconst 0, 1) := by decide +kernel
theorem dX9_readHall_7 : decode cX9_readHall 7 = .ok (.putfield 82, 3) := by decide +kernel
theorem dX9_readHall_10 : decode cX9_readHall 10 = .ok (.iconst 0, 1) := by decide +kernel
theorem dX9_readHall_11 : decode cX9_readHall 11 = .ok (.istore_n 1, 1) := by decide +kernel
theorem dX9_readHall_12 : decode cX9_readHall 12 = .ok (.iload_n 1, 1) := by decide +kernel
theorem dX9_readHall_13 : decode cX9_readHall 13 = .ok (.sipush 229, 3) := by decide +kernel
theorem dX9_readHall_16 : decode cX9_readHall 16 = .ok (.if_icmp .ge 16, 3) := by decide +kernel
theorem dX9_readHall_19 : decode cX9_readHall 19 = .ok (.aload_n 0, 1) := by decide +kernel
theorem dX9_readHall_20 : decode cX9_readHall 20 = .ok (.getfield 32, 3) := by decide +kernel
theorem dX9_readHall_23 : decode cX9_readHall 23 = .ok (.iload_n 1, 1) := by decide +kernel
theorem dX9_readHall_24 : decode cX9_readHall 24 = .ok (.iconst 0, 1) := by decide +kernel
theorem dX9_readHall_25 : decode cX9_readHall 25 = .ok (.iastore, 1) := by decide +kernel
theorem dX9_readHall_26 : decode cX9_readHall 26 = .ok (.iinc 1 1, 3) := by decide +kernel
theorem dX9_readHall_29 : decode cX9_readHall 29 = .ok (.goto (-17), 3) := by decide +kernel
theorem dX9_readHall_32 : decode cX9_readHall 32 = .ok (.aload_n 0, 1) := by decide +kernel
theorem dX9_readHall_33 : decode cX9_readHall 33 = .ok (.getfield 76, 3) := by decide +kernel
theorem dX9_readHall_36 : decode cX9_readHall 36 = .ok (.ifCond .eq 14, 3) := by decide +kernel
theorem dX9_readHall_39 : decode cX9_readHall 39 = .ok (.aload_n 0, 1) := by decide +kernel
theorem dX9_readHall_40 : decode cX9_readHall 40 = .ok (.getfield 7, 3) := by decide +kernel
theorem dX9_readHall_43 : decode cX9_readHall 43 = .ok (.iconst 0, 1) := by decide +kernel
theorem dX9_readHall_44 : decode cX9_readHall 44 = .ok (.iaload, 1) := by decide +kernel
theorem dX9_readHall_45 : decode cX9_readHall 45 = .ok (.bipush 72, 2) := by decide +kernel
theorem dX9_readHall_47 : decode cX9_readHall 47 = .ok (.if_icmp .eq 5, 3) := by decide +kernel
theorem dX9_readHall_50 : decode cX9_readHall 50 = .ok (.iconst 0, 1) := by decide +kernel
theorem dX9_readHall_51 : decode cX9_readHall 51 = .ok (.ireturn, 1) := by decide +kernel
theorem dX9_readHall_52 : decode cX9_readHall 52 = .ok (.aload_n 0, 1) := by decide +kernel
theorem dX9_readHall_53 : decode cX9_readHall 53 = .ok (.iconst 1, 1) := by decide +kernel
theorem dX9_readHall_54 : decode cX9_readHall 54 = .ok (.putfield 79, 3) := by decide +kernel
theorem dX9_readHall_57 : decode cX9_readHall 57 = .ok (.aload_n 0, 1) := by decide +kernel
theorem dX9_readHall_58 : decode cX9_readHall 58 = .ok (.getfield 79, 3) := by decide +kernel
theorem dX9_readHall_61 : decode cX9_readHall 61 = .ok (.aload_n 0, 1) := by decide +kernel
theorem dX9_readHall_62 : decode cX9_readHall 62 = .ok (.getfield 76, 3) := by decide +kernel
theorem dX9_readHall_65 : decode cX9_readHall 65 = .ok (.if_icmp .ge 15, 3) := by decide +kernel
theorem dX9_readHall_68 : decode cX9_readHall 68 = .ok (.aload_n 0, 1) := by decide +kernel
theorem dX9_readHall_69 : decode cX9_readHall 69 = .ok (.invokevirtual 93, 3) := by decide +kernel
theorem dX9_readHall_72 : decode cX9_readHall 72 = .ok (.ifCond .ne (-15), 3) := by decide +kernel
theorem dX9_readHall_75 : decode cX9_readHall 75 = .ok (.aload_n 0, 1) := by decide +kernel
theorem dX9_readHall_76 : decode cX9_readHall 76 = .ok (.getfield 79, 3) := by decide +kernel
theorem dX9_readHall_79 : decode cX9_readHall 79 = .ok (.ireturn, 1) := by decide +kernel
theorem dX9_readHall_80 : decode cX9_readHall 80 = .ok (.bipush (-9), 2) := by decide +kernel
theorem dX9_readHall_82 : decode cX9_readHall 82 = .ok (.ireturn, 1) := by decide +kernel
set_option maxRecDepth 20000 in
theorem ggX9_fault_X9_readHall : GoodIn wsX9_fault wsX9_readHall := goodIn_r _ [6, 7, 8, 9, 10, 11, 12, 13, 14, 5, 15, 16, 17, 18, 19, 20, 21, 22, 23, 24, 25, 26, 27, 28, 29, 30, 31, 32, 33, 34, 35, 36, 37, 38, 39, 40, 41, 42, 43, 44, 45, 46, 47, 48, 49, 50, 51, 52, 53] (by decide +kernel) (by decide +kernel)
set_option maxRecDepth 20000 in
theorem gX9_fault_X9_readHall : GoodIn wsX9_fault (wsV RX9 97 RX9 yX9_readHall wsX9_readHall) := goodIn_app (goodIn_of _ (by decide +kernel)) ggX9_fault_X9_readHall
theorem dX9_fault_0 : decode cX9_fault 0 = .ok (.aload_n 0, 1) := by decide +kernel
theorem dX9_fault_1 : decode cX9_fault 1 = .ok (.iconst 0, 1) := by decide +kernel
theorem dX9_fault_2 : decode cX9_fault 2 = .ok (.putfield 60, 3) := by decide +kernel
theorem dX9_fault_5 : decode cX9_fault 5 = .ok (.aload_n 0, 1) := by decide +kernel
theorem dX9_fault_6 : decode cX9_fault 6 = .ok (.invokevirtual 97, 3) := by decide +kernel
theorem dX9_fault_9 : decode cX9_fault 9 = .ok (.ireturn, 1) := by decide +kernel
set_option maxRecDepth 20000 in
theorem ggX9_hall_X9_readHall : GoodIn wsX9_hall wsX9_readHall := goodIn_r _ [18, 19, 2, 10, 20, 21, 22, 23, 24, 17, 25, 26, 27, 7, 9, 5, 28, 29, 30, 31, 32, 33, 34, 38, 39, 40, 41, 42, 43, 44, 45, 46, 47, 48, 49, 50, 51, 52, 53, 54, 55, 56, 57, 58, 59, 60, 61, 62, 63] (by decide +kernel) (by decide +kernel)
set_option maxRecDepth 20000 in
theorem gX9_hall_X9_readHall : GoodIn wsX9_hall (wsV RX9 97 RX9 yX9_readHall wsX9_readHall) := goodIn_app (goodIn_of _ (by decide +kernel)) ggX9_hall_X9_readHall
set_option maxRecDepth 20000 in
theorem ggX9_hall_X9_copy : GoodIn wsX9_hall wsX9_copy := goodIn_r _ [37] (by decide +kernel) (by decide +kernel)
set_option maxRecDepth 20000 in
theorem gX9_hall_X9_copy : GoodIn wsX9_hall (va_wsS RX9 101 yX9_copy wsX9_copy) := goodIn_app (goodIn_of _ (by decide +kernel)) ggX9_hall_X9_copy
theorem dX9_hall_0 : decode cX9_hall 0 = .ok (.aload_n 0, 1) := by decide +kernel
theorem dX9_hall_1 : decode cX9_hall 1 = .ok (.iconst 0, 1) := by decide +kernel
theorem dX9_hall_2 : decode cX9_hall 2 = .ok (.putfield 60, 3) := by decide +kernel
theorem dX9_hall_5 : decode cX9_hall 5 = .ok (.aload_n 0, 1) := by decide +kernel
theorem dX9_hall_6 : decode cX9_hall 6 = .ok (.invokevirtual 97, 3) := by decide +kernel
theorem dX9_hall_9 : decode cX9_hall 9 = .ok (.bipush (-9), 2) := by decide +kernel
theorem dX9_hall_11 : decode cX9_hall 11 = .ok (.if_icmp .eq 6, 3) := by decide +kernel
theorem dX9_hall_14 : decode cX9_hall 14 = .ok (.bipush (-3), 2) := by decide +kernel
theorem dX9_hall_16 : decode cX9_hall 16 = .ok (.ireturn, 1) := by decide +kernel
theorem dX9_hall_17 : decode cX9_hall 17 = .ok (.aload_n 0, 1) := by decide +kernel
theorem dX9_hall_18 : decode cX9_hall 18 = .ok (.aload_n 0, 1) := by decide +kernel
theorem dX9_hall_19 : decode cX9_hall 19 = .ok (.getfield 82, 3) := by decide +kernel
theorem dX9_hall_22 : decode cX9_hall 22 = .ok (.putfield 63, 3) := by decide +kernel
theorem dX9_hall_25 : decode cX9_hall 25 = .ok (.iconst 0, 1) := by decide +kernel
theorem dX9_hall_26 : decode cX9_hall 26 = .ok (.istore_n 1, 1) := by decide +kernel
theorem dX9_hall_27 : decode cX9_hall 27 = .ok (.iload_n 1, 1) := by decide +kernel
theorem dX9_hall_28 : decode cX9_hall 28 = .ok (.iconst 4, 1) := by decide +kernel
theorem dX9_hall_29 : decode cX9_hall 29 = .ok (.if_icmp .ge 21, 3) := by decide +kernel
theorem dX9_hall_32 : decode cX9_hall 32 = .ok (.aload_n 0, 1) := by decide +kernel
theorem dX9_hall_33 : decode cX9_hall 33 = .ok (.getfield 13, 3) := by decide +kernel
theorem dX9_hall_36 : decode cX9_hall 36 = .ok (.iload_n 1, 1) := by decide +kernel
theorem dX9_hall_37 : decode cX9_hall 37 = .ok (.aload_n 0, 1) := by decide +kernel
theorem dX9_hall_38 : decode cX9_hall 38 = .ok (.getfield 23, 3) := by decide +kernel
theorem dX9_hall_41 : decode cX9_hall 41 = .ok (.iload_n 1, 1) := by decide +kernel
theorem dX9_hall_42 : decode cX9_hall 42 = .ok (.iaload, 1) := by decide +kernel
theorem dX9_hall_43 : decode cX9_hall 43 = .ok (.iastore, 1) := by decide +kernel
theorem dX9_hall_44 : decode cX9_hall 44 = .ok (.iinc 1 1, 3) := by decide +kernel
theorem dX9_hall_47 : decode cX9_hall 47 = .ok (.goto (-20), 3) := by decide +kernel
theorem dX9_hall_50 : decode cX9_hall 50 = .ok (.iconst 0, 1) := by decide +kernel
theorem dX9_hall_51 : decode cX9_hall 51 = .ok (.istore_n 1, 1) := by decide +kernel
theorem dX9_hall_52 : decode cX9_hall 52 = .ok (.iload_n 1, 1) := by decide +kernel
theorem dX9_hall_53 : decode cX9_hall 53 = .ok (.bipush 36, 2) := by decide +kernel
theorem dX9_hall_55 : decode cX9_hall 55 = .ok (.if_icmp .ge 33, 3) := by decide +kernel
theorem dX9_hall_58 : decode cX9_hall 58 = .ok (.aload_n 0, 1) := by decide +kernel
theorem dX9_hall_59 : decode cX9_hall 59 = .ok (.getfield 16, 3) := by decide +kernel
theorem dX9_hall_62 : decode cX9_hall 62 = .ok (.iload_n 1, 1) := by decide +kernel
theorem dX9_hall_63 : decode cX9_hall 63 = .ok (.aload_n 0, 1) := by decide +kernel
theorem dX9_hall_64 : decode cX9_hall 64 = .ok (.getfield 26, 3) := by decide +kernel
theorem dX9_hall_67 : decode cX9_hall 67 = .ok (.iload_n 1, 1) := by decide +kernel
theorem dX9_hall_68 : decode cX9_hall 68 = .ok (.iaload, 1) := by decide +kernel
theorem dX9_hall_69 : decode cX9_hall 69 = .ok (.iastore, 1) := by decide +kernel
theorem dX9_hall_70 : decode cX9_hall 70 = .ok (.aload_n 0, 1) := by decide +kernel
theorem dX9_hall_71 : decode cX9_hall 71 = .ok (.getfield 19, 3) := by decide +kernel
theorem dX9_hall_74 : decode cX9_hall 74 = .ok (.iload_n 1, 1) := by decide +kernel
theorem dX9_hall_75 : decode cX9_hall 75 = .ok (.aload_n 0, 1) := by decide +kernel
theorem dX9_hall_76 : decode cX9_hall 76 = .ok (.getfield 29, 3) := by decide +kernel
theorem dX9_hall_79 : decode cX9_hall 79 = .ok (.iload_n 1, 1) := by decide +kernel
theorem dX9_hall_80 : decode cX9_hall 80 = .ok (.baload, 1) := by decide +kernel
theorem dX9_hall_81 : decode cX9_hall 81 = .ok (.bastore, 1) := by decide +kernel
theorem dX9_hall_82 : decode cX9_hall 82 = .ok (.iinc 1 1, 3) := by decide +kernel
theorem dX9_hall_85 : decode cX9_hall 85 = .ok (.goto (-33), 3) := by decide +kernel
theorem dX9_hall_88 : decode cX9_hall 88 = .ok (.aload_n 0, 1) := by decide +kernel
theorem dX9_hall_89 : decode cX9_hall 89 = .ok (.getfield 32, 3) := by decide +kernel
theorem dX9_hall_92 : decode cX9_hall 92 = .ok (.aload_n 0, 1) := by decide +kernel
theorem dX9_hall_93 : decode cX9_hall 93 = .ok (.getfield 35, 3) := by decide +kernel
theorem dX9_hall_96 : decode cX9_hall 96 = .ok (.invokestatic 101, 3) := by decide +kernel
theorem dX9_hall_99 : decode cX9_hall 99 = .ok (.aload_n 0, 1) := by decide +kernel
theorem dX9_hall_100 : decode cX9_hall 100 = .ok (.iconst 0, 1) := by decide +kernel
theorem dX9_hall_101 : decode cX9_hall 101 = .ok (.putfield 105, 3) := by decide +kernel
theorem dX9_hall_104 : decode cX9_hall 104 = .ok (.aload_n 0, 1) := by decide +kernel
theorem dX9_hall_105 : decode cX9_hall 105 = .ok (.getfield 47, 3) := by decide +kernel
theorem dX9_hall_108 : decode cX9_hall 108 = .ok (.iconst 0, 1) := by decide +kernel
theorem dX9_hall_109 : decode cX9_hall 109 = .ok (.iconst 0, 1) := by decide +kernel
theorem dX9_hall_110 : decode cX9_hall 110 = .ok (.bastore, 1) := by decide +kernel
theorem dX9_hall_111 : decode cX9_hall 111 = .ok (.aload_n 0, 1) := by decide +kernel
theorem dX9_hall_112 : decode cX9_hall 112 = .ok (.getfield 47, 3) := by decide +kernel
theorem dX9_hall_115 : decode cX9_hall 115 = .ok (.iconst 1, 1) := by decide +kernel
theorem dX9_hall_116 : decode cX9_hall 116 = .ok (.iconst 0, 1) := by decide +kernel
theorem dX9_hall_117 : decode cX9_hall 117 = .ok (.bastore, 1) := by decide +kernel
theorem dX9_hall_118 : decode cX9_hall 118 = .ok (.aload_n 0, 1) := by decide +kernel
theorem dX9_hall_119 : decode cX9_hall 119 = .ok (.getfield 63, 3) := by decide +kernel
theorem dX9_hall_122 : decode cX9_hall 122 = .ok (.ireturn, 1) := by decide +kernel
theorem dX9_isFree_0 : decode cX9_isFree 0 = .ok (.aload_n 0, 1) := by decide +kernel
theorem dX9_isFree_1 : decode cX9_isFree 1 = .ok (.bipush 13, 2) := by decide +kernel
theorem dX9_isFree_3 : decode cX9_isFree 3 = .ok (.bipush 9, 2) := by decide +kernel
theorem dX9_isFree_5 : decode cX9_isFree 5 = .ok (.iload_n 1, 1) := by decide +kernel
theorem dX9_isFree_6 : decode cX9_isFree 6 = .ok (.imul, 1) := by decide +kernel
theorem dX9_isFree_7 : decode cX9_isFree 7 = .ok (.iadd, 1) := by decide +kernel
theorem dX9_isFree_8 : decode cX9_isFree 8 = .ok (.iload_n 2, 1) := by decide +kernel
theorem dX9_isFree_9 : decode cX9_isFree 9 = .ok (.iadd, 1) := by decide +kernel
theorem dX9_isFree_10 : decode cX9_isFree 10 = .ok (.iaload, 1) := by decide +kernel
theorem dX9_isFree_11 : decode cX9_isFree 11 = .ok (.ifCond .ne 7, 3) := by decide +kernel
theorem dX9_isFree_14 : decode cX9_isFree 14 = .ok (.iconst 1, 1) := by decide +kernel
theorem dX9_isFree_15 : decode cX9_isFree 15 = .ok (.goto 4, 3) := by decide +kernel
theorem dX9_isFree_18 : decode cX9_isFree 18 = .ok (.iconst 0, 1) := by decide +kernel
theorem dX9_isFree_19 : decode cX9_isFree 19 = .ok (.ireturn, 1) := by decide +kernel
set_option maxRecDepth 20000 in
theorem ggX9_isLone_X9_isFree : GoodIn wsX9_isLone wsX9_isFree := goodIn_r _ [6] (by decide +kernel) (by decide +kernel)
set_option maxRecDepth 20000 in
theorem gX9_isLone_X9_isFree : GoodIn wsX9_isLone (va_wsS RX9 108 yX9_isFree wsX9_isFree) := goodIn_app (goodIn_of _ (by decide +kernel)) ggX9_isLone_X9_isFree
theorem dX9_isLone_0 : decode cX9_isLone 0 = .ok (.iload_n 3, 1) := by decide +kernel
theorem dX9_isLone_1 : decode cX9_isLone 1 = .ok (.ifCond .le 34, 3) := by decide +kernel
theorem dX9_isLone_4 : decode cX9_isLone 4 = .ok (.aload_n 0, 1) := by decide +kernel
theorem dX9_isLone_5 : decode cX9_isLone 5 = .ok (.getfield 19, 3) := by decide +kernel
theorem dX9_isLone_8 : decode cX9_isLone 8 = .ok (.bipush 9, 2) := by decide +kernel
theorem dX9_isLone_10 : decode cX9_isLone 10 = .ok (.iload_n 2, 1) := by decide +kernel
theorem dX9_isLone_11 : decode cX9_isLone 11 = .ok (.imul, 1) := by decide +kernel
theorem dX9_isLone_12 : decode cX9_isLone 12 = .ok (.iload_n 3, 1) := by decide +kernel
theorem dX9_isLone_13 : decode cX9_isLone 13 = .ok (.iadd, 1) := by decide +kernel
theorem dX9_isLone_14 : decode cX9_isLone 14 = .ok (.iconst 1, 1) := by decide +kernel
theorem dX9_isLone_15 : decode cX9_isLone 15 = .ok (.isub, 1) := by decide +kernel
theorem dX9_isLone_16 : decode cX9_isLone 16 = .ok (.baload, 1) := by decide +kernel
theorem dX9_isLone_17 : decode cX9_isLone 17 = .ok (.ifCond .ne 18, 3) := by decide +kernel
theorem dX9_isLone_20 : decode cX9_isLone 20 = .ok (.aload_n 1, 1) := by decide +kernel
theorem dX9_isLone_21 : decode cX9_isLone 21 = .ok (.iload_n 2, 1) := by decide +kernel
theorem dX9_isLone_22 : decode cX9_isLone 22 = .ok (.iload_n 3, 1) := by decide +kernel
theorem dX9_isLone_23 : decode cX9_isLone 23 = .ok (.iconst 1, 1) := by decide +kernel
theorem dX9_isLone_24 : decode cX9_isLone 24 = .ok (.isub, 1) := by decide +kernel
theorem dX9_isLone_25 : decode cX9_isLone 25 = .ok (.invokestatic 108, 3) := by decide +kernel
theorem dX9_isLone_28 : decode cX9_isLone 28 = .ok (.ifCond .eq 7, 3) := by decide +kernel
theorem dX9_isLone_31 : decode cX9_isLone 31 = .ok (.iconst 1, 1) := by decide +kernel
theorem dX9_isLone_32 : decode cX9_isLone 32 = .ok (.goto 4, 3) := by decide +kernel
theorem dX9_isLone_35 : decode cX9_isLone 35 = .ok (.iconst 0, 1) := by decide +kernel
theorem dX9_isLone_36 : decode cX9_isLone 36 = .ok (.istore 4, 2) := by decide +kernel
theorem dX9_isLone_38 : decode cX9_isLone 38 = .ok (.iload_n 3, 1) := by decide +kernel
theorem dX9_isLone_39 : decode cX9_isLone 39 = .ok (.iconst 1, 1) := by decide +kernel
theorem dX9_isLone_40 : decode cX9_isLone 40 = .ok (.iadd, 1) := by decide +kernel
theorem dX9_isLone_41 : decode cX9_isLone 41 = .ok (.aload_n 0, 1) := by decide +kernel
theorem dX9_isLone_42 : decode cX9_isLone 42 = .ok (.getfield 13, 3) := by decide +kernel
theorem dX9_isLone_45 : decode cX9_isLone 45 = .ok (.iload_n 2, 1) := by decide +kernel
theorem dX9_isLone_46 : decode cX9_isLone 46 = .ok (.iaload, 1) := by decide +kernel
theorem dX9_isLone_47 : decode cX9_isLone 47 = .ok (.if_icmp .ge 32, 3) := by decide +kernel
theorem dX9_isLone_50 : decode cX9_isLone 50 = .ok (.aload_n 0, 1) := by decide +kernel
theorem dX9_isLone_51 : decode cX9_isLone 51 = .ok (.getfield 19, 3) := by decide +kernel
theorem dX9_isLone_54 : decode cX9_isLone 54 = .ok (.bipush 9, 2) := by decide +kernel
theorem dX9_isLone_56 : decode cX9_isLone 56 = .ok (.iload_n 2, 1) := by decide +kernel
theorem dX9_isLone_57 : decode cX9_isLone 57 = .ok (.imul, 1) := by decide +kernel
theorem dX9_isLone_58 : decode cX9_isLone 58 = .ok (.iload_n 3, 1) := by decide +kernel
theorem dX9_isLone_59 : decode cX9_isLone 59 = .ok (.iadd, 1) := by decide +kernel
theorem dX9_isLone_60 : decode cX9_isLone 60 = .ok (.baload, 1) := by decide +kernel
theorem dX9_isLone_61 : decode cX9_isLone 61 = .ok (.ifCond .ne 18, 3) := by decide +kernel
theorem dX9_isLone_64 : decode cX9_isLone 64 = .ok (.aload_n 1, 1) := by decide +kernel
theorem dX9_isLone_65 : decode cX9_isLone 65 = .ok (.iload_n 2, 1) := by decide +kernel
theorem dX9_isLone_66 : decode cX9_isLone 66 = .ok (.iload_n 3, 1) := by decide +kernel
theorem dX9_isLone_67 : decode cX9_isLone 67 = .ok (.iconst 1, 1) := by decide +kernel
theorem dX9_isLone_68 : decode cX9_isLone 68 = .ok (.iadd, 1) := by decide +kernel
theorem dX9_isLone_69 : decode cX9_isLone 69 = .ok (.invokestatic 108, 3) := by decide +kernel
theorem dX9_isLone_72 : decode cX9_isLone 72 = .ok (.ifCond .eq 7, 3) := by decide +kernel
theorem dX9_isLone_75 : decode cX9_isLone 75 = .ok (.iconst 1, 1) := by decide +kernel
theorem dX9_isLone_76 : decode cX9_isLone 76 = .ok (.goto 4, 3) := by decide +kernel
theorem dX9_isLone_79 : decode cX9_isLone 79 = .ok (.iconst 0, 1) := by decide +kernel
theorem dX9_isLone_80 : decode cX9_isLone 80 = .ok (.istore 5, 2) := by decide +kernel
theorem dX9_isLone_82 : decode cX9_isLone 82 = .ok (.aload_n 1, 1) := by decide +kernel
theorem dX9_isLone_83 : decode cX9_isLone 83 = .ok (.iload_n 2, 1) := by decide +kernel
theorem dX9_isLone_84 : decode cX9_isLone 84 = .ok (.iload_n 3, 1) := by decide +kernel
theorem dX9_isLone_85 : decode cX9_isLone 85 = .ok (.invokestatic 108, 3) := by decide +kernel
theorem dX9_isLone_88 : decode cX9_isLone 88 = .ok (.ifCond .eq 17, 3) := by decide +kernel
theorem dX9_isLone_91 : decode cX9_isLone 91 = .ok (.iload 4, 2) := by decide +kernel
theorem dX9_isLone_93 : decode cX9_isLone 93 = .ok (.ifCond .ne 12, 3) := by decide +kernel
theorem dX9_isLone_96 : decode cX9_isLone 96 = .ok (.iload 5, 2) := by decide +kernel
theorem dX9_isLone_98 : decode cX9_isLone 98 = .ok (.ifCond .ne 7, 3) := by decide +kernel
theorem dX9_isLone_101 : decode cX9_isLone 101 = .ok (.iconst 1, 1) := by decide +kernel
theorem dX9_isLone_102 : decode cX9_isLone 102 = .ok (.goto 4, 3) := by decide +kernel
theorem dX9_isLone_105 : decode cX9_isLone 105 = .ok (.iconst 0, 1) := by decide +kernel
theorem dX9_isLone_106 : decode cX9_isLone 106 = .ok (.ireturn, 1) := by decide +kernel
set_option maxRecDepth 20000 in
theorem ggX9_loneIn_X9_isLone : GoodIn wsX9_loneIn wsX9_isLone := goodIn_r _ [6, 7, 1, 8, 9, 5, 10, 11, 12, 13, 14, 15, 16, 17, 18, 19, 20, 21, 22, 23, 24, 25, 26, 27, 28, 29, 30, 31, 32, 33, 34, 35, 36] (by decide +kernel) (by decide +kernel)
set_option maxRecDepth 20000 in
theorem gX9_loneIn_X9_isLone : GoodIn wsX9_loneIn (wsV RX9 112 RX9 yX9_isLone wsX9_isLone) := goodIn_app (goodIn_of _ (by decide +kernel)) ggX9_loneIn_X9_isLone
theorem dX9_loneIn_0 : decode cX9_loneIn 0 = .ok (.iconst 0, 1) := by decide +kernel
theorem dX9_loneIn_1 : decode cX9_loneIn 1 = .ok (.istore_n 3, 1) := by decide +kernel
theorem dX9_loneIn_2 : decode cX9_loneIn 2 = .ok (.iconst 0, 1) := by decide +kernel
theorem dX9_loneIn_3 : decode cX9_loneIn 3 = .ok (.istore 4, 2) := by decide +kernel
theorem dX9_loneIn_5 : decode cX9_loneIn 5 = .ok (.iload 4, 2) := by decide +kernel
theorem dX9_loneIn_7 : decode cX9_loneIn 7 = .ok (.aload_n 0, 1) := by decide +kernel
theorem dX9_loneIn_8 : decode cX9_loneIn 8 = .ok (.getfield 13, 3) := by decide +kernel
theorem dX9_loneIn_11 : decode cX9_loneIn 11 = .ok (.iload_n 2, 1) := by decide +kernel
theorem dX9_loneIn_12 : decode cX9_loneIn 12 = .ok (.iaload, 1) := by decide +kernel
theorem dX9_loneIn_13 : decode cX9_loneIn 13 = .ok (.if_icmp .ge 31, 3) := by decide +kernel
theorem dX9_loneIn_16 : decode cX9_loneIn 16 = .ok (.iload_n 3, 1) := by decide +kernel
theorem dX9_loneIn_17 : decode cX9_loneIn 17 = .ok (.aload_n 0, 1) := by decide +kernel
theorem dX9_loneIn_18 : decode cX9_loneIn 18 = .ok (.aload_n 1, 1) := by decide +kernel
theorem dX9_loneIn_19 : decode cX9_loneIn 19 = .ok (.iload_n 2, 1) := by decide +kernel
theorem dX9_loneIn_20 : decode cX9_loneIn 20 = .ok (.iload 4, 2) := by decide +kernel
theorem dX9_loneIn_22 : decode cX9_loneIn 22 = .ok (.invokevirtual 112, 3) := by decide +kernel
theorem dX9_loneIn_25 : decode cX9_loneIn 25 = .ok (.ifCond .eq 10, 3) := by decide +kernel
theorem dX9_loneIn_28 : decode cX9_loneIn 28 = .ok (.iconst 1, 1) := by decide +kernel
theorem dX9_loneIn_29 : decode cX9_loneIn 29 = .ok (.iload 4, 2) := by decide +kernel
theorem dX9_loneIn_31 : decode cX9_loneIn 31 = .ok (.ishl, 1) := by decide +kernel
theorem dX9_loneIn_32 : decode cX9_loneIn 32 = .ok (.goto 4, 3) := by decide +kernel
theorem dX9_loneIn_35 : decode cX9_loneIn 35 = .ok (.iconst 0, 1) := by decide +kernel
theorem dX9_loneIn_36 : decode cX9_loneIn 36 = .ok (.ior, 1) := by decide +kernel
theorem dX9_loneIn_37 : decode cX9_loneIn 37 = .ok (.istore_n 3, 1) := by decide +kernel
theorem dX9_loneIn_38 : decode cX9_loneIn 38 = .ok (.iinc 4 1, 3) := by decide +kernel
theorem dX9_loneIn_41 : decode cX9_loneIn 41 = .ok (.goto (-36), 3) := by decide +kernel
theorem dX9_loneIn_44 : decode cX9_loneIn 44 = .ok (.iload_n 3, 1) := by decide +kernel
theorem dX9_loneIn_45 : decode cX9_loneIn 45 = .ok (.ireturn, 1) := by decide +kernel
set_option maxRecDepth 20000 in
theorem ggX9_freeIn_X9_isFree : GoodIn wsX9_freeIn wsX9_isFree := goodIn_r _ [5] (by decide +kernel) (by decide +kernel)
set_option maxRecDepth 20000 in
theorem gX9_freeIn_X9_isFree : GoodIn wsX9_freeIn (va_wsS RX9 108 yX9_isFree wsX9_isFree) := goodIn_app (goodIn_of _ (by decide +kernel)) ggX9_freeIn_X9_isFree
theorem dX9_freeIn_0 : decode cX9_freeIn 0 = .ok (.iconst 0, 1) := by decide +kernel
theorem dX9_freeIn_1 : decode cX9_freeIn 1 = .ok (.istore_n 3, 1) := by decide +kernel
theorem dX9_freeIn_2 : decode cX9_freeIn 2 = .ok (.iconst 0, 1) := by decide +kernel
theorem dX9_freeIn_3 : decode cX9_freeIn 3 = .ok (.istore 4, 2) := by decide +kernel
theorem dX9_freeIn_5 : decode cX9_freeIn 5 = .ok (.iload 4, 2) := by decide +kernel
theorem dX9_freeIn_7 : decode cX9_freeIn 7 = .ok (.aload_n 0, 1) := by decide +kernel
theorem dX9_freeIn_8 : decode cX9_freeIn 8 = .ok (.getfield 13, 3) := by decide +kernel
theorem dX9_freeIn_11 : decode cX9_freeIn 11 = .ok (.iload_n 2, 1) := by decide +kernel
theorem dX9_freeIn_12 : decode cX9_freeIn 12 = .ok (.iaload, 1) := by decide +kernel
theorem dX9_freeIn_13 : decode cX9_freeIn 13 = .ok (.if_icmp .ge 30, 3) := by decide +kernel
theorem dX9_freeIn_16 : decode cX9_freeIn 16 = .ok (.iload_n 3, 1) := by decide +kernel
theorem dX9_freeIn_17 : decode cX9_freeIn 17 = .ok (.aload_n 1, 1) := by decide +kernel
