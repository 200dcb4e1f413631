theorem dX8_party_73 : decode cX8_party 73 = .ok (.iload_n 1, 1) := by decide +kernel
theorem dX8_party_74 : decode cX8_party 74 = .ok (.invokevirtual 141, 3) := by decide +kernel
theorem dX8_party_77 : decode cX8_party 77 = .ok (.ireturn, 1) := by decide +kernel
theorem dX8_party_78 : decode cX8_party 78 = .ok (.iload_n 3, 1) := by decide +kernel
theorem dX8_party_79 : decode cX8_party 79 = .ok (.ifCond .eq 7, 3) := by decide +kernel
theorem dX8_party_82 : decode cX8_party 82 = .ok (.iconst 1, 1) := by decide +kernel
theorem dX8_party_83 : decode cX8_party 83 = .ok (.goto 19, 3) := by decide +kernel
theorem dX8_party_86 : decode cX8_party 86 = .ok (.aload_n 0, 1) := by decide +kernel
theorem dX8_party_87 : decode cX8_party 87 = .ok (.getfield 29, 3) := by decide +kernel
theorem dX8_party_90 : decode cX8_party 90 = .ok (.iload_n 1, 1) := by decide +kernel
theorem dX8_party_91 : decode cX8_party 91 = .ok (.invokevirtual 144, 3) := by decide +kernel
theorem dX8_party_94 : decode cX8_party 94 = .ok (.ifCond .eq 7, 3) := by decide +kernel
theorem dX8_party_97 : decode cX8_party 97 = .ok (.iconst 2, 1) := by decide +kernel
theorem dX8_party_98 : decode cX8_party 98 = .ok (.goto 4, 3) := by decide +kernel
theorem dX8_party_101 : decode cX8_party 101 = .ok (.iconst 0, 1) := by decide +kernel
theorem dX8_party_102 : decode cX8_party 102 = .ok (.ireturn, 1) := by decide +kernel
theorem dX8_party_103 : decode cX8_party 103 = .ok (.iload_n 3, 1) := by decide +kernel
theorem dX8_party_104 : decode cX8_party 104 = .ok (.ifCond .eq 17, 3) := by decide +kernel
theorem dX8_party_107 : decode cX8_party 107 = .ok (.aload_n 0, 1) := by decide +kernel
theorem dX8_party_108 : decode cX8_party 108 = .ok (.getfield 29, 3) := by decide +kernel
theorem dX8_party_111 : decode cX8_party 111 = .ok (.iload_n 1, 1) := by decide +kernel
theorem dX8_party_112 : decode cX8_party 112 = .ok (.invokevirtual 147, 3) := by decide +kernel
theorem dX8_party_115 : decode cX8_party 115 = .ok (.invokestatic 150, 3) := by decide +kernel
theorem dX8_party_118 : decode cX8_party 118 = .ok (.goto 5, 3) := by decide +kernel
theorem dX8_party_121 : decode cX8_party 121 = .ok (.bipush (-9), 2) := by decide +kernel
theorem dX8_party_123 : decode cX8_party 123 = .ok (.ireturn, 1) := by decide +kernel
theorem dX8_party_124 : decode cX8_party 124 = .ok (.iload_n 3, 1) := by decide +kernel
theorem dX8_party_125 : decode cX8_party 125 = .ok (.ifCond .eq 17, 3) := by decide +kernel
theorem dX8_party_128 : decode cX8_party 128 = .ok (.aload_n 0, 1) := by decide +kernel
theorem dX8_party_129 : decode cX8_party 129 = .ok (.getfield 29, 3) := by decide +kernel
theorem dX8_party_132 : decode cX8_party 132 = .ok (.iload_n 1, 1) := by decide +kernel
theorem dX8_party_133 : decode cX8_party 133 = .ok (.invokevirtual 147, 3) := by decide +kernel
theorem dX8_party_136 : decode cX8_party 136 = .ok (.invokestatic 153, 3) := by decide +kernel
theorem dX8_party_139 : decode cX8_party 139 = .ok (.goto 5, 3) := by decide +kernel
theorem dX8_party_142 : decode cX8_party 142 = .ok (.bipush (-9), 2) := by decide +kernel
theorem dX8_party_144 : decode cX8_party 144 = .ok (.ireturn, 1) := by decide +kernel
theorem dX8_party_145 : decode cX8_party 145 = .ok (.aload_n 0, 1) := by decide +kernel
theorem dX8_party_146 : decode cX8_party 146 = .ok (.getfield 29, 3) := by decide +kernel
theorem dX8_party_149 : decode cX8_party 149 = .ok (.iload_n 1, 1) := by decide +kernel
theorem dX8_party_150 : decode cX8_party 150 = .ok (.invokevirtual 156, 3) := by decide +kernel
theorem dX8_party_153 : decode cX8_party 153 = .ok (.ireturn, 1) := by decide +kernel
theorem dX8_party_154 : decode cX8_party 154 = .ok (.bipush (-2), 2) := by decide +kernel
theorem dX8_party_156 : decode cX8_party 156 = .ok (.ireturn, 1) := by decide +kernel
set_option maxRecDepth 20000 in
theorem ggX8_ask_X8_isSize : GoodIn wsX8_ask wsX8_isSize := goodIn_r _ [8] (by decide +kernel) (by decide +kernel)
set_option maxRecDepth 20000 in
theorem gX8_ask_X8_isSize : GoodIn wsX8_ask (va_wsS RX8 159 yX8_isSize wsX8_isSize) := goodIn_app (goodIn_of _ (by decide +kernel)) ggX8_ask_X8_isSize
set_option maxRecDepth 20000 in
theorem ggX8_ask_X8_isPrice : GoodIn wsX8_ask wsX8_isPrice := goodIn_r _ [11] (by decide +kernel) (by decide +kernel)
set_option maxRecDepth 20000 in
theorem gX8_ask_X8_isPrice : GoodIn wsX8_ask (va_wsS RX8 162 yX8_isPrice wsX8_isPrice) := goodIn_app (goodIn_of _ (by decide +kernel)) ggX8_ask_X8_isPrice
set_option maxRecDepth 20000 in
theorem ggX8_ask_X1_look : GoodIn wsX8_ask wsX1_look := goodIn_r _ [16, 17, 18, 19, 20, 21, 22, 23, 24, 25, 26, 27, 28, 29, 30, 31, 32, 33, 34, 35, 36, 37, 38, 15, 39, 40, 41, 42, 43, 44, 45, 46, 47, 48, 49, 50, 51, 52, 53, 54, 55, 56, 57, 58, 59, 60, 61, 62, 63, 64, 65, 66, 7, 67, 68, 69, 70, 71, 72, 73, 74, 75, 76, 77, 78, 79, 80, 81, 82, 83, 84, 85, 86, 149, 150, 151, 152, 153, 154, 155, 156, 157, 158, 159, 160, 161, 162, 163, 164, 165, 166, 167, 168, 169] (by decide +kernel) (by decide +kernel)
set_option maxRecDepth 20000 in
theorem gX8_ask_X1_look : GoodIn wsX8_ask (wsV RX8 165 RX1 yX1_look wsX1_look) := goodIn_app (goodIn_of _ (by decide +kernel)) ggX8_ask_X1_look
set_option maxRecDepth 20000 in
theorem ggX8_ask_X0_isFullFor : GoodIn wsX8_ask wsX0_isFullFor := goodIn_r _ [90, 91, 92, 159, 160, 161, 162, 163, 164, 165, 166, 167, 168, 169] (by decide +kernel) (by decide +kernel)
set_option maxRecDepth 20000 in
theorem gX8_ask_X0_isFullFor : GoodIn wsX8_ask (wsV RX8 169 RX0 yX0_isFullFor wsX0_isFullFor) := goodIn_app (goodIn_of _ (by decide +kernel)) ggX8_ask_X0_isFullFor
set_option maxRecDepth 20000 in
theorem ggX8_ask_X3_remember : GoodIn wsX8_ask wsX3_remember := goodIn_r _ [97, 98, 99, 100, 101, 102, 103, 104, 105, 106, 107, 30, 108, 32, 109, 110, 111, 112, 44, 113, 114, 115, 116, 117, 91, 92, 118, 119, 170, 171, 172, 159, 160, 161, 162, 163, 164, 165, 166, 167, 168, 169] (by decide +kernel) (by decide +kernel)
set_option maxRecDepth 20000 in
theorem gX8_ask_X3_remember : GoodIn wsX8_ask (wsV RX8 172 RX3 yX3_remember wsX3_remember) := goodIn_app (goodIn_of _ (by decide +kernel)) ggX8_ask_X3_remember
set_option maxRecDepth 20000 in
theorem ggX8_ask_X0_admit : GoodIn wsX8_ask wsX0_admit := goodIn_r _ [123, 91, 113, 114, 115, 116, 117, 92, 124, 88, 89, 30, 90, 125, 126, 127, 128, 119, 129, 130, 131, 132, 79, 7, 80, 133, 28, 29, 31, 32, 33, 34, 35, 134, 135, 136, 137, 44, 81, 82, 66, 67, 159, 160, 161, 162, 163, 164, 165, 166, 167, 168, 169] (by decide +kernel) (by decide +kernel)
set_option maxRecDepth 20000 in
theorem gX8_ask_X0_admit : GoodIn wsX8_ask (wsV RX8 176 RX0 yX0_admit wsX0_admit) := goodIn_app (goodIn_of _ (by decide +kernel)) ggX8_ask_X0_admit
theorem dX8_ask_0 : decode cX8_ask 0 = .ok (.iload_n 1, 1) := by decide +kernel
theorem dX8_ask_1 : decode cX8_ask 1 = .ok (.invokestatic 159, 3) := by decide +kernel
theorem dX8_ask_4 : decode cX8_ask 4 = .ok (.ifCond .eq 10, 3) := by decide +kernel
theorem dX8_ask_7 : decode cX8_ask 7 = .ok (.iload_n 2, 1) := by decide +kernel
theorem dX8_ask_8 : decode cX8_ask 8 = .ok (.invokestatic 162, 3) := by decide +kernel
theorem dX8_ask_11 : decode cX8_ask 11 = .ok (.ifCond .ne 6, 3) := by decide +kernel
theorem dX8_ask_14 : decode cX8_ask 14 = .ok (.bipush (-2), 2) := by decide +kernel
theorem dX8_ask_16 : decode cX8_ask 16 = .ok (.ireturn, 1) := by decide +kernel
theorem dX8_ask_17 : decode cX8_ask 17 = .ok (.aload_n 0, 1) := by decide +kernel
theorem dX8_ask_18 : decode cX8_ask 18 = .ok (.getfield 60, 3) := by decide +kernel
theorem dX8_ask_21 : decode cX8_ask 21 = .ok (.aload_n 0, 1) := by decide +kernel
theorem dX8_ask_22 : decode cX8_ask 22 = .ok (.getfield 23, 3) := by decide +kernel
theorem dX8_ask_25 : decode cX8_ask 25 = .ok (.aload_n 0, 1) := by decide +kernel
theorem dX8_ask_26 : decode cX8_ask 26 = .ok (.getfield 29, 3) := by decide +kernel
theorem dX8_ask_29 : decode cX8_ask 29 = .ok (.iload_n 1, 1) := by decide +kernel
theorem dX8_ask_30 : decode cX8_ask 30 = .ok (.iload_n 2, 1) := by decide +kernel
theorem dX8_ask_31 : decode cX8_ask 31 = .ok (.iconst 0, 1) := by decide +kernel
theorem dX8_ask_32 : decode cX8_ask 32 = .ok (.bipush 15, 2) := by decide +kernel
theorem dX8_ask_34 : decode cX8_ask 34 = .ok (.invokevirtual 165, 3) := by decide +kernel
theorem dX8_ask_37 : decode cX8_ask 37 = .ok (.istore_n 3, 1) := by decide +kernel
theorem dX8_ask_38 : decode cX8_ask 38 = .ok (.aload_n 0, 1) := by decide +kernel
theorem dX8_ask_39 : decode cX8_ask 39 = .ok (.getfield 29, 3) := by decide +kernel
theorem dX8_ask_42 : decode cX8_ask 42 = .ok (.iload_n 3, 1) := by decide +kernel
theorem dX8_ask_43 : decode cX8_ask 43 = .ok (.invokevirtual 169, 3) := by decide +kernel
theorem dX8_ask_46 : decode cX8_ask 46 = .ok (.ifCond .eq 6, 3) := by decide +kernel
theorem dX8_ask_49 : decode cX8_ask 49 = .ok (.bipush (-4), 2) := by decide +kernel
theorem dX8_ask_51 : decode cX8_ask 51 = .ok (.ireturn, 1) := by decide +kernel
theorem dX8_ask_52 : decode cX8_ask 52 = .ok (.aload_n 0, 1) := by decide +kernel
theorem dX8_ask_53 : decode cX8_ask 53 = .ok (.getfield 39, 3) := by decide +kernel
theorem dX8_ask_56 : decode cX8_ask 56 = .ok (.aload_n 0, 1) := by decide +kernel
theorem dX8_ask_57 : decode cX8_ask 57 = .ok (.getfield 29, 3) := by decide +kernel
theorem dX8_ask_60 : decode cX8_ask 60 = .ok (.invokevirtual 172, 3) := by decide +kernel
theorem dX8_ask_63 : decode cX8_ask 63 = .ok (.aload_n 0, 1) := by decide +kernel
theorem dX8_ask_64 : decode cX8_ask 64 = .ok (.getfield 29, 3) := by decide +kernel
theorem dX8_ask_67 : decode cX8_ask 67 = .ok (.iload_n 1, 1) := by decide +kernel
theorem dX8_ask_68 : decode cX8_ask 68 = .ok (.iload_n 2, 1) := by decide +kernel
theorem dX8_ask_69 : decode cX8_ask 69 = .ok (.iload_n 3, 1) := by decide +kernel
theorem dX8_ask_70 : decode cX8_ask 70 = .ok (.invokevirtual 176, 3) := by decide +kernel
theorem dX8_ask_73 : decode cX8_ask 73 = .ok (.ireturn, 1) := by decide +kernel
set_option maxRecDepth 20000 in
theorem ggX8_giveBack_X0_knows : GoodIn wsX8_giveBack wsX0_knows := goodIn_r _ [7, 8, 183, 184, 185, 186, 187, 188, 189, 190, 191, 192, 193] (by decide +kernel) (by decide +kernel)
set_option maxRecDepth 20000 in
theorem gX8_giveBack_X0_knows : GoodIn wsX8_giveBack (wsV RX8 132 RX0 yX0_knows wsX0_knows) := goodIn_app (goodIn_of _ (by decide +kernel)) ggX8_giveBack_X0_knows
set_option maxRecDepth 20000 in
theorem ggX8_giveBack_X0_isSeated : GoodIn wsX8_giveBack wsX0_isSeated := goodIn_r _ [12, 13, 14, 15, 6, 16, 17, 18, 4, 5, 7, 8, 183, 184, 185, 186, 187, 188, 189, 190, 191, 192, 193] (by decide +kernel) (by decide +kernel)
set_option maxRecDepth 20000 in
theorem gX8_giveBack_X0_isSeated : GoodIn wsX8_giveBack (wsV RX8 135 RX0 yX0_isSeated wsX0_isSeated) := goodIn_app (goodIn_of _ (by decide +kernel)) ggX8_giveBack_X0_isSeated
set_option maxRecDepth 20000 in
theorem ggX8_giveBack_X3_remember : GoodIn wsX8_giveBack wsX3_remember := goodIn_r _ [23, 24, 25, 26, 27, 28, 29, 30, 31, 32, 33, 6, 34, 35, 36, 37, 38, 39, 40, 41, 42, 17, 43, 44, 8, 45, 46, 47, 194, 195, 196, 183, 184, 185, 186, 187, 188, 189, 190, 191, 192, 193] (by decide +kernel) (by decide +kernel)
set_option maxRecDepth 20000 in
theorem gX8_giveBack_X3_remember : GoodIn wsX8_giveBack (wsV RX8 172 RX3 yX3_remember wsX3_remember) := goodIn_app (goodIn_of _ (by decide +kernel)) ggX8_giveBack_X3_remember
set_option maxRecDepth 20000 in
theorem ggX8_giveBack_X0_release : GoodIn wsX8_giveBack wsX0_release := goodIn_r _ [51, 43, 41, 46, 52, 53, 29, 54, 17, 47, 55, 10, 11, 6, 12, 13, 14, 15, 16, 18, 4, 5, 7, 8, 56, 57, 58, 59, 40, 60, 61, 62, 63, 64, 65, 66, 67, 68, 69, 183, 184, 185, 186, 187, 188, 189, 190, 191, 192, 193] (by decide +kernel) (by decide +kernel)
set_option maxRecDepth 20000 in
theorem gX8_giveBack_X0_release : GoodIn wsX8_giveBack (wsV RX8 180 RX0 yX0_release wsX0_release) := goodIn_app (goodIn_of _ (by decide +kernel)) ggX8_giveBack_X0_release
set_option maxRecDepth 20000 in
theorem ggX8_giveBack_X8_letIn : GoodIn wsX8_giveBack wsX8_letIn := goodIn_r _ [73, 74, 75, 76, 77, 78, 6, 79, 45, 80, 81, 82, 83, 44, 84, 85, 86, 87, 41, 18, 4, 5, 7, 8, 88, 89, 90, 91, 42, 92, 93, 94, 95, 96, 97, 98, 99, 100, 101, 102, 103, 104, 105, 106, 107, 108, 109, 110, 35, 63, 64, 65, 111, 112, 113, 114, 115, 116, 117, 118, 40, 119, 120, 121, 122, 123, 124, 125, 126, 127, 128, 129, 130, 131, 132, 133, 134, 135, 136, 137, 138, 139, 68, 61, 69, 140, 141, 142, 143, 144, 145, 146, 147, 148, 149, 150, 60, 62, 66, 67, 151, 152, 153, 154, 155, 156, 157, 158, 159, 160, 161, 162, 163, 164, 165, 166, 17, 43, 47, 167, 168, 169, 170, 171, 172, 173, 174, 175, 176, 177, 178, 179, 180, 181, 182, 183, 184, 185, 186, 187, 188, 189, 190, 191, 192, 193, 197, 198, 199, 200, 201, 202, 203, 204, 205, 206] (by decide +kernel) (by decide +kernel)
set_option maxRecDepth 20000 in
theorem gX8_giveBack_X8_letIn : GoodIn wsX8_giveBack (wsV RX8 183 RX8 yX8_letIn wsX8_letIn) := goodIn_app (goodIn_of _ (by decide +kernel)) ggX8_giveBack_X8_letIn
theorem dX8_giveBack_0 : decode cX8_giveBack 0 = .ok (.aload_n 0, 1) := by decide +kernel
theorem dX8_giveBack_1 : decode cX8_giveBack 1 = .ok (.getfield 29, 3) := by decide +kernel
theorem dX8_giveBack_4 : decode cX8_giveBack 4 = .ok (.iload_n 1, 1) := by decide +kernel
theorem dX8_giveBack_5 : decode cX8_giveBack 5 = .ok (.invokevirtual 132, 3) := by decide +kernel
theorem dX8_giveBack_8 : decode cX8_giveBack 8 = .ok (.ifCond .ne 5, 3) := by decide +kernel
theorem dX8_giveBack_11 : decode cX8_giveBack 11 = .ok (.iconst (-1), 1) := by decide +kernel
theorem dX8_giveBack_12 : decode cX8_giveBack 12 = .ok (.ireturn, 1) := by decide +kernel
theorem dX8_giveBack_13 : decode cX8_giveBack 13 = .ok (.aload_n 0, 1) := by decide +kernel
theorem dX8_giveBack_14 : decode cX8_giveBack 14 = .ok (.getfield 29, 3) := by decide +kernel
theorem dX8_giveBack_17 : decode cX8_giveBack 17 = .ok (.iload_n 1, 1) := by decide +kernel
theorem dX8_giveBack_18 : decode cX8_giveBack 18 = .ok (.invokevirtual 135, 3) := by decide +kernel
theorem dX8_giveBack_21 : decode cX8_giveBack 21 = .ok (.ifCond .ne 6, 3) := by decide +kernel
theorem dX8_giveBack_24 : decode cX8_giveBack 24 = .ok (.bipush (-3), 2) := by decide +kernel
theorem dX8_giveBack_26 : decode cX8_giveBack 26 = .ok (.ireturn, 1) := by decide +kernel
theorem dX8_giveBack_27 : decode cX8_giveBack 27 = .ok (.aload_n 0, 1) := by decide +kernel
theorem dX8_giveBack_28 : decode cX8_giveBack 28 = .ok (.getfield 39, 3) := by decide +kernel
theorem dX8_giveBack_31 : decode cX8_giveBack 31 = .ok (.aload_n 0, 1) := by decide +kernel
theorem dX8_giveBack_32 : decode cX8_giveBack 32 = .ok (.getfield 29, 3) := by decide +kernel
theorem dX8_giveBack_35 : decode cX8_giveBack 35 = .ok (.invokevirtual 172, 3) := by decide +kernel
theorem dX8_giveBack_38 : decode cX8_giveBack 38 = .ok (.aload_n 0, 1) := by decide +kernel
theorem dX8_giveBack_39 : decode cX8_giveBack 39 = .ok (.getfield 29, 3) := by decide +kernel
theorem dX8_giveBack_42 : decode cX8_giveBack 42 = .ok (.iload_n 1, 1) := by decide +kernel
theorem dX8_giveBack_43 : decode cX8_giveBack 43 = .ok (.invokevirtual 180, 3) := by decide +kernel
theorem dX8_giveBack_46 : decode cX8_giveBack 46 = .ok (.istore_n 2, 1) := by decide +kernel
theorem dX8_giveBack_47 : decode cX8_giveBack 47 = .ok (.aload_n 0, 1) := by decide +kernel
theorem dX8_giveBack_48 : decode cX8_giveBack 48 = .ok (.aload_n 0, 1) := by decide +kernel
theorem dX8_giveBack_49 : decode cX8_giveBack 49 = .ok (.getfield 29, 3) := by decide +kernel
theorem dX8_giveBack_52 : decode cX8_giveBack 52 = .ok (.invokevirtual 183, 3) := by decide +kernel
theorem dX8_giveBack_55 : decode cX8_giveBack 55 = .ok (.iload_n 2, 1) := by decide +kernel
theorem dX8_giveBack_56 : decode cX8_giveBack 56 = .ok (.ireturn, 1) := by decide +kernel
set_option maxRecDepth 20000 in
theorem ggX8_leave_X0_knows : GoodIn wsX8_leave wsX0_knows := goodIn_r _ [7, 8, 66, 67, 68, 69, 70, 71, 72, 73, 74, 75, 76] (by decide +kernel) (by decide +kernel)
set_option maxRecDepth 20000 in
theorem gX8_leave_X0_knows : GoodIn wsX8_leave (wsV RX8 132 RX0 yX0_knows wsX0_knows) := goodIn_app (goodIn_of _ (by decide +kernel)) ggX8_leave_X0_knows
set_option maxRecDepth 20000 in
theorem ggX8_leave_X0_isWaiting : GoodIn wsX8_leave wsX0_isWaiting := goodIn_r _ [12, 13, 14, 15, 6, 16, 17, 18, 66, 67, 68, 69, 70, 71, 72, 73, 74, 75, 76] (by decide +kernel) (by decide +kernel)
set_option maxRecDepth 20000 in
theorem gX8_leave_X0_isWaiting : GoodIn wsX8_leave (wsV RX8 144 RX0 yX0_isWaiting wsX0_isWaiting) := goodIn_app (goodIn_of _ (by decide +kernel)) ggX8_leave_X0_isWaiting
set_option maxRecDepth 20000 in
theorem ggX8_leave_X3_remember : GoodIn wsX8_leave wsX3_remember := goodIn_r _ [23, 24, 25, 26, 27, 28, 29, 30, 31, 32, 33, 6, 34, 35, 36, 37, 38, 39, 40, 41, 42, 43, 44, 18, 8, 17, 45, 46, 77, 78, 79, 66, 67, 68, 69, 70, 71, 72, 73, 74, 75, 76] (by decide +kernel) (by decide +kernel)
set_option maxRecDepth 20000 in
theorem gX8_leave_X3_remember : GoodIn wsX8_leave (wsV RX8 172 RX3 yX3_remember wsX3_remember) := goodIn_app (goodIn_of _ (by decide +kernel)) ggX8_leave_X3_remember
set_option maxRecDepth 20000 in
theorem ggX8_leave_X0_dequeue : GoodIn wsX8_leave wsX0_dequeue := goodIn_r _ [50, 17, 18, 13, 14, 15, 6, 16, 66, 67, 68, 69, 70, 71, 72, 73, 74, 75, 76] (by decide +kernel) (by decide +kernel)
set_option maxRecDepth 20000 in
theorem gX8_leave_X0_dequeue : GoodIn wsX8_leave (wsV RX8 186 RX0 yX0_dequeue wsX0_dequeue) := goodIn_app (goodIn_of _ (by decide +kernel)) ggX8_leave_X0_dequeue
set_option maxRecDepth 20000 in
theorem ggX8_leave_X0_waiting : GoodIn wsX8_leave wsX0_waiting := goodIn_r _ [54, 17, 66, 67, 68, 69, 70, 71, 72, 73, 74, 75, 76] (by decide +kernel) (by decide +kernel)
set_option maxRecDepth 20000 in
theorem gX8_leave_X0_waiting : GoodIn wsX8_leave (wsV RX8 190 RX0 yX0_waiting wsX0_waiting) := goodIn_app (goodIn_of _ (by decide +kernel)) ggX8_leave_X0_waiting
theorem dX8_leave_0 : decode cX8_leave 0 = .ok (.aload_n 0, 1) := by decide +kernel
theorem dX8_leave_1 : decode cX8_leave 1 = .ok (.getfield 29, 3) := by decide +kernel
theorem dX8_leave_4 : decode cX8_leave 4 = .ok (.iload_n 1, 1) := by decide +kernel
theorem dX8_leave_5 : decode cX8_leave 5 = .ok (.invokevirtual 132, 3) := by decide +kernel
theorem dX8_leave_8 : decode cX8_leave 8 = .ok (.ifCond .ne 5, 3) := by decide +kernel
theorem dX8_leave_11 : decode cX8_leave 11 = .ok (.iconst (-1), 1) := by decide +kernel
theorem dX8_leave_12 : decode cX8_leave 12 = .ok (.ireturn, 1) := by decide +kernel
theorem dX8_leave_13 : decode cX8_leave 13 = .ok (.aload_n 0, 1) := by decide +kernel
theorem dX8_leave_14 : decode cX8_leave 14 = .ok (.getfield 29, 3) := by decide +kernel
theorem dX8_leave_17 : decode cX8_leave 17 = .ok (.iload_n 1, 1) := by decide +kernel
theorem dX8_leave_18 : decode cX8_leave 18 = .ok (.invokevirtual 144, 3) := by decide +kernel
theorem dX8_leave_21 : decode cX8_leave 21 = .ok (.ifCond .ne 6, 3) := by decide +kernel
theorem dX8_leave_24 : decode cX8_leave 24 = .ok (.bipush (-3), 2) := by decide +kernel
theorem dX8_leave_26 : decode cX8_leave 26 = .ok (.ireturn, 1) := by decide +kernel
theorem dX8_leave_27 : decode cX8_leave 27 = .ok (.aload_n 0, 1) := by decide +kernel
theorem dX8_leave_28 : decode cX8_leave 28 = .ok (.getfield 39, 3) := by decide +kernel
theorem dX8_leave_31 : decode cX8_leave 31 = .ok (.aload_n 0, 1) := by decide +kernel
theorem dX8_leave_32 : decode cX8_leave 32 = .ok (.getfield 29, 3) := by decide +kernel
theorem dX8_leave_35 : decode cX8_leave 35 = .ok (.invokevirtual 172, 3) := by decide +kernel
theorem dX8_leave_38 : decode cX8_leave 38 = .ok (.aload_n 0, 1) := by decide +kernel
theorem dX8_leave_39 : decode cX8_leave 39 = .ok (.getfield 29, 3) := by decide +kernel
theorem dX8_leave_42 : decode cX8_leave 42 = .ok (.iload_n 1, 1) := by decide +kernel
theorem dX8_leave_43 : decode cX8_leave 43 = .ok (.invokevirtual 186, 3) := by decide +kernel
theorem dX8_leave_46 : decode cX8_leave 46 = .ok (.aload_n 0, 1) := by decide +kernel
theorem dX8_leave_47 : decode cX8_leave 47 = .ok (.getfield 29, 3) := by decide +kernel
theorem dX8_leave_50 : decode cX8_leave 50 = .ok (.invokevirtual 190, 3) := by decide +kernel
theorem dX8_leave_53 : decode cX8_leave 53 = .ok (.ireturn, 1) := by decide +kernel
set_option maxRecDepth 20000 in
theorem ggX8_shift_X0_knows : GoodIn wsX8_shift wsX0_knows := goodIn_r _ [9, 10, 200, 201, 202, 203, 204, 205, 206, 207, 208, 209, 210] (by decide +kernel) (by decide +kernel)
set_option maxRecDepth 20000 in
theorem gX8_shift_X0_knows : GoodIn wsX8_shift (wsV RX8 132 RX0 yX0_knows wsX0_knows) := goodIn_app (goodIn_of _ (by decide +kernel)) ggX8_shift_X0_knows
set_option maxRecDepth 20000 in
theorem ggX8_shift_X0_isSeated : GoodIn wsX8_shift wsX0_isSeated := goodIn_r _ [14, 15, 16, 17, 8, 18, 19, 20, 6, 7, 9, 10, 200, 201, 202, 203, 204, 205, 206, 207, 208, 209, 210] (by decide +kernel) (by decide +kernel)
set_option maxRecDepth 20000 in
theorem gX8_shift_X0_isSeated : GoodIn wsX8_shift (wsV RX8 135 RX0 yX0_isSeated wsX0_isSeated) := goodIn_app (goodIn_of _ (by decide +kernel)) ggX8_shift_X0_isSeated
set_option maxRecDepth 20000 in
theorem ggX8_shift_X8_placeInsteadFor : GoodIn wsX8_shift wsX8_placeInsteadFor := goodIn_r _ [25, 1, 26, 3, 2, 27, 28, 29, 8, 30, 31, 20, 6, 7, 9, 10, 32, 33, 34, 35, 36, 37, 38, 39, 40, 41, 42, 19, 43, 44, 45, 46, 47, 48, 16, 17, 18, 49, 50, 51, 52, 53, 24, 54, 55, 56, 57, 58, 59, 60, 61, 62, 63, 64, 65, 66, 67, 68, 69, 70, 71, 72, 73, 74, 75, 76, 77, 78, 79, 80, 81, 82, 83, 84, 85, 86, 87, 88, 89, 90, 91, 92, 93, 94, 95, 96, 97, 98, 99, 100, 101, 102, 103, 104, 105, 106, 107, 108, 109, 110, 111, 112, 113, 114, 115, 116, 117, 118, 119, 120, 121, 122, 123, 124, 125, 126, 127, 128, 129, 130, 131, 132, 133, 134, 135, 189, 190, 191, 192, 193, 194, 195, 196, 197, 198, 199, 200, 201, 202, 203, 204, 205, 206, 207, 208, 209, 210, 211, 212, 213, 214, 215, 216, 217, 218, 219, 220] (by decide +kernel) (by decide +kernel)
set_option maxRecDepth 20000 in
theorem gX8_shift_X8_placeInsteadFor : GoodIn wsX8_shift (wsV RX8 193 RX8 yX8_placeInsteadFor wsX8_placeInsteadFor) := goodIn_app (goodIn_of _ (by decide +kernel)) ggX8_shift_X8_placeInsteadFor
set_option maxRecDepth 20000 in
theorem ggX8_shift_X1_quality : GoodIn wsX8_shift wsX1_quality := goodIn_r _ [139, 99, 217, 218, 219, 220] (by decide +kernel) (by decide +kernel)
set_option maxRecDepth 20000 in
theorem gX8_shift_X1_quality : GoodIn wsX8_shift (wsV RX8 196 RX1 yX1_quality wsX1_quality) := goodIn_app (goodIn_of _ (by decide +kernel)) ggX8_shift_X1_quality
set_option maxRecDepth 20000 in
theorem ggX8_shift_X0_placeOf : GoodIn wsX8_shift wsX0_placeOf := goodIn_r _ [18, 19, 20, 6, 7, 8, 9, 10, 200, 201, 202, 203, 204, 205, 206, 207, 208, 209, 210] (by decide +kernel) (by decide +kernel)
set_option maxRecDepth 20000 in
theorem gX8_shift_X0_placeOf : GoodIn wsX8_shift (wsV RX8 147 RX0 yX0_placeOf wsX0_placeOf) := goodIn_app (goodIn_of _ (by decide +kernel)) ggX8_shift_X0_placeOf
set_option maxRecDepth 20000 in
theorem ggX8_shift_X0_sizeOf : GoodIn wsX8_shift wsX0_sizeOf := goodIn_r _ [30, 31, 20, 6, 7, 8, 9, 10, 200, 201, 202, 203, 204, 205, 206, 207, 208, 209, 210] (by decide +kernel) (by decide +kernel)
set_option maxRecDepth 20000 in
theorem gX8_shift_X0_sizeOf : GoodIn wsX8_shift (wsV RX8 138 RX0 yX0_sizeOf wsX0_sizeOf) := goodIn_app (goodIn_of _ (by decide +kernel)) ggX8_shift_X0_sizeOf
set_option maxRecDepth 20000 in
theorem ggX8_shift_X4_qualityOf : GoodIn wsX8_shift wsX4_qualityOf := goodIn_r _ [130, 131, 53, 24, 54, 58, 59, 211, 212, 213, 214, 215, 216] (by decide +kernel) (by decide +kernel)
set_option maxRecDepth 20000 in
theorem gX8_shift_X4_qualityOf : GoodIn wsX8_shift (wsV RX8 199 RX4 yX4_qualityOf wsX4_qualityOf) := goodIn_app (goodIn_of _ (by decide +kernel)) ggX8_shift_X4_qualityOf
set_option maxRecDepth 20000 in
theorem ggX8_shift_X3_remember : GoodIn wsX8_shift wsX3_remember := goodIn_r _ [145, 146, 147, 148, 149, 150, 151, 152, 153, 33, 34, 8, 35, 36, 37, 38, 39, 40, 41, 31, 42, 19, 43, 44, 10, 45, 46, 47, 221, 222, 223, 200, 201, 202, 203, 204, 205, 206, 207, 208, 209, 210] (by decide +kernel) (by decide +kernel)
set_option maxRecDepth 20000 in
theorem gX8_shift_X3_remember : GoodIn wsX8_shift (wsV RX8 172 RX3 yX3_remember wsX3_remember) := goodIn_app (goodIn_of _ (by decide +kernel)) ggX8_shift_X3_remember
set_option maxRecDepth 20000 in
theorem ggX8_shift_X0_move : GoodIn wsX8_shift wsX0_move := goodIn_r _ [157, 19, 31, 158, 12, 13, 8, 14, 15, 16, 17, 18, 20, 6, 7, 9, 10, 159, 50, 51, 52, 41, 53, 24, 54, 55, 56, 57, 58, 59, 60, 61, 160, 161, 162, 163, 200, 201, 202, 203, 204, 205, 206, 207, 208, 209, 210] (by decide +kernel) (by decide +kernel)
set_option maxRecDepth 20000 in
theorem gX8_shift_X0_move : GoodIn wsX8_shift (wsV RX8 202 RX0 yX0_move wsX0_move) := goodIn_app (goodIn_of _ (by decide +kernel)) ggX8_shift_X0_move
set_option maxRecDepth 20000 in
theorem ggX8_shift_X8_letIn : GoodIn wsX8_shift wsX8_letIn := goodIn_r _ [167, 2, 3, 168, 169, 170, 8, 171, 45, 172, 173, 174, 175, 44, 27, 28, 29, 30, 31, 20, 6, 7, 9, 10, 88, 89, 90, 91, 42, 92, 93, 94, 95, 96, 97, 98, 99, 100, 101, 102, 103, 65, 104, 67, 105, 106, 107, 108, 36, 55, 56, 57, 109, 110, 111, 112, 113, 69, 70, 71, 41, 114, 73, 74, 75, 76, 77, 78, 79, 80, 115, 82, 83, 84, 85, 86, 87, 116, 117, 118, 119, 120, 60, 24, 61, 121, 122, 123, 124, 125, 126, 127, 128, 129, 130, 131, 53, 54, 58, 59, 132, 133, 134, 135, 176, 177, 178, 179, 180, 181, 182, 183, 184, 185, 186, 187, 19, 43, 47, 188, 160, 161, 162, 163, 189, 190, 191, 192, 193, 194, 195, 196, 197, 198, 199, 200, 201, 202, 203, 204, 205, 206, 207, 208, 209, 210, 217, 218, 219, 220, 211, 212, 213, 214, 215, 216] (by decide +kernel) (by decide +kernel)
set_option maxRecDepth 20000 in
theorem gX8_shift_X8_letIn : GoodIn wsX8_shift (wsV RX8 183 RX8 yX8_letIn wsX8_letIn) := goodIn_app (goodIn_of _ (by decide +kernel)) ggX8_shift_X8_letIn
theorem dX8_shift_0 : decode cX8_shift 0 = .ok (.aload_n 0, 1) := by decide +kernel
theorem dX8_shift_1 : decode cX8_shift 1 = .ok (.getfield 29, 3) := by decide +kernel
theorem dX8_shift_4 : decode cX8_shift 4 = .ok (.iload_n 1, 1) := by decide +kernel
theorem dX8_shift_5 : decode cX8_shift 5 = .ok (.invokevirtual 132, 3) := by decide +kernel
theorem dX8_shift_8 : decode cX8_shift 8 = .ok (.ifCond .ne 5, 3) := by decide +kernel
theorem dX8_shift_11 : decode cX8_shift 11 = .ok (.iconst (-1), 1) := by decide +kernel
theorem dX8_shift_12 : decode cX8_shift 12 = .ok (.ireturn, 1) := by decide +kernel
theorem dX8_shift_13 : decode cX8_shift 13 = .ok (.aload_n 0, 1) := by decide +kernel
theorem dX8_shift_14 : decode cX8_shift 14 = .ok (.getfield 29, 3) := by decide +kernel
theorem dX8_shift_17 : decode cX8_shift 17 = .ok (.iload_n 1, 1) := by decide +kernel
theorem dX8_shift_18 : decode cX8_shift 18 = .ok (.invokevirtual 135, 3) := by decide +kernel
theorem dX8_shift_21 : decode cX8_shift 21 = .ok (.ifCond .ne 6, 3) := by decide +kernel
theorem dX8_shift_24 : decode cX8_shift 24 = .ok (.bipush (-3), 2) := by decide +kernel
theorem dX8_shift_26 : decode cX8_shift 26 = .ok (.ireturn, 1) := by decide +kernel
theorem dX8_shift_27 : decode cX8_shift 27 = .ok (.aload_n 0, 1) := by decide +kernel
theorem dX8_shift_28 : decode cX8_shift 28 = .ok (.iload_n 1, 1) := by decide +kernel
theorem dX8_shift_29 : decode cX8_shift 29 = .ok (.invokevirtual 193, 3) := by decide +kernel
theorem dX8_shift_32 : decode cX8_shift 32 = .ok (.istore_n 2, 1) := by decide +kernel
theorem dX8_shift_33 : decode cX8_shift 33 = .ok (.aload_n 0, 1) := by decide +kernel
theorem dX8_shift_34 : decode cX8_shift 34 = .ok (.getfield 60, 3) := by decide +kernel
theorem dX8_shift_37 : decode cX8_shift 37 = .ok (.invokevirtual 196, 3) := by decide +kernel
theorem dX8_shift_40 : decode cX8_shift 40 = .ok (.aload_n 0, 1) := by decide +kernel
theorem dX8_shift_41 : decode cX8_shift 41 = .ok (.getfield 23, 3) := by decide +kernel
theorem dX8_shift_44 : decode cX8_shift 44 = .ok (.aload_n 0, 1) := by decide +kernel
theorem dX8_shift_45 : decode cX8_shift 45 = .ok (.getfield 29, 3) := by decide +kernel
theorem dX8_shift_48 : decode cX8_shift 48 = .ok (.iload_n 1, 1) := by decide +kernel
theorem dX8_shift_49 : decode cX8_shift 49 = .ok (.invokevirtual 147, 3) := by decide +kernel
theorem dX8_shift_52 : decode cX8_shift 52 = .ok (.aload_n 0, 1) := by decide +kernel
theorem dX8_shift_53 : decode cX8_shift 53 = .ok (.getfield 29, 3) := by decide +kernel
theorem dX8_shift_56 : decode cX8_shift 56 = .ok (.iload_n 1, 1) := by decide +kernel
theorem dX8_shift_57 : decode cX8_shift 57 = .ok (.invokevirtual 138, 3) := by decide +kernel
theorem dX8_shift_60 : decode cX8_shift 60 = .ok (.invokevirtual 199, 3) := by decide +kernel
theorem dX8_shift_63 : decode cX8_shift 63 = .ok (.isub, 1) := by decide +kernel
theorem dX8_shift_64 : decode cX8_shift 64 = .ok (.istore_n 3, 1) := by decide +kernel
theorem dX8_shift_65 : decode cX8_shift 65 = .ok (.iload_n 2, 1) := by decide +kernel
theorem dX8_shift_66 : decode cX8_shift 66 = .ok (.bipush (-9), 2) := by decide +kernel
theorem dX8_shift_68 : decode cX8_shift 68 = .ok (.if_icmp .eq 7, 3) := by decide +kernel
theorem dX8_shift_71 : decode cX8_shift 71 = .ok (.iload_n 3, 1) := by decide +kernel
theorem dX8_shift_72 : decode cX8_shift 72 = .ok (.ifCond .gt 6, 3) := by decide +kernel
theorem dX8_shift_75 : decode cX8_shift 75 = .ok (.bipush (-3), 2) := by decide +kernel
theorem dX8_shift_77 : decode cX8_shift 77 = .ok (.ireturn, 1) := by decide +kernel
theorem dX8_shift_78 : decode cX8_shift 78 = .ok (.aload_n 0, 1) := by decide +kernel
theorem dX8_shift_79 : decode cX8_shift 79 = .ok (.getfield 39, 3) := by decide +kernel
theorem dX8_shift_82 : decode cX8_shift 82 = .ok (.aload_n 0, 1) := by decide +kernel
theorem dX8_shift_83 : decode cX8_shift 83 = .ok (.getfield 29, 3) := by decide +kernel
theorem dX8_shift_86 : decode cX8_shift 86 = .ok (.invokevirtual 172, 3) := by decide +kernel
theorem dX8_shift_89 : decode cX8_shift 89 = .ok (.aload_n 0, 1) := by decide +kernel
theorem dX8_shift_90 : decode cX8_shift 90 = .ok (.getfield 29, 3) := by decide +kernel
theorem dX8_shift_93 : decode cX8_shift 93 = .ok (.iload_n 1, 1) := by decide +kernel
theorem dX8_shift_94 : decode cX8_shift 94 = .ok (.iload_n 2, 1) := by decide +kernel
theorem dX8_shift_95 : decode cX8_shift 95 = .ok (.invokevirtual 202, 3) := by decide +kernel
theorem dX8_shift_98 : decode cX8_shift 98 = .ok (.aload_n 0, 1) := by decide +kernel
theorem dX8_shift_99 : decode cX8_shift 99 = .ok (.aload_n 0, 1) := by decide +kernel
theorem dX8_shift_100 : decode cX8_shift 100 = .ok (.getfield 29, 3) := by decide +kernel
theorem dX8_shift_103 : decode cX8_shift 103 = .ok (.invokevirtual 183, 3) := by decide +kernel
theorem dX8_shift_106 : decode cX8_shift 106 = .ok (.iload_n 3, 1) := by decide +kernel
theorem dX8_shift_107 : decode cX8_shift 107 = .ok (.ireturn, 1) := by decide +kernel
set_option maxRecDepth 20000 in
theorem ggX8_price_X4_hasRow : GoodIn wsX8_price wsX4_hasRow := goodIn_r _ [8, 9, 171, 172, 173, 174, 175, 176] (by decide +kernel) (by decide +kernel)
set_option maxRecDepth 20000 in
theorem gX8_price_X4_hasRow : GoodIn wsX8_price (wsV RX8 99 RX4 yX4_hasRow wsX4_hasRow) := goodIn_app (goodIn_of _ (by decide +kernel)) ggX8_price_X4_hasRow
set_option maxRecDepth 20000 in
theorem ggX8_price_X8_isPrice : GoodIn wsX8_price wsX8_isPrice := goodIn_r _ [13] (by decide +kernel) (by decide +kernel)
set_option maxRecDepth 20000 in
theorem gX8_price_X8_isPrice : GoodIn wsX8_price (va_wsS RX8 162 yX8_isPrice wsX8_isPrice) := goodIn_app (goodIn_of _ (by decide +kernel)) ggX8_price_X8_isPrice
set_option maxRecDepth 20000 in
theorem ggX8_price_X0_priceOf : GoodIn wsX8_price wsX0_priceOf := goodIn_r _ [18, 19, 20, 21, 17, 22, 177, 178, 179, 180, 181, 182, 183, 184, 185, 186, 187] (by decide +kernel) (by decide +kernel)
set_option maxRecDepth 20000 in
theorem gX8_price_X0_priceOf : GoodIn wsX8_price (wsV RX8 102 RX0 yX0_priceOf wsX0_priceOf) := goodIn_app (goodIn_of _ (by decide +kernel)) ggX8_price_X0_priceOf
set_option maxRecDepth 20000 in
theorem ggX8_price_X3_remember : GoodIn wsX8_price wsX3_remember := goodIn_r _ [27, 28, 29, 30, 31, 32, 33, 34, 35, 36, 37, 17, 38, 19, 39, 40, 41, 42, 43, 44, 45, 46, 47, 48, 49, 50, 51, 52, 188, 189, 190, 177, 178, 179, 180, 181, 182, 183, 184, 185, 186, 187] (by decide +kernel) (by decide +kernel)
set_option maxRecDepth 20000 in
theorem gX8_price_X3_remember : GoodIn wsX8_price (wsV RX8 172 RX3 yX3_remember wsX3_remember) := goodIn_app (goodIn_of _ (by decide +kernel)) ggX8_price_X3_remember
set_option maxRecDepth 20000 in
theorem ggX8_price_X0_setPrice : GoodIn wsX8_price wsX0_setPrice := goodIn_r _ [56, 19, 20, 21, 17, 22, 177, 178, 179, 180, 181, 182, 183, 184, 185, 186, 187] (by decide +kernel) (by decide +kernel)
set_option maxRecDepth 20000 in
theorem gX8_price_X0_setPrice : GoodIn wsX8_price (wsV RX8 206 RX0 yX0_setPrice wsX0_setPrice) := goodIn_app (goodIn_of _ (by decide +kernel)) ggX8_price_X0_setPrice
set_option maxRecDepth 20000 in
theorem ggX8_price_X8_letIn : GoodIn wsX8_price wsX8_letIn := goodIn_r _ [60, 61, 1, 62, 63, 64, 17, 65, 50, 66, 67, 68, 69, 48, 70, 71, 72, 73, 44, 74, 75, 76, 77, 49, 78, 79, 80, 81, 45, 82, 83, 84, 85, 86, 87, 88, 89, 90, 91, 92, 93, 7, 94, 9, 95, 15, 16, 18, 19, 20, 21, 22, 96, 97, 98, 99, 100, 101, 102, 103, 43, 104, 105, 106, 107, 108, 109, 5, 6, 8, 110, 111, 112, 113, 114, 115, 116, 117, 118, 119, 120, 121, 122, 12, 123, 124, 125, 126, 127, 128, 129, 130, 131, 132, 133, 134, 135, 136, 137, 138, 139, 140, 141, 142, 143, 144, 145, 146, 147, 148, 149, 150, 151, 152, 153, 154, 46, 47, 52, 155, 156, 157, 158, 159, 160, 161, 162, 163, 164, 165, 166, 167, 168, 169, 170, 177, 178, 179, 180, 181, 182, 183, 184, 185, 186, 187, 191, 192, 193, 194, 171, 172, 173, 174, 175, 176] (by decide +kernel) (by decide +kernel)
set_option maxRecDepth 20000 in
theorem gX8_price_X8_letIn : GoodIn wsX8_price (wsV RX8 183 RX8 yX8_letIn wsX8_letIn) := goodIn_app (goodIn_of _ (by decide +kernel)) ggX8_price_X8_letIn
theorem dX8_price_0 : decode cX8_price 0 = .ok (.aload_n 0, 1) := by decide +kernel
theorem dX8_price_1 : decode cX8_price 1 = .ok (.getfield 23, 3) := by decide +kernel
theorem dX8_price_4 : decode cX8_price 4 = .ok (.iload_n 1, 1) := by decide +kernel
theorem dX8_price_5 : decode cX8_price 5 = .ok (.invokevirtual 99, 3) := by decide +kernel
theorem dX8_price_8 : decode cX8_price 8 = .ok (.ifCond .ne 5, 3) := by decide +kernel
theorem dX8_price_11 : decode cX8_price 11 = .ok (.iconst (-1), 1) := by decide +kernel
theorem dX8_price_12 : decode cX8_price 12 = .ok (.ireturn, 1) := by decide +kernel
theorem dX8_price_13 : decode cX8_price 13 = .ok (.iload_n 2, 1) := by decide +kernel
theorem dX8_price_14 : decode cX8_price 14 = .ok (.invokestatic 162, 3) := by decide +kernel
theorem dX8_price_17 : decode cX8_price 17 = .ok (.ifCond .ne 6, 3) := by decide +kernel
theorem dX8_price_20 : decode cX8_price 20 = .ok (.bipush (-2), 2) := by decide +kernel
theorem dX8_price_22 : decode cX8_price 22 = .ok (.ireturn, 1) := by decide +kernel
theorem dX8_price_23 : decode cX8_price 23 = .ok (.aload_n 0, 1) := by decide +kernel
theorem dX8_price_24 : decode cX8_price 24 = .ok (.getfield 29, 3) := by decide +kernel
theorem dX8_price_27 : decode cX8_price 27 = .ok (.iload_n 1, 1) := by decide +kernel
theorem dX8_price_28 : decode cX8_price 28 = .ok (.invokevirtual 102, 3) := by decide +kernel
theorem dX8_price_31 : decode cX8_price 31 = .ok (.istore_n 3, 1) := by decide +kernel
theorem dX8_price_32 : decode cX8_price 32 = .ok (.aload_n 0, 1) := by decide +kernel
theorem dX8_price_33 : decode cX8_price 33 = .ok (.getfield 39, 3) := by decide +kernel
theorem dX8_price_36 : decode cX8_price 36 = .ok (.aload_n 0, 1) := by decide +kernel
theorem dX8_price_37 : decode cX8_price 37 = .ok (.getfield 29, 3) := by decide +kernel
theorem dX8_price_40 : decode cX8_price 40 = .ok (.invokevirtual 172, 3) := by decide +kernel
theorem dX8_price_43 : decode cX8_price 43 = .ok (.aload_n 0, 1) := by decide +kernel
theorem dX8_price_44 : decode cX8_price 44 = .ok (.getfield 29, 3) := by decide +kernel
theorem dX8_price_47 : decode cX8_price 47 = .ok (.iload_n 1, 1) := by decide +kernel
theorem dX8_price_48 : decode cX8_price 48 = .ok (.iload_n 2, 1) := by decide +kernel
theorem dX8_price_49 : decode cX8_price 49 = .ok (.invokevirtual 206, 3) := by decide +kernel
theorem dX8_price_52 : decode cX8_price 52 = .ok (.aload_n 0, 1) := by decide +kernel
theorem dX8_price_53 : decode cX8_price 53 = .ok (.aload_n 0, 1) := by decide +kernel
theorem dX8_price_54 : decode cX8_price 54 = .ok (.getfield 29, 3) := by decide +kernel
theorem dX8_price_57 : decode cX8_price 57 = .ok (.invokevirtual 183, 3) := by decide +kernel
theorem dX8_price_60 : decode cX8_price 60 = .ok (.iload_n 3, 1) := by decide +kernel
theorem dX8_price_61 : decode cX8_price 61 = .ok (.ireturn, 1) := by decide +kernel
set_option maxRecDepth 20000 in
theorem ggX8_fee_X0_currentFee : GoodIn wsX8_fee wsX0_currentFee := goodIn_r _ [7, 8, 54, 55, 56, 57, 58, 59, 60, 61, 62, 63, 64] (by decide +kernel) (by decide +kernel)
set_option maxRecDepth 20000 in
theorem gX8_fee_X0_currentFee : GoodIn wsX8_fee (wsV RX8 209 RX0 yX0_currentFee wsX0_currentFee) := goodIn_app (goodIn_of _ (by decide +kernel)) ggX8_fee_X0_currentFee
set_option maxRecDepth 20000 in
theorem ggX8_fee_X3_remember : GoodIn wsX8_fee wsX3_remember := goodIn_r _ [13, 14, 15, 16, 17, 18, 19, 20, 21, 22, 23, 6, 24, 25, 26, 27, 28, 29, 30, 31, 32, 33, 34, 35, 36, 37, 8, 38, 65, 66, 67, 54, 55, 56, 57, 58, 59, 60, 61, 62, 63, 64] (by decide +kernel) (by decide +kernel)
set_option maxRecDepth 20000 in
theorem gX8_fee_X3_remember : GoodIn wsX8_fee (wsV RX8 172 RX3 yX3_remember wsX3_remember) := goodIn_app (goodIn_of _ (by decide +kernel)) ggX8_fee_X3_remember
set_option maxRecDepth 20000 in
theorem ggX8_fee_X0_setFee : GoodIn wsX8_fee wsX0_setFee := goodIn_r _ [42, 8, 54, 55, 56, 57, 58, 59, 60, 61, 62, 63, 64] (by decide +kernel) (by decide +kernel)
set_option maxRecDepth 20000 in
theorem gX8_fee_X0_setFee : GoodIn wsX8_fee (wsV RX8 212 RX0 yX0_setFee wsX0_setFee) := goodIn_app (goodIn_of _ (by decide +kernel)) ggX8_fee_X0_setFee
theorem dX8_fee_0 : decode cX8_fee 0 = .ok (.iload_n 1, 1) := by decide +kernel
theorem dX8_fee_1 : decode cX8_fee 1 = .ok (.ifCond .lt 9, 3) := by decide +kernel
theorem dX8_fee_4 : decode cX8_fee 4 = .ok (.iload_n 1, 1) := by decide +kernel
theorem dX8_fee_5 : decode cX8_fee 5 = .ok (.bipush 9, 2) := by decide +kernel
theorem dX8_fee_7 : decode cX8_fee 7 = .ok (.if_icmp .le 6, 3) := by decide +kernel
theorem dX8_fee_10 : decode cX8_fee 10 = .ok (.bipush (-2), 2) := by decide +kernel
theorem dX8_fee_12 : decode cX8_fee 12 = .ok (.ireturn, 1) := by decide +kernel
theorem dX8_fee_13 : decode cX8_fee 13 = .ok (.aload_n 0, 1) := by decide +kernel
theorem dX8_fee_14 : decode cX8_fee 14 = .ok (.getfield 29, 3) := by decide +kernel
theorem dX8_fee_17 : decode cX8_fee 17 = .ok (.invokevirtual 209, 3) := by decide +kernel
theorem dX8_fee_20 : decode cX8_fee 20 = .ok (.istore_n 2, 1) := by decide +kernel
theorem dX8_fee_21 : decode cX8_fee 21 = .ok (.aload_n 0, 1) := by decide +kernel
theorem dX8_fee_22 : decode cX8_fee 22 = .ok (.getfield 39, 3) := by decide +kernel
theorem dX8_fee_25 : decode cX8_fee 25 = .ok (.aload_n 0, 1) := by decide +kernel
theorem dX8_fee_26 : decode cX8_fee 26 = .ok (.getfield 29, 3) := by decide +kernel
theorem dX8_fee_29 : decode cX8_fee 29 = .ok (.invokevirtual 172, 3) := by decide +kernel
theorem dX8_fee_32 : decode cX8_fee 32 = .ok (.aload_n 0, 1) := by decide +kernel
theorem dX8_fee_33 : decode cX8_fee 33 = .ok (.getfield 29, 3) := by decide +kernel
theorem dX8_fee_36 : decode cX8_fee 36 = .ok (.iload_n 1, 1) := by decide +kernel
theorem dX8_fee_37 : decode cX8_fee 37 = .ok (.invokevirtual 212, 3) := by decide +kernel
theorem dX8_fee_40 : decode cX8_fee 40 = .ok (.iload_n 2, 1) := by decide +kernel
theorem dX8_fee_41 : decode cX8_fee 41 = .ok (.ireturn, 1) := by decide +kernel
set_option maxRecDepth 20000 in
theorem ggX8_undo_X3_acts : GoodIn wsX8_undo wsX3_acts := goodIn_r _ [7, 8, 46, 47, 48] (by decide +kernel) (by decide +kernel)
set_option maxRecDepth 20000 in
theorem gX8_undo_X3_acts : GoodIn wsX8_undo (wsV RX8 215 RX3 yX3_acts wsX3_acts) := goodIn_app (goodIn_of _ (by decide +kernel)) ggX8_undo_X3_acts
set_option maxRecDepth 20000 in
theorem ggX8_undo_X3_restore : GoodIn wsX8_undo wsX3_restore := goodIn_r _ [12, 13, 8, 14, 15, 16, 17, 18, 19, 20, 21, 22, 23, 24, 25, 26, 27, 28, 29, 30, 31, 32, 33, 34, 46, 47, 48, 49, 50, 51, 52, 53, 54, 55, 56, 57, 58, 59] (by decide +kernel) (by decide +kernel)
set_option maxRecDepth 20000 in
theorem gX8_undo_X3_restore : GoodIn wsX8_undo (wsV RX8 218 RX3 yX3_restore wsX3_restore) := goodIn_app (goodIn_of _ (by decide +kernel)) ggX8_undo_X3_restore
theorem dX8_undo_0 : decode cX8_undo 0 = .ok (.aload_n 0, 1) := by decide +kernel
theorem dX8_undo_1 : decode cX8_undo 1 = .ok (.getfield 39, 3) := by decide +kernel
theorem dX8_undo_4 : decode cX8_undo 4 = .ok (.invokevirtual 215, 3) := by decide +kernel
theorem dX8_undo_7 : decode cX8_undo 7 = .ok (.ifCond .ne 6, 3) := by decide +kernel
theorem dX8_undo_10 : decode cX8_undo 10 = .ok (.bipush (-3), 2) := by decide +kernel
theorem dX8_undo_12 : decode cX8_undo 12 = .ok (.ireturn, 1) := by decide +kernel
theorem dX8_undo_13 : decode cX8_undo 13 = .ok (.aload_n 0, 1) := by decide +kernel
theorem dX8_undo_14 : decode cX8_undo 14 = .ok (.getfield 39, 3) := by decide +kernel
theorem dX8_undo_17 : decode cX8_undo 17 = .ok (.aload_n 0, 1) := by decide +kernel
theorem dX8_undo_18 : decode cX8_undo 18 = .ok (.getfield 29, 3) := by decide +kernel
theorem dX8_undo_21 : decode cX8_undo 21 = .ok (.invokevirtual 218, 3) := by decide +kernel
theorem dX8_undo_24 : decode cX8_undo 24 = .ok (.aload_n 0, 1) := by decide +kernel
theorem dX8_undo_25 : decode cX8_undo 25 = .ok (.getfield 39, 3) := by decide +kernel
theorem dX8_undo_28 : decode cX8_undo 28 = .ok (.invokevirtual 215, 3) := by decide +kernel
theorem dX8_undo_31 : decode cX8_undo 31 = .ok (.ireturn, 1) := by decide +kernel
set_option maxRecDepth 20000 in
theorem ggX8_best_X8_isSize : GoodIn wsX8_best wsX8_isSize := goodIn_r _ [7] (by decide +kernel) (by decide +kernel)
set_option maxRecDepth 20000 in
theorem gX8_best_X8_isSize : GoodIn wsX8_best (va_wsS RX8 159 yX8_isSize wsX8_isSize) := goodIn_app (goodIn_of _ (by decide +kernel)) ggX8_best_X8_isSize
set_option maxRecDepth 20000 in
theorem ggX8_best_X8_isPrice : GoodIn wsX8_best wsX8_isPrice := goodIn_r _ [10] (by decide +kernel) (by decide +kernel)
set_option maxRecDepth 20000 in
theorem gX8_best_X8_isPrice : GoodIn wsX8_best (va_wsS RX8 162 yX8_isPrice wsX8_isPrice) := goodIn_app (goodIn_of _ (by decide +kernel)) ggX8_best_X8_isPrice
set_option maxRecDepth 20000 in
theorem ggX8_best_X1_look : GoodIn wsX8_best wsX1_look := goodIn_r _ [15, 16, 17, 18, 19, 20, 21, 22, 23, 24, 25, 26, 27, 28, 29, 30, 31, 32, 33, 34, 35, 36, 37, 14, 38, 39, 40, 41, 42, 43, 44, 45, 46, 47, 48, 49, 50, 51, 52, 53, 54, 55, 56, 57, 58, 59, 60, 61, 62, 63, 64, 65, 6, 66, 67, 68, 69, 70, 71, 72, 73, 74, 75, 76, 77, 78, 79, 80, 81, 82, 83, 84, 85, 105, 106, 107, 108, 109, 110, 111, 112, 113, 114, 115, 116, 117, 118, 119, 120, 121, 122, 123, 124, 125] (by decide +kernel) (by decide +kernel)
set_option maxRecDepth 20000 in
theorem gX8_best_X1_look : GoodIn wsX8_best (wsV RX8 165 RX1 yX1_look wsX1_look) := goodIn_app (goodIn_of _ (by decide +kernel)) ggX8_best_X1_look
set_option maxRecDepth 20000 in
theorem ggX8_best_X1_places : GoodIn wsX8_best wsX1_places := goodIn_r _ [89, 16, 105, 106, 107, 108] (by decide +kernel) (by decide +kernel)
set_option maxRecDepth 20000 in
theorem gX8_best_X1_places : GoodIn wsX8_best (wsV RX8 221 RX1 yX1_places wsX1_places) := goodIn_app (goodIn_of _ (by decide +kernel)) ggX8_best_X1_places
set_option maxRecDepth 20000 in
theorem ggX8_best_X1_quality : GoodIn wsX8_best wsX1_quality := goodIn_r _ [93, 18, 105, 106, 107, 108] (by decide +kernel) (by decide +kernel)
set_option maxRecDepth 20000 in
theorem gX8_best_X1_quality : GoodIn wsX8_best (wsV RX8 196 RX1 yX1_quality wsX1_quality) := goodIn_app (goodIn_of _ (by decide +kernel)) ggX8_best_X1_quality
theorem dX8_best_0 : decode cX8_best 0 = .ok (.iload_n 1, 1) := by decide +kernel
theorem dX8_best_1 : decode cX8_best 1 = .ok (.invokestatic 159, 3) := by decide +kernel
theorem dX8_best_4 : decode cX8_best 4 = .ok (.ifCond .eq 19, 3) := by decide +kernel
theorem dX8_best_7 : decode cX8_best 7 = .ok (.iload_n 2, 1) := by decide +kernel
theorem dX8_best_8 : decode cX8_best 8 = .ok (.invokestatic 162, 3) := by decide +kernel
theorem dX8_best_11 : decode cX8_best 11 = .ok (.ifCond .eq 12, 3) := by decide +kernel
theorem dX8_best_14 : decode cX8_best 14 = .ok (.iload_n 3, 1) := by decide +kernel
theorem dX8_best_15 : decode cX8_best 15 = .ok (.ifCond .lt 8, 3) := by decide +kernel
theorem dX8_best_18 : decode cX8_best 18 = .ok (.iload_n 3, 1) := by decide +kernel
theorem dX8_best_19 : decode cX8_best 19 = .ok (.iconst 2, 1) := by decide +kernel
theorem dX8_best_20 : decode cX8_best 20 = .ok (.if_icmp .le 6, 3) := by decide +kernel
theorem dX8_best_23 : decode cX8_best 23 = .ok (.bipush (-2), 2) := by decide +kernel
theorem dX8_best_25 : decode cX8_best 25 = .ok (.ireturn, 1) := by decide +kernel
theorem dX8_best_26 : decode cX8_best 26 = .ok (.aload_n 0, 1) := by decide +kernel
theorem dX8_best_27 : decode cX8_best 27 = .ok (.getfield 60, 3) := by decide +kernel
theorem dX8_best_30 : decode cX8_best 30 = .ok (.aload_n 0, 1) := by decide +kernel
theorem dX8_best_31 : decode cX8_best 31 = .ok (.getfield 23, 3) := by decide +kernel
theorem dX8_best_34 : decode cX8_best 34 = .ok (.aload_n 0, 1) := by decide +kernel
theorem dX8_best_35 : decode cX8_best 35 = .ok (.getfield 29, 3) := by decide +kernel
theorem dX8_best_38 : decode cX8_best 38 = .ok (.iload_n 1, 1) := by decide +kernel
theorem dX8_best_39 : decode cX8_best 39 = .ok (.iload_n 2, 1) := by decide +kernel
theorem dX8_best_40 : decode cX8_best 40 = .ok (.iconst 0, 1) := by decide +kernel
theorem dX8_best_41 : decode cX8_best 41 = .ok (.bipush 15, 2) := by decide +kernel
theorem dX8_best_43 : decode cX8_best 43 = .ok (.invokevirtual 165, 3) := by decide +kernel
theorem dX8_best_46 : decode cX8_best 46 = .ok (.istore 4, 2) := by decide +kernel
theorem dX8_best_48 : decode cX8_best 48 = .ok (.iload_n 3, 1) := by decide +kernel
theorem dX8_best_49 : decode cX8_best 49 = .ok (.iconst 2, 1) := by decide +kernel
theorem dX8_best_50 : decode cX8_best 50 = .ok (.if_icmp .ne 11, 3) := by decide +kernel
theorem dX8_best_53 : decode cX8_best 53 = .ok (.aload_n 0, 1) := by decide +kernel
theorem dX8_best_54 : decode cX8_best 54 = .ok (.getfield 60, 3) := by decide +kernel
theorem dX8_best_57 : decode cX8_best 57 = .ok (.invokevirtual 221, 3) := by decide +kernel
theorem dX8_best_60 : decode cX8_best 60 = .ok (.ireturn, 1) := by decide +kernel
theorem dX8_best_61 : decode cX8_best 61 = .ok (.iload 4, 2) := by decide +kernel
theorem dX8_best_63 : decode cX8_best 63 = .ok (.bipush (-9), 2) := by decide +kernel
theorem dX8_best_65 : decode cX8_best 65 = .ok (.if_icmp .ne 6, 3) := by decide +kernel
theorem dX8_best_68 : decode cX8_best 68 = .ok (.bipush (-9), 2) := by decide +kernel
theorem dX8_best_70 : decode cX8_best 70 = .ok (.ireturn, 1) := by decide +kernel
theorem dX8_best_71 : decode cX8_best 71 = .ok (.iload_n 3, 1) := by decide +kernel
theorem dX8_best_72 : decode cX8_best 72 = .ok (.ifCond .ne 8, 3) := by decide +kernel
theorem dX8_best_75 : decode cX8_best 75 = .ok (.iload 4, 2) := by decide +kernel
theorem dX8_best_77 : decode cX8_best 77 = .ok (.goto 10, 3) := by decide +kernel
theorem dX8_best_80 : decode cX8_best 80 = .ok (.aload_n 0, 1) := by decide +kernel
theorem dX8_best_81 : decode cX8_best 81 = .ok (.getfield 60, 3) := by decide +kernel
theorem dX8_best_84 : decode cX8_best 84 = .ok (.invokevirtual 196, 3) := by decide +kernel
theorem dX8_best_87 : decode cX8_best 87 = .ok (.ireturn, 1) := by decide +kernel
set_option maxRecDepth 20000 in
theorem ggX8_room_X8_isSize : GoodIn wsX8_room wsX8_isSize := goodIn_r _ [8] (by decide +kernel) (by decide +kernel)
set_option maxRecDepth 20000 in
theorem gX8_room_X8_isSize : GoodIn wsX8_room (va_wsS RX8 159 yX8_isSize wsX8_isSize) := goodIn_app (goodIn_of _ (by decide +kernel)) ggX8_room_X8_isSize
set_option maxRecDepth 20000 in
theorem ggX8_room_X0_copyFrom : GoodIn wsX8_room wsX0_copyFrom := goodIn_r _ [13, 14, 15, 16, 17, 18, 19, 20, 21, 22, 23, 24, 25, 26, 27, 28, 116, 117, 118, 119, 120, 121, 122, 123, 124, 125, 126] (by decide +kernel) (by decide +kernel)
set_option maxRecDepth 20000 in
theorem gX8_room_X0_copyFrom : GoodIn wsX8_room (wsV RX8 224 RX0 yX0_copyFrom wsX0_copyFrom) := goodIn_app (goodIn_of _ (by decide +kernel)) ggX8_room_X0_copyFrom
set_option maxRecDepth 20000 in
theorem ggX8_room_X1_look : GoodIn wsX8_room wsX1_look := goodIn_r _ [33, 34, 35, 36, 37, 38, 39, 40, 41, 42, 43, 44, 45, 46, 12, 47, 14, 48, 49, 50, 51, 52, 53, 32, 54, 55, 56, 57, 58, 19, 59, 60, 61, 62, 63, 64, 65, 66, 67, 68, 69, 70, 71, 72, 73, 74, 75, 76, 77, 78, 79, 80, 7, 81, 82, 83, 84, 85, 86, 87, 88, 89, 90, 91, 92, 93, 94, 95, 96, 97, 98, 99, 100, 127, 128, 129, 130, 131, 132, 133, 134, 135, 136, 116, 117, 118, 119, 120, 121, 122, 123, 124, 125, 126] (by decide +kernel) (by decide +kernel)
set_option maxRecDepth 20000 in
theorem gX8_room_X1_look : GoodIn wsX8_room (wsV RX8 165 RX1 yX1_look wsX1_look) := goodIn_app (goodIn_of _ (by decide +kernel)) ggX8_room_X1_look
set_option maxRecDepth 20000 in
theorem ggX8_room_X0_take : GoodIn wsX8_room wsX0_take := goodIn_r _ [104, 19, 93, 7, 94, 48, 49, 12, 50, 95, 96, 80, 81, 116, 117, 118, 119, 120, 121, 122, 123, 124, 125, 126] (by decide +kernel) (by decide +kernel)
set_option maxRecDepth 20000 in
theorem gX8_room_X0_take : GoodIn wsX8_room (wsV RX8 227 RX0 yX0_take wsX0_take) := goodIn_app (goodIn_of _ (by decide +kernel)) ggX8_room_X0_take
theorem dX8_room_0 : decode cX8_room 0 = .ok (.iload_n 1, 1) := by decide +kernel
theorem dX8_room_1 : decode cX8_room 1 = .ok (.invokestatic 159, 3) := by decide +kernel
theorem dX8_room_4 : decode cX8_room 4 = .ok (.ifCond .ne 6, 3) := by decide +kernel
theorem dX8_room_7 : decode cX8_room 7 = .ok (.bipush (-2), 2) := by decide +kernel
theorem dX8_room_9 : decode cX8_room 9 = .ok (.ireturn, 1) := by decide +kernel
theorem dX8_room_10 : decode cX8_room 10 = .ok (.aload_n 0, 1) := by decide +kernel
theorem dX8_room_11 : decode cX8_room 11 = .ok (.getfield 33, 3) := by decide +kernel
theorem dX8_room_14 : decode cX8_room 14 = .ok (.aload_n 0, 1) := by decide +kernel
theorem dX8_room_15 : decode cX8_room 15 = .ok (.getfield 29, 3) := by decide +kernel
theorem dX8_room_18 : decode cX8_room 18 = .ok (.invokevirtual 224, 3) := by decide +kernel
theorem dX8_room_21 : decode cX8_room 21 = .ok (.iconst 0, 1) := by decide +kernel
theorem dX8_room_22 : decode cX8_room 22 = .ok (.istore_n 2, 1) := by decide +kernel
theorem dX8_room_23 : decode cX8_room 23 = .ok (.iload_n 2, 1) := by decide +kernel
theorem dX8_room_24 : decode cX8_room 24 = .ok (.bipush 36, 2) := by decide +kernel
theorem dX8_room_26 : decode cX8_room 26 = .ok (.if_icmp .ge 48, 3) := by decide +kernel
theorem dX8_room_29 : decode cX8_room 29 = .ok (.aload_n 0, 1) := by decide +kernel
theorem dX8_room_30 : decode cX8_room 30 = .ok (.getfield 60, 3) := by decide +kernel
theorem dX8_room_33 : decode cX8_room 33 = .ok (.aload_n 0, 1) := by decide +kernel
theorem dX8_room_34 : decode cX8_room 34 = .ok (.getfield 23, 3) := by decide +kernel
theorem dX8_room_37 : decode cX8_room 37 = .ok (.aload_n 0, 1) := by decide +kernel
theorem dX8_room_38 : decode cX8_room 38 = .ok (.getfield 33, 3) := by decide +kernel
theorem dX8_room_41 : decode cX8_room 41 = .ok (.iload_n 1, 1) := by decide +kernel
theorem dX8_room_42 : decode cX8_room 42 = .ok (.bipush 9, 2) := by decide +kernel
theorem dX8_room_44 : decode cX8_room 44 = .ok (.iconst 0, 1) := by decide +kernel
theorem dX8_room_45 : decode cX8_room 45 = .ok (.bipush 15, 2) := by decide +kernel
theorem dX8_room_47 : decode cX8_room 47 = .ok (.invokevirtual 165, 3) := by decide +kernel
theorem dX8_room_50 : decode cX8_room 50 = .ok (.istore_n 3, 1) := by decide +kernel
theorem dX8_room_51 : decode cX8_room 51 = .ok (.iload_n 3, 1) := by decide +kernel
theorem dX8_room_52 : decode cX8_room 52 = .ok (.bipush (-9), 2) := by decide +kernel
theorem dX8_room_54 : decode cX8_room 54 = .ok (.if_icmp .ne 5, 3) := by decide +kernel
theorem dX8_room_57 : decode cX8_room 57 = .ok (.iload_n 2, 1) := by decide +kernel
theorem dX8_room_58 : decode cX8_room 58 = .ok (.ireturn, 1) := by decide +kernel
theorem dX8_room_59 : decode cX8_room 59 = .ok (.aload_n 0, 1) := by decide +kernel
theorem dX8_room_60 : decode cX8_room 60 = .ok (.getfield 33, 3) := by decide +kernel
theorem dX8_room_63 : decode cX8_room 63 = .ok (.iload_n 3, 1) := by decide +kernel
theorem dX8_room_64 : decode cX8_room 64 = .ok (.iload_n 1, 1) := by decide +kernel
theorem dX8_room_65 : decode cX8_room 65 = .ok (.invokevirtual 227, 3) := by decide +kernel
theorem dX8_room_68 : decode cX8_room 68 = .ok (.iinc 2 1, 3) := by decide +kernel
theorem dX8_room_71 : decode cX8_room 71 = .ok (.goto (-48), 3) := by decide +kernel
theorem dX8_room_74 : decode cX8_room 74 = .ok (.bipush 36, 2) := by decide +kernel
theorem dX8_room_76 : decode cX8_room 76 = .ok (.ireturn, 1) := by decide +kernel
set_option maxRecDepth 20000 in
theorem ggX8_waits_X0_waitingAt : GoodIn wsX8_waits wsX0_waitingAt := goodIn_r _ [6, 7, 8, 20, 21, 22, 23, 24, 25, 26, 27, 28, 29, 30] (by decide +kernel) (by decide +kernel)
set_option maxRecDepth 20000 in
theorem gX8_waits_X0_waitingAt : GoodIn wsX8_waits (wsV RX8 230 RX0 yX0_waitingAt wsX0_waitingAt) := goodIn_app (goodIn_of _ (by decide +kernel)) ggX8_waits_X0_waitingAt
theorem dX8_waits_0 : decode cX8_waits 0 = .ok (.aload_n 0, 1) := by decide +kernel
theorem dX8_waits_1 : decode cX8_waits 1 = .ok (.getfield 29, 3) := by decide +kernel
theorem dX8_waits_4 : decode cX8_waits 4 = .ok (.iload_n 1, 1) := by decide +kernel
theorem dX8_waits_5 : decode cX8_waits 5 = .ok (.invokevirtual 230, 3) := by decide +kernel
theorem dX8_waits_8 : decode cX8_waits 8 = .ok (.ireturn, 1) := by decide +kernel
set_option maxRecDepth 20000 in
theorem ggX8_judge_X0_copyFrom : GoodIn wsX8_judge wsX0_copyFrom := goodIn_r _ [9, 10, 11, 12, 13, 14, 15, 16, 17, 18, 19, 20, 21, 22, 23, 24, 221, 222, 223, 224, 225, 226, 227, 228, 229, 230, 231] (by decide +kernel) (by decide +kernel)
set_option maxRecDepth 20000 in
theorem gX8_judge_X0_copyFrom : GoodIn wsX8_judge (wsV RX8 224 RX0 yX0_copyFrom wsX0_copyFrom) := goodIn_app (goodIn_of _ (by decide +kernel)) ggX8_judge_X0_copyFrom
set_option maxRecDepth 20000 in
theorem ggX8_judge_X8_holds : GoodIn wsX8_judge wsX8_holds := goodIn_r _ [29, 30, 2, 31, 32, 33, 34, 28, 35, 36, 37, 38, 39, 40, 41, 42, 43, 44, 45, 46, 47, 48, 49, 50, 51, 52, 53, 54, 55, 56, 57, 58, 59, 8, 60, 10, 61, 62, 63, 64, 65, 66, 67, 68, 69, 70, 71, 15, 72, 73, 74, 75, 76, 77, 78, 79, 80, 81, 82, 83, 84, 85, 86, 87, 88, 89, 90, 91, 92, 93, 94, 95, 96, 97, 98, 99, 100, 101, 102, 103, 104, 105, 106, 107, 108, 109, 110, 111, 112, 113, 114, 115, 116, 117, 21, 22, 118, 119, 120, 121, 16, 17, 18, 19, 20, 122, 123, 124, 125, 126, 24, 127, 128, 129, 130, 131, 132, 133, 134, 135, 136, 137, 138, 139, 140, 141, 142, 143, 144, 145, 146, 147, 148, 149, 150, 151, 23, 152, 153, 154, 155, 156, 157, 158, 159, 160, 161, 162, 163, 164, 165, 166, 167, 168, 169, 170, 171, 172, 173, 174, 175, 176, 177, 178, 179, 180, 181, 182, 183, 184, 185, 186, 187, 188, 189, 190, 191, 192, 193, 194, 195, 196, 197, 198, 199, 200, 201, 202, 203, 204, 205, 206, 207, 208, 209, 210, 211, 212, 213, 214, 215, 216, 217, 218, 219, 220, 232, 233, 234, 235, 236, 237, 238, 239, 240, 241, 221, 222, 223, 224, 225, 226, 227, 228, 229, 230, 231] (by decide +kernel) (by decide +kernel)
set_option maxRecDepth 20000 in
theorem gX8_judge_X8_holds : GoodIn wsX8_judge (wsV RX8 237 RX8 yX8_holds wsX8_holds) := goodIn_app (goodIn_of _ (by decide +kernel)) ggX8_judge_X8_holds
theorem dX8_judge_0 : decode cX8_judge 0 = .ok (.iload_n 1, 1) := by decide +kernel
theorem dX8_judge_1 : decode cX8_judge 1 = .ok (.iconst 1, 1) := by decide +kernel
theorem dX8_judge_2 : decode cX8_judge 2 = .ok (.if_icmp .lt 14, 3) := by decide +kernel
theorem dX8_judge_5 : decode cX8_judge 5 = .ok (.iload_n 1, 1) := by decide +kernel
theorem dX8_judge_6 : decode cX8_judge 6 = .ok (.iconst 4, 1) := by decide +kernel
theorem dX8_judge_7 : decode cX8_judge 7 = .ok (.if_icmp .gt 9, 3) := by decide +kernel
theorem dX8_judge_10 : decode cX8_judge 10 = .ok (.lload_n 2, 1) := by decide +kernel
theorem dX8_judge_11 : decode cX8_judge 11 = .ok (.lconst 0, 1) := by decide +kernel
theorem dX8_judge_12 : decode cX8_judge 12 = .ok (.lcmp, 1) := by decide +kernel
theorem dX8_judge_13 : decode cX8_judge 13 = .ok (.ifCond .ge 6, 3) := by decide +kernel
theorem dX8_judge_16 : decode cX8_judge 16 = .ok (.bipush (-2), 2) := by decide +kernel
theorem dX8_judge_18 : decode cX8_judge 18 = .ok (.ireturn, 1) := by decide +kernel
theorem dX8_judge_19 : decode cX8_judge 19 = .ok (.lconst 1, 1) := by decide +kernel
theorem dX8_judge_20 : decode cX8_judge 20 = .ok (.lstore 4, 2) := by decide +kernel
theorem dX8_judge_22 : decode cX8_judge 22 = .ok (.iconst 0, 1) := by decide +kernel
theorem dX8_judge_23 : decode cX8_judge 23 = .ok (.istore 6, 2) := by decide +kernel
theorem dX8_judge_25 : decode cX8_judge 25 = .ok (.iload 6, 2) := by decide +kernel
theorem dX8_judge_27 : decode cX8_judge 27 = .ok (.iload_n 1, 1) := by decide +kernel
theorem dX8_judge_28 : decode cX8_judge 28 = .ok (.if_icmp .ge 17, 3) := by decide +kernel
theorem dX8_judge_31 : decode cX8_judge 31 = .ok (.lload 4, 2) := by decide +kernel
theorem dX8_judge_33 : decode cX8_judge 33 = .ok (.ldc2_w 233, 3) := by decide +kernel
theorem dX8_judge_36 : decode cX8_judge 36 = .ok (.lmul, 1) := by decide +kernel
theorem dX8_judge_37 : decode cX8_judge 37 = .ok (.lstore 4, 2) := by decide +kernel
theorem dX8_judge_39 : decode cX8_judge 39 = .ok (.iinc 6 1, 3) := by decide +kernel
theorem dX8_judge_42 : decode cX8_judge 42 = .ok (.goto (-17), 3) := by decide +kernel
theorem dX8_judge_45 : decode cX8_judge 45 = .ok (.lload_n 2, 1) := by decide +kernel
theorem dX8_judge_46 : decode cX8_judge 46 = .ok (.lload 4, 2) := by decide +kernel
theorem dX8_judge_48 : decode cX8_judge 48 = .ok (.lcmp, 1) := by decide +kernel
theorem dX8_judge_49 : decode cX8_judge 49 = .ok (.ifCond .lt 6, 3) := by decide +kernel
theorem dX8_judge_52 : decode cX8_judge 52 = .ok (.bipush (-2), 2) := by decide +kernel
theorem dX8_judge_54 : decode cX8_judge 54 = .ok (.ireturn, 1) := by decide +kernel
theorem dX8_judge_55 : decode cX8_judge 55 = .ok (.lload_n 2, 1) := by decide +kernel
theorem dX8_judge_56 : decode cX8_judge 56 = .ok (.lstore 6, 2) := by decide +kernel
theorem dX8_judge_58 : decode cX8_judge 58 = .ok (.iload_n 1, 1) := by decide +kernel
theorem dX8_judge_59 : decode cX8_judge 59 = .ok (.istore 8, 2) := by decide +kernel
theorem dX8_judge_61 : decode cX8_judge 61 = .ok (.iload 8, 2) := by decide +kernel
theorem dX8_judge_63 : decode cX8_judge 63 = .ok (.iconst 4, 1) := by decide +kernel
theorem dX8_judge_64 : decode cX8_judge 64 = .ok (.if_icmp .ge 17, 3) := by decide +kernel
theorem dX8_judge_67 : decode cX8_judge 67 = .ok (.lload 6, 2) := by decide +kernel
theorem dX8_judge_69 : decode cX8_judge 69 = .ok (.ldc2_w 233, 3) := by decide +kernel
theorem dX8_judge_72 : decode cX8_judge 72 = .ok (.lmul, 1) := by decide +kernel
theorem dX8_judge_73 : decode cX8_judge 73 = .ok (.lstore 6, 2) := by decide +kernel
theorem dX8_judge_75 : decode cX8_judge 75 = .ok (.iinc 8 1, 3) := by decide +kernel
theorem dX8_judge_78 : decode cX8_judge 78 = .ok (.goto (-17), 3) := by decide +kernel
theorem dX8_judge_81 : decode cX8_judge 81 = .ok (.aload_n 0, 1) := by decide +kernel
theorem dX8_judge_82 : decode cX8_judge 82 = .ok (.getfield 33, 3) := by decide +kernel
theorem dX8_judge_85 : decode cX8_judge 85 = .ok (.aload_n 0, 1) := by decide +kernel
theorem dX8_judge_86 : decode cX8_judge 86 = .ok (.getfield 29, 3) := by decide +kernel
theorem dX8_judge_89 : decode cX8_judge 89 = .ok (.invokevirtual 224, 3) := by decide +kernel
theorem dX8_judge_92 : decode cX8_judge 92 = .ok (.iconst 0, 1) := by decide +kernel
theorem dX8_judge_93 : decode cX8_judge 93 = .ok (.istore 8, 2) := by decide +kernel
theorem dX8_judge_95 : decode cX8_judge 95 = .ok (.iload 8, 2) := by decide +kernel
theorem dX8_judge_97 : decode cX8_judge 97 = .ok (.iload_n 1, 1) := by decide +kernel
theorem dX8_judge_98 : decode cX8_judge 98 = .ok (.if_icmp .ge 38, 3) := by decide +kernel
theorem dX8_judge_101 : decode cX8_judge 101 = .ok (.aload_n 0, 1) := by decide +kernel
theorem dX8_judge_102 : decode cX8_judge 102 = .ok (.lload 6, 2) := by decide +kernel
theorem dX8_judge_104 : decode cX8_judge 104 = .ok (.ldc2_w 235, 3) := by decide +kernel
theorem dX8_judge_107 : decode cX8_judge 107 = .ok (.ldiv, 1) := by decide +kernel
theorem dX8_judge_108 : decode cX8_judge 108 = .ok (.l2i, 1) := by decide +kernel
theorem dX8_judge_109 : decode cX8_judge 109 = .ok (.invokevirtual 237, 3) := by decide +kernel
theorem dX8_judge_112 : decode cX8_judge 112 = .ok (.ifCond .ne 6, 3) := by decide +kernel
theorem dX8_judge_115 : decode cX8_judge 115 = .ok (.iload 8, 2) := by decide +kernel
theorem dX8_judge_117 : decode cX8_judge 117 = .ok (.ireturn, 1) := by decide +kernel
theorem dX8_judge_118 : decode cX8_judge 118 = .ok (.lload 6, 2) := by decide +kernel
theorem dX8_judge_120 : decode cX8_judge 120 = .ok (.ldc2_w 235, 3) := by decide +kernel
theorem dX8_judge_123 : decode cX8_judge 123 = .ok (.lrem, 1) := by decide +kernel
theorem dX8_judge_124 : decode cX8_judge 124 = .ok (.ldc2_w 233, 3) := by decide +kernel
theorem dX8_judge_127 : decode cX8_judge 127 = .ok (.lmul, 1) := by decide +kernel
theorem dX8_judge_128 : decode cX8_judge 128 = .ok (.lstore 6, 2) := by decide +kernel
theorem dX8_judge_130 : decode cX8_judge 130 = .ok (.iinc 8 1, 3) := by decide +kernel
theorem dX8_judge_133 : decode cX8_judge 133 = .ok (.goto (-38), 3) := by decide +kernel
theorem dX8_judge_136 : decode cX8_judge 136 = .ok (.bipush (-9), 2) := by decide +kernel
theorem dX8_judge_138 : decode cX8_judge 138 = .ok (.ireturn, 1) := by decide +kernel
set_option maxRecDepth 20000 in
theorem ggX8_see_X4_hasSeat : GoodIn wsX8_see wsX4_hasSeat := goodIn_r _ [7, 8, 9, 10, 11, 6, 12, 13, 38, 39, 40, 41, 42, 43] (by decide +kernel) (by decide +kernel)
set_option maxRecDepth 20000 in
theorem gX8_see_X4_hasSeat : GoodIn wsX8_see (wsV RX8 119 RX4 yX4_hasSeat wsX4_hasSeat) := goodIn_app (goodIn_of _ (by decide +kernel)) ggX8_see_X4_hasSeat
set_option maxRecDepth 20000 in
theorem ggX8_see_X5_add : GoodIn wsX8_see wsX5_add := goodIn_r _ [18, 19, 20, 21, 22, 44, 45, 46, 47] (by decide +kernel) (by decide +kernel)
set_option maxRecDepth 20000 in
theorem gX8_see_X5_add : GoodIn wsX8_see (wsV RX8 240 RX5 yX5_add wsX5_add) := goodIn_app (goodIn_of _ (by decide +kernel)) ggX8_see_X5_add
set_option maxRecDepth 20000 in
theorem ggX8_see_X5_number : GoodIn wsX8_see wsX5_number := goodIn_r _ [26, 19, 44, 45, 46, 47] (by decide +kernel) (by decide +kernel)
set_option maxRecDepth 20000 in
theorem gX8_see_X5_number : GoodIn wsX8_see (wsV RX8 244 RX5 yX5_number wsX5_number) := goodIn_app (goodIn_of _ (by decide +kernel)) ggX8_see_X5_number
theorem dX8_see_0 : decode cX8_see 0 = .ok (.aload_n 0, 1) := by decide +kernel
theorem dX8_see_1 : decode cX8_see 1 = .ok (.getfield 23, 3) := by decide +kernel
theorem dX8_see_4 : decode cX8_see 4 = .ok (.iload_n 1, 1) := by decide +kernel
theorem dX8_see_5 : decode cX8_see 5 = .ok (.iload_n 2, 1) := by decide +kernel
theorem dX8_see_6 : decode cX8_see 6 = .ok (.invokevirtual 119, 3) := by decide +kernel
theorem dX8_see_9 : decode cX8_see 9 = .ok (.ifCond .ne 5, 3) := by decide +kernel
theorem dX8_see_12 : decode cX8_see 12 = .ok (.iconst (-1), 1) := by decide +kernel
theorem dX8_see_13 : decode cX8_see 13 = .ok (.ireturn, 1) := by decide +kernel
theorem dX8_see_14 : decode cX8_see 14 = .ok (.iload_n 3, 1) := by decide +kernel
theorem dX8_see_15 : decode cX8_see 15 = .ok (.ifCond .lt 8, 3) := by decide +kernel
theorem dX8_see_18 : decode cX8_see 18 = .ok (.iload_n 3, 1) := by decide +kernel
theorem dX8_see_19 : decode cX8_see 19 = .ok (.iconst 1, 1) := by decide +kernel
theorem dX8_see_20 : decode cX8_see 20 = .ok (.if_icmp .le 6, 3) := by decide +kernel
theorem dX8_see_23 : decode cX8_see 23 = .ok (.bipush (-2), 2) := by decide +kernel
theorem dX8_see_25 : decode cX8_see 25 = .ok (.ireturn, 1) := by decide +kernel
theorem dX8_see_26 : decode cX8_see 26 = .ok (.aload_n 0, 1) := by decide +kernel
theorem dX8_see_27 : decode cX8_see 27 = .ok (.getfield 53, 3) := by decide +kernel
theorem dX8_see_30 : decode cX8_see 30 = .ok (.iload_n 1, 1) := by decide +kernel
theorem dX8_see_31 : decode cX8_see 31 = .ok (.iload_n 2, 1) := by decide +kernel
theorem dX8_see_32 : decode cX8_see 32 = .ok (.iload_n 3, 1) := by decide +kernel
theorem dX8_see_33 : decode cX8_see 33 = .ok (.iconst 1, 1) := by decide +kernel
theorem dX8_see_34 : decode cX8_see 34 = .ok (.if_icmp .ne 7, 3) := by decide +kernel
theorem dX8_see_37 : decode cX8_see 37 = .ok (.iconst 1, 1) := by decide +kernel
theorem dX8_see_38 : decode cX8_see 38 = .ok (.goto 4, 3) := by decide +kernel
theorem dX8_see_41 : decode cX8_see 41 = .ok (.iconst 0, 1) := by decide +kernel
theorem dX8_see_42 : decode cX8_see 42 = .ok (.invokevirtual 240, 3) := by decide +kernel
theorem dX8_see_45 : decode cX8_see 45 = .ok (.ifCond .eq 13, 3) := by decide +kernel
theorem dX8_see_48 : decode cX8_see 48 = .ok (.aload_n 0, 1) := by decide +kernel
theorem dX8_see_49 : decode cX8_see 49 = .ok (.getfield 53, 3) := by decide +kernel
theorem dX8_see_52 : decode cX8_see 52 = .ok (.invokevirtual 244, 3) := by decide +kernel
theorem dX8_see_55 : decode cX8_see 55 = .ok (.goto 5, 3) := by decide +kernel
theorem dX8_see_58 : decode cX8_see 58 = .ok (.bipush (-4), 2) := by decide +kernel
theorem dX8_see_60 : decode cX8_see 60 = .ok (.ireturn, 1) := by decide +kernel
set_option maxRecDepth 20000 in
theorem ggX8_unsee_X5_number : GoodIn wsX8_unsee wsX5_number := goodIn_r _ [6, 7, 23, 24, 25, 26] (by decide +kernel) (by decide +kernel)
set_option maxRecDepth 20000 in
theorem gX8_unsee_X5_number : GoodIn wsX8_unsee (wsV RX8 244 RX5 yX5_number wsX5_number) := goodIn_app (goodIn_of _ (by decide +kernel)) ggX8_unsee_X5_number
set_option maxRecDepth 20000 in
theorem ggX8_unsee_X5_clear : GoodIn wsX8_unsee wsX5_clear := goodIn_r _ [11, 7, 23, 24, 25, 26] (by decide +kernel) (by decide +kernel)
set_option maxRecDepth 20000 in
theorem gX8_unsee_X5_clear : GoodIn wsX8_unsee (wsV RX8 247 RX5 yX5_clear wsX5_clear) := goodIn_app (goodIn_of _ (by decide +kernel)) ggX8_unsee_X5_clear
theorem dX8_unsee_0 : decode cX8_unsee 0 = .ok (.aload_n 0, 1) := by decide +kernel
theorem dX8_unsee_1 : decode cX8_unsee 1 = .ok (.getfield 53, 3) := by decide +kernel
theorem dX8_unsee_4 : decode cX8_unsee 4 = .ok (.invokevirtual 244, 3) := by decide +kernel
theorem dX8_unsee_7 : decode cX8_unsee 7 = .ok (.istore_n 1, 1) := by decide +kernel
theorem dX8_unsee_8 : decode cX8_unsee 8 = .ok (.aload_n 0, 1) := by decide +kernel
theorem dX8_unsee_9 : decode cX8_unsee 9 = .ok (.getfield 53, 3) := by decide +kernel
theorem dX8_unsee_12 : decode cX8_unsee 12 = .ok (.invokevirtual 247, 3) := by decide +kernel
theorem dX8_unsee_15 : decode cX8_unsee 15 = .ok (.iload_n 1, 1) := by decide +kernel
theorem dX8_unsee_16 : decode cX8_unsee 16 = .ok (.ireturn, 1) := by decide +kernel
set_option maxRecDepth 20000 in
theorem ggX8_which_X0_asked : GoodIn wsX8_which wsX0_asked := goodIn_r _ [8, 9, 67, 68, 69, 70, 71, 72, 73, 74, 75, 76, 77] (by decide +kernel) (by decide +kernel)
set_option maxRecDepth 20000 in
theorem gX8_which_X0_asked : GoodIn wsX8_which (wsV RX8 248 RX0 yX0_asked wsX0_asked) := goodIn_app (goodIn_of _ (by decide +kernel)) ggX8_which_X0_asked
set_option maxRecDepth 20000 in
theorem ggX8_which_X0_isSeated : GoodIn wsX8_which wsX0_isSeated := goodIn_r _ [13, 14, 15, 16, 7, 17, 18, 19, 20, 21, 22, 9, 67, 68, 69, 70, 71, 72, 73, 74, 75, 76, 77] (by decide +kernel) (by decide +kernel)
set_option maxRecDepth 20000 in
theorem gX8_which_X0_isSeated : GoodIn wsX8_which (wsV RX8 135 RX0 yX0_isSeated wsX0_isSeated) := goodIn_app (goodIn_of _ (by decide +kernel)) ggX8_which_X0_isSeated
set_option maxRecDepth 20000 in
theorem ggX8_which_X5_allowAbsence : GoodIn wsX8_which wsX5_allowAbsence := goodIn_r _ [27, 28, 29, 30, 31, 32, 33, 34, 35, 36, 37, 38, 39, 40, 41, 42, 43, 44, 45, 7, 46, 9, 47, 48, 49, 14, 15, 16, 17, 18, 19, 20, 21, 22, 50, 11, 12, 13, 51, 52, 53, 54, 55, 78, 79, 80, 81, 82, 83, 84, 85, 86, 87, 67, 68, 69, 70, 71, 72, 73, 74, 75, 76, 77] (by decide +kernel) (by decide +kernel)
set_option maxRecDepth 20000 in
theorem gX8_which_X5_allowAbsence : GoodIn wsX8_which (wsV RX8 251 RX5 yX5_allowAbsence wsX5_allowAbsence) := goodIn_app (goodIn_of _ (by decide +kernel)) ggX8_which_X5_allowAbsence
theorem dX8_which_0 : decode cX8_which 0 = .ok (.iconst 0, 1) := by decide +kernel
theorem dX8_which_1 : decode cX8_which 1 = .ok (.istore_n 1, 1) := by decide +kernel
theorem dX8_which_2 : decode cX8_which 2 = .ok (.iconst 1, 1) := by decide +kernel
theorem dX8_which_3 : decode cX8_which 3 = .ok (.istore_n 2, 1) := by decide +kernel
theorem dX8_which_4 : decode cX8_which 4 = .ok (.iload_n 2, 1) := by decide +kernel
theorem dX8_which_5 : decode cX8_which 5 = .ok (.aload_n 0, 1) := by decide +kernel
theorem dX8_which_6 : decode cX8_which 6 = .ok (.getfield 29, 3) := by decide +kernel
theorem dX8_which_9 : decode cX8_which 9 = .ok (.invokevirtual 248, 3) := by decide +kernel
theorem dX8_which_12 : decode cX8_which 12 = .ok (.if_icmp .gt 45, 3) := by decide +kernel
theorem dX8_which_15 : decode cX8_which 15 = .ok (.aload_n 0, 1) := by decide +kernel
theorem dX8_which_16 : decode cX8_which 16 = .ok (.getfield 29, 3) := by decide +kernel
theorem dX8_which_19 : decode cX8_which 19 = .ok (.iload_n 2, 1) := by decide +kernel
theorem dX8_which_20 : decode cX8_which 20 = .ok (.invokevirtual 135, 3) := by decide +kernel
theorem dX8_which_23 : decode cX8_which 23 = .ok (.ifCond .eq 28, 3) := by decide +kernel
theorem dX8_which_26 : decode cX8_which 26 = .ok (.aload_n 0, 1) := by decide +kernel
theorem dX8_which_27 : decode cX8_which 27 = .ok (.getfield 53, 3) := by decide +kernel
theorem dX8_which_30 : decode cX8_which 30 = .ok (.aload_n 0, 1) := by decide +kernel
theorem dX8_which_31 : decode cX8_which 31 = .ok (.getfield 23, 3) := by decide +kernel
theorem dX8_which_34 : decode cX8_which 34 = .ok (.aload_n 0, 1) := by decide +kernel
theorem dX8_which_35 : decode cX8_which 35 = .ok (.getfield 29, 3) := by decide +kernel
theorem dX8_which_38 : decode cX8_which 38 = .ok (.iload_n 2, 1) := by decide +kernel
theorem dX8_which_39 : decode cX8_which 39 = .ok (.invokevirtual 251, 3) := by decide +kernel
theorem dX8_which_42 : decode cX8_which 42 = .ok (.ifCond .eq 9, 3) := by decide +kernel
theorem dX8_which_45 : decode cX8_which 45 = .ok (.iload_n 1, 1) := by decide +kernel
theorem dX8_which_46 : decode cX8_which 46 = .ok (.iconst 1, 1) := by decide +kernel
theorem dX8_which_47 : decode cX8_which 47 = .ok (.iload_n 2, 1) := by decide +kernel
theorem dX8_which_48 : decode cX8_which 48 = .ok (.ishl, 1) := by decide +kernel
theorem dX8_which_49 : decode cX8_which 49 = .ok (.ior, 1) := by decide +kernel
theorem dX8_which_50 : decode cX8_which 50 = .ok (.istore_n 1, 1) := by decide +kernel
theorem dX8_which_51 : decode cX8_which 51 = .ok (.iinc 2 1, 3) := by decide +kernel
theorem dX8_which_54 : decode cX8_which 54 = .ok (.goto (-50), 3) := by decide +kernel
theorem dX8_which_57 : decode cX8_which 57 = .ok (.iload_n 1, 1) := by decide +kernel
theorem dX8_which_58 : decode cX8_which 58 = .ok (.ireturn, 1) := by decide +kernel
set_option maxRecDepth 20000 in
theorem ggX8_share_X4_hasRow : GoodIn wsX8_share wsX4_hasRow := goodIn_r _ [6, 7, 112, 113, 114, 115, 116, 117] (by decide +kernel) (by decide +kernel)
set_option maxRecDepth 20000 in
theorem gX8_share_X4_hasRow : GoodIn wsX8_share (wsV RX8 99 RX4 yX4_hasRow wsX4_hasRow) := goodIn_app (goodIn_of _ (by decide +kernel)) ggX8_share_X4_hasRow
set_option maxRecDepth 20000 in
theorem ggX8_share_X8_isSize : GoodIn wsX8_share wsX8_isSize := goodIn_r _ [11] (by decide +kernel) (by decide +kernel)
set_option maxRecDepth 20000 in
theorem gX8_share_X8_isSize : GoodIn wsX8_share (va_wsS RX8 159 yX8_isSize wsX8_isSize) := goodIn_app (goodIn_of _ (by decide +kernel)) ggX8_share_X8_isSize
set_option maxRecDepth 20000 in
theorem ggX8_share_X4_rows : GoodIn wsX8_share wsX4_rows := goodIn_r _ [15, 7, 112, 113, 114, 115, 116, 117] (by decide +kernel) (by decide +kernel)
set_option maxRecDepth 20000 in
theorem gX8_share_X4_rows : GoodIn wsX8_share (wsV RX8 96 RX4 yX4_rows wsX4_rows) := goodIn_app (goodIn_of _ (by decide +kernel)) ggX8_share_X4_rows
set_option maxRecDepth 20000 in
theorem ggX8_share_J6_bitCount_0f7a4 : GoodIn wsX8_share wsJ6_bitCount_0f7a4 := goodIn_r _ [19, 20, 21, 22] (by decide +kernel) (by decide +kernel)
set_option maxRecDepth 20000 in
theorem gX8_share_J6_bitCount_0f7a4 : GoodIn wsX8_share (va_wsS RX8 255 yJ6_bitCount_0f7a4 wsJ6_bitCount_0f7a4) := goodIn_app (goodIn_of _ (by decide +kernel)) ggX8_share_J6_bitCount_0f7a4
set_option maxRecDepth 20000 in
theorem ggX8_share_X8_factorial : GoodIn wsX8_share wsX8_factorial := goodIn_r _ [25, 26] (by decide +kernel) (by decide +kernel)
set_option maxRecDepth 20000 in
theorem gX8_share_X8_factorial : GoodIn wsX8_share (va_wsS RX8 260 yX8_factorial wsX8_factorial) := goodIn_app (goodIn_of _ (by decide +kernel)) ggX8_share_X8_factorial
set_option maxRecDepth 20000 in
theorem ggX8_share_X8_qualityWith : GoodIn wsX8_share wsX8_qualityWith := goodIn_r _ [30, 31, 1, 32, 33, 34, 35, 36, 37, 38, 39, 40, 41, 42, 13, 14, 5, 15, 7, 43, 44, 45, 46, 47, 48, 49, 50, 51, 52, 53, 54, 55, 56, 57, 58, 59, 60, 61, 62, 63, 64, 65, 66, 3, 4, 6, 67, 17, 18, 19, 20, 21, 22, 68, 69, 70, 71, 72, 73, 10, 74, 75, 76, 77, 78, 79, 80, 81, 82, 83, 84, 85, 86, 87, 88, 89, 90, 91, 92, 93, 94, 95, 96, 97, 101, 102, 103, 104, 105, 106, 107, 108, 109, 110, 111, 118, 119, 120, 121, 112, 113, 114, 115, 116, 117, 122, 123, 124, 125, 126, 127, 128, 129, 130, 131, 132] (by decide +kernel) (by decide +kernel)
set_option maxRecDepth 20000 in
theorem gX8_share_X8_qualityWith : GoodIn wsX8_share (wsV RX8 263 RX8 yX8_qualityWith wsX8_qualityWith) := goodIn_app (goodIn_of _ (by decide +kernel)) ggX8_share_X8_qualityWith
set_option maxRecDepth 20000 in
theorem ggX8_share_X8_lowestTerms : GoodIn wsX8_share wsX8_lowestTerms := goodIn_r _ [100] (by decide +kernel) (by decide +kernel)
set_option maxRecDepth 20000 in
theorem gX8_share_X8_lowestTerms : GoodIn wsX8_share (va_wsS RX8 266 yX8_lowestTerms wsX8_lowestTerms) := goodIn_app (goodIn_of _ (by decide +kernel)) ggX8_share_X8_lowestTerms
theorem dX8_share_0 : decode cX8_share 0 = .ok (.aload_n 0, 1) := by decide +kernel
theorem dX8_share_1 : decode cX8_share 1 = .ok (.getfield 23, 3) := by decide +kernel
theorem dX8_share_4 : decode cX8_share 4 = .ok (.iload_n 1, 1) := by decide +kernel
theorem dX8_share_5 : decode cX8_share 5 = .ok (.invokevirtual 99, 3) := by decide +kernel
theorem dX8_share_8 : decode cX8_share 8 = .ok (.ifCond .ne 5, 3) := by decide +kernel
theorem dX8_share_11 : decode cX8_share 11 = .ok (.iconst (-1), 1) := by decide +kernel
theorem dX8_share_12 : decode cX8_share 12 = .ok (.ireturn, 1) := by decide +kernel
theorem dX8_share_13 : decode cX8_share 13 = .ok (.iload_n 2, 1) := by decide +kernel
theorem dX8_share_14 : decode cX8_share 14 = .ok (.invokestatic 159, 3) := by decide +kernel
theorem dX8_share_17 : decode cX8_share 17 = .ok (.ifCond .ne 6, 3) := by decide +kernel
theorem dX8_share_20 : decode cX8_share 20 = .ok (.bipush (-2), 2) := by decide +kernel
theorem dX8_share_22 : decode cX8_share 22 = .ok (.ireturn, 1) := by decide +kernel
theorem dX8_share_23 : decode cX8_share 23 = .ok (.aload_n 0, 1) := by decide +kernel
theorem dX8_share_24 : decode cX8_share 24 = .ok (.getfield 23, 3) := by decide +kernel
theorem dX8_share_27 : decode cX8_share 27 = .ok (.invokevirtual 96, 3) := by decide +kernel
theorem dX8_share_30 : decode cX8_share 30 = .ok (.istore 4, 2) := by decide +kernel
theorem dX8_share_32 : decode cX8_share 32 = .ok (.iconst 1, 1) := by decide +kernel
theorem dX8_share_33 : decode cX8_share 33 = .ok (.iload_n 1, 1) := by decide +kernel
theorem dX8_share_34 : decode cX8_share 34 = .ok (.ishl, 1) := by decide +kernel
theorem dX8_share_35 : decode cX8_share 35 = .ok (.istore 5, 2) := by decide +kernel
theorem dX8_share_37 : decode cX8_share 37 = .ok (.lconst 0, 1) := by decide +kernel
theorem dX8_share_38 : decode cX8_share 38 = .ok (.lstore 6, 2) := by decide +kernel
theorem dX8_share_40 : decode cX8_share 40 = .ok (.iconst 0, 1) := by decide +kernel
theorem dX8_share_41 : decode cX8_share 41 = .ok (.istore 8, 2) := by decide +kernel
theorem dX8_share_43 : decode cX8_share 43 = .ok (.iload 8, 2) := by decide +kernel
theorem dX8_share_45 : decode cX8_share 45 = .ok (.iconst 1, 1) := by decide +kernel
theorem dX8_share_46 : decode cX8_share 46 = .ok (.iload 4, 2) := by decide +kernel
theorem dX8_share_48 : decode cX8_share 48 = .ok (.ishl, 1) := by decide +kernel
theorem dX8_share_49 : decode cX8_share 49 = .ok (.if_icmp .ge 70, 3) := by decide +kernel
theorem dX8_share_52 : decode cX8_share 52 = .ok (.iload 8, 2) := by decide +kernel
theorem dX8_share_54 : decode cX8_share 54 = .ok (.iload 5, 2) := by decide +kernel
theorem dX8_share_56 : decode cX8_share 56 = .ok (.iand, 1) := by decide +kernel
theorem dX8_share_57 : decode cX8_share 57 = .ok (.ifCond .ne 56, 3) := by decide +kernel
theorem dX8_share_60 : decode cX8_share 60 = .ok (.iload 8, 2) := by decide +kernel
theorem dX8_share_62 : decode cX8_share 62 = .ok (.invokestatic 255, 3) := by decide +kernel
theorem dX8_share_65 : decode cX8_share 65 = .ok (.istore 9, 2) := by decide +kernel
theorem dX8_share_67 : decode cX8_share 67 = .ok (.iload 9, 2) := by decide +kernel
theorem dX8_share_69 : decode cX8_share 69 = .ok (.invokestatic 260, 3) := by decide +kernel
theorem dX8_share_72 : decode cX8_share 72 = .ok (.iload 4, 2) := by decide +kernel
theorem dX8_share_74 : decode cX8_share 74 = .ok (.iconst 1, 1) := by decide +kernel
theorem dX8_share_75 : decode cX8_share 75 = .ok (.isub, 1) := by decide +kernel
theorem dX8_share_76 : decode cX8_share 76 = .ok (.iload 9, 2) := by decide +kernel
theorem dX8_share_78 : decode cX8_share 78 = .ok (.isub, 1) := by decide +kernel
theorem dX8_share_79 : decode cX8_share 79 = .ok (.invokestatic 260, 3) := by decide +kernel
theorem dX8_share_82 : decode cX8_share 82 = .ok (.imul, 1) := by decide +kernel
theorem dX8_share_83 : decode cX8_share 83 = .ok (.istore 10, 2) := by decide +kernel
theorem dX8_share_85 : decode cX8_share 85 = .ok (.lload 6, 2) := by decide +kernel
theorem dX8_share_87 : decode cX8_share 87 = .ok (.iload 10, 2) := by decide +kernel
theorem dX8_share_89 : decode cX8_share 89 = .ok (.i2l, 1) := by decide +kernel
theorem dX8_share_90 : decode cX8_share 90 = .ok (.aload_n 0, 1) := by decide +kernel
theorem dX8_share_91 : decode cX8_share 91 = .ok (.iload 8, 2) := by decide +kernel
theorem dX8_share_93 : decode cX8_share 93 = .ok (.iload 5, 2) := by decide +kernel
theorem dX8_share_95 : decode cX8_share 95 = .ok (.ior, 1) := by decide +kernel
theorem dX8_share_96 : decode cX8_share 96 = .ok (.iload_n 2, 1) := by decide +kernel
theorem dX8_share_97 : decode cX8_share 97 = .ok (.invokevirtual 263, 3) := by decide +kernel
theorem dX8_share_100 : decode cX8_share 100 = .ok (.aload_n 0, 1) := by decide +kernel
theorem dX8_share_101 : decode cX8_share 101 = .ok (.iload 8, 2) := by decide +kernel
theorem dX8_share_103 : decode cX8_share 103 = .ok (.iload_n 2, 1) := by decide +kernel
theorem dX8_share_104 : decode cX8_share 104 = .ok (.invokevirtual 263, 3) := by decide +kernel
theorem dX8_share_107 : decode cX8_share 107 = .ok (.isub, 1) := by decide +kernel
theorem dX8_share_108 : decode cX8_share 108 = .ok (.i2l, 1) := by decide +kernel
theorem dX8_share_109 : decode cX8_share 109 = .ok (.lmul, 1) := by decide +kernel
theorem dX8_share_110 : decode cX8_share 110 = .ok (.ladd, 1) := by decide +kernel
theorem dX8_share_111 : decode cX8_share 111 = .ok (.lstore 6, 2) := by decide +kernel
theorem dX8_share_113 : decode cX8_share 113 = .ok (.iinc 8 1, 3) := by decide +kernel
theorem dX8_share_116 : decode cX8_share 116 = .ok (.goto (-73), 3) := by decide +kernel
theorem dX8_share_119 : decode cX8_share 119 = .ok (.lload 6, 2) := by decide +kernel
theorem dX8_share_121 : decode cX8_share 121 = .ok (.iload 4, 2) := by decide +kernel
theorem dX8_share_123 : decode cX8_share 123 = .ok (.invokestatic 260, 3) := by decide +kernel
theorem dX8_share_126 : decode cX8_share 126 = .ok (.i2l, 1) := by decide +kernel
theorem dX8_share_127 : decode cX8_share 127 = .ok (.iload_n 3, 1) := by decide +kernel
theorem dX8_share_128 : decode cX8_share 128 = .ok (.invokestatic 266, 3) := by decide +kernel
theorem dX8_share_131 : decode cX8_share 131 = .ok (.ireturn, 1) := by decide +kernel
set_option maxRecDepth 20000 in
theorem ggX8_away_X4_hasRow : GoodIn wsX8_away wsX4_hasRow := goodIn_r _ [8, 9, 77, 78, 79, 80, 81, 82] (by decide +kernel) (by decide +kernel)
set_option maxRecDepth 20000 in
theorem gX8_away_X4_hasRow : GoodIn wsX8_away (wsV RX8 99 RX4 yX4_hasRow wsX4_hasRow) := goodIn_app (goodIn_of _ (by decide +kernel)) ggX8_away_X4_hasRow
set_option maxRecDepth 20000 in
theorem ggX8_away_X2_begin : GoodIn wsX8_away wsX2_begin := goodIn_r _ [14, 15, 16, 83, 84] (by decide +kernel) (by decide +kernel)
set_option maxRecDepth 20000 in
theorem gX8_away_X2_begin : GoodIn wsX8_away (wsV RX8 270 RX2 yX2_begin wsX2_begin) := goodIn_app (goodIn_of _ (by decide +kernel)) ggX8_away_X2_begin
set_option maxRecDepth 20000 in
theorem ggX8_away_X0_asked : GoodIn wsX8_away wsX0_asked := goodIn_r _ [21, 22, 85, 86, 87, 88, 89, 90, 91, 92, 93, 94, 95] (by decide +kernel) (by decide +kernel)
set_option maxRecDepth 20000 in
theorem gX8_away_X0_asked : GoodIn wsX8_away (wsV RX8 248 RX0 yX0_asked wsX0_asked) := goodIn_app (goodIn_of _ (by decide +kernel)) ggX8_away_X0_asked
set_option maxRecDepth 20000 in
theorem ggX8_away_X0_isSeated : GoodIn wsX8_away wsX0_isSeated := goodIn_r _ [26, 27, 28, 29, 20, 30, 31, 32, 33, 34, 35, 22, 85, 86, 87, 88, 89, 90, 91, 92, 93, 94, 95] (by decide +kernel) (by decide +kernel)
set_option maxRecDepth 20000 in
theorem gX8_away_X0_isSeated : GoodIn wsX8_away (wsV RX8 135 RX0 yX0_isSeated wsX0_isSeated) := goodIn_app (goodIn_of _ (by decide +kernel)) ggX8_away_X0_isSeated
set_option maxRecDepth 20000 in
theorem ggX8_away_X0_placeOf : GoodIn wsX8_away wsX0_placeOf := goodIn_r _ [30, 31, 32, 33, 34, 20, 35, 22, 85, 86, 87, 88, 89, 90, 91, 92, 93, 94, 95] (by decide +kernel) (by decide +kernel)
set_option maxRecDepth 20000 in
theorem gX8_away_X0_placeOf : GoodIn wsX8_away (wsV RX8 147 RX0 yX0_placeOf wsX0_placeOf) := goodIn_app (goodIn_of _ (by decide +kernel)) ggX8_away_X0_placeOf
set_option maxRecDepth 20000 in
theorem ggX8_away_X8_rowOf : GoodIn wsX8_away wsX8_rowOf := goodIn_r _ [40] (by decide +kernel) (by decide +kernel)
set_option maxRecDepth 20000 in
theorem gX8_away_X8_rowOf : GoodIn wsX8_away (va_wsS RX8 150 yX8_rowOf wsX8_rowOf) := goodIn_app (goodIn_of _ (by decide +kernel)) ggX8_away_X8_rowOf
set_option maxRecDepth 20000 in
theorem ggX8_away_X0_sizeOf : GoodIn wsX8_away wsX0_sizeOf := goodIn_r _ [44, 45, 32, 33, 34, 20, 35, 22, 85, 86, 87, 88, 89, 90, 91, 92, 93, 94, 95] (by decide +kernel) (by decide +kernel)
set_option maxRecDepth 20000 in
theorem gX8_away_X0_sizeOf : GoodIn wsX8_away (wsV RX8 138 RX0 yX0_sizeOf wsX0_sizeOf) := goodIn_app (goodIn_of _ (by decide +kernel)) ggX8_away_X0_sizeOf
set_option maxRecDepth 20000 in
theorem ggX8_away_X2_add : GoodIn wsX8_away wsX2_add := goodIn_r _ [49, 15, 16, 50, 83, 84] (by decide +kernel) (by decide +kernel)
set_option maxRecDepth 20000 in
theorem gX8_away_X2_add : GoodIn wsX8_away (wsV RX8 273 RX2 yX2_add wsX2_add) := goodIn_app (goodIn_of _ (by decide +kernel)) ggX8_away_X2_add
set_option maxRecDepth 20000 in
theorem ggX8_away_X2_atLeast : GoodIn wsX8_away wsX2_atLeast := goodIn_r _ [54, 55, 56, 57, 58, 15, 83, 84] (by decide +kernel) (by decide +kernel)
set_option maxRecDepth 20000 in
theorem gX8_away_X2_atLeast : GoodIn wsX8_away (wsV RX8 275 RX2 yX2_atLeast wsX2_atLeast) := goodIn_app (goodIn_of _ (by decide +kernel)) ggX8_away_X2_atLeast
set_option maxRecDepth 20000 in
theorem ggX8_away_X2_whole : GoodIn wsX8_away wsX2_whole := goodIn_r _ [62, 16, 83, 84] (by decide +kernel) (by decide +kernel)
set_option maxRecDepth 20000 in
theorem gX8_away_X2_whole : GoodIn wsX8_away (wsV RX8 279 RX2 yX2_whole wsX2_whole) := goodIn_app (goodIn_of _ (by decide +kernel)) ggX8_away_X2_whole
set_option maxRecDepth 20000 in
theorem ggX8_away_X8_lowestTerms : GoodIn wsX8_away wsX8_lowestTerms := goodIn_r _ [65] (by decide +kernel) (by decide +kernel)
set_option maxRecDepth 20000 in
theorem gX8_away_X8_lowestTerms : GoodIn wsX8_away (va_wsS RX8 266 yX8_lowestTerms wsX8_lowestTerms) := goodIn_app (goodIn_of _ (by decide +kernel)) ggX8_away_X8_lowestTerms
theorem dX8_away_0 : decode cX8_away 0 = .ok (.aload_n 0, 1) := by decide +kernel
theorem dX8_away_1 : decode cX8_away 1 = .ok (.getfield 23, 3) := by decide +kernel
theorem dX8_away_4 : decode cX8_away 4 = .ok (.iload_n 1, 1) := by decide +kernel
theorem dX8_away_5 : decode cX8_away 5 = .ok (.invokevirtual 99, 3) := by decide +kernel
theorem dX8_away_8 : decode cX8_away 8 = .ok (.ifCond .ne 5, 3) := by decide +kernel
theorem dX8_away_11 : decode cX8_away 11 = .ok (.iconst (-1), 1) := by decide +kernel
theorem dX8_away_12 : decode cX8_away 12 = .ok (.ireturn, 1) := by decide +kernel
theorem dX8_away_13 : decode cX8_away 13 = .ok (.iload_n 2, 1) := by decide +kernel
theorem dX8_away_14 : decode cX8_away 14 = .ok (.ifCond .lt 19, 3) := by decide +kernel
theorem dX8_away_17 : decode cX8_away 17 = .ok (.iload_n 2, 1) := by decide +kernel
theorem dX8_away_18 : decode cX8_away 18 = .ok (.bipush 9, 2) := by decide +kernel
theorem dX8_away_20 : decode cX8_away 20 = .ok (.if_icmp .gt 13, 3) := by decide +kernel
theorem dX8_away_23 : decode cX8_away 23 = .ok (.iload_n 3, 1) := by decide +kernel
theorem dX8_away_24 : decode cX8_away 24 = .ok (.ifCond .lt 9, 3) := by decide +kernel
theorem dX8_away_27 : decode cX8_away 27 = .ok (.iload_n 3, 1) := by decide +kernel
theorem dX8_away_28 : decode cX8_away 28 = .ok (.bipush 10, 2) := by decide +kernel
theorem dX8_away_30 : decode cX8_away 30 = .ok (.if_icmp .le 6, 3) := by decide +kernel
theorem dX8_away_33 : decode cX8_away 33 = .ok (.bipush (-2), 2) := by decide +kernel
theorem dX8_away_35 : decode cX8_away 35 = .ok (.ireturn, 1) := by decide +kernel
theorem dX8_away_36 : decode cX8_away 36 = .ok (.aload_n 0, 1) := by decide +kernel
theorem dX8_away_37 : decode cX8_away 37 = .ok (.getfield 67, 3) := by decide +kernel
theorem dX8_away_40 : decode cX8_away 40 = .ok (.invokevirtual 270, 3) := by decide +kernel
theorem dX8_away_43 : decode cX8_away 43 = .ok (.iconst 1, 1) := by decide +kernel
theorem dX8_away_44 : decode cX8_away 44 = .ok (.istore 5, 2) := by decide +kernel
theorem dX8_away_46 : decode cX8_away 46 = .ok (.iload 5, 2) := by decide +kernel
theorem dX8_away_48 : decode cX8_away 48 = .ok (.aload_n 0, 1) := by decide +kernel
theorem dX8_away_49 : decode cX8_away 49 = .ok (.getfield 29, 3) := by decide +kernel
theorem dX8_away_52 : decode cX8_away 52 = .ok (.invokevirtual 248, 3) := by decide +kernel
theorem dX8_away_55 : decode cX8_away 55 = .ok (.if_icmp .gt 54, 3) := by decide +kernel
theorem dX8_away_58 : decode cX8_away 58 = .ok (.aload_n 0, 1) := by decide +kernel
theorem dX8_away_59 : decode cX8_away 59 = .ok (.getfield 29, 3) := by decide +kernel
theorem dX8_away_62 : decode cX8_away 62 = .ok (.iload 5, 2) := by decide +kernel
theorem dX8_away_64 : decode cX8_away 64 = .ok (.invokevirtual 135, 3) := by decide +kernel
theorem dX8_away_67 : decode cX8_away 67 = .ok (.ifCond .eq 36, 3) := by decide +kernel
theorem dX8_away_70 : decode cX8_away 70 = .ok (.aload_n 0, 1) := by decide +kernel
theorem dX8_away_71 : decode cX8_away 71 = .ok (.getfield 29, 3) := by decide +kernel
theorem dX8_away_74 : decode cX8_away 74 = .ok (.iload 5, 2) := by decide +kernel
theorem dX8_away_76 : decode cX8_away 76 = .ok (.invokevirtual 147, 3) := by decide +kernel
theorem dX8_away_79 : decode cX8_away 79 = .ok (.invokestatic 150, 3) := by decide +kernel
theorem dX8_away_82 : decode cX8_away 82 = .ok (.iload_n 1, 1) := by decide +kernel
theorem dX8_away_83 : decode cX8_away 83 = .ok (.if_icmp .ne 20, 3) := by decide +kernel
theorem dX8_away_86 : decode cX8_away 86 = .ok (.aload_n 0, 1) := by decide +kernel
theorem dX8_away_87 : decode cX8_away 87 = .ok (.getfield 67, 3) := by decide +kernel
theorem dX8_away_90 : decode cX8_away 90 = .ok (.aload_n 0, 1) := by decide +kernel
theorem dX8_away_91 : decode cX8_away 91 = .ok (.getfield 29, 3) := by decide +kernel
theorem dX8_away_94 : decode cX8_away 94 = .ok (.iload 5, 2) := by decide +kernel
theorem dX8_away_96 : decode cX8_away 96 = .ok (.invokevirtual 138, 3) := by decide +kernel
theorem dX8_away_99 : decode cX8_away 99 = .ok (.iload_n 3, 1) := by decide +kernel
theorem dX8_away_100 : decode cX8_away 100 = .ok (.invokevirtual 273, 3) := by decide +kernel
theorem dX8_away_103 : decode cX8_away 103 = .ok (.iinc 5 1, 3) := by decide +kernel
theorem dX8_away_106 : decode cX8_away 106 = .ok (.goto (-60), 3) := by decide +kernel
theorem dX8_away_109 : decode cX8_away 109 = .ok (.aload_n 0, 1) := by decide +kernel
theorem dX8_away_110 : decode cX8_away 110 = .ok (.getfield 67, 3) := by decide +kernel
theorem dX8_away_113 : decode cX8_away 113 = .ok (.iload_n 2, 1) := by decide +kernel
theorem dX8_away_114 : decode cX8_away 114 = .ok (.invokevirtual 275, 3) := by decide +kernel
theorem dX8_away_117 : decode cX8_away 117 = .ok (.aload_n 0, 1) := by decide +kernel
theorem dX8_away_118 : decode cX8_away 118 = .ok (.getfield 67, 3) := by decide +kernel
theorem dX8_away_121 : decode cX8_away 121 = .ok (.invokevirtual 279, 3) := by decide +kernel
theorem dX8_away_124 : decode cX8_away 124 = .ok (.iload 4, 2) := by decide +kernel
theorem dX8_away_126 : decode cX8_away 126 = .ok (.invokestatic 266, 3) := by decide +kernel
theorem dX8_away_129 : decode cX8_away 129 = .ok (.ireturn, 1) := by decide +kernel
theorem dX8_seed_0 : decode cX8_seed 0 = .ok (.aload_n 0, 1) := by decide +kernel
theorem dX8_seed_1 : decode cX8_seed 1 = .ok (.getfield 71, 3) := by decide +kernel
theorem dX8_seed_4 : decode cX8_seed 4 = .ok (.lstore_n 3, 1) := by decide +kernel
theorem dX8_seed_5 : decode cX8_seed 5 = .ok (.aload_n 0, 1) := by decide +kernel
theorem dX8_seed_6 : decode cX8_seed 6 = .ok (.lload_n 1, 1) := by decide +kernel
theorem dX8_seed_7 : decode cX8_seed 7 = .ok (.putfield 71, 3) := by decide +kernel
theorem dX8_seed_10 : decode cX8_seed 10 = .ok (.lload_n 3, 1) := by decide +kernel
theorem dX8_seed_11 : decode cX8_seed 11 = .ok (.lreturn, 1) := by decide +kernel
set_option maxRecDepth 20000 in
theorem ggX8_drawn_X0_copyFrom : GoodIn wsX8_drawn wsX0_copyFrom := goodIn_r _ [10, 11, 12, 13, 14, 15, 16, 17, 18, 19, 20, 21, 22, 23, 24, 25, 204, 205, 206, 207, 208, 209, 210, 211, 212, 213, 214] (by decide +kernel) (by decide +kernel)
set_option maxRecDepth 20000 in
theorem gX8_drawn_X0_copyFrom : GoodIn wsX8_drawn (wsV RX8 224 RX0 yX0_copyFrom wsX0_copyFrom) := goodIn_app (goodIn_of _ (by decide +kernel)) ggX8_drawn_X0_copyFrom
set_option maxRecDepth 20000 in
theorem ggX8_drawn_X8_happen : GoodIn wsX8_drawn wsX8_happen := goodIn_r _ [30, 31, 32, 1, 33, 34, 35, 36, 37, 38, 39, 40, 41, 42, 43, 44, 45, 46, 47, 48, 49, 50, 9, 51, 11, 52, 53, 54, 55, 56, 57, 58, 59, 60, 61, 62, 16, 63, 64, 65, 66, 67, 68, 69, 70, 71, 72, 73, 74, 75, 76, 77, 78, 79, 80, 81, 82, 83, 84, 29, 85, 86, 87, 88, 89, 90, 91, 92, 93, 94, 95, 96, 97, 98, 99, 100, 101, 102, 103, 104, 105, 106, 107, 108, 22, 23, 109, 110, 111, 112, 17, 18, 19, 20, 21, 113, 114, 115, 116, 117, 25, 118, 119, 120, 121, 122, 123, 124, 125, 126, 127, 128, 129, 130, 131, 132, 133, 134, 135, 136, 137, 138, 139, 140, 141, 142, 143, 144, 145, 146, 147, 148, 149, 150, 151, 24, 152, 153, 154, 155, 156, 157, 158, 159, 160, 161, 162, 163, 164, 165, 166, 167, 168, 169, 170, 171, 172, 173, 174, 175, 176, 177, 178, 179, 180, 181, 182, 183, 184, 185, 186, 187, 188, 193, 194, 195, 196, 197, 198, 199, 200, 201, 202, 203, 215, 216, 217, 218, 219, 220, 221, 222, 223, 224, 204, 205, 206, 207, 208, 209, 210, 211, 212, 213, 214] (by decide +kernel) (by decide +kernel)
set_option maxRecDepth 20000 in
theorem gX8_drawn_X8_happen : GoodIn wsX8_drawn (wsV RX8 287 RX8 yX8_happen wsX8_happen) := goodIn_app (goodIn_of _ (by decide +kernel)) ggX8_drawn_X8_happen
set_option maxRecDepth 20000 in
theorem ggX8_drawn_X0_takings : GoodIn wsX8_drawn wsX0_takings := goodIn_r _ [192, 25, 204, 205, 206, 207, 208, 209, 210, 211, 212, 213, 214] (by decide +kernel) (by decide +kernel)
set_option maxRecDepth 20000 in
theorem gX8_drawn_X0_takings : GoodIn wsX8_drawn (wsV RX8 290 RX0 yX0_takings wsX0_takings) := goodIn_app (goodIn_of _ (by decide +kernel)) ggX8_drawn_X0_takings
theorem dX8_drawn_0 : decode cX8_drawn 0 = .ok (.iload_n 1, 1) := by decide +kernel
theorem dX8_drawn_1 : decode cX8_drawn 1 = .ok (.iconst 1, 1) := by decide +kernel
theorem dX8_drawn_2 : decode cX8_drawn 2 = .ok (.if_icmp .lt 9, 3) := by decide +kernel
theorem dX8_drawn_5 : decode cX8_drawn 5 = .ok (.iload_n 1, 1) := by decide +kernel
theorem dX8_drawn_6 : decode cX8_drawn 6 = .ok (.bipush 20, 2) := by decide +kernel
theorem dX8_drawn_8 : decode cX8_drawn 8 = .ok (.if_icmp .le 6, 3) := by decide +kernel
theorem dX8_drawn_11 : decode cX8_drawn 11 = .ok (.bipush (-2), 2) := by decide +kernel
theorem dX8_drawn_13 : decode cX8_drawn 13 = .ok (.ireturn, 1) := by decide +kernel
theorem dX8_drawn_14 : decode cX8_drawn 14 = .ok (.aload_n 0, 1) := by decide +kernel
theorem dX8_drawn_15 : decode cX8_drawn 15 = .ok (.getfield 33, 3) := by decide +kernel
theorem dX8_drawn_18 : decode cX8_drawn 18 = .ok (.aload_n 0, 1) := by decide +kernel
theorem dX8_drawn_19 : decode cX8_drawn 19 = .ok (.getfield 29, 3) := by decide +kernel
theorem dX8_drawn_22 : decode cX8_drawn 22 = .ok (.invokevirtual 224, 3) := by decide +kernel
theorem dX8_drawn_25 : decode cX8_drawn 25 = .ok (.iconst 0, 1) := by decide +kernel
theorem dX8_drawn_26 : decode cX8_drawn 26 = .ok (.istore_n 2, 1) := by decide +kernel
theorem dX8_drawn_27 : decode cX8_drawn 27 = .ok (.iload_n 2, 1) := by decide +kernel
theorem dX8_drawn_28 : decode cX8_drawn 28 = .ok (.iload_n 1, 1) := by decide +kernel
theorem dX8_drawn_29 : decode cX8_drawn 29 = .ok (.if_icmp .ge 37, 3) := by decide +kernel
theorem dX8_drawn_32 : decode cX8_drawn 32 = .ok (.aload_n 0, 1) := by decide +kernel
theorem dX8_drawn_33 : decode cX8_drawn 33 = .ok (.aload_n 0, 1) := by decide +kernel
theorem dX8_drawn_34 : decode cX8_drawn 34 = .ok (.getfield 71, 3) := by decide +kernel
theorem dX8_drawn_37 : decode cX8_drawn 37 = .ok (.ldc2_w 283, 3) := by decide +kernel
theorem dX8_drawn_40 : decode cX8_drawn 40 = .ok (.lmul, 1) := by decide +kernel
theorem dX8_drawn_41 : decode cX8_drawn 41 = .ok (.ldc2_w 285, 3) := by decide +kernel
theorem dX8_drawn_44 : decode cX8_drawn 44 = .ok (.ladd, 1) := by decide +kernel
theorem dX8_drawn_45 : decode cX8_drawn 45 = .ok (.putfield 71, 3) := by decide +kernel
theorem dX8_drawn_48 : decode cX8_drawn 48 = .ok (.aload_n 0, 1) := by decide +kernel
theorem dX8_drawn_49 : decode cX8_drawn 49 = .ok (.aload_n 0, 1) := by decide +kernel
theorem dX8_drawn_50 : decode cX8_drawn 50 = .ok (.getfield 71, 3) := by decide +kernel
theorem dX8_drawn_53 : decode cX8_drawn 53 = .ok (.bipush 33, 2) := by decide +kernel
theorem dX8_drawn_55 : decode cX8_drawn 55 = .ok (.lushr, 1) := by decide +kernel
theorem dX8_drawn_56 : decode cX8_drawn 56 = .ok (.l2i, 1) := by decide +kernel
theorem dX8_drawn_57 : decode cX8_drawn 57 = .ok (.invokevirtual 287, 3) := by decide +kernel
theorem dX8_drawn_60 : decode cX8_drawn 60 = .ok (.iinc 2 1, 3) := by decide +kernel
theorem dX8_drawn_63 : decode cX8_drawn 63 = .ok (.goto (-36), 3) := by decide +kernel
theorem dX8_drawn_66 : decode cX8_drawn 66 = .ok (.aload_n 0, 1) := by decide +kernel
theorem dX8_drawn_67 : decode cX8_drawn 67 = .ok (.getfield 33, 3) := by decide +kernel
theorem dX8_drawn_70 : decode cX8_drawn 70 = .ok (.invokevirtual 290, 3) := by decide +kernel
theorem dX8_drawn_73 : decode cX8_drawn 73 = .ok (.aload_n 0, 1) := by decide +kernel
theorem dX8_drawn_74 : decode cX8_drawn 74 = .ok (.getfield 29, 3) := by decide +kernel
theorem dX8_drawn_77 : decode cX8_drawn 77 = .ok (.invokevirtual 290, 3) := by decide +kernel
theorem dX8_drawn_80 : decode cX8_drawn 80 = .ok (.isub, 1) := by decide +kernel
theorem dX8_drawn_81 : decode cX8_drawn 81 = .ok (.ireturn, 1) := by decide +kernel
set_option maxRecDepth 20000 in
theorem ggX8_keep_X6_has : GoodIn wsX8_keep wsX6_has := goodIn_r _ [7] (by decide +kernel) (by decide +kernel)
set_option maxRecDepth 20000 in
theorem gX8_keep_X6_has : GoodIn wsX8_keep (wsV RX8 293 RX6 yX6_has wsX6_has) := goodIn_app (goodIn_of _ (by decide +kernel)) ggX8_keep_X6_has
set_option maxRecDepth 20000 in
theorem ggX8_keep_X6_put : GoodIn wsX8_keep wsX6_put := goodIn_r _ [11, 12, 13, 14, 4, 5, 6, 7, 15, 16, 17, 18, 19, 20, 21, 22, 23, 24, 25, 26, 27, 28, 29, 30, 31, 32, 33, 34, 50, 51, 52, 53, 54, 55, 56, 57, 58, 59, 60, 61, 62] (by decide +kernel) (by decide +kernel)
set_option maxRecDepth 20000 in
theorem gX8_keep_X6_put : GoodIn wsX8_keep (wsV RX8 296 RX6 yX6_put wsX6_put) := goodIn_app (goodIn_of _ (by decide +kernel)) ggX8_keep_X6_put
set_option maxRecDepth 20000 in
theorem ggX8_keep_X0_asked : GoodIn wsX8_keep wsX0_asked := goodIn_r _ [38, 31, 52, 53, 54, 55, 56, 57, 58, 59, 60, 61, 62] (by decide +kernel) (by decide +kernel)
set_option maxRecDepth 20000 in
theorem gX8_keep_X0_asked : GoodIn wsX8_keep (wsV RX8 248 RX0 yX0_asked wsX0_asked) := goodIn_app (goodIn_of _ (by decide +kernel)) ggX8_keep_X0_asked
theorem dX8_keep_0 : decode cX8_keep 0 = .ok (.aload_n 0, 1) := by decide +kernel
theorem dX8_keep_1 : decode cX8_keep 1 = .ok (.getfield 46, 3) := by decide +kernel
theorem dX8_keep_4 : decode cX8_keep 4 = .ok (.iload_n 1, 1) := by decide +kernel
theorem dX8_keep_5 : decode cX8_keep 5 = .ok (.invokevirtual 293, 3) := by decide +kernel
theorem dX8_keep_8 : decode cX8_keep 8 = .ok (.ifCond .ne 5, 3) := by decide +kernel
theorem dX8_keep_11 : decode cX8_keep 11 = .ok (.iconst (-1), 1) := by decide +kernel
theorem dX8_keep_12 : decode cX8_keep 12 = .ok (.ireturn, 1) := by decide +kernel
theorem dX8_keep_13 : decode cX8_keep 13 = .ok (.aload_n 0, 1) := by decide +kernel
theorem dX8_keep_14 : decode cX8_keep 14 = .ok (.getfield 46, 3) := by decide +kernel
theorem dX8_keep_17 : decode cX8_keep 17 = .ok (.iload_n 1, 1) := by decide +kernel
theorem dX8_keep_18 : decode cX8_keep 18 = .ok (.aload_n 0, 1) := by decide +kernel
theorem dX8_keep_19 : decode cX8_keep 19 = .ok (.getfield 29, 3) := by decide +kernel
theorem dX8_keep_22 : decode cX8_keep 22 = .ok (.invokevirtual 296, 3) := by decide +kernel
theorem dX8_keep_25 : decode cX8_keep 25 = .ok (.aload_n 0, 1) := by decide +kernel
theorem dX8_keep_26 : decode cX8_keep 26 = .ok (.getfield 29, 3) := by decide +kernel
theorem dX8_keep_29 : decode cX8_keep 29 = .ok (.invokevirtual 248, 3) := by decide +kernel
theorem dX8_keep_32 : decode cX8_keep 32 = .ok (.ireturn, 1) := by decide +kernel
set_option maxRecDepth 20000 in
theorem ggX8_again_X6_has : GoodIn wsX8_again wsX6_has := goodIn_r _ [8] (by decide +kernel) (by decide +kernel)
set_option maxRecDepth 20000 in
theorem gX8_again_X6_has : GoodIn wsX8_again (wsV RX8 293 RX6 yX6_has wsX6_has) := goodIn_app (goodIn_of _ (by decide +kernel)) ggX8_again_X6_has
set_option maxRecDepth 20000 in
theorem ggX8_again_X6_isFilled : GoodIn wsX8_again wsX6_isFilled := goodIn_r _ [12, 13, 14, 5, 6, 7, 8, 62, 63] (by decide +kernel) (by decide +kernel)
set_option maxRecDepth 20000 in
theorem gX8_again_X6_isFilled : GoodIn wsX8_again (wsV RX8 300 RX6 yX6_isFilled wsX6_isFilled) := goodIn_app (goodIn_of _ (by decide +kernel)) ggX8_again_X6_isFilled
set_option maxRecDepth 20000 in
theorem ggX8_again_X6_restore : GoodIn wsX8_again wsX6_restore := goodIn_r _ [18, 19, 20, 10, 11, 7, 12, 13, 14, 5, 6, 8, 21, 22, 23, 24, 25, 26, 27, 28, 29, 30, 31, 32, 33, 34, 35, 36, 37, 38, 39, 40, 62, 63, 64, 65, 66, 67, 68, 69, 70, 71, 72, 73, 74] (by decide +kernel) (by decide +kernel)
set_option maxRecDepth 20000 in
theorem gX8_again_X6_restore : GoodIn wsX8_again (wsV RX8 303 RX6 yX6_restore wsX6_restore) := goodIn_app (goodIn_of _ (by decide +kernel)) ggX8_again_X6_restore
set_option maxRecDepth 20000 in
theorem ggX8_again_X3_clear : GoodIn wsX8_again wsX3_clear := goodIn_r _ [45, 46, 75, 76, 77] (by decide +kernel) (by decide +kernel)
set_option maxRecDepth 20000 in
theorem gX8_again_X3_clear : GoodIn wsX8_again (wsV RX8 94 RX3 yX3_clear wsX3_clear) := goodIn_app (goodIn_of _ (by decide +kernel)) ggX8_again_X3_clear
set_option maxRecDepth 20000 in
theorem ggX8_again_X0_asked : GoodIn wsX8_again wsX0_asked := goodIn_r _ [50, 37, 64, 65, 66, 67, 68, 69, 70, 71, 72, 73, 74] (by decide +kernel) (by decide +kernel)
set_option maxRecDepth 20000 in
theorem gX8_again_X0_asked : GoodIn wsX8_again (wsV RX8 248 RX0 yX0_asked wsX0_asked) := goodIn_app (goodIn_of _ (by decide +kernel)) ggX8_again_X0_asked
theorem dX8_again_0 : decode cX8_again 0 = .ok (.aload_n 0, 1) := by decide +kernel
theorem dX8_again_1 : decode cX8_again 1 = .ok (.getfield 46, 3) := by decide +kernel
theorem dX8_again_4 : decode cX8_again 4 = .ok (.iload_n 1, 1) := by decide +kernel
theorem dX8_again_5 : decode cX8_again 5 = .ok (.invokevirtual 293, 3) := by decide +kernel
theorem dX8_again_8 : decode cX8_again 8 = .ok (.ifCond .ne 5, 3) := by decide +kernel
theorem dX8_again_11 : decode cX8_again 11 = .ok (.iconst (-1), 1) := by decide +kernel
theorem dX8_again_12 : decode cX8_again 12 = .ok (.ireturn, 1) := by decide +kernel
theorem dX8_again_13 : decode cX8_again 13 = .ok (.aload_n 0, 1) := by decide +kernel
theorem dX8_again_14 : decode cX8_again 14 = .ok (.getfield 46, 3) := by decide +kernel
theorem dX8_again_17 : decode cX8_again 17 = .ok (.iload_n 1, 1) := by decide +kernel
theorem dX8_again_18 : decode cX8_again 18 = .ok (.invokevirtual 300, 3) := by decide +kernel
theorem dX8_again_21 : decode cX8_again 21 = .ok (.ifCond .ne 6, 3) := by decide +kernel
theorem dX8_again_24 : decode cX8_again 24 = .ok (.bipush (-3), 2) := by decide +kernel
theorem dX8_again_26 : decode cX8_again 26 = .ok (.ireturn, 1) := by decide +kernel
theorem dX8_again_27 : decode cX8_again 27 = .ok (.aload_n 0, 1) := by decide +kernel
theorem dX8_again_28 : decode cX8_again 28 = .ok (.getfield 46, 3) := by decide +kernel
theorem dX8_again_31 : decode cX8_again 31 = .ok (.iload_n 1, 1) := by decide +kernel
theorem dX8_again_32 : decode cX8_again 32 = .ok (.aload_n 0, 1) := by decide +kernel
theorem dX8_again_33 : decode cX8_again 33 = .ok (.getfield 29, 3) := by decide +kernel
theorem dX8_again_36 : decode cX8_again 36 = .ok (.invokevirtual 303, 3) := by decide +kernel
theorem dX8_again_39 : decode cX8_again 39 = .ok (.aload_n 0, 1) := by decide +kernel
theorem dX8_again_40 : decode cX8_again 40 = .ok (.getfield 39, 3) := by decide +kernel
theorem dX8_again_43 : decode cX8_again 43 = .ok (.invokevirtual 94, 3) := by decide +kernel
theorem dX8_again_46 : decode cX8_again 46 = .ok (.aload_n 0, 1) := by decide +kernel
theorem dX8_again_47 : decode cX8_again 47 = .ok (.getfield 29, 3) := by decide +kernel
theorem dX8_again_50 : decode cX8_again 50 = .ok (.invokevirtual 248, 3) := by decide +kernel
theorem dX8_again_53 : decode cX8_again 53 = .ok (.ireturn, 1) := by decide +kernel
set_option maxRecDepth 20000 in
theorem ggX8_count_X7_length : GoodIn wsX8_count wsX7_length := goodIn_r _ [10, 11, 112, 113] (by decide +kernel) (by decide +kernel)
set_option maxRecDepth 20000 in
theorem gX8_count_X7_length : GoodIn wsX8_count (wsV RX8 79 RX7 yX7_length wsX7_length) := goodIn_app (goodIn_of _ (by decide +kernel)) ggX8_count_X7_length
set_option maxRecDepth 20000 in
theorem ggX8_count_X4_rows : GoodIn wsX8_count wsX4_rows := goodIn_r _ [16, 17, 114, 115, 116, 117, 118, 119] (by decide +kernel) (by decide +kernel)
set_option maxRecDepth 20000 in
theorem gX8_count_X4_rows : GoodIn wsX8_count (wsV RX8 96 RX4 yX4_rows wsX4_rows) := goodIn_app (goodIn_of _ (by decide +kernel)) ggX8_count_X4_rows
set_option maxRecDepth 20000 in
theorem ggX8_count_X0_asked : GoodIn wsX8_count wsX0_asked := goodIn_r _ [22, 23, 120, 121, 122, 123, 124, 125, 126, 127, 128, 129, 130] (by decide +kernel) (by decide +kernel)
set_option maxRecDepth 20000 in
theorem gX8_count_X0_asked : GoodIn wsX8_count (wsV RX8 248 RX0 yX0_asked wsX0_asked) := goodIn_app (goodIn_of _ (by decide +kernel)) ggX8_count_X0_asked
set_option maxRecDepth 20000 in
theorem ggX8_count_X0_waiting : GoodIn wsX8_count wsX0_waiting := goodIn_r _ [27, 28, 120, 121, 122, 123, 124, 125, 126, 127, 128, 129, 130] (by decide +kernel) (by decide +kernel)
set_option maxRecDepth 20000 in
theorem gX8_count_X0_waiting : GoodIn wsX8_count (wsV RX8 190 RX0 yX0_waiting wsX0_waiting) := goodIn_app (goodIn_of _ (by decide +kernel)) ggX8_count_X0_waiting
set_option maxRecDepth 20000 in
theorem ggX8_count_X0_seated : GoodIn wsX8_count wsX0_seated := goodIn_r _ [32, 23, 33, 34, 35, 21, 36, 37, 38, 39, 40, 41, 42, 43, 44, 45, 120, 121, 122, 123, 124, 125, 126, 127, 128, 129, 130] (by decide +kernel) (by decide +kernel)
set_option maxRecDepth 20000 in
theorem gX8_count_X0_seated : GoodIn wsX8_count (wsV RX8 305 RX0 yX0_seated wsX0_seated) := goodIn_app (goodIn_of _ (by decide +kernel)) ggX8_count_X0_seated
set_option maxRecDepth 20000 in
theorem ggX8_count_X0_freeSeats : GoodIn wsX8_count wsX0_freeSeats := goodIn_r _ [49, 50, 51, 52, 53, 54, 55, 56, 57, 120, 121, 122, 123, 124, 125, 126, 127, 128, 129, 130] (by decide +kernel) (by decide +kernel)
set_option maxRecDepth 20000 in
theorem gX8_count_X0_freeSeats : GoodIn wsX8_count (wsV RX8 308 RX0 yX0_freeSeats wsX0_freeSeats) := goodIn_app (goodIn_of _ (by decide +kernel)) ggX8_count_X0_freeSeats
set_option maxRecDepth 20000 in
theorem ggX8_count_X4_loneSeats : GoodIn wsX8_count wsX4_loneSeats := goodIn_r _ [61, 17, 62, 63, 64, 21, 65, 50, 66, 67, 68, 69, 70, 71, 15, 72, 73, 74, 75, 76, 77, 78, 52, 53, 54, 55, 56, 57, 114, 115, 116, 117, 118, 119, 120, 121, 122, 123, 124, 125, 126, 127, 128, 129, 130] (by decide +kernel) (by decide +kernel)
set_option maxRecDepth 20000 in
theorem gX8_count_X4_loneSeats : GoodIn wsX8_count (wsV RX8 311 RX4 yX4_loneSeats wsX4_loneSeats) := goodIn_app (goodIn_of _ (by decide +kernel)) ggX8_count_X4_loneSeats
set_option maxRecDepth 20000 in
theorem ggX8_count_X0_currentFee : GoodIn wsX8_count wsX0_currentFee := goodIn_r _ [82, 83, 120, 121, 122, 123, 124, 125, 126, 127, 128, 129, 130] (by decide +kernel) (by decide +kernel)
set_option maxRecDepth 20000 in
theorem gX8_count_X0_currentFee : GoodIn wsX8_count (wsV RX8 209 RX0 yX0_currentFee wsX0_currentFee) := goodIn_app (goodIn_of _ (by decide +kernel)) ggX8_count_X0_currentFee
set_option maxRecDepth 20000 in
theorem ggX8_count_X0_takings : GoodIn wsX8_count wsX0_takings := goodIn_r _ [87, 88, 120, 121, 122, 123, 124, 125, 126, 127, 128, 129, 130] (by decide +kernel) (by decide +kernel)
set_option maxRecDepth 20000 in
theorem gX8_count_X0_takings : GoodIn wsX8_count (wsV RX8 290 RX0 yX0_takings wsX0_takings) := goodIn_app (goodIn_of _ (by decide +kernel)) ggX8_count_X0_takings
set_option maxRecDepth 20000 in
theorem ggX8_count_X3_acts : GoodIn wsX8_count wsX3_acts := goodIn_r _ [93, 94, 131, 132, 133] (by decide +kernel) (by decide +kernel)
set_option maxRecDepth 20000 in
theorem gX8_count_X3_acts : GoodIn wsX8_count (wsV RX8 215 RX3 yX3_acts wsX3_acts) := goodIn_app (goodIn_of _ (by decide +kernel)) ggX8_count_X3_acts
set_option maxRecDepth 20000 in
theorem ggX8_count_X5_number : GoodIn wsX8_count wsX5_number := goodIn_r _ [99, 100, 134, 135, 136, 137] (by decide +kernel) (by decide +kernel)
set_option maxRecDepth 20000 in
theorem gX8_count_X5_number : GoodIn wsX8_count (wsV RX8 244 RX5 yX5_number wsX5_number) := goodIn_app (goodIn_of _ (by decide +kernel)) ggX8_count_X5_number
theorem dX8_count_0 : decode cX8_count 0 = .ok (.iload_n 1, 1) := by decide +kernel
theorem dX8_count_1 : decode cX8_count 1 = .ok (.tableswitch 151 0 10 #[59, 67, 75, 83, 91, 99, 107, 119, 127, 135, 143], 59) := by decide +kernel
theorem dX8_count_60 : decode cX8_count 60 = .ok (.aload_n 0, 1) := by decide +kernel
theorem dX8_count_61 : decode cX8_count 61 = .ok (.getfield 12, 3) := by decide +kernel
theorem dX8_count_64 : decode cX8_count 64 = .ok (.invokevirtual 79, 3) := by decide +kernel
theorem dX8_count_67 : decode cX8_count 67 = .ok (.ireturn, 1) := by decide +kernel
theorem dX8_count_68 : decode cX8_count 68 = .ok (.aload_n 0, 1) := by decide +kernel
theorem dX8_count_69 : decode cX8_count 69 = .ok (.getfield 23, 3) := by decide +kernel
theorem dX8_count_72 : decode cX8_count 72 = .ok (.invokevirtual 96, 3) := by decide +kernel
theorem dX8_count_75 : decode cX8_count 75 = .ok (.ireturn, 1) := by decide +kernel
theorem dX8_count_76 : decode cX8_count 76 = .ok (.aload_n 0, 1) := by decide +kernel
theorem dX8_count_77 : decode cX8_count 77 = .ok (.getfield 29, 3) := by decide +kernel
theorem dX8_count_80 : decode cX8_count 80 = .ok (.invokevirtual 248, 3) := by decide +kernel
theorem dX8_count_83 : decode cX8_count 83 = .ok (.ireturn, 1) := by decide +kernel
theorem dX8_count_84 : decode cX8_count 84 = .ok (.aload_n 0, 1) := by decide +kernel
theorem dX8_count_85 : decode cX8_count 85 = .ok (.getfield 29, 3) := by decide +kernel
theorem dX8_count_88 : decode cX8_count 88 = .ok (.invokevirtual 190, 3) := by decide +kernel
theorem dX8_count_91 : decode cX8_count 91 = .ok (.ireturn, 1) := by decide +kernel
theorem dX8_count_92 : decode cX8_count 92 = .ok (.aload_n 0, 1) := by decide +kernel
theorem dX8_count_93 : decode cX8_count 93 = .ok (.getfield 29, 3) := by decide +kernel
theorem dX8_count_96 : decode cX8_count 96 = .ok (.invokevirtual 305, 3) := by decide +kernel
theorem dX8_count_99 : decode cX8_count 99 = .ok (.ireturn, 1) := by decide +kernel
theorem dX8_count_100 : decode cX8_count 100 = .ok (.aload_n 0, 1) := by decide +kernel
theorem dX8_count_101 : decode cX8_count 101 = .ok (.getfield 29, 3) := by decide +kernel
theorem dX8_count_104 : decode cX8_count 104 = .ok (.invokevirtual 308, 3) := by decide +kernel
theorem dX8_count_107 : decode cX8_count 107 = .ok (.ireturn, 1) := by decide +kernel
theorem dX8_count_108 : decode cX8_count 108 = .ok (.aload_n 0, 1) := by decide +kernel
theorem dX8_count_109 : decode cX8_count 109 = .ok (.getfield 23, 3) := by decide +kernel
theorem dX8_count_112 : decode cX8_count 112 = .ok (.aload_n 0, 1) := by decide +kernel
theorem dX8_count_113 : decode cX8_count 113 = .ok (.getfield 29, 3) := by decide +kernel
theorem dX8_count_116 : decode cX8_count 116 = .ok (.invokevirtual 311, 3) := by decide +kernel
theorem dX8_count_119 : decode cX8_count 119 = .ok (.ireturn, 1) := by decide +kernel
theorem dX8_count_120 : decode cX8_count 120 = .ok (.aload_n 0, 1) := by decide +kernel
theorem dX8_count_121 : decode cX8_count 121 = .ok (.getfield 29, 3) := by decide +kernel
theorem dX8_count_124 : decode cX8_count 124 = .ok (.invokevirtual 209, 3) := by decide +kernel
theorem dX8_count_127 : decode cX8_count 127 = .ok (.ireturn, 1) := by decide +kernel
theorem dX8_count_128 : decode cX8_count 128 = .ok (.aload_n 0, 1) := by decide +kernel
theorem dX8_count_129 : decode cX8_count 129 = .ok (.getfield 29, 3) := by decide +kernel
theorem dX8_count_132 : decode cX8_count 132 = .ok (.invokevirtual 290, 3) := by decide +kernel
theorem dX8_count_135 : decode cX8_count 135 = .ok (.ireturn, 1) := by decide +kernel
theorem dX8_count_136 : decode cX8_count 136 = .ok (.aload_n 0, 1) := by decide +kernel
theorem dX8_count_137 : decode cX8_count 137 = .ok (.getfield 39, 3) := by decide +kernel
theorem dX8_count_140 : decode cX8_count 140 = .ok (.invokevirtual 215, 3) := by decide +kernel
theorem dX8_count_143 : decode cX8_count 143 = .ok (.ireturn, 1) := by decide +kernel
theorem dX8_count_144 : decode cX8_count 144 = .ok (.aload_n 0, 1) := by decide +kernel
theorem dX8_count_145 : decode cX8_count 145 = .ok (.getfield 53, 3) := by decide +kernel
theorem dX8_count_148 : decode cX8_count 148 = .ok (.invokevirtual 244, 3) := by decide +kernel
theorem dX8_count_151 : decode cX8_count 151 = .ok (.ireturn, 1) := by decide +kernel
theorem dX8_count_152 : decode cX8_count 152 = .ok (.bipush (-2), 2) := by decide +kernel
theorem dX8_count_154 : decode cX8_count 154 = .ok (.ireturn, 1) := by decide +kernel
theorem dX8_isSize_0 : decode cX8_isSize 0 = .ok (.iload_n 0, 1) := by decide +kernel
theorem dX8_isSize_1 : decode cX8_isSize 1 = .ok (.iconst 1, 1) := by decide +kernel
theorem dX8_isSize_2 : decode cX8_isSize 2 = .ok (.if_icmp .lt 13, 3) := by decide +kernel
theorem dX8_isSize_5 : decode cX8_isSize 5 = .ok (.iload_n 0, 1) := by decide +kernel
theorem dX8_isSize_6 : decode cX8_isSize 6 = .ok (.bipush 6, 2) := by decide +kernel
theorem dX8_isSize_8 : decode cX8_isSize 8 = .ok (.if_icmp .gt 7, 3) := by decide +kernel
theorem dX8_isSize_11 : decode cX8_isSize 11 = .ok (.iconst 1, 1) := by decide +kernel
theorem dX8_isSize_12 : decode cX8_isSize 12 = .ok (.goto 4, 3) := by decide +kernel
theorem dX8_isSize_15 : decode cX8_isSize 15 = .ok (.iconst 0, 1) := by decide +kernel
theorem dX8_isSize_16 : decode cX8_isSize 16 = .ok (.ireturn, 1) := by decide +kernel
theorem dX8_isPrice_0 : decode cX8_isPrice 0 = .ok (.iload_n 0, 1) := by decide +kernel
theorem dX8_isPrice_1 : decode cX8_isPrice 1 = .ok (.iconst 1, 1) := by decide +kernel
theorem dX8_isPrice_2 : decode cX8_isPrice 2 = .ok (.if_icmp .lt 13, 3) := by decide +kernel
theorem dX8_isPrice_5 : decode cX8_isPrice 5 = .ok (.iload_n 0, 1) := by decide +kernel
theorem dX8_isPrice_6 : decode cX8_isPrice 6 = .ok (.bipush 9, 2) := by decide +kernel
theorem dX8_isPrice_8 : decode cX8_isPrice 8 = .ok (.if_icmp .gt 7, 3) := by decide +kernel
theorem dX8_isPrice_11 : decode cX8_isPrice 11 = .ok (.iconst 1, 1) := by decide +kernel
theorem dX8_isPrice_12 : decode cX8_isPrice 12 = .ok (.goto 4, 3) := by decide +kernel
theorem dX8_isPrice_15 : decode cX8_isPrice 15 = .ok (.iconst 0, 1) := by decide +kernel
theorem dX8_isPrice_16 : decode cX8_isPrice 16 = .ok (.ireturn, 1) := by decide +kernel
theorem dX8_placeAt_0 : decode cX8_placeAt 0 = .ok (.bipush 10, 2) := by decide +kernel
theorem dX8_placeAt_2 : decode cX8_placeAt 2 = .ok (.iload_n 0, 1) := by decide +kernel
theorem dX8_placeAt_3 : decode cX8_placeAt 3 = .ok (.imul, 1) := by decide +kernel
theorem dX8_placeAt_4 : decode cX8_placeAt 4 = .ok (.iload_n 1, 1) := by decide +kernel
theorem dX8_placeAt_5 : decode cX8_placeAt 5 = .ok (.iadd, 1) := by decide +kernel
theorem dX8_placeAt_6 : decode cX8_placeAt 6 = .ok (.ireturn, 1) := by decide +kernel
theorem dX8_rowOf_0 : decode cX8_rowOf 0 = .ok (.iload_n 0, 1) := by decide +kernel
theorem dX8_rowOf_1 : decode cX8_rowOf 1 = .ok (.bipush 10, 2) := by decide +kernel
theorem dX8_rowOf_3 : decode cX8_rowOf 3 = .ok (.idiv, 1) := by decide +kernel
theorem dX8_rowOf_4 : decode cX8_rowOf 4 = .ok (.ireturn, 1) := by decide +kernel
theorem dX8_firstOf_0 : decode cX8_firstOf 0 = .ok (.iload_n 0, 1) := by decide +kernel
theorem dX8_firstOf_1 : decode cX8_firstOf 1 = .ok (.bipush 10, 2) := by decide +kernel
theorem dX8_firstOf_3 : decode cX8_firstOf 3 = .ok (.irem, 1) := by decide +kernel
theorem dX8_firstOf_4 : decode cX8_firstOf 4 = .ok (.ireturn, 1) := by decide +kernel
theorem dX8_span_0 : decode cX8_span 0 = .ok (.iconst 1, 1) := by decide +kernel
theorem dX8_span_1 : decode cX8_span 1 = .ok (.iload_n 1, 1) := by decide +kernel
theorem dX8_span_2 : decode cX8_span 2 = .ok (.ishl, 1) := by decide +kernel
theorem dX8_span_3 : decode cX8_span 3 = .ok (.iconst 1, 1) := by decide +kernel
theorem dX8_span_4 : decode cX8_span 4 = .ok (.isub, 1) := by decide +kernel
theorem dX8_span_5 : decode cX8_span 5 = .ok (.iload_n 0, 1) := by decide +kernel
theorem dX8_span_6 : decode cX8_span 6 = .ok (.ishl, 1) := by decide +kernel
theorem dX8_span_7 : decode cX8_span 7 = .ok (.ireturn, 1) := by decide +kernel
theorem dX8_factorial_0 : decode cX8_factorial 0 = .ok (.iload_n 0, 1) := by decide +kernel
theorem dX8_factorial_1 : decode cX8_factorial 1 = .ok (.ifCond .lt 19, 3) := by decide +kernel
theorem dX8_factorial_4 : decode cX8_factorial 4 = .ok (.iload_n 0, 1) := by decide +kernel
theorem dX8_factorial_5 : decode cX8_factorial 5 = .ok (.getstatic 315, 3) := by decide +kernel
theorem dX8_factorial_8 : decode cX8_factorial 8 = .ok (.arraylength, 1) := by decide +kernel
theorem dX8_factorial_9 : decode cX8_factorial 9 = .ok (.if_icmp .ge 11, 3) := by decide +kernel
theorem dX8_factorial_12 : decode cX8_factorial 12 = .ok (.getstatic 315, 3) := by decide +kernel
theorem dX8_factorial_15 : decode cX8_factorial 15 = .ok (.iload_n 0, 1) := by decide +kernel
theorem dX8_factorial_16 : decode cX8_factorial 16 = .ok (.iaload, 1) := by decide +kernel
theorem dX8_factorial_17 : decode cX8_factorial 17 = .ok (.goto 4, 3) := by decide +kernel
theorem dX8_factorial_20 : decode cX8_factorial 20 = .ok (.iconst 0, 1) := by decide +kernel
theorem dX8_factorial_21 : decode cX8_factorial 21 = .ok (.ireturn, 1) := by decide +kernel
theorem dX8_lowestTerms_0 : decode cX8_lowestTerms 0 = .ok (.lload_n 2, 1) := by decide +kernel
theorem dX8_lowestTerms_1 : decode cX8_lowestTerms 1 = .ok (.lstore 5, 2) := by decide +kernel
theorem dX8_lowestTerms_3 : decode cX8_lowestTerms 3 = .ok (.lload_n 0, 1) := by decide +kernel
theorem dX8_lowestTerms_4 : decode cX8_lowestTerms 4 = .ok (.lstore 7, 2) := by decide +kernel
theorem dX8_lowestTerms_6 : decode cX8_lowestTerms 6 = .ok (.iconst 0, 1) := by decide +kernel
theorem dX8_lowestTerms_7 : decode cX8_lowestTerms 7 = .ok (.istore 9, 2) := by decide +kernel
theorem dX8_lowestTerms_9 : decode cX8_lowestTerms 9 = .ok (.iload 9, 2) := by decide +kernel
theorem dX8_lowestTerms_11 : decode cX8_lowestTerms 11 = .ok (.bipush 100, 2) := by decide +kernel
theorem dX8_lowestTerms_13 : decode cX8_lowestTerms 13 = .ok (.if_icmp .ge 31, 3) := by decide +kernel
theorem dX8_lowestTerms_16 : decode cX8_lowestTerms 16 = .ok (.lload 7, 2) := by decide +kernel
theorem dX8_lowestTerms_18 : decode cX8_lowestTerms 18 = .ok (.lconst 0, 1) := by decide +kernel
theorem dX8_lowestTerms_19 : decode cX8_lowestTerms 19 = .ok (.lcmp, 1) := by decide +kernel
theorem dX8_lowestTerms_20 : decode cX8_lowestTerms 20 = .ok (.ifCond .eq 24, 3) := by decide +kernel
theorem dX8_lowestTerms_23 : decode cX8_lowestTerms 23 = .ok (.lload 5, 2) := by decide +kernel
theorem dX8_lowestTerms_25 : decode cX8_lowestTerms 25 = .ok (.lload 7, 2) := by decide +kernel
theorem dX8_lowestTerms_27 : decode cX8_lowestTerms 27 = .ok (.lrem, 1) := by decide +kernel
theorem dX8_lowestTerms_28 : decode cX8_lowestTerms 28 = .ok (.lstore 10, 2) := by decide +kernel
theorem dX8_lowestTerms_30 : decode cX8_lowestTerms 30 = .ok (.lload 7, 2) := by decide +kernel
theorem dX8_lowestTerms_32 : decode cX8_lowestTerms 32 = .ok (.lstore 5, 2) := by decide +kernel
theorem dX8_lowestTerms_34 : decode cX8_lowestTerms 34 = .ok (.lload 10, 2) := by decide +kernel
theorem dX8_lowestTerms_36 : decode cX8_lowestTerms 36 = .ok (.lstore 7, 2) := by decide +kernel
theorem dX8_lowestTerms_38 : decode cX8_lowestTerms 38 = .ok (.iinc 9 1, 3) := by decide +kernel
theorem dX8_lowestTerms_41 : decode cX8_lowestTerms 41 = .ok (.goto (-32), 3) := by decide +kernel
theorem dX8_lowestTerms_44 : decode cX8_lowestTerms 44 = .ok (.lload 5, 2) := by decide +kernel
theorem dX8_lowestTerms_46 : decode cX8_lowestTerms 46 = .ok (.lconst 0, 1) := by decide +kernel
theorem dX8_lowestTerms_47 : decode cX8_lowestTerms 47 = .ok (.lcmp, 1) := by decide +kernel
theorem dX8_lowestTerms_48 : decode cX8_lowestTerms 48 = .ok (.ifCond .gt 5, 3) := by decide +kernel
theorem dX8_lowestTerms_51 : decode cX8_lowestTerms 51 = .ok (.iconst 0, 1) := by decide +kernel
theorem dX8_lowestTerms_52 : decode cX8_lowestTerms 52 = .ok (.ireturn, 1) := by decide +kernel
theorem dX8_lowestTerms_53 : decode cX8_lowestTerms 53 = .ok (.iload 4, 2) := by decide +kernel
theorem dX8_lowestTerms_55 : decode cX8_lowestTerms 55 = .ok (.ifCond .eq 7, 3) := by decide +kernel
theorem dX8_lowestTerms_58 : decode cX8_lowestTerms 58 = .ok (.lload_n 0, 1) := by decide +kernel
theorem dX8_lowestTerms_59 : decode cX8_lowestTerms 59 = .ok (.goto 4, 3) := by decide +kernel
theorem dX8_lowestTerms_62 : decode cX8_lowestTerms 62 = .ok (.lload_n 2, 1) := by decide +kernel
theorem dX8_lowestTerms_63 : decode cX8_lowestTerms 63 = .ok (.lload 5, 2) := by decide +kernel
theorem dX8_lowestTerms_65 : decode cX8_lowestTerms 65 = .ok (.ldiv, 1) := by decide +kernel
theorem dX8_lowestTerms_66 : decode cX8_lowestTerms 66 = .ok (.l2i, 1) := by decide +kernel
theorem dX8_lowestTerms_67 : decode cX8_lowestTerms 67 = .ok (.ireturn, 1) := by decide +kernel
set_option maxRecDepth 20000 in
theorem ggX8_placeInsteadFor_X0_sizeOf : GoodIn wsX8_placeInsteadFor wsX0_sizeOf := goodIn_r _ [9, 10, 11, 12, 13, 8, 14, 15, 136, 137, 138, 139, 140, 141, 142, 143, 144, 145, 146] (by decide +kernel) (by decide +kernel)
set_option maxRecDepth 20000 in
theorem gX8_placeInsteadFor_X0_sizeOf : GoodIn wsX8_placeInsteadFor (wsV RX8 138 RX0 yX0_sizeOf wsX0_sizeOf) := goodIn_app (goodIn_of _ (by decide +kernel)) ggX8_placeInsteadFor_X0_sizeOf
set_option maxRecDepth 20000 in
theorem ggX8_placeInsteadFor_X0_copyFrom : GoodIn wsX8_placeInsteadFor wsX0_copyFrom := goodIn_r _ [19, 20, 21, 22, 23, 24, 25, 10, 26, 27, 28, 29, 15, 30, 31, 32, 136, 137, 138, 139, 140, 141, 142, 143, 144, 145, 146] (by decide +kernel) (by decide +kernel)
set_option maxRecDepth 20000 in
theorem gX8_placeInsteadFor_X0_copyFrom : GoodIn wsX8_placeInsteadFor (wsV RX8 224 RX0 yX0_copyFrom wsX0_copyFrom) := goodIn_app (goodIn_of _ (by decide +kernel)) ggX8_placeInsteadFor_X0_copyFrom
set_option maxRecDepth 20000 in
theorem ggX8_placeInsteadFor_X0_placeOf : GoodIn wsX8_placeInsteadFor wsX0_placeOf := goodIn_r _ [36, 27, 11, 12, 13, 8, 14, 15, 136, 137, 138, 139, 140, 141, 142, 143, 144, 145, 146] (by decide +kernel) (by decide +kernel)
set_option maxRecDepth 20000 in
theorem gX8_placeInsteadFor_X0_placeOf : GoodIn wsX8_placeInsteadFor (wsV RX8 147 RX0 yX0_placeOf wsX0_placeOf) := goodIn_app (goodIn_of _ (by decide +kernel)) ggX8_placeInsteadFor_X0_placeOf
set_option maxRecDepth 20000 in
theorem ggX8_placeInsteadFor_X0_clear : GoodIn wsX8_placeInsteadFor wsX0_clear := goodIn_r _ [40, 25, 41, 42, 43, 44, 45, 8, 46, 47, 48, 49, 50, 136, 137, 138, 139, 140, 141, 142, 143, 144, 145, 146] (by decide +kernel) (by decide +kernel)
set_option maxRecDepth 20000 in
theorem gX8_placeInsteadFor_X0_clear : GoodIn wsX8_placeInsteadFor (wsV RX8 319 RX0 yX0_clear wsX0_clear) := goodIn_app (goodIn_of _ (by decide +kernel)) ggX8_placeInsteadFor_X0_clear
set_option maxRecDepth 20000 in
theorem ggX8_placeInsteadFor_X4_loneSeats : GoodIn wsX8_placeInsteadFor wsX4_loneSeats := goodIn_r _ [55, 56, 57, 58, 59, 8, 60, 25, 44, 45, 46, 61, 62, 63, 54, 64, 65, 66, 67, 68, 69, 70, 71, 72, 73, 74, 75, 76, 147, 148, 149, 150, 151, 152, 136, 137, 138, 139, 140, 141, 142, 143, 144, 145, 146] (by decide +kernel) (by decide +kernel)
set_option maxRecDepth 20000 in
theorem gX8_placeInsteadFor_X4_loneSeats : GoodIn wsX8_placeInsteadFor (wsV RX8 311 RX4 yX4_loneSeats wsX4_loneSeats) := goodIn_app (goodIn_of _ (by decide +kernel)) ggX8_placeInsteadFor_X4_loneSeats
set_option maxRecDepth 20000 in
theorem ggX8_placeInsteadFor_X0_limitOf : GoodIn wsX8_placeInsteadFor wsX0_limitOf := goodIn_r _ [80, 26, 11, 12, 13, 8, 14, 15, 136, 137, 138, 139, 140, 141, 142, 143, 144, 145, 146] (by decide +kernel) (by decide +kernel)
set_option maxRecDepth 20000 in
theorem gX8_placeInsteadFor_X0_limitOf : GoodIn wsX8_placeInsteadFor (wsV RX8 141 RX0 yX0_limitOf wsX0_limitOf) := goodIn_app (goodIn_of _ (by decide +kernel)) ggX8_placeInsteadFor_X0_limitOf
set_option maxRecDepth 20000 in
theorem ggX8_placeInsteadFor_X1_look : GoodIn wsX8_placeInsteadFor wsX1_look := goodIn_r _ [85, 86, 87, 88, 89, 90, 91, 92, 54, 93, 56, 94, 95, 96, 8, 97, 20, 44, 45, 46, 98, 99, 100, 84, 101, 102, 58, 59, 60, 25, 103, 62, 63, 64, 65, 66, 67, 68, 69, 104, 71, 72, 73, 74, 75, 76, 105, 106, 107, 108, 109, 49, 42, 50, 110, 111, 112, 113, 114, 115, 116, 117, 118, 119, 120, 41, 43, 47, 48, 121, 122, 123, 124, 153, 154, 155, 156, 147, 148, 149, 150, 151, 152, 136, 137, 138, 139, 140, 141, 142, 143, 144, 145, 146] (by decide +kernel) (by decide +kernel)
set_option maxRecDepth 20000 in
theorem gX8_placeInsteadFor_X1_look : GoodIn wsX8_placeInsteadFor (wsV RX8 165 RX1 yX1_look wsX1_look) := goodIn_app (goodIn_of _ (by decide +kernel)) ggX8_placeInsteadFor_X1_look
theorem dX8_placeInsteadFor_0 : decode cX8_placeInsteadFor 0 = .ok (.aload_n 0, 1) := by decide +kernel
theorem dX8_placeInsteadFor_1 : decode cX8_placeInsteadFor 1 = .ok (.getfield 29, 3) := by decide +kernel
theorem dX8_placeInsteadFor_4 : decode cX8_placeInsteadFor 4 = .ok (.iload_n 1, 1) := by decide +kernel
theorem dX8_placeInsteadFor_5 : decode cX8_placeInsteadFor 5 = .ok (.invokevirtual 138, 3) := by decide +kernel
theorem dX8_placeInsteadFor_8 : decode cX8_placeInsteadFor 8 = .ok (.istore_n 2, 1) := by decide +kernel
theorem dX8_placeInsteadFor_9 : decode cX8_placeInsteadFor 9 = .ok (.aload_n 0, 1) := by decide +kernel
theorem dX8_placeInsteadFor_10 : decode cX8_placeInsteadFor 10 = .ok (.getfield 33, 3) := by decide +kernel
theorem dX8_placeInsteadFor_13 : decode cX8_placeInsteadFor 13 = .ok (.aload_n 0, 1) := by decide +kernel
theorem dX8_placeInsteadFor_14 : decode cX8_placeInsteadFor 14 = .ok (.getfield 29, 3) := by decide +kernel
theorem dX8_placeInsteadFor_17 : decode cX8_placeInsteadFor 17 = .ok (.invokevirtual 224, 3) := by decide +kernel
theorem dX8_placeInsteadFor_20 : decode cX8_placeInsteadFor 20 = .ok (.aload_n 0, 1) := by decide +kernel
theorem dX8_placeInsteadFor_21 : decode cX8_placeInsteadFor 21 = .ok (.getfield 33, 3) := by decide +kernel
theorem dX8_placeInsteadFor_24 : decode cX8_placeInsteadFor 24 = .ok (.aload_n 0, 1) := by decide +kernel
theorem dX8_placeInsteadFor_25 : decode cX8_placeInsteadFor 25 = .ok (.getfield 29, 3) := by decide +kernel
theorem dX8_placeInsteadFor_28 : decode cX8_placeInsteadFor 28 = .ok (.iload_n 1, 1) := by decide +kernel
theorem dX8_placeInsteadFor_29 : decode cX8_placeInsteadFor 29 = .ok (.invokevirtual 147, 3) := by decide +kernel
