set_option maxRecDepth 20000 in
theorem gX9_shift_X9_seatOn : GoodIn wsX9_shift (wsV RX9 158 RX9 yX9_seatOn wsX9_seatOn) := goodIn_app (goodIn_of _ (by decide +kernel)) ggX9_shift_X9_seatOn
set_option maxRecDepth 20000 in
theorem ggX9_shift_X9_letInOn : GoodIn wsX9_shift wsX9_letInOn := goodIn_r _ [74, 4, 14, 15, 9, 16, 75, 76, 77, 78, 28, 29, 30, 31, 32, 33, 34, 35, 36, 37, 38, 39, 40, 41, 42, 43, 44, 45, 46, 47, 48, 49, 50, 51, 52, 53, 5, 54, 55, 56, 57, 58, 59, 60, 25, 26, 27, 17, 18, 19, 20, 21, 79, 80, 81, 82, 67, 68, 69, 70, 83, 84, 85, 86, 87, 88, 89, 90, 91, 92, 93, 94, 95, 96, 97, 98, 99, 100, 101, 102, 103, 104, 105, 106, 107, 108] (by decide +kernel) (by decide +kernel)
set_option maxRecDepth 20000 in
theorem gX9_shift_X9_letInOn : GoodIn wsX9_shift (wsV RX9 169 RX9 yX9_letInOn wsX9_letInOn) := goodIn_app (goodIn_of _ (by decide +kernel)) ggX9_shift_X9_letInOn
theorem dX9_shift_0 : decode cX9_shift 0 = .ok (.aload_n 0, 1) := by decide +kernel
theorem dX9_shift_1 : decode cX9_shift 1 = .ok (.iconst 0, 1) := by decide +kernel
theorem dX9_shift_2 : decode cX9_shift 2 = .ok (.putfield 60, 3) := by decide +kernel
theorem dX9_shift_5 : decode cX9_shift 5 = .ok (.aload_n 0, 1) := by decide +kernel
theorem dX9_shift_6 : decode cX9_shift 6 = .ok (.iload_n 1, 1) := by decide +kernel
theorem dX9_shift_7 : decode cX9_shift 7 = .ok (.invokevirtual 176, 3) := by decide +kernel
theorem dX9_shift_10 : decode cX9_shift 10 = .ok (.ifCond .eq 5, 3) := by decide +kernel
theorem dX9_shift_13 : decode cX9_shift 13 = .ok (.iconst (-1), 1) := by decide +kernel
theorem dX9_shift_14 : decode cX9_shift 14 = .ok (.ireturn, 1) := by decide +kernel
theorem dX9_shift_15 : decode cX9_shift 15 = .ok (.iload_n 1, 1) := by decide +kernel
theorem dX9_shift_16 : decode cX9_shift 16 = .ok (.invokestatic 155, 3) := by decide +kernel
theorem dX9_shift_19 : decode cX9_shift 19 = .ok (.istore_n 2, 1) := by decide +kernel
theorem dX9_shift_20 : decode cX9_shift 20 = .ok (.aload_n 0, 1) := by decide +kernel
theorem dX9_shift_21 : decode cX9_shift 21 = .ok (.getfield 35, 3) := by decide +kernel
theorem dX9_shift_24 : decode cX9_shift 24 = .ok (.iload_n 2, 1) := by decide +kernel
theorem dX9_shift_25 : decode cX9_shift 25 = .ok (.iconst 2, 1) := by decide +kernel
theorem dX9_shift_26 : decode cX9_shift 26 = .ok (.iadd, 1) := by decide +kernel
theorem dX9_shift_27 : decode cX9_shift 27 = .ok (.iaload, 1) := by decide +kernel
theorem dX9_shift_28 : decode cX9_shift 28 = .ok (.iconst 1, 1) := by decide +kernel
theorem dX9_shift_29 : decode cX9_shift 29 = .ok (.if_icmp .eq 6, 3) := by decide +kernel
theorem dX9_shift_32 : decode cX9_shift 32 = .ok (.bipush (-3), 2) := by decide +kernel
theorem dX9_shift_34 : decode cX9_shift 34 = .ok (.ireturn, 1) := by decide +kernel
theorem dX9_shift_35 : decode cX9_shift 35 = .ok (.aload_n 0, 1) := by decide +kernel
theorem dX9_shift_36 : decode cX9_shift 36 = .ok (.getfield 35, 3) := by decide +kernel
theorem dX9_shift_39 : decode cX9_shift 39 = .ok (.iload_n 2, 1) := by decide +kernel
theorem dX9_shift_40 : decode cX9_shift 40 = .ok (.iconst 0, 1) := by decide +kernel
theorem dX9_shift_41 : decode cX9_shift 41 = .ok (.iadd, 1) := by decide +kernel
theorem dX9_shift_42 : decode cX9_shift 42 = .ok (.iaload, 1) := by decide +kernel
theorem dX9_shift_43 : decode cX9_shift 43 = .ok (.istore_n 3, 1) := by decide +kernel
theorem dX9_shift_44 : decode cX9_shift 44 = .ok (.aload_n 0, 1) := by decide +kernel
theorem dX9_shift_45 : decode cX9_shift 45 = .ok (.aload_n 0, 1) := by decide +kernel
theorem dX9_shift_46 : decode cX9_shift 46 = .ok (.getfield 35, 3) := by decide +kernel
theorem dX9_shift_49 : decode cX9_shift 49 = .ok (.iload_n 2, 1) := by decide +kernel
theorem dX9_shift_50 : decode cX9_shift 50 = .ok (.iconst 3, 1) := by decide +kernel
theorem dX9_shift_51 : decode cX9_shift 51 = .ok (.iadd, 1) := by decide +kernel
theorem dX9_shift_52 : decode cX9_shift 52 = .ok (.iaload, 1) := by decide +kernel
theorem dX9_shift_53 : decode cX9_shift 53 = .ok (.aload_n 0, 1) := by decide +kernel
theorem dX9_shift_54 : decode cX9_shift 54 = .ok (.getfield 35, 3) := by decide +kernel
theorem dX9_shift_57 : decode cX9_shift 57 = .ok (.iload_n 2, 1) := by decide +kernel
theorem dX9_shift_58 : decode cX9_shift 58 = .ok (.iconst 4, 1) := by decide +kernel
theorem dX9_shift_59 : decode cX9_shift 59 = .ok (.iadd, 1) := by decide +kernel
theorem dX9_shift_60 : decode cX9_shift 60 = .ok (.iaload, 1) := by decide +kernel
theorem dX9_shift_61 : decode cX9_shift 61 = .ok (.iload_n 3, 1) := by decide +kernel
theorem dX9_shift_62 : decode cX9_shift 62 = .ok (.invokevirtual 148, 3) := by decide +kernel
theorem dX9_shift_65 : decode cX9_shift 65 = .ok (.istore 4, 2) := by decide +kernel
theorem dX9_shift_67 : decode cX9_shift 67 = .ok (.aload_n 0, 1) := by decide +kernel
theorem dX9_shift_68 : decode cX9_shift 68 = .ok (.getfield 35, 3) := by decide +kernel
theorem dX9_shift_71 : decode cX9_shift 71 = .ok (.aload_n 0, 1) := by decide +kernel
theorem dX9_shift_72 : decode cX9_shift 72 = .ok (.getfield 38, 3) := by decide +kernel
theorem dX9_shift_75 : decode cX9_shift 75 = .ok (.invokestatic 101, 3) := by decide +kernel
theorem dX9_shift_78 : decode cX9_shift 78 = .ok (.aload_n 0, 1) := by decide +kernel
theorem dX9_shift_79 : decode cX9_shift 79 = .ok (.getfield 38, 3) := by decide +kernel
theorem dX9_shift_82 : decode cX9_shift 82 = .ok (.aload_n 0, 1) := by decide +kernel
theorem dX9_shift_83 : decode cX9_shift 83 = .ok (.getfield 38, 3) := by decide +kernel
theorem dX9_shift_86 : decode cX9_shift 86 = .ok (.iload_n 2, 1) := by decide +kernel
theorem dX9_shift_87 : decode cX9_shift 87 = .ok (.iconst 3, 1) := by decide +kernel
theorem dX9_shift_88 : decode cX9_shift 88 = .ok (.iadd, 1) := by decide +kernel
theorem dX9_shift_89 : decode cX9_shift 89 = .ok (.iaload, 1) := by decide +kernel
theorem dX9_shift_90 : decode cX9_shift 90 = .ok (.aload_n 0, 1) := by decide +kernel
theorem dX9_shift_91 : decode cX9_shift 91 = .ok (.getfield 38, 3) := by decide +kernel
theorem dX9_shift_94 : decode cX9_shift 94 = .ok (.iload_n 2, 1) := by decide +kernel
theorem dX9_shift_95 : decode cX9_shift 95 = .ok (.iconst 4, 1) := by decide +kernel
theorem dX9_shift_96 : decode cX9_shift 96 = .ok (.iadd, 1) := by decide +kernel
theorem dX9_shift_97 : decode cX9_shift 97 = .ok (.iaload, 1) := by decide +kernel
theorem dX9_shift_98 : decode cX9_shift 98 = .ok (.iload_n 3, 1) := by decide +kernel
theorem dX9_shift_99 : decode cX9_shift 99 = .ok (.iconst 0, 1) := by decide +kernel
theorem dX9_shift_100 : decode cX9_shift 100 = .ok (.invokestatic 126, 3) := by decide +kernel
theorem dX9_shift_103 : decode cX9_shift 103 = .ok (.aload_n 0, 1) := by decide +kernel
theorem dX9_shift_104 : decode cX9_shift 104 = .ok (.aload_n 0, 1) := by decide +kernel
theorem dX9_shift_105 : decode cX9_shift 105 = .ok (.getfield 38, 3) := by decide +kernel
theorem dX9_shift_108 : decode cX9_shift 108 = .ok (.iload_n 3, 1) := by decide +kernel
theorem dX9_shift_109 : decode cX9_shift 109 = .ok (.aload_n 0, 1) := by decide +kernel
theorem dX9_shift_110 : decode cX9_shift 110 = .ok (.getfield 38, 3) := by decide +kernel
theorem dX9_shift_113 : decode cX9_shift 113 = .ok (.iload_n 2, 1) := by decide +kernel
theorem dX9_shift_114 : decode cX9_shift 114 = .ok (.iconst 1, 1) := by decide +kernel
theorem dX9_shift_115 : decode cX9_shift 115 = .ok (.iadd, 1) := by decide +kernel
theorem dX9_shift_116 : decode cX9_shift 116 = .ok (.iaload, 1) := by decide +kernel
theorem dX9_shift_117 : decode cX9_shift 117 = .ok (.bipush 15, 2) := by decide +kernel
theorem dX9_shift_119 : decode cX9_shift 119 = .ok (.aload_n 0, 1) := by decide +kernel
theorem dX9_shift_120 : decode cX9_shift 120 = .ok (.aload_n 0, 1) := by decide +kernel
theorem dX9_shift_121 : decode cX9_shift 121 = .ok (.getfield 35, 3) := by decide +kernel
theorem dX9_shift_124 : decode cX9_shift 124 = .ok (.invokevirtual 130, 3) := by decide +kernel
theorem dX9_shift_127 : decode cX9_shift 127 = .ok (.invokevirtual 152, 3) := by decide +kernel
theorem dX9_shift_130 : decode cX9_shift 130 = .ok (.aload_n 0, 1) := by decide +kernel
theorem dX9_shift_131 : decode cX9_shift 131 = .ok (.getfield 137, 3) := by decide +kernel
theorem dX9_shift_134 : decode cX9_shift 134 = .ok (.ifCond .eq 12, 3) := by decide +kernel
theorem dX9_shift_137 : decode cX9_shift 137 = .ok (.aload_n 0, 1) := by decide +kernel
theorem dX9_shift_138 : decode cX9_shift 138 = .ok (.getfield 134, 3) := by decide +kernel
theorem dX9_shift_141 : decode cX9_shift 141 = .ok (.iload 4, 2) := by decide +kernel
theorem dX9_shift_143 : decode cX9_shift 143 = .ok (.if_icmp .gt 6, 3) := by decide +kernel
theorem dX9_shift_146 : decode cX9_shift 146 = .ok (.bipush (-3), 2) := by decide +kernel
theorem dX9_shift_148 : decode cX9_shift 148 = .ok (.ireturn, 1) := by decide +kernel
theorem dX9_shift_149 : decode cX9_shift 149 = .ok (.aload_n 0, 1) := by decide +kernel
theorem dX9_shift_150 : decode cX9_shift 150 = .ok (.getfield 134, 3) := by decide +kernel
theorem dX9_shift_153 : decode cX9_shift 153 = .ok (.iload 4, 2) := by decide +kernel
theorem dX9_shift_155 : decode cX9_shift 155 = .ok (.isub, 1) := by decide +kernel
theorem dX9_shift_156 : decode cX9_shift 156 = .ok (.istore 5, 2) := by decide +kernel
theorem dX9_shift_158 : decode cX9_shift 158 = .ok (.aload_n 0, 1) := by decide +kernel
theorem dX9_shift_159 : decode cX9_shift 159 = .ok (.invokevirtual 191, 3) := by decide +kernel
theorem dX9_shift_162 : decode cX9_shift 162 = .ok (.aload_n 0, 1) := by decide +kernel
theorem dX9_shift_163 : decode cX9_shift 163 = .ok (.getfield 35, 3) := by decide +kernel
theorem dX9_shift_166 : decode cX9_shift 166 = .ok (.aload_n 0, 1) := by decide +kernel
theorem dX9_shift_167 : decode cX9_shift 167 = .ok (.getfield 35, 3) := by decide +kernel
theorem dX9_shift_170 : decode cX9_shift 170 = .ok (.iload_n 2, 1) := by decide +kernel
theorem dX9_shift_171 : decode cX9_shift 171 = .ok (.iconst 3, 1) := by decide +kernel
theorem dX9_shift_172 : decode cX9_shift 172 = .ok (.iadd, 1) := by decide +kernel
theorem dX9_shift_173 : decode cX9_shift 173 = .ok (.iaload, 1) := by decide +kernel
theorem dX9_shift_174 : decode cX9_shift 174 = .ok (.aload_n 0, 1) := by decide +kernel
theorem dX9_shift_175 : decode cX9_shift 175 = .ok (.getfield 35, 3) := by decide +kernel
theorem dX9_shift_178 : decode cX9_shift 178 = .ok (.iload_n 2, 1) := by decide +kernel
theorem dX9_shift_179 : decode cX9_shift 179 = .ok (.iconst 4, 1) := by decide +kernel
theorem dX9_shift_180 : decode cX9_shift 180 = .ok (.iadd, 1) := by decide +kernel
theorem dX9_shift_181 : decode cX9_shift 181 = .ok (.iaload, 1) := by decide +kernel
theorem dX9_shift_182 : decode cX9_shift 182 = .ok (.iload_n 3, 1) := by decide +kernel
theorem dX9_shift_183 : decode cX9_shift 183 = .ok (.iconst 0, 1) := by decide +kernel
theorem dX9_shift_184 : decode cX9_shift 184 = .ok (.invokestatic 126, 3) := by decide +kernel
theorem dX9_shift_187 : decode cX9_shift 187 = .ok (.aload_n 0, 1) := by decide +kernel
theorem dX9_shift_188 : decode cX9_shift 188 = .ok (.aload_n 0, 1) := by decide +kernel
theorem dX9_shift_189 : decode cX9_shift 189 = .ok (.getfield 35, 3) := by decide +kernel
theorem dX9_shift_192 : decode cX9_shift 192 = .ok (.iload_n 1, 1) := by decide +kernel
theorem dX9_shift_193 : decode cX9_shift 193 = .ok (.invokevirtual 158, 3) := by decide +kernel
theorem dX9_shift_196 : decode cX9_shift 196 = .ok (.aload_n 0, 1) := by decide +kernel
theorem dX9_shift_197 : decode cX9_shift 197 = .ok (.aload_n 0, 1) := by decide +kernel
theorem dX9_shift_198 : decode cX9_shift 198 = .ok (.getfield 35, 3) := by decide +kernel
theorem dX9_shift_201 : decode cX9_shift 201 = .ok (.invokevirtual 169, 3) := by decide +kernel
theorem dX9_shift_204 : decode cX9_shift 204 = .ok (.iload 5, 2) := by decide +kernel
theorem dX9_shift_206 : decode cX9_shift 206 = .ok (.ireturn, 1) := by decide +kernel
set_option maxRecDepth 20000 in
theorem ggX9_price_X9_noRow : GoodIn wsX9_price wsX9_noRow := goodIn_r _ [8, 9, 10, 11, 7, 12, 80, 81, 82, 83, 84, 85, 86, 87, 88, 89, 90, 91, 92, 93, 94, 95, 96, 97, 98, 99, 100, 101, 102, 103, 104, 105] (by decide +kernel) (by decide +kernel)
set_option maxRecDepth 20000 in
theorem gX9_price_X9_noRow : GoodIn wsX9_price (wsV RX9 70 RX9 yX9_noRow wsX9_noRow) := goodIn_app (goodIn_of _ (by decide +kernel)) ggX9_price_X9_noRow
set_option maxRecDepth 20000 in
theorem ggX9_price_X9_in : GoodIn wsX9_price wsX9_in := goodIn_r _ [12] (by decide +kernel) (by decide +kernel)
set_option maxRecDepth 20000 in
theorem gX9_price_X9_in : GoodIn wsX9_price (va_wsS RX9 66 yX9_in wsX9_in) := goodIn_app (goodIn_of _ (by decide +kernel)) ggX9_price_X9_in
set_option maxRecDepth 20000 in
theorem ggX9_price_X9_note : GoodIn wsX9_price wsX9_note := goodIn_r _ [16, 17, 18, 3, 80, 81, 82, 83, 84, 85, 86, 87, 88, 89, 90, 91, 92, 93, 94, 95, 96, 97, 98, 99, 100, 101, 102, 103, 104, 105] (by decide +kernel) (by decide +kernel)
set_option maxRecDepth 20000 in
theorem gX9_price_X9_note : GoodIn wsX9_price (wsV RX9 191 RX9 yX9_note wsX9_note) := goodIn_app (goodIn_of _ (by decide +kernel)) ggX9_price_X9_note
set_option maxRecDepth 20000 in
theorem ggX9_price_X9_letInOn : GoodIn wsX9_price wsX9_letInOn := goodIn_r _ [22, 23, 24, 25, 7, 26, 27, 28, 29, 30, 31, 32, 33, 34, 9, 35, 36, 37, 38, 39, 40, 41, 42, 43, 44, 45, 46, 47, 48, 49, 50, 51, 52, 53, 54, 55, 56, 57, 58, 59, 60, 61, 62, 63, 64, 65, 66, 67, 68, 69, 70, 71, 72, 73, 74, 75, 76, 77, 78, 79, 80, 81, 82, 83, 84, 85, 86, 87, 88, 89, 90, 91, 92, 93, 94, 95, 96, 97, 98, 99, 100, 101, 102, 103, 104, 105] (by decide +kernel) (by decide +kernel)
set_option maxRecDepth 20000 in
theorem gX9_price_X9_letInOn : GoodIn wsX9_price (wsV RX9 169 RX9 yX9_letInOn wsX9_letInOn) := goodIn_app (goodIn_of _ (by decide +kernel)) ggX9_price_X9_letInOn
theorem dX9_price_0 : decode cX9_price 0 = .ok (.aload_n 0, 1) := by decide +kernel
theorem dX9_price_1 : decode cX9_price 1 = .ok (.iconst 0, 1) := by decide +kernel
theorem dX9_price_2 : decode cX9_price 2 = .ok (.putfield 60, 3) := by decide +kernel
theorem dX9_price_5 : decode cX9_price 5 = .ok (.aload_n 0, 1) := by decide +kernel
theorem dX9_price_6 : decode cX9_price 6 = .ok (.iload_n 1, 1) := by decide +kernel
theorem dX9_price_7 : decode cX9_price 7 = .ok (.invokevirtual 70, 3) := by decide +kernel
theorem dX9_price_10 : decode cX9_price 10 = .ok (.ifCond .eq 5, 3) := by decide +kernel
theorem dX9_price_13 : decode cX9_price 13 = .ok (.iconst (-1), 1) := by decide +kernel
theorem dX9_price_14 : decode cX9_price 14 = .ok (.ireturn, 1) := by decide +kernel
theorem dX9_price_15 : decode cX9_price 15 = .ok (.iload_n 2, 1) := by decide +kernel
theorem dX9_price_16 : decode cX9_price 16 = .ok (.i2l, 1) := by decide +kernel
theorem dX9_price_17 : decode cX9_price 17 = .ok (.lconst 1, 1) := by decide +kernel
theorem dX9_price_18 : decode cX9_price 18 = .ok (.ldc2_w 183, 3) := by decide +kernel
theorem dX9_price_21 : decode cX9_price 21 = .ok (.invokestatic 66, 3) := by decide +kernel
theorem dX9_price_24 : decode cX9_price 24 = .ok (.ifCond .ne 6, 3) := by decide +kernel
theorem dX9_price_27 : decode cX9_price 27 = .ok (.bipush (-2), 2) := by decide +kernel
theorem dX9_price_29 : decode cX9_price 29 = .ok (.ireturn, 1) := by decide +kernel
theorem dX9_price_30 : decode cX9_price 30 = .ok (.aload_n 0, 1) := by decide +kernel
theorem dX9_price_31 : decode cX9_price 31 = .ok (.invokevirtual 191, 3) := by decide +kernel
theorem dX9_price_34 : decode cX9_price 34 = .ok (.aload_n 0, 1) := by decide +kernel
theorem dX9_price_35 : decode cX9_price 35 = .ok (.getfield 35, 3) := by decide +kernel
theorem dX9_price_38 : decode cX9_price 38 = .ok (.iconst 0, 1) := by decide +kernel
theorem dX9_price_39 : decode cX9_price 39 = .ok (.iload_n 1, 1) := by decide +kernel
theorem dX9_price_40 : decode cX9_price 40 = .ok (.iadd, 1) := by decide +kernel
theorem dX9_price_41 : decode cX9_price 41 = .ok (.iaload, 1) := by decide +kernel
theorem dX9_price_42 : decode cX9_price 42 = .ok (.istore_n 3, 1) := by decide +kernel
theorem dX9_price_43 : decode cX9_price 43 = .ok (.aload_n 0, 1) := by decide +kernel
theorem dX9_price_44 : decode cX9_price 44 = .ok (.getfield 35, 3) := by decide +kernel
theorem dX9_price_47 : decode cX9_price 47 = .ok (.iconst 0, 1) := by decide +kernel
theorem dX9_price_48 : decode cX9_price 48 = .ok (.iload_n 1, 1) := by decide +kernel
theorem dX9_price_49 : decode cX9_price 49 = .ok (.iadd, 1) := by decide +kernel
theorem dX9_price_50 : decode cX9_price 50 = .ok (.iload_n 2, 1) := by decide +kernel
theorem dX9_price_51 : decode cX9_price 51 = .ok (.iastore, 1) := by decide +kernel
theorem dX9_price_52 : decode cX9_price 52 = .ok (.aload_n 0, 1) := by decide +kernel
theorem dX9_price_53 : decode cX9_price 53 = .ok (.aload_n 0, 1) := by decide +kernel
theorem dX9_price_54 : decode cX9_price 54 = .ok (.getfield 35, 3) := by decide +kernel
theorem dX9_price_57 : decode cX9_price 57 = .ok (.invokevirtual 169, 3) := by decide +kernel
theorem dX9_price_60 : decode cX9_price 60 = .ok (.iload_n 3, 1) := by decide +kernel
theorem dX9_price_61 : decode cX9_price 61 = .ok (.ireturn, 1) := by decide +kernel
set_option maxRecDepth 20000 in
theorem ggX9_fee_X9_in : GoodIn wsX9_fee wsX9_in := goodIn_r _ [7] (by decide +kernel) (by decide +kernel)
set_option maxRecDepth 20000 in
theorem gX9_fee_X9_in : GoodIn wsX9_fee (va_wsS RX9 66 yX9_in wsX9_in) := goodIn_app (goodIn_of _ (by decide +kernel)) ggX9_fee_X9_in
set_option maxRecDepth 20000 in
theorem ggX9_fee_X9_note : GoodIn wsX9_fee wsX9_note := goodIn_r _ [11, 12, 13, 3, 14, 15, 16, 17, 18, 19, 20, 21, 22, 23, 24, 25, 26, 27, 28, 29, 30, 31, 32, 33, 34, 35, 36, 37, 38, 39] (by decide +kernel) (by decide +kernel)
set_option maxRecDepth 20000 in
theorem gX9_fee_X9_note : GoodIn wsX9_fee (wsV RX9 191 RX9 yX9_note wsX9_note) := goodIn_app (goodIn_of _ (by decide +kernel)) ggX9_fee_X9_note
theorem dX9_fee_0 : decode cX9_fee 0 = .ok (.aload_n 0, 1) := by decide +kernel
theorem dX9_fee_1 : decode cX9_fee 1 = .ok (.iconst 0, 1) := by decide +kernel
theorem dX9_fee_2 : decode cX9_fee 2 = .ok (.putfield 60, 3) := by decide +kernel
theorem dX9_fee_5 : decode cX9_fee 5 = .ok (.iload_n 1, 1) := by decide +kernel
theorem dX9_fee_6 : decode cX9_fee 6 = .ok (.i2l, 1) := by decide +kernel
theorem dX9_fee_7 : decode cX9_fee 7 = .ok (.lconst 0, 1) := by decide +kernel
theorem dX9_fee_8 : decode cX9_fee 8 = .ok (.ldc2_w 183, 3) := by decide +kernel
theorem dX9_fee_11 : decode cX9_fee 11 = .ok (.invokestatic 66, 3) := by decide +kernel
theorem dX9_fee_14 : decode cX9_fee 14 = .ok (.ifCond .ne 6, 3) := by decide +kernel
theorem dX9_fee_17 : decode cX9_fee 17 = .ok (.bipush (-2), 2) := by decide +kernel
theorem dX9_fee_19 : decode cX9_fee 19 = .ok (.ireturn, 1) := by decide +kernel
theorem dX9_fee_20 : decode cX9_fee 20 = .ok (.aload_n 0, 1) := by decide +kernel
theorem dX9_fee_21 : decode cX9_fee 21 = .ok (.invokevirtual 191, 3) := by decide +kernel
theorem dX9_fee_24 : decode cX9_fee 24 = .ok (.aload_n 0, 1) := by decide +kernel
theorem dX9_fee_25 : decode cX9_fee 25 = .ok (.getfield 35, 3) := by decide +kernel
theorem dX9_fee_28 : decode cX9_fee 28 = .ok (.iconst 4, 1) := by decide +kernel
theorem dX9_fee_29 : decode cX9_fee 29 = .ok (.iaload, 1) := by decide +kernel
theorem dX9_fee_30 : decode cX9_fee 30 = .ok (.istore_n 2, 1) := by decide +kernel
theorem dX9_fee_31 : decode cX9_fee 31 = .ok (.aload_n 0, 1) := by decide +kernel
theorem dX9_fee_32 : decode cX9_fee 32 = .ok (.getfield 35, 3) := by decide +kernel
theorem dX9_fee_35 : decode cX9_fee 35 = .ok (.iconst 4, 1) := by decide +kernel
theorem dX9_fee_36 : decode cX9_fee 36 = .ok (.iload_n 1, 1) := by decide +kernel
theorem dX9_fee_37 : decode cX9_fee 37 = .ok (.iastore, 1) := by decide +kernel
theorem dX9_fee_38 : decode cX9_fee 38 = .ok (.iload_n 2, 1) := by decide +kernel
theorem dX9_fee_39 : decode cX9_fee 39 = .ok (.ireturn, 1) := by decide +kernel
theorem dX9_undo_0 : decode cX9_undo 0 = .ok (.aload_n 0, 1) := by decide +kernel
theorem dX9_undo_1 : decode cX9_undo 1 = .ok (.iconst 0, 1) := by decide +kernel
theorem dX9_undo_2 : decode cX9_undo 2 = .ok (.putfield 60, 3) := by decide +kernel
theorem dX9_undo_5 : decode cX9_undo 5 = .ok (.aload_n 0, 1) := by decide +kernel
theorem dX9_undo_6 : decode cX9_undo 6 = .ok (.getfield 105, 3) := by decide +kernel
theorem dX9_undo_9 : decode cX9_undo 9 = .ok (.ifCond .ne 6, 3) := by decide +kernel
theorem dX9_undo_12 : decode cX9_undo 12 = .ok (.bipush (-3), 2) := by decide +kernel
theorem dX9_undo_14 : decode cX9_undo 14 = .ok (.ireturn, 1) := by decide +kernel
theorem dX9_undo_15 : decode cX9_undo 15 = .ok (.aload_n 0, 1) := by decide +kernel
theorem dX9_undo_16 : decode cX9_undo 16 = .ok (.dup, 1) := by decide +kernel
theorem dX9_undo_17 : decode cX9_undo 17 = .ok (.getfield 105, 3) := by decide +kernel
theorem dX9_undo_20 : decode cX9_undo 20 = .ok (.iconst 1, 1) := by decide +kernel
theorem dX9_undo_21 : decode cX9_undo 21 = .ok (.isub, 1) := by decide +kernel
theorem dX9_undo_22 : decode cX9_undo 22 = .ok (.putfield 105, 3) := by decide +kernel
theorem dX9_undo_25 : decode cX9_undo 25 = .ok (.iconst 0, 1) := by decide +kernel
theorem dX9_undo_26 : decode cX9_undo 26 = .ok (.istore_n 1, 1) := by decide +kernel
theorem dX9_undo_27 : decode cX9_undo 27 = .ok (.iload_n 1, 1) := by decide +kernel
theorem dX9_undo_28 : decode cX9_undo 28 = .ok (.sipush 229, 3) := by decide +kernel
theorem dX9_undo_31 : decode cX9_undo 31 = .ok (.if_icmp .ge 30, 3) := by decide +kernel
theorem dX9_undo_34 : decode cX9_undo 34 = .ok (.aload_n 0, 1) := by decide +kernel
theorem dX9_undo_35 : decode cX9_undo 35 = .ok (.getfield 35, 3) := by decide +kernel
theorem dX9_undo_38 : decode cX9_undo 38 = .ok (.iload_n 1, 1) := by decide +kernel
theorem dX9_undo_39 : decode cX9_undo 39 = .ok (.aload_n 0, 1) := by decide +kernel
theorem dX9_undo_40 : decode cX9_undo 40 = .ok (.getfield 41, 3) := by decide +kernel
theorem dX9_undo_43 : decode cX9_undo 43 = .ok (.sipush 229, 3) := by decide +kernel
theorem dX9_undo_46 : decode cX9_undo 46 = .ok (.aload_n 0, 1) := by decide +kernel
theorem dX9_undo_47 : decode cX9_undo 47 = .ok (.getfield 105, 3) := by decide +kernel
theorem dX9_undo_50 : decode cX9_undo 50 = .ok (.imul, 1) := by decide +kernel
theorem dX9_undo_51 : decode cX9_undo 51 = .ok (.iload_n 1, 1) := by decide +kernel
theorem dX9_undo_52 : decode cX9_undo 52 = .ok (.iadd, 1) := by decide +kernel
theorem dX9_undo_53 : decode cX9_undo 53 = .ok (.iaload, 1) := by decide +kernel
theorem dX9_undo_54 : decode cX9_undo 54 = .ok (.iastore, 1) := by decide +kernel
theorem dX9_undo_55 : decode cX9_undo 55 = .ok (.iinc 1 1, 3) := by decide +kernel
theorem dX9_undo_58 : decode cX9_undo 58 = .ok (.goto (-31), 3) := by decide +kernel
theorem dX9_undo_61 : decode cX9_undo 61 = .ok (.aload_n 0, 1) := by decide +kernel
theorem dX9_undo_62 : decode cX9_undo 62 = .ok (.getfield 105, 3) := by decide +kernel
theorem dX9_undo_65 : decode cX9_undo 65 = .ok (.ireturn, 1) := by decide +kernel
set_option maxRecDepth 20000 in
theorem ggX9_best_X9_isAsk : GoodIn wsX9_best wsX9_isAsk := goodIn_r _ [10, 11, 12, 13, 14, 9, 15] (by decide +kernel) (by decide +kernel)
set_option maxRecDepth 20000 in
theorem gX9_best_X9_isAsk : GoodIn wsX9_best (va_wsS RX9 185 yX9_isAsk wsX9_isAsk) := goodIn_app (goodIn_of _ (by decide +kernel)) ggX9_best_X9_isAsk
set_option maxRecDepth 20000 in
theorem ggX9_best_X9_in : GoodIn wsX9_best wsX9_in := goodIn_r _ [15] (by decide +kernel) (by decide +kernel)
set_option maxRecDepth 20000 in
theorem gX9_best_X9_in : GoodIn wsX9_best (va_wsS RX9 66 yX9_in wsX9_in) := goodIn_app (goodIn_of _ (by decide +kernel)) ggX9_best_X9_in
set_option maxRecDepth 20000 in
theorem ggX9_best_X9_findBest : GoodIn wsX9_best wsX9_findBest := goodIn_r _ [19, 20, 21, 22, 9, 23, 24, 25, 26, 27, 28, 29, 30, 31, 32, 33, 34, 35, 36, 37, 38, 39, 40, 41, 42, 43, 44, 4, 5, 6, 45, 46, 47, 48, 49, 50, 51, 52, 53, 54, 55, 56, 57, 58, 59, 60, 61, 62, 63, 64, 65, 66, 67, 68, 69, 70, 71, 72, 73, 74, 75, 76, 77, 78, 79, 80, 81, 82, 83, 84, 85] (by decide +kernel) (by decide +kernel)
set_option maxRecDepth 20000 in
theorem gX9_best_X9_findBest : GoodIn wsX9_best (wsV RX9 162 RX9 yX9_findBest wsX9_findBest) := goodIn_app (goodIn_of _ (by decide +kernel)) ggX9_best_X9_findBest
theorem dX9_best_0 : decode cX9_best 0 = .ok (.aload_n 0, 1) := by decide +kernel
theorem dX9_best_1 : decode cX9_best 1 = .ok (.iconst 0, 1) := by decide +kernel
theorem dX9_best_2 : decode cX9_best 2 = .ok (.putfield 60, 3) := by decide +kernel
theorem dX9_best_5 : decode cX9_best 5 = .ok (.iload_n 1, 1) := by decide +kernel
theorem dX9_best_6 : decode cX9_best 6 = .ok (.iload_n 2, 1) := by decide +kernel
theorem dX9_best_7 : decode cX9_best 7 = .ok (.invokestatic 185, 3) := by decide +kernel
theorem dX9_best_10 : decode cX9_best 10 = .ok (.ifCond .eq 15, 3) := by decide +kernel
theorem dX9_best_13 : decode cX9_best 13 = .ok (.iload_n 3, 1) := by decide +kernel
theorem dX9_best_14 : decode cX9_best 14 = .ok (.i2l, 1) := by decide +kernel
theorem dX9_best_15 : decode cX9_best 15 = .ok (.lconst 0, 1) := by decide +kernel
theorem dX9_best_16 : decode cX9_best 16 = .ok (.ldc2_w 200, 3) := by decide +kernel
theorem dX9_best_19 : decode cX9_best 19 = .ok (.invokestatic 66, 3) := by decide +kernel
theorem dX9_best_22 : decode cX9_best 22 = .ok (.ifCond .ne 6, 3) := by decide +kernel
theorem dX9_best_25 : decode cX9_best 25 = .ok (.bipush (-2), 2) := by decide +kernel
theorem dX9_best_27 : decode cX9_best 27 = .ok (.ireturn, 1) := by decide +kernel
theorem dX9_best_28 : decode cX9_best 28 = .ok (.aload_n 0, 1) := by decide +kernel
theorem dX9_best_29 : decode cX9_best 29 = .ok (.aload_n 0, 1) := by decide +kernel
theorem dX9_best_30 : decode cX9_best 30 = .ok (.getfield 35, 3) := by decide +kernel
theorem dX9_best_33 : decode cX9_best 33 = .ok (.iload_n 1, 1) := by decide +kernel
theorem dX9_best_34 : decode cX9_best 34 = .ok (.iload_n 2, 1) := by decide +kernel
theorem dX9_best_35 : decode cX9_best 35 = .ok (.invokevirtual 162, 3) := by decide +kernel
theorem dX9_best_38 : decode cX9_best 38 = .ok (.iload_n 3, 1) := by decide +kernel
theorem dX9_best_39 : decode cX9_best 39 = .ok (.ifCond .ne 10, 3) := by decide +kernel
theorem dX9_best_42 : decode cX9_best 42 = .ok (.aload_n 0, 1) := by decide +kernel
theorem dX9_best_43 : decode cX9_best 43 = .ok (.getfield 56, 3) := by decide +kernel
theorem dX9_best_46 : decode cX9_best 46 = .ok (.goto 19, 3) := by decide +kernel
theorem dX9_best_49 : decode cX9_best 49 = .ok (.iload_n 3, 1) := by decide +kernel
theorem dX9_best_50 : decode cX9_best 50 = .ok (.iconst 1, 1) := by decide +kernel
theorem dX9_best_51 : decode cX9_best 51 = .ok (.if_icmp .ne 10, 3) := by decide +kernel
theorem dX9_best_54 : decode cX9_best 54 = .ok (.aload_n 0, 1) := by decide +kernel
theorem dX9_best_55 : decode cX9_best 55 = .ok (.getfield 134, 3) := by decide +kernel
theorem dX9_best_58 : decode cX9_best 58 = .ok (.goto 7, 3) := by decide +kernel
theorem dX9_best_61 : decode cX9_best 61 = .ok (.aload_n 0, 1) := by decide +kernel
theorem dX9_best_62 : decode cX9_best 62 = .ok (.getfield 137, 3) := by decide +kernel
theorem dX9_best_65 : decode cX9_best 65 = .ok (.ireturn, 1) := by decide +kernel
set_option maxRecDepth 20000 in
theorem ggX9_room_X9_in : GoodIn wsX9_room wsX9_in := goodIn_r _ [10] (by decide +kernel) (by decide +kernel)
set_option maxRecDepth 20000 in
theorem gX9_room_X9_in : GoodIn wsX9_room (va_wsS RX9 66 yX9_in wsX9_in) := goodIn_app (goodIn_of _ (by decide +kernel)) ggX9_room_X9_in
set_option maxRecDepth 20000 in
theorem ggX9_room_X9_copy : GoodIn wsX9_room wsX9_copy := goodIn_r _ [13] (by decide +kernel) (by decide +kernel)
set_option maxRecDepth 20000 in
theorem gX9_room_X9_copy : GoodIn wsX9_room (va_wsS RX9 101 yX9_copy wsX9_copy) := goodIn_app (goodIn_of _ (by decide +kernel)) ggX9_room_X9_copy
set_option maxRecDepth 20000 in
theorem ggX9_room_X9_findBest : GoodIn wsX9_room wsX9_findBest := goodIn_r _ [17, 18, 19, 20, 9, 21, 22, 23, 24, 25, 26, 27, 28, 29, 30, 31, 32, 33, 34, 35, 36, 37, 38, 39, 40, 41, 42, 6, 43, 5, 44, 45, 46, 47, 48, 49, 50, 51, 52, 53, 54, 55, 56, 57, 58, 59, 60, 61, 62, 63, 64, 65, 66, 67, 68, 69, 70, 71, 72, 73, 74, 75, 76, 77, 78, 79, 80, 81, 82, 83, 84] (by decide +kernel) (by decide +kernel)
set_option maxRecDepth 20000 in
theorem gX9_room_X9_findBest : GoodIn wsX9_room (wsV RX9 162 RX9 yX9_findBest wsX9_findBest) := goodIn_app (goodIn_of _ (by decide +kernel)) ggX9_room_X9_findBest
set_option maxRecDepth 20000 in
theorem ggX9_room_X9_lay : GoodIn wsX9_room wsX9_lay := goodIn_r _ [53] (by decide +kernel) (by decide +kernel)
set_option maxRecDepth 20000 in
theorem gX9_room_X9_lay : GoodIn wsX9_room (va_wsS RX9 126 yX9_lay wsX9_lay) := goodIn_app (goodIn_of _ (by decide +kernel)) ggX9_room_X9_lay
theorem dX9_room_0 : decode cX9_room 0 = .ok (.aload_n 0, 1) := by decide +kernel
theorem dX9_room_1 : decode cX9_room 1 = .ok (.iconst 0, 1) := by decide +kernel
theorem dX9_room_2 : decode cX9_room 2 = .ok (.putfield 60, 3) := by decide +kernel
theorem dX9_room_5 : decode cX9_room 5 = .ok (.iload_n 1, 1) := by decide +kernel
theorem dX9_room_6 : decode cX9_room 6 = .ok (.i2l, 1) := by decide +kernel
theorem dX9_room_7 : decode cX9_room 7 = .ok (.lconst 1, 1) := by decide +kernel
theorem dX9_room_8 : decode cX9_room 8 = .ok (.ldc2_w 181, 3) := by decide +kernel
theorem dX9_room_11 : decode cX9_room 11 = .ok (.invokestatic 66, 3) := by decide +kernel
theorem dX9_room_14 : decode cX9_room 14 = .ok (.ifCond .ne 6, 3) := by decide +kernel
theorem dX9_room_17 : decode cX9_room 17 = .ok (.bipush (-2), 2) := by decide +kernel
theorem dX9_room_19 : decode cX9_room 19 = .ok (.ireturn, 1) := by decide +kernel
theorem dX9_room_20 : decode cX9_room 20 = .ok (.aload_n 0, 1) := by decide +kernel
theorem dX9_room_21 : decode cX9_room 21 = .ok (.getfield 35, 3) := by decide +kernel
theorem dX9_room_24 : decode cX9_room 24 = .ok (.aload_n 0, 1) := by decide +kernel
theorem dX9_room_25 : decode cX9_room 25 = .ok (.getfield 38, 3) := by decide +kernel
theorem dX9_room_28 : decode cX9_room 28 = .ok (.invokestatic 101, 3) := by decide +kernel
theorem dX9_room_31 : decode cX9_room 31 = .ok (.iconst 0, 1) := by decide +kernel
theorem dX9_room_32 : decode cX9_room 32 = .ok (.istore_n 2, 1) := by decide +kernel
theorem dX9_room_33 : decode cX9_room 33 = .ok (.aload_n 0, 1) := by decide +kernel
theorem dX9_room_34 : decode cX9_room 34 = .ok (.aload_n 0, 1) := by decide +kernel
theorem dX9_room_35 : decode cX9_room 35 = .ok (.getfield 38, 3) := by decide +kernel
theorem dX9_room_38 : decode cX9_room 38 = .ok (.iload_n 1, 1) := by decide +kernel
theorem dX9_room_39 : decode cX9_room 39 = .ok (.bipush 9, 2) := by decide +kernel
theorem dX9_room_41 : decode cX9_room 41 = .ok (.invokevirtual 162, 3) := by decide +kernel
theorem dX9_room_44 : decode cX9_room 44 = .ok (.aload_n 0, 1) := by decide +kernel
theorem dX9_room_45 : decode cX9_room 45 = .ok (.getfield 137, 3) := by decide +kernel
theorem dX9_room_48 : decode cX9_room 48 = .ok (.ifCond .le 44, 3) := by decide +kernel
theorem dX9_room_51 : decode cX9_room 51 = .ok (.aload_n 0, 1) := by decide +kernel
theorem dX9_room_52 : decode cX9_room 52 = .ok (.getfield 38, 3) := by decide +kernel
theorem dX9_room_55 : decode cX9_room 55 = .ok (.aload_n 0, 1) := by decide +kernel
theorem dX9_room_56 : decode cX9_room 56 = .ok (.getfield 56, 3) := by decide +kernel
theorem dX9_room_59 : decode cX9_room 59 = .ok (.bipush 10, 2) := by decide +kernel
theorem dX9_room_61 : decode cX9_room 61 = .ok (.idiv, 1) := by decide +kernel
theorem dX9_room_62 : decode cX9_room 62 = .ok (.aload_n 0, 1) := by decide +kernel
theorem dX9_room_63 : decode cX9_room 63 = .ok (.getfield 56, 3) := by decide +kernel
theorem dX9_room_66 : decode cX9_room 66 = .ok (.bipush 10, 2) := by decide +kernel
theorem dX9_room_68 : decode cX9_room 68 = .ok (.irem, 1) := by decide +kernel
theorem dX9_room_69 : decode cX9_room 69 = .ok (.iload_n 1, 1) := by decide +kernel
theorem dX9_room_70 : decode cX9_room 70 = .ok (.bipush 31, 2) := by decide +kernel
theorem dX9_room_72 : decode cX9_room 72 = .ok (.invokestatic 126, 3) := by decide +kernel
theorem dX9_room_75 : decode cX9_room 75 = .ok (.iinc 2 1, 3) := by decide +kernel
theorem dX9_room_78 : decode cX9_room 78 = .ok (.aload_n 0, 1) := by decide +kernel
theorem dX9_room_79 : decode cX9_room 79 = .ok (.aload_n 0, 1) := by decide +kernel
theorem dX9_room_80 : decode cX9_room 80 = .ok (.getfield 38, 3) := by decide +kernel
theorem dX9_room_83 : decode cX9_room 83 = .ok (.iload_n 1, 1) := by decide +kernel
theorem dX9_room_84 : decode cX9_room 84 = .ok (.bipush 9, 2) := by decide +kernel
theorem dX9_room_86 : decode cX9_room 86 = .ok (.invokevirtual 162, 3) := by decide +kernel
theorem dX9_room_89 : decode cX9_room 89 = .ok (.goto (-45), 3) := by decide +kernel
theorem dX9_room_92 : decode cX9_room 92 = .ok (.iload_n 2, 1) := by decide +kernel
theorem dX9_room_93 : decode cX9_room 93 = .ok (.ireturn, 1) := by decide +kernel
set_option maxRecDepth 20000 in
theorem ggX9_waits_X9_in : GoodIn wsX9_waits wsX9_in := goodIn_r _ [6] (by decide +kernel) (by decide +kernel)
set_option maxRecDepth 20000 in
theorem gX9_waits_X9_in : GoodIn wsX9_waits (va_wsS RX9 66 yX9_in wsX9_in) := goodIn_app (goodIn_of _ (by decide +kernel)) ggX9_waits_X9_in
theorem dX9_waits_0 : decode cX9_waits 0 = .ok (.aload_n 0, 1) := by decide +kernel
theorem dX9_waits_1 : decode cX9_waits 1 = .ok (.iconst 0, 1) := by decide +kernel
theorem dX9_waits_2 : decode cX9_waits 2 = .ok (.putfield 60, 3) := by decide +kernel
theorem dX9_waits_5 : decode cX9_waits 5 = .ok (.iload_n 1, 1) := by decide +kernel
theorem dX9_waits_6 : decode cX9_waits 6 = .ok (.i2l, 1) := by decide +kernel
theorem dX9_waits_7 : decode cX9_waits 7 = .ok (.lconst 0, 1) := by decide +kernel
theorem dX9_waits_8 : decode cX9_waits 8 = .ok (.aload_n 0, 1) := by decide +kernel
theorem dX9_waits_9 : decode cX9_waits 9 = .ok (.getfield 35, 3) := by decide +kernel
theorem dX9_waits_12 : decode cX9_waits 12 = .ok (.bipush 7, 2) := by decide +kernel
theorem dX9_waits_14 : decode cX9_waits 14 = .ok (.iaload, 1) := by decide +kernel
theorem dX9_waits_15 : decode cX9_waits 15 = .ok (.iconst 1, 1) := by decide +kernel
theorem dX9_waits_16 : decode cX9_waits 16 = .ok (.isub, 1) := by decide +kernel
theorem dX9_waits_17 : decode cX9_waits 17 = .ok (.i2l, 1) := by decide +kernel
theorem dX9_waits_18 : decode cX9_waits 18 = .ok (.invokestatic 66, 3) := by decide +kernel
theorem dX9_waits_21 : decode cX9_waits 21 = .ok (.ifCond .eq 15, 3) := by decide +kernel
theorem dX9_waits_24 : decode cX9_waits 24 = .ok (.aload_n 0, 1) := by decide +kernel
theorem dX9_waits_25 : decode cX9_waits 25 = .ok (.getfield 35, 3) := by decide +kernel
theorem dX9_waits_28 : decode cX9_waits 28 = .ok (.bipush 8, 2) := by decide +kernel
theorem dX9_waits_30 : decode cX9_waits 30 = .ok (.iload_n 1, 1) := by decide +kernel
theorem dX9_waits_31 : decode cX9_waits 31 = .ok (.iadd, 1) := by decide +kernel
theorem dX9_waits_32 : decode cX9_waits 32 = .ok (.iaload, 1) := by decide +kernel
theorem dX9_waits_33 : decode cX9_waits 33 = .ok (.goto 5, 3) := by decide +kernel
theorem dX9_waits_36 : decode cX9_waits 36 = .ok (.bipush (-9), 2) := by decide +kernel
theorem dX9_waits_38 : decode cX9_waits 38 = .ok (.ireturn, 1) := by decide +kernel
set_option maxRecDepth 20000 in
theorem ggX9_sits_X9_in : GoodIn wsX9_sits wsX9_in := goodIn_r _ [4] (by decide +kernel) (by decide +kernel)
set_option maxRecDepth 20000 in
theorem gX9_sits_X9_in : GoodIn wsX9_sits (va_wsS RX9 66 yX9_in wsX9_in) := goodIn_app (goodIn_of _ (by decide +kernel)) ggX9_sits_X9_in
set_option maxRecDepth 20000 in
theorem ggX9_sits_X9_at : GoodIn wsX9_sits wsX9_at := goodIn_r _ [7] (by decide +kernel) (by decide +kernel)
set_option maxRecDepth 20000 in
theorem gX9_sits_X9_at : GoodIn wsX9_sits (va_wsS RX9 155 yX9_at wsX9_at) := goodIn_app (goodIn_of _ (by decide +kernel)) ggX9_sits_X9_at
theorem dX9_sits_0 : decode cX9_sits 0 = .ok (.iload_n 2, 1) := by decide +kernel
theorem dX9_sits_1 : decode cX9_sits 1 = .ok (.i2l, 1) := by decide +kernel
theorem dX9_sits_2 : decode cX9_sits 2 = .ok (.lconst 1, 1) := by decide +kernel
theorem dX9_sits_3 : decode cX9_sits 3 = .ok (.aload_n 1, 1) := by decide +kernel
theorem dX9_sits_4 : decode cX9_sits 4 = .ok (.bipush 6, 2) := by decide +kernel
theorem dX9_sits_6 : decode cX9_sits 6 = .ok (.iaload, 1) := by decide +kernel
theorem dX9_sits_7 : decode cX9_sits 7 = .ok (.i2l, 1) := by decide +kernel
theorem dX9_sits_8 : decode cX9_sits 8 = .ok (.invokestatic 66, 3) := by decide +kernel
theorem dX9_sits_11 : decode cX9_sits 11 = .ok (.ifCond .eq 19, 3) := by decide +kernel
theorem dX9_sits_14 : decode cX9_sits 14 = .ok (.aload_n 1, 1) := by decide +kernel
theorem dX9_sits_15 : decode cX9_sits 15 = .ok (.iload_n 2, 1) := by decide +kernel
theorem dX9_sits_16 : decode cX9_sits 16 = .ok (.invokestatic 155, 3) := by decide +kernel
theorem dX9_sits_19 : decode cX9_sits 19 = .ok (.iconst 2, 1) := by decide +kernel
theorem dX9_sits_20 : decode cX9_sits 20 = .ok (.iadd, 1) := by decide +kernel
theorem dX9_sits_21 : decode cX9_sits 21 = .ok (.iaload, 1) := by decide +kernel
theorem dX9_sits_22 : decode cX9_sits 22 = .ok (.iconst 1, 1) := by decide +kernel
theorem dX9_sits_23 : decode cX9_sits 23 = .ok (.if_icmp .ne 7, 3) := by decide +kernel
theorem dX9_sits_26 : decode cX9_sits 26 = .ok (.iconst 1, 1) := by decide +kernel
theorem dX9_sits_27 : decode cX9_sits 27 = .ok (.goto 4, 3) := by decide +kernel
theorem dX9_sits_30 : decode cX9_sits 30 = .ok (.iconst 0, 1) := by decide +kernel
theorem dX9_sits_31 : decode cX9_sits 31 = .ok (.ireturn, 1) := by decide +kernel
set_option maxRecDepth 20000 in
theorem ggX9_does_X9_isAsk : GoodIn wsX9_does wsX9_isAsk := goodIn_r _ [6, 7, 8, 9, 10, 5, 11] (by decide +kernel) (by decide +kernel)
set_option maxRecDepth 20000 in
theorem gX9_does_X9_isAsk : GoodIn wsX9_does (va_wsS RX9 185 yX9_isAsk wsX9_isAsk) := goodIn_app (goodIn_of _ (by decide +kernel)) ggX9_does_X9_isAsk
set_option maxRecDepth 20000 in
theorem ggX9_does_X9_mayAsk : GoodIn wsX9_does wsX9_mayAsk := goodIn_r _ [15, 2, 16, 17, 18, 5, 19, 20, 21, 22, 23, 24, 25, 26, 27, 28, 29, 30, 31, 32, 33, 34, 35, 36, 37, 38, 39, 40, 41, 42, 43, 44, 45, 46, 47, 48, 49, 50, 51, 52, 53, 54, 55, 56, 57, 58, 59, 60, 61, 105, 106, 107, 108, 109, 110, 111, 112, 113, 114, 115, 116, 117, 118, 119, 120, 121, 122, 123, 124, 125, 126, 127, 128, 129, 130] (by decide +kernel) (by decide +kernel)
set_option maxRecDepth 20000 in
theorem gX9_does_X9_mayAsk : GoodIn wsX9_does (wsV RX9 188 RX9 yX9_mayAsk wsX9_mayAsk) := goodIn_app (goodIn_of _ (by decide +kernel)) ggX9_does_X9_mayAsk
set_option maxRecDepth 20000 in
theorem ggX9_does_X9_askOn : GoodIn wsX9_does wsX9_askOn := goodIn_r _ [65, 2, 16, 17, 18, 5, 19, 20, 21, 22, 23, 24, 25, 26, 27, 28, 29, 30, 31, 32, 33, 34, 35, 36, 37, 38, 39, 40, 41, 42, 43, 44, 45, 46, 47, 48, 49, 50, 51, 52, 53, 54, 55, 56, 57, 58, 59, 60, 61, 66, 67, 68, 69, 70, 71, 72, 73, 74, 75, 76, 105, 106, 107, 108, 109, 110, 111, 112, 113, 114, 115, 116, 117, 118, 119, 120, 121, 122, 123, 124, 125, 126, 127, 128, 129, 130] (by decide +kernel) (by decide +kernel)
set_option maxRecDepth 20000 in
theorem gX9_does_X9_askOn : GoodIn wsX9_does (wsV RX9 194 RX9 yX9_askOn wsX9_askOn) := goodIn_app (goodIn_of _ (by decide +kernel)) ggX9_does_X9_askOn
set_option maxRecDepth 20000 in
theorem ggX9_does_X9_sits : GoodIn wsX9_does wsX9_sits := goodIn_r _ [80, 9, 10, 5, 11, 66, 67, 68] (by decide +kernel) (by decide +kernel)
set_option maxRecDepth 20000 in
theorem gX9_does_X9_sits : GoodIn wsX9_does (wsV RX9 202 RX9 yX9_sits wsX9_sits) := goodIn_app (goodIn_of _ (by decide +kernel)) ggX9_does_X9_sits
set_option maxRecDepth 20000 in
theorem ggX9_does_X9_returnOn : GoodIn wsX9_does wsX9_returnOn := goodIn_r _ [84, 66, 67, 5, 68, 54, 55, 56, 85, 86, 87, 88, 2, 16, 17, 18, 19, 20, 21, 22, 23, 24, 25, 26, 27, 28, 29, 30, 31, 32, 33, 34, 35, 36, 37, 38, 39, 40, 41, 42, 43, 44, 45, 46, 47, 48, 49, 50, 51, 52, 53, 57, 58, 59, 60, 61, 69, 70, 71, 72, 73, 74, 75, 76, 105, 106, 107, 108, 109, 110, 111, 112, 113, 114, 115, 116, 117, 118, 119, 120, 121, 122, 123, 124, 125, 126, 127, 128, 129, 130] (by decide +kernel) (by decide +kernel)
set_option maxRecDepth 20000 in
theorem gX9_does_X9_returnOn : GoodIn wsX9_does (wsV RX9 197 RX9 yX9_returnOn wsX9_returnOn) := goodIn_app (goodIn_of _ (by decide +kernel)) ggX9_does_X9_returnOn
set_option maxRecDepth 20000 in
theorem ggX9_does_X9_noRow : GoodIn wsX9_does wsX9_noRow := goodIn_r _ [92, 24, 9, 10, 5, 11, 105, 106, 107, 108, 109, 110, 111, 112, 113, 114, 115, 116, 117, 118, 119, 120, 121, 122, 123, 124, 125, 126, 127, 128, 129, 130] (by decide +kernel) (by decide +kernel)
set_option maxRecDepth 20000 in
theorem gX9_does_X9_noRow : GoodIn wsX9_does (wsV RX9 70 RX9 yX9_noRow wsX9_noRow) := goodIn_app (goodIn_of _ (by decide +kernel)) ggX9_does_X9_noRow
set_option maxRecDepth 20000 in
theorem ggX9_does_X9_letInOn : GoodIn wsX9_does wsX9_letInOn := goodIn_r _ [88, 2, 66, 67, 5, 68, 16, 17, 18, 19, 20, 21, 22, 23, 24, 25, 26, 27, 28, 29, 30, 31, 32, 33, 34, 35, 36, 37, 38, 39, 40, 41, 42, 43, 44, 45, 46, 47, 48, 49, 50, 51, 52, 53, 54, 55, 56, 57, 58, 59, 60, 61, 69, 70, 71, 72, 73, 74, 75, 76, 105, 106, 107, 108, 109, 110, 111, 112, 113, 114, 115, 116, 117, 118, 119, 120, 121, 122, 123, 124, 125, 126, 127, 128, 129, 130] (by decide +kernel) (by decide +kernel)
set_option maxRecDepth 20000 in
theorem gX9_does_X9_letInOn : GoodIn wsX9_does (wsV RX9 169 RX9 yX9_letInOn wsX9_letInOn) := goodIn_app (goodIn_of _ (by decide +kernel)) ggX9_does_X9_letInOn
set_option maxRecDepth 20000 in
theorem ggX9_does_X9_noSeat : GoodIn wsX9_does wsX9_noSeat := goodIn_r _ [96, 29, 89, 90, 91, 5, 92, 24, 9, 10, 11, 105, 106, 107, 108, 109, 110, 111, 112, 113, 114, 115, 116, 117, 118, 119, 120, 121, 122, 123, 124, 125, 126, 127, 128, 129, 130] (by decide +kernel) (by decide +kernel)
set_option maxRecDepth 20000 in
theorem gX9_does_X9_noSeat : GoodIn wsX9_does (wsV RX9 173 RX9 yX9_noSeat wsX9_noSeat) := goodIn_app (goodIn_of _ (by decide +kernel)) ggX9_does_X9_noSeat
set_option maxRecDepth 20000 in
theorem ggX9_does_X9_isLone : GoodIn wsX9_does wsX9_isLone := goodIn_r _ [33, 34, 29, 35, 36, 5, 37, 105, 106, 107, 108, 109, 110, 111, 112, 113, 114, 115, 116, 117, 118, 119, 120, 121, 122, 123, 124, 125, 126, 127, 128, 129, 130] (by decide +kernel) (by decide +kernel)
set_option maxRecDepth 20000 in
theorem gX9_does_X9_isLone : GoodIn wsX9_does (wsV RX9 112 RX9 yX9_isLone wsX9_isLone) := goodIn_app (goodIn_of _ (by decide +kernel)) ggX9_does_X9_isLone
set_option maxRecDepth 20000 in
theorem ggX9_does_X9_allFree : GoodIn wsX9_does wsX9_allFree := goodIn_r _ [100, 24, 101, 102, 103, 5, 104, 29, 35, 36, 37, 38, 39, 40, 105, 106, 107, 108, 109, 110, 111, 112, 113, 114, 115, 116, 117, 118, 119, 120, 121, 122, 123, 124, 125, 126, 127, 128, 129, 130] (by decide +kernel) (by decide +kernel)
set_option maxRecDepth 20000 in
theorem gX9_does_X9_allFree : GoodIn wsX9_does (wsV RX9 206 RX9 yX9_allFree wsX9_allFree) := goodIn_app (goodIn_of _ (by decide +kernel)) ggX9_does_X9_allFree
set_option maxRecDepth 20000 in
theorem ggX9_does_X9_findBest : GoodIn wsX9_does wsX9_findBest := goodIn_r _ [19, 20, 21, 22, 5, 23, 24, 25, 26, 27, 28, 29, 30, 31, 32, 33, 34, 35, 36, 37, 38, 39, 40, 41, 42, 43, 44, 45, 46, 2, 47, 48, 49, 50, 51, 52, 53, 54, 55, 56, 57, 58, 59, 60, 61, 105, 106, 107, 108, 109, 110, 111, 112, 113, 114, 115, 116, 117, 118, 119, 120, 121, 122, 123, 124, 125, 126, 127, 128, 129, 130] (by decide +kernel) (by decide +kernel)
set_option maxRecDepth 20000 in
theorem gX9_does_X9_findBest : GoodIn wsX9_does (wsV RX9 162 RX9 yX9_findBest wsX9_findBest) := goodIn_app (goodIn_of _ (by decide +kernel)) ggX9_does_X9_findBest
theorem dX9_does_0 : decode cX9_does 0 = .ok (.bipush 10, 2) := by decide +kernel
theorem dX9_does_2 : decode cX9_does 2 = .ok (.iload_n 2, 1) := by decide +kernel
theorem dX9_does_3 : decode cX9_does 3 = .ok (.imul, 1) := by decide +kernel
theorem dX9_does_4 : decode cX9_does 4 = .ok (.iload_n 3, 1) := by decide +kernel
theorem dX9_does_5 : decode cX9_does 5 = .ok (.iadd, 1) := by decide +kernel
theorem dX9_does_6 : decode cX9_does 6 = .ok (.istore 4, 2) := by decide +kernel
theorem dX9_does_8 : decode cX9_does 8 = .ok (.iload_n 1, 1) := by decide +kernel
theorem dX9_does_9 : decode cX9_does 9 = .ok (.tableswitch 237 1 7 #[43, 85, 113, 146, 174, 193, 204], 43) := by decide +kernel
theorem dX9_does_52 : decode cX9_does 52 = .ok (.iload_n 2, 1) := by decide +kernel
theorem dX9_does_53 : decode cX9_does 53 = .ok (.iload_n 3, 1) := by decide +kernel
theorem dX9_does_54 : decode cX9_does 54 = .ok (.invokestatic 185, 3) := by decide +kernel
theorem dX9_does_57 : decode cX9_does 57 = .ok (.ifCond .eq 23, 3) := by decide +kernel
theorem dX9_does_60 : decode cX9_does 60 = .ok (.aload_n 0, 1) := by decide +kernel
theorem dX9_does_61 : decode cX9_does 61 = .ok (.aload_n 0, 1) := by decide +kernel
theorem dX9_does_62 : decode cX9_does 62 = .ok (.getfield 38, 3) := by decide +kernel
theorem dX9_does_65 : decode cX9_does 65 = .ok (.iload_n 2, 1) := by decide +kernel
theorem dX9_does_66 : decode cX9_does 66 = .ok (.iload_n 3, 1) := by decide +kernel
theorem dX9_does_67 : decode cX9_does 67 = .ok (.invokevirtual 188, 3) := by decide +kernel
theorem dX9_does_70 : decode cX9_does 70 = .ok (.ifCond .eq 10, 3) := by decide +kernel
theorem dX9_does_73 : decode cX9_does 73 = .ok (.aload_n 0, 1) := by decide +kernel
theorem dX9_does_74 : decode cX9_does 74 = .ok (.getfield 137, 3) := by decide +kernel
theorem dX9_does_77 : decode cX9_does 77 = .ok (.ifCond .ne 5, 3) := by decide +kernel
theorem dX9_does_80 : decode cX9_does 80 = .ok (.iconst 0, 1) := by decide +kernel
theorem dX9_does_81 : decode cX9_does 81 = .ok (.ireturn, 1) := by decide +kernel
theorem dX9_does_82 : decode cX9_does 82 = .ok (.aload_n 0, 1) := by decide +kernel
theorem dX9_does_83 : decode cX9_does 83 = .ok (.aload_n 0, 1) := by decide +kernel
theorem dX9_does_84 : decode cX9_does 84 = .ok (.getfield 38, 3) := by decide +kernel
theorem dX9_does_87 : decode cX9_does 87 = .ok (.iload_n 2, 1) := by decide +kernel
theorem dX9_does_88 : decode cX9_does 88 = .ok (.iload_n 3, 1) := by decide +kernel
theorem dX9_does_89 : decode cX9_does 89 = .ok (.invokevirtual 194, 3) := by decide +kernel
theorem dX9_does_92 : decode cX9_does 92 = .ok (.iconst 1, 1) := by decide +kernel
theorem dX9_does_93 : decode cX9_does 93 = .ok (.ireturn, 1) := by decide +kernel
theorem dX9_does_94 : decode cX9_does 94 = .ok (.aload_n 0, 1) := by decide +kernel
theorem dX9_does_95 : decode cX9_does 95 = .ok (.aload_n 0, 1) := by decide +kernel
theorem dX9_does_96 : decode cX9_does 96 = .ok (.getfield 38, 3) := by decide +kernel
theorem dX9_does_99 : decode cX9_does 99 = .ok (.iload 4, 2) := by decide +kernel
theorem dX9_does_101 : decode cX9_does 101 = .ok (.invokevirtual 202, 3) := by decide +kernel
theorem dX9_does_104 : decode cX9_does 104 = .ok (.ifCond .ne 5, 3) := by decide +kernel
theorem dX9_does_107 : decode cX9_does 107 = .ok (.iconst 0, 1) := by decide +kernel
theorem dX9_does_108 : decode cX9_does 108 = .ok (.ireturn, 1) := by decide +kernel
theorem dX9_does_109 : decode cX9_does 109 = .ok (.aload_n 0, 1) := by decide +kernel
theorem dX9_does_110 : decode cX9_does 110 = .ok (.aload_n 0, 1) := by decide +kernel
theorem dX9_does_111 : decode cX9_does 111 = .ok (.getfield 38, 3) := by decide +kernel
theorem dX9_does_114 : decode cX9_does 114 = .ok (.iload 4, 2) := by decide +kernel
theorem dX9_does_116 : decode cX9_does 116 = .ok (.invokevirtual 197, 3) := by decide +kernel
theorem dX9_does_119 : decode cX9_does 119 = .ok (.pop, 1) := by decide +kernel
theorem dX9_does_120 : decode cX9_does 120 = .ok (.iconst 1, 1) := by decide +kernel
theorem dX9_does_121 : decode cX9_does 121 = .ok (.ireturn, 1) := by decide +kernel
theorem dX9_does_122 : decode cX9_does 122 = .ok (.aload_n 0, 1) := by decide +kernel
theorem dX9_does_123 : decode cX9_does 123 = .ok (.iload_n 2, 1) := by decide +kernel
theorem dX9_does_124 : decode cX9_does 124 = .ok (.invokevirtual 70, 3) := by decide +kernel
theorem dX9_does_127 : decode cX9_does 127 = .ok (.ifCond .ne 7, 3) := by decide +kernel
theorem dX9_does_130 : decode cX9_does 130 = .ok (.iload_n 3, 1) := by decide +kernel
theorem dX9_does_131 : decode cX9_does 131 = .ok (.ifCond .ne 5, 3) := by decide +kernel
theorem dX9_does_134 : decode cX9_does 134 = .ok (.iconst 0, 1) := by decide +kernel
theorem dX9_does_135 : decode cX9_does 135 = .ok (.ireturn, 1) := by decide +kernel
theorem dX9_does_136 : decode cX9_does 136 = .ok (.aload_n 0, 1) := by decide +kernel
theorem dX9_does_137 : decode cX9_does 137 = .ok (.getfield 38, 3) := by decide +kernel
theorem dX9_does_140 : decode cX9_does 140 = .ok (.iconst 0, 1) := by decide +kernel
theorem dX9_does_141 : decode cX9_does 141 = .ok (.iload_n 2, 1) := by decide +kernel
theorem dX9_does_142 : decode cX9_does 142 = .ok (.iadd, 1) := by decide +kernel
theorem dX9_does_143 : decode cX9_does 143 = .ok (.iload_n 3, 1) := by decide +kernel
theorem dX9_does_144 : decode cX9_does 144 = .ok (.iastore, 1) := by decide +kernel
theorem dX9_does_145 : decode cX9_does 145 = .ok (.aload_n 0, 1) := by decide +kernel
theorem dX9_does_146 : decode cX9_does 146 = .ok (.aload_n 0, 1) := by decide +kernel
theorem dX9_does_147 : decode cX9_does 147 = .ok (.getfield 38, 3) := by decide +kernel
theorem dX9_does_150 : decode cX9_does 150 = .ok (.invokevirtual 169, 3) := by decide +kernel
theorem dX9_does_153 : decode cX9_does 153 = .ok (.iconst 1, 1) := by decide +kernel
theorem dX9_does_154 : decode cX9_does 154 = .ok (.ireturn, 1) := by decide +kernel
theorem dX9_does_155 : decode cX9_does 155 = .ok (.aload_n 0, 1) := by decide +kernel
theorem dX9_does_156 : decode cX9_does 156 = .ok (.iload_n 2, 1) := by decide +kernel
theorem dX9_does_157 : decode cX9_does 157 = .ok (.iload_n 3, 1) := by decide +kernel
theorem dX9_does_158 : decode cX9_does 158 = .ok (.invokevirtual 173, 3) := by decide +kernel
theorem dX9_does_161 : decode cX9_does 161 = .ok (.ifCond .ne 20, 3) := by decide +kernel
theorem dX9_does_164 : decode cX9_does 164 = .ok (.aload_n 0, 1) := by decide +kernel
theorem dX9_does_165 : decode cX9_does 165 = .ok (.aload_n 0, 1) := by decide +kernel
theorem dX9_does_166 : decode cX9_does 166 = .ok (.getfield 38, 3) := by decide +kernel
theorem dX9_does_169 : decode cX9_does 169 = .ok (.iload_n 2, 1) := by decide +kernel
theorem dX9_does_170 : decode cX9_does 170 = .ok (.iload_n 3, 1) := by decide +kernel
theorem dX9_does_171 : decode cX9_does 171 = .ok (.invokevirtual 112, 3) := by decide +kernel
theorem dX9_does_174 : decode cX9_does 174 = .ok (.ifCond .eq 7, 3) := by decide +kernel
theorem dX9_does_177 : decode cX9_does 177 = .ok (.iconst 1, 1) := by decide +kernel
theorem dX9_does_178 : decode cX9_does 178 = .ok (.goto 4, 3) := by decide +kernel
theorem dX9_does_181 : decode cX9_does 181 = .ok (.iconst 0, 1) := by decide +kernel
theorem dX9_does_182 : decode cX9_does 182 = .ok (.ireturn, 1) := by decide +kernel
theorem dX9_does_183 : decode cX9_does 183 = .ok (.aload_n 0, 1) := by decide +kernel
theorem dX9_does_184 : decode cX9_does 184 = .ok (.aload_n 0, 1) := by decide +kernel
theorem dX9_does_185 : decode cX9_does 185 = .ok (.getfield 38, 3) := by decide +kernel
theorem dX9_does_188 : decode cX9_does 188 = .ok (.invokevirtual 206, 3) := by decide +kernel
theorem dX9_does_191 : decode cX9_does 191 = .ok (.iload 4, 2) := by decide +kernel
theorem dX9_does_193 : decode cX9_does 193 = .ok (.if_icmp .ne 7, 3) := by decide +kernel
theorem dX9_does_196 : decode cX9_does 196 = .ok (.iconst 1, 1) := by decide +kernel
theorem dX9_does_197 : decode cX9_does 197 = .ok (.goto 4, 3) := by decide +kernel
theorem dX9_does_200 : decode cX9_does 200 = .ok (.iconst 0, 1) := by decide +kernel
theorem dX9_does_201 : decode cX9_does 201 = .ok (.ireturn, 1) := by decide +kernel
theorem dX9_does_202 : decode cX9_does 202 = .ok (.aload_n 0, 1) := by decide +kernel
theorem dX9_does_203 : decode cX9_does 203 = .ok (.aload_n 0, 1) := by decide +kernel
theorem dX9_does_204 : decode cX9_does 204 = .ok (.getfield 38, 3) := by decide +kernel
theorem dX9_does_207 : decode cX9_does 207 = .ok (.iload 4, 2) := by decide +kernel
theorem dX9_does_209 : decode cX9_does 209 = .ok (.invokevirtual 202, 3) := by decide +kernel
theorem dX9_does_212 : decode cX9_does 212 = .ok (.ireturn, 1) := by decide +kernel
theorem dX9_does_213 : decode cX9_does 213 = .ok (.iload_n 2, 1) := by decide +kernel
theorem dX9_does_214 : decode cX9_does 214 = .ok (.iload_n 3, 1) := by decide +kernel
theorem dX9_does_215 : decode cX9_does 215 = .ok (.invokestatic 185, 3) := by decide +kernel
theorem dX9_does_218 : decode cX9_does 218 = .ok (.ifCond .ne 5, 3) := by decide +kernel
theorem dX9_does_221 : decode cX9_does 221 = .ok (.iconst 0, 1) := by decide +kernel
theorem dX9_does_222 : decode cX9_does 222 = .ok (.ireturn, 1) := by decide +kernel
theorem dX9_does_223 : decode cX9_does 223 = .ok (.aload_n 0, 1) := by decide +kernel
theorem dX9_does_224 : decode cX9_does 224 = .ok (.aload_n 0, 1) := by decide +kernel
theorem dX9_does_225 : decode cX9_does 225 = .ok (.getfield 38, 3) := by decide +kernel
theorem dX9_does_228 : decode cX9_does 228 = .ok (.iload_n 2, 1) := by decide +kernel
theorem dX9_does_229 : decode cX9_does 229 = .ok (.iload_n 3, 1) := by decide +kernel
theorem dX9_does_230 : decode cX9_does 230 = .ok (.invokevirtual 162, 3) := by decide +kernel
theorem dX9_does_233 : decode cX9_does 233 = .ok (.aload_n 0, 1) := by decide +kernel
theorem dX9_does_234 : decode cX9_does 234 = .ok (.getfield 137, 3) := by decide +kernel
theorem dX9_does_237 : decode cX9_does 237 = .ok (.ifCond .le 7, 3) := by decide +kernel
theorem dX9_does_240 : decode cX9_does 240 = .ok (.iconst 1, 1) := by decide +kernel
theorem dX9_does_241 : decode cX9_does 241 = .ok (.goto 4, 3) := by decide +kernel
theorem dX9_does_244 : decode cX9_does 244 = .ok (.iconst 0, 1) := by decide +kernel
theorem dX9_does_245 : decode cX9_does 245 = .ok (.ireturn, 1) := by decide +kernel
theorem dX9_does_246 : decode cX9_does 246 = .ok (.iconst 0, 1) := by decide +kernel
theorem dX9_does_247 : decode cX9_does 247 = .ok (.ireturn, 1) := by decide +kernel
theorem dX9_longPower_0 : decode cX9_longPower 0 = .ok (.lconst 1, 1) := by decide +kernel
theorem dX9_longPower_1 : decode cX9_longPower 1 = .ok (.lstore_n 3, 1) := by decide +kernel
theorem dX9_longPower_2 : decode cX9_longPower 2 = .ok (.iconst 0, 1) := by decide +kernel
theorem dX9_longPower_3 : decode cX9_longPower 3 = .ok (.istore 5, 2) := by decide +kernel
theorem dX9_longPower_5 : decode cX9_longPower 5 = .ok (.iload 5, 2) := by decide +kernel
theorem dX9_longPower_7 : decode cX9_longPower 7 = .ok (.iload_n 2, 1) := by decide +kernel
theorem dX9_longPower_8 : decode cX9_longPower 8 = .ok (.if_icmp .ge 13, 3) := by decide +kernel
theorem dX9_longPower_11 : decode cX9_longPower 11 = .ok (.lload_n 3, 1) := by decide +kernel
theorem dX9_longPower_12 : decode cX9_longPower 12 = .ok (.lload_n 0, 1) := by decide +kernel
theorem dX9_longPower_13 : decode cX9_longPower 13 = .ok (.lmul, 1) := by decide +kernel
theorem dX9_longPower_14 : decode cX9_longPower 14 = .ok (.lstore_n 3, 1) := by decide +kernel
theorem dX9_longPower_15 : decode cX9_longPower 15 = .ok (.iinc 5 1, 3) := by decide +kernel
theorem dX9_longPower_18 : decode cX9_longPower 18 = .ok (.goto (-13), 3) := by decide +kernel
theorem dX9_longPower_21 : decode cX9_longPower 21 = .ok (.lload_n 3, 1) := by decide +kernel
theorem dX9_longPower_22 : decode cX9_longPower 22 = .ok (.lreturn, 1) := by decide +kernel
set_option maxRecDepth 20000 in
theorem ggX9_judge_X9_in : GoodIn wsX9_judge wsX9_in := goodIn_r _ [9] (by decide +kernel) (by decide +kernel)
set_option maxRecDepth 20000 in
theorem gX9_judge_X9_in : GoodIn wsX9_judge (va_wsS RX9 66 yX9_in wsX9_in) := goodIn_app (goodIn_of _ (by decide +kernel)) ggX9_judge_X9_in
set_option maxRecDepth 20000 in
theorem ggX9_judge_X9_longPower : GoodIn wsX9_judge wsX9_longPower := goodIn_r _ [12] (by decide +kernel) (by decide +kernel)
set_option maxRecDepth 20000 in
theorem gX9_judge_X9_longPower : GoodIn wsX9_judge (va_wsS RX9 213 yX9_longPower wsX9_longPower) := goodIn_app (goodIn_of _ (by decide +kernel)) ggX9_judge_X9_longPower
set_option maxRecDepth 20000 in
theorem ggX9_judge_X9_copy : GoodIn wsX9_judge wsX9_copy := goodIn_r _ [15] (by decide +kernel) (by decide +kernel)
set_option maxRecDepth 20000 in
theorem gX9_judge_X9_copy : GoodIn wsX9_judge (va_wsS RX9 101 yX9_copy wsX9_copy) := goodIn_app (goodIn_of _ (by decide +kernel)) ggX9_judge_X9_copy
set_option maxRecDepth 20000 in
theorem ggX9_judge_X9_does : GoodIn wsX9_judge wsX9_does := goodIn_r _ [19, 5, 20, 21, 22, 8, 23, 24, 25, 6, 7, 9, 26, 27, 28, 29, 30, 31, 32, 33, 34, 35, 36, 37, 38, 39, 40, 41, 42, 43, 44, 45, 46, 47, 48, 49, 50, 51, 52, 53, 54, 55, 56, 57, 58, 59, 60, 61, 62, 63, 64, 65, 66, 67, 68, 69, 70, 71, 72, 73, 74, 75, 76, 77, 78, 79, 80, 81, 82, 83, 84, 85, 86, 87, 88, 89, 90, 91, 92, 93, 94, 95, 96, 97, 98, 99, 100, 101, 102, 103, 104, 105, 106, 107, 108, 109, 110, 111, 112, 113, 114, 115, 116, 117, 118, 119, 120, 121, 122, 123, 124, 125, 126, 127, 128, 129, 130, 131, 132, 133, 134, 135, 136, 137, 138, 139, 140, 141, 142, 143, 144] (by decide +kernel) (by decide +kernel)
set_option maxRecDepth 20000 in
theorem gX9_judge_X9_does : GoodIn wsX9_judge (wsV RX9 217 RX9 yX9_does wsX9_does) := goodIn_app (goodIn_of _ (by decide +kernel)) ggX9_judge_X9_does
theorem dX9_judge_0 : decode cX9_judge 0 = .ok (.aload_n 0, 1) := by decide +kernel
theorem dX9_judge_1 : decode cX9_judge 1 = .ok (.iconst 0, 1) := by decide +kernel
theorem dX9_judge_2 : decode cX9_judge 2 = .ok (.putfield 60, 3) := by decide +kernel
theorem dX9_judge_5 : decode cX9_judge 5 = .ok (.iload_n 1, 1) := by decide +kernel
theorem dX9_judge_6 : decode cX9_judge 6 = .ok (.i2l, 1) := by decide +kernel
theorem dX9_judge_7 : decode cX9_judge 7 = .ok (.lconst 1, 1) := by decide +kernel
theorem dX9_judge_8 : decode cX9_judge 8 = .ok (.ldc2_w 209, 3) := by decide +kernel
theorem dX9_judge_11 : decode cX9_judge 11 = .ok (.invokestatic 66, 3) := by decide +kernel
theorem dX9_judge_14 : decode cX9_judge 14 = .ok (.ifCond .eq 20, 3) := by decide +kernel
theorem dX9_judge_17 : decode cX9_judge 17 = .ok (.lload_n 2, 1) := by decide +kernel
theorem dX9_judge_18 : decode cX9_judge 18 = .ok (.lconst 0, 1) := by decide +kernel
theorem dX9_judge_19 : decode cX9_judge 19 = .ok (.ldc2_w 211, 3) := by decide +kernel
theorem dX9_judge_22 : decode cX9_judge 22 = .ok (.iload_n 1, 1) := by decide +kernel
theorem dX9_judge_23 : decode cX9_judge 23 = .ok (.invokestatic 213, 3) := by decide +kernel
theorem dX9_judge_26 : decode cX9_judge 26 = .ok (.lconst 1, 1) := by decide +kernel
theorem dX9_judge_27 : decode cX9_judge 27 = .ok (.lsub, 1) := by decide +kernel
theorem dX9_judge_28 : decode cX9_judge 28 = .ok (.invokestatic 66, 3) := by decide +kernel
theorem dX9_judge_31 : decode cX9_judge 31 = .ok (.ifCond .ne 6, 3) := by decide +kernel
theorem dX9_judge_34 : decode cX9_judge 34 = .ok (.bipush (-2), 2) := by decide +kernel
theorem dX9_judge_36 : decode cX9_judge 36 = .ok (.ireturn, 1) := by decide +kernel
theorem dX9_judge_37 : decode cX9_judge 37 = .ok (.aload_n 0, 1) := by decide +kernel
theorem dX9_judge_38 : decode cX9_judge 38 = .ok (.getfield 35, 3) := by decide +kernel
theorem dX9_judge_41 : decode cX9_judge 41 = .ok (.aload_n 0, 1) := by decide +kernel
theorem dX9_judge_42 : decode cX9_judge 42 = .ok (.getfield 38, 3) := by decide +kernel
theorem dX9_judge_45 : decode cX9_judge 45 = .ok (.invokestatic 101, 3) := by decide +kernel
theorem dX9_judge_48 : decode cX9_judge 48 = .ok (.iconst 0, 1) := by decide +kernel
theorem dX9_judge_49 : decode cX9_judge 49 = .ok (.istore 4, 2) := by decide +kernel
theorem dX9_judge_51 : decode cX9_judge 51 = .ok (.iload 4, 2) := by decide +kernel
theorem dX9_judge_53 : decode cX9_judge 53 = .ok (.iload_n 1, 1) := by decide +kernel
theorem dX9_judge_54 : decode cX9_judge 54 = .ok (.if_icmp .ge 58, 3) := by decide +kernel
theorem dX9_judge_57 : decode cX9_judge 57 = .ok (.lload_n 2, 1) := by decide +kernel
theorem dX9_judge_58 : decode cX9_judge 58 = .ok (.ldc2_w 211, 3) := by decide +kernel
theorem dX9_judge_61 : decode cX9_judge 61 = .ok (.iload_n 1, 1) := by decide +kernel
theorem dX9_judge_62 : decode cX9_judge 62 = .ok (.iconst 1, 1) := by decide +kernel
theorem dX9_judge_63 : decode cX9_judge 63 = .ok (.isub, 1) := by decide +kernel
theorem dX9_judge_64 : decode cX9_judge 64 = .ok (.iload 4, 2) := by decide +kernel
theorem dX9_judge_66 : decode cX9_judge 66 = .ok (.isub, 1) := by decide +kernel
theorem dX9_judge_67 : decode cX9_judge 67 = .ok (.invokestatic 213, 3) := by decide +kernel
theorem dX9_judge_70 : decode cX9_judge 70 = .ok (.ldiv, 1) := by decide +kernel
theorem dX9_judge_71 : decode cX9_judge 71 = .ok (.ldc2_w 211, 3) := by decide +kernel
theorem dX9_judge_74 : decode cX9_judge 74 = .ok (.lrem, 1) := by decide +kernel
theorem dX9_judge_75 : decode cX9_judge 75 = .ok (.l2i, 1) := by decide +kernel
theorem dX9_judge_76 : decode cX9_judge 76 = .ok (.istore 5, 2) := by decide +kernel
theorem dX9_judge_78 : decode cX9_judge 78 = .ok (.aload_n 0, 1) := by decide +kernel
theorem dX9_judge_79 : decode cX9_judge 79 = .ok (.iload 5, 2) := by decide +kernel
theorem dX9_judge_81 : decode cX9_judge 81 = .ok (.bipush 100, 2) := by decide +kernel
theorem dX9_judge_83 : decode cX9_judge 83 = .ok (.idiv, 1) := by decide +kernel
theorem dX9_judge_84 : decode cX9_judge 84 = .ok (.iload 5, 2) := by decide +kernel
theorem dX9_judge_86 : decode cX9_judge 86 = .ok (.bipush 10, 2) := by decide +kernel
theorem dX9_judge_88 : decode cX9_judge 88 = .ok (.idiv, 1) := by decide +kernel
theorem dX9_judge_89 : decode cX9_judge 89 = .ok (.bipush 10, 2) := by decide +kernel
theorem dX9_judge_91 : decode cX9_judge 91 = .ok (.irem, 1) := by decide +kernel
theorem dX9_judge_92 : decode cX9_judge 92 = .ok (.iload 5, 2) := by decide +kernel
theorem dX9_judge_94 : decode cX9_judge 94 = .ok (.bipush 10, 2) := by decide +kernel
theorem dX9_judge_96 : decode cX9_judge 96 = .ok (.irem, 1) := by decide +kernel
theorem dX9_judge_97 : decode cX9_judge 97 = .ok (.invokevirtual 217, 3) := by decide +kernel
theorem dX9_judge_100 : decode cX9_judge 100 = .ok (.ifCond .ne 6, 3) := by decide +kernel
theorem dX9_judge_103 : decode cX9_judge 103 = .ok (.iload 4, 2) := by decide +kernel
theorem dX9_judge_105 : decode cX9_judge 105 = .ok (.ireturn, 1) := by decide +kernel
theorem dX9_judge_106 : decode cX9_judge 106 = .ok (.iinc 4 1, 3) := by decide +kernel
theorem dX9_judge_109 : decode cX9_judge 109 = .ok (.goto (-58), 3) := by decide +kernel
theorem dX9_judge_112 : decode cX9_judge 112 = .ok (.bipush (-9), 2) := by decide +kernel
theorem dX9_judge_114 : decode cX9_judge 114 = .ok (.ireturn, 1) := by decide +kernel
set_option maxRecDepth 20000 in
theorem ggX9_see_X9_noSeat : GoodIn wsX9_see wsX9_noSeat := goodIn_r _ [9, 10, 11, 12, 13, 8, 14, 15, 16, 17, 18, 19, 20, 21, 22, 23, 24, 25, 26, 27, 28, 29, 30, 31, 32, 33, 34, 35, 36, 37, 38, 39, 40, 41, 42, 43, 44] (by decide +kernel) (by decide +kernel)
set_option maxRecDepth 20000 in
theorem gX9_see_X9_noSeat : GoodIn wsX9_see (wsV RX9 173 RX9 yX9_noSeat wsX9_noSeat) := goodIn_app (goodIn_of _ (by decide +kernel)) ggX9_see_X9_noSeat
set_option maxRecDepth 20000 in
theorem ggX9_see_X9_in : GoodIn wsX9_see wsX9_in := goodIn_r _ [18] (by decide +kernel) (by decide +kernel)
set_option maxRecDepth 20000 in
theorem gX9_see_X9_in : GoodIn wsX9_see (va_wsS RX9 66 yX9_in wsX9_in) := goodIn_app (goodIn_of _ (by decide +kernel)) ggX9_see_X9_in
theorem dX9_see_0 : decode cX9_see 0 = .ok (.aload_n 0, 1) := by decide +kernel
theorem dX9_see_1 : decode cX9_see 1 = .ok (.iconst 0, 1) := by decide +kernel
theorem dX9_see_2 : decode cX9_see 2 = .ok (.putfield 60, 3) := by decide +kernel
theorem dX9_see_5 : decode cX9_see 5 = .ok (.aload_n 0, 1) := by decide +kernel
theorem dX9_see_6 : decode cX9_see 6 = .ok (.iload_n 1, 1) := by decide +kernel
theorem dX9_see_7 : decode cX9_see 7 = .ok (.iload_n 2, 1) := by decide +kernel
theorem dX9_see_8 : decode cX9_see 8 = .ok (.invokevirtual 173, 3) := by decide +kernel
theorem dX9_see_11 : decode cX9_see 11 = .ok (.ifCond .eq 5, 3) := by decide +kernel
theorem dX9_see_14 : decode cX9_see 14 = .ok (.iconst (-1), 1) := by decide +kernel
theorem dX9_see_15 : decode cX9_see 15 = .ok (.ireturn, 1) := by decide +kernel
theorem dX9_see_16 : decode cX9_see 16 = .ok (.iload_n 3, 1) := by decide +kernel
theorem dX9_see_17 : decode cX9_see 17 = .ok (.i2l, 1) := by decide +kernel
theorem dX9_see_18 : decode cX9_see 18 = .ok (.lconst 0, 1) := by decide +kernel
theorem dX9_see_19 : decode cX9_see 19 = .ok (.lconst 1, 1) := by decide +kernel
theorem dX9_see_20 : decode cX9_see 20 = .ok (.invokestatic 66, 3) := by decide +kernel
theorem dX9_see_23 : decode cX9_see 23 = .ok (.ifCond .ne 6, 3) := by decide +kernel
theorem dX9_see_26 : decode cX9_see 26 = .ok (.bipush (-2), 2) := by decide +kernel
theorem dX9_see_28 : decode cX9_see 28 = .ok (.ireturn, 1) := by decide +kernel
theorem dX9_see_29 : decode cX9_see 29 = .ok (.aload_n 0, 1) := by decide +kernel
theorem dX9_see_30 : decode cX9_see 30 = .ok (.getfield 221, 3) := by decide +kernel
theorem dX9_see_33 : decode cX9_see 33 = .ok (.bipush 6, 2) := by decide +kernel
theorem dX9_see_35 : decode cX9_see 35 = .ok (.if_icmp .ne 6, 3) := by decide +kernel
theorem dX9_see_38 : decode cX9_see 38 = .ok (.bipush (-4), 2) := by decide +kernel
theorem dX9_see_40 : decode cX9_see 40 = .ok (.ireturn, 1) := by decide +kernel
theorem dX9_see_41 : decode cX9_see 41 = .ok (.aload_n 0, 1) := by decide +kernel
theorem dX9_see_42 : decode cX9_see 42 = .ok (.getfield 50, 3) := by decide +kernel
theorem dX9_see_45 : decode cX9_see 45 = .ok (.aload_n 0, 1) := by decide +kernel
theorem dX9_see_46 : decode cX9_see 46 = .ok (.getfield 221, 3) := by decide +kernel
theorem dX9_see_49 : decode cX9_see 49 = .ok (.bipush 9, 2) := by decide +kernel
theorem dX9_see_51 : decode cX9_see 51 = .ok (.iload_n 1, 1) := by decide +kernel
theorem dX9_see_52 : decode cX9_see 52 = .ok (.imul, 1) := by decide +kernel
theorem dX9_see_53 : decode cX9_see 53 = .ok (.iload_n 2, 1) := by decide +kernel
theorem dX9_see_54 : decode cX9_see 54 = .ok (.iadd, 1) := by decide +kernel
theorem dX9_see_55 : decode cX9_see 55 = .ok (.iastore, 1) := by decide +kernel
theorem dX9_see_56 : decode cX9_see 56 = .ok (.aload_n 0, 1) := by decide +kernel
theorem dX9_see_57 : decode cX9_see 57 = .ok (.getfield 53, 3) := by decide +kernel
theorem dX9_see_60 : decode cX9_see 60 = .ok (.aload_n 0, 1) := by decide +kernel
theorem dX9_see_61 : decode cX9_see 61 = .ok (.getfield 221, 3) := by decide +kernel
theorem dX9_see_64 : decode cX9_see 64 = .ok (.iload_n 3, 1) := by decide +kernel
theorem dX9_see_65 : decode cX9_see 65 = .ok (.iastore, 1) := by decide +kernel
theorem dX9_see_66 : decode cX9_see 66 = .ok (.aload_n 0, 1) := by decide +kernel
theorem dX9_see_67 : decode cX9_see 67 = .ok (.dup, 1) := by decide +kernel
theorem dX9_see_68 : decode cX9_see 68 = .ok (.getfield 221, 3) := by decide +kernel
theorem dX9_see_71 : decode cX9_see 71 = .ok (.iconst 1, 1) := by decide +kernel
theorem dX9_see_72 : decode cX9_see 72 = .ok (.iadd, 1) := by decide +kernel
theorem dX9_see_73 : decode cX9_see 73 = .ok (.putfield 221, 3) := by decide +kernel
theorem dX9_see_76 : decode cX9_see 76 = .ok (.aload_n 0, 1) := by decide +kernel
theorem dX9_see_77 : decode cX9_see 77 = .ok (.getfield 221, 3) := by decide +kernel
theorem dX9_see_80 : decode cX9_see 80 = .ok (.ireturn, 1) := by decide +kernel
theorem dX9_unsee_0 : decode cX9_unsee 0 = .ok (.aload_n 0, 1) := by decide +kernel
theorem dX9_unsee_1 : decode cX9_unsee 1 = .ok (.iconst 0, 1) := by decide +kernel
theorem dX9_unsee_2 : decode cX9_unsee 2 = .ok (.putfield 60, 3) := by decide +kernel
theorem dX9_unsee_5 : decode cX9_unsee 5 = .ok (.aload_n 0, 1) := by decide +kernel
theorem dX9_unsee_6 : decode cX9_unsee 6 = .ok (.getfield 221, 3) := by decide +kernel
theorem dX9_unsee_9 : decode cX9_unsee 9 = .ok (.istore_n 1, 1) := by decide +kernel
theorem dX9_unsee_10 : decode cX9_unsee 10 = .ok (.aload_n 0, 1) := by decide +kernel
theorem dX9_unsee_11 : decode cX9_unsee 11 = .ok (.iconst 0, 1) := by decide +kernel
theorem dX9_unsee_12 : decode cX9_unsee 12 = .ok (.putfield 221, 3) := by decide +kernel
theorem dX9_unsee_15 : decode cX9_unsee 15 = .ok (.iload_n 1, 1) := by decide +kernel
theorem dX9_unsee_16 : decode cX9_unsee 16 = .ok (.ireturn, 1) := by decide +kernel
set_option maxRecDepth 20000 in
theorem ggX9_isSo_X9_noSeat : GoodIn wsX9_isSo wsX9_noSeat := goodIn_r _ [8, 9, 10, 11, 12, 7, 13, 14, 15, 16, 17, 18, 19, 20, 21, 22, 23, 24, 25, 26, 27, 28, 29, 30, 31, 32, 33, 34, 35, 36, 37, 38, 39, 40, 41, 42, 43] (by decide +kernel) (by decide +kernel)
set_option maxRecDepth 20000 in
theorem gX9_isSo_X9_noSeat : GoodIn wsX9_isSo (wsV RX9 173 RX9 yX9_noSeat wsX9_noSeat) := goodIn_app (goodIn_of _ (by decide +kernel)) ggX9_isSo_X9_noSeat
theorem dX9_isSo_0 : decode cX9_isSo 0 = .ok (.aload_n 0, 1) := by decide +kernel
theorem dX9_isSo_1 : decode cX9_isSo 1 = .ok (.aload_n 0, 1) := by decide +kernel
theorem dX9_isSo_2 : decode cX9_isSo 2 = .ok (.getfield 50, 3) := by decide +kernel
theorem dX9_isSo_5 : decode cX9_isSo 5 = .ok (.iload_n 2, 1) := by decide +kernel
theorem dX9_isSo_6 : decode cX9_isSo 6 = .ok (.iaload, 1) := by decide +kernel
theorem dX9_isSo_7 : decode cX9_isSo 7 = .ok (.bipush 9, 2) := by decide +kernel
theorem dX9_isSo_9 : decode cX9_isSo 9 = .ok (.idiv, 1) := by decide +kernel
theorem dX9_isSo_10 : decode cX9_isSo 10 = .ok (.aload_n 0, 1) := by decide +kernel
theorem dX9_isSo_11 : decode cX9_isSo 11 = .ok (.getfield 50, 3) := by decide +kernel
theorem dX9_isSo_14 : decode cX9_isSo 14 = .ok (.iload_n 2, 1) := by decide +kernel
theorem dX9_isSo_15 : decode cX9_isSo 15 = .ok (.iaload, 1) := by decide +kernel
theorem dX9_isSo_16 : decode cX9_isSo 16 = .ok (.bipush 9, 2) := by decide +kernel
theorem dX9_isSo_18 : decode cX9_isSo 18 = .ok (.irem, 1) := by decide +kernel
theorem dX9_isSo_19 : decode cX9_isSo 19 = .ok (.invokevirtual 173, 3) := by decide +kernel
theorem dX9_isSo_22 : decode cX9_isSo 22 = .ok (.ifCond .eq 5, 3) := by decide +kernel
theorem dX9_isSo_25 : decode cX9_isSo 25 = .ok (.iconst 1, 1) := by decide +kernel
theorem dX9_isSo_26 : decode cX9_isSo 26 = .ok (.ireturn, 1) := by decide +kernel
theorem dX9_isSo_27 : decode cX9_isSo 27 = .ok (.aload_n 0, 1) := by decide +kernel
theorem dX9_isSo_28 : decode cX9_isSo 28 = .ok (.getfield 35, 3) := by decide +kernel
theorem dX9_isSo_31 : decode cX9_isSo 31 = .ok (.bipush 13, 2) := by decide +kernel
theorem dX9_isSo_33 : decode cX9_isSo 33 = .ok (.aload_n 0, 1) := by decide +kernel
theorem dX9_isSo_34 : decode cX9_isSo 34 = .ok (.getfield 50, 3) := by decide +kernel
theorem dX9_isSo_37 : decode cX9_isSo 37 = .ok (.iload_n 2, 1) := by decide +kernel
theorem dX9_isSo_38 : decode cX9_isSo 38 = .ok (.iaload, 1) := by decide +kernel
theorem dX9_isSo_39 : decode cX9_isSo 39 = .ok (.iadd, 1) := by decide +kernel
theorem dX9_isSo_40 : decode cX9_isSo 40 = .ok (.iaload, 1) := by decide +kernel
theorem dX9_isSo_41 : decode cX9_isSo 41 = .ok (.istore_n 3, 1) := by decide +kernel
theorem dX9_isSo_42 : decode cX9_isSo 42 = .ok (.iload_n 3, 1) := by decide +kernel
theorem dX9_isSo_43 : decode cX9_isSo 43 = .ok (.ifCond .eq 12, 3) := by decide +kernel
theorem dX9_isSo_46 : decode cX9_isSo 46 = .ok (.iload_n 3, 1) := by decide +kernel
theorem dX9_isSo_47 : decode cX9_isSo 47 = .ok (.iload_n 1, 1) := by decide +kernel
theorem dX9_isSo_48 : decode cX9_isSo 48 = .ok (.if_icmp .eq 7, 3) := by decide +kernel
theorem dX9_isSo_51 : decode cX9_isSo 51 = .ok (.iconst 1, 1) := by decide +kernel
theorem dX9_isSo_52 : decode cX9_isSo 52 = .ok (.goto 4, 3) := by decide +kernel
theorem dX9_isSo_55 : decode cX9_isSo 55 = .ok (.iconst 0, 1) := by decide +kernel
theorem dX9_isSo_56 : decode cX9_isSo 56 = .ok (.aload_n 0, 1) := by decide +kernel
theorem dX9_isSo_57 : decode cX9_isSo 57 = .ok (.getfield 53, 3) := by decide +kernel
theorem dX9_isSo_60 : decode cX9_isSo 60 = .ok (.iload_n 2, 1) := by decide +kernel
theorem dX9_isSo_61 : decode cX9_isSo 61 = .ok (.iaload, 1) := by decide +kernel
theorem dX9_isSo_62 : decode cX9_isSo 62 = .ok (.iconst 1, 1) := by decide +kernel
theorem dX9_isSo_63 : decode cX9_isSo 63 = .ok (.if_icmp .ne 7, 3) := by decide +kernel
theorem dX9_isSo_66 : decode cX9_isSo 66 = .ok (.iconst 1, 1) := by decide +kernel
theorem dX9_isSo_67 : decode cX9_isSo 67 = .ok (.goto 4, 3) := by decide +kernel
theorem dX9_isSo_70 : decode cX9_isSo 70 = .ok (.iconst 0, 1) := by decide +kernel
theorem dX9_isSo_71 : decode cX9_isSo 71 = .ok (.if_icmp .ne 7, 3) := by decide +kernel
theorem dX9_isSo_74 : decode cX9_isSo 74 = .ok (.iconst 1, 1) := by decide +kernel
theorem dX9_isSo_75 : decode cX9_isSo 75 = .ok (.goto 4, 3) := by decide +kernel
theorem dX9_isSo_78 : decode cX9_isSo 78 = .ok (.iconst 0, 1) := by decide +kernel
theorem dX9_isSo_79 : decode cX9_isSo 79 = .ok (.ireturn, 1) := by decide +kernel
set_option maxRecDepth 20000 in
theorem ggX9_which_X9_sits : GoodIn wsX9_which wsX9_sits := goodIn_r _ [8, 9, 10, 7, 11, 12, 13, 14] (by decide +kernel) (by decide +kernel)
set_option maxRecDepth 20000 in
theorem gX9_which_X9_sits : GoodIn wsX9_which (wsV RX9 202 RX9 yX9_sits wsX9_sits) := goodIn_app (goodIn_of _ (by decide +kernel)) ggX9_which_X9_sits
set_option maxRecDepth 20000 in
theorem ggX9_which_X9_isSo : GoodIn wsX9_which wsX9_isSo := goodIn_r _ [18, 19, 2, 20, 21, 22, 23, 7, 24, 25, 26, 27, 28, 29, 30, 9, 10, 11, 31, 32, 33, 34, 35, 36, 37, 38, 39, 40, 41, 42, 43, 44, 45, 46, 47, 48, 49, 50, 51, 52, 53, 54, 55, 56] (by decide +kernel) (by decide +kernel)
set_option maxRecDepth 20000 in
theorem gX9_which_X9_isSo : GoodIn wsX9_which (wsV RX9 224 RX9 yX9_isSo wsX9_isSo) := goodIn_app (goodIn_of _ (by decide +kernel)) ggX9_which_X9_isSo
theorem dX9_which_0 : decode cX9_which 0 = .ok (.aload_n 0, 1) := by decide +kernel
theorem dX9_which_1 : decode cX9_which 1 = .ok (.iconst 0, 1) := by decide +kernel
theorem dX9_which_2 : decode cX9_which 2 = .ok (.putfield 60, 3) := by decide +kernel
theorem dX9_which_5 : decode cX9_which 5 = .ok (.iconst 0, 1) := by decide +kernel
theorem dX9_which_6 : decode cX9_which 6 = .ok (.istore_n 1, 1) := by decide +kernel
theorem dX9_which_7 : decode cX9_which 7 = .ok (.iconst 1, 1) := by decide +kernel
theorem dX9_which_8 : decode cX9_which 8 = .ok (.istore_n 2, 1) := by decide +kernel
theorem dX9_which_9 : decode cX9_which 9 = .ok (.iload_n 2, 1) := by decide +kernel
theorem dX9_which_10 : decode cX9_which 10 = .ok (.aload_n 0, 1) := by decide +kernel
theorem dX9_which_11 : decode cX9_which 11 = .ok (.getfield 35, 3) := by decide +kernel
theorem dX9_which_14 : decode cX9_which 14 = .ok (.bipush 6, 2) := by decide +kernel
theorem dX9_which_16 : decode cX9_which 16 = .ok (.iaload, 1) := by decide +kernel
theorem dX9_which_17 : decode cX9_which 17 = .ok (.if_icmp .gt 71, 3) := by decide +kernel
theorem dX9_which_20 : decode cX9_which 20 = .ok (.aload_n 0, 1) := by decide +kernel
theorem dX9_which_21 : decode cX9_which 21 = .ok (.aload_n 0, 1) := by decide +kernel
theorem dX9_which_22 : decode cX9_which 22 = .ok (.getfield 35, 3) := by decide +kernel
theorem dX9_which_25 : decode cX9_which 25 = .ok (.iload_n 2, 1) := by decide +kernel
theorem dX9_which_26 : decode cX9_which 26 = .ok (.invokevirtual 202, 3) := by decide +kernel
theorem dX9_which_29 : decode cX9_which 29 = .ok (.istore_n 3, 1) := by decide +kernel
theorem dX9_which_30 : decode cX9_which 30 = .ok (.iconst 0, 1) := by decide +kernel
theorem dX9_which_31 : decode cX9_which 31 = .ok (.istore 4, 2) := by decide +kernel
theorem dX9_which_33 : decode cX9_which 33 = .ok (.iload 4, 2) := by decide +kernel
theorem dX9_which_35 : decode cX9_which 35 = .ok (.aload_n 0, 1) := by decide +kernel
theorem dX9_which_36 : decode cX9_which 36 = .ok (.getfield 221, 3) := by decide +kernel
theorem dX9_which_39 : decode cX9_which 39 = .ok (.if_icmp .ge 29, 3) := by decide +kernel
theorem dX9_which_42 : decode cX9_which 42 = .ok (.iload_n 3, 1) := by decide +kernel
theorem dX9_which_43 : decode cX9_which 43 = .ok (.ifCond .eq 17, 3) := by decide +kernel
theorem dX9_which_46 : decode cX9_which 46 = .ok (.aload_n 0, 1) := by decide +kernel
theorem dX9_which_47 : decode cX9_which 47 = .ok (.iload_n 2, 1) := by decide +kernel
theorem dX9_which_48 : decode cX9_which 48 = .ok (.iload 4, 2) := by decide +kernel
theorem dX9_which_50 : decode cX9_which 50 = .ok (.invokevirtual 224, 3) := by decide +kernel
theorem dX9_which_53 : decode cX9_which 53 = .ok (.ifCond .eq 7, 3) := by decide +kernel
theorem dX9_which_56 : decode cX9_which 56 = .ok (.iconst 1, 1) := by decide +kernel
theorem dX9_which_57 : decode cX9_which 57 = .ok (.goto 4, 3) := by decide +kernel
theorem dX9_which_60 : decode cX9_which 60 = .ok (.iconst 0, 1) := by decide +kernel
theorem dX9_which_61 : decode cX9_which 61 = .ok (.istore_n 3, 1) := by decide +kernel
theorem dX9_which_62 : decode cX9_which 62 = .ok (.iinc 4 1, 3) := by decide +kernel
theorem dX9_which_65 : decode cX9_which 65 = .ok (.goto (-32), 3) := by decide +kernel
theorem dX9_which_68 : decode cX9_which 68 = .ok (.iload_n 1, 1) := by decide +kernel
theorem dX9_which_69 : decode cX9_which 69 = .ok (.iload_n 3, 1) := by decide +kernel
theorem dX9_which_70 : decode cX9_which 70 = .ok (.ifCond .eq 9, 3) := by decide +kernel
theorem dX9_which_73 : decode cX9_which 73 = .ok (.iconst 1, 1) := by decide +kernel
theorem dX9_which_74 : decode cX9_which 74 = .ok (.iload_n 2, 1) := by decide +kernel
theorem dX9_which_75 : decode cX9_which 75 = .ok (.ishl, 1) := by decide +kernel
theorem dX9_which_76 : decode cX9_which 76 = .ok (.goto 4, 3) := by decide +kernel
theorem dX9_which_79 : decode cX9_which 79 = .ok (.iconst 0, 1) := by decide +kernel
theorem dX9_which_80 : decode cX9_which 80 = .ok (.ior, 1) := by decide +kernel
theorem dX9_which_81 : decode cX9_which 81 = .ok (.istore_n 1, 1) := by decide +kernel
theorem dX9_which_82 : decode cX9_which 82 = .ok (.iinc 2 1, 3) := by decide +kernel
theorem dX9_which_85 : decode cX9_which 85 = .ok (.goto (-76), 3) := by decide +kernel
theorem dX9_which_88 : decode cX9_which 88 = .ok (.iload_n 1, 1) := by decide +kernel
theorem dX9_which_89 : decode cX9_which 89 = .ok (.ireturn, 1) := by decide +kernel
theorem dX9_divisor_0 : decode cX9_divisor 0 = .ok (.iload_n 0, 1) := by decide +kernel
theorem dX9_divisor_1 : decode cX9_divisor 1 = .ok (.ifCond .ge 8, 3) := by decide +kernel
theorem dX9_divisor_4 : decode cX9_divisor 4 = .ok (.iload_n 0, 1) := by decide +kernel
theorem dX9_divisor_5 : decode cX9_divisor 5 = .ok (.ineg, 1) := by decide +kernel
theorem dX9_divisor_6 : decode cX9_divisor 6 = .ok (.goto 4, 3) := by decide +kernel
theorem dX9_divisor_9 : decode cX9_divisor 9 = .ok (.iload_n 0, 1) := by decide +kernel
theorem dX9_divisor_10 : decode cX9_divisor 10 = .ok (.istore_n 2, 1) := by decide +kernel
theorem dX9_divisor_11 : decode cX9_divisor 11 = .ok (.iload_n 1, 1) := by decide +kernel
theorem dX9_divisor_12 : decode cX9_divisor 12 = .ok (.istore_n 3, 1) := by decide +kernel
theorem dX9_divisor_13 : decode cX9_divisor 13 = .ok (.iload_n 3, 1) := by decide +kernel
theorem dX9_divisor_14 : decode cX9_divisor 14 = .ok (.ifCond .eq 16, 3) := by decide +kernel
theorem dX9_divisor_17 : decode cX9_divisor 17 = .ok (.iload_n 2, 1) := by decide +kernel
theorem dX9_divisor_18 : decode cX9_divisor 18 = .ok (.iload_n 3, 1) := by decide +kernel
theorem dX9_divisor_19 : decode cX9_divisor 19 = .ok (.irem, 1) := by decide +kernel
theorem dX9_divisor_20 : decode cX9_divisor 20 = .ok (.istore 4, 2) := by decide +kernel
theorem dX9_divisor_22 : decode cX9_divisor 22 = .ok (.iload_n 3, 1) := by decide +kernel
theorem dX9_divisor_23 : decode cX9_divisor 23 = .ok (.istore_n 2, 1) := by decide +kernel
theorem dX9_divisor_24 : decode cX9_divisor 24 = .ok (.iload 4, 2) := by decide +kernel
theorem dX9_divisor_26 : decode cX9_divisor 26 = .ok (.istore_n 3, 1) := by decide +kernel
theorem dX9_divisor_27 : decode cX9_divisor 27 = .ok (.goto (-14), 3) := by decide +kernel
theorem dX9_divisor_30 : decode cX9_divisor 30 = .ok (.iload_n 2, 1) := by decide +kernel
theorem dX9_divisor_31 : decode cX9_divisor 31 = .ok (.ireturn, 1) := by decide +kernel
set_option maxRecDepth 20000 in
theorem ggX9_fraction_X9_divisor : GoodIn wsX9_fraction wsX9_divisor := goodIn_r _ [4] (by decide +kernel) (by decide +kernel)
set_option maxRecDepth 20000 in
theorem gX9_fraction_X9_divisor : GoodIn wsX9_fraction (va_wsS RX9 227 yX9_divisor wsX9_divisor) := goodIn_app (goodIn_of _ (by decide +kernel)) ggX9_fraction_X9_divisor
theorem dX9_fraction_0 : decode cX9_fraction 0 = .ok (.iload_n 0, 1) := by decide +kernel
theorem dX9_fraction_1 : decode cX9_fraction 1 = .ok (.iload_n 1, 1) := by decide +kernel
theorem dX9_fraction_2 : decode cX9_fraction 2 = .ok (.invokestatic 227, 3) := by decide +kernel
theorem dX9_fraction_5 : decode cX9_fraction 5 = .ok (.istore_n 3, 1) := by decide +kernel
theorem dX9_fraction_6 : decode cX9_fraction 6 = .ok (.iload_n 2, 1) := by decide +kernel
theorem dX9_fraction_7 : decode cX9_fraction 7 = .ok (.ifCond .eq 9, 3) := by decide +kernel
theorem dX9_fraction_10 : decode cX9_fraction 10 = .ok (.iload_n 0, 1) := by decide +kernel
theorem dX9_fraction_11 : decode cX9_fraction 11 = .ok (.iload_n 3, 1) := by decide +kernel
theorem dX9_fraction_12 : decode cX9_fraction 12 = .ok (.idiv, 1) := by decide +kernel
theorem dX9_fraction_13 : decode cX9_fraction 13 = .ok (.goto 6, 3) := by decide +kernel
theorem dX9_fraction_16 : decode cX9_fraction 16 = .ok (.iload_n 1, 1) := by decide +kernel
theorem dX9_fraction_17 : decode cX9_fraction 17 = .ok (.iload_n 3, 1) := by decide +kernel
theorem dX9_fraction_18 : decode cX9_fraction 18 = .ok (.idiv, 1) := by decide +kernel
theorem dX9_fraction_19 : decode cX9_fraction 19 = .ok (.ireturn, 1) := by decide +kernel
theorem dX9_factorial_0 : decode cX9_factorial 0 = .ok (.iconst 1, 1) := by decide +kernel
theorem dX9_factorial_1 : decode cX9_factorial 1 = .ok (.istore_n 1, 1) := by decide +kernel
theorem dX9_factorial_2 : decode cX9_factorial 2 = .ok (.iconst 2, 1) := by decide +kernel
theorem dX9_factorial_3 : decode cX9_factorial 3 = .ok (.istore_n 2, 1) := by decide +kernel
theorem dX9_factorial_4 : decode cX9_factorial 4 = .ok (.iload_n 2, 1) := by decide +kernel
theorem dX9_factorial_5 : decode cX9_factorial 5 = .ok (.iload_n 0, 1) := by decide +kernel
theorem dX9_factorial_6 : decode cX9_factorial 6 = .ok (.if_icmp .gt 13, 3) := by decide +kernel
theorem dX9_factorial_9 : decode cX9_factorial 9 = .ok (.iload_n 1, 1) := by decide +kernel
theorem dX9_factorial_10 : decode cX9_factorial 10 = .ok (.iload_n 2, 1) := by decide +kernel
theorem dX9_factorial_11 : decode cX9_factorial 11 = .ok (.imul, 1) := by decide +kernel
theorem dX9_factorial_12 : decode cX9_factorial 12 = .ok (.istore_n 1, 1) := by decide +kernel
theorem dX9_factorial_13 : decode cX9_factorial 13 = .ok (.iinc 2 1, 3) := by decide +kernel
theorem dX9_factorial_16 : decode cX9_factorial 16 = .ok (.goto (-12), 3) := by decide +kernel
theorem dX9_factorial_19 : decode cX9_factorial 19 = .ok (.iload_n 1, 1) := by decide +kernel
theorem dX9_factorial_20 : decode cX9_factorial 20 = .ok (.ireturn, 1) := by decide +kernel
set_option maxRecDepth 20000 in
theorem ggX9_viewsBy_X9_allLone : GoodIn wsX9_viewsBy wsX9_allLone := goodIn_r _ [8, 9, 10, 11, 12, 7, 13, 14, 15, 16, 17, 18, 19, 20, 21, 22, 23, 24, 25, 46, 47, 48, 49, 50, 51, 52, 53, 54, 55, 56, 57, 58, 59, 60, 61, 62, 63, 64, 65, 66, 67, 68, 69, 70, 71] (by decide +kernel) (by decide +kernel)
set_option maxRecDepth 20000 in
theorem gX9_viewsBy_X9_allLone : GoodIn wsX9_viewsBy (wsV RX9 130 RX9 yX9_allLone wsX9_allLone) := goodIn_app (goodIn_of _ (by decide +kernel)) ggX9_viewsBy_X9_allLone
set_option maxRecDepth 20000 in
theorem ggX9_viewsBy_X9_findPlace : GoodIn wsX9_viewsBy wsX9_findPlace := goodIn_r _ [29, 30, 3, 2, 9, 14, 31, 32, 7, 33, 34, 35, 36, 37, 19, 20, 21, 22, 38, 39, 40, 4, 5, 6, 8, 10, 11, 12, 13, 15, 16, 17, 18, 23, 24, 25, 41, 42, 43, 44, 45, 46, 47, 48, 49, 50, 51, 52, 53, 54, 55, 56, 57, 58, 59, 60, 61, 62, 63, 64, 65, 66, 67, 68, 69, 70, 71] (by decide +kernel) (by decide +kernel)
set_option maxRecDepth 20000 in
theorem gX9_viewsBy_X9_findPlace : GoodIn wsX9_viewsBy (wsV RX9 152 RX9 yX9_findPlace wsX9_findPlace) := goodIn_app (goodIn_of _ (by decide +kernel)) ggX9_viewsBy_X9_findPlace
theorem dX9_viewsBy_0 : decode cX9_viewsBy 0 = .ok (.aload_n 0, 1) := by decide +kernel
theorem dX9_viewsBy_1 : decode cX9_viewsBy 1 = .ok (.aload_n 0, 1) := by decide +kernel
theorem dX9_viewsBy_2 : decode cX9_viewsBy 2 = .ok (.getfield 35, 3) := by decide +kernel
theorem dX9_viewsBy_5 : decode cX9_viewsBy 5 = .ok (.iload_n 2, 1) := by decide +kernel
theorem dX9_viewsBy_6 : decode cX9_viewsBy 6 = .ok (.bipush 9, 2) := by decide +kernel
theorem dX9_viewsBy_8 : decode cX9_viewsBy 8 = .ok (.iload_n 1, 1) := by decide +kernel
theorem dX9_viewsBy_9 : decode cX9_viewsBy 9 = .ok (.aload_n 0, 1) := by decide +kernel
theorem dX9_viewsBy_10 : decode cX9_viewsBy 10 = .ok (.aload_n 0, 1) := by decide +kernel
theorem dX9_viewsBy_11 : decode cX9_viewsBy 11 = .ok (.getfield 35, 3) := by decide +kernel
theorem dX9_viewsBy_14 : decode cX9_viewsBy 14 = .ok (.invokevirtual 130, 3) := by decide +kernel
theorem dX9_viewsBy_17 : decode cX9_viewsBy 17 = .ok (.invokevirtual 152, 3) := by decide +kernel
theorem dX9_viewsBy_20 : decode cX9_viewsBy 20 = .ok (.aload_n 0, 1) := by decide +kernel
theorem dX9_viewsBy_21 : decode cX9_viewsBy 21 = .ok (.getfield 137, 3) := by decide +kernel
theorem dX9_viewsBy_24 : decode cX9_viewsBy 24 = .ok (.ifCond .le 10, 3) := by decide +kernel
theorem dX9_viewsBy_27 : decode cX9_viewsBy 27 = .ok (.aload_n 0, 1) := by decide +kernel
theorem dX9_viewsBy_28 : decode cX9_viewsBy 28 = .ok (.getfield 134, 3) := by decide +kernel
theorem dX9_viewsBy_31 : decode cX9_viewsBy 31 = .ok (.goto 4, 3) := by decide +kernel
theorem dX9_viewsBy_34 : decode cX9_viewsBy 34 = .ok (.iconst 0, 1) := by decide +kernel
theorem dX9_viewsBy_35 : decode cX9_viewsBy 35 = .ok (.ireturn, 1) := by decide +kernel
set_option maxRecDepth 20000 in
theorem ggX9_share_X9_noRow : GoodIn wsX9_share wsX9_noRow := goodIn_r _ [8, 3, 9, 10, 7, 11, 68, 69, 70, 71, 72, 73, 74, 75, 76, 77, 78, 79, 80, 81, 82, 83, 84, 85, 86, 87, 88, 89, 90, 91, 92, 93] (by decide +kernel) (by decide +kernel)
set_option maxRecDepth 20000 in
theorem gX9_share_X9_noRow : GoodIn wsX9_share (wsV RX9 70 RX9 yX9_noRow wsX9_noRow) := goodIn_app (goodIn_of _ (by decide +kernel)) ggX9_share_X9_noRow
set_option maxRecDepth 20000 in
theorem ggX9_share_X9_in : GoodIn wsX9_share wsX9_in := goodIn_r _ [11] (by decide +kernel) (by decide +kernel)
set_option maxRecDepth 20000 in
theorem gX9_share_X9_in : GoodIn wsX9_share (va_wsS RX9 66 yX9_in wsX9_in) := goodIn_app (goodIn_of _ (by decide +kernel)) ggX9_share_X9_in
set_option maxRecDepth 20000 in
theorem ggX9_share_X9_ones : GoodIn wsX9_share wsX9_ones := goodIn_r _ [14] (by decide +kernel) (by decide +kernel)
set_option maxRecDepth 20000 in
theorem gX9_share_X9_ones : GoodIn wsX9_share (va_wsS RX9 119 yX9_ones wsX9_ones) := goodIn_app (goodIn_of _ (by decide +kernel)) ggX9_share_X9_ones
set_option maxRecDepth 20000 in
theorem ggX9_share_X9_has : GoodIn wsX9_share wsX9_has := goodIn_r _ [17] (by decide +kernel) (by decide +kernel)
set_option maxRecDepth 20000 in
theorem gX9_share_X9_has : GoodIn wsX9_share (va_wsS RX9 140 yX9_has wsX9_has) := goodIn_app (goodIn_of _ (by decide +kernel)) ggX9_share_X9_has
set_option maxRecDepth 20000 in
theorem ggX9_share_X9_factorial : GoodIn wsX9_share wsX9_factorial := goodIn_r _ [20] (by decide +kernel) (by decide +kernel)
set_option maxRecDepth 20000 in
theorem gX9_share_X9_factorial : GoodIn wsX9_share (va_wsS RX9 230 yX9_factorial wsX9_factorial) := goodIn_app (goodIn_of _ (by decide +kernel)) ggX9_share_X9_factorial
set_option maxRecDepth 20000 in
theorem ggX9_share_X9_viewsBy : GoodIn wsX9_share wsX9_viewsBy := goodIn_r _ [24, 25, 26, 27, 28, 29, 30, 7, 31, 3, 32, 33, 34, 35, 36, 37, 38, 39, 40, 41, 42, 43, 44, 12, 13, 14, 45, 46, 47, 48, 49, 15, 16, 17, 50, 51, 52, 53, 54, 55, 56, 57, 58, 59, 60, 61, 68, 69, 70, 71, 72, 73, 74, 75, 76, 77, 78, 79, 80, 81, 82, 83, 84, 85, 86, 87, 88, 89, 90, 91, 92, 93] (by decide +kernel) (by decide +kernel)
set_option maxRecDepth 20000 in
theorem gX9_share_X9_viewsBy : GoodIn wsX9_share (wsV RX9 233 RX9 yX9_viewsBy wsX9_viewsBy) := goodIn_app (goodIn_of _ (by decide +kernel)) ggX9_share_X9_viewsBy
set_option maxRecDepth 20000 in
theorem ggX9_share_X9_fraction : GoodIn wsX9_share wsX9_fraction := goodIn_r _ [64, 65, 66, 7, 67] (by decide +kernel) (by decide +kernel)
set_option maxRecDepth 20000 in
theorem gX9_share_X9_fraction : GoodIn wsX9_share (va_wsS RX9 236 yX9_fraction wsX9_fraction) := goodIn_app (goodIn_of _ (by decide +kernel)) ggX9_share_X9_fraction
theorem dX9_share_0 : decode cX9_share 0 = .ok (.aload_n 0, 1) := by decide +kernel
theorem dX9_share_1 : decode cX9_share 1 = .ok (.iconst 0, 1) := by decide +kernel
theorem dX9_share_2 : decode cX9_share 2 = .ok (.putfield 60, 3) := by decide +kernel
theorem dX9_share_5 : decode cX9_share 5 = .ok (.aload_n 0, 1) := by decide +kernel
theorem dX9_share_6 : decode cX9_share 6 = .ok (.iload_n 1, 1) := by decide +kernel
theorem dX9_share_7 : decode cX9_share 7 = .ok (.invokevirtual 70, 3) := by decide +kernel
theorem dX9_share_10 : decode cX9_share 10 = .ok (.ifCond .eq 5, 3) := by decide +kernel
theorem dX9_share_13 : decode cX9_share 13 = .ok (.iconst (-1), 1) := by decide +kernel
theorem dX9_share_14 : decode cX9_share 14 = .ok (.ireturn, 1) := by decide +kernel
theorem dX9_share_15 : decode cX9_share 15 = .ok (.iload_n 2, 1) := by decide +kernel
theorem dX9_share_16 : decode cX9_share 16 = .ok (.i2l, 1) := by decide +kernel
theorem dX9_share_17 : decode cX9_share 17 = .ok (.lconst 1, 1) := by decide +kernel
theorem dX9_share_18 : decode cX9_share 18 = .ok (.ldc2_w 181, 3) := by decide +kernel
theorem dX9_share_21 : decode cX9_share 21 = .ok (.invokestatic 66, 3) := by decide +kernel
theorem dX9_share_24 : decode cX9_share 24 = .ok (.ifCond .ne 6, 3) := by decide +kernel
theorem dX9_share_27 : decode cX9_share 27 = .ok (.bipush (-2), 2) := by decide +kernel
theorem dX9_share_29 : decode cX9_share 29 = .ok (.ireturn, 1) := by decide +kernel
theorem dX9_share_30 : decode cX9_share 30 = .ok (.iconst 0, 1) := by decide +kernel
theorem dX9_share_31 : decode cX9_share 31 = .ok (.istore 4, 2) := by decide +kernel
theorem dX9_share_33 : decode cX9_share 33 = .ok (.iconst 0, 1) := by decide +kernel
theorem dX9_share_34 : decode cX9_share 34 = .ok (.istore 5, 2) := by decide +kernel
theorem dX9_share_36 : decode cX9_share 36 = .ok (.iload 5, 2) := by decide +kernel
theorem dX9_share_38 : decode cX9_share 38 = .ok (.iconst 1, 1) := by decide +kernel
theorem dX9_share_39 : decode cX9_share 39 = .ok (.aload_n 0, 1) := by decide +kernel
theorem dX9_share_40 : decode cX9_share 40 = .ok (.getfield 63, 3) := by decide +kernel
theorem dX9_share_43 : decode cX9_share 43 = .ok (.ishl, 1) := by decide +kernel
theorem dX9_share_44 : decode cX9_share 44 = .ok (.if_icmp .ge 72, 3) := by decide +kernel
theorem dX9_share_47 : decode cX9_share 47 = .ok (.iload 5, 2) := by decide +kernel
theorem dX9_share_49 : decode cX9_share 49 = .ok (.invokestatic 119, 3) := by decide +kernel
theorem dX9_share_52 : decode cX9_share 52 = .ok (.istore 6, 2) := by decide +kernel
theorem dX9_share_54 : decode cX9_share 54 = .ok (.iload 4, 2) := by decide +kernel
theorem dX9_share_56 : decode cX9_share 56 = .ok (.iload 5, 2) := by decide +kernel
theorem dX9_share_58 : decode cX9_share 58 = .ok (.iload_n 1, 1) := by decide +kernel
theorem dX9_share_59 : decode cX9_share 59 = .ok (.invokestatic 140, 3) := by decide +kernel
theorem dX9_share_62 : decode cX9_share 62 = .ok (.ifCond .eq 7, 3) := by decide +kernel
theorem dX9_share_65 : decode cX9_share 65 = .ok (.iconst 0, 1) := by decide +kernel
theorem dX9_share_66 : decode cX9_share 66 = .ok (.goto 41, 3) := by decide +kernel
theorem dX9_share_69 : decode cX9_share 69 = .ok (.iload 6, 2) := by decide +kernel
theorem dX9_share_71 : decode cX9_share 71 = .ok (.invokestatic 230, 3) := by decide +kernel
theorem dX9_share_74 : decode cX9_share 74 = .ok (.aload_n 0, 1) := by decide +kernel
theorem dX9_share_75 : decode cX9_share 75 = .ok (.getfield 63, 3) := by decide +kernel
theorem dX9_share_78 : decode cX9_share 78 = .ok (.iconst 1, 1) := by decide +kernel
theorem dX9_share_79 : decode cX9_share 79 = .ok (.isub, 1) := by decide +kernel
theorem dX9_share_80 : decode cX9_share 80 = .ok (.iload 6, 2) := by decide +kernel
theorem dX9_share_82 : decode cX9_share 82 = .ok (.isub, 1) := by decide +kernel
theorem dX9_share_83 : decode cX9_share 83 = .ok (.invokestatic 230, 3) := by decide +kernel
theorem dX9_share_86 : decode cX9_share 86 = .ok (.imul, 1) := by decide +kernel
theorem dX9_share_87 : decode cX9_share 87 = .ok (.aload_n 0, 1) := by decide +kernel
theorem dX9_share_88 : decode cX9_share 88 = .ok (.iload 5, 2) := by decide +kernel
theorem dX9_share_90 : decode cX9_share 90 = .ok (.iconst 1, 1) := by decide +kernel
theorem dX9_share_91 : decode cX9_share 91 = .ok (.iload_n 1, 1) := by decide +kernel
theorem dX9_share_92 : decode cX9_share 92 = .ok (.ishl, 1) := by decide +kernel
theorem dX9_share_93 : decode cX9_share 93 = .ok (.ior, 1) := by decide +kernel
theorem dX9_share_94 : decode cX9_share 94 = .ok (.iload_n 2, 1) := by decide +kernel
theorem dX9_share_95 : decode cX9_share 95 = .ok (.invokevirtual 233, 3) := by decide +kernel
theorem dX9_share_98 : decode cX9_share 98 = .ok (.aload_n 0, 1) := by decide +kernel
theorem dX9_share_99 : decode cX9_share 99 = .ok (.iload 5, 2) := by decide +kernel
theorem dX9_share_101 : decode cX9_share 101 = .ok (.iload_n 2, 1) := by decide +kernel
theorem dX9_share_102 : decode cX9_share 102 = .ok (.invokevirtual 233, 3) := by decide +kernel
theorem dX9_share_105 : decode cX9_share 105 = .ok (.isub, 1) := by decide +kernel
theorem dX9_share_106 : decode cX9_share 106 = .ok (.imul, 1) := by decide +kernel
theorem dX9_share_107 : decode cX9_share 107 = .ok (.iadd, 1) := by decide +kernel
theorem dX9_share_108 : decode cX9_share 108 = .ok (.istore 4, 2) := by decide +kernel
theorem dX9_share_110 : decode cX9_share 110 = .ok (.iinc 5 1, 3) := by decide +kernel
theorem dX9_share_113 : decode cX9_share 113 = .ok (.goto (-77), 3) := by decide +kernel
theorem dX9_share_116 : decode cX9_share 116 = .ok (.iload 4, 2) := by decide +kernel
theorem dX9_share_118 : decode cX9_share 118 = .ok (.aload_n 0, 1) := by decide +kernel
theorem dX9_share_119 : decode cX9_share 119 = .ok (.getfield 63, 3) := by decide +kernel
theorem dX9_share_122 : decode cX9_share 122 = .ok (.invokestatic 230, 3) := by decide +kernel
theorem dX9_share_125 : decode cX9_share 125 = .ok (.iload_n 3, 1) := by decide +kernel
theorem dX9_share_126 : decode cX9_share 126 = .ok (.invokestatic 236, 3) := by decide +kernel
theorem dX9_share_129 : decode cX9_share 129 = .ok (.ireturn, 1) := by decide +kernel
set_option maxRecDepth 20000 in
theorem ggX9_partyIn_X9_sits : GoodIn wsX9_partyIn wsX9_sits := goodIn_r _ [6, 7, 8, 5, 9, 10, 11, 12] (by decide +kernel) (by decide +kernel)
set_option maxRecDepth 20000 in
theorem gX9_partyIn_X9_sits : GoodIn wsX9_partyIn (wsV RX9 202 RX9 yX9_sits wsX9_sits) := goodIn_app (goodIn_of _ (by decide +kernel)) ggX9_partyIn_X9_sits
set_option maxRecDepth 20000 in
theorem ggX9_partyIn_X9_at : GoodIn wsX9_partyIn wsX9_at := goodIn_r _ [12] (by decide +kernel) (by decide +kernel)
set_option maxRecDepth 20000 in
theorem gX9_partyIn_X9_at : GoodIn wsX9_partyIn (va_wsS RX9 155 yX9_at wsX9_at) := goodIn_app (goodIn_of _ (by decide +kernel)) ggX9_partyIn_X9_at
theorem dX9_partyIn_0 : decode cX9_partyIn 0 = .ok (.iconst 0, 1) := by decide +kernel
theorem dX9_partyIn_1 : decode cX9_partyIn 1 = .ok (.istore_n 3, 1) := by decide +kernel
theorem dX9_partyIn_2 : decode cX9_partyIn 2 = .ok (.iconst 1, 1) := by decide +kernel
theorem dX9_partyIn_3 : decode cX9_partyIn 3 = .ok (.istore 4, 2) := by decide +kernel
theorem dX9_partyIn_5 : decode cX9_partyIn 5 = .ok (.iload 4, 2) := by decide +kernel
theorem dX9_partyIn_7 : decode cX9_partyIn 7 = .ok (.aload_n 0, 1) := by decide +kernel
theorem dX9_partyIn_8 : decode cX9_partyIn 8 = .ok (.getfield 35, 3) := by decide +kernel
theorem dX9_partyIn_11 : decode cX9_partyIn 11 = .ok (.bipush 6, 2) := by decide +kernel
theorem dX9_partyIn_13 : decode cX9_partyIn 13 = .ok (.iaload, 1) := by decide +kernel
theorem dX9_partyIn_14 : decode cX9_partyIn 14 = .ok (.if_icmp .gt 49, 3) := by decide +kernel
theorem dX9_partyIn_17 : decode cX9_partyIn 17 = .ok (.aload_n 0, 1) := by decide +kernel
theorem dX9_partyIn_18 : decode cX9_partyIn 18 = .ok (.aload_n 0, 1) := by decide +kernel
theorem dX9_partyIn_19 : decode cX9_partyIn 19 = .ok (.getfield 35, 3) := by decide +kernel
theorem dX9_partyIn_22 : decode cX9_partyIn 22 = .ok (.iload 4, 2) := by decide +kernel
theorem dX9_partyIn_24 : decode cX9_partyIn 24 = .ok (.invokevirtual 202, 3) := by decide +kernel
theorem dX9_partyIn_27 : decode cX9_partyIn 27 = .ok (.ifCond .eq 30, 3) := by decide +kernel
theorem dX9_partyIn_30 : decode cX9_partyIn 30 = .ok (.aload_n 0, 1) := by decide +kernel
theorem dX9_partyIn_31 : decode cX9_partyIn 31 = .ok (.getfield 35, 3) := by decide +kernel
theorem dX9_partyIn_34 : decode cX9_partyIn 34 = .ok (.iload 4, 2) := by decide +kernel
theorem dX9_partyIn_36 : decode cX9_partyIn 36 = .ok (.invokestatic 155, 3) := by decide +kernel
theorem dX9_partyIn_39 : decode cX9_partyIn 39 = .ok (.iconst 3, 1) := by decide +kernel
theorem dX9_partyIn_40 : decode cX9_partyIn 40 = .ok (.iadd, 1) := by decide +kernel
theorem dX9_partyIn_41 : decode cX9_partyIn 41 = .ok (.iaload, 1) := by decide +kernel
theorem dX9_partyIn_42 : decode cX9_partyIn 42 = .ok (.iload_n 1, 1) := by decide +kernel
theorem dX9_partyIn_43 : decode cX9_partyIn 43 = .ok (.if_icmp .ne 14, 3) := by decide +kernel
theorem dX9_partyIn_46 : decode cX9_partyIn 46 = .ok (.iload_n 3, 1) := by decide +kernel
theorem dX9_partyIn_47 : decode cX9_partyIn 47 = .ok (.iload_n 2, 1) := by decide +kernel
theorem dX9_partyIn_48 : decode cX9_partyIn 48 = .ok (.if_icmp .ne 6, 3) := by decide +kernel
theorem dX9_partyIn_51 : decode cX9_partyIn 51 = .ok (.iload 4, 2) := by decide +kernel
theorem dX9_partyIn_53 : decode cX9_partyIn 53 = .ok (.ireturn, 1) := by decide +kernel
theorem dX9_partyIn_54 : decode cX9_partyIn 54 = .ok (.iinc 3 1, 3) := by decide +kernel
theorem dX9_partyIn_57 : decode cX9_partyIn 57 = .ok (.iinc 4 1, 3) := by decide +kernel
theorem dX9_partyIn_60 : decode cX9_partyIn 60 = .ok (.goto (-55), 3) := by decide +kernel
theorem dX9_partyIn_63 : decode cX9_partyIn 63 = .ok (.bipush (-9), 2) := by decide +kernel
theorem dX9_partyIn_65 : decode cX9_partyIn 65 = .ok (.ireturn, 1) := by decide +kernel
set_option maxRecDepth 20000 in
theorem ggX9_away_X9_noRow : GoodIn wsX9_away wsX9_noRow := goodIn_r _ [9, 10, 11, 12, 8, 13, 40, 41, 42, 43, 44, 45, 46, 47, 48, 49, 50, 51, 52, 53, 54, 55, 56, 57, 58, 59, 60, 61, 62, 63, 64, 65] (by decide +kernel) (by decide +kernel)
set_option maxRecDepth 20000 in
theorem gX9_away_X9_noRow : GoodIn wsX9_away (wsV RX9 70 RX9 yX9_noRow wsX9_noRow) := goodIn_app (goodIn_of _ (by decide +kernel)) ggX9_away_X9_noRow
set_option maxRecDepth 20000 in
theorem ggX9_away_X9_in : GoodIn wsX9_away wsX9_in := goodIn_r _ [13] (by decide +kernel) (by decide +kernel)
set_option maxRecDepth 20000 in
theorem gX9_away_X9_in : GoodIn wsX9_away (va_wsS RX9 66 yX9_in wsX9_in) := goodIn_app (goodIn_of _ (by decide +kernel)) ggX9_away_X9_in
set_option maxRecDepth 20000 in
theorem ggX9_away_X9_partyIn : GoodIn wsX9_away wsX9_partyIn := goodIn_r _ [17, 4, 18, 19, 20, 8, 21, 11, 12, 13, 22, 23, 24, 40, 41, 42, 43, 44, 45, 46, 47, 48, 49, 50, 51, 52, 53, 54, 55, 56, 57, 58, 59, 60, 61, 62, 63, 64, 65] (by decide +kernel) (by decide +kernel)
set_option maxRecDepth 20000 in
theorem gX9_away_X9_partyIn : GoodIn wsX9_away (wsV RX9 242 RX9 yX9_partyIn wsX9_partyIn) := goodIn_app (goodIn_of _ (by decide +kernel)) ggX9_away_X9_partyIn
set_option maxRecDepth 20000 in
theorem ggX9_away_X9_has : GoodIn wsX9_away wsX9_has := goodIn_r _ [27] (by decide +kernel) (by decide +kernel)
set_option maxRecDepth 20000 in
theorem gX9_away_X9_has : GoodIn wsX9_away (va_wsS RX9 140 yX9_has wsX9_has) := goodIn_app (goodIn_of _ (by decide +kernel)) ggX9_away_X9_has
set_option maxRecDepth 20000 in
theorem ggX9_away_X9_at : GoodIn wsX9_away wsX9_at := goodIn_r _ [24] (by decide +kernel) (by decide +kernel)
set_option maxRecDepth 20000 in
theorem gX9_away_X9_at : GoodIn wsX9_away (va_wsS RX9 155 yX9_at wsX9_at) := goodIn_app (goodIn_of _ (by decide +kernel)) ggX9_away_X9_at
set_option maxRecDepth 20000 in
theorem ggX9_away_X9_ones : GoodIn wsX9_away wsX9_ones := goodIn_r _ [30] (by decide +kernel) (by decide +kernel)
set_option maxRecDepth 20000 in
theorem gX9_away_X9_ones : GoodIn wsX9_away (va_wsS RX9 119 yX9_ones wsX9_ones) := goodIn_app (goodIn_of _ (by decide +kernel)) ggX9_away_X9_ones
set_option maxRecDepth 20000 in
theorem ggX9_away_X9_power : GoodIn wsX9_away wsX9_power := goodIn_r _ [33] (by decide +kernel) (by decide +kernel)
set_option maxRecDepth 20000 in
theorem gX9_away_X9_power : GoodIn wsX9_away (va_wsS RX9 245 yX9_power wsX9_power) := goodIn_app (goodIn_of _ (by decide +kernel)) ggX9_away_X9_power
set_option maxRecDepth 20000 in
theorem ggX9_away_X9_fraction : GoodIn wsX9_away wsX9_fraction := goodIn_r _ [36, 37, 38, 8, 39] (by decide +kernel) (by decide +kernel)
set_option maxRecDepth 20000 in
theorem gX9_away_X9_fraction : GoodIn wsX9_away (va_wsS RX9 236 yX9_fraction wsX9_fraction) := goodIn_app (goodIn_of _ (by decide +kernel)) ggX9_away_X9_fraction
theorem dX9_away_0 : decode cX9_away 0 = .ok (.aload_n 0, 1) := by decide +kernel
theorem dX9_away_1 : decode cX9_away 1 = .ok (.iconst 0, 1) := by decide +kernel
theorem dX9_away_2 : decode cX9_away 2 = .ok (.putfield 60, 3) := by decide +kernel
theorem dX9_away_5 : decode cX9_away 5 = .ok (.aload_n 0, 1) := by decide +kernel
theorem dX9_away_6 : decode cX9_away 6 = .ok (.iload_n 1, 1) := by decide +kernel
theorem dX9_away_7 : decode cX9_away 7 = .ok (.invokevirtual 70, 3) := by decide +kernel
theorem dX9_away_10 : decode cX9_away 10 = .ok (.ifCond .eq 5, 3) := by decide +kernel
theorem dX9_away_13 : decode cX9_away 13 = .ok (.iconst (-1), 1) := by decide +kernel
theorem dX9_away_14 : decode cX9_away 14 = .ok (.ireturn, 1) := by decide +kernel
theorem dX9_away_15 : decode cX9_away 15 = .ok (.iload_n 2, 1) := by decide +kernel
theorem dX9_away_16 : decode cX9_away 16 = .ok (.i2l, 1) := by decide +kernel
theorem dX9_away_17 : decode cX9_away 17 = .ok (.lconst 0, 1) := by decide +kernel
theorem dX9_away_18 : decode cX9_away 18 = .ok (.ldc2_w 183, 3) := by decide +kernel
theorem dX9_away_21 : decode cX9_away 21 = .ok (.invokestatic 66, 3) := by decide +kernel
theorem dX9_away_24 : decode cX9_away 24 = .ok (.ifCond .eq 15, 3) := by decide +kernel
theorem dX9_away_27 : decode cX9_away 27 = .ok (.iload_n 3, 1) := by decide +kernel
theorem dX9_away_28 : decode cX9_away 28 = .ok (.i2l, 1) := by decide +kernel
theorem dX9_away_29 : decode cX9_away 29 = .ok (.lconst 0, 1) := by decide +kernel
theorem dX9_away_30 : decode cX9_away 30 = .ok (.ldc2_w 240, 3) := by decide +kernel
theorem dX9_away_33 : decode cX9_away 33 = .ok (.invokestatic 66, 3) := by decide +kernel
theorem dX9_away_36 : decode cX9_away 36 = .ok (.ifCond .ne 6, 3) := by decide +kernel
theorem dX9_away_39 : decode cX9_away 39 = .ok (.bipush (-2), 2) := by decide +kernel
theorem dX9_away_41 : decode cX9_away 41 = .ok (.ireturn, 1) := by decide +kernel
theorem dX9_away_42 : decode cX9_away 42 = .ok (.iconst 0, 1) := by decide +kernel
theorem dX9_away_43 : decode cX9_away 43 = .ok (.istore 5, 2) := by decide +kernel
theorem dX9_away_45 : decode cX9_away 45 = .ok (.aload_n 0, 1) := by decide +kernel
theorem dX9_away_46 : decode cX9_away 46 = .ok (.iload_n 1, 1) := by decide +kernel
theorem dX9_away_47 : decode cX9_away 47 = .ok (.iload 5, 2) := by decide +kernel
theorem dX9_away_49 : decode cX9_away 49 = .ok (.invokevirtual 242, 3) := by decide +kernel
theorem dX9_away_52 : decode cX9_away 52 = .ok (.bipush (-9), 2) := by decide +kernel
theorem dX9_away_54 : decode cX9_away 54 = .ok (.if_icmp .eq 9, 3) := by decide +kernel
theorem dX9_away_57 : decode cX9_away 57 = .ok (.iinc 5 1, 3) := by decide +kernel
theorem dX9_away_60 : decode cX9_away 60 = .ok (.goto (-15), 3) := by decide +kernel
theorem dX9_away_63 : decode cX9_away 63 = .ok (.iconst 0, 1) := by decide +kernel
theorem dX9_away_64 : decode cX9_away 64 = .ok (.istore 6, 2) := by decide +kernel
theorem dX9_away_66 : decode cX9_away 66 = .ok (.iconst 0, 1) := by decide +kernel
theorem dX9_away_67 : decode cX9_away 67 = .ok (.istore 7, 2) := by decide +kernel
theorem dX9_away_69 : decode cX9_away 69 = .ok (.iload 7, 2) := by decide +kernel
theorem dX9_away_71 : decode cX9_away 71 = .ok (.iconst 1, 1) := by decide +kernel
theorem dX9_away_72 : decode cX9_away 72 = .ok (.iload 5, 2) := by decide +kernel
theorem dX9_away_74 : decode cX9_away 74 = .ok (.ishl, 1) := by decide +kernel
theorem dX9_away_75 : decode cX9_away 75 = .ok (.if_icmp .ge 104, 3) := by decide +kernel
theorem dX9_away_78 : decode cX9_away 78 = .ok (.iconst 0, 1) := by decide +kernel
theorem dX9_away_79 : decode cX9_away 79 = .ok (.istore 8, 2) := by decide +kernel
theorem dX9_away_81 : decode cX9_away 81 = .ok (.iconst 0, 1) := by decide +kernel
theorem dX9_away_82 : decode cX9_away 82 = .ok (.istore 9, 2) := by decide +kernel
theorem dX9_away_84 : decode cX9_away 84 = .ok (.iload 9, 2) := by decide +kernel
theorem dX9_away_86 : decode cX9_away 86 = .ok (.iload 5, 2) := by decide +kernel
theorem dX9_away_88 : decode cX9_away 88 = .ok (.if_icmp .ge 45, 3) := by decide +kernel
theorem dX9_away_91 : decode cX9_away 91 = .ok (.iload 8, 2) := by decide +kernel
theorem dX9_away_93 : decode cX9_away 93 = .ok (.iload 7, 2) := by decide +kernel
theorem dX9_away_95 : decode cX9_away 95 = .ok (.iload 9, 2) := by decide +kernel
theorem dX9_away_97 : decode cX9_away 97 = .ok (.invokestatic 140, 3) := by decide +kernel
theorem dX9_away_100 : decode cX9_away 100 = .ok (.ifCond .eq 23, 3) := by decide +kernel
theorem dX9_away_103 : decode cX9_away 103 = .ok (.aload_n 0, 1) := by decide +kernel
theorem dX9_away_104 : decode cX9_away 104 = .ok (.getfield 35, 3) := by decide +kernel
theorem dX9_away_107 : decode cX9_away 107 = .ok (.aload_n 0, 1) := by decide +kernel
theorem dX9_away_108 : decode cX9_away 108 = .ok (.iload_n 1, 1) := by decide +kernel
theorem dX9_away_109 : decode cX9_away 109 = .ok (.iload 9, 2) := by decide +kernel
theorem dX9_away_111 : decode cX9_away 111 = .ok (.invokevirtual 242, 3) := by decide +kernel
theorem dX9_away_114 : decode cX9_away 114 = .ok (.invokestatic 155, 3) := by decide +kernel
theorem dX9_away_117 : decode cX9_away 117 = .ok (.iconst 0, 1) := by decide +kernel
theorem dX9_away_118 : decode cX9_away 118 = .ok (.iadd, 1) := by decide +kernel
theorem dX9_away_119 : decode cX9_away 119 = .ok (.iaload, 1) := by decide +kernel
theorem dX9_away_120 : decode cX9_away 120 = .ok (.goto 4, 3) := by decide +kernel
theorem dX9_away_123 : decode cX9_away 123 = .ok (.iconst 0, 1) := by decide +kernel
theorem dX9_away_124 : decode cX9_away 124 = .ok (.iadd, 1) := by decide +kernel
theorem dX9_away_125 : decode cX9_away 125 = .ok (.istore 8, 2) := by decide +kernel
theorem dX9_away_127 : decode cX9_away 127 = .ok (.iinc 9 1, 3) := by decide +kernel
theorem dX9_away_130 : decode cX9_away 130 = .ok (.goto (-46), 3) := by decide +kernel
theorem dX9_away_133 : decode cX9_away 133 = .ok (.iload 6, 2) := by decide +kernel
theorem dX9_away_135 : decode cX9_away 135 = .ok (.iload 8, 2) := by decide +kernel
theorem dX9_away_137 : decode cX9_away 137 = .ok (.iload_n 2, 1) := by decide +kernel
theorem dX9_away_138 : decode cX9_away 138 = .ok (.if_icmp .lt 31, 3) := by decide +kernel
theorem dX9_away_141 : decode cX9_away 141 = .ok (.bipush 10, 2) := by decide +kernel
theorem dX9_away_143 : decode cX9_away 143 = .ok (.iload_n 3, 1) := by decide +kernel
theorem dX9_away_144 : decode cX9_away 144 = .ok (.isub, 1) := by decide +kernel
theorem dX9_away_145 : decode cX9_away 145 = .ok (.iload 7, 2) := by decide +kernel
theorem dX9_away_147 : decode cX9_away 147 = .ok (.invokestatic 119, 3) := by decide +kernel
theorem dX9_away_150 : decode cX9_away 150 = .ok (.invokestatic 245, 3) := by decide +kernel
theorem dX9_away_153 : decode cX9_away 153 = .ok (.iload_n 3, 1) := by decide +kernel
theorem dX9_away_154 : decode cX9_away 154 = .ok (.iload 5, 2) := by decide +kernel
theorem dX9_away_156 : decode cX9_away 156 = .ok (.iload 7, 2) := by decide +kernel
theorem dX9_away_158 : decode cX9_away 158 = .ok (.invokestatic 119, 3) := by decide +kernel
theorem dX9_away_161 : decode cX9_away 161 = .ok (.isub, 1) := by decide +kernel
theorem dX9_away_162 : decode cX9_away 162 = .ok (.invokestatic 245, 3) := by decide +kernel
theorem dX9_away_165 : decode cX9_away 165 = .ok (.imul, 1) := by decide +kernel
theorem dX9_away_166 : decode cX9_away 166 = .ok (.goto 4, 3) := by decide +kernel
theorem dX9_away_169 : decode cX9_away 169 = .ok (.iconst 0, 1) := by decide +kernel
