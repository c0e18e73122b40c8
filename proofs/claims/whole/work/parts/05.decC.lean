theorem dX10_init_0 : decode cX10_init 0 = .ok (.aload_n 0, 1) := by decide +kernel
theorem dX10_init_1 : decode cX10_init 1 = .ok (.invokespecial 1, 3) := by decide +kernel
theorem dX10_init_4 : decode cX10_init 4 = .ok (.aload_n 0, 1) := by decide +kernel
theorem dX10_init_5 : decode cX10_init 5 = .ok (.bipush 12, 2) := by decide +kernel
theorem dX10_init_7 : decode cX10_init 7 = .ok (.newarray .int, 2) := by decide +kernel
theorem dX10_init_9 : decode cX10_init 9 = .ok (.putfield 7, 3) := by decide +kernel
theorem dX10_init_12 : decode cX10_init 12 = .ok (.aload_n 0, 1) := by decide +kernel
theorem dX10_init_13 : decode cX10_init 13 = .ok (.bipush 12, 2) := by decide +kernel
theorem dX10_init_15 : decode cX10_init 15 = .ok (.newarray .int, 2) := by decide +kernel
theorem dX10_init_17 : decode cX10_init 17 = .ok (.putfield 13, 3) := by decide +kernel
theorem dX10_init_20 : decode cX10_init 20 = .ok (.aload_n 0, 1) := by decide +kernel
theorem dX10_init_21 : decode cX10_init 21 = .ok (.bipush 60, 2) := by decide +kernel
theorem dX10_init_23 : decode cX10_init 23 = .ok (.newarray .int, 2) := by decide +kernel
theorem dX10_init_25 : decode cX10_init 25 = .ok (.putfield 16, 3) := by decide +kernel
theorem dX10_init_28 : decode cX10_init 28 = .ok (.aload_n 0, 1) := by decide +kernel
theorem dX10_init_29 : decode cX10_init 29 = .ok (.bipush 100, 2) := by decide +kernel
theorem dX10_init_31 : decode cX10_init 31 = .ok (.newarray .int, 2) := by decide +kernel
theorem dX10_init_33 : decode cX10_init 33 = .ok (.putfield 19, 3) := by decide +kernel
theorem dX10_init_36 : decode cX10_init 36 = .ok (.aload_n 0, 1) := by decide +kernel
theorem dX10_init_37 : decode cX10_init 37 = .ok (.bipush 100, 2) := by decide +kernel
theorem dX10_init_39 : decode cX10_init 39 = .ok (.newarray .int, 2) := by decide +kernel
theorem dX10_init_41 : decode cX10_init 41 = .ok (.putfield 22, 3) := by decide +kernel
theorem dX10_init_44 : decode cX10_init 44 = .ok (.aload_n 0, 1) := by decide +kernel
theorem dX10_init_45 : decode cX10_init 45 = .ok (.bipush 100, 2) := by decide +kernel
theorem dX10_init_47 : decode cX10_init 47 = .ok (.newarray .int, 2) := by decide +kernel
theorem dX10_init_49 : decode cX10_init 49 = .ok (.putfield 25, 3) := by decide +kernel
theorem dX10_init_52 : decode cX10_init 52 = .ok (.aload_n 0, 1) := by decide +kernel
theorem dX10_init_53 : decode cX10_init 53 = .ok (.bipush 100, 2) := by decide +kernel
theorem dX10_init_55 : decode cX10_init 55 = .ok (.newarray .int, 2) := by decide +kernel
theorem dX10_init_57 : decode cX10_init 57 = .ok (.putfield 28, 3) := by decide +kernel
theorem dX10_init_60 : decode cX10_init 60 = .ok (.aload_n 0, 1) := by decide +kernel
theorem dX10_init_61 : decode cX10_init 61 = .ok (.bipush 100, 2) := by decide +kernel
theorem dX10_init_63 : decode cX10_init 63 = .ok (.newarray .int, 2) := by decide +kernel
theorem dX10_init_65 : decode cX10_init 65 = .ok (.putfield 31, 3) := by decide +kernel
theorem dX10_init_68 : decode cX10_init 68 = .ok (.aload_n 0, 1) := by decide +kernel
theorem dX10_init_69 : decode cX10_init 69 = .ok (.bipush 100, 2) := by decide +kernel
theorem dX10_init_71 : decode cX10_init 71 = .ok (.newarray .int, 2) := by decide +kernel
theorem dX10_init_73 : decode cX10_init 73 = .ok (.putfield 34, 3) := by decide +kernel
theorem dX10_init_76 : decode cX10_init 76 = .ok (.aload_n 0, 1) := by decide +kernel
theorem dX10_init_77 : decode cX10_init 77 = .ok (.bipush 100, 2) := by decide +kernel
theorem dX10_init_79 : decode cX10_init 79 = .ok (.newarray .int, 2) := by decide +kernel
theorem dX10_init_81 : decode cX10_init 81 = .ok (.putfield 37, 3) := by decide +kernel
theorem dX10_init_84 : decode cX10_init 84 = .ok (.aload_n 0, 1) := by decide +kernel
theorem dX10_init_85 : decode cX10_init 85 = .ok (.sipush 800, 3) := by decide +kernel
theorem dX10_init_88 : decode cX10_init 88 = .ok (.newarray .int, 2) := by decide +kernel
theorem dX10_init_90 : decode cX10_init 90 = .ok (.putfield 40, 3) := by decide +kernel
theorem dX10_init_93 : decode cX10_init 93 = .ok (.aload_n 0, 1) := by decide +kernel
theorem dX10_init_94 : decode cX10_init 94 = .ok (.sipush 800, 3) := by decide +kernel
theorem dX10_init_97 : decode cX10_init 97 = .ok (.newarray .int, 2) := by decide +kernel
theorem dX10_init_99 : decode cX10_init 99 = .ok (.putfield 43, 3) := by decide +kernel
theorem dX10_init_102 : decode cX10_init 102 = .ok (.aload_n 0, 1) := by decide +kernel
theorem dX10_init_103 : decode cX10_init 103 = .ok (.bipush 40, 2) := by decide +kernel
theorem dX10_init_105 : decode cX10_init 105 = .ok (.newarray .int, 2) := by decide +kernel
theorem dX10_init_107 : decode cX10_init 107 = .ok (.putfield 46, 3) := by decide +kernel
theorem dX10_init_110 : decode cX10_init 110 = .ok (.aload_n 0, 1) := by decide +kernel
theorem dX10_init_111 : decode cX10_init 111 = .ok (.bipush 40, 2) := by decide +kernel
theorem dX10_init_113 : decode cX10_init 113 = .ok (.newarray .int, 2) := by decide +kernel
theorem dX10_init_115 : decode cX10_init 115 = .ok (.putfield 49, 3) := by decide +kernel
theorem dX10_init_118 : decode cX10_init 118 = .ok (.aload_n 0, 1) := by decide +kernel
theorem dX10_init_119 : decode cX10_init 119 = .ok (.bipush 40, 2) := by decide +kernel
theorem dX10_init_121 : decode cX10_init 121 = .ok (.newarray .int, 2) := by decide +kernel
theorem dX10_init_123 : decode cX10_init 123 = .ok (.putfield 52, 3) := by decide +kernel
theorem dX10_init_126 : decode cX10_init 126 = .ok (.aload_n 0, 1) := by decide +kernel
theorem dX10_init_127 : decode cX10_init 127 = .ok (.bipush 40, 2) := by decide +kernel
theorem dX10_init_129 : decode cX10_init 129 = .ok (.newarray .int, 2) := by decide +kernel
theorem dX10_init_131 : decode cX10_init 131 = .ok (.putfield 55, 3) := by decide +kernel
theorem dX10_init_134 : decode cX10_init 134 = .ok (.aload_n 0, 1) := by decide +kernel
theorem dX10_init_135 : decode cX10_init 135 = .ok (.bipush 40, 2) := by decide +kernel
theorem dX10_init_137 : decode cX10_init 137 = .ok (.newarray .int, 2) := by decide +kernel
theorem dX10_init_139 : decode cX10_init 139 = .ok (.putfield 58, 3) := by decide +kernel
theorem dX10_init_142 : decode cX10_init 142 = .ok (.aload_n 0, 1) := by decide +kernel
theorem dX10_init_143 : decode cX10_init 143 = .ok (.bipush 40, 2) := by decide +kernel
theorem dX10_init_145 : decode cX10_init 145 = .ok (.newarray .int, 2) := by decide +kernel
theorem dX10_init_147 : decode cX10_init 147 = .ok (.putfield 61, 3) := by decide +kernel
theorem dX10_init_150 : decode cX10_init 150 = .ok (.aload_n 0, 1) := by decide +kernel
theorem dX10_init_151 : decode cX10_init 151 = .ok (.bipush 40, 2) := by decide +kernel
theorem dX10_init_153 : decode cX10_init 153 = .ok (.newarray .int, 2) := by decide +kernel
theorem dX10_init_155 : decode cX10_init 155 = .ok (.putfield 64, 3) := by decide +kernel
theorem dX10_init_158 : decode cX10_init 158 = .ok (.aload_n 0, 1) := by decide +kernel
theorem dX10_init_159 : decode cX10_init 159 = .ok (.bipush 40, 2) := by decide +kernel
theorem dX10_init_161 : decode cX10_init 161 = .ok (.newarray .int, 2) := by decide +kernel
theorem dX10_init_163 : decode cX10_init 163 = .ok (.putfield 67, 3) := by decide +kernel
theorem dX10_init_166 : decode cX10_init 166 = .ok (.aload_n 0, 1) := by decide +kernel
theorem dX10_init_167 : decode cX10_init 167 = .ok (.bipush 60, 2) := by decide +kernel
theorem dX10_init_169 : decode cX10_init 169 = .ok (.newarray .int, 2) := by decide +kernel
theorem dX10_init_171 : decode cX10_init 171 = .ok (.putfield 70, 3) := by decide +kernel
theorem dX10_init_174 : decode cX10_init 174 = .ok (.aload_n 0, 1) := by decide +kernel
theorem dX10_init_175 : decode cX10_init 175 = .ok (.bipush 60, 2) := by decide +kernel
theorem dX10_init_177 : decode cX10_init 177 = .ok (.newarray .int, 2) := by decide +kernel
theorem dX10_init_179 : decode cX10_init 179 = .ok (.putfield 73, 3) := by decide +kernel
theorem dX10_init_182 : decode cX10_init 182 = .ok (.aload_n 0, 1) := by decide +kernel
theorem dX10_init_183 : decode cX10_init 183 = .ok (.bipush 60, 2) := by decide +kernel
theorem dX10_init_185 : decode cX10_init 185 = .ok (.newarray .int, 2) := by decide +kernel
theorem dX10_init_187 : decode cX10_init 187 = .ok (.putfield 76, 3) := by decide +kernel
theorem dX10_init_190 : decode cX10_init 190 = .ok (.aload_n 0, 1) := by decide +kernel
theorem dX10_init_191 : decode cX10_init 191 = .ok (.bipush 60, 2) := by decide +kernel
theorem dX10_init_193 : decode cX10_init 193 = .ok (.newarray .int, 2) := by decide +kernel
theorem dX10_init_195 : decode cX10_init 195 = .ok (.putfield 79, 3) := by decide +kernel
theorem dX10_init_198 : decode cX10_init 198 = .ok (.aload_n 0, 1) := by decide +kernel
theorem dX10_init_199 : decode cX10_init 199 = .ok (.bipush 60, 2) := by decide +kernel
theorem dX10_init_201 : decode cX10_init 201 = .ok (.newarray .int, 2) := by decide +kernel
theorem dX10_init_203 : decode cX10_init 203 = .ok (.putfield 82, 3) := by decide +kernel
theorem dX10_init_206 : decode cX10_init 206 = .ok (.aload_n 0, 1) := by decide +kernel
theorem dX10_init_207 : decode cX10_init 207 = .ok (.bipush 60, 2) := by decide +kernel
theorem dX10_init_209 : decode cX10_init 209 = .ok (.newarray .int, 2) := by decide +kernel
theorem dX10_init_211 : decode cX10_init 211 = .ok (.putfield 85, 3) := by decide +kernel
theorem dX10_init_214 : decode cX10_init 214 = .ok (.aload_n 0, 1) := by decide +kernel
theorem dX10_init_215 : decode cX10_init 215 = .ok (.bipush 100, 2) := by decide +kernel
theorem dX10_init_217 : decode cX10_init 217 = .ok (.newarray .int, 2) := by decide +kernel
theorem dX10_init_219 : decode cX10_init 219 = .ok (.putfield 88, 3) := by decide +kernel
theorem dX10_init_222 : decode cX10_init 222 = .ok (.aload_n 0, 1) := by decide +kernel
theorem dX10_init_223 : decode cX10_init 223 = .ok (.bipush 100, 2) := by decide +kernel
theorem dX10_init_225 : decode cX10_init 225 = .ok (.newarray .int, 2) := by decide +kernel
theorem dX10_init_227 : decode cX10_init 227 = .ok (.putfield 91, 3) := by decide +kernel
theorem dX10_init_230 : decode cX10_init 230 = .ok (.aload_n 0, 1) := by decide +kernel
theorem dX10_init_231 : decode cX10_init 231 = .ok (.bipush 12, 2) := by decide +kernel
theorem dX10_init_233 : decode cX10_init 233 = .ok (.newarray .int, 2) := by decide +kernel
theorem dX10_init_235 : decode cX10_init 235 = .ok (.putfield 94, 3) := by decide +kernel
theorem dX10_init_238 : decode cX10_init 238 = .ok (.aload_n 0, 1) := by decide +kernel
theorem dX10_init_239 : decode cX10_init 239 = .ok (.bipush 10, 2) := by decide +kernel
theorem dX10_init_241 : decode cX10_init 241 = .ok (.newarray .int, 2) := by decide +kernel
theorem dX10_init_243 : decode cX10_init 243 = .ok (.putfield 97, 3) := by decide +kernel
theorem dX10_init_246 : decode cX10_init 246 = .ok (.aload_n 0, 1) := by decide +kernel
theorem dX10_init_247 : decode cX10_init 247 = .ok (.bipush 10, 2) := by decide +kernel
theorem dX10_init_249 : decode cX10_init 249 = .ok (.newarray .long, 2) := by decide +kernel
theorem dX10_init_251 : decode cX10_init 251 = .ok (.putfield 100, 3) := by decide +kernel
theorem dX10_init_254 : decode cX10_init 254 = .ok (.return_, 1) := by decide +kernel
theorem dX10_isIn_0 : decode cX10_isIn 0 = .ok (.iload_n 0, 1) := by decide +kernel
theorem dX10_isIn_1 : decode cX10_isIn 1 = .ok (.iload_n 1, 1) := by decide +kernel
theorem dX10_isIn_2 : decode cX10_isIn 2 = .ok (.if_icmp .lt 12, 3) := by decide +kernel
theorem dX10_isIn_5 : decode cX10_isIn 5 = .ok (.iload_n 0, 1) := by decide +kernel
theorem dX10_isIn_6 : decode cX10_isIn 6 = .ok (.iload_n 2, 1) := by decide +kernel
theorem dX10_isIn_7 : decode cX10_isIn 7 = .ok (.if_icmp .gt 7, 3) := by decide +kernel
theorem dX10_isIn_10 : decode cX10_isIn 10 = .ok (.iconst 1, 1) := by decide +kernel
theorem dX10_isIn_11 : decode cX10_isIn 11 = .ok (.goto 4, 3) := by decide +kernel
theorem dX10_isIn_14 : decode cX10_isIn 14 = .ok (.iconst 0, 1) := by decide +kernel
theorem dX10_isIn_15 : decode cX10_isIn 15 = .ok (.ireturn, 1) := by decide +kernel
set_option maxRecDepth 20000 in
theorem ggX10_isHouse_X10_isIn : GoodIn wsX10_isHouse wsX10_isIn := goodIn_r _ [4] (by decide +kernel) (by decide +kernel)
set_option maxRecDepth 20000 in
theorem gX10_isHouse_X10_isIn : GoodIn wsX10_isHouse (va_wsS RX10 104 yX10_isIn wsX10_isIn) := goodIn_app (goodIn_of _ (by decide +kernel)) ggX10_isHouse_X10_isIn
theorem dX10_isHouse_0 : decode cX10_isHouse 0 = .ok (.iload_n 0, 1) := by decide +kernel
theorem dX10_isHouse_1 : decode cX10_isHouse 1 = .ok (.iconst 0, 1) := by decide +kernel
theorem dX10_isHouse_2 : decode cX10_isHouse 2 = .ok (.bipush 9, 2) := by decide +kernel
theorem dX10_isHouse_4 : decode cX10_isHouse 4 = .ok (.invokestatic 104, 3) := by decide +kernel
theorem dX10_isHouse_7 : decode cX10_isHouse 7 = .ok (.ireturn, 1) := by decide +kernel
set_option maxRecDepth 20000 in
theorem ggX10_isYear_X10_isIn : GoodIn wsX10_isYear wsX10_isIn := goodIn_r _ [4] (by decide +kernel) (by decide +kernel)
set_option maxRecDepth 20000 in
theorem gX10_isYear_X10_isIn : GoodIn wsX10_isYear (va_wsS RX10 104 yX10_isIn wsX10_isIn) := goodIn_app (goodIn_of _ (by decide +kernel)) ggX10_isYear_X10_isIn
theorem dX10_isYear_0 : decode cX10_isYear 0 = .ok (.iload_n 0, 1) := by decide +kernel
theorem dX10_isYear_1 : decode cX10_isYear 1 = .ok (.iconst 0, 1) := by decide +kernel
theorem dX10_isYear_2 : decode cX10_isYear 2 = .ok (.bipush 30, 2) := by decide +kernel
theorem dX10_isYear_4 : decode cX10_isYear 4 = .ok (.invokestatic 104, 3) := by decide +kernel
theorem dX10_isYear_7 : decode cX10_isYear 7 = .ok (.ireturn, 1) := by decide +kernel
set_option maxRecDepth 20000 in
theorem ggX10_isDay_X10_isIn : GoodIn wsX10_isDay wsX10_isIn := goodIn_r _ [5] (by decide +kernel) (by decide +kernel)
set_option maxRecDepth 20000 in
theorem gX10_isDay_X10_isIn : GoodIn wsX10_isDay (va_wsS RX10 104 yX10_isIn wsX10_isIn) := goodIn_app (goodIn_of _ (by decide +kernel)) ggX10_isDay_X10_isIn
theorem dX10_isDay_0 : decode cX10_isDay 0 = .ok (.iload_n 0, 1) := by decide +kernel
theorem dX10_isDay_1 : decode cX10_isDay 1 = .ok (.iconst 0, 1) := by decide +kernel
theorem dX10_isDay_2 : decode cX10_isDay 2 = .ok (.ldc 108, 2) := by decide +kernel
theorem dX10_isDay_4 : decode cX10_isDay 4 = .ok (.invokestatic 104, 3) := by decide +kernel
theorem dX10_isDay_7 : decode cX10_isDay 7 = .ok (.ireturn, 1) := by decide +kernel
set_option maxRecDepth 20000 in
theorem ggX10_isLine_X10_isIn : GoodIn wsX10_isLine wsX10_isIn := goodIn_r _ [5] (by decide +kernel) (by decide +kernel)
set_option maxRecDepth 20000 in
theorem gX10_isLine_X10_isIn : GoodIn wsX10_isLine (va_wsS RX10 104 yX10_isIn wsX10_isIn) := goodIn_app (goodIn_of _ (by decide +kernel)) ggX10_isLine_X10_isIn
theorem dX10_isLine_0 : decode cX10_isLine 0 = .ok (.iload_n 1, 1) := by decide +kernel
theorem dX10_isLine_1 : decode cX10_isLine 1 = .ok (.iconst 0, 1) := by decide +kernel
theorem dX10_isLine_2 : decode cX10_isLine 2 = .ok (.aload_n 0, 1) := by decide +kernel
theorem dX10_isLine_3 : decode cX10_isLine 3 = .ok (.getfield 109, 3) := by decide +kernel
theorem dX10_isLine_6 : decode cX10_isLine 6 = .ok (.iconst 1, 1) := by decide +kernel
theorem dX10_isLine_7 : decode cX10_isLine 7 = .ok (.isub, 1) := by decide +kernel
theorem dX10_isLine_8 : decode cX10_isLine 8 = .ok (.invokestatic 104, 3) := by decide +kernel
theorem dX10_isLine_11 : decode cX10_isLine 11 = .ok (.ireturn, 1) := by decide +kernel
set_option maxRecDepth 20000 in
theorem ggX10_days_X10_isIn : GoodIn wsX10_days wsX10_isIn := goodIn_r _ [7] (by decide +kernel) (by decide +kernel)
set_option maxRecDepth 20000 in
theorem gX10_days_X10_isIn : GoodIn wsX10_days (va_wsS RX10 104 yX10_isIn wsX10_isIn) := goodIn_app (goodIn_of _ (by decide +kernel)) ggX10_days_X10_isIn
theorem dX10_days_0 : decode cX10_days 0 = .ok (.iload_n 1, 1) := by decide +kernel
theorem dX10_days_1 : decode cX10_days 1 = .ok (.iconst 0, 1) := by decide +kernel
theorem dX10_days_2 : decode cX10_days 2 = .ok (.sipush 1000, 3) := by decide +kernel
theorem dX10_days_5 : decode cX10_days 5 = .ok (.invokestatic 104, 3) := by decide +kernel
theorem dX10_days_8 : decode cX10_days 8 = .ok (.ifCond .eq 14, 3) := by decide +kernel
theorem dX10_days_11 : decode cX10_days 11 = .ok (.aload_n 0, 1) := by decide +kernel
theorem dX10_days_12 : decode cX10_days 12 = .ok (.getfield 113, 3) := by decide +kernel
theorem dX10_days_15 : decode cX10_days 15 = .ok (.iload_n 1, 1) := by decide +kernel
theorem dX10_days_16 : decode cX10_days 16 = .ok (.iadd, 1) := by decide +kernel
theorem dX10_days_17 : decode cX10_days 17 = .ok (.ldc 108, 2) := by decide +kernel
theorem dX10_days_19 : decode cX10_days 19 = .ok (.if_icmp .le 6, 3) := by decide +kernel
theorem dX10_days_22 : decode cX10_days 22 = .ok (.ldc 116, 2) := by decide +kernel
theorem dX10_days_24 : decode cX10_days 24 = .ok (.ireturn, 1) := by decide +kernel
theorem dX10_days_25 : decode cX10_days 25 = .ok (.aload_n 0, 1) := by decide +kernel
theorem dX10_days_26 : decode cX10_days 26 = .ok (.dup, 1) := by decide +kernel
theorem dX10_days_27 : decode cX10_days 27 = .ok (.getfield 113, 3) := by decide +kernel
theorem dX10_days_30 : decode cX10_days 30 = .ok (.iload_n 1, 1) := by decide +kernel
theorem dX10_days_31 : decode cX10_days 31 = .ok (.iadd, 1) := by decide +kernel
theorem dX10_days_32 : decode cX10_days 32 = .ok (.putfield 113, 3) := by decide +kernel
theorem dX10_days_35 : decode cX10_days 35 = .ok (.aload_n 0, 1) := by decide +kernel
theorem dX10_days_36 : decode cX10_days 36 = .ok (.getfield 113, 3) := by decide +kernel
theorem dX10_days_39 : decode cX10_days 39 = .ok (.ireturn, 1) := by decide +kernel
set_option maxRecDepth 20000 in
theorem ggX10_measure_X10_isIn : GoodIn wsX10_measure wsX10_isIn := goodIn_r _ [7] (by decide +kernel) (by decide +kernel)
set_option maxRecDepth 20000 in
theorem gX10_measure_X10_isIn : GoodIn wsX10_measure (va_wsS RX10 104 yX10_isIn wsX10_isIn) := goodIn_app (goodIn_of _ (by decide +kernel)) ggX10_measure_X10_isIn
theorem dX10_measure_0 : decode cX10_measure 0 = .ok (.iload_n 1, 1) := by decide +kernel
theorem dX10_measure_1 : decode cX10_measure 1 = .ok (.iconst 0, 1) := by decide +kernel
theorem dX10_measure_2 : decode cX10_measure 2 = .ok (.bipush 11, 2) := by decide +kernel
theorem dX10_measure_4 : decode cX10_measure 4 = .ok (.invokestatic 104, 3) := by decide +kernel
theorem dX10_measure_7 : decode cX10_measure 7 = .ok (.ifCond .eq 23, 3) := by decide +kernel
theorem dX10_measure_10 : decode cX10_measure 10 = .ok (.iload_n 2, 1) := by decide +kernel
theorem dX10_measure_11 : decode cX10_measure 11 = .ok (.iconst 1, 1) := by decide +kernel
theorem dX10_measure_12 : decode cX10_measure 12 = .ok (.sipush 2000, 3) := by decide +kernel
theorem dX10_measure_15 : decode cX10_measure 15 = .ok (.invokestatic 104, 3) := by decide +kernel
theorem dX10_measure_18 : decode cX10_measure 18 = .ok (.ifCond .eq 12, 3) := by decide +kernel
theorem dX10_measure_21 : decode cX10_measure 21 = .ok (.iload_n 3, 1) := by decide +kernel
theorem dX10_measure_22 : decode cX10_measure 22 = .ok (.iconst 0, 1) := by decide +kernel
theorem dX10_measure_23 : decode cX10_measure 23 = .ok (.iconst 2, 1) := by decide +kernel
theorem dX10_measure_24 : decode cX10_measure 24 = .ok (.invokestatic 104, 3) := by decide +kernel
theorem dX10_measure_27 : decode cX10_measure 27 = .ok (.ifCond .ne 6, 3) := by decide +kernel
theorem dX10_measure_30 : decode cX10_measure 30 = .ok (.ldc 116, 2) := by decide +kernel
theorem dX10_measure_32 : decode cX10_measure 32 = .ok (.ireturn, 1) := by decide +kernel
theorem dX10_measure_33 : decode cX10_measure 33 = .ok (.aload_n 0, 1) := by decide +kernel
theorem dX10_measure_34 : decode cX10_measure 34 = .ok (.getfield 7, 3) := by decide +kernel
theorem dX10_measure_37 : decode cX10_measure 37 = .ok (.iload_n 1, 1) := by decide +kernel
theorem dX10_measure_38 : decode cX10_measure 38 = .ok (.iaload, 1) := by decide +kernel
theorem dX10_measure_39 : decode cX10_measure 39 = .ok (.istore 4, 2) := by decide +kernel
theorem dX10_measure_41 : decode cX10_measure 41 = .ok (.aload_n 0, 1) := by decide +kernel
theorem dX10_measure_42 : decode cX10_measure 42 = .ok (.getfield 7, 3) := by decide +kernel
theorem dX10_measure_45 : decode cX10_measure 45 = .ok (.iload_n 1, 1) := by decide +kernel
theorem dX10_measure_46 : decode cX10_measure 46 = .ok (.iload_n 2, 1) := by decide +kernel
theorem dX10_measure_47 : decode cX10_measure 47 = .ok (.iastore, 1) := by decide +kernel
theorem dX10_measure_48 : decode cX10_measure 48 = .ok (.aload_n 0, 1) := by decide +kernel
theorem dX10_measure_49 : decode cX10_measure 49 = .ok (.getfield 13, 3) := by decide +kernel
theorem dX10_measure_52 : decode cX10_measure 52 = .ok (.iload_n 1, 1) := by decide +kernel
theorem dX10_measure_53 : decode cX10_measure 53 = .ok (.iload_n 3, 1) := by decide +kernel
theorem dX10_measure_54 : decode cX10_measure 54 = .ok (.iastore, 1) := by decide +kernel
theorem dX10_measure_55 : decode cX10_measure 55 = .ok (.iload 4, 2) := by decide +kernel
theorem dX10_measure_57 : decode cX10_measure 57 = .ok (.ireturn, 1) := by decide +kernel
theorem dX10_four_0 : decode cX10_four 0 = .ok (.bipush 24, 2) := by decide +kernel
theorem dX10_four_2 : decode cX10_four 2 = .ok (.istore_n 2, 1) := by decide +kernel
theorem dX10_four_3 : decode cX10_four 3 = .ok (.iload_n 2, 1) := by decide +kernel
theorem dX10_four_4 : decode cX10_four 4 = .ok (.ifCond .lt 35, 3) := by decide +kernel
theorem dX10_four_7 : decode cX10_four 7 = .ok (.aload_n 0, 1) := by decide +kernel
theorem dX10_four_8 : decode cX10_four 8 = .ok (.getfield 16, 3) := by decide +kernel
theorem dX10_four_11 : decode cX10_four 11 = .ok (.aload_n 0, 1) := by decide +kernel
theorem dX10_four_12 : decode cX10_four 12 = .ok (.getfield 117, 3) := by decide +kernel
theorem dX10_four_15 : decode cX10_four 15 = .ok (.iload_n 1, 1) := by decide +kernel
theorem dX10_four_16 : decode cX10_four 16 = .ok (.iload_n 2, 1) := by decide +kernel
theorem dX10_four_17 : decode cX10_four 17 = .ok (.ishr, 1) := by decide +kernel
theorem dX10_four_18 : decode cX10_four 18 = .ok (.sipush 255, 3) := by decide +kernel
theorem dX10_four_21 : decode cX10_four 21 = .ok (.iand, 1) := by decide +kernel
theorem dX10_four_22 : decode cX10_four 22 = .ok (.iastore, 1) := by decide +kernel
theorem dX10_four_23 : decode cX10_four 23 = .ok (.aload_n 0, 1) := by decide +kernel
theorem dX10_four_24 : decode cX10_four 24 = .ok (.dup, 1) := by decide +kernel
theorem dX10_four_25 : decode cX10_four 25 = .ok (.getfield 117, 3) := by decide +kernel
theorem dX10_four_28 : decode cX10_four 28 = .ok (.iconst 1, 1) := by decide +kernel
theorem dX10_four_29 : decode cX10_four 29 = .ok (.iadd, 1) := by decide +kernel
theorem dX10_four_30 : decode cX10_four 30 = .ok (.putfield 117, 3) := by decide +kernel
theorem dX10_four_33 : decode cX10_four 33 = .ok (.iinc 2 (-8), 3) := by decide +kernel
theorem dX10_four_36 : decode cX10_four 36 = .ok (.goto (-33), 3) := by decide +kernel
theorem dX10_four_39 : decode cX10_four 39 = .ok (.return_, 1) := by decide +kernel
set_option maxRecDepth 20000 in
theorem ggX10_feed_X10_four : GoodIn wsX10_feed wsX10_four := goodIn_r _ [7, 8, 1, 9, 10, 11, 12, 13, 14, 15, 16, 17, 18, 19, 20, 21, 22, 23, 24, 25, 26, 27, 28, 29, 30, 31, 32, 33, 34, 35, 36, 37, 38, 39, 40, 41, 42, 43, 44, 45, 46, 47, 48, 49] (by decide +kernel) (by decide +kernel)
set_option maxRecDepth 20000 in
theorem gX10_feed_X10_four : GoodIn wsX10_feed (wsV RX10 121 RX10 yX10_four wsX10_four) := goodIn_app (goodIn_of _ (by decide +kernel)) ggX10_feed_X10_four
theorem dX10_feed_0 : decode cX10_feed 0 = .ok (.aload_n 0, 1) := by decide +kernel
theorem dX10_feed_1 : decode cX10_feed 1 = .ok (.getfield 117, 3) := by decide +kernel
theorem dX10_feed_4 : decode cX10_feed 4 = .ok (.bipush 12, 2) := by decide +kernel
theorem dX10_feed_6 : decode cX10_feed 6 = .ok (.iadd, 1) := by decide +kernel
theorem dX10_feed_7 : decode cX10_feed 7 = .ok (.bipush 60, 2) := by decide +kernel
theorem dX10_feed_9 : decode cX10_feed 9 = .ok (.if_icmp .le 6, 3) := by decide +kernel
theorem dX10_feed_12 : decode cX10_feed 12 = .ok (.ldc 120, 2) := by decide +kernel
theorem dX10_feed_14 : decode cX10_feed 14 = .ok (.ireturn, 1) := by decide +kernel
theorem dX10_feed_15 : decode cX10_feed 15 = .ok (.aload_n 0, 1) := by decide +kernel
theorem dX10_feed_16 : decode cX10_feed 16 = .ok (.iload_n 1, 1) := by decide +kernel
theorem dX10_feed_17 : decode cX10_feed 17 = .ok (.invokevirtual 121, 3) := by decide +kernel
theorem dX10_feed_20 : decode cX10_feed 20 = .ok (.aload_n 0, 1) := by decide +kernel
theorem dX10_feed_21 : decode cX10_feed 21 = .ok (.iload_n 2, 1) := by decide +kernel
theorem dX10_feed_22 : decode cX10_feed 22 = .ok (.invokevirtual 121, 3) := by decide +kernel
theorem dX10_feed_25 : decode cX10_feed 25 = .ok (.aload_n 0, 1) := by decide +kernel
theorem dX10_feed_26 : decode cX10_feed 26 = .ok (.iload_n 3, 1) := by decide +kernel
theorem dX10_feed_27 : decode cX10_feed 27 = .ok (.invokevirtual 121, 3) := by decide +kernel
theorem dX10_feed_30 : decode cX10_feed 30 = .ok (.aload_n 0, 1) := by decide +kernel
theorem dX10_feed_31 : decode cX10_feed 31 = .ok (.getfield 117, 3) := by decide +kernel
theorem dX10_feed_34 : decode cX10_feed 34 = .ok (.ireturn, 1) := by decide +kernel
set_option maxRecDepth 20000 in
theorem ggX10_trim_X10_isIn : GoodIn wsX10_trim wsX10_isIn := goodIn_r _ [6] (by decide +kernel) (by decide +kernel)
set_option maxRecDepth 20000 in
theorem gX10_trim_X10_isIn : GoodIn wsX10_trim (va_wsS RX10 104 yX10_isIn wsX10_isIn) := goodIn_app (goodIn_of _ (by decide +kernel)) ggX10_trim_X10_isIn
theorem dX10_trim_0 : decode cX10_trim 0 = .ok (.iload_n 1, 1) := by decide +kernel
theorem dX10_trim_1 : decode cX10_trim 1 = .ok (.iconst 0, 1) := by decide +kernel
theorem dX10_trim_2 : decode cX10_trim 2 = .ok (.aload_n 0, 1) := by decide +kernel
theorem dX10_trim_3 : decode cX10_trim 3 = .ok (.getfield 117, 3) := by decide +kernel
theorem dX10_trim_6 : decode cX10_trim 6 = .ok (.invokestatic 104, 3) := by decide +kernel
theorem dX10_trim_9 : decode cX10_trim 9 = .ok (.ifCond .ne 6, 3) := by decide +kernel
theorem dX10_trim_12 : decode cX10_trim 12 = .ok (.ldc 116, 2) := by decide +kernel
theorem dX10_trim_14 : decode cX10_trim 14 = .ok (.ireturn, 1) := by decide +kernel
theorem dX10_trim_15 : decode cX10_trim 15 = .ok (.aload_n 0, 1) := by decide +kernel
theorem dX10_trim_16 : decode cX10_trim 16 = .ok (.iload_n 1, 1) := by decide +kernel
theorem dX10_trim_17 : decode cX10_trim 17 = .ok (.putfield 117, 3) := by decide +kernel
theorem dX10_trim_20 : decode cX10_trim 20 = .ok (.iload_n 1, 1) := by decide +kernel
theorem dX10_trim_21 : decode cX10_trim 21 = .ok (.ireturn, 1) := by decide +kernel
theorem dX10_next_0 : decode cX10_next 0 = .ok (.aload_n 0, 1) := by decide +kernel
theorem dX10_next_1 : decode cX10_next 1 = .ok (.getfield 125, 3) := by decide +kernel
theorem dX10_next_4 : decode cX10_next 4 = .ok (.aload_n 0, 1) := by decide +kernel
theorem dX10_next_5 : decode cX10_next 5 = .ok (.getfield 117, 3) := by decide +kernel
theorem dX10_next_8 : decode cX10_next 8 = .ok (.if_icmp .ge 30, 3) := by decide +kernel
theorem dX10_next_11 : decode cX10_next 11 = .ok (.aload_n 0, 1) := by decide +kernel
theorem dX10_next_12 : decode cX10_next 12 = .ok (.getfield 16, 3) := by decide +kernel
theorem dX10_next_15 : decode cX10_next 15 = .ok (.aload_n 0, 1) := by decide +kernel
theorem dX10_next_16 : decode cX10_next 16 = .ok (.getfield 125, 3) := by decide +kernel
theorem dX10_next_19 : decode cX10_next 19 = .ok (.iaload, 1) := by decide +kernel
theorem dX10_next_20 : decode cX10_next 20 = .ok (.bipush 32, 2) := by decide +kernel
theorem dX10_next_22 : decode cX10_next 22 = .ok (.if_icmp .ne 16, 3) := by decide +kernel
theorem dX10_next_25 : decode cX10_next 25 = .ok (.aload_n 0, 1) := by decide +kernel
theorem dX10_next_26 : decode cX10_next 26 = .ok (.dup, 1) := by decide +kernel
theorem dX10_next_27 : decode cX10_next 27 = .ok (.getfield 125, 3) := by decide +kernel
theorem dX10_next_30 : decode cX10_next 30 = .ok (.iconst 1, 1) := by decide +kernel
theorem dX10_next_31 : decode cX10_next 31 = .ok (.iadd, 1) := by decide +kernel
theorem dX10_next_32 : decode cX10_next 32 = .ok (.putfield 125, 3) := by decide +kernel
theorem dX10_next_35 : decode cX10_next 35 = .ok (.goto (-35), 3) := by decide +kernel
theorem dX10_next_38 : decode cX10_next 38 = .ok (.aload_n 0, 1) := by decide +kernel
theorem dX10_next_39 : decode cX10_next 39 = .ok (.aload_n 0, 1) := by decide +kernel
theorem dX10_next_40 : decode cX10_next 40 = .ok (.getfield 125, 3) := by decide +kernel
theorem dX10_next_43 : decode cX10_next 43 = .ok (.putfield 128, 3) := by decide +kernel
theorem dX10_next_46 : decode cX10_next 46 = .ok (.aload_n 0, 1) := by decide +kernel
theorem dX10_next_47 : decode cX10_next 47 = .ok (.getfield 125, 3) := by decide +kernel
theorem dX10_next_50 : decode cX10_next 50 = .ok (.aload_n 0, 1) := by decide +kernel
theorem dX10_next_51 : decode cX10_next 51 = .ok (.getfield 117, 3) := by decide +kernel
theorem dX10_next_54 : decode cX10_next 54 = .ok (.if_icmp .ge 30, 3) := by decide +kernel
theorem dX10_next_57 : decode cX10_next 57 = .ok (.aload_n 0, 1) := by decide +kernel
theorem dX10_next_58 : decode cX10_next 58 = .ok (.getfield 16, 3) := by decide +kernel
theorem dX10_next_61 : decode cX10_next 61 = .ok (.aload_n 0, 1) := by decide +kernel
theorem dX10_next_62 : decode cX10_next 62 = .ok (.getfield 125, 3) := by decide +kernel
theorem dX10_next_65 : decode cX10_next 65 = .ok (.iaload, 1) := by decide +kernel
theorem dX10_next_66 : decode cX10_next 66 = .ok (.bipush 44, 2) := by decide +kernel
theorem dX10_next_68 : decode cX10_next 68 = .ok (.if_icmp .ne 16, 3) := by decide +kernel
theorem dX10_next_71 : decode cX10_next 71 = .ok (.aload_n 0, 1) := by decide +kernel
theorem dX10_next_72 : decode cX10_next 72 = .ok (.dup, 1) := by decide +kernel
theorem dX10_next_73 : decode cX10_next 73 = .ok (.getfield 125, 3) := by decide +kernel
theorem dX10_next_76 : decode cX10_next 76 = .ok (.iconst 1, 1) := by decide +kernel
theorem dX10_next_77 : decode cX10_next 77 = .ok (.iadd, 1) := by decide +kernel
theorem dX10_next_78 : decode cX10_next 78 = .ok (.putfield 125, 3) := by decide +kernel
theorem dX10_next_81 : decode cX10_next 81 = .ok (.goto 55, 3) := by decide +kernel
theorem dX10_next_84 : decode cX10_next 84 = .ok (.aload_n 0, 1) := by decide +kernel
theorem dX10_next_85 : decode cX10_next 85 = .ok (.getfield 125, 3) := by decide +kernel
theorem dX10_next_88 : decode cX10_next 88 = .ok (.aload_n 0, 1) := by decide +kernel
theorem dX10_next_89 : decode cX10_next 89 = .ok (.getfield 117, 3) := by decide +kernel
theorem dX10_next_92 : decode cX10_next 92 = .ok (.if_icmp .ge 44, 3) := by decide +kernel
theorem dX10_next_95 : decode cX10_next 95 = .ok (.aload_n 0, 1) := by decide +kernel
theorem dX10_next_96 : decode cX10_next 96 = .ok (.getfield 16, 3) := by decide +kernel
theorem dX10_next_99 : decode cX10_next 99 = .ok (.aload_n 0, 1) := by decide +kernel
theorem dX10_next_100 : decode cX10_next 100 = .ok (.getfield 125, 3) := by decide +kernel
theorem dX10_next_103 : decode cX10_next 103 = .ok (.iaload, 1) := by decide +kernel
theorem dX10_next_104 : decode cX10_next 104 = .ok (.bipush 32, 2) := by decide +kernel
theorem dX10_next_106 : decode cX10_next 106 = .ok (.if_icmp .eq 30, 3) := by decide +kernel
theorem dX10_next_109 : decode cX10_next 109 = .ok (.aload_n 0, 1) := by decide +kernel
theorem dX10_next_110 : decode cX10_next 110 = .ok (.getfield 16, 3) := by decide +kernel
theorem dX10_next_113 : decode cX10_next 113 = .ok (.aload_n 0, 1) := by decide +kernel
theorem dX10_next_114 : decode cX10_next 114 = .ok (.getfield 125, 3) := by decide +kernel
theorem dX10_next_117 : decode cX10_next 117 = .ok (.iaload, 1) := by decide +kernel
theorem dX10_next_118 : decode cX10_next 118 = .ok (.bipush 44, 2) := by decide +kernel
theorem dX10_next_120 : decode cX10_next 120 = .ok (.if_icmp .eq 16, 3) := by decide +kernel
theorem dX10_next_123 : decode cX10_next 123 = .ok (.aload_n 0, 1) := by decide +kernel
theorem dX10_next_124 : decode cX10_next 124 = .ok (.dup, 1) := by decide +kernel
theorem dX10_next_125 : decode cX10_next 125 = .ok (.getfield 125, 3) := by decide +kernel
theorem dX10_next_128 : decode cX10_next 128 = .ok (.iconst 1, 1) := by decide +kernel
theorem dX10_next_129 : decode cX10_next 129 = .ok (.iadd, 1) := by decide +kernel
theorem dX10_next_130 : decode cX10_next 130 = .ok (.putfield 125, 3) := by decide +kernel
theorem dX10_next_133 : decode cX10_next 133 = .ok (.goto (-49), 3) := by decide +kernel
theorem dX10_next_136 : decode cX10_next 136 = .ok (.aload_n 0, 1) := by decide +kernel
theorem dX10_next_137 : decode cX10_next 137 = .ok (.aload_n 0, 1) := by decide +kernel
theorem dX10_next_138 : decode cX10_next 138 = .ok (.getfield 125, 3) := by decide +kernel
theorem dX10_next_141 : decode cX10_next 141 = .ok (.aload_n 0, 1) := by decide +kernel
theorem dX10_next_142 : decode cX10_next 142 = .ok (.getfield 128, 3) := by decide +kernel
theorem dX10_next_145 : decode cX10_next 145 = .ok (.isub, 1) := by decide +kernel
theorem dX10_next_146 : decode cX10_next 146 = .ok (.putfield 131, 3) := by decide +kernel
theorem dX10_next_149 : decode cX10_next 149 = .ok (.return_, 1) := by decide +kernel
theorem dX10_isComma_0 : decode cX10_isComma 0 = .ok (.aload_n 0, 1) := by decide +kernel
theorem dX10_isComma_1 : decode cX10_isComma 1 = .ok (.getfield 131, 3) := by decide +kernel
theorem dX10_isComma_4 : decode cX10_isComma 4 = .ok (.iconst 1, 1) := by decide +kernel
theorem dX10_isComma_5 : decode cX10_isComma 5 = .ok (.if_icmp .ne 21, 3) := by decide +kernel
theorem dX10_isComma_8 : decode cX10_isComma 8 = .ok (.aload_n 0, 1) := by decide +kernel
theorem dX10_isComma_9 : decode cX10_isComma 9 = .ok (.getfield 16, 3) := by decide +kernel
theorem dX10_isComma_12 : decode cX10_isComma 12 = .ok (.aload_n 0, 1) := by decide +kernel
theorem dX10_isComma_13 : decode cX10_isComma 13 = .ok (.getfield 128, 3) := by decide +kernel
theorem dX10_isComma_16 : decode cX10_isComma 16 = .ok (.iaload, 1) := by decide +kernel
theorem dX10_isComma_17 : decode cX10_isComma 17 = .ok (.bipush 44, 2) := by decide +kernel
theorem dX10_isComma_19 : decode cX10_isComma 19 = .ok (.if_icmp .ne 7, 3) := by decide +kernel
theorem dX10_isComma_22 : decode cX10_isComma 22 = .ok (.iconst 1, 1) := by decide +kernel
theorem dX10_isComma_23 : decode cX10_isComma 23 = .ok (.goto 4, 3) := by decide +kernel
theorem dX10_isComma_26 : decode cX10_isComma 26 = .ok (.iconst 0, 1) := by decide +kernel
theorem dX10_isComma_27 : decode cX10_isComma 27 = .ok (.ireturn, 1) := by decide +kernel
theorem dX10_isWord_0 : decode cX10_isWord 0 = .ok (.iload 5, 2) := by decide +kernel
theorem dX10_isWord_2 : decode cX10_isWord 2 = .ok (.ifCond .ne 7, 3) := by decide +kernel
theorem dX10_isWord_5 : decode cX10_isWord 5 = .ok (.iconst 4, 1) := by decide +kernel
theorem dX10_isWord_6 : decode cX10_isWord 6 = .ok (.goto 4, 3) := by decide +kernel
theorem dX10_isWord_9 : decode cX10_isWord 9 = .ok (.iconst 5, 1) := by decide +kernel
theorem dX10_isWord_10 : decode cX10_isWord 10 = .ok (.istore 6, 2) := by decide +kernel
theorem dX10_isWord_12 : decode cX10_isWord 12 = .ok (.aload_n 0, 1) := by decide +kernel
theorem dX10_isWord_13 : decode cX10_isWord 13 = .ok (.getfield 131, 3) := by decide +kernel
theorem dX10_isWord_16 : decode cX10_isWord 16 = .ok (.iload 6, 2) := by decide +kernel
theorem dX10_isWord_18 : decode cX10_isWord 18 = .ok (.if_icmp .ne 87, 3) := by decide +kernel
theorem dX10_isWord_21 : decode cX10_isWord 21 = .ok (.aload_n 0, 1) := by decide +kernel
theorem dX10_isWord_22 : decode cX10_isWord 22 = .ok (.getfield 16, 3) := by decide +kernel
theorem dX10_isWord_25 : decode cX10_isWord 25 = .ok (.aload_n 0, 1) := by decide +kernel
theorem dX10_isWord_26 : decode cX10_isWord 26 = .ok (.getfield 128, 3) := by decide +kernel
theorem dX10_isWord_29 : decode cX10_isWord 29 = .ok (.iaload, 1) := by decide +kernel
theorem dX10_isWord_30 : decode cX10_isWord 30 = .ok (.iload_n 1, 1) := by decide +kernel
theorem dX10_isWord_31 : decode cX10_isWord 31 = .ok (.if_icmp .ne 74, 3) := by decide +kernel
theorem dX10_isWord_34 : decode cX10_isWord 34 = .ok (.aload_n 0, 1) := by decide +kernel
theorem dX10_isWord_35 : decode cX10_isWord 35 = .ok (.getfield 16, 3) := by decide +kernel
theorem dX10_isWord_38 : decode cX10_isWord 38 = .ok (.aload_n 0, 1) := by decide +kernel
theorem dX10_isWord_39 : decode cX10_isWord 39 = .ok (.getfield 128, 3) := by decide +kernel
theorem dX10_isWord_42 : decode cX10_isWord 42 = .ok (.iconst 1, 1) := by decide +kernel
theorem dX10_isWord_43 : decode cX10_isWord 43 = .ok (.iadd, 1) := by decide +kernel
theorem dX10_isWord_44 : decode cX10_isWord 44 = .ok (.iaload, 1) := by decide +kernel
theorem dX10_isWord_45 : decode cX10_isWord 45 = .ok (.iload_n 2, 1) := by decide +kernel
theorem dX10_isWord_46 : decode cX10_isWord 46 = .ok (.if_icmp .ne 59, 3) := by decide +kernel
theorem dX10_isWord_49 : decode cX10_isWord 49 = .ok (.aload_n 0, 1) := by decide +kernel
theorem dX10_isWord_50 : decode cX10_isWord 50 = .ok (.getfield 16, 3) := by decide +kernel
theorem dX10_isWord_53 : decode cX10_isWord 53 = .ok (.aload_n 0, 1) := by decide +kernel
theorem dX10_isWord_54 : decode cX10_isWord 54 = .ok (.getfield 128, 3) := by decide +kernel
theorem dX10_isWord_57 : decode cX10_isWord 57 = .ok (.iconst 2, 1) := by decide +kernel
theorem dX10_isWord_58 : decode cX10_isWord 58 = .ok (.iadd, 1) := by decide +kernel
theorem dX10_isWord_59 : decode cX10_isWord 59 = .ok (.iaload, 1) := by decide +kernel
theorem dX10_isWord_60 : decode cX10_isWord 60 = .ok (.iload_n 3, 1) := by decide +kernel
theorem dX10_isWord_61 : decode cX10_isWord 61 = .ok (.if_icmp .ne 44, 3) := by decide +kernel
theorem dX10_isWord_64 : decode cX10_isWord 64 = .ok (.aload_n 0, 1) := by decide +kernel
theorem dX10_isWord_65 : decode cX10_isWord 65 = .ok (.getfield 16, 3) := by decide +kernel
theorem dX10_isWord_68 : decode cX10_isWord 68 = .ok (.aload_n 0, 1) := by decide +kernel
theorem dX10_isWord_69 : decode cX10_isWord 69 = .ok (.getfield 128, 3) := by decide +kernel
theorem dX10_isWord_72 : decode cX10_isWord 72 = .ok (.iconst 3, 1) := by decide +kernel
theorem dX10_isWord_73 : decode cX10_isWord 73 = .ok (.iadd, 1) := by decide +kernel
theorem dX10_isWord_74 : decode cX10_isWord 74 = .ok (.iaload, 1) := by decide +kernel
theorem dX10_isWord_75 : decode cX10_isWord 75 = .ok (.iload 4, 2) := by decide +kernel
theorem dX10_isWord_77 : decode cX10_isWord 77 = .ok (.if_icmp .ne 28, 3) := by decide +kernel
theorem dX10_isWord_80 : decode cX10_isWord 80 = .ok (.iload 5, 2) := by decide +kernel
theorem dX10_isWord_82 : decode cX10_isWord 82 = .ok (.ifCond .eq 19, 3) := by decide +kernel
theorem dX10_isWord_85 : decode cX10_isWord 85 = .ok (.aload_n 0, 1) := by decide +kernel
theorem dX10_isWord_86 : decode cX10_isWord 86 = .ok (.getfield 16, 3) := by decide +kernel
theorem dX10_isWord_89 : decode cX10_isWord 89 = .ok (.aload_n 0, 1) := by decide +kernel
theorem dX10_isWord_90 : decode cX10_isWord 90 = .ok (.getfield 128, 3) := by decide +kernel
theorem dX10_isWord_93 : decode cX10_isWord 93 = .ok (.iconst 4, 1) := by decide +kernel
theorem dX10_isWord_94 : decode cX10_isWord 94 = .ok (.iadd, 1) := by decide +kernel
theorem dX10_isWord_95 : decode cX10_isWord 95 = .ok (.iaload, 1) := by decide +kernel
theorem dX10_isWord_96 : decode cX10_isWord 96 = .ok (.iload 5, 2) := by decide +kernel
theorem dX10_isWord_98 : decode cX10_isWord 98 = .ok (.if_icmp .ne 7, 3) := by decide +kernel
theorem dX10_isWord_101 : decode cX10_isWord 101 = .ok (.iconst 1, 1) := by decide +kernel
theorem dX10_isWord_102 : decode cX10_isWord 102 = .ok (.goto 4, 3) := by decide +kernel
theorem dX10_isWord_105 : decode cX10_isWord 105 = .ok (.iconst 0, 1) := by decide +kernel
theorem dX10_isWord_106 : decode cX10_isWord 106 = .ok (.ireturn, 1) := by decide +kernel
set_option maxRecDepth 20000 in
theorem ggX10_kindOf_X10_isWord : GoodIn wsX10_kindOf wsX10_isWord := goodIn_r _ [5, 6, 7, 8, 9, 10, 11, 12, 13, 14, 15, 16, 17, 18, 19, 20, 21, 22, 23, 24, 25, 26, 27, 28, 29, 30, 31, 32, 33, 34, 35, 36, 37, 38, 39, 40, 41, 42, 43, 44, 45, 46, 47, 48, 49] (by decide +kernel) (by decide +kernel)
set_option maxRecDepth 20000 in
theorem gX10_kindOf_X10_isWord : GoodIn wsX10_kindOf (wsV RX10 134 RX10 yX10_isWord wsX10_isWord) := goodIn_app (goodIn_of _ (by decide +kernel)) ggX10_kindOf_X10_isWord
theorem dX10_kindOf_0 : decode cX10_kindOf 0 = .ok (.aload_n 0, 1) := by decide +kernel
theorem dX10_kindOf_1 : decode cX10_kindOf 1 = .ok (.bipush 108, 2) := by decide +kernel
theorem dX10_kindOf_3 : decode cX10_kindOf 3 = .ok (.bipush 97, 2) := by decide +kernel
theorem dX10_kindOf_5 : decode cX10_kindOf 5 = .ok (.bipush 110, 2) := by decide +kernel
theorem dX10_kindOf_7 : decode cX10_kindOf 7 = .ok (.bipush 100, 2) := by decide +kernel
theorem dX10_kindOf_9 : decode cX10_kindOf 9 = .ok (.iconst 0, 1) := by decide +kernel
theorem dX10_kindOf_10 : decode cX10_kindOf 10 = .ok (.invokevirtual 134, 3) := by decide +kernel
theorem dX10_kindOf_13 : decode cX10_kindOf 13 = .ok (.ifCond .eq 5, 3) := by decide +kernel
theorem dX10_kindOf_16 : decode cX10_kindOf 16 = .ok (.iconst 1, 1) := by decide +kernel
theorem dX10_kindOf_17 : decode cX10_kindOf 17 = .ok (.ireturn, 1) := by decide +kernel
theorem dX10_kindOf_18 : decode cX10_kindOf 18 = .ok (.aload_n 0, 1) := by decide +kernel
theorem dX10_kindOf_19 : decode cX10_kindOf 19 = .ok (.bipush 103, 2) := by decide +kernel
theorem dX10_kindOf_21 : decode cX10_kindOf 21 = .ok (.bipush 111, 2) := by decide +kernel
theorem dX10_kindOf_23 : decode cX10_kindOf 23 = .ok (.bipush 111, 2) := by decide +kernel
theorem dX10_kindOf_25 : decode cX10_kindOf 25 = .ok (.bipush 100, 2) := by decide +kernel
theorem dX10_kindOf_27 : decode cX10_kindOf 27 = .ok (.bipush 115, 2) := by decide +kernel
theorem dX10_kindOf_29 : decode cX10_kindOf 29 = .ok (.invokevirtual 134, 3) := by decide +kernel
theorem dX10_kindOf_32 : decode cX10_kindOf 32 = .ok (.ifCond .eq 5, 3) := by decide +kernel
theorem dX10_kindOf_35 : decode cX10_kindOf 35 = .ok (.iconst 2, 1) := by decide +kernel
theorem dX10_kindOf_36 : decode cX10_kindOf 36 = .ok (.ireturn, 1) := by decide +kernel
theorem dX10_kindOf_37 : decode cX10_kindOf 37 = .ok (.aload_n 0, 1) := by decide +kernel
theorem dX10_kindOf_38 : decode cX10_kindOf 38 = .ok (.bipush 104, 2) := by decide +kernel
theorem dX10_kindOf_40 : decode cX10_kindOf 40 = .ok (.bipush 101, 2) := by decide +kernel
theorem dX10_kindOf_42 : decode cX10_kindOf 42 = .ok (.bipush 97, 2) := by decide +kernel
theorem dX10_kindOf_44 : decode cX10_kindOf 44 = .ok (.bipush 100, 2) := by decide +kernel
theorem dX10_kindOf_46 : decode cX10_kindOf 46 = .ok (.bipush 115, 2) := by decide +kernel
theorem dX10_kindOf_48 : decode cX10_kindOf 48 = .ok (.invokevirtual 134, 3) := by decide +kernel
theorem dX10_kindOf_51 : decode cX10_kindOf 51 = .ok (.ifCond .eq 5, 3) := by decide +kernel
theorem dX10_kindOf_54 : decode cX10_kindOf 54 = .ok (.iconst 3, 1) := by decide +kernel
theorem dX10_kindOf_55 : decode cX10_kindOf 55 = .ok (.ireturn, 1) := by decide +kernel
theorem dX10_kindOf_56 : decode cX10_kindOf 56 = .ok (.aload_n 0, 1) := by decide +kernel
theorem dX10_kindOf_57 : decode cX10_kindOf 57 = .ok (.bipush 111, 2) := by decide +kernel
theorem dX10_kindOf_59 : decode cX10_kindOf 59 = .ok (.bipush 119, 2) := by decide +kernel
theorem dX10_kindOf_61 : decode cX10_kindOf 61 = .ok (.bipush 101, 2) := by decide +kernel
theorem dX10_kindOf_63 : decode cX10_kindOf 63 = .ok (.bipush 115, 2) := by decide +kernel
theorem dX10_kindOf_65 : decode cX10_kindOf 65 = .ok (.iconst 0, 1) := by decide +kernel
theorem dX10_kindOf_66 : decode cX10_kindOf 66 = .ok (.invokevirtual 134, 3) := by decide +kernel
theorem dX10_kindOf_69 : decode cX10_kindOf 69 = .ok (.ifCond .eq 5, 3) := by decide +kernel
theorem dX10_kindOf_72 : decode cX10_kindOf 72 = .ok (.iconst 4, 1) := by decide +kernel
theorem dX10_kindOf_73 : decode cX10_kindOf 73 = .ok (.ireturn, 1) := by decide +kernel
theorem dX10_kindOf_74 : decode cX10_kindOf 74 = .ok (.aload_n 0, 1) := by decide +kernel
theorem dX10_kindOf_75 : decode cX10_kindOf 75 = .ok (.bipush 108, 2) := by decide +kernel
theorem dX10_kindOf_77 : decode cX10_kindOf 77 = .ok (.bipush 101, 2) := by decide +kernel
theorem dX10_kindOf_79 : decode cX10_kindOf 79 = .ok (.bipush 110, 2) := by decide +kernel
theorem dX10_kindOf_81 : decode cX10_kindOf 81 = .ok (.bipush 116, 2) := by decide +kernel
theorem dX10_kindOf_83 : decode cX10_kindOf 83 = .ok (.iconst 0, 1) := by decide +kernel
theorem dX10_kindOf_84 : decode cX10_kindOf 84 = .ok (.invokevirtual 134, 3) := by decide +kernel
theorem dX10_kindOf_87 : decode cX10_kindOf 87 = .ok (.ifCond .eq 7, 3) := by decide +kernel
theorem dX10_kindOf_90 : decode cX10_kindOf 90 = .ok (.iconst 5, 1) := by decide +kernel
theorem dX10_kindOf_91 : decode cX10_kindOf 91 = .ok (.goto 4, 3) := by decide +kernel
theorem dX10_kindOf_94 : decode cX10_kindOf 94 = .ok (.iconst 0, 1) := by decide +kernel
theorem dX10_kindOf_95 : decode cX10_kindOf 95 = .ok (.ireturn, 1) := by decide +kernel
set_option maxRecDepth 20000 in
theorem ggX10_numberOf_X10_isIn : GoodIn wsX10_numberOf wsX10_isIn := goodIn_r _ [8] (by decide +kernel) (by decide +kernel)
set_option maxRecDepth 20000 in
theorem gX10_numberOf_X10_isIn : GoodIn wsX10_numberOf (va_wsS RX10 104 yX10_isIn wsX10_isIn) := goodIn_app (goodIn_of _ (by decide +kernel)) ggX10_numberOf_X10_isIn
theorem dX10_numberOf_0 : decode cX10_numberOf 0 = .ok (.iconst 0, 1) := by decide +kernel
theorem dX10_numberOf_1 : decode cX10_numberOf 1 = .ok (.istore_n 1, 1) := by decide +kernel
theorem dX10_numberOf_2 : decode cX10_numberOf 2 = .ok (.aload_n 0, 1) := by decide +kernel
theorem dX10_numberOf_3 : decode cX10_numberOf 3 = .ok (.getfield 128, 3) := by decide +kernel
theorem dX10_numberOf_6 : decode cX10_numberOf 6 = .ok (.istore_n 2, 1) := by decide +kernel
theorem dX10_numberOf_7 : decode cX10_numberOf 7 = .ok (.iload_n 2, 1) := by decide +kernel
theorem dX10_numberOf_8 : decode cX10_numberOf 8 = .ok (.aload_n 0, 1) := by decide +kernel
theorem dX10_numberOf_9 : decode cX10_numberOf 9 = .ok (.getfield 128, 3) := by decide +kernel
theorem dX10_numberOf_12 : decode cX10_numberOf 12 = .ok (.aload_n 0, 1) := by decide +kernel
theorem dX10_numberOf_13 : decode cX10_numberOf 13 = .ok (.getfield 131, 3) := by decide +kernel
theorem dX10_numberOf_16 : decode cX10_numberOf 16 = .ok (.iadd, 1) := by decide +kernel
theorem dX10_numberOf_17 : decode cX10_numberOf 17 = .ok (.if_icmp .ge 55, 3) := by decide +kernel
theorem dX10_numberOf_20 : decode cX10_numberOf 20 = .ok (.aload_n 0, 1) := by decide +kernel
theorem dX10_numberOf_21 : decode cX10_numberOf 21 = .ok (.getfield 16, 3) := by decide +kernel
theorem dX10_numberOf_24 : decode cX10_numberOf 24 = .ok (.iload_n 2, 1) := by decide +kernel
theorem dX10_numberOf_25 : decode cX10_numberOf 25 = .ok (.iaload, 1) := by decide +kernel
theorem dX10_numberOf_26 : decode cX10_numberOf 26 = .ok (.bipush 48, 2) := by decide +kernel
theorem dX10_numberOf_28 : decode cX10_numberOf 28 = .ok (.bipush 57, 2) := by decide +kernel
theorem dX10_numberOf_30 : decode cX10_numberOf 30 = .ok (.invokestatic 104, 3) := by decide +kernel
theorem dX10_numberOf_33 : decode cX10_numberOf 33 = .ok (.ifCond .ne 5, 3) := by decide +kernel
theorem dX10_numberOf_36 : decode cX10_numberOf 36 = .ok (.iconst (-1), 1) := by decide +kernel
theorem dX10_numberOf_37 : decode cX10_numberOf 37 = .ok (.ireturn, 1) := by decide +kernel
theorem dX10_numberOf_38 : decode cX10_numberOf 38 = .ok (.bipush 10, 2) := by decide +kernel
theorem dX10_numberOf_40 : decode cX10_numberOf 40 = .ok (.iload_n 1, 1) := by decide +kernel
theorem dX10_numberOf_41 : decode cX10_numberOf 41 = .ok (.imul, 1) := by decide +kernel
theorem dX10_numberOf_42 : decode cX10_numberOf 42 = .ok (.aload_n 0, 1) := by decide +kernel
theorem dX10_numberOf_43 : decode cX10_numberOf 43 = .ok (.getfield 16, 3) := by decide +kernel
theorem dX10_numberOf_46 : decode cX10_numberOf 46 = .ok (.iload_n 2, 1) := by decide +kernel
theorem dX10_numberOf_47 : decode cX10_numberOf 47 = .ok (.iaload, 1) := by decide +kernel
theorem dX10_numberOf_48 : decode cX10_numberOf 48 = .ok (.iadd, 1) := by decide +kernel
theorem dX10_numberOf_49 : decode cX10_numberOf 49 = .ok (.bipush 48, 2) := by decide +kernel
theorem dX10_numberOf_51 : decode cX10_numberOf 51 = .ok (.isub, 1) := by decide +kernel
theorem dX10_numberOf_52 : decode cX10_numberOf 52 = .ok (.istore_n 1, 1) := by decide +kernel
theorem dX10_numberOf_53 : decode cX10_numberOf 53 = .ok (.iload_n 1, 1) := by decide +kernel
theorem dX10_numberOf_54 : decode cX10_numberOf 54 = .ok (.ldc 108, 2) := by decide +kernel
theorem dX10_numberOf_56 : decode cX10_numberOf 56 = .ok (.if_icmp .le 8, 3) := by decide +kernel
theorem dX10_numberOf_59 : decode cX10_numberOf 59 = .ok (.ldc 108, 2) := by decide +kernel
theorem dX10_numberOf_61 : decode cX10_numberOf 61 = .ok (.goto 4, 3) := by decide +kernel
theorem dX10_numberOf_64 : decode cX10_numberOf 64 = .ok (.iload_n 1, 1) := by decide +kernel
theorem dX10_numberOf_65 : decode cX10_numberOf 65 = .ok (.istore_n 1, 1) := by decide +kernel
theorem dX10_numberOf_66 : decode cX10_numberOf 66 = .ok (.iinc 2 1, 3) := by decide +kernel
theorem dX10_numberOf_69 : decode cX10_numberOf 69 = .ok (.goto (-62), 3) := by decide +kernel
theorem dX10_numberOf_72 : decode cX10_numberOf 72 = .ok (.aload_n 0, 1) := by decide +kernel
theorem dX10_numberOf_73 : decode cX10_numberOf 73 = .ok (.getfield 131, 3) := by decide +kernel
theorem dX10_numberOf_76 : decode cX10_numberOf 76 = .ok (.ifCond .ne 7, 3) := by decide +kernel
theorem dX10_numberOf_79 : decode cX10_numberOf 79 = .ok (.iconst (-1), 1) := by decide +kernel
theorem dX10_numberOf_80 : decode cX10_numberOf 80 = .ok (.goto 4, 3) := by decide +kernel
theorem dX10_numberOf_83 : decode cX10_numberOf 83 = .ok (.iload_n 1, 1) := by decide +kernel
theorem dX10_numberOf_84 : decode cX10_numberOf 84 = .ok (.ireturn, 1) := by decide +kernel
set_option maxRecDepth 20000 in
theorem ggX10_read_X10_next : GoodIn wsX10_read wsX10_next := goodIn_r _ [14, 1, 4, 15, 5, 3, 39, 40, 41, 42, 43, 44, 45, 46, 47, 48, 49, 50, 51, 52, 53, 54, 55, 56, 57, 58, 59, 60, 61, 62, 63, 64, 65, 66, 67, 68, 69, 70, 71, 72, 73, 74, 75, 76, 77, 78, 79] (by decide +kernel) (by decide +kernel)
set_option maxRecDepth 20000 in
theorem gX10_read_X10_next : GoodIn wsX10_read (wsV RX10 141 RX10 yX10_next wsX10_next) := goodIn_app (goodIn_of _ (by decide +kernel)) ggX10_read_X10_next
set_option maxRecDepth 20000 in
theorem ggX10_read_X10_kindOf : GoodIn wsX10_read wsX10_kindOf := goodIn_r _ [19, 20, 21, 22, 13, 23, 3, 15, 5, 39, 40, 41, 42, 43, 44, 45, 46, 47, 48, 49, 50, 51, 52, 53, 54, 55, 56, 57, 58, 59, 60, 61, 62, 63, 64, 65, 66, 67, 68, 69, 70, 71, 72, 73, 74, 75, 76, 77, 78, 79] (by decide +kernel) (by decide +kernel)
set_option maxRecDepth 20000 in
theorem gX10_read_X10_kindOf : GoodIn wsX10_read (wsV RX10 144 RX10 yX10_kindOf wsX10_kindOf) := goodIn_app (goodIn_of _ (by decide +kernel)) ggX10_read_X10_kindOf
set_option maxRecDepth 20000 in
theorem ggX10_read_X10_numberOf : GoodIn wsX10_read wsX10_numberOf := goodIn_r _ [27, 5, 3, 15, 28, 29, 30, 13, 31, 39, 40, 41, 42, 43, 44, 45, 46, 47, 48, 49, 50, 51, 52, 53, 54, 55, 56, 57, 58, 59, 60, 61, 62, 63, 64, 65, 66, 67, 68, 69, 70, 71, 72, 73, 74, 75, 76, 77, 78, 79] (by decide +kernel) (by decide +kernel)
set_option maxRecDepth 20000 in
theorem gX10_read_X10_numberOf : GoodIn wsX10_read (wsV RX10 149 RX10 yX10_numberOf wsX10_numberOf) := goodIn_app (goodIn_of _ (by decide +kernel)) ggX10_read_X10_numberOf
set_option maxRecDepth 20000 in
theorem ggX10_read_X10_isIn : GoodIn wsX10_read wsX10_isIn := goodIn_r _ [31] (by decide +kernel) (by decide +kernel)
set_option maxRecDepth 20000 in
theorem gX10_read_X10_isIn : GoodIn wsX10_read (va_wsS RX10 104 yX10_isIn wsX10_isIn) := goodIn_app (goodIn_of _ (by decide +kernel)) ggX10_read_X10_isIn
set_option maxRecDepth 20000 in
theorem ggX10_read_X10_isHouse : GoodIn wsX10_read wsX10_isHouse := goodIn_r _ [34, 29, 30, 13, 31] (by decide +kernel) (by decide +kernel)
set_option maxRecDepth 20000 in
theorem gX10_read_X10_isHouse : GoodIn wsX10_read (va_wsS RX10 152 yX10_isHouse wsX10_isHouse) := goodIn_app (goodIn_of _ (by decide +kernel)) ggX10_read_X10_isHouse
set_option maxRecDepth 20000 in
theorem ggX10_read_X10_isComma : GoodIn wsX10_read wsX10_isComma := goodIn_r _ [38, 3, 15, 5, 39, 40, 41, 42, 43, 44, 45, 46, 47, 48, 49, 50, 51, 52, 53, 54, 55, 56, 57, 58, 59, 60, 61, 62, 63, 64, 65, 66, 67, 68, 69, 70, 71, 72, 73, 74, 75, 76, 77, 78, 79] (by decide +kernel) (by decide +kernel)
set_option maxRecDepth 20000 in
theorem gX10_read_X10_isComma : GoodIn wsX10_read (wsV RX10 156 RX10 yX10_isComma wsX10_isComma) := goodIn_app (goodIn_of _ (by decide +kernel)) ggX10_read_X10_isComma
theorem dX10_read_0 : decode cX10_read 0 = .ok (.aload_n 0, 1) := by decide +kernel
theorem dX10_read_1 : decode cX10_read 1 = .ok (.iconst 0, 1) := by decide +kernel
theorem dX10_read_2 : decode cX10_read 2 = .ok (.putfield 125, 3) := by decide +kernel
theorem dX10_read_5 : decode cX10_read 5 = .ok (.aload_n 0, 1) := by decide +kernel
theorem dX10_read_6 : decode cX10_read 6 = .ok (.iconst 0, 1) := by decide +kernel
theorem dX10_read_7 : decode cX10_read 7 = .ok (.putfield 138, 3) := by decide +kernel
theorem dX10_read_10 : decode cX10_read 10 = .ok (.aload_n 0, 1) := by decide +kernel
theorem dX10_read_11 : decode cX10_read 11 = .ok (.invokevirtual 141, 3) := by decide +kernel
theorem dX10_read_14 : decode cX10_read 14 = .ok (.aload_n 0, 1) := by decide +kernel
theorem dX10_read_15 : decode cX10_read 15 = .ok (.getfield 131, 3) := by decide +kernel
theorem dX10_read_18 : decode cX10_read 18 = .ok (.ifCond .ne 7, 3) := by decide +kernel
theorem dX10_read_21 : decode cX10_read 21 = .ok (.iconst 0, 1) := by decide +kernel
theorem dX10_read_22 : decode cX10_read 22 = .ok (.goto 7, 3) := by decide +kernel
theorem dX10_read_25 : decode cX10_read 25 = .ok (.aload_n 0, 1) := by decide +kernel
theorem dX10_read_26 : decode cX10_read 26 = .ok (.invokevirtual 144, 3) := by decide +kernel
theorem dX10_read_29 : decode cX10_read 29 = .ok (.istore_n 2, 1) := by decide +kernel
theorem dX10_read_30 : decode cX10_read 30 = .ok (.iload_n 2, 1) := by decide +kernel
theorem dX10_read_31 : decode cX10_read 31 = .ok (.ifCond .ne 22, 3) := by decide +kernel
theorem dX10_read_34 : decode cX10_read 34 = .ok (.aload_n 0, 1) := by decide +kernel
theorem dX10_read_35 : decode cX10_read 35 = .ok (.getfield 131, 3) := by decide +kernel
theorem dX10_read_38 : decode cX10_read 38 = .ok (.ifCond .ne 10, 3) := by decide +kernel
theorem dX10_read_41 : decode cX10_read 41 = .ok (.aload_n 0, 1) := by decide +kernel
theorem dX10_read_42 : decode cX10_read 42 = .ok (.getfield 117, 3) := by decide +kernel
theorem dX10_read_45 : decode cX10_read 45 = .ok (.goto 7, 3) := by decide +kernel
theorem dX10_read_48 : decode cX10_read 48 = .ok (.aload_n 0, 1) := by decide +kernel
theorem dX10_read_49 : decode cX10_read 49 = .ok (.getfield 128, 3) := by decide +kernel
theorem dX10_read_52 : decode cX10_read 52 = .ok (.ireturn, 1) := by decide +kernel
theorem dX10_read_53 : decode cX10_read 53 = .ok (.ldc 148, 2) := by decide +kernel
theorem dX10_read_55 : decode cX10_read 55 = .ok (.istore_n 3, 1) := by decide +kernel
theorem dX10_read_56 : decode cX10_read 56 = .ok (.iload_n 2, 1) := by decide +kernel
theorem dX10_read_57 : decode cX10_read 57 = .ok (.iconst 1, 1) := by decide +kernel
theorem dX10_read_58 : decode cX10_read 58 = .ok (.if_icmp .eq 13, 3) := by decide +kernel
theorem dX10_read_61 : decode cX10_read 61 = .ok (.iload_n 2, 1) := by decide +kernel
theorem dX10_read_62 : decode cX10_read 62 = .ok (.iconst 4, 1) := by decide +kernel
theorem dX10_read_63 : decode cX10_read 63 = .ok (.if_icmp .eq 8, 3) := by decide +kernel
theorem dX10_read_66 : decode cX10_read 66 = .ok (.iload_n 2, 1) := by decide +kernel
theorem dX10_read_67 : decode cX10_read 67 = .ok (.iconst 5, 1) := by decide +kernel
theorem dX10_read_68 : decode cX10_read 68 = .ok (.if_icmp .ne 70, 3) := by decide +kernel
theorem dX10_read_71 : decode cX10_read 71 = .ok (.aload_n 0, 1) := by decide +kernel
theorem dX10_read_72 : decode cX10_read 72 = .ok (.invokevirtual 141, 3) := by decide +kernel
theorem dX10_read_75 : decode cX10_read 75 = .ok (.aload_n 0, 1) := by decide +kernel
theorem dX10_read_76 : decode cX10_read 76 = .ok (.invokevirtual 149, 3) := by decide +kernel
theorem dX10_read_79 : decode cX10_read 79 = .ok (.istore_n 3, 1) := by decide +kernel
theorem dX10_read_80 : decode cX10_read 80 = .ok (.iload_n 2, 1) := by decide +kernel
theorem dX10_read_81 : decode cX10_read 81 = .ok (.iconst 1, 1) := by decide +kernel
theorem dX10_read_82 : decode cX10_read 82 = .ok (.if_icmp .ne 13, 3) := by decide +kernel
theorem dX10_read_85 : decode cX10_read 85 = .ok (.iload_n 3, 1) := by decide +kernel
theorem dX10_read_86 : decode cX10_read 86 = .ok (.iconst 0, 1) := by decide +kernel
theorem dX10_read_87 : decode cX10_read 87 = .ok (.bipush 11, 2) := by decide +kernel
theorem dX10_read_89 : decode cX10_read 89 = .ok (.invokestatic 104, 3) := by decide +kernel
theorem dX10_read_92 : decode cX10_read 92 = .ok (.goto 20, 3) := by decide +kernel
theorem dX10_read_95 : decode cX10_read 95 = .ok (.iload_n 3, 1) := by decide +kernel
theorem dX10_read_96 : decode cX10_read 96 = .ok (.invokestatic 152, 3) := by decide +kernel
theorem dX10_read_99 : decode cX10_read 99 = .ok (.ifCond .eq 12, 3) := by decide +kernel
theorem dX10_read_102 : decode cX10_read 102 = .ok (.iload_n 3, 1) := by decide +kernel
theorem dX10_read_103 : decode cX10_read 103 = .ok (.iload_n 1, 1) := by decide +kernel
theorem dX10_read_104 : decode cX10_read 104 = .ok (.if_icmp .eq 7, 3) := by decide +kernel
theorem dX10_read_107 : decode cX10_read 107 = .ok (.iconst 1, 1) := by decide +kernel
theorem dX10_read_108 : decode cX10_read 108 = .ok (.goto 4, 3) := by decide +kernel
theorem dX10_read_111 : decode cX10_read 111 = .ok (.iconst 0, 1) := by decide +kernel
theorem dX10_read_112 : decode cX10_read 112 = .ok (.istore 4, 2) := by decide +kernel
theorem dX10_read_114 : decode cX10_read 114 = .ok (.iload 4, 2) := by decide +kernel
theorem dX10_read_116 : decode cX10_read 116 = .ok (.ifCond .ne 22, 3) := by decide +kernel
theorem dX10_read_119 : decode cX10_read 119 = .ok (.aload_n 0, 1) := by decide +kernel
theorem dX10_read_120 : decode cX10_read 120 = .ok (.getfield 131, 3) := by decide +kernel
theorem dX10_read_123 : decode cX10_read 123 = .ok (.ifCond .ne 10, 3) := by decide +kernel
theorem dX10_read_126 : decode cX10_read 126 = .ok (.aload_n 0, 1) := by decide +kernel
theorem dX10_read_127 : decode cX10_read 127 = .ok (.getfield 117, 3) := by decide +kernel
theorem dX10_read_130 : decode cX10_read 130 = .ok (.goto 7, 3) := by decide +kernel
theorem dX10_read_133 : decode cX10_read 133 = .ok (.aload_n 0, 1) := by decide +kernel
theorem dX10_read_134 : decode cX10_read 134 = .ok (.getfield 128, 3) := by decide +kernel
theorem dX10_read_137 : decode cX10_read 137 = .ok (.ireturn, 1) := by decide +kernel
theorem dX10_read_138 : decode cX10_read 138 = .ok (.aload_n 0, 1) := by decide +kernel
theorem dX10_read_139 : decode cX10_read 139 = .ok (.invokevirtual 141, 3) := by decide +kernel
theorem dX10_read_142 : decode cX10_read 142 = .ok (.aload_n 0, 1) := by decide +kernel
theorem dX10_read_143 : decode cX10_read 143 = .ok (.invokevirtual 149, 3) := by decide +kernel
theorem dX10_read_146 : decode cX10_read 146 = .ok (.istore 4, 2) := by decide +kernel
theorem dX10_read_148 : decode cX10_read 148 = .ok (.iload 4, 2) := by decide +kernel
theorem dX10_read_150 : decode cX10_read 150 = .ok (.iconst 1, 1) := by decide +kernel
theorem dX10_read_151 : decode cX10_read 151 = .ok (.iload_n 2, 1) := by decide +kernel
theorem dX10_read_152 : decode cX10_read 152 = .ok (.iconst 1, 1) := by decide +kernel
theorem dX10_read_153 : decode cX10_read 153 = .ok (.if_icmp .ne 9, 3) := by decide +kernel
theorem dX10_read_156 : decode cX10_read 156 = .ok (.sipush 500, 3) := by decide +kernel
theorem dX10_read_159 : decode cX10_read 159 = .ok (.goto 16, 3) := by decide +kernel
theorem dX10_read_162 : decode cX10_read 162 = .ok (.iload_n 2, 1) := by decide +kernel
theorem dX10_read_163 : decode cX10_read 163 = .ok (.iconst 3, 1) := by decide +kernel
theorem dX10_read_164 : decode cX10_read 164 = .ok (.if_icmp .ne 8, 3) := by decide +kernel
theorem dX10_read_167 : decode cX10_read 167 = .ok (.bipush 50, 2) := by decide +kernel
theorem dX10_read_169 : decode cX10_read 169 = .ok (.goto 6, 3) := by decide +kernel
theorem dX10_read_172 : decode cX10_read 172 = .ok (.sipush 9999, 3) := by decide +kernel
theorem dX10_read_175 : decode cX10_read 175 = .ok (.invokestatic 104, 3) := by decide +kernel
theorem dX10_read_178 : decode cX10_read 178 = .ok (.ifCond .ne 22, 3) := by decide +kernel
theorem dX10_read_181 : decode cX10_read 181 = .ok (.aload_n 0, 1) := by decide +kernel
theorem dX10_read_182 : decode cX10_read 182 = .ok (.getfield 131, 3) := by decide +kernel
theorem dX10_read_185 : decode cX10_read 185 = .ok (.ifCond .ne 10, 3) := by decide +kernel
theorem dX10_read_188 : decode cX10_read 188 = .ok (.aload_n 0, 1) := by decide +kernel
theorem dX10_read_189 : decode cX10_read 189 = .ok (.getfield 117, 3) := by decide +kernel
theorem dX10_read_192 : decode cX10_read 192 = .ok (.goto 7, 3) := by decide +kernel
theorem dX10_read_195 : decode cX10_read 195 = .ok (.aload_n 0, 1) := by decide +kernel
theorem dX10_read_196 : decode cX10_read 196 = .ok (.getfield 128, 3) := by decide +kernel
theorem dX10_read_199 : decode cX10_read 199 = .ok (.ireturn, 1) := by decide +kernel
theorem dX10_read_200 : decode cX10_read 200 = .ok (.aload_n 0, 1) := by decide +kernel
theorem dX10_read_201 : decode cX10_read 201 = .ok (.getfield 79, 3) := by decide +kernel
theorem dX10_read_204 : decode cX10_read 204 = .ok (.aload_n 0, 1) := by decide +kernel
theorem dX10_read_205 : decode cX10_read 205 = .ok (.getfield 138, 3) := by decide +kernel
theorem dX10_read_208 : decode cX10_read 208 = .ok (.iload_n 2, 1) := by decide +kernel
theorem dX10_read_209 : decode cX10_read 209 = .ok (.iastore, 1) := by decide +kernel
theorem dX10_read_210 : decode cX10_read 210 = .ok (.aload_n 0, 1) := by decide +kernel
theorem dX10_read_211 : decode cX10_read 211 = .ok (.getfield 82, 3) := by decide +kernel
theorem dX10_read_214 : decode cX10_read 214 = .ok (.aload_n 0, 1) := by decide +kernel
theorem dX10_read_215 : decode cX10_read 215 = .ok (.getfield 138, 3) := by decide +kernel
theorem dX10_read_218 : decode cX10_read 218 = .ok (.iload_n 3, 1) := by decide +kernel
theorem dX10_read_219 : decode cX10_read 219 = .ok (.iastore, 1) := by decide +kernel
theorem dX10_read_220 : decode cX10_read 220 = .ok (.aload_n 0, 1) := by decide +kernel
theorem dX10_read_221 : decode cX10_read 221 = .ok (.getfield 85, 3) := by decide +kernel
theorem dX10_read_224 : decode cX10_read 224 = .ok (.aload_n 0, 1) := by decide +kernel
theorem dX10_read_225 : decode cX10_read 225 = .ok (.getfield 138, 3) := by decide +kernel
theorem dX10_read_228 : decode cX10_read 228 = .ok (.iload 4, 2) := by decide +kernel
theorem dX10_read_230 : decode cX10_read 230 = .ok (.iastore, 1) := by decide +kernel
theorem dX10_read_231 : decode cX10_read 231 = .ok (.aload_n 0, 1) := by decide +kernel
theorem dX10_read_232 : decode cX10_read 232 = .ok (.dup, 1) := by decide +kernel
theorem dX10_read_233 : decode cX10_read 233 = .ok (.getfield 138, 3) := by decide +kernel
theorem dX10_read_236 : decode cX10_read 236 = .ok (.iconst 1, 1) := by decide +kernel
theorem dX10_read_237 : decode cX10_read 237 = .ok (.iadd, 1) := by decide +kernel
theorem dX10_read_238 : decode cX10_read 238 = .ok (.putfield 138, 3) := by decide +kernel
theorem dX10_read_241 : decode cX10_read 241 = .ok (.aload_n 0, 1) := by decide +kernel
theorem dX10_read_242 : decode cX10_read 242 = .ok (.invokevirtual 141, 3) := by decide +kernel
theorem dX10_read_245 : decode cX10_read 245 = .ok (.aload_n 0, 1) := by decide +kernel
theorem dX10_read_246 : decode cX10_read 246 = .ok (.getfield 131, 3) := by decide +kernel
theorem dX10_read_249 : decode cX10_read 249 = .ok (.ifCond .ne 5, 3) := by decide +kernel
theorem dX10_read_252 : decode cX10_read 252 = .ok (.iconst (-1), 1) := by decide +kernel
theorem dX10_read_253 : decode cX10_read 253 = .ok (.ireturn, 1) := by decide +kernel
theorem dX10_read_254 : decode cX10_read 254 = .ok (.aload_n 0, 1) := by decide +kernel
theorem dX10_read_255 : decode cX10_read 255 = .ok (.invokevirtual 156, 3) := by decide +kernel
theorem dX10_read_258 : decode cX10_read 258 = .ok (.ifCond .ne 8, 3) := by decide +kernel
theorem dX10_read_261 : decode cX10_read 261 = .ok (.aload_n 0, 1) := by decide +kernel
theorem dX10_read_262 : decode cX10_read 262 = .ok (.getfield 128, 3) := by decide +kernel
theorem dX10_read_265 : decode cX10_read 265 = .ok (.ireturn, 1) := by decide +kernel
theorem dX10_read_266 : decode cX10_read 266 = .ok (.goto (-256), 3) := by decide +kernel
set_option maxRecDepth 20000 in
theorem ggX10_declare_X10_isHouse : GoodIn wsX10_declare wsX10_isHouse := goodIn_r _ [20, 21, 22, 19, 23] (by decide +kernel) (by decide +kernel)
set_option maxRecDepth 20000 in
theorem gX10_declare_X10_isHouse : GoodIn wsX10_declare (va_wsS RX10 152 yX10_isHouse wsX10_isHouse) := goodIn_app (goodIn_of _ (by decide +kernel)) ggX10_declare_X10_isHouse
set_option maxRecDepth 20000 in
theorem ggX10_declare_X10_isYear : GoodIn wsX10_declare wsX10_isYear := goodIn_r _ [26, 21, 22, 19, 23] (by decide +kernel) (by decide +kernel)
set_option maxRecDepth 20000 in
theorem gX10_declare_X10_isYear : GoodIn wsX10_declare (va_wsS RX10 160 yX10_isYear wsX10_isYear) := goodIn_app (goodIn_of _ (by decide +kernel)) ggX10_declare_X10_isYear
set_option maxRecDepth 20000 in
theorem ggX10_declare_X10_read : GoodIn wsX10_declare wsX10_read := goodIn_r _ [30, 31, 4, 32, 1, 33, 34, 7, 13, 15, 35, 36, 37, 19, 38, 39, 40, 41, 42, 43, 44, 45, 46, 47, 48, 49, 50, 51, 52, 21, 22, 23, 17, 18, 20, 53, 54, 55, 56, 57, 58, 59, 60, 61, 62, 63, 64, 65, 66, 67, 68, 69, 70, 71, 72, 73, 74, 75, 76, 77, 78, 79, 80, 81, 82, 83, 84, 85, 86, 87, 88, 89, 90, 91, 92, 93, 94, 95, 96, 97] (by decide +kernel) (by decide +kernel)
set_option maxRecDepth 20000 in
theorem gX10_declare_X10_read : GoodIn wsX10_declare (wsV RX10 163 RX10 yX10_read wsX10_read) := goodIn_app (goodIn_of _ (by decide +kernel)) ggX10_declare_X10_read
theorem dX10_declare_0 : decode cX10_declare 0 = .ok (.iload_n 1, 1) := by decide +kernel
theorem dX10_declare_1 : decode cX10_declare 1 = .ok (.invokestatic 152, 3) := by decide +kernel
theorem dX10_declare_4 : decode cX10_declare 4 = .ok (.ifCond .eq 10, 3) := by decide +kernel
theorem dX10_declare_7 : decode cX10_declare 7 = .ok (.iload_n 2, 1) := by decide +kernel
theorem dX10_declare_8 : decode cX10_declare 8 = .ok (.invokestatic 160, 3) := by decide +kernel
theorem dX10_declare_11 : decode cX10_declare 11 = .ok (.ifCond .ne 11, 3) := by decide +kernel
theorem dX10_declare_14 : decode cX10_declare 14 = .ok (.aload_n 0, 1) := by decide +kernel
theorem dX10_declare_15 : decode cX10_declare 15 = .ok (.iconst 0, 1) := by decide +kernel
theorem dX10_declare_16 : decode cX10_declare 16 = .ok (.putfield 117, 3) := by decide +kernel
theorem dX10_declare_19 : decode cX10_declare 19 = .ok (.ldc 116, 2) := by decide +kernel
theorem dX10_declare_21 : decode cX10_declare 21 = .ok (.ireturn, 1) := by decide +kernel
theorem dX10_declare_22 : decode cX10_declare 22 = .ok (.aload_n 0, 1) := by decide +kernel
theorem dX10_declare_23 : decode cX10_declare 23 = .ok (.iload_n 1, 1) := by decide +kernel
theorem dX10_declare_24 : decode cX10_declare 24 = .ok (.invokevirtual 163, 3) := by decide +kernel
theorem dX10_declare_27 : decode cX10_declare 27 = .ok (.istore_n 3, 1) := by decide +kernel
theorem dX10_declare_28 : decode cX10_declare 28 = .ok (.aload_n 0, 1) := by decide +kernel
theorem dX10_declare_29 : decode cX10_declare 29 = .ok (.iconst 0, 1) := by decide +kernel
theorem dX10_declare_30 : decode cX10_declare 30 = .ok (.putfield 117, 3) := by decide +kernel
theorem dX10_declare_33 : decode cX10_declare 33 = .ok (.iload_n 3, 1) := by decide +kernel
theorem dX10_declare_34 : decode cX10_declare 34 = .ok (.ifCond .lt 8, 3) := by decide +kernel
theorem dX10_declare_37 : decode cX10_declare 37 = .ok (.bipush (-100), 2) := by decide +kernel
theorem dX10_declare_39 : decode cX10_declare 39 = .ok (.iload_n 3, 1) := by decide +kernel
theorem dX10_declare_40 : decode cX10_declare 40 = .ok (.isub, 1) := by decide +kernel
theorem dX10_declare_41 : decode cX10_declare 41 = .ok (.ireturn, 1) := by decide +kernel
theorem dX10_declare_42 : decode cX10_declare 42 = .ok (.aload_n 0, 1) := by decide +kernel
theorem dX10_declare_43 : decode cX10_declare 43 = .ok (.getfield 109, 3) := by decide +kernel
theorem dX10_declare_46 : decode cX10_declare 46 = .ok (.aload_n 0, 1) := by decide +kernel
theorem dX10_declare_47 : decode cX10_declare 47 = .ok (.getfield 138, 3) := by decide +kernel
theorem dX10_declare_50 : decode cX10_declare 50 = .ok (.iadd, 1) := by decide +kernel
theorem dX10_declare_51 : decode cX10_declare 51 = .ok (.bipush 100, 2) := by decide +kernel
theorem dX10_declare_53 : decode cX10_declare 53 = .ok (.if_icmp .le 6, 3) := by decide +kernel
theorem dX10_declare_56 : decode cX10_declare 56 = .ok (.ldc 120, 2) := by decide +kernel
theorem dX10_declare_58 : decode cX10_declare 58 = .ok (.ireturn, 1) := by decide +kernel
theorem dX10_declare_59 : decode cX10_declare 59 = .ok (.iconst 0, 1) := by decide +kernel
theorem dX10_declare_60 : decode cX10_declare 60 = .ok (.istore 4, 2) := by decide +kernel
theorem dX10_declare_62 : decode cX10_declare 62 = .ok (.iload 4, 2) := by decide +kernel
theorem dX10_declare_64 : decode cX10_declare 64 = .ok (.aload_n 0, 1) := by decide +kernel
theorem dX10_declare_65 : decode cX10_declare 65 = .ok (.getfield 138, 3) := by decide +kernel
theorem dX10_declare_68 : decode cX10_declare 68 = .ok (.if_icmp .ge 110, 3) := by decide +kernel
theorem dX10_declare_71 : decode cX10_declare 71 = .ok (.aload_n 0, 1) := by decide +kernel
theorem dX10_declare_72 : decode cX10_declare 72 = .ok (.getfield 19, 3) := by decide +kernel
theorem dX10_declare_75 : decode cX10_declare 75 = .ok (.aload_n 0, 1) := by decide +kernel
theorem dX10_declare_76 : decode cX10_declare 76 = .ok (.getfield 109, 3) := by decide +kernel
theorem dX10_declare_79 : decode cX10_declare 79 = .ok (.aload_n 0, 1) := by decide +kernel
theorem dX10_declare_80 : decode cX10_declare 80 = .ok (.getfield 79, 3) := by decide +kernel
theorem dX10_declare_83 : decode cX10_declare 83 = .ok (.iload 4, 2) := by decide +kernel
theorem dX10_declare_85 : decode cX10_declare 85 = .ok (.iaload, 1) := by decide +kernel
theorem dX10_declare_86 : decode cX10_declare 86 = .ok (.iastore, 1) := by decide +kernel
theorem dX10_declare_87 : decode cX10_declare 87 = .ok (.aload_n 0, 1) := by decide +kernel
theorem dX10_declare_88 : decode cX10_declare 88 = .ok (.getfield 22, 3) := by decide +kernel
theorem dX10_declare_91 : decode cX10_declare 91 = .ok (.aload_n 0, 1) := by decide +kernel
theorem dX10_declare_92 : decode cX10_declare 92 = .ok (.getfield 109, 3) := by decide +kernel
theorem dX10_declare_95 : decode cX10_declare 95 = .ok (.iload_n 1, 1) := by decide +kernel
theorem dX10_declare_96 : decode cX10_declare 96 = .ok (.iastore, 1) := by decide +kernel
theorem dX10_declare_97 : decode cX10_declare 97 = .ok (.aload_n 0, 1) := by decide +kernel
theorem dX10_declare_98 : decode cX10_declare 98 = .ok (.getfield 25, 3) := by decide +kernel
theorem dX10_declare_101 : decode cX10_declare 101 = .ok (.aload_n 0, 1) := by decide +kernel
theorem dX10_declare_102 : decode cX10_declare 102 = .ok (.getfield 109, 3) := by decide +kernel
theorem dX10_declare_105 : decode cX10_declare 105 = .ok (.iload_n 2, 1) := by decide +kernel
theorem dX10_declare_106 : decode cX10_declare 106 = .ok (.iastore, 1) := by decide +kernel
theorem dX10_declare_107 : decode cX10_declare 107 = .ok (.aload_n 0, 1) := by decide +kernel
theorem dX10_declare_108 : decode cX10_declare 108 = .ok (.getfield 28, 3) := by decide +kernel
theorem dX10_declare_111 : decode cX10_declare 111 = .ok (.aload_n 0, 1) := by decide +kernel
theorem dX10_declare_112 : decode cX10_declare 112 = .ok (.getfield 109, 3) := by decide +kernel
theorem dX10_declare_115 : decode cX10_declare 115 = .ok (.aload_n 0, 1) := by decide +kernel
theorem dX10_declare_116 : decode cX10_declare 116 = .ok (.getfield 113, 3) := by decide +kernel
theorem dX10_declare_119 : decode cX10_declare 119 = .ok (.iastore, 1) := by decide +kernel
theorem dX10_declare_120 : decode cX10_declare 120 = .ok (.aload_n 0, 1) := by decide +kernel
theorem dX10_declare_121 : decode cX10_declare 121 = .ok (.getfield 31, 3) := by decide +kernel
theorem dX10_declare_124 : decode cX10_declare 124 = .ok (.aload_n 0, 1) := by decide +kernel
theorem dX10_declare_125 : decode cX10_declare 125 = .ok (.getfield 109, 3) := by decide +kernel
theorem dX10_declare_128 : decode cX10_declare 128 = .ok (.aload_n 0, 1) := by decide +kernel
theorem dX10_declare_129 : decode cX10_declare 129 = .ok (.getfield 82, 3) := by decide +kernel
theorem dX10_declare_132 : decode cX10_declare 132 = .ok (.iload 4, 2) := by decide +kernel
theorem dX10_declare_134 : decode cX10_declare 134 = .ok (.iaload, 1) := by decide +kernel
theorem dX10_declare_135 : decode cX10_declare 135 = .ok (.iastore, 1) := by decide +kernel
theorem dX10_declare_136 : decode cX10_declare 136 = .ok (.aload_n 0, 1) := by decide +kernel
theorem dX10_declare_137 : decode cX10_declare 137 = .ok (.getfield 34, 3) := by decide +kernel
theorem dX10_declare_140 : decode cX10_declare 140 = .ok (.aload_n 0, 1) := by decide +kernel
theorem dX10_declare_141 : decode cX10_declare 141 = .ok (.getfield 109, 3) := by decide +kernel
theorem dX10_declare_144 : decode cX10_declare 144 = .ok (.aload_n 0, 1) := by decide +kernel
theorem dX10_declare_145 : decode cX10_declare 145 = .ok (.getfield 85, 3) := by decide +kernel
theorem dX10_declare_148 : decode cX10_declare 148 = .ok (.iload 4, 2) := by decide +kernel
theorem dX10_declare_150 : decode cX10_declare 150 = .ok (.iaload, 1) := by decide +kernel
theorem dX10_declare_151 : decode cX10_declare 151 = .ok (.iastore, 1) := by decide +kernel
theorem dX10_declare_152 : decode cX10_declare 152 = .ok (.aload_n 0, 1) := by decide +kernel
theorem dX10_declare_153 : decode cX10_declare 153 = .ok (.getfield 37, 3) := by decide +kernel
theorem dX10_declare_156 : decode cX10_declare 156 = .ok (.aload_n 0, 1) := by decide +kernel
theorem dX10_declare_157 : decode cX10_declare 157 = .ok (.getfield 109, 3) := by decide +kernel
theorem dX10_declare_160 : decode cX10_declare 160 = .ok (.iconst 0, 1) := by decide +kernel
theorem dX10_declare_161 : decode cX10_declare 161 = .ok (.iastore, 1) := by decide +kernel
theorem dX10_declare_162 : decode cX10_declare 162 = .ok (.aload_n 0, 1) := by decide +kernel
theorem dX10_declare_163 : decode cX10_declare 163 = .ok (.dup, 1) := by decide +kernel
theorem dX10_declare_164 : decode cX10_declare 164 = .ok (.getfield 109, 3) := by decide +kernel
theorem dX10_declare_167 : decode cX10_declare 167 = .ok (.iconst 1, 1) := by decide +kernel
theorem dX10_declare_168 : decode cX10_declare 168 = .ok (.iadd, 1) := by decide +kernel
theorem dX10_declare_169 : decode cX10_declare 169 = .ok (.putfield 109, 3) := by decide +kernel
theorem dX10_declare_172 : decode cX10_declare 172 = .ok (.iinc 4 1, 3) := by decide +kernel
theorem dX10_declare_175 : decode cX10_declare 175 = .ok (.goto (-113), 3) := by decide +kernel
theorem dX10_declare_178 : decode cX10_declare 178 = .ok (.aload_n 0, 1) := by decide +kernel
theorem dX10_declare_179 : decode cX10_declare 179 = .ok (.getfield 138, 3) := by decide +kernel
theorem dX10_declare_182 : decode cX10_declare 182 = .ok (.ireturn, 1) := by decide +kernel
set_option maxRecDepth 20000 in
theorem ggX10_line_X10_isLine : GoodIn wsX10_line wsX10_isLine := goodIn_r _ [13, 14, 15, 16, 12, 17, 18, 19, 20, 21, 22, 23, 24, 25, 26, 27, 28, 29, 30, 31, 32, 33, 34, 35, 36, 37, 38, 39, 40, 41, 42, 43, 44, 45, 46, 47, 48, 49, 50, 51, 52, 53, 54, 55, 56, 57, 58] (by decide +kernel) (by decide +kernel)
set_option maxRecDepth 20000 in
theorem gX10_line_X10_isLine : GoodIn wsX10_line (wsV RX10 167 RX10 yX10_isLine wsX10_isLine) := goodIn_app (goodIn_of _ (by decide +kernel)) ggX10_line_X10_isLine
set_option maxRecDepth 20000 in
theorem ggX10_line_X10_isIn : GoodIn wsX10_line wsX10_isIn := goodIn_r _ [17] (by decide +kernel) (by decide +kernel)
set_option maxRecDepth 20000 in
theorem gX10_line_X10_isIn : GoodIn wsX10_line (va_wsS RX10 104 yX10_isIn wsX10_isIn) := goodIn_app (goodIn_of _ (by decide +kernel)) ggX10_line_X10_isIn
theorem dX10_line_0 : decode cX10_line 0 = .ok (.aload_n 0, 1) := by decide +kernel
theorem dX10_line_1 : decode cX10_line 1 = .ok (.iload_n 1, 1) := by decide +kernel
theorem dX10_line_2 : decode cX10_line 2 = .ok (.invokevirtual 167, 3) := by decide +kernel
theorem dX10_line_5 : decode cX10_line 5 = .ok (.ifCond .eq 13, 3) := by decide +kernel
theorem dX10_line_8 : decode cX10_line 8 = .ok (.iload_n 2, 1) := by decide +kernel
theorem dX10_line_9 : decode cX10_line 9 = .ok (.iconst 0, 1) := by decide +kernel
theorem dX10_line_10 : decode cX10_line 10 = .ok (.bipush 6, 2) := by decide +kernel
theorem dX10_line_12 : decode cX10_line 12 = .ok (.invokestatic 104, 3) := by decide +kernel
theorem dX10_line_15 : decode cX10_line 15 = .ok (.ifCond .ne 6, 3) := by decide +kernel
theorem dX10_line_18 : decode cX10_line 18 = .ok (.ldc 116, 2) := by decide +kernel
theorem dX10_line_20 : decode cX10_line 20 = .ok (.ireturn, 1) := by decide +kernel
theorem dX10_line_21 : decode cX10_line 21 = .ok (.iload_n 2, 1) := by decide +kernel
theorem dX10_line_22 : decode cX10_line 22 = .ok (.tableswitch 80 0 5 #[38, 45, 52, 59, 66, 73], 38) := by decide +kernel
theorem dX10_line_60 : decode cX10_line 60 = .ok (.aload_n 0, 1) := by decide +kernel
theorem dX10_line_61 : decode cX10_line 61 = .ok (.getfield 19, 3) := by decide +kernel
theorem dX10_line_64 : decode cX10_line 64 = .ok (.iload_n 1, 1) := by decide +kernel
theorem dX10_line_65 : decode cX10_line 65 = .ok (.iaload, 1) := by decide +kernel
theorem dX10_line_66 : decode cX10_line 66 = .ok (.ireturn, 1) := by decide +kernel
theorem dX10_line_67 : decode cX10_line 67 = .ok (.aload_n 0, 1) := by decide +kernel
theorem dX10_line_68 : decode cX10_line 68 = .ok (.getfield 22, 3) := by decide +kernel
theorem dX10_line_71 : decode cX10_line 71 = .ok (.iload_n 1, 1) := by decide +kernel
theorem dX10_line_72 : decode cX10_line 72 = .ok (.iaload, 1) := by decide +kernel
theorem dX10_line_73 : decode cX10_line 73 = .ok (.ireturn, 1) := by decide +kernel
theorem dX10_line_74 : decode cX10_line 74 = .ok (.aload_n 0, 1) := by decide +kernel
theorem dX10_line_75 : decode cX10_line 75 = .ok (.getfield 25, 3) := by decide +kernel
theorem dX10_line_78 : decode cX10_line 78 = .ok (.iload_n 1, 1) := by decide +kernel
theorem dX10_line_79 : decode cX10_line 79 = .ok (.iaload, 1) := by decide +kernel
theorem dX10_line_80 : decode cX10_line 80 = .ok (.ireturn, 1) := by decide +kernel
theorem dX10_line_81 : decode cX10_line 81 = .ok (.aload_n 0, 1) := by decide +kernel
theorem dX10_line_82 : decode cX10_line 82 = .ok (.getfield 28, 3) := by decide +kernel
theorem dX10_line_85 : decode cX10_line 85 = .ok (.iload_n 1, 1) := by decide +kernel
theorem dX10_line_86 : decode cX10_line 86 = .ok (.iaload, 1) := by decide +kernel
theorem dX10_line_87 : decode cX10_line 87 = .ok (.ireturn, 1) := by decide +kernel
theorem dX10_line_88 : decode cX10_line 88 = .ok (.aload_n 0, 1) := by decide +kernel
theorem dX10_line_89 : decode cX10_line 89 = .ok (.getfield 31, 3) := by decide +kernel
theorem dX10_line_92 : decode cX10_line 92 = .ok (.iload_n 1, 1) := by decide +kernel
theorem dX10_line_93 : decode cX10_line 93 = .ok (.iaload, 1) := by decide +kernel
theorem dX10_line_94 : decode cX10_line 94 = .ok (.ireturn, 1) := by decide +kernel
theorem dX10_line_95 : decode cX10_line 95 = .ok (.aload_n 0, 1) := by decide +kernel
theorem dX10_line_96 : decode cX10_line 96 = .ok (.getfield 34, 3) := by decide +kernel
theorem dX10_line_99 : decode cX10_line 99 = .ok (.iload_n 1, 1) := by decide +kernel
theorem dX10_line_100 : decode cX10_line 100 = .ok (.iaload, 1) := by decide +kernel
theorem dX10_line_101 : decode cX10_line 101 = .ok (.ireturn, 1) := by decide +kernel
theorem dX10_line_102 : decode cX10_line 102 = .ok (.aload_n 0, 1) := by decide +kernel
theorem dX10_line_103 : decode cX10_line 103 = .ok (.getfield 37, 3) := by decide +kernel
theorem dX10_line_106 : decode cX10_line 106 = .ok (.iload_n 1, 1) := by decide +kernel
theorem dX10_line_107 : decode cX10_line 107 = .ok (.iaload, 1) := by decide +kernel
theorem dX10_line_108 : decode cX10_line 108 = .ok (.ireturn, 1) := by decide +kernel
set_option maxRecDepth 20000 in
theorem ggX10_isOf_X10_isLine : GoodIn wsX10_isOf wsX10_isLine := goodIn_r _ [7, 8, 9, 10, 6, 11, 12, 13, 14, 15, 16, 17, 18, 19, 20, 21, 22, 23, 24, 25, 26, 27, 28, 29, 30, 31, 32, 33, 34, 35, 36, 37, 38, 39, 40, 41, 42, 43, 44, 45, 46, 47, 48, 49, 50, 51, 52] (by decide +kernel) (by decide +kernel)
set_option maxRecDepth 20000 in
theorem gX10_isOf_X10_isLine : GoodIn wsX10_isOf (wsV RX10 167 RX10 yX10_isLine wsX10_isLine) := goodIn_app (goodIn_of _ (by decide +kernel)) ggX10_isOf_X10_isLine
set_option maxRecDepth 20000 in
theorem ggX10_isOf_X10_isIn : GoodIn wsX10_isOf wsX10_isIn := goodIn_r _ [11] (by decide +kernel) (by decide +kernel)
set_option maxRecDepth 20000 in
theorem gX10_isOf_X10_isIn : GoodIn wsX10_isOf (va_wsS RX10 104 yX10_isIn wsX10_isIn) := goodIn_app (goodIn_of _ (by decide +kernel)) ggX10_isOf_X10_isIn
theorem dX10_isOf_0 : decode cX10_isOf 0 = .ok (.aload_n 0, 1) := by decide +kernel
theorem dX10_isOf_1 : decode cX10_isOf 1 = .ok (.iload_n 1, 1) := by decide +kernel
theorem dX10_isOf_2 : decode cX10_isOf 2 = .ok (.invokevirtual 167, 3) := by decide +kernel
theorem dX10_isOf_5 : decode cX10_isOf 5 = .ok (.ifCond .eq 13, 3) := by decide +kernel
theorem dX10_isOf_8 : decode cX10_isOf 8 = .ok (.iload_n 2, 1) := by decide +kernel
theorem dX10_isOf_9 : decode cX10_isOf 9 = .ok (.iconst 0, 1) := by decide +kernel
theorem dX10_isOf_10 : decode cX10_isOf 10 = .ok (.bipush 7, 2) := by decide +kernel
theorem dX10_isOf_12 : decode cX10_isOf 12 = .ok (.invokestatic 104, 3) := by decide +kernel
theorem dX10_isOf_15 : decode cX10_isOf 15 = .ok (.ifCond .ne 6, 3) := by decide +kernel
theorem dX10_isOf_18 : decode cX10_isOf 18 = .ok (.ldc 116, 2) := by decide +kernel
theorem dX10_isOf_20 : decode cX10_isOf 20 = .ok (.ireturn, 1) := by decide +kernel
theorem dX10_isOf_21 : decode cX10_isOf 21 = .ok (.aload_n 0, 1) := by decide +kernel
theorem dX10_isOf_22 : decode cX10_isOf 22 = .ok (.getfield 19, 3) := by decide +kernel
theorem dX10_isOf_25 : decode cX10_isOf 25 = .ok (.iload_n 1, 1) := by decide +kernel
theorem dX10_isOf_26 : decode cX10_isOf 26 = .ok (.iaload, 1) := by decide +kernel
theorem dX10_isOf_27 : decode cX10_isOf 27 = .ok (.istore_n 3, 1) := by decide +kernel
theorem dX10_isOf_28 : decode cX10_isOf 28 = .ok (.iload_n 3, 1) := by decide +kernel
theorem dX10_isOf_29 : decode cX10_isOf 29 = .ok (.iconst 4, 1) := by decide +kernel
theorem dX10_isOf_30 : decode cX10_isOf 30 = .ok (.if_icmp .eq 8, 3) := by decide +kernel
theorem dX10_isOf_33 : decode cX10_isOf 33 = .ok (.iload_n 3, 1) := by decide +kernel
theorem dX10_isOf_34 : decode cX10_isOf 34 = .ok (.iconst 5, 1) := by decide +kernel
theorem dX10_isOf_35 : decode cX10_isOf 35 = .ok (.if_icmp .ne 7, 3) := by decide +kernel
theorem dX10_isOf_38 : decode cX10_isOf 38 = .ok (.iconst 1, 1) := by decide +kernel
theorem dX10_isOf_39 : decode cX10_isOf 39 = .ok (.goto 4, 3) := by decide +kernel
theorem dX10_isOf_42 : decode cX10_isOf 42 = .ok (.iconst 0, 1) := by decide +kernel
theorem dX10_isOf_43 : decode cX10_isOf 43 = .ok (.istore 4, 2) := by decide +kernel
theorem dX10_isOf_45 : decode cX10_isOf 45 = .ok (.iload_n 3, 1) := by decide +kernel
theorem dX10_isOf_46 : decode cX10_isOf 46 = .ok (.iconst 1, 1) := by decide +kernel
theorem dX10_isOf_47 : decode cX10_isOf 47 = .ok (.if_icmp .eq 13, 3) := by decide +kernel
theorem dX10_isOf_50 : decode cX10_isOf 50 = .ok (.iload_n 3, 1) := by decide +kernel
theorem dX10_isOf_51 : decode cX10_isOf 51 = .ok (.iconst 2, 1) := by decide +kernel
theorem dX10_isOf_52 : decode cX10_isOf 52 = .ok (.if_icmp .eq 8, 3) := by decide +kernel
theorem dX10_isOf_55 : decode cX10_isOf 55 = .ok (.iload_n 3, 1) := by decide +kernel
theorem dX10_isOf_56 : decode cX10_isOf 56 = .ok (.iconst 5, 1) := by decide +kernel
theorem dX10_isOf_57 : decode cX10_isOf 57 = .ok (.if_icmp .ne 7, 3) := by decide +kernel
theorem dX10_isOf_60 : decode cX10_isOf 60 = .ok (.iconst 1, 1) := by decide +kernel
theorem dX10_isOf_61 : decode cX10_isOf 61 = .ok (.goto 4, 3) := by decide +kernel
theorem dX10_isOf_64 : decode cX10_isOf 64 = .ok (.iconst 0, 1) := by decide +kernel
theorem dX10_isOf_65 : decode cX10_isOf 65 = .ok (.istore 5, 2) := by decide +kernel
theorem dX10_isOf_67 : decode cX10_isOf 67 = .ok (.iload_n 2, 1) := by decide +kernel
theorem dX10_isOf_68 : decode cX10_isOf 68 = .ok (.ifCond .eq 30, 3) := by decide +kernel
theorem dX10_isOf_71 : decode cX10_isOf 71 = .ok (.iload_n 2, 1) := by decide +kernel
theorem dX10_isOf_72 : decode cX10_isOf 72 = .ok (.iload_n 3, 1) := by decide +kernel
theorem dX10_isOf_73 : decode cX10_isOf 73 = .ok (.if_icmp .eq 25, 3) := by decide +kernel
theorem dX10_isOf_76 : decode cX10_isOf 76 = .ok (.iload_n 2, 1) := by decide +kernel
theorem dX10_isOf_77 : decode cX10_isOf 77 = .ok (.bipush 6, 2) := by decide +kernel
theorem dX10_isOf_79 : decode cX10_isOf 79 = .ok (.if_icmp .ne 8, 3) := by decide +kernel
theorem dX10_isOf_82 : decode cX10_isOf 82 = .ok (.iload 4, 2) := by decide +kernel
theorem dX10_isOf_84 : decode cX10_isOf 84 = .ok (.ifCond .ne 14, 3) := by decide +kernel
theorem dX10_isOf_87 : decode cX10_isOf 87 = .ok (.iload_n 2, 1) := by decide +kernel
theorem dX10_isOf_88 : decode cX10_isOf 88 = .ok (.bipush 7, 2) := by decide +kernel
theorem dX10_isOf_90 : decode cX10_isOf 90 = .ok (.if_icmp .ne 12, 3) := by decide +kernel
theorem dX10_isOf_93 : decode cX10_isOf 93 = .ok (.iload 5, 2) := by decide +kernel
theorem dX10_isOf_95 : decode cX10_isOf 95 = .ok (.ifCond .eq 7, 3) := by decide +kernel
theorem dX10_isOf_98 : decode cX10_isOf 98 = .ok (.iconst 1, 1) := by decide +kernel
theorem dX10_isOf_99 : decode cX10_isOf 99 = .ok (.goto 4, 3) := by decide +kernel
theorem dX10_isOf_102 : decode cX10_isOf 102 = .ok (.iconst 0, 1) := by decide +kernel
theorem dX10_isOf_103 : decode cX10_isOf 103 = .ok (.ireturn, 1) := by decide +kernel
theorem dX10_standsOn_0 : decode cX10_standsOn 0 = .ok (.aload_n 0, 1) := by decide +kernel
theorem dX10_standsOn_1 : decode cX10_standsOn 1 = .ok (.getfield 28, 3) := by decide +kernel
theorem dX10_standsOn_4 : decode cX10_standsOn 4 = .ok (.iload_n 1, 1) := by decide +kernel
theorem dX10_standsOn_5 : decode cX10_standsOn 5 = .ok (.iaload, 1) := by decide +kernel
theorem dX10_standsOn_6 : decode cX10_standsOn 6 = .ok (.iload_n 2, 1) := by decide +kernel
theorem dX10_standsOn_7 : decode cX10_standsOn 7 = .ok (.if_icmp .le 5, 3) := by decide +kernel
theorem dX10_standsOn_10 : decode cX10_standsOn 10 = .ok (.iconst 0, 1) := by decide +kernel
theorem dX10_standsOn_11 : decode cX10_standsOn 11 = .ok (.ireturn, 1) := by decide +kernel
theorem dX10_standsOn_12 : decode cX10_standsOn 12 = .ok (.iconst 1, 1) := by decide +kernel
theorem dX10_standsOn_13 : decode cX10_standsOn 13 = .ok (.istore_n 3, 1) := by decide +kernel
theorem dX10_standsOn_14 : decode cX10_standsOn 14 = .ok (.iconst 0, 1) := by decide +kernel
theorem dX10_standsOn_15 : decode cX10_standsOn 15 = .ok (.istore 4, 2) := by decide +kernel
theorem dX10_standsOn_17 : decode cX10_standsOn 17 = .ok (.iload 4, 2) := by decide +kernel
theorem dX10_standsOn_19 : decode cX10_standsOn 19 = .ok (.aload_n 0, 1) := by decide +kernel
theorem dX10_standsOn_20 : decode cX10_standsOn 20 = .ok (.getfield 37, 3) := by decide +kernel
theorem dX10_standsOn_23 : decode cX10_standsOn 23 = .ok (.iload_n 1, 1) := by decide +kernel
theorem dX10_standsOn_24 : decode cX10_standsOn 24 = .ok (.iaload, 1) := by decide +kernel
theorem dX10_standsOn_25 : decode cX10_standsOn 25 = .ok (.if_icmp .ge 46, 3) := by decide +kernel
theorem dX10_standsOn_28 : decode cX10_standsOn 28 = .ok (.aload_n 0, 1) := by decide +kernel
theorem dX10_standsOn_29 : decode cX10_standsOn 29 = .ok (.getfield 40, 3) := by decide +kernel
theorem dX10_standsOn_32 : decode cX10_standsOn 32 = .ok (.bipush 8, 2) := by decide +kernel
theorem dX10_standsOn_34 : decode cX10_standsOn 34 = .ok (.iload_n 1, 1) := by decide +kernel
theorem dX10_standsOn_35 : decode cX10_standsOn 35 = .ok (.imul, 1) := by decide +kernel
theorem dX10_standsOn_36 : decode cX10_standsOn 36 = .ok (.iload 4, 2) := by decide +kernel
theorem dX10_standsOn_38 : decode cX10_standsOn 38 = .ok (.iadd, 1) := by decide +kernel
theorem dX10_standsOn_39 : decode cX10_standsOn 39 = .ok (.iaload, 1) := by decide +kernel
theorem dX10_standsOn_40 : decode cX10_standsOn 40 = .ok (.iload_n 2, 1) := by decide +kernel
theorem dX10_standsOn_41 : decode cX10_standsOn 41 = .ok (.if_icmp .gt 24, 3) := by decide +kernel
theorem dX10_standsOn_44 : decode cX10_standsOn 44 = .ok (.aload_n 0, 1) := by decide +kernel
theorem dX10_standsOn_45 : decode cX10_standsOn 45 = .ok (.getfield 43, 3) := by decide +kernel
theorem dX10_standsOn_48 : decode cX10_standsOn 48 = .ok (.bipush 8, 2) := by decide +kernel
theorem dX10_standsOn_50 : decode cX10_standsOn 50 = .ok (.iload_n 1, 1) := by decide +kernel
theorem dX10_standsOn_51 : decode cX10_standsOn 51 = .ok (.imul, 1) := by decide +kernel
theorem dX10_standsOn_52 : decode cX10_standsOn 52 = .ok (.iload 4, 2) := by decide +kernel
theorem dX10_standsOn_54 : decode cX10_standsOn 54 = .ok (.iadd, 1) := by decide +kernel
theorem dX10_standsOn_55 : decode cX10_standsOn 55 = .ok (.iaload, 1) := by decide +kernel
theorem dX10_standsOn_56 : decode cX10_standsOn 56 = .ok (.ifCond .ne 7, 3) := by decide +kernel
theorem dX10_standsOn_59 : decode cX10_standsOn 59 = .ok (.iconst 1, 1) := by decide +kernel
theorem dX10_standsOn_60 : decode cX10_standsOn 60 = .ok (.goto 4, 3) := by decide +kernel
theorem dX10_standsOn_63 : decode cX10_standsOn 63 = .ok (.iconst 0, 1) := by decide +kernel
theorem dX10_standsOn_64 : decode cX10_standsOn 64 = .ok (.istore_n 3, 1) := by decide +kernel
theorem dX10_standsOn_65 : decode cX10_standsOn 65 = .ok (.iinc 4 1, 3) := by decide +kernel
theorem dX10_standsOn_68 : decode cX10_standsOn 68 = .ok (.goto (-51), 3) := by decide +kernel
theorem dX10_standsOn_71 : decode cX10_standsOn 71 = .ok (.iload_n 3, 1) := by decide +kernel
theorem dX10_standsOn_72 : decode cX10_standsOn 72 = .ok (.ireturn, 1) := by decide +kernel
set_option maxRecDepth 20000 in
theorem ggX10_appeal_X10_isLine : GoodIn wsX10_appeal wsX10_isLine := goodIn_r _ [12, 13, 14, 15, 11, 16, 22, 23, 24, 25, 26, 27, 28, 29, 30, 31, 32, 33, 34, 35, 36, 37, 38, 39, 40, 41, 42, 43, 44, 45, 46, 47, 48, 49, 50, 51, 52, 53, 54, 55, 56, 57, 58, 59, 60, 61, 62] (by decide +kernel) (by decide +kernel)
set_option maxRecDepth 20000 in
theorem gX10_appeal_X10_isLine : GoodIn wsX10_appeal (wsV RX10 167 RX10 yX10_isLine wsX10_isLine) := goodIn_app (goodIn_of _ (by decide +kernel)) ggX10_appeal_X10_isLine
set_option maxRecDepth 20000 in
theorem ggX10_appeal_X10_isIn : GoodIn wsX10_appeal wsX10_isIn := goodIn_r _ [16] (by decide +kernel) (by decide +kernel)
set_option maxRecDepth 20000 in
theorem gX10_appeal_X10_isIn : GoodIn wsX10_appeal (va_wsS RX10 104 yX10_isIn wsX10_isIn) := goodIn_app (goodIn_of _ (by decide +kernel)) ggX10_appeal_X10_isIn
set_option maxRecDepth 20000 in
theorem ggX10_appeal_X10_standsOn : GoodIn wsX10_appeal wsX10_standsOn := goodIn_r _ [20, 21, 4, 6, 7, 22, 23, 24, 25, 26, 27, 28, 29, 30, 31, 32, 33, 34, 35, 36, 37, 38, 39, 40, 41, 42, 43, 44, 45, 46, 47, 48, 49, 50, 51, 52, 53, 54, 55, 56, 57, 58, 59, 60, 61, 62] (by decide +kernel) (by decide +kernel)
set_option maxRecDepth 20000 in
theorem gX10_appeal_X10_standsOn : GoodIn wsX10_appeal (wsV RX10 170 RX10 yX10_standsOn wsX10_standsOn) := goodIn_app (goodIn_of _ (by decide +kernel)) ggX10_appeal_X10_standsOn
theorem dX10_appeal_0 : decode cX10_appeal 0 = .ok (.aload_n 0, 1) := by decide +kernel
theorem dX10_appeal_1 : decode cX10_appeal 1 = .ok (.iload_n 1, 1) := by decide +kernel
theorem dX10_appeal_2 : decode cX10_appeal 2 = .ok (.invokevirtual 167, 3) := by decide +kernel
theorem dX10_appeal_5 : decode cX10_appeal 5 = .ok (.ifCond .eq 12, 3) := by decide +kernel
theorem dX10_appeal_8 : decode cX10_appeal 8 = .ok (.iload_n 2, 1) := by decide +kernel
theorem dX10_appeal_9 : decode cX10_appeal 9 = .ok (.iconst 0, 1) := by decide +kernel
theorem dX10_appeal_10 : decode cX10_appeal 10 = .ok (.iconst 1, 1) := by decide +kernel
theorem dX10_appeal_11 : decode cX10_appeal 11 = .ok (.invokestatic 104, 3) := by decide +kernel
theorem dX10_appeal_14 : decode cX10_appeal 14 = .ok (.ifCond .ne 6, 3) := by decide +kernel
theorem dX10_appeal_17 : decode cX10_appeal 17 = .ok (.ldc 116, 2) := by decide +kernel
theorem dX10_appeal_19 : decode cX10_appeal 19 = .ok (.ireturn, 1) := by decide +kernel
theorem dX10_appeal_20 : decode cX10_appeal 20 = .ok (.aload_n 0, 1) := by decide +kernel
theorem dX10_appeal_21 : decode cX10_appeal 21 = .ok (.iload_n 1, 1) := by decide +kernel
theorem dX10_appeal_22 : decode cX10_appeal 22 = .ok (.aload_n 0, 1) := by decide +kernel
theorem dX10_appeal_23 : decode cX10_appeal 23 = .ok (.getfield 113, 3) := by decide +kernel
theorem dX10_appeal_26 : decode cX10_appeal 26 = .ok (.invokevirtual 170, 3) := by decide +kernel
theorem dX10_appeal_29 : decode cX10_appeal 29 = .ok (.iload_n 2, 1) := by decide +kernel
theorem dX10_appeal_30 : decode cX10_appeal 30 = .ok (.iconst 1, 1) := by decide +kernel
theorem dX10_appeal_31 : decode cX10_appeal 31 = .ok (.if_icmp .ne 7, 3) := by decide +kernel
theorem dX10_appeal_34 : decode cX10_appeal 34 = .ok (.iconst 1, 1) := by decide +kernel
theorem dX10_appeal_35 : decode cX10_appeal 35 = .ok (.goto 4, 3) := by decide +kernel
theorem dX10_appeal_38 : decode cX10_appeal 38 = .ok (.iconst 0, 1) := by decide +kernel
theorem dX10_appeal_39 : decode cX10_appeal 39 = .ok (.if_icmp .eq 6, 3) := by decide +kernel
theorem dX10_appeal_42 : decode cX10_appeal 42 = .ok (.ldc 174, 2) := by decide +kernel
theorem dX10_appeal_44 : decode cX10_appeal 44 = .ok (.ireturn, 1) := by decide +kernel
theorem dX10_appeal_45 : decode cX10_appeal 45 = .ok (.aload_n 0, 1) := by decide +kernel
theorem dX10_appeal_46 : decode cX10_appeal 46 = .ok (.getfield 37, 3) := by decide +kernel
theorem dX10_appeal_49 : decode cX10_appeal 49 = .ok (.iload_n 1, 1) := by decide +kernel
theorem dX10_appeal_50 : decode cX10_appeal 50 = .ok (.iaload, 1) := by decide +kernel
theorem dX10_appeal_51 : decode cX10_appeal 51 = .ok (.bipush 8, 2) := by decide +kernel
theorem dX10_appeal_53 : decode cX10_appeal 53 = .ok (.if_icmp .ne 6, 3) := by decide +kernel
theorem dX10_appeal_56 : decode cX10_appeal 56 = .ok (.ldc 120, 2) := by decide +kernel
theorem dX10_appeal_58 : decode cX10_appeal 58 = .ok (.ireturn, 1) := by decide +kernel
theorem dX10_appeal_59 : decode cX10_appeal 59 = .ok (.aload_n 0, 1) := by decide +kernel
theorem dX10_appeal_60 : decode cX10_appeal 60 = .ok (.getfield 40, 3) := by decide +kernel
theorem dX10_appeal_63 : decode cX10_appeal 63 = .ok (.bipush 8, 2) := by decide +kernel
theorem dX10_appeal_65 : decode cX10_appeal 65 = .ok (.iload_n 1, 1) := by decide +kernel
theorem dX10_appeal_66 : decode cX10_appeal 66 = .ok (.imul, 1) := by decide +kernel
theorem dX10_appeal_67 : decode cX10_appeal 67 = .ok (.aload_n 0, 1) := by decide +kernel
theorem dX10_appeal_68 : decode cX10_appeal 68 = .ok (.getfield 37, 3) := by decide +kernel
theorem dX10_appeal_71 : decode cX10_appeal 71 = .ok (.iload_n 1, 1) := by decide +kernel
theorem dX10_appeal_72 : decode cX10_appeal 72 = .ok (.iaload, 1) := by decide +kernel
theorem dX10_appeal_73 : decode cX10_appeal 73 = .ok (.iadd, 1) := by decide +kernel
theorem dX10_appeal_74 : decode cX10_appeal 74 = .ok (.aload_n 0, 1) := by decide +kernel
theorem dX10_appeal_75 : decode cX10_appeal 75 = .ok (.getfield 113, 3) := by decide +kernel
theorem dX10_appeal_78 : decode cX10_appeal 78 = .ok (.iastore, 1) := by decide +kernel
theorem dX10_appeal_79 : decode cX10_appeal 79 = .ok (.aload_n 0, 1) := by decide +kernel
theorem dX10_appeal_80 : decode cX10_appeal 80 = .ok (.getfield 43, 3) := by decide +kernel
theorem dX10_appeal_83 : decode cX10_appeal 83 = .ok (.bipush 8, 2) := by decide +kernel
theorem dX10_appeal_85 : decode cX10_appeal 85 = .ok (.iload_n 1, 1) := by decide +kernel
theorem dX10_appeal_86 : decode cX10_appeal 86 = .ok (.imul, 1) := by decide +kernel
theorem dX10_appeal_87 : decode cX10_appeal 87 = .ok (.aload_n 0, 1) := by decide +kernel
theorem dX10_appeal_88 : decode cX10_appeal 88 = .ok (.getfield 37, 3) := by decide +kernel
theorem dX10_appeal_91 : decode cX10_appeal 91 = .ok (.iload_n 1, 1) := by decide +kernel
theorem dX10_appeal_92 : decode cX10_appeal 92 = .ok (.iaload, 1) := by decide +kernel
theorem dX10_appeal_93 : decode cX10_appeal 93 = .ok (.iadd, 1) := by decide +kernel
theorem dX10_appeal_94 : decode cX10_appeal 94 = .ok (.iload_n 2, 1) := by decide +kernel
theorem dX10_appeal_95 : decode cX10_appeal 95 = .ok (.iastore, 1) := by decide +kernel
theorem dX10_appeal_96 : decode cX10_appeal 96 = .ok (.aload_n 0, 1) := by decide +kernel
theorem dX10_appeal_97 : decode cX10_appeal 97 = .ok (.getfield 37, 3) := by decide +kernel
theorem dX10_appeal_100 : decode cX10_appeal 100 = .ok (.iload_n 1, 1) := by decide +kernel
theorem dX10_appeal_101 : decode cX10_appeal 101 = .ok (.dup2, 1) := by decide +kernel
theorem dX10_appeal_102 : decode cX10_appeal 102 = .ok (.iaload, 1) := by decide +kernel
theorem dX10_appeal_103 : decode cX10_appeal 103 = .ok (.iconst 1, 1) := by decide +kernel
theorem dX10_appeal_104 : decode cX10_appeal 104 = .ok (.iadd, 1) := by decide +kernel
theorem dX10_appeal_105 : decode cX10_appeal 105 = .ok (.iastore, 1) := by decide +kernel
theorem dX10_appeal_106 : decode cX10_appeal 106 = .ok (.aload_n 0, 1) := by decide +kernel
theorem dX10_appeal_107 : decode cX10_appeal 107 = .ok (.getfield 37, 3) := by decide +kernel
theorem dX10_appeal_110 : decode cX10_appeal 110 = .ok (.iload_n 1, 1) := by decide +kernel
theorem dX10_appeal_111 : decode cX10_appeal 111 = .ok (.iaload, 1) := by decide +kernel
theorem dX10_appeal_112 : decode cX10_appeal 112 = .ok (.ireturn, 1) := by decide +kernel
set_option maxRecDepth 20000 in
theorem ggX10_stands_X10_isLine : GoodIn wsX10_stands wsX10_isLine := goodIn_r _ [6, 7, 8, 9, 5, 10, 23, 24, 25, 26, 27, 28, 29, 30, 31, 32, 33, 34, 35, 36, 37, 38, 39, 40, 41, 42, 43, 44, 45, 46, 47, 48, 49, 50, 51, 52, 53, 54, 55, 56, 57, 58, 59, 60, 61, 62, 63] (by decide +kernel) (by decide +kernel)
set_option maxRecDepth 20000 in
theorem gX10_stands_X10_isLine : GoodIn wsX10_stands (wsV RX10 167 RX10 yX10_isLine wsX10_isLine) := goodIn_app (goodIn_of _ (by decide +kernel)) ggX10_stands_X10_isLine
set_option maxRecDepth 20000 in
theorem ggX10_stands_X10_isDay : GoodIn wsX10_stands wsX10_isDay := goodIn_r _ [13, 14, 8, 9, 5, 10] (by decide +kernel) (by decide +kernel)
set_option maxRecDepth 20000 in
theorem gX10_stands_X10_isDay : GoodIn wsX10_stands (va_wsS RX10 175 yX10_isDay wsX10_isDay) := goodIn_app (goodIn_of _ (by decide +kernel)) ggX10_stands_X10_isDay
set_option maxRecDepth 20000 in
theorem ggX10_stands_X10_standsOn : GoodIn wsX10_stands wsX10_standsOn := goodIn_r _ [18, 19, 20, 21, 22, 23, 24, 25, 26, 27, 28, 29, 30, 31, 32, 33, 34, 35, 36, 37, 38, 39, 40, 41, 42, 43, 44, 45, 46, 47, 48, 49, 50, 51, 52, 53, 54, 55, 56, 57, 58, 59, 60, 61, 62, 63] (by decide +kernel) (by decide +kernel)
set_option maxRecDepth 20000 in
theorem gX10_stands_X10_standsOn : GoodIn wsX10_stands (wsV RX10 170 RX10 yX10_standsOn wsX10_standsOn) := goodIn_app (goodIn_of _ (by decide +kernel)) ggX10_stands_X10_standsOn
theorem dX10_stands_0 : decode cX10_stands 0 = .ok (.aload_n 0, 1) := by decide +kernel
theorem dX10_stands_1 : decode cX10_stands 1 = .ok (.iload_n 1, 1) := by decide +kernel
theorem dX10_stands_2 : decode cX10_stands 2 = .ok (.invokevirtual 167, 3) := by decide +kernel
theorem dX10_stands_5 : decode cX10_stands 5 = .ok (.ifCond .eq 10, 3) := by decide +kernel
theorem dX10_stands_8 : decode cX10_stands 8 = .ok (.iload_n 2, 1) := by decide +kernel
theorem dX10_stands_9 : decode cX10_stands 9 = .ok (.invokestatic 175, 3) := by decide +kernel
theorem dX10_stands_12 : decode cX10_stands 12 = .ok (.ifCond .ne 6, 3) := by decide +kernel
theorem dX10_stands_15 : decode cX10_stands 15 = .ok (.ldc 116, 2) := by decide +kernel
theorem dX10_stands_17 : decode cX10_stands 17 = .ok (.ireturn, 1) := by decide +kernel
theorem dX10_stands_18 : decode cX10_stands 18 = .ok (.aload_n 0, 1) := by decide +kernel
theorem dX10_stands_19 : decode cX10_stands 19 = .ok (.iload_n 1, 1) := by decide +kernel
theorem dX10_stands_20 : decode cX10_stands 20 = .ok (.iload_n 2, 1) := by decide +kernel
theorem dX10_stands_21 : decode cX10_stands 21 = .ok (.invokevirtual 170, 3) := by decide +kernel
theorem dX10_stands_24 : decode cX10_stands 24 = .ok (.ifCond .eq 7, 3) := by decide +kernel
theorem dX10_stands_27 : decode cX10_stands 27 = .ok (.iconst 1, 1) := by decide +kernel
theorem dX10_stands_28 : decode cX10_stands 28 = .ok (.goto 4, 3) := by decide +kernel
theorem dX10_stands_31 : decode cX10_stands 31 = .ok (.iconst 0, 1) := by decide +kernel
theorem dX10_stands_32 : decode cX10_stands 32 = .ok (.ireturn, 1) := by decide +kernel
set_option maxRecDepth 20000 in
theorem ggX10_says_X10_isHouse : GoodIn wsX10_says wsX10_isHouse := goodIn_r _ [12, 13, 14, 11, 15] (by decide +kernel) (by decide +kernel)
set_option maxRecDepth 20000 in
theorem gX10_says_X10_isHouse : GoodIn wsX10_says (va_wsS RX10 152 yX10_isHouse wsX10_isHouse) := goodIn_app (goodIn_of _ (by decide +kernel)) ggX10_says_X10_isHouse
set_option maxRecDepth 20000 in
theorem ggX10_says_X10_isIn : GoodIn wsX10_says wsX10_isIn := goodIn_r _ [15] (by decide +kernel) (by decide +kernel)
set_option maxRecDepth 20000 in
theorem gX10_says_X10_isIn : GoodIn wsX10_says (va_wsS RX10 104 yX10_isIn wsX10_isIn) := goodIn_app (goodIn_of _ (by decide +kernel)) ggX10_says_X10_isIn
theorem dX10_says_0 : decode cX10_says 0 = .ok (.iload_n 1, 1) := by decide +kernel
theorem dX10_says_1 : decode cX10_says 1 = .ok (.invokestatic 152, 3) := by decide +kernel
theorem dX10_says_4 : decode cX10_says 4 = .ok (.ifCond .eq 20, 3) := by decide +kernel
theorem dX10_says_7 : decode cX10_says 7 = .ok (.iload_n 2, 1) := by decide +kernel
theorem dX10_says_8 : decode cX10_says 8 = .ok (.iconst 0, 1) := by decide +kernel
theorem dX10_says_9 : decode cX10_says 9 = .ok (.bipush 11, 2) := by decide +kernel
theorem dX10_says_11 : decode cX10_says 11 = .ok (.invokestatic 104, 3) := by decide +kernel
theorem dX10_says_14 : decode cX10_says 14 = .ok (.ifCond .eq 10, 3) := by decide +kernel
theorem dX10_says_17 : decode cX10_says 17 = .ok (.iload_n 3, 1) := by decide +kernel
theorem dX10_says_18 : decode cX10_says 18 = .ok (.invokestatic 152, 3) := by decide +kernel
theorem dX10_says_21 : decode cX10_says 21 = .ok (.ifCond .ne 6, 3) := by decide +kernel
theorem dX10_says_24 : decode cX10_says 24 = .ok (.ldc 116, 2) := by decide +kernel
theorem dX10_says_26 : decode cX10_says 26 = .ok (.ireturn, 1) := by decide +kernel
theorem dX10_says_27 : decode cX10_says 27 = .ok (.aload_n 0, 1) := by decide +kernel
theorem dX10_says_28 : decode cX10_says 28 = .ok (.getfield 178, 3) := by decide +kernel
theorem dX10_says_31 : decode cX10_says 31 = .ok (.bipush 40, 2) := by decide +kernel
theorem dX10_says_33 : decode cX10_says 33 = .ok (.if_icmp .ne 6, 3) := by decide +kernel
theorem dX10_says_36 : decode cX10_says 36 = .ok (.ldc 120, 2) := by decide +kernel
theorem dX10_says_38 : decode cX10_says 38 = .ok (.ireturn, 1) := by decide +kernel
theorem dX10_says_39 : decode cX10_says 39 = .ok (.aload_n 0, 1) := by decide +kernel
theorem dX10_says_40 : decode cX10_says 40 = .ok (.getfield 46, 3) := by decide +kernel
theorem dX10_says_43 : decode cX10_says 43 = .ok (.aload_n 0, 1) := by decide +kernel
theorem dX10_says_44 : decode cX10_says 44 = .ok (.getfield 178, 3) := by decide +kernel
theorem dX10_says_47 : decode cX10_says 47 = .ok (.iload_n 1, 1) := by decide +kernel
theorem dX10_says_48 : decode cX10_says 48 = .ok (.iastore, 1) := by decide +kernel
theorem dX10_says_49 : decode cX10_says 49 = .ok (.aload_n 0, 1) := by decide +kernel
theorem dX10_says_50 : decode cX10_says 50 = .ok (.getfield 49, 3) := by decide +kernel
theorem dX10_says_53 : decode cX10_says 53 = .ok (.aload_n 0, 1) := by decide +kernel
theorem dX10_says_54 : decode cX10_says 54 = .ok (.getfield 178, 3) := by decide +kernel
theorem dX10_says_57 : decode cX10_says 57 = .ok (.iload_n 2, 1) := by decide +kernel
theorem dX10_says_58 : decode cX10_says 58 = .ok (.iastore, 1) := by decide +kernel
theorem dX10_says_59 : decode cX10_says 59 = .ok (.aload_n 0, 1) := by decide +kernel
theorem dX10_says_60 : decode cX10_says 60 = .ok (.getfield 52, 3) := by decide +kernel
theorem dX10_says_63 : decode cX10_says 63 = .ok (.aload_n 0, 1) := by decide +kernel
theorem dX10_says_64 : decode cX10_says 64 = .ok (.getfield 178, 3) := by decide +kernel
theorem dX10_says_67 : decode cX10_says 67 = .ok (.iload_n 3, 1) := by decide +kernel
theorem dX10_says_68 : decode cX10_says 68 = .ok (.iastore, 1) := by decide +kernel
theorem dX10_says_69 : decode cX10_says 69 = .ok (.aload_n 0, 1) := by decide +kernel
theorem dX10_says_70 : decode cX10_says 70 = .ok (.getfield 55, 3) := by decide +kernel
theorem dX10_says_73 : decode cX10_says 73 = .ok (.aload_n 0, 1) := by decide +kernel
theorem dX10_says_74 : decode cX10_says 74 = .ok (.getfield 178, 3) := by decide +kernel
theorem dX10_says_77 : decode cX10_says 77 = .ok (.aload_n 0, 1) := by decide +kernel
theorem dX10_says_78 : decode cX10_says 78 = .ok (.getfield 113, 3) := by decide +kernel
theorem dX10_says_81 : decode cX10_says 81 = .ok (.iastore, 1) := by decide +kernel
theorem dX10_says_82 : decode cX10_says 82 = .ok (.aload_n 0, 1) := by decide +kernel
theorem dX10_says_83 : decode cX10_says 83 = .ok (.dup, 1) := by decide +kernel
theorem dX10_says_84 : decode cX10_says 84 = .ok (.getfield 178, 3) := by decide +kernel
theorem dX10_says_87 : decode cX10_says 87 = .ok (.iconst 1, 1) := by decide +kernel
theorem dX10_says_88 : decode cX10_says 88 = .ok (.iadd, 1) := by decide +kernel
theorem dX10_says_89 : decode cX10_says 89 = .ok (.putfield 178, 3) := by decide +kernel
theorem dX10_says_92 : decode cX10_says 92 = .ok (.aload_n 0, 1) := by decide +kernel
theorem dX10_says_93 : decode cX10_says 93 = .ok (.getfield 178, 3) := by decide +kernel
theorem dX10_says_96 : decode cX10_says 96 = .ok (.ireturn, 1) := by decide +kernel
theorem dX10_wordOf_0 : decode cX10_wordOf 0 = .ok (.ldc 148, 2) := by decide +kernel
theorem dX10_wordOf_2 : decode cX10_wordOf 2 = .ok (.istore 4, 2) := by decide +kernel
theorem dX10_wordOf_4 : decode cX10_wordOf 4 = .ok (.iconst 0, 1) := by decide +kernel
theorem dX10_wordOf_5 : decode cX10_wordOf 5 = .ok (.istore 5, 2) := by decide +kernel
theorem dX10_wordOf_7 : decode cX10_wordOf 7 = .ok (.iload 5, 2) := by decide +kernel
theorem dX10_wordOf_9 : decode cX10_wordOf 9 = .ok (.aload_n 0, 1) := by decide +kernel
theorem dX10_wordOf_10 : decode cX10_wordOf 10 = .ok (.getfield 178, 3) := by decide +kernel
theorem dX10_wordOf_13 : decode cX10_wordOf 13 = .ok (.if_icmp .ge 51, 3) := by decide +kernel
theorem dX10_wordOf_16 : decode cX10_wordOf 16 = .ok (.aload_n 0, 1) := by decide +kernel
theorem dX10_wordOf_17 : decode cX10_wordOf 17 = .ok (.getfield 46, 3) := by decide +kernel
theorem dX10_wordOf_20 : decode cX10_wordOf 20 = .ok (.iload 5, 2) := by decide +kernel
theorem dX10_wordOf_22 : decode cX10_wordOf 22 = .ok (.iaload, 1) := by decide +kernel
theorem dX10_wordOf_23 : decode cX10_wordOf 23 = .ok (.iload_n 1, 1) := by decide +kernel
theorem dX10_wordOf_24 : decode cX10_wordOf 24 = .ok (.if_icmp .ne 34, 3) := by decide +kernel
theorem dX10_wordOf_27 : decode cX10_wordOf 27 = .ok (.aload_n 0, 1) := by decide +kernel
theorem dX10_wordOf_28 : decode cX10_wordOf 28 = .ok (.getfield 49, 3) := by decide +kernel
theorem dX10_wordOf_31 : decode cX10_wordOf 31 = .ok (.iload 5, 2) := by decide +kernel
theorem dX10_wordOf_33 : decode cX10_wordOf 33 = .ok (.iaload, 1) := by decide +kernel
theorem dX10_wordOf_34 : decode cX10_wordOf 34 = .ok (.iload_n 2, 1) := by decide +kernel
theorem dX10_wordOf_35 : decode cX10_wordOf 35 = .ok (.if_icmp .ne 23, 3) := by decide +kernel
theorem dX10_wordOf_38 : decode cX10_wordOf 38 = .ok (.aload_n 0, 1) := by decide +kernel
theorem dX10_wordOf_39 : decode cX10_wordOf 39 = .ok (.getfield 55, 3) := by decide +kernel
theorem dX10_wordOf_42 : decode cX10_wordOf 42 = .ok (.iload 5, 2) := by decide +kernel
theorem dX10_wordOf_44 : decode cX10_wordOf 44 = .ok (.iaload, 1) := by decide +kernel
theorem dX10_wordOf_45 : decode cX10_wordOf 45 = .ok (.iload_n 3, 1) := by decide +kernel
theorem dX10_wordOf_46 : decode cX10_wordOf 46 = .ok (.if_icmp .gt 12, 3) := by decide +kernel
theorem dX10_wordOf_49 : decode cX10_wordOf 49 = .ok (.aload_n 0, 1) := by decide +kernel
theorem dX10_wordOf_50 : decode cX10_wordOf 50 = .ok (.getfield 52, 3) := by decide +kernel
theorem dX10_wordOf_53 : decode cX10_wordOf 53 = .ok (.iload 5, 2) := by decide +kernel
theorem dX10_wordOf_55 : decode cX10_wordOf 55 = .ok (.iaload, 1) := by decide +kernel
theorem dX10_wordOf_56 : decode cX10_wordOf 56 = .ok (.istore 4, 2) := by decide +kernel
theorem dX10_wordOf_58 : decode cX10_wordOf 58 = .ok (.iinc 5 1, 3) := by decide +kernel
theorem dX10_wordOf_61 : decode cX10_wordOf 61 = .ok (.goto (-54), 3) := by decide +kernel
theorem dX10_wordOf_64 : decode cX10_wordOf 64 = .ok (.iload 4, 2) := by decide +kernel
theorem dX10_wordOf_66 : decode cX10_wordOf 66 = .ok (.iload_n 1, 1) := by decide +kernel
theorem dX10_wordOf_67 : decode cX10_wordOf 67 = .ok (.if_icmp .ne 8, 3) := by decide +kernel
theorem dX10_wordOf_70 : decode cX10_wordOf 70 = .ok (.ldc 148, 2) := by decide +kernel
theorem dX10_wordOf_72 : decode cX10_wordOf 72 = .ok (.goto 5, 3) := by decide +kernel
theorem dX10_wordOf_75 : decode cX10_wordOf 75 = .ok (.iload 4, 2) := by decide +kernel
theorem dX10_wordOf_77 : decode cX10_wordOf 77 = .ok (.ireturn, 1) := by decide +kernel
set_option maxRecDepth 20000 in
theorem ggX10_told_X10_wordOf : GoodIn wsX10_told wsX10_wordOf := goodIn_r _ [6, 1, 7, 8, 9, 10, 11, 12, 13, 14, 15, 16, 17, 18, 19, 20, 21, 22, 23, 24, 25, 26, 27, 28, 29, 30, 31, 32, 33, 34, 35, 36, 37, 38, 39, 40, 41, 42, 43, 44, 45, 46, 47, 48, 49, 50, 51, 52] (by decide +kernel) (by decide +kernel)
set_option maxRecDepth 20000 in
theorem gX10_told_X10_wordOf : GoodIn wsX10_told (wsV RX10 181 RX10 yX10_wordOf wsX10_wordOf) := goodIn_app (goodIn_of _ (by decide +kernel)) ggX10_told_X10_wordOf
theorem dX10_told_0 : decode cX10_told 0 = .ok (.iconst 0, 1) := by decide +kernel
theorem dX10_told_1 : decode cX10_told 1 = .ok (.istore_n 3, 1) := by decide +kernel
theorem dX10_told_2 : decode cX10_told 2 = .ok (.iconst 0, 1) := by decide +kernel
theorem dX10_told_3 : decode cX10_told 3 = .ok (.istore 4, 2) := by decide +kernel
theorem dX10_told_5 : decode cX10_told 5 = .ok (.iload 4, 2) := by decide +kernel
theorem dX10_told_7 : decode cX10_told 7 = .ok (.bipush 10, 2) := by decide +kernel
theorem dX10_told_9 : decode cX10_told 9 = .ok (.if_icmp .ge 30, 3) := by decide +kernel
theorem dX10_told_12 : decode cX10_told 12 = .ok (.iload_n 3, 1) := by decide +kernel
theorem dX10_told_13 : decode cX10_told 13 = .ok (.aload_n 0, 1) := by decide +kernel
theorem dX10_told_14 : decode cX10_told 14 = .ok (.iload 4, 2) := by decide +kernel
theorem dX10_told_16 : decode cX10_told 16 = .ok (.iload_n 1, 1) := by decide +kernel
theorem dX10_told_17 : decode cX10_told 17 = .ok (.iload_n 2, 1) := by decide +kernel
theorem dX10_told_18 : decode cX10_told 18 = .ok (.invokevirtual 181, 3) := by decide +kernel
theorem dX10_told_21 : decode cX10_told 21 = .ok (.ldc 148, 2) := by decide +kernel
theorem dX10_told_23 : decode cX10_told 23 = .ok (.if_icmp .ne 7, 3) := by decide +kernel
theorem dX10_told_26 : decode cX10_told 26 = .ok (.iconst 0, 1) := by decide +kernel
theorem dX10_told_27 : decode cX10_told 27 = .ok (.goto 4, 3) := by decide +kernel
theorem dX10_told_30 : decode cX10_told 30 = .ok (.iconst 1, 1) := by decide +kernel
theorem dX10_told_31 : decode cX10_told 31 = .ok (.iadd, 1) := by decide +kernel
theorem dX10_told_32 : decode cX10_told 32 = .ok (.istore_n 3, 1) := by decide +kernel
theorem dX10_told_33 : decode cX10_told 33 = .ok (.iinc 4 1, 3) := by decide +kernel
theorem dX10_told_36 : decode cX10_told 36 = .ok (.goto (-31), 3) := by decide +kernel
theorem dX10_told_39 : decode cX10_told 39 = .ok (.iconst 0, 1) := by decide +kernel
theorem dX10_told_40 : decode cX10_told 40 = .ok (.istore 4, 2) := by decide +kernel
theorem dX10_told_42 : decode cX10_told 42 = .ok (.iload 4, 2) := by decide +kernel
theorem dX10_told_44 : decode cX10_told 44 = .ok (.bipush 10, 2) := by decide +kernel
theorem dX10_told_46 : decode cX10_told 46 = .ok (.if_icmp .ge 62, 3) := by decide +kernel
theorem dX10_told_49 : decode cX10_told 49 = .ok (.iconst 0, 1) := by decide +kernel
theorem dX10_told_50 : decode cX10_told 50 = .ok (.istore 5, 2) := by decide +kernel
theorem dX10_told_52 : decode cX10_told 52 = .ok (.iconst 0, 1) := by decide +kernel
theorem dX10_told_53 : decode cX10_told 53 = .ok (.istore 6, 2) := by decide +kernel
theorem dX10_told_55 : decode cX10_told 55 = .ok (.iload 6, 2) := by decide +kernel
theorem dX10_told_57 : decode cX10_told 57 = .ok (.bipush 10, 2) := by decide +kernel
theorem dX10_told_59 : decode cX10_told 59 = .ok (.if_icmp .ge 32, 3) := by decide +kernel
theorem dX10_told_62 : decode cX10_told 62 = .ok (.iload 5, 2) := by decide +kernel
theorem dX10_told_64 : decode cX10_told 64 = .ok (.aload_n 0, 1) := by decide +kernel
theorem dX10_told_65 : decode cX10_told 65 = .ok (.iload 6, 2) := by decide +kernel
theorem dX10_told_67 : decode cX10_told 67 = .ok (.iload_n 1, 1) := by decide +kernel
theorem dX10_told_68 : decode cX10_told 68 = .ok (.iload_n 2, 1) := by decide +kernel
theorem dX10_told_69 : decode cX10_told 69 = .ok (.invokevirtual 181, 3) := by decide +kernel
theorem dX10_told_72 : decode cX10_told 72 = .ok (.iload 4, 2) := by decide +kernel
theorem dX10_told_74 : decode cX10_told 74 = .ok (.if_icmp .ne 7, 3) := by decide +kernel
theorem dX10_told_77 : decode cX10_told 77 = .ok (.iconst 1, 1) := by decide +kernel
theorem dX10_told_78 : decode cX10_told 78 = .ok (.goto 4, 3) := by decide +kernel
theorem dX10_told_81 : decode cX10_told 81 = .ok (.iconst 0, 1) := by decide +kernel
theorem dX10_told_82 : decode cX10_told 82 = .ok (.iadd, 1) := by decide +kernel
theorem dX10_told_83 : decode cX10_told 83 = .ok (.istore 5, 2) := by decide +kernel
theorem dX10_told_85 : decode cX10_told 85 = .ok (.iinc 6 1, 3) := by decide +kernel
theorem dX10_told_88 : decode cX10_told 88 = .ok (.goto (-33), 3) := by decide +kernel
theorem dX10_told_91 : decode cX10_told 91 = .ok (.iconst 2, 1) := by decide +kernel
theorem dX10_told_92 : decode cX10_told 92 = .ok (.iload 5, 2) := by decide +kernel
theorem dX10_told_94 : decode cX10_told 94 = .ok (.imul, 1) := by decide +kernel
theorem dX10_told_95 : decode cX10_told 95 = .ok (.iload_n 3, 1) := by decide +kernel
theorem dX10_told_96 : decode cX10_told 96 = .ok (.if_icmp .le 6, 3) := by decide +kernel
theorem dX10_told_99 : decode cX10_told 99 = .ok (.iload 4, 2) := by decide +kernel
theorem dX10_told_101 : decode cX10_told 101 = .ok (.ireturn, 1) := by decide +kernel
theorem dX10_told_102 : decode cX10_told 102 = .ok (.iinc 4 1, 3) := by decide +kernel
theorem dX10_told_105 : decode cX10_told 105 = .ok (.goto (-63), 3) := by decide +kernel
theorem dX10_told_108 : decode cX10_told 108 = .ok (.ldc 148, 2) := by decide +kernel
theorem dX10_told_110 : decode cX10_told 110 = .ok (.ireturn, 1) := by decide +kernel
set_option maxRecDepth 20000 in
theorem ggX10_toldOf_X10_isIn : GoodIn wsX10_toldOf wsX10_isIn := goodIn_r _ [5] (by decide +kernel) (by decide +kernel)
set_option maxRecDepth 20000 in
theorem gX10_toldOf_X10_isIn : GoodIn wsX10_toldOf (va_wsS RX10 104 yX10_isIn wsX10_isIn) := goodIn_app (goodIn_of _ (by decide +kernel)) ggX10_toldOf_X10_isIn
set_option maxRecDepth 20000 in
theorem ggX10_toldOf_X10_isDay : GoodIn wsX10_toldOf wsX10_isDay := goodIn_r _ [8, 9, 2, 3, 4, 5] (by decide +kernel) (by decide +kernel)
set_option maxRecDepth 20000 in
theorem gX10_toldOf_X10_isDay : GoodIn wsX10_toldOf (va_wsS RX10 175 yX10_isDay wsX10_isDay) := goodIn_app (goodIn_of _ (by decide +kernel)) ggX10_toldOf_X10_isDay
set_option maxRecDepth 20000 in
theorem ggX10_toldOf_X10_told : GoodIn wsX10_toldOf wsX10_told := goodIn_r _ [13, 14, 15, 16, 17, 4, 18, 19, 20, 21, 22, 23, 24, 25, 26, 27, 28, 29, 30, 31, 32, 33, 34, 35, 36, 37, 38, 39, 40, 41, 42, 43, 44, 45, 46, 47, 48, 49, 50, 51, 52, 53, 54, 55, 56, 57, 58, 59, 60, 61, 62, 63, 64] (by decide +kernel) (by decide +kernel)
set_option maxRecDepth 20000 in
theorem gX10_toldOf_X10_told : GoodIn wsX10_toldOf (wsV RX10 185 RX10 yX10_told wsX10_told) := goodIn_app (goodIn_of _ (by decide +kernel)) ggX10_toldOf_X10_told
theorem dX10_toldOf_0 : decode cX10_toldOf 0 = .ok (.iload_n 1, 1) := by decide +kernel
theorem dX10_toldOf_1 : decode cX10_toldOf 1 = .ok (.iconst 0, 1) := by decide +kernel
theorem dX10_toldOf_2 : decode cX10_toldOf 2 = .ok (.bipush 11, 2) := by decide +kernel
theorem dX10_toldOf_4 : decode cX10_toldOf 4 = .ok (.invokestatic 104, 3) := by decide +kernel
theorem dX10_toldOf_7 : decode cX10_toldOf 7 = .ok (.ifCond .eq 19, 3) := by decide +kernel
theorem dX10_toldOf_10 : decode cX10_toldOf 10 = .ok (.iload_n 2, 1) := by decide +kernel
theorem dX10_toldOf_11 : decode cX10_toldOf 11 = .ok (.invokestatic 175, 3) := by decide +kernel
theorem dX10_toldOf_14 : decode cX10_toldOf 14 = .ok (.ifCond .eq 12, 3) := by decide +kernel
theorem dX10_toldOf_17 : decode cX10_toldOf 17 = .ok (.aload_n 0, 1) := by decide +kernel
theorem dX10_toldOf_18 : decode cX10_toldOf 18 = .ok (.iload_n 1, 1) := by decide +kernel
theorem dX10_toldOf_19 : decode cX10_toldOf 19 = .ok (.iload_n 2, 1) := by decide +kernel
theorem dX10_toldOf_20 : decode cX10_toldOf 20 = .ok (.invokevirtual 185, 3) := by decide +kernel
theorem dX10_toldOf_23 : decode cX10_toldOf 23 = .ok (.goto 5, 3) := by decide +kernel
theorem dX10_toldOf_26 : decode cX10_toldOf 26 = .ok (.ldc 116, 2) := by decide +kernel
theorem dX10_toldOf_28 : decode cX10_toldOf 28 = .ok (.ireturn, 1) := by decide +kernel
theorem dX10_mostOf_0 : decode cX10_mostOf 0 = .ok (.iload_n 0, 1) := by decide +kernel
theorem dX10_mostOf_1 : decode cX10_mostOf 1 = .ok (.iconst 3, 1) := by decide +kernel
theorem dX10_mostOf_2 : decode cX10_mostOf 2 = .ok (.if_icmp .ge 8, 3) := by decide +kernel
theorem dX10_mostOf_5 : decode cX10_mostOf 5 = .ok (.bipush 100, 2) := by decide +kernel
theorem dX10_mostOf_7 : decode cX10_mostOf 7 = .ok (.goto 15, 3) := by decide +kernel
theorem dX10_mostOf_10 : decode cX10_mostOf 10 = .ok (.iload_n 0, 1) := by decide +kernel
theorem dX10_mostOf_11 : decode cX10_mostOf 11 = .ok (.iconst 4, 1) := by decide +kernel
theorem dX10_mostOf_12 : decode cX10_mostOf 12 = .ok (.if_icmp .ne 7, 3) := by decide +kernel
theorem dX10_mostOf_15 : decode cX10_mostOf 15 = .ok (.iconst 1, 1) := by decide +kernel
theorem dX10_mostOf_16 : decode cX10_mostOf 16 = .ok (.goto 6, 3) := by decide +kernel
theorem dX10_mostOf_19 : decode cX10_mostOf 19 = .ok (.sipush 1000, 3) := by decide +kernel
theorem dX10_mostOf_22 : decode cX10_mostOf 22 = .ok (.ireturn, 1) := by decide +kernel
set_option maxRecDepth 20000 in
theorem ggX10_decree_X10_isIn : GoodIn wsX10_decree wsX10_isIn := goodIn_r _ [12] (by decide +kernel) (by decide +kernel)
set_option maxRecDepth 20000 in
theorem gX10_decree_X10_isIn : GoodIn wsX10_decree (va_wsS RX10 104 yX10_isIn wsX10_isIn) := goodIn_app (goodIn_of _ (by decide +kernel)) ggX10_decree_X10_isIn
set_option maxRecDepth 20000 in
theorem ggX10_decree_X10_isYear : GoodIn wsX10_decree wsX10_isYear := goodIn_r _ [15, 9, 10, 11, 12] (by decide +kernel) (by decide +kernel)
set_option maxRecDepth 20000 in
theorem gX10_decree_X10_isYear : GoodIn wsX10_decree (va_wsS RX10 160 yX10_isYear wsX10_isYear) := goodIn_app (goodIn_of _ (by decide +kernel)) ggX10_decree_X10_isYear
set_option maxRecDepth 20000 in
theorem ggX10_decree_X10_mostOf : GoodIn wsX10_decree wsX10_mostOf := goodIn_r _ [18] (by decide +kernel) (by decide +kernel)
set_option maxRecDepth 20000 in
theorem gX10_decree_X10_mostOf : GoodIn wsX10_decree (va_wsS RX10 189 yX10_mostOf wsX10_mostOf) := goodIn_app (goodIn_of _ (by decide +kernel)) ggX10_decree_X10_mostOf
theorem dX10_decree_0 : decode cX10_decree 0 = .ok (.iload_n 1, 1) := by decide +kernel
theorem dX10_decree_1 : decode cX10_decree 1 = .ok (.iconst 0, 1) := by decide +kernel
theorem dX10_decree_2 : decode cX10_decree 2 = .ok (.iconst 5, 1) := by decide +kernel
theorem dX10_decree_3 : decode cX10_decree 3 = .ok (.invokestatic 104, 3) := by decide +kernel
theorem dX10_decree_6 : decode cX10_decree 6 = .ok (.ifCond .eq 22, 3) := by decide +kernel
theorem dX10_decree_9 : decode cX10_decree 9 = .ok (.iload_n 2, 1) := by decide +kernel
theorem dX10_decree_10 : decode cX10_decree 10 = .ok (.invokestatic 160, 3) := by decide +kernel
theorem dX10_decree_13 : decode cX10_decree 13 = .ok (.ifCond .eq 15, 3) := by decide +kernel
theorem dX10_decree_16 : decode cX10_decree 16 = .ok (.iload_n 3, 1) := by decide +kernel
theorem dX10_decree_17 : decode cX10_decree 17 = .ok (.iconst 0, 1) := by decide +kernel
theorem dX10_decree_18 : decode cX10_decree 18 = .ok (.iload_n 1, 1) := by decide +kernel
theorem dX10_decree_19 : decode cX10_decree 19 = .ok (.invokestatic 189, 3) := by decide +kernel
theorem dX10_decree_22 : decode cX10_decree 22 = .ok (.invokestatic 104, 3) := by decide +kernel
theorem dX10_decree_25 : decode cX10_decree 25 = .ok (.ifCond .ne 6, 3) := by decide +kernel
theorem dX10_decree_28 : decode cX10_decree 28 = .ok (.ldc 116, 2) := by decide +kernel
theorem dX10_decree_30 : decode cX10_decree 30 = .ok (.ireturn, 1) := by decide +kernel
theorem dX10_decree_31 : decode cX10_decree 31 = .ok (.aload_n 0, 1) := by decide +kernel
theorem dX10_decree_32 : decode cX10_decree 32 = .ok (.getfield 192, 3) := by decide +kernel
theorem dX10_decree_35 : decode cX10_decree 35 = .ok (.bipush 40, 2) := by decide +kernel
theorem dX10_decree_37 : decode cX10_decree 37 = .ok (.if_icmp .ne 6, 3) := by decide +kernel
theorem dX10_decree_40 : decode cX10_decree 40 = .ok (.ldc 120, 2) := by decide +kernel
theorem dX10_decree_42 : decode cX10_decree 42 = .ok (.ireturn, 1) := by decide +kernel
theorem dX10_decree_43 : decode cX10_decree 43 = .ok (.aload_n 0, 1) := by decide +kernel
theorem dX10_decree_44 : decode cX10_decree 44 = .ok (.getfield 58, 3) := by decide +kernel
theorem dX10_decree_47 : decode cX10_decree 47 = .ok (.aload_n 0, 1) := by decide +kernel
theorem dX10_decree_48 : decode cX10_decree 48 = .ok (.getfield 192, 3) := by decide +kernel
theorem dX10_decree_51 : decode cX10_decree 51 = .ok (.iload_n 1, 1) := by decide +kernel
theorem dX10_decree_52 : decode cX10_decree 52 = .ok (.iastore, 1) := by decide +kernel
theorem dX10_decree_53 : decode cX10_decree 53 = .ok (.aload_n 0, 1) := by decide +kernel
theorem dX10_decree_54 : decode cX10_decree 54 = .ok (.getfield 61, 3) := by decide +kernel
theorem dX10_decree_57 : decode cX10_decree 57 = .ok (.aload_n 0, 1) := by decide +kernel
theorem dX10_decree_58 : decode cX10_decree 58 = .ok (.getfield 192, 3) := by decide +kernel
theorem dX10_decree_61 : decode cX10_decree 61 = .ok (.iload_n 2, 1) := by decide +kernel
theorem dX10_decree_62 : decode cX10_decree 62 = .ok (.iastore, 1) := by decide +kernel
theorem dX10_decree_63 : decode cX10_decree 63 = .ok (.aload_n 0, 1) := by decide +kernel
theorem dX10_decree_64 : decode cX10_decree 64 = .ok (.getfield 64, 3) := by decide +kernel
theorem dX10_decree_67 : decode cX10_decree 67 = .ok (.aload_n 0, 1) := by decide +kernel
theorem dX10_decree_68 : decode cX10_decree 68 = .ok (.getfield 192, 3) := by decide +kernel
theorem dX10_decree_71 : decode cX10_decree 71 = .ok (.iload_n 3, 1) := by decide +kernel
theorem dX10_decree_72 : decode cX10_decree 72 = .ok (.iastore, 1) := by decide +kernel
theorem dX10_decree_73 : decode cX10_decree 73 = .ok (.aload_n 0, 1) := by decide +kernel
theorem dX10_decree_74 : decode cX10_decree 74 = .ok (.getfield 67, 3) := by decide +kernel
theorem dX10_decree_77 : decode cX10_decree 77 = .ok (.aload_n 0, 1) := by decide +kernel
theorem dX10_decree_78 : decode cX10_decree 78 = .ok (.getfield 192, 3) := by decide +kernel
theorem dX10_decree_81 : decode cX10_decree 81 = .ok (.aload_n 0, 1) := by decide +kernel
theorem dX10_decree_82 : decode cX10_decree 82 = .ok (.getfield 113, 3) := by decide +kernel
theorem dX10_decree_85 : decode cX10_decree 85 = .ok (.iastore, 1) := by decide +kernel
theorem dX10_decree_86 : decode cX10_decree 86 = .ok (.aload_n 0, 1) := by decide +kernel
theorem dX10_decree_87 : decode cX10_decree 87 = .ok (.dup, 1) := by decide +kernel
theorem dX10_decree_88 : decode cX10_decree 88 = .ok (.getfield 192, 3) := by decide +kernel
theorem dX10_decree_91 : decode cX10_decree 91 = .ok (.iconst 1, 1) := by decide +kernel
theorem dX10_decree_92 : decode cX10_decree 92 = .ok (.iadd, 1) := by decide +kernel
theorem dX10_decree_93 : decode cX10_decree 93 = .ok (.putfield 192, 3) := by decide +kernel
theorem dX10_decree_96 : decode cX10_decree 96 = .ok (.aload_n 0, 1) := by decide +kernel
theorem dX10_decree_97 : decode cX10_decree 97 = .ok (.getfield 192, 3) := by decide +kernel
theorem dX10_decree_100 : decode cX10_decree 100 = .ok (.ireturn, 1) := by decide +kernel
theorem dX10_valueOf_0 : decode cX10_valueOf 0 = .ok (.iload_n 1, 1) := by decide +kernel
theorem dX10_valueOf_1 : decode cX10_valueOf 1 = .ok (.iconst 3, 1) := by decide +kernel
theorem dX10_valueOf_2 : decode cX10_valueOf 2 = .ok (.if_icmp .lt 8, 3) := by decide +kernel
theorem dX10_valueOf_5 : decode cX10_valueOf 5 = .ok (.iload_n 1, 1) := by decide +kernel
theorem dX10_valueOf_6 : decode cX10_valueOf 6 = .ok (.iconst 4, 1) := by decide +kernel
theorem dX10_valueOf_7 : decode cX10_valueOf 7 = .ok (.if_icmp .ne 7, 3) := by decide +kernel
theorem dX10_valueOf_10 : decode cX10_valueOf 10 = .ok (.iconst 1, 1) := by decide +kernel
theorem dX10_valueOf_11 : decode cX10_valueOf 11 = .ok (.goto 14, 3) := by decide +kernel
theorem dX10_valueOf_14 : decode cX10_valueOf 14 = .ok (.iload_n 1, 1) := by decide +kernel
theorem dX10_valueOf_15 : decode cX10_valueOf 15 = .ok (.iconst 3, 1) := by decide +kernel
theorem dX10_valueOf_16 : decode cX10_valueOf 16 = .ok (.if_icmp .ne 7, 3) := by decide +kernel
theorem dX10_valueOf_19 : decode cX10_valueOf 19 = .ok (.iconst 0, 1) := by decide +kernel
theorem dX10_valueOf_20 : decode cX10_valueOf 20 = .ok (.goto 5, 3) := by decide +kernel
theorem dX10_valueOf_23 : decode cX10_valueOf 23 = .ok (.bipush 100, 2) := by decide +kernel
theorem dX10_valueOf_25 : decode cX10_valueOf 25 = .ok (.istore 4, 2) := by decide +kernel
theorem dX10_valueOf_27 : decode cX10_valueOf 27 = .ok (.iconst (-1), 1) := by decide +kernel
theorem dX10_valueOf_28 : decode cX10_valueOf 28 = .ok (.istore 5, 2) := by decide +kernel
theorem dX10_valueOf_30 : decode cX10_valueOf 30 = .ok (.iconst 0, 1) := by decide +kernel
theorem dX10_valueOf_31 : decode cX10_valueOf 31 = .ok (.istore 6, 2) := by decide +kernel
theorem dX10_valueOf_33 : decode cX10_valueOf 33 = .ok (.iload 6, 2) := by decide +kernel
theorem dX10_valueOf_35 : decode cX10_valueOf 35 = .ok (.aload_n 0, 1) := by decide +kernel
theorem dX10_valueOf_36 : decode cX10_valueOf 36 = .ok (.getfield 192, 3) := by decide +kernel
theorem dX10_valueOf_39 : decode cX10_valueOf 39 = .ok (.if_icmp .ge 72, 3) := by decide +kernel
theorem dX10_valueOf_42 : decode cX10_valueOf 42 = .ok (.aload_n 0, 1) := by decide +kernel
theorem dX10_valueOf_43 : decode cX10_valueOf 43 = .ok (.getfield 58, 3) := by decide +kernel
theorem dX10_valueOf_46 : decode cX10_valueOf 46 = .ok (.iload 6, 2) := by decide +kernel
