theorem dX10_valueOf_48 : decode cX10_valueOf 48 = .ok (.iaload, 1) := by decide +kernel
theorem dX10_valueOf_49 : decode cX10_valueOf 49 = .ok (.iload_n 1, 1) := by decide +kernel
theorem dX10_valueOf_50 : decode cX10_valueOf 50 = .ok (.if_icmp .ne 55, 3) := by decide +kernel
theorem dX10_valueOf_53 : decode cX10_valueOf 53 = .ok (.aload_n 0, 1) := by decide +kernel
theorem dX10_valueOf_54 : decode cX10_valueOf 54 = .ok (.getfield 67, 3) := by decide +kernel
theorem dX10_valueOf_57 : decode cX10_valueOf 57 = .ok (.iload 6, 2) := by decide +kernel
theorem dX10_valueOf_59 : decode cX10_valueOf 59 = .ok (.iaload, 1) := by decide +kernel
theorem dX10_valueOf_60 : decode cX10_valueOf 60 = .ok (.iload_n 3, 1) := by decide +kernel
theorem dX10_valueOf_61 : decode cX10_valueOf 61 = .ok (.if_icmp .gt 44, 3) := by decide +kernel
theorem dX10_valueOf_64 : decode cX10_valueOf 64 = .ok (.aload_n 0, 1) := by decide +kernel
theorem dX10_valueOf_65 : decode cX10_valueOf 65 = .ok (.getfield 61, 3) := by decide +kernel
theorem dX10_valueOf_68 : decode cX10_valueOf 68 = .ok (.iload 6, 2) := by decide +kernel
theorem dX10_valueOf_70 : decode cX10_valueOf 70 = .ok (.iaload, 1) := by decide +kernel
theorem dX10_valueOf_71 : decode cX10_valueOf 71 = .ok (.iload_n 2, 1) := by decide +kernel
theorem dX10_valueOf_72 : decode cX10_valueOf 72 = .ok (.if_icmp .gt 33, 3) := by decide +kernel
theorem dX10_valueOf_75 : decode cX10_valueOf 75 = .ok (.aload_n 0, 1) := by decide +kernel
theorem dX10_valueOf_76 : decode cX10_valueOf 76 = .ok (.getfield 61, 3) := by decide +kernel
theorem dX10_valueOf_79 : decode cX10_valueOf 79 = .ok (.iload 6, 2) := by decide +kernel
theorem dX10_valueOf_81 : decode cX10_valueOf 81 = .ok (.iaload, 1) := by decide +kernel
theorem dX10_valueOf_82 : decode cX10_valueOf 82 = .ok (.iload 5, 2) := by decide +kernel
theorem dX10_valueOf_84 : decode cX10_valueOf 84 = .ok (.if_icmp .lt 21, 3) := by decide +kernel
theorem dX10_valueOf_87 : decode cX10_valueOf 87 = .ok (.aload_n 0, 1) := by decide +kernel
theorem dX10_valueOf_88 : decode cX10_valueOf 88 = .ok (.getfield 61, 3) := by decide +kernel
theorem dX10_valueOf_91 : decode cX10_valueOf 91 = .ok (.iload 6, 2) := by decide +kernel
theorem dX10_valueOf_93 : decode cX10_valueOf 93 = .ok (.iaload, 1) := by decide +kernel
theorem dX10_valueOf_94 : decode cX10_valueOf 94 = .ok (.istore 5, 2) := by decide +kernel
theorem dX10_valueOf_96 : decode cX10_valueOf 96 = .ok (.aload_n 0, 1) := by decide +kernel
theorem dX10_valueOf_97 : decode cX10_valueOf 97 = .ok (.getfield 64, 3) := by decide +kernel
theorem dX10_valueOf_100 : decode cX10_valueOf 100 = .ok (.iload 6, 2) := by decide +kernel
theorem dX10_valueOf_102 : decode cX10_valueOf 102 = .ok (.iaload, 1) := by decide +kernel
theorem dX10_valueOf_103 : decode cX10_valueOf 103 = .ok (.istore 4, 2) := by decide +kernel
theorem dX10_valueOf_105 : decode cX10_valueOf 105 = .ok (.iinc 6 1, 3) := by decide +kernel
theorem dX10_valueOf_108 : decode cX10_valueOf 108 = .ok (.goto (-75), 3) := by decide +kernel
theorem dX10_valueOf_111 : decode cX10_valueOf 111 = .ok (.iload 4, 2) := by decide +kernel
theorem dX10_valueOf_113 : decode cX10_valueOf 113 = .ok (.ireturn, 1) := by decide +kernel
set_option maxRecDepth 20000 in
theorem ggX10_holds_X10_isIn : GoodIn wsX10_holds wsX10_isIn := goodIn_r _ [5] (by decide +kernel) (by decide +kernel)
set_option maxRecDepth 20000 in
theorem gX10_holds_X10_isIn : GoodIn wsX10_holds (va_wsS RX10 104 yX10_isIn wsX10_isIn) := goodIn_app (goodIn_of _ (by decide +kernel)) ggX10_holds_X10_isIn
set_option maxRecDepth 20000 in
theorem ggX10_holds_X10_isYear : GoodIn wsX10_holds wsX10_isYear := goodIn_r _ [8, 2, 3, 4, 5] (by decide +kernel) (by decide +kernel)
set_option maxRecDepth 20000 in
theorem gX10_holds_X10_isYear : GoodIn wsX10_holds (va_wsS RX10 160 yX10_isYear wsX10_isYear) := goodIn_app (goodIn_of _ (by decide +kernel)) ggX10_holds_X10_isYear
set_option maxRecDepth 20000 in
theorem ggX10_holds_X10_isDay : GoodIn wsX10_holds wsX10_isDay := goodIn_r _ [11, 12, 2, 3, 4, 5] (by decide +kernel) (by decide +kernel)
set_option maxRecDepth 20000 in
theorem gX10_holds_X10_isDay : GoodIn wsX10_holds (va_wsS RX10 175 yX10_isDay wsX10_isDay) := goodIn_app (goodIn_of _ (by decide +kernel)) ggX10_holds_X10_isDay
set_option maxRecDepth 20000 in
theorem ggX10_holds_X10_valueOf : GoodIn wsX10_holds wsX10_valueOf := goodIn_r _ [16, 17, 18, 19, 20, 21, 22, 23, 24, 25, 26, 27, 28, 29, 30, 31, 32, 33, 34, 35, 36, 37, 38, 39, 40, 41, 42, 43, 44, 45, 46, 47, 48, 49, 50, 51, 52, 53, 54, 55, 56, 57, 58, 59, 60, 61, 62] (by decide +kernel) (by decide +kernel)
set_option maxRecDepth 20000 in
theorem gX10_holds_X10_valueOf : GoodIn wsX10_holds (wsV RX10 195 RX10 yX10_valueOf wsX10_valueOf) := goodIn_app (goodIn_of _ (by decide +kernel)) ggX10_holds_X10_valueOf
theorem dX10_holds_0 : decode cX10_holds 0 = .ok (.iload_n 1, 1) := by decide +kernel
theorem dX10_holds_1 : decode cX10_holds 1 = .ok (.iconst 0, 1) := by decide +kernel
theorem dX10_holds_2 : decode cX10_holds 2 = .ok (.iconst 5, 1) := by decide +kernel
theorem dX10_holds_3 : decode cX10_holds 3 = .ok (.invokestatic 104, 3) := by decide +kernel
theorem dX10_holds_6 : decode cX10_holds 6 = .ok (.ifCond .eq 27, 3) := by decide +kernel
theorem dX10_holds_9 : decode cX10_holds 9 = .ok (.iload_n 2, 1) := by decide +kernel
theorem dX10_holds_10 : decode cX10_holds 10 = .ok (.invokestatic 160, 3) := by decide +kernel
theorem dX10_holds_13 : decode cX10_holds 13 = .ok (.ifCond .eq 20, 3) := by decide +kernel
theorem dX10_holds_16 : decode cX10_holds 16 = .ok (.iload_n 3, 1) := by decide +kernel
theorem dX10_holds_17 : decode cX10_holds 17 = .ok (.invokestatic 175, 3) := by decide +kernel
theorem dX10_holds_20 : decode cX10_holds 20 = .ok (.ifCond .eq 13, 3) := by decide +kernel
theorem dX10_holds_23 : decode cX10_holds 23 = .ok (.aload_n 0, 1) := by decide +kernel
theorem dX10_holds_24 : decode cX10_holds 24 = .ok (.iload_n 1, 1) := by decide +kernel
theorem dX10_holds_25 : decode cX10_holds 25 = .ok (.iload_n 2, 1) := by decide +kernel
theorem dX10_holds_26 : decode cX10_holds 26 = .ok (.iload_n 3, 1) := by decide +kernel
theorem dX10_holds_27 : decode cX10_holds 27 = .ok (.invokevirtual 195, 3) := by decide +kernel
theorem dX10_holds_30 : decode cX10_holds 30 = .ok (.goto 5, 3) := by decide +kernel
theorem dX10_holds_33 : decode cX10_holds 33 = .ok (.ldc 116, 2) := by decide +kernel
theorem dX10_holds_35 : decode cX10_holds 35 = .ok (.ireturn, 1) := by decide +kernel
set_option maxRecDepth 20000 in
theorem ggX10_know_X10_standsOn : GoodIn wsX10_know wsX10_standsOn := goodIn_r _ [15, 16, 17, 18, 19, 38, 39, 40, 41, 42, 43, 44, 45, 46, 47, 48, 49, 50, 51, 52, 53, 54, 55, 56, 57, 58, 59, 60, 61, 62, 63, 64, 65, 66, 67, 68, 69, 70, 71, 72, 73, 74, 75, 76, 77, 78] (by decide +kernel) (by decide +kernel)
set_option maxRecDepth 20000 in
theorem gX10_know_X10_standsOn : GoodIn wsX10_know (wsV RX10 170 RX10 yX10_standsOn wsX10_standsOn) := goodIn_app (goodIn_of _ (by decide +kernel)) ggX10_know_X10_standsOn
set_option maxRecDepth 20000 in
theorem ggX10_know_X10_quarrelIn : GoodIn wsX10_know wsX10_quarrelIn := goodIn_r _ [23, 6, 2, 3, 8, 24, 10, 9, 7, 25, 26, 27, 14, 28, 29, 30, 31, 32, 33, 34, 35, 36, 37, 38, 39, 40, 41, 42, 43, 44, 45, 46, 47, 48, 49, 50, 51, 52, 53, 54, 55, 56, 57, 58, 59, 60, 61, 62, 63, 64, 65, 66, 67, 68, 69, 70, 71, 72, 73, 74, 75, 76, 77, 78] (by decide +kernel) (by decide +kernel)
set_option maxRecDepth 20000 in
theorem gX10_know_X10_quarrelIn : GoodIn wsX10_know (wsV RX10 198 RX10 yX10_quarrelIn wsX10_quarrelIn) := goodIn_app (goodIn_of _ (by decide +kernel)) ggX10_know_X10_quarrelIn
theorem dX10_know_0 : decode cX10_know 0 = .ok (.iconst 0, 1) := by decide +kernel
theorem dX10_know_1 : decode cX10_know 1 = .ok (.istore_n 3, 1) := by decide +kernel
theorem dX10_know_2 : decode cX10_know 2 = .ok (.iload_n 3, 1) := by decide +kernel
theorem dX10_know_3 : decode cX10_know 3 = .ok (.aload_n 0, 1) := by decide +kernel
theorem dX10_know_4 : decode cX10_know 4 = .ok (.getfield 109, 3) := by decide +kernel
theorem dX10_know_7 : decode cX10_know 7 = .ok (.if_icmp .ge 48, 3) := by decide +kernel
theorem dX10_know_10 : decode cX10_know 10 = .ok (.aload_n 0, 1) := by decide +kernel
theorem dX10_know_11 : decode cX10_know 11 = .ok (.getfield 88, 3) := by decide +kernel
theorem dX10_know_14 : decode cX10_know 14 = .ok (.iload_n 3, 1) := by decide +kernel
theorem dX10_know_15 : decode cX10_know 15 = .ok (.ldc 148, 2) := by decide +kernel
theorem dX10_know_17 : decode cX10_know 17 = .ok (.iastore, 1) := by decide +kernel
theorem dX10_know_18 : decode cX10_know 18 = .ok (.aload_n 0, 1) := by decide +kernel
theorem dX10_know_19 : decode cX10_know 19 = .ok (.getfield 91, 3) := by decide +kernel
theorem dX10_know_22 : decode cX10_know 22 = .ok (.iload_n 3, 1) := by decide +kernel
theorem dX10_know_23 : decode cX10_know 23 = .ok (.aload_n 0, 1) := by decide +kernel
theorem dX10_know_24 : decode cX10_know 24 = .ok (.getfield 25, 3) := by decide +kernel
theorem dX10_know_27 : decode cX10_know 27 = .ok (.iload_n 3, 1) := by decide +kernel
theorem dX10_know_28 : decode cX10_know 28 = .ok (.iaload, 1) := by decide +kernel
theorem dX10_know_29 : decode cX10_know 29 = .ok (.iload_n 1, 1) := by decide +kernel
theorem dX10_know_30 : decode cX10_know 30 = .ok (.if_icmp .ne 16, 3) := by decide +kernel
theorem dX10_know_33 : decode cX10_know 33 = .ok (.aload_n 0, 1) := by decide +kernel
theorem dX10_know_34 : decode cX10_know 34 = .ok (.iload_n 3, 1) := by decide +kernel
theorem dX10_know_35 : decode cX10_know 35 = .ok (.iload_n 2, 1) := by decide +kernel
theorem dX10_know_36 : decode cX10_know 36 = .ok (.invokevirtual 170, 3) := by decide +kernel
theorem dX10_know_39 : decode cX10_know 39 = .ok (.ifCond .eq 7, 3) := by decide +kernel
theorem dX10_know_42 : decode cX10_know 42 = .ok (.iconst 0, 1) := by decide +kernel
theorem dX10_know_43 : decode cX10_know 43 = .ok (.goto 5, 3) := by decide +kernel
theorem dX10_know_46 : decode cX10_know 46 = .ok (.ldc 148, 2) := by decide +kernel
theorem dX10_know_48 : decode cX10_know 48 = .ok (.iastore, 1) := by decide +kernel
theorem dX10_know_49 : decode cX10_know 49 = .ok (.iinc 3 1, 3) := by decide +kernel
theorem dX10_know_52 : decode cX10_know 52 = .ok (.goto (-50), 3) := by decide +kernel
theorem dX10_know_55 : decode cX10_know 55 = .ok (.iconst 0, 1) := by decide +kernel
theorem dX10_know_56 : decode cX10_know 56 = .ok (.istore_n 3, 1) := by decide +kernel
theorem dX10_know_57 : decode cX10_know 57 = .ok (.iload_n 3, 1) := by decide +kernel
theorem dX10_know_58 : decode cX10_know 58 = .ok (.aload_n 0, 1) := by decide +kernel
theorem dX10_know_59 : decode cX10_know 59 = .ok (.getfield 109, 3) := by decide +kernel
theorem dX10_know_62 : decode cX10_know 62 = .ok (.if_icmp .ge 166, 3) := by decide +kernel
theorem dX10_know_65 : decode cX10_know 65 = .ok (.iconst 0, 1) := by decide +kernel
theorem dX10_know_66 : decode cX10_know 66 = .ok (.istore 4, 2) := by decide +kernel
theorem dX10_know_68 : decode cX10_know 68 = .ok (.iload 4, 2) := by decide +kernel
theorem dX10_know_70 : decode cX10_know 70 = .ok (.aload_n 0, 1) := by decide +kernel
theorem dX10_know_71 : decode cX10_know 71 = .ok (.getfield 109, 3) := by decide +kernel
theorem dX10_know_74 : decode cX10_know 74 = .ok (.if_icmp .ge 148, 3) := by decide +kernel
theorem dX10_know_77 : decode cX10_know 77 = .ok (.aload_n 0, 1) := by decide +kernel
theorem dX10_know_78 : decode cX10_know 78 = .ok (.getfield 19, 3) := by decide +kernel
theorem dX10_know_81 : decode cX10_know 81 = .ok (.iload_n 3, 1) := by decide +kernel
theorem dX10_know_82 : decode cX10_know 82 = .ok (.iaload, 1) := by decide +kernel
theorem dX10_know_83 : decode cX10_know 83 = .ok (.iconst 4, 1) := by decide +kernel
theorem dX10_know_84 : decode cX10_know 84 = .ok (.if_icmp .ne 138, 3) := by decide +kernel
theorem dX10_know_87 : decode cX10_know 87 = .ok (.aload_n 0, 1) := by decide +kernel
theorem dX10_know_88 : decode cX10_know 88 = .ok (.getfield 91, 3) := by decide +kernel
theorem dX10_know_91 : decode cX10_know 91 = .ok (.iload_n 3, 1) := by decide +kernel
theorem dX10_know_92 : decode cX10_know 92 = .ok (.iaload, 1) := by decide +kernel
theorem dX10_know_93 : decode cX10_know 93 = .ok (.ifCond .ne 129, 3) := by decide +kernel
theorem dX10_know_96 : decode cX10_know 96 = .ok (.aload_n 0, 1) := by decide +kernel
theorem dX10_know_97 : decode cX10_know 97 = .ok (.getfield 88, 3) := by decide +kernel
theorem dX10_know_100 : decode cX10_know 100 = .ok (.iload_n 3, 1) := by decide +kernel
theorem dX10_know_101 : decode cX10_know 101 = .ok (.iaload, 1) := by decide +kernel
theorem dX10_know_102 : decode cX10_know 102 = .ok (.ldc 148, 2) := by decide +kernel
theorem dX10_know_104 : decode cX10_know 104 = .ok (.if_icmp .ne 118, 3) := by decide +kernel
theorem dX10_know_107 : decode cX10_know 107 = .ok (.aload_n 0, 1) := by decide +kernel
theorem dX10_know_108 : decode cX10_know 108 = .ok (.getfield 19, 3) := by decide +kernel
theorem dX10_know_111 : decode cX10_know 111 = .ok (.iload 4, 2) := by decide +kernel
theorem dX10_know_113 : decode cX10_know 113 = .ok (.iaload, 1) := by decide +kernel
theorem dX10_know_114 : decode cX10_know 114 = .ok (.iconst 5, 1) := by decide +kernel
theorem dX10_know_115 : decode cX10_know 115 = .ok (.if_icmp .ne 29, 3) := by decide +kernel
theorem dX10_know_118 : decode cX10_know 118 = .ok (.aload_n 0, 1) := by decide +kernel
theorem dX10_know_119 : decode cX10_know 119 = .ok (.getfield 91, 3) := by decide +kernel
theorem dX10_know_122 : decode cX10_know 122 = .ok (.iload 4, 2) := by decide +kernel
theorem dX10_know_124 : decode cX10_know 124 = .ok (.iaload, 1) := by decide +kernel
theorem dX10_know_125 : decode cX10_know 125 = .ok (.ifCond .ne 19, 3) := by decide +kernel
theorem dX10_know_128 : decode cX10_know 128 = .ok (.aload_n 0, 1) := by decide +kernel
theorem dX10_know_129 : decode cX10_know 129 = .ok (.getfield 88, 3) := by decide +kernel
theorem dX10_know_132 : decode cX10_know 132 = .ok (.iload 4, 2) := by decide +kernel
theorem dX10_know_134 : decode cX10_know 134 = .ok (.iaload, 1) := by decide +kernel
theorem dX10_know_135 : decode cX10_know 135 = .ok (.ldc 148, 2) := by decide +kernel
theorem dX10_know_137 : decode cX10_know 137 = .ok (.if_icmp .ne 7, 3) := by decide +kernel
theorem dX10_know_140 : decode cX10_know 140 = .ok (.iconst 1, 1) := by decide +kernel
theorem dX10_know_141 : decode cX10_know 141 = .ok (.goto 4, 3) := by decide +kernel
theorem dX10_know_144 : decode cX10_know 144 = .ok (.iconst 0, 1) := by decide +kernel
theorem dX10_know_145 : decode cX10_know 145 = .ok (.istore 5, 2) := by decide +kernel
theorem dX10_know_147 : decode cX10_know 147 = .ok (.iload 5, 2) := by decide +kernel
theorem dX10_know_149 : decode cX10_know 149 = .ok (.ifCond .eq 67, 3) := by decide +kernel
theorem dX10_know_152 : decode cX10_know 152 = .ok (.aload_n 0, 1) := by decide +kernel
theorem dX10_know_153 : decode cX10_know 153 = .ok (.getfield 22, 3) := by decide +kernel
theorem dX10_know_156 : decode cX10_know 156 = .ok (.iload 4, 2) := by decide +kernel
theorem dX10_know_158 : decode cX10_know 158 = .ok (.iaload, 1) := by decide +kernel
theorem dX10_know_159 : decode cX10_know 159 = .ok (.aload_n 0, 1) := by decide +kernel
theorem dX10_know_160 : decode cX10_know 160 = .ok (.getfield 31, 3) := by decide +kernel
theorem dX10_know_163 : decode cX10_know 163 = .ok (.iload_n 3, 1) := by decide +kernel
theorem dX10_know_164 : decode cX10_know 164 = .ok (.iaload, 1) := by decide +kernel
theorem dX10_know_165 : decode cX10_know 165 = .ok (.if_icmp .ne 51, 3) := by decide +kernel
theorem dX10_know_168 : decode cX10_know 168 = .ok (.aload_n 0, 1) := by decide +kernel
theorem dX10_know_169 : decode cX10_know 169 = .ok (.getfield 31, 3) := by decide +kernel
theorem dX10_know_172 : decode cX10_know 172 = .ok (.iload 4, 2) := by decide +kernel
theorem dX10_know_174 : decode cX10_know 174 = .ok (.iaload, 1) := by decide +kernel
theorem dX10_know_175 : decode cX10_know 175 = .ok (.aload_n 0, 1) := by decide +kernel
theorem dX10_know_176 : decode cX10_know 176 = .ok (.getfield 22, 3) := by decide +kernel
theorem dX10_know_179 : decode cX10_know 179 = .ok (.iload_n 3, 1) := by decide +kernel
theorem dX10_know_180 : decode cX10_know 180 = .ok (.iaload, 1) := by decide +kernel
theorem dX10_know_181 : decode cX10_know 181 = .ok (.if_icmp .ne 35, 3) := by decide +kernel
theorem dX10_know_184 : decode cX10_know 184 = .ok (.aload_n 0, 1) := by decide +kernel
theorem dX10_know_185 : decode cX10_know 185 = .ok (.getfield 34, 3) := by decide +kernel
theorem dX10_know_188 : decode cX10_know 188 = .ok (.iload 4, 2) := by decide +kernel
theorem dX10_know_190 : decode cX10_know 190 = .ok (.iaload, 1) := by decide +kernel
theorem dX10_know_191 : decode cX10_know 191 = .ok (.aload_n 0, 1) := by decide +kernel
theorem dX10_know_192 : decode cX10_know 192 = .ok (.getfield 34, 3) := by decide +kernel
theorem dX10_know_195 : decode cX10_know 195 = .ok (.iload_n 3, 1) := by decide +kernel
theorem dX10_know_196 : decode cX10_know 196 = .ok (.iaload, 1) := by decide +kernel
theorem dX10_know_197 : decode cX10_know 197 = .ok (.if_icmp .ne 19, 3) := by decide +kernel
theorem dX10_know_200 : decode cX10_know 200 = .ok (.aload_n 0, 1) := by decide +kernel
theorem dX10_know_201 : decode cX10_know 201 = .ok (.getfield 88, 3) := by decide +kernel
theorem dX10_know_204 : decode cX10_know 204 = .ok (.iload_n 3, 1) := by decide +kernel
theorem dX10_know_205 : decode cX10_know 205 = .ok (.iload 4, 2) := by decide +kernel
theorem dX10_know_207 : decode cX10_know 207 = .ok (.iastore, 1) := by decide +kernel
theorem dX10_know_208 : decode cX10_know 208 = .ok (.aload_n 0, 1) := by decide +kernel
theorem dX10_know_209 : decode cX10_know 209 = .ok (.getfield 88, 3) := by decide +kernel
theorem dX10_know_212 : decode cX10_know 212 = .ok (.iload 4, 2) := by decide +kernel
theorem dX10_know_214 : decode cX10_know 214 = .ok (.iload_n 3, 1) := by decide +kernel
theorem dX10_know_215 : decode cX10_know 215 = .ok (.iastore, 1) := by decide +kernel
theorem dX10_know_216 : decode cX10_know 216 = .ok (.iinc 4 1, 3) := by decide +kernel
theorem dX10_know_219 : decode cX10_know 219 = .ok (.goto (-151), 3) := by decide +kernel
theorem dX10_know_222 : decode cX10_know 222 = .ok (.iinc 3 1, 3) := by decide +kernel
theorem dX10_know_225 : decode cX10_know 225 = .ok (.goto (-168), 3) := by decide +kernel
theorem dX10_know_228 : decode cX10_know 228 = .ok (.iconst 0, 1) := by decide +kernel
theorem dX10_know_229 : decode cX10_know 229 = .ok (.istore_n 3, 1) := by decide +kernel
theorem dX10_know_230 : decode cX10_know 230 = .ok (.iload_n 3, 1) := by decide +kernel
theorem dX10_know_231 : decode cX10_know 231 = .ok (.bipush 12, 2) := by decide +kernel
theorem dX10_know_233 : decode cX10_know 233 = .ok (.if_icmp .ge 16, 3) := by decide +kernel
theorem dX10_know_236 : decode cX10_know 236 = .ok (.aload_n 0, 1) := by decide +kernel
theorem dX10_know_237 : decode cX10_know 237 = .ok (.getfield 94, 3) := by decide +kernel
theorem dX10_know_240 : decode cX10_know 240 = .ok (.iload_n 3, 1) := by decide +kernel
theorem dX10_know_241 : decode cX10_know 241 = .ok (.iconst 0, 1) := by decide +kernel
theorem dX10_know_242 : decode cX10_know 242 = .ok (.iastore, 1) := by decide +kernel
theorem dX10_know_243 : decode cX10_know 243 = .ok (.iinc 3 1, 3) := by decide +kernel
theorem dX10_know_246 : decode cX10_know 246 = .ok (.goto (-16), 3) := by decide +kernel
theorem dX10_know_249 : decode cX10_know 249 = .ok (.iconst 0, 1) := by decide +kernel
theorem dX10_know_250 : decode cX10_know 250 = .ok (.istore_n 3, 1) := by decide +kernel
theorem dX10_know_251 : decode cX10_know 251 = .ok (.iload_n 3, 1) := by decide +kernel
theorem dX10_know_252 : decode cX10_know 252 = .ok (.aload_n 0, 1) := by decide +kernel
theorem dX10_know_253 : decode cX10_know 253 = .ok (.getfield 109, 3) := by decide +kernel
theorem dX10_know_256 : decode cX10_know 256 = .ok (.if_icmp .ge 69, 3) := by decide +kernel
theorem dX10_know_259 : decode cX10_know 259 = .ok (.aload_n 0, 1) := by decide +kernel
theorem dX10_know_260 : decode cX10_know 260 = .ok (.getfield 91, 3) := by decide +kernel
theorem dX10_know_263 : decode cX10_know 263 = .ok (.iload_n 3, 1) := by decide +kernel
theorem dX10_know_264 : decode cX10_know 264 = .ok (.iaload, 1) := by decide +kernel
theorem dX10_know_265 : decode cX10_know 265 = .ok (.ifCond .ne 54, 3) := by decide +kernel
theorem dX10_know_268 : decode cX10_know 268 = .ok (.aload_n 0, 1) := by decide +kernel
theorem dX10_know_269 : decode cX10_know 269 = .ok (.getfield 91, 3) := by decide +kernel
theorem dX10_know_272 : decode cX10_know 272 = .ok (.iload_n 3, 1) := by decide +kernel
theorem dX10_know_273 : decode cX10_know 273 = .ok (.aload_n 0, 1) := by decide +kernel
theorem dX10_know_274 : decode cX10_know 274 = .ok (.iload_n 3, 1) := by decide +kernel
theorem dX10_know_275 : decode cX10_know 275 = .ok (.iload_n 2, 1) := by decide +kernel
theorem dX10_know_276 : decode cX10_know 276 = .ok (.invokevirtual 198, 3) := by decide +kernel
theorem dX10_know_279 : decode cX10_know 279 = .ok (.iastore, 1) := by decide +kernel
theorem dX10_know_280 : decode cX10_know 280 = .ok (.aload_n 0, 1) := by decide +kernel
theorem dX10_know_281 : decode cX10_know 281 = .ok (.getfield 19, 3) := by decide +kernel
theorem dX10_know_284 : decode cX10_know 284 = .ok (.iload_n 3, 1) := by decide +kernel
theorem dX10_know_285 : decode cX10_know 285 = .ok (.iaload, 1) := by decide +kernel
theorem dX10_know_286 : decode cX10_know 286 = .ok (.iconst 1, 1) := by decide +kernel
theorem dX10_know_287 : decode cX10_know 287 = .ok (.if_icmp .ne 32, 3) := by decide +kernel
theorem dX10_know_290 : decode cX10_know 290 = .ok (.aload_n 0, 1) := by decide +kernel
theorem dX10_know_291 : decode cX10_know 291 = .ok (.getfield 91, 3) := by decide +kernel
theorem dX10_know_294 : decode cX10_know 294 = .ok (.iload_n 3, 1) := by decide +kernel
theorem dX10_know_295 : decode cX10_know 295 = .ok (.iaload, 1) := by decide +kernel
theorem dX10_know_296 : decode cX10_know 296 = .ok (.ifCond .ne 23, 3) := by decide +kernel
theorem dX10_know_299 : decode cX10_know 299 = .ok (.aload_n 0, 1) := by decide +kernel
theorem dX10_know_300 : decode cX10_know 300 = .ok (.getfield 94, 3) := by decide +kernel
theorem dX10_know_303 : decode cX10_know 303 = .ok (.aload_n 0, 1) := by decide +kernel
theorem dX10_know_304 : decode cX10_know 304 = .ok (.getfield 31, 3) := by decide +kernel
theorem dX10_know_307 : decode cX10_know 307 = .ok (.iload_n 3, 1) := by decide +kernel
theorem dX10_know_308 : decode cX10_know 308 = .ok (.iaload, 1) := by decide +kernel
theorem dX10_know_309 : decode cX10_know 309 = .ok (.dup2, 1) := by decide +kernel
theorem dX10_know_310 : decode cX10_know 310 = .ok (.iaload, 1) := by decide +kernel
theorem dX10_know_311 : decode cX10_know 311 = .ok (.aload_n 0, 1) := by decide +kernel
theorem dX10_know_312 : decode cX10_know 312 = .ok (.getfield 34, 3) := by decide +kernel
theorem dX10_know_315 : decode cX10_know 315 = .ok (.iload_n 3, 1) := by decide +kernel
theorem dX10_know_316 : decode cX10_know 316 = .ok (.iaload, 1) := by decide +kernel
theorem dX10_know_317 : decode cX10_know 317 = .ok (.iadd, 1) := by decide +kernel
theorem dX10_know_318 : decode cX10_know 318 = .ok (.iastore, 1) := by decide +kernel
theorem dX10_know_319 : decode cX10_know 319 = .ok (.iinc 3 1, 3) := by decide +kernel
theorem dX10_know_322 : decode cX10_know 322 = .ok (.goto (-71), 3) := by decide +kernel
theorem dX10_know_325 : decode cX10_know 325 = .ok (.return_, 1) := by decide +kernel
set_option maxRecDepth 20000 in
theorem ggX10_quarrelIn_X10_told : GoodIn wsX10_quarrelIn wsX10_told := goodIn_r _ [13, 3, 14, 15, 16, 12, 17, 18, 19, 20, 21, 22, 23, 24, 25, 26, 27, 28, 29, 30, 31, 32, 33, 34, 35, 36, 37, 38, 39, 40, 41, 42, 43, 44, 45, 46, 47, 48, 49, 50, 51, 52, 53, 54, 55, 56, 57, 58, 59, 60, 61, 62, 63] (by decide +kernel) (by decide +kernel)
set_option maxRecDepth 20000 in
theorem gX10_quarrelIn_X10_told : GoodIn wsX10_quarrelIn (wsV RX10 185 RX10 yX10_told wsX10_told) := goodIn_app (goodIn_of _ (by decide +kernel)) ggX10_quarrelIn_X10_told
theorem dX10_quarrelIn_0 : decode cX10_quarrelIn 0 = .ok (.aload_n 0, 1) := by decide +kernel
theorem dX10_quarrelIn_1 : decode cX10_quarrelIn 1 = .ok (.getfield 19, 3) := by decide +kernel
theorem dX10_quarrelIn_4 : decode cX10_quarrelIn 4 = .ok (.iload_n 1, 1) := by decide +kernel
theorem dX10_quarrelIn_5 : decode cX10_quarrelIn 5 = .ok (.iaload, 1) := by decide +kernel
theorem dX10_quarrelIn_6 : decode cX10_quarrelIn 6 = .ok (.iconst 4, 1) := by decide +kernel
theorem dX10_quarrelIn_7 : decode cX10_quarrelIn 7 = .ok (.if_icmp .eq 13, 3) := by decide +kernel
theorem dX10_quarrelIn_10 : decode cX10_quarrelIn 10 = .ok (.aload_n 0, 1) := by decide +kernel
theorem dX10_quarrelIn_11 : decode cX10_quarrelIn 11 = .ok (.getfield 19, 3) := by decide +kernel
theorem dX10_quarrelIn_14 : decode cX10_quarrelIn 14 = .ok (.iload_n 1, 1) := by decide +kernel
theorem dX10_quarrelIn_15 : decode cX10_quarrelIn 15 = .ok (.iaload, 1) := by decide +kernel
theorem dX10_quarrelIn_16 : decode cX10_quarrelIn 16 = .ok (.iconst 5, 1) := by decide +kernel
theorem dX10_quarrelIn_17 : decode cX10_quarrelIn 17 = .ok (.if_icmp .ne 34, 3) := by decide +kernel
theorem dX10_quarrelIn_20 : decode cX10_quarrelIn 20 = .ok (.aload_n 0, 1) := by decide +kernel
theorem dX10_quarrelIn_21 : decode cX10_quarrelIn 21 = .ok (.getfield 88, 3) := by decide +kernel
theorem dX10_quarrelIn_24 : decode cX10_quarrelIn 24 = .ok (.iload_n 1, 1) := by decide +kernel
theorem dX10_quarrelIn_25 : decode cX10_quarrelIn 25 = .ok (.iaload, 1) := by decide +kernel
theorem dX10_quarrelIn_26 : decode cX10_quarrelIn 26 = .ok (.ldc 148, 2) := by decide +kernel
theorem dX10_quarrelIn_28 : decode cX10_quarrelIn 28 = .ok (.if_icmp .eq 7, 3) := by decide +kernel
theorem dX10_quarrelIn_31 : decode cX10_quarrelIn 31 = .ok (.iconst 0, 1) := by decide +kernel
theorem dX10_quarrelIn_32 : decode cX10_quarrelIn 32 = .ok (.goto 18, 3) := by decide +kernel
theorem dX10_quarrelIn_35 : decode cX10_quarrelIn 35 = .ok (.aload_n 0, 1) := by decide +kernel
theorem dX10_quarrelIn_36 : decode cX10_quarrelIn 36 = .ok (.getfield 19, 3) := by decide +kernel
theorem dX10_quarrelIn_39 : decode cX10_quarrelIn 39 = .ok (.iload_n 1, 1) := by decide +kernel
theorem dX10_quarrelIn_40 : decode cX10_quarrelIn 40 = .ok (.iaload, 1) := by decide +kernel
theorem dX10_quarrelIn_41 : decode cX10_quarrelIn 41 = .ok (.iconst 4, 1) := by decide +kernel
theorem dX10_quarrelIn_42 : decode cX10_quarrelIn 42 = .ok (.if_icmp .ne 7, 3) := by decide +kernel
theorem dX10_quarrelIn_45 : decode cX10_quarrelIn 45 = .ok (.iconst 4, 1) := by decide +kernel
theorem dX10_quarrelIn_46 : decode cX10_quarrelIn 46 = .ok (.goto 4, 3) := by decide +kernel
theorem dX10_quarrelIn_49 : decode cX10_quarrelIn 49 = .ok (.iconst 5, 1) := by decide +kernel
theorem dX10_quarrelIn_50 : decode cX10_quarrelIn 50 = .ok (.ireturn, 1) := by decide +kernel
theorem dX10_quarrelIn_51 : decode cX10_quarrelIn 51 = .ok (.aload_n 0, 1) := by decide +kernel
theorem dX10_quarrelIn_52 : decode cX10_quarrelIn 52 = .ok (.getfield 19, 3) := by decide +kernel
theorem dX10_quarrelIn_55 : decode cX10_quarrelIn 55 = .ok (.iload_n 1, 1) := by decide +kernel
theorem dX10_quarrelIn_56 : decode cX10_quarrelIn 56 = .ok (.iaload, 1) := by decide +kernel
theorem dX10_quarrelIn_57 : decode cX10_quarrelIn 57 = .ok (.iconst 1, 1) := by decide +kernel
theorem dX10_quarrelIn_58 : decode cX10_quarrelIn 58 = .ok (.if_icmp .eq 5, 3) := by decide +kernel
theorem dX10_quarrelIn_61 : decode cX10_quarrelIn 61 = .ok (.iconst 0, 1) := by decide +kernel
theorem dX10_quarrelIn_62 : decode cX10_quarrelIn 62 = .ok (.ireturn, 1) := by decide +kernel
theorem dX10_quarrelIn_63 : decode cX10_quarrelIn 63 = .ok (.aload_n 0, 1) := by decide +kernel
theorem dX10_quarrelIn_64 : decode cX10_quarrelIn 64 = .ok (.getfield 31, 3) := by decide +kernel
theorem dX10_quarrelIn_67 : decode cX10_quarrelIn 67 = .ok (.iload_n 1, 1) := by decide +kernel
theorem dX10_quarrelIn_68 : decode cX10_quarrelIn 68 = .ok (.iaload, 1) := by decide +kernel
theorem dX10_quarrelIn_69 : decode cX10_quarrelIn 69 = .ok (.istore_n 3, 1) := by decide +kernel
theorem dX10_quarrelIn_70 : decode cX10_quarrelIn 70 = .ok (.aload_n 0, 1) := by decide +kernel
theorem dX10_quarrelIn_71 : decode cX10_quarrelIn 71 = .ok (.getfield 7, 3) := by decide +kernel
theorem dX10_quarrelIn_74 : decode cX10_quarrelIn 74 = .ok (.iload_n 3, 1) := by decide +kernel
theorem dX10_quarrelIn_75 : decode cX10_quarrelIn 75 = .ok (.iaload, 1) := by decide +kernel
theorem dX10_quarrelIn_76 : decode cX10_quarrelIn 76 = .ok (.ifCond .ne 5, 3) := by decide +kernel
theorem dX10_quarrelIn_79 : decode cX10_quarrelIn 79 = .ok (.iconst 1, 1) := by decide +kernel
theorem dX10_quarrelIn_80 : decode cX10_quarrelIn 80 = .ok (.ireturn, 1) := by decide +kernel
theorem dX10_quarrelIn_81 : decode cX10_quarrelIn 81 = .ok (.aload_n 0, 1) := by decide +kernel
theorem dX10_quarrelIn_82 : decode cX10_quarrelIn 82 = .ok (.getfield 94, 3) := by decide +kernel
theorem dX10_quarrelIn_85 : decode cX10_quarrelIn 85 = .ok (.iload_n 3, 1) := by decide +kernel
theorem dX10_quarrelIn_86 : decode cX10_quarrelIn 86 = .ok (.iaload, 1) := by decide +kernel
theorem dX10_quarrelIn_87 : decode cX10_quarrelIn 87 = .ok (.aload_n 0, 1) := by decide +kernel
theorem dX10_quarrelIn_88 : decode cX10_quarrelIn 88 = .ok (.getfield 34, 3) := by decide +kernel
theorem dX10_quarrelIn_91 : decode cX10_quarrelIn 91 = .ok (.iload_n 1, 1) := by decide +kernel
theorem dX10_quarrelIn_92 : decode cX10_quarrelIn 92 = .ok (.iaload, 1) := by decide +kernel
theorem dX10_quarrelIn_93 : decode cX10_quarrelIn 93 = .ok (.iadd, 1) := by decide +kernel
theorem dX10_quarrelIn_94 : decode cX10_quarrelIn 94 = .ok (.aload_n 0, 1) := by decide +kernel
theorem dX10_quarrelIn_95 : decode cX10_quarrelIn 95 = .ok (.getfield 7, 3) := by decide +kernel
theorem dX10_quarrelIn_98 : decode cX10_quarrelIn 98 = .ok (.iload_n 3, 1) := by decide +kernel
theorem dX10_quarrelIn_99 : decode cX10_quarrelIn 99 = .ok (.iaload, 1) := by decide +kernel
theorem dX10_quarrelIn_100 : decode cX10_quarrelIn 100 = .ok (.if_icmp .le 5, 3) := by decide +kernel
theorem dX10_quarrelIn_103 : decode cX10_quarrelIn 103 = .ok (.iconst 2, 1) := by decide +kernel
theorem dX10_quarrelIn_104 : decode cX10_quarrelIn 104 = .ok (.ireturn, 1) := by decide +kernel
theorem dX10_quarrelIn_105 : decode cX10_quarrelIn 105 = .ok (.aload_n 0, 1) := by decide +kernel
theorem dX10_quarrelIn_106 : decode cX10_quarrelIn 106 = .ok (.iload_n 3, 1) := by decide +kernel
theorem dX10_quarrelIn_107 : decode cX10_quarrelIn 107 = .ok (.iload_n 2, 1) := by decide +kernel
theorem dX10_quarrelIn_108 : decode cX10_quarrelIn 108 = .ok (.invokevirtual 185, 3) := by decide +kernel
theorem dX10_quarrelIn_111 : decode cX10_quarrelIn 111 = .ok (.istore 4, 2) := by decide +kernel
theorem dX10_quarrelIn_113 : decode cX10_quarrelIn 113 = .ok (.iload 4, 2) := by decide +kernel
theorem dX10_quarrelIn_115 : decode cX10_quarrelIn 115 = .ok (.ldc 148, 2) := by decide +kernel
theorem dX10_quarrelIn_117 : decode cX10_quarrelIn 117 = .ok (.if_icmp .eq 18, 3) := by decide +kernel
theorem dX10_quarrelIn_120 : decode cX10_quarrelIn 120 = .ok (.iload 4, 2) := by decide +kernel
theorem dX10_quarrelIn_122 : decode cX10_quarrelIn 122 = .ok (.aload_n 0, 1) := by decide +kernel
theorem dX10_quarrelIn_123 : decode cX10_quarrelIn 123 = .ok (.getfield 22, 3) := by decide +kernel
theorem dX10_quarrelIn_126 : decode cX10_quarrelIn 126 = .ok (.iload_n 1, 1) := by decide +kernel
theorem dX10_quarrelIn_127 : decode cX10_quarrelIn 127 = .ok (.iaload, 1) := by decide +kernel
theorem dX10_quarrelIn_128 : decode cX10_quarrelIn 128 = .ok (.if_icmp .eq 7, 3) := by decide +kernel
theorem dX10_quarrelIn_131 : decode cX10_quarrelIn 131 = .ok (.iconst 3, 1) := by decide +kernel
theorem dX10_quarrelIn_132 : decode cX10_quarrelIn 132 = .ok (.goto 4, 3) := by decide +kernel
theorem dX10_quarrelIn_135 : decode cX10_quarrelIn 135 = .ok (.iconst 0, 1) := by decide +kernel
theorem dX10_quarrelIn_136 : decode cX10_quarrelIn 136 = .ok (.ireturn, 1) := by decide +kernel
set_option maxRecDepth 20000 in
theorem ggX10_match_X10_isLine : GoodIn wsX10_match wsX10_isLine := goodIn_r _ [10, 11, 12, 13, 9, 14, 55, 56, 57, 58, 59, 60, 61, 62, 63, 64, 65, 66, 67, 68, 69, 70, 71, 72, 73, 74, 75, 76, 77, 78, 79, 80, 81, 82, 83, 84, 85, 86, 87, 88, 89, 90, 91, 92, 93, 94, 95] (by decide +kernel) (by decide +kernel)
set_option maxRecDepth 20000 in
theorem gX10_match_X10_isLine : GoodIn wsX10_match (wsV RX10 167 RX10 yX10_isLine wsX10_isLine) := goodIn_app (goodIn_of _ (by decide +kernel)) ggX10_match_X10_isLine
set_option maxRecDepth 20000 in
theorem ggX10_match_X10_isDay : GoodIn wsX10_match wsX10_isDay := goodIn_r _ [17, 18, 12, 13, 9, 14] (by decide +kernel) (by decide +kernel)
set_option maxRecDepth 20000 in
theorem gX10_match_X10_isDay : GoodIn wsX10_match (va_wsS RX10 175 yX10_isDay wsX10_isDay) := goodIn_app (goodIn_of _ (by decide +kernel)) ggX10_match_X10_isDay
set_option maxRecDepth 20000 in
theorem ggX10_match_X10_know : GoodIn wsX10_match wsX10_know := goodIn_r _ [22, 11, 5, 23, 24, 4, 2, 25, 26, 27, 28, 29, 30, 31, 9, 32, 33, 34, 35, 36, 37, 38, 39, 40, 41, 42, 43, 44, 45, 46, 47, 48, 49, 50, 51, 52, 53, 54, 55, 56, 57, 58, 59, 60, 61, 62, 63, 64, 65, 66, 67, 68, 69, 70, 71, 72, 73, 74, 75, 76, 77, 78, 79, 80, 81, 82, 83, 84, 85, 86, 87, 88, 89, 90, 91, 92, 93, 94, 95] (by decide +kernel) (by decide +kernel)
set_option maxRecDepth 20000 in
theorem gX10_match_X10_know : GoodIn wsX10_match (wsV RX10 201 RX10 yX10_know wsX10_know) := goodIn_app (goodIn_of _ (by decide +kernel)) ggX10_match_X10_know
theorem dX10_match_0 : decode cX10_match 0 = .ok (.aload_n 0, 1) := by decide +kernel
theorem dX10_match_1 : decode cX10_match 1 = .ok (.iload_n 1, 1) := by decide +kernel
theorem dX10_match_2 : decode cX10_match 2 = .ok (.invokevirtual 167, 3) := by decide +kernel
theorem dX10_match_5 : decode cX10_match 5 = .ok (.ifCond .eq 10, 3) := by decide +kernel
theorem dX10_match_8 : decode cX10_match 8 = .ok (.iload_n 2, 1) := by decide +kernel
theorem dX10_match_9 : decode cX10_match 9 = .ok (.invokestatic 175, 3) := by decide +kernel
theorem dX10_match_12 : decode cX10_match 12 = .ok (.ifCond .ne 6, 3) := by decide +kernel
theorem dX10_match_15 : decode cX10_match 15 = .ok (.ldc 116, 2) := by decide +kernel
theorem dX10_match_17 : decode cX10_match 17 = .ok (.ireturn, 1) := by decide +kernel
theorem dX10_match_18 : decode cX10_match 18 = .ok (.aload_n 0, 1) := by decide +kernel
theorem dX10_match_19 : decode cX10_match 19 = .ok (.getfield 19, 3) := by decide +kernel
theorem dX10_match_22 : decode cX10_match 22 = .ok (.iload_n 1, 1) := by decide +kernel
theorem dX10_match_23 : decode cX10_match 23 = .ok (.iaload, 1) := by decide +kernel
theorem dX10_match_24 : decode cX10_match 24 = .ok (.iconst 4, 1) := by decide +kernel
theorem dX10_match_25 : decode cX10_match 25 = .ok (.if_icmp .eq 16, 3) := by decide +kernel
theorem dX10_match_28 : decode cX10_match 28 = .ok (.aload_n 0, 1) := by decide +kernel
theorem dX10_match_29 : decode cX10_match 29 = .ok (.getfield 19, 3) := by decide +kernel
theorem dX10_match_32 : decode cX10_match 32 = .ok (.iload_n 1, 1) := by decide +kernel
theorem dX10_match_33 : decode cX10_match 33 = .ok (.iaload, 1) := by decide +kernel
theorem dX10_match_34 : decode cX10_match 34 = .ok (.iconst 5, 1) := by decide +kernel
theorem dX10_match_35 : decode cX10_match 35 = .ok (.if_icmp .eq 6, 3) := by decide +kernel
theorem dX10_match_38 : decode cX10_match 38 = .ok (.ldc 174, 2) := by decide +kernel
theorem dX10_match_40 : decode cX10_match 40 = .ok (.ireturn, 1) := by decide +kernel
theorem dX10_match_41 : decode cX10_match 41 = .ok (.aload_n 0, 1) := by decide +kernel
theorem dX10_match_42 : decode cX10_match 42 = .ok (.aload_n 0, 1) := by decide +kernel
theorem dX10_match_43 : decode cX10_match 43 = .ok (.getfield 25, 3) := by decide +kernel
theorem dX10_match_46 : decode cX10_match 46 = .ok (.iload_n 1, 1) := by decide +kernel
theorem dX10_match_47 : decode cX10_match 47 = .ok (.iaload, 1) := by decide +kernel
theorem dX10_match_48 : decode cX10_match 48 = .ok (.iload_n 2, 1) := by decide +kernel
theorem dX10_match_49 : decode cX10_match 49 = .ok (.invokevirtual 201, 3) := by decide +kernel
theorem dX10_match_52 : decode cX10_match 52 = .ok (.aload_n 0, 1) := by decide +kernel
theorem dX10_match_53 : decode cX10_match 53 = .ok (.getfield 88, 3) := by decide +kernel
theorem dX10_match_56 : decode cX10_match 56 = .ok (.iload_n 1, 1) := by decide +kernel
theorem dX10_match_57 : decode cX10_match 57 = .ok (.iaload, 1) := by decide +kernel
theorem dX10_match_58 : decode cX10_match 58 = .ok (.ireturn, 1) := by decide +kernel
set_option maxRecDepth 20000 in
theorem ggX10_quarrel_X10_isLine : GoodIn wsX10_quarrel wsX10_isLine := goodIn_r _ [8, 9, 10, 11, 7, 12, 54, 55, 56, 57, 58, 59, 60, 61, 62, 63, 64, 65, 66, 67, 68, 69, 70, 71, 72, 73, 74, 75, 76, 77, 78, 79, 80, 81, 82, 83, 84, 85, 86, 87, 88, 89, 90, 91, 92, 93, 94] (by decide +kernel) (by decide +kernel)
set_option maxRecDepth 20000 in
theorem gX10_quarrel_X10_isLine : GoodIn wsX10_quarrel (wsV RX10 167 RX10 yX10_isLine wsX10_isLine) := goodIn_app (goodIn_of _ (by decide +kernel)) ggX10_quarrel_X10_isLine
set_option maxRecDepth 20000 in
theorem ggX10_quarrel_X10_isDay : GoodIn wsX10_quarrel wsX10_isDay := goodIn_r _ [15, 16, 10, 11, 7, 12] (by decide +kernel) (by decide +kernel)
set_option maxRecDepth 20000 in
theorem gX10_quarrel_X10_isDay : GoodIn wsX10_quarrel (va_wsS RX10 175 yX10_isDay wsX10_isDay) := goodIn_app (goodIn_of _ (by decide +kernel)) ggX10_quarrel_X10_isDay
set_option maxRecDepth 20000 in
theorem ggX10_quarrel_X10_know : GoodIn wsX10_quarrel wsX10_know := goodIn_r _ [20, 9, 21, 22, 3, 2, 23, 24, 25, 26, 27, 28, 29, 30, 7, 31, 32, 33, 34, 35, 36, 37, 38, 39, 40, 41, 42, 43, 44, 45, 46, 47, 48, 49, 50, 51, 52, 53, 54, 55, 56, 57, 58, 59, 60, 61, 62, 63, 64, 65, 66, 67, 68, 69, 70, 71, 72, 73, 74, 75, 76, 77, 78, 79, 80, 81, 82, 83, 84, 85, 86, 87, 88, 89, 90, 91, 92, 93, 94] (by decide +kernel) (by decide +kernel)
set_option maxRecDepth 20000 in
theorem gX10_quarrel_X10_know : GoodIn wsX10_quarrel (wsV RX10 201 RX10 yX10_know wsX10_know) := goodIn_app (goodIn_of _ (by decide +kernel)) ggX10_quarrel_X10_know
theorem dX10_quarrel_0 : decode cX10_quarrel 0 = .ok (.aload_n 0, 1) := by decide +kernel
theorem dX10_quarrel_1 : decode cX10_quarrel 1 = .ok (.iload_n 1, 1) := by decide +kernel
theorem dX10_quarrel_2 : decode cX10_quarrel 2 = .ok (.invokevirtual 167, 3) := by decide +kernel
theorem dX10_quarrel_5 : decode cX10_quarrel 5 = .ok (.ifCond .eq 10, 3) := by decide +kernel
theorem dX10_quarrel_8 : decode cX10_quarrel 8 = .ok (.iload_n 2, 1) := by decide +kernel
theorem dX10_quarrel_9 : decode cX10_quarrel 9 = .ok (.invokestatic 175, 3) := by decide +kernel
theorem dX10_quarrel_12 : decode cX10_quarrel 12 = .ok (.ifCond .ne 6, 3) := by decide +kernel
theorem dX10_quarrel_15 : decode cX10_quarrel 15 = .ok (.ldc 116, 2) := by decide +kernel
theorem dX10_quarrel_17 : decode cX10_quarrel 17 = .ok (.ireturn, 1) := by decide +kernel
theorem dX10_quarrel_18 : decode cX10_quarrel 18 = .ok (.aload_n 0, 1) := by decide +kernel
theorem dX10_quarrel_19 : decode cX10_quarrel 19 = .ok (.aload_n 0, 1) := by decide +kernel
theorem dX10_quarrel_20 : decode cX10_quarrel 20 = .ok (.getfield 25, 3) := by decide +kernel
theorem dX10_quarrel_23 : decode cX10_quarrel 23 = .ok (.iload_n 1, 1) := by decide +kernel
theorem dX10_quarrel_24 : decode cX10_quarrel 24 = .ok (.iaload, 1) := by decide +kernel
theorem dX10_quarrel_25 : decode cX10_quarrel 25 = .ok (.iload_n 2, 1) := by decide +kernel
theorem dX10_quarrel_26 : decode cX10_quarrel 26 = .ok (.invokevirtual 201, 3) := by decide +kernel
theorem dX10_quarrel_29 : decode cX10_quarrel 29 = .ok (.aload_n 0, 1) := by decide +kernel
theorem dX10_quarrel_30 : decode cX10_quarrel 30 = .ok (.getfield 91, 3) := by decide +kernel
theorem dX10_quarrel_33 : decode cX10_quarrel 33 = .ok (.iload_n 1, 1) := by decide +kernel
theorem dX10_quarrel_34 : decode cX10_quarrel 34 = .ok (.iaload, 1) := by decide +kernel
theorem dX10_quarrel_35 : decode cX10_quarrel 35 = .ok (.ireturn, 1) := by decide +kernel
set_option maxRecDepth 20000 in
theorem ggX10_quarrels_X10_isYear : GoodIn wsX10_quarrels wsX10_isYear := goodIn_r _ [7, 8, 9, 6, 10] (by decide +kernel) (by decide +kernel)
set_option maxRecDepth 20000 in
theorem gX10_quarrels_X10_isYear : GoodIn wsX10_quarrels (va_wsS RX10 160 yX10_isYear wsX10_isYear) := goodIn_app (goodIn_of _ (by decide +kernel)) ggX10_quarrels_X10_isYear
set_option maxRecDepth 20000 in
theorem ggX10_quarrels_X10_isDay : GoodIn wsX10_quarrels wsX10_isDay := goodIn_r _ [13, 14, 8, 9, 6, 10] (by decide +kernel) (by decide +kernel)
set_option maxRecDepth 20000 in
theorem gX10_quarrels_X10_isDay : GoodIn wsX10_quarrels (va_wsS RX10 175 yX10_isDay wsX10_isDay) := goodIn_app (goodIn_of _ (by decide +kernel)) ggX10_quarrels_X10_isDay
set_option maxRecDepth 20000 in
theorem ggX10_quarrels_X10_know : GoodIn wsX10_quarrels wsX10_know := goodIn_r _ [18, 2, 19, 20, 3, 21, 22, 23, 24, 25, 26, 27, 28, 29, 6, 30, 31, 32, 33, 34, 35, 36, 37, 38, 39, 40, 41, 42, 43, 44, 45, 46, 47, 48, 49, 50, 51, 52, 53, 54, 55, 56, 57, 58, 59, 60, 61, 62, 63, 64, 65, 66, 67, 68, 69, 70, 71, 72, 73, 74, 75, 76, 77, 78, 79, 80, 81, 82, 83, 84, 85, 86, 87, 88, 89, 90, 91, 92, 93] (by decide +kernel) (by decide +kernel)
set_option maxRecDepth 20000 in
theorem gX10_quarrels_X10_know : GoodIn wsX10_quarrels (wsV RX10 201 RX10 yX10_know wsX10_know) := goodIn_app (goodIn_of _ (by decide +kernel)) ggX10_quarrels_X10_know
theorem dX10_quarrels_0 : decode cX10_quarrels 0 = .ok (.iload_n 1, 1) := by decide +kernel
theorem dX10_quarrels_1 : decode cX10_quarrels 1 = .ok (.invokestatic 160, 3) := by decide +kernel
theorem dX10_quarrels_4 : decode cX10_quarrels 4 = .ok (.ifCond .eq 10, 3) := by decide +kernel
theorem dX10_quarrels_7 : decode cX10_quarrels 7 = .ok (.iload_n 2, 1) := by decide +kernel
theorem dX10_quarrels_8 : decode cX10_quarrels 8 = .ok (.invokestatic 175, 3) := by decide +kernel
theorem dX10_quarrels_11 : decode cX10_quarrels 11 = .ok (.ifCond .ne 6, 3) := by decide +kernel
theorem dX10_quarrels_14 : decode cX10_quarrels 14 = .ok (.ldc 116, 2) := by decide +kernel
theorem dX10_quarrels_16 : decode cX10_quarrels 16 = .ok (.ireturn, 1) := by decide +kernel
theorem dX10_quarrels_17 : decode cX10_quarrels 17 = .ok (.aload_n 0, 1) := by decide +kernel
theorem dX10_quarrels_18 : decode cX10_quarrels 18 = .ok (.iload_n 1, 1) := by decide +kernel
theorem dX10_quarrels_19 : decode cX10_quarrels 19 = .ok (.iload_n 2, 1) := by decide +kernel
theorem dX10_quarrels_20 : decode cX10_quarrels 20 = .ok (.invokevirtual 201, 3) := by decide +kernel
theorem dX10_quarrels_23 : decode cX10_quarrels 23 = .ok (.iconst 0, 1) := by decide +kernel
theorem dX10_quarrels_24 : decode cX10_quarrels 24 = .ok (.istore_n 3, 1) := by decide +kernel
theorem dX10_quarrels_25 : decode cX10_quarrels 25 = .ok (.iconst 0, 1) := by decide +kernel
theorem dX10_quarrels_26 : decode cX10_quarrels 26 = .ok (.istore 4, 2) := by decide +kernel
theorem dX10_quarrels_28 : decode cX10_quarrels 28 = .ok (.iload 4, 2) := by decide +kernel
theorem dX10_quarrels_30 : decode cX10_quarrels 30 = .ok (.aload_n 0, 1) := by decide +kernel
theorem dX10_quarrels_31 : decode cX10_quarrels 31 = .ok (.getfield 109, 3) := by decide +kernel
theorem dX10_quarrels_34 : decode cX10_quarrels 34 = .ok (.if_icmp .ge 27, 3) := by decide +kernel
theorem dX10_quarrels_37 : decode cX10_quarrels 37 = .ok (.iload_n 3, 1) := by decide +kernel
theorem dX10_quarrels_38 : decode cX10_quarrels 38 = .ok (.aload_n 0, 1) := by decide +kernel
theorem dX10_quarrels_39 : decode cX10_quarrels 39 = .ok (.getfield 91, 3) := by decide +kernel
theorem dX10_quarrels_42 : decode cX10_quarrels 42 = .ok (.iload 4, 2) := by decide +kernel
theorem dX10_quarrels_44 : decode cX10_quarrels 44 = .ok (.iaload, 1) := by decide +kernel
theorem dX10_quarrels_45 : decode cX10_quarrels 45 = .ok (.ifCond .le 7, 3) := by decide +kernel
theorem dX10_quarrels_48 : decode cX10_quarrels 48 = .ok (.iconst 1, 1) := by decide +kernel
theorem dX10_quarrels_49 : decode cX10_quarrels 49 = .ok (.goto 4, 3) := by decide +kernel
theorem dX10_quarrels_52 : decode cX10_quarrels 52 = .ok (.iconst 0, 1) := by decide +kernel
theorem dX10_quarrels_53 : decode cX10_quarrels 53 = .ok (.iadd, 1) := by decide +kernel
theorem dX10_quarrels_54 : decode cX10_quarrels 54 = .ok (.istore_n 3, 1) := by decide +kernel
theorem dX10_quarrels_55 : decode cX10_quarrels 55 = .ok (.iinc 4 1, 3) := by decide +kernel
theorem dX10_quarrels_58 : decode cX10_quarrels 58 = .ok (.goto (-30), 3) := by decide +kernel
theorem dX10_quarrels_61 : decode cX10_quarrels 61 = .ok (.iload_n 3, 1) := by decide +kernel
theorem dX10_quarrels_62 : decode cX10_quarrels 62 = .ok (.ireturn, 1) := by decide +kernel
set_option maxRecDepth 20000 in
theorem ggX10_worthOf_X10_valueOf : GoodIn wsX10_worthOf wsX10_valueOf := goodIn_r _ [12, 13, 14, 15, 16, 17, 18, 19, 20, 21, 22, 23, 24, 25, 26, 27, 28, 29, 30, 31, 32, 33, 34, 35, 36, 37, 38, 39, 40, 41, 42, 43, 44, 45, 46, 47, 48, 49, 50, 51, 52, 53, 54, 55, 56, 57, 58] (by decide +kernel) (by decide +kernel)
set_option maxRecDepth 20000 in
theorem gX10_worthOf_X10_valueOf : GoodIn wsX10_worthOf (wsV RX10 195 RX10 yX10_valueOf wsX10_valueOf) := goodIn_app (goodIn_of _ (by decide +kernel)) ggX10_worthOf_X10_valueOf
theorem dX10_worthOf_0 : decode cX10_worthOf 0 = .ok (.aload_n 0, 1) := by decide +kernel
theorem dX10_worthOf_1 : decode cX10_worthOf 1 = .ok (.iconst 4, 1) := by decide +kernel
theorem dX10_worthOf_2 : decode cX10_worthOf 2 = .ok (.iload_n 2, 1) := by decide +kernel
theorem dX10_worthOf_3 : decode cX10_worthOf 3 = .ok (.iload_n 3, 1) := by decide +kernel
theorem dX10_worthOf_4 : decode cX10_worthOf 4 = .ok (.invokevirtual 195, 3) := by decide +kernel
theorem dX10_worthOf_7 : decode cX10_worthOf 7 = .ok (.istore 4, 2) := by decide +kernel
theorem dX10_worthOf_9 : decode cX10_worthOf 9 = .ok (.aload_n 0, 1) := by decide +kernel
theorem dX10_worthOf_10 : decode cX10_worthOf 10 = .ok (.iconst 3, 1) := by decide +kernel
theorem dX10_worthOf_11 : decode cX10_worthOf 11 = .ok (.iload_n 2, 1) := by decide +kernel
theorem dX10_worthOf_12 : decode cX10_worthOf 12 = .ok (.iload_n 3, 1) := by decide +kernel
theorem dX10_worthOf_13 : decode cX10_worthOf 13 = .ok (.invokevirtual 195, 3) := by decide +kernel
theorem dX10_worthOf_16 : decode cX10_worthOf 16 = .ok (.istore 5, 2) := by decide +kernel
theorem dX10_worthOf_18 : decode cX10_worthOf 18 = .ok (.iconst 0, 1) := by decide +kernel
theorem dX10_worthOf_19 : decode cX10_worthOf 19 = .ok (.istore 6, 2) := by decide +kernel
theorem dX10_worthOf_21 : decode cX10_worthOf 21 = .ok (.iconst 0, 1) := by decide +kernel
theorem dX10_worthOf_22 : decode cX10_worthOf 22 = .ok (.istore 7, 2) := by decide +kernel
theorem dX10_worthOf_24 : decode cX10_worthOf 24 = .ok (.iload 7, 2) := by decide +kernel
theorem dX10_worthOf_26 : decode cX10_worthOf 26 = .ok (.aload_n 0, 1) := by decide +kernel
theorem dX10_worthOf_27 : decode cX10_worthOf 27 = .ok (.getfield 109, 3) := by decide +kernel
theorem dX10_worthOf_30 : decode cX10_worthOf 30 = .ok (.if_icmp .ge 155, 3) := by decide +kernel
theorem dX10_worthOf_33 : decode cX10_worthOf 33 = .ok (.aload_n 0, 1) := by decide +kernel
theorem dX10_worthOf_34 : decode cX10_worthOf 34 = .ok (.getfield 22, 3) := by decide +kernel
theorem dX10_worthOf_37 : decode cX10_worthOf 37 = .ok (.iload 7, 2) := by decide +kernel
theorem dX10_worthOf_39 : decode cX10_worthOf 39 = .ok (.iaload, 1) := by decide +kernel
theorem dX10_worthOf_40 : decode cX10_worthOf 40 = .ok (.iload_n 1, 1) := by decide +kernel
theorem dX10_worthOf_41 : decode cX10_worthOf 41 = .ok (.if_icmp .ne 138, 3) := by decide +kernel
theorem dX10_worthOf_44 : decode cX10_worthOf 44 = .ok (.aload_n 0, 1) := by decide +kernel
theorem dX10_worthOf_45 : decode cX10_worthOf 45 = .ok (.getfield 91, 3) := by decide +kernel
theorem dX10_worthOf_48 : decode cX10_worthOf 48 = .ok (.iload 7, 2) := by decide +kernel
theorem dX10_worthOf_50 : decode cX10_worthOf 50 = .ok (.iaload, 1) := by decide +kernel
theorem dX10_worthOf_51 : decode cX10_worthOf 51 = .ok (.ifCond .eq 6, 3) := by decide +kernel
theorem dX10_worthOf_54 : decode cX10_worthOf 54 = .ok (.goto 125, 3) := by decide +kernel
theorem dX10_worthOf_57 : decode cX10_worthOf 57 = .ok (.aload_n 0, 1) := by decide +kernel
theorem dX10_worthOf_58 : decode cX10_worthOf 58 = .ok (.getfield 34, 3) := by decide +kernel
theorem dX10_worthOf_61 : decode cX10_worthOf 61 = .ok (.iload 7, 2) := by decide +kernel
theorem dX10_worthOf_63 : decode cX10_worthOf 63 = .ok (.iaload, 1) := by decide +kernel
theorem dX10_worthOf_64 : decode cX10_worthOf 64 = .ok (.istore 8, 2) := by decide +kernel
theorem dX10_worthOf_66 : decode cX10_worthOf 66 = .ok (.aload_n 0, 1) := by decide +kernel
theorem dX10_worthOf_67 : decode cX10_worthOf 67 = .ok (.getfield 19, 3) := by decide +kernel
theorem dX10_worthOf_70 : decode cX10_worthOf 70 = .ok (.iload 7, 2) := by decide +kernel
theorem dX10_worthOf_72 : decode cX10_worthOf 72 = .ok (.iaload, 1) := by decide +kernel
theorem dX10_worthOf_73 : decode cX10_worthOf 73 = .ok (.tableswitch 96 1 4 #[31, 60, 70, 83], 31) := by decide +kernel
theorem dX10_worthOf_104 : decode cX10_worthOf 104 = .ok (.iload 6, 2) := by decide +kernel
theorem dX10_worthOf_106 : decode cX10_worthOf 106 = .ok (.iload 8, 2) := by decide +kernel
theorem dX10_worthOf_108 : decode cX10_worthOf 108 = .ok (.aload_n 0, 1) := by decide +kernel
theorem dX10_worthOf_109 : decode cX10_worthOf 109 = .ok (.aload_n 0, 1) := by decide +kernel
theorem dX10_worthOf_110 : decode cX10_worthOf 110 = .ok (.getfield 13, 3) := by decide +kernel
theorem dX10_worthOf_113 : decode cX10_worthOf 113 = .ok (.aload_n 0, 1) := by decide +kernel
theorem dX10_worthOf_114 : decode cX10_worthOf 114 = .ok (.getfield 31, 3) := by decide +kernel
theorem dX10_worthOf_117 : decode cX10_worthOf 117 = .ok (.iload 7, 2) := by decide +kernel
theorem dX10_worthOf_119 : decode cX10_worthOf 119 = .ok (.iaload, 1) := by decide +kernel
theorem dX10_worthOf_120 : decode cX10_worthOf 120 = .ok (.iaload, 1) := by decide +kernel
theorem dX10_worthOf_121 : decode cX10_worthOf 121 = .ok (.iload_n 2, 1) := by decide +kernel
theorem dX10_worthOf_122 : decode cX10_worthOf 122 = .ok (.iload_n 3, 1) := by decide +kernel
theorem dX10_worthOf_123 : decode cX10_worthOf 123 = .ok (.invokevirtual 195, 3) := by decide +kernel
theorem dX10_worthOf_126 : decode cX10_worthOf 126 = .ok (.imul, 1) := by decide +kernel
theorem dX10_worthOf_127 : decode cX10_worthOf 127 = .ok (.iadd, 1) := by decide +kernel
theorem dX10_worthOf_128 : decode cX10_worthOf 128 = .ok (.istore 6, 2) := by decide +kernel
theorem dX10_worthOf_130 : decode cX10_worthOf 130 = .ok (.goto 49, 3) := by decide +kernel
theorem dX10_worthOf_133 : decode cX10_worthOf 133 = .ok (.iload 6, 2) := by decide +kernel
theorem dX10_worthOf_135 : decode cX10_worthOf 135 = .ok (.iload 8, 2) := by decide +kernel
theorem dX10_worthOf_137 : decode cX10_worthOf 137 = .ok (.iadd, 1) := by decide +kernel
theorem dX10_worthOf_138 : decode cX10_worthOf 138 = .ok (.istore 6, 2) := by decide +kernel
theorem dX10_worthOf_140 : decode cX10_worthOf 140 = .ok (.goto 39, 3) := by decide +kernel
theorem dX10_worthOf_143 : decode cX10_worthOf 143 = .ok (.iload 6, 2) := by decide +kernel
theorem dX10_worthOf_145 : decode cX10_worthOf 145 = .ok (.iload 8, 2) := by decide +kernel
theorem dX10_worthOf_147 : decode cX10_worthOf 147 = .ok (.iload 5, 2) := by decide +kernel
theorem dX10_worthOf_149 : decode cX10_worthOf 149 = .ok (.imul, 1) := by decide +kernel
theorem dX10_worthOf_150 : decode cX10_worthOf 150 = .ok (.isub, 1) := by decide +kernel
theorem dX10_worthOf_151 : decode cX10_worthOf 151 = .ok (.istore 6, 2) := by decide +kernel
theorem dX10_worthOf_153 : decode cX10_worthOf 153 = .ok (.goto 26, 3) := by decide +kernel
theorem dX10_worthOf_156 : decode cX10_worthOf 156 = .ok (.iload 6, 2) := by decide +kernel
theorem dX10_worthOf_158 : decode cX10_worthOf 158 = .ok (.iload 8, 2) := by decide +kernel
theorem dX10_worthOf_160 : decode cX10_worthOf 160 = .ok (.iload 4, 2) := by decide +kernel
theorem dX10_worthOf_162 : decode cX10_worthOf 162 = .ok (.imul, 1) := by decide +kernel
theorem dX10_worthOf_163 : decode cX10_worthOf 163 = .ok (.isub, 1) := by decide +kernel
theorem dX10_worthOf_164 : decode cX10_worthOf 164 = .ok (.istore 6, 2) := by decide +kernel
theorem dX10_worthOf_166 : decode cX10_worthOf 166 = .ok (.goto 13, 3) := by decide +kernel
theorem dX10_worthOf_169 : decode cX10_worthOf 169 = .ok (.iload 6, 2) := by decide +kernel
theorem dX10_worthOf_171 : decode cX10_worthOf 171 = .ok (.iload 8, 2) := by decide +kernel
theorem dX10_worthOf_173 : decode cX10_worthOf 173 = .ok (.iload 4, 2) := by decide +kernel
theorem dX10_worthOf_175 : decode cX10_worthOf 175 = .ok (.imul, 1) := by decide +kernel
theorem dX10_worthOf_176 : decode cX10_worthOf 176 = .ok (.iadd, 1) := by decide +kernel
theorem dX10_worthOf_177 : decode cX10_worthOf 177 = .ok (.istore 6, 2) := by decide +kernel
theorem dX10_worthOf_179 : decode cX10_worthOf 179 = .ok (.iinc 7 1, 3) := by decide +kernel
theorem dX10_worthOf_182 : decode cX10_worthOf 182 = .ok (.goto (-158), 3) := by decide +kernel
theorem dX10_worthOf_185 : decode cX10_worthOf 185 = .ok (.iload 6, 2) := by decide +kernel
theorem dX10_worthOf_187 : decode cX10_worthOf 187 = .ok (.ifCond .ge 7, 3) := by decide +kernel
theorem dX10_worthOf_190 : decode cX10_worthOf 190 = .ok (.iconst 0, 1) := by decide +kernel
theorem dX10_worthOf_191 : decode cX10_worthOf 191 = .ok (.goto 5, 3) := by decide +kernel
theorem dX10_worthOf_194 : decode cX10_worthOf 194 = .ok (.iload 6, 2) := by decide +kernel
theorem dX10_worthOf_196 : decode cX10_worthOf 196 = .ok (.ireturn, 1) := by decide +kernel
set_option maxRecDepth 20000 in
theorem ggX10_knownWorth_X10_know : GoodIn wsX10_knownWorth wsX10_know := goodIn_r _ [5, 6, 7, 8, 9, 10, 11, 12, 13, 14, 15, 16, 17, 18, 4, 19, 20, 21, 22, 23, 24, 25, 26, 27, 28, 29, 30, 31, 32, 33, 34, 35, 36, 37, 38, 39, 40, 41, 56, 57, 58, 59, 60, 61, 62, 63, 64, 65, 66, 67, 68, 69, 70, 71, 72, 73, 74, 75, 76, 77, 78, 79, 80, 81, 82, 83, 84, 85, 86, 87, 88, 89, 90, 91, 92, 93, 94, 95, 96] (by decide +kernel) (by decide +kernel)
set_option maxRecDepth 20000 in
theorem gX10_knownWorth_X10_know : GoodIn wsX10_knownWorth (wsV RX10 201 RX10 yX10_know wsX10_know) := goodIn_app (goodIn_of _ (by decide +kernel)) ggX10_knownWorth_X10_know
set_option maxRecDepth 20000 in
theorem ggX10_knownWorth_X10_worthOf : GoodIn wsX10_knownWorth wsX10_worthOf := goodIn_r _ [45, 6, 12, 9, 14, 11, 46, 13, 47, 48, 49, 4, 50, 51, 52, 53, 54, 55, 56, 57, 58, 59, 60, 61, 62, 63, 64, 65, 66, 67, 68, 69, 70, 71, 72, 73, 74, 75, 76, 77, 78, 79, 80, 81, 82, 83, 84, 85, 86, 87, 88, 89, 90, 91, 92, 93, 94, 95, 96] (by decide +kernel) (by decide +kernel)
set_option maxRecDepth 20000 in
theorem gX10_knownWorth_X10_worthOf : GoodIn wsX10_knownWorth (wsV RX10 205 RX10 yX10_worthOf wsX10_worthOf) := goodIn_app (goodIn_of _ (by decide +kernel)) ggX10_knownWorth_X10_worthOf
theorem dX10_knownWorth_0 : decode cX10_knownWorth 0 = .ok (.aload_n 0, 1) := by decide +kernel
theorem dX10_knownWorth_1 : decode cX10_knownWorth 1 = .ok (.iload_n 2, 1) := by decide +kernel
theorem dX10_knownWorth_2 : decode cX10_knownWorth 2 = .ok (.iload_n 3, 1) := by decide +kernel
theorem dX10_knownWorth_3 : decode cX10_knownWorth 3 = .ok (.invokevirtual 201, 3) := by decide +kernel
theorem dX10_knownWorth_6 : decode cX10_knownWorth 6 = .ok (.aload_n 0, 1) := by decide +kernel
theorem dX10_knownWorth_7 : decode cX10_knownWorth 7 = .ok (.iload_n 1, 1) := by decide +kernel
theorem dX10_knownWorth_8 : decode cX10_knownWorth 8 = .ok (.iload_n 2, 1) := by decide +kernel
theorem dX10_knownWorth_9 : decode cX10_knownWorth 9 = .ok (.iload_n 3, 1) := by decide +kernel
theorem dX10_knownWorth_10 : decode cX10_knownWorth 10 = .ok (.invokevirtual 205, 3) := by decide +kernel
theorem dX10_knownWorth_13 : decode cX10_knownWorth 13 = .ok (.ireturn, 1) := by decide +kernel
set_option maxRecDepth 20000 in
theorem ggX10_taxOf_X10_worthOf : GoodIn wsX10_taxOf wsX10_worthOf := goodIn_r _ [6, 7, 8, 9, 10, 11, 12, 13, 14, 15, 16, 5, 17, 18, 19, 20, 21, 22, 23, 24, 25, 26, 27, 28, 29, 30, 31, 32, 33, 34, 35, 36, 37, 38, 39, 40, 41, 42, 43, 44, 45, 46, 47, 48, 49, 50, 51, 52, 53, 54, 55, 56, 57, 58, 59, 60, 61, 62, 63] (by decide +kernel) (by decide +kernel)
set_option maxRecDepth 20000 in
theorem gX10_taxOf_X10_worthOf : GoodIn wsX10_taxOf (wsV RX10 205 RX10 yX10_worthOf wsX10_worthOf) := goodIn_app (goodIn_of _ (by decide +kernel)) ggX10_taxOf_X10_worthOf
set_option maxRecDepth 20000 in
theorem ggX10_taxOf_X10_valueOf : GoodIn wsX10_taxOf wsX10_valueOf := goodIn_r _ [17, 18, 19, 20, 21, 22, 23, 24, 25, 26, 27, 28, 29, 30, 31, 32, 33, 34, 35, 36, 37, 38, 39, 40, 41, 42, 43, 44, 45, 46, 47, 48, 49, 50, 51, 52, 53, 54, 55, 56, 57, 58, 59, 60, 61, 62, 63] (by decide +kernel) (by decide +kernel)
set_option maxRecDepth 20000 in
theorem gX10_taxOf_X10_valueOf : GoodIn wsX10_taxOf (wsV RX10 195 RX10 yX10_valueOf wsX10_valueOf) := goodIn_app (goodIn_of _ (by decide +kernel)) ggX10_taxOf_X10_valueOf
theorem dX10_taxOf_0 : decode cX10_taxOf 0 = .ok (.aload_n 0, 1) := by decide +kernel
theorem dX10_taxOf_1 : decode cX10_taxOf 1 = .ok (.iload_n 1, 1) := by decide +kernel
theorem dX10_taxOf_2 : decode cX10_taxOf 2 = .ok (.iload_n 2, 1) := by decide +kernel
theorem dX10_taxOf_3 : decode cX10_taxOf 3 = .ok (.iload_n 3, 1) := by decide +kernel
theorem dX10_taxOf_4 : decode cX10_taxOf 4 = .ok (.invokevirtual 205, 3) := by decide +kernel
theorem dX10_taxOf_7 : decode cX10_taxOf 7 = .ok (.i2l, 1) := by decide +kernel
theorem dX10_taxOf_8 : decode cX10_taxOf 8 = .ok (.aload_n 0, 1) := by decide +kernel
theorem dX10_taxOf_9 : decode cX10_taxOf 9 = .ok (.iconst 5, 1) := by decide +kernel
theorem dX10_taxOf_10 : decode cX10_taxOf 10 = .ok (.iload_n 2, 1) := by decide +kernel
theorem dX10_taxOf_11 : decode cX10_taxOf 11 = .ok (.iload_n 3, 1) := by decide +kernel
theorem dX10_taxOf_12 : decode cX10_taxOf 12 = .ok (.invokevirtual 195, 3) := by decide +kernel
theorem dX10_taxOf_15 : decode cX10_taxOf 15 = .ok (.i2l, 1) := by decide +kernel
theorem dX10_taxOf_16 : decode cX10_taxOf 16 = .ok (.lmul, 1) := by decide +kernel
theorem dX10_taxOf_17 : decode cX10_taxOf 17 = .ok (.ldc2_w 208, 3) := by decide +kernel
theorem dX10_taxOf_20 : decode cX10_taxOf 20 = .ok (.ldiv, 1) := by decide +kernel
theorem dX10_taxOf_21 : decode cX10_taxOf 21 = .ok (.l2i, 1) := by decide +kernel
theorem dX10_taxOf_22 : decode cX10_taxOf 22 = .ok (.ireturn, 1) := by decide +kernel
set_option maxRecDepth 20000 in
theorem ggX10_worth_X10_isHouse : GoodIn wsX10_worth wsX10_isHouse := goodIn_r _ [5, 6, 7, 4, 8] (by decide +kernel) (by decide +kernel)
set_option maxRecDepth 20000 in
theorem gX10_worth_X10_isHouse : GoodIn wsX10_worth (va_wsS RX10 152 yX10_isHouse wsX10_isHouse) := goodIn_app (goodIn_of _ (by decide +kernel)) ggX10_worth_X10_isHouse
set_option maxRecDepth 20000 in
theorem ggX10_worth_X10_isYear : GoodIn wsX10_worth wsX10_isYear := goodIn_r _ [11, 6, 7, 4, 8] (by decide +kernel) (by decide +kernel)
set_option maxRecDepth 20000 in
theorem gX10_worth_X10_isYear : GoodIn wsX10_worth (va_wsS RX10 160 yX10_isYear wsX10_isYear) := goodIn_app (goodIn_of _ (by decide +kernel)) ggX10_worth_X10_isYear
set_option maxRecDepth 20000 in
theorem ggX10_worth_X10_isDay : GoodIn wsX10_worth wsX10_isDay := goodIn_r _ [14, 15, 6, 7, 4, 8] (by decide +kernel) (by decide +kernel)
set_option maxRecDepth 20000 in
theorem gX10_worth_X10_isDay : GoodIn wsX10_worth (va_wsS RX10 175 yX10_isDay wsX10_isDay) := goodIn_app (goodIn_of _ (by decide +kernel)) ggX10_worth_X10_isDay
set_option maxRecDepth 20000 in
theorem ggX10_worth_X10_knownWorth : GoodIn wsX10_worth wsX10_knownWorth := goodIn_r _ [19, 20, 21, 22, 4, 23, 24, 25, 26, 27, 28, 29, 30, 31, 32, 33, 34, 35, 36, 37, 38, 39, 40, 41, 42, 43, 44, 45, 46, 47, 48, 49, 50, 51, 52, 53, 54, 55, 56, 57, 58, 59, 60, 61, 62, 63, 64, 65, 66, 67, 68, 69, 70, 71, 72, 73, 74, 75, 76, 77, 78, 79, 80, 81, 82, 83, 84, 85, 86, 87, 88, 89, 90, 91, 92, 93, 94, 95, 96, 97, 98, 99, 100, 101, 102, 103, 104, 105, 106, 107, 108, 109, 110, 111, 112, 113, 114] (by decide +kernel) (by decide +kernel)
set_option maxRecDepth 20000 in
theorem gX10_worth_X10_knownWorth : GoodIn wsX10_worth (wsV RX10 210 RX10 yX10_knownWorth wsX10_knownWorth) := goodIn_app (goodIn_of _ (by decide +kernel)) ggX10_worth_X10_knownWorth
theorem dX10_worth_0 : decode cX10_worth 0 = .ok (.iload_n 1, 1) := by decide +kernel
theorem dX10_worth_1 : decode cX10_worth 1 = .ok (.invokestatic 152, 3) := by decide +kernel
theorem dX10_worth_4 : decode cX10_worth 4 = .ok (.ifCond .eq 27, 3) := by decide +kernel
theorem dX10_worth_7 : decode cX10_worth 7 = .ok (.iload_n 2, 1) := by decide +kernel
theorem dX10_worth_8 : decode cX10_worth 8 = .ok (.invokestatic 160, 3) := by decide +kernel
theorem dX10_worth_11 : decode cX10_worth 11 = .ok (.ifCond .eq 20, 3) := by decide +kernel
theorem dX10_worth_14 : decode cX10_worth 14 = .ok (.iload_n 3, 1) := by decide +kernel
theorem dX10_worth_15 : decode cX10_worth 15 = .ok (.invokestatic 175, 3) := by decide +kernel
theorem dX10_worth_18 : decode cX10_worth 18 = .ok (.ifCond .eq 13, 3) := by decide +kernel
theorem dX10_worth_21 : decode cX10_worth 21 = .ok (.aload_n 0, 1) := by decide +kernel
theorem dX10_worth_22 : decode cX10_worth 22 = .ok (.iload_n 1, 1) := by decide +kernel
theorem dX10_worth_23 : decode cX10_worth 23 = .ok (.iload_n 2, 1) := by decide +kernel
theorem dX10_worth_24 : decode cX10_worth 24 = .ok (.iload_n 3, 1) := by decide +kernel
theorem dX10_worth_25 : decode cX10_worth 25 = .ok (.invokevirtual 210, 3) := by decide +kernel
theorem dX10_worth_28 : decode cX10_worth 28 = .ok (.goto 5, 3) := by decide +kernel
theorem dX10_worth_31 : decode cX10_worth 31 = .ok (.ldc 116, 2) := by decide +kernel
theorem dX10_worth_33 : decode cX10_worth 33 = .ok (.ireturn, 1) := by decide +kernel
set_option maxRecDepth 20000 in
theorem ggX10_tax_X10_isHouse : GoodIn wsX10_tax wsX10_isHouse := goodIn_r _ [5, 6, 7, 4, 8] (by decide +kernel) (by decide +kernel)
set_option maxRecDepth 20000 in
theorem gX10_tax_X10_isHouse : GoodIn wsX10_tax (va_wsS RX10 152 yX10_isHouse wsX10_isHouse) := goodIn_app (goodIn_of _ (by decide +kernel)) ggX10_tax_X10_isHouse
set_option maxRecDepth 20000 in
theorem ggX10_tax_X10_isYear : GoodIn wsX10_tax wsX10_isYear := goodIn_r _ [11, 6, 7, 4, 8] (by decide +kernel) (by decide +kernel)
set_option maxRecDepth 20000 in
theorem gX10_tax_X10_isYear : GoodIn wsX10_tax (va_wsS RX10 160 yX10_isYear wsX10_isYear) := goodIn_app (goodIn_of _ (by decide +kernel)) ggX10_tax_X10_isYear
set_option maxRecDepth 20000 in
theorem ggX10_tax_X10_isDay : GoodIn wsX10_tax wsX10_isDay := goodIn_r _ [14, 15, 6, 7, 4, 8] (by decide +kernel) (by decide +kernel)
set_option maxRecDepth 20000 in
theorem gX10_tax_X10_isDay : GoodIn wsX10_tax (va_wsS RX10 175 yX10_isDay wsX10_isDay) := goodIn_app (goodIn_of _ (by decide +kernel)) ggX10_tax_X10_isDay
set_option maxRecDepth 20000 in
theorem ggX10_tax_X10_know : GoodIn wsX10_tax wsX10_know := goodIn_r _ [19, 20, 21, 22, 23, 24, 25, 26, 27, 28, 29, 30, 31, 32, 4, 33, 34, 35, 36, 37, 38, 39, 40, 41, 42, 43, 44, 45, 46, 47, 48, 49, 50, 51, 52, 53, 54, 55, 75, 76, 77, 78, 79, 80, 81, 82, 83, 84, 85, 86, 87, 88, 89, 90, 91, 92, 93, 94, 95, 96, 97, 98, 99, 100, 101, 102, 103, 104, 105, 106, 107, 108, 109, 110, 111, 112, 113, 114, 115] (by decide +kernel) (by decide +kernel)
set_option maxRecDepth 20000 in
theorem gX10_tax_X10_know : GoodIn wsX10_tax (wsV RX10 201 RX10 yX10_know wsX10_know) := goodIn_app (goodIn_of _ (by decide +kernel)) ggX10_tax_X10_know
set_option maxRecDepth 20000 in
theorem ggX10_tax_X10_taxOf : GoodIn wsX10_tax wsX10_taxOf := goodIn_r _ [59, 60, 61, 62, 63, 4, 64, 20, 26, 23, 28, 25, 65, 27, 66, 67, 68, 69, 70, 71, 72, 73, 74, 75, 76, 77, 78, 79, 80, 81, 82, 83, 84, 85, 86, 87, 88, 89, 90, 91, 92, 93, 94, 95, 96, 97, 98, 99, 100, 101, 102, 103, 104, 105, 106, 107, 108, 109, 110, 111, 112, 113, 114, 115] (by decide +kernel) (by decide +kernel)
set_option maxRecDepth 20000 in
theorem gX10_tax_X10_taxOf : GoodIn wsX10_tax (wsV RX10 213 RX10 yX10_taxOf wsX10_taxOf) := goodIn_app (goodIn_of _ (by decide +kernel)) ggX10_tax_X10_taxOf
theorem dX10_tax_0 : decode cX10_tax 0 = .ok (.iload_n 1, 1) := by decide +kernel
theorem dX10_tax_1 : decode cX10_tax 1 = .ok (.invokestatic 152, 3) := by decide +kernel
theorem dX10_tax_4 : decode cX10_tax 4 = .ok (.ifCond .eq 17, 3) := by decide +kernel
theorem dX10_tax_7 : decode cX10_tax 7 = .ok (.iload_n 2, 1) := by decide +kernel
theorem dX10_tax_8 : decode cX10_tax 8 = .ok (.invokestatic 160, 3) := by decide +kernel
theorem dX10_tax_11 : decode cX10_tax 11 = .ok (.ifCond .eq 10, 3) := by decide +kernel
theorem dX10_tax_14 : decode cX10_tax 14 = .ok (.iload_n 3, 1) := by decide +kernel
theorem dX10_tax_15 : decode cX10_tax 15 = .ok (.invokestatic 175, 3) := by decide +kernel
theorem dX10_tax_18 : decode cX10_tax 18 = .ok (.ifCond .ne 6, 3) := by decide +kernel
theorem dX10_tax_21 : decode cX10_tax 21 = .ok (.ldc 116, 2) := by decide +kernel
theorem dX10_tax_23 : decode cX10_tax 23 = .ok (.ireturn, 1) := by decide +kernel
theorem dX10_tax_24 : decode cX10_tax 24 = .ok (.aload_n 0, 1) := by decide +kernel
theorem dX10_tax_25 : decode cX10_tax 25 = .ok (.iload_n 2, 1) := by decide +kernel
theorem dX10_tax_26 : decode cX10_tax 26 = .ok (.iload_n 3, 1) := by decide +kernel
theorem dX10_tax_27 : decode cX10_tax 27 = .ok (.invokevirtual 201, 3) := by decide +kernel
theorem dX10_tax_30 : decode cX10_tax 30 = .ok (.aload_n 0, 1) := by decide +kernel
theorem dX10_tax_31 : decode cX10_tax 31 = .ok (.iload_n 1, 1) := by decide +kernel
theorem dX10_tax_32 : decode cX10_tax 32 = .ok (.iload_n 2, 1) := by decide +kernel
theorem dX10_tax_33 : decode cX10_tax 33 = .ok (.iload_n 3, 1) := by decide +kernel
theorem dX10_tax_34 : decode cX10_tax 34 = .ok (.invokevirtual 213, 3) := by decide +kernel
theorem dX10_tax_37 : decode cX10_tax 37 = .ok (.ireturn, 1) := by decide +kernel
set_option maxRecDepth 20000 in
theorem ggX10_taxes_X10_isYear : GoodIn wsX10_taxes wsX10_isYear := goodIn_r _ [5, 6, 7, 4, 8] (by decide +kernel) (by decide +kernel)
set_option maxRecDepth 20000 in
theorem gX10_taxes_X10_isYear : GoodIn wsX10_taxes (va_wsS RX10 160 yX10_isYear wsX10_isYear) := goodIn_app (goodIn_of _ (by decide +kernel)) ggX10_taxes_X10_isYear
set_option maxRecDepth 20000 in
theorem ggX10_taxes_X10_isDay : GoodIn wsX10_taxes wsX10_isDay := goodIn_r _ [11, 12, 6, 7, 4, 8] (by decide +kernel) (by decide +kernel)
set_option maxRecDepth 20000 in
theorem gX10_taxes_X10_isDay : GoodIn wsX10_taxes (va_wsS RX10 175 yX10_isDay wsX10_isDay) := goodIn_app (goodIn_of _ (by decide +kernel)) ggX10_taxes_X10_isDay
set_option maxRecDepth 20000 in
theorem ggX10_taxes_X10_know : GoodIn wsX10_taxes wsX10_know := goodIn_r _ [16, 17, 18, 19, 20, 21, 22, 23, 24, 25, 26, 27, 28, 29, 4, 30, 31, 32, 33, 34, 35, 36, 37, 38, 39, 40, 41, 42, 43, 44, 45, 46, 47, 48, 49, 50, 51, 52, 72, 73, 74, 75, 76, 77, 78, 79, 80, 81, 82, 83, 84, 85, 86, 87, 88, 89, 90, 91, 92, 93, 94, 95, 96, 97, 98, 99, 100, 101, 102, 103, 104, 105, 106, 107, 108, 109, 110, 111, 112] (by decide +kernel) (by decide +kernel)
set_option maxRecDepth 20000 in
theorem gX10_taxes_X10_know : GoodIn wsX10_taxes (wsV RX10 201 RX10 yX10_know wsX10_know) := goodIn_app (goodIn_of _ (by decide +kernel)) ggX10_taxes_X10_know
set_option maxRecDepth 20000 in
theorem ggX10_taxes_X10_taxOf : GoodIn wsX10_taxes wsX10_taxOf := goodIn_r _ [56, 57, 58, 59, 60, 4, 61, 17, 23, 20, 25, 22, 62, 24, 63, 64, 65, 66, 67, 68, 69, 70, 71, 72, 73, 74, 75, 76, 77, 78, 79, 80, 81, 82, 83, 84, 85, 86, 87, 88, 89, 90, 91, 92, 93, 94, 95, 96, 97, 98, 99, 100, 101, 102, 103, 104, 105, 106, 107, 108, 109, 110, 111, 112] (by decide +kernel) (by decide +kernel)
set_option maxRecDepth 20000 in
theorem gX10_taxes_X10_taxOf : GoodIn wsX10_taxes (wsV RX10 213 RX10 yX10_taxOf wsX10_taxOf) := goodIn_app (goodIn_of _ (by decide +kernel)) ggX10_taxes_X10_taxOf
theorem dX10_taxes_0 : decode cX10_taxes 0 = .ok (.iload_n 1, 1) := by decide +kernel
theorem dX10_taxes_1 : decode cX10_taxes 1 = .ok (.invokestatic 160, 3) := by decide +kernel
theorem dX10_taxes_4 : decode cX10_taxes 4 = .ok (.ifCond .eq 10, 3) := by decide +kernel
theorem dX10_taxes_7 : decode cX10_taxes 7 = .ok (.iload_n 2, 1) := by decide +kernel
theorem dX10_taxes_8 : decode cX10_taxes 8 = .ok (.invokestatic 175, 3) := by decide +kernel
theorem dX10_taxes_11 : decode cX10_taxes 11 = .ok (.ifCond .ne 6, 3) := by decide +kernel
theorem dX10_taxes_14 : decode cX10_taxes 14 = .ok (.ldc 116, 2) := by decide +kernel
theorem dX10_taxes_16 : decode cX10_taxes 16 = .ok (.ireturn, 1) := by decide +kernel
theorem dX10_taxes_17 : decode cX10_taxes 17 = .ok (.aload_n 0, 1) := by decide +kernel
theorem dX10_taxes_18 : decode cX10_taxes 18 = .ok (.iload_n 1, 1) := by decide +kernel
theorem dX10_taxes_19 : decode cX10_taxes 19 = .ok (.iload_n 2, 1) := by decide +kernel
theorem dX10_taxes_20 : decode cX10_taxes 20 = .ok (.invokevirtual 201, 3) := by decide +kernel
theorem dX10_taxes_23 : decode cX10_taxes 23 = .ok (.iconst 0, 1) := by decide +kernel
theorem dX10_taxes_24 : decode cX10_taxes 24 = .ok (.istore_n 3, 1) := by decide +kernel
theorem dX10_taxes_25 : decode cX10_taxes 25 = .ok (.iconst 0, 1) := by decide +kernel
theorem dX10_taxes_26 : decode cX10_taxes 26 = .ok (.istore 4, 2) := by decide +kernel
theorem dX10_taxes_28 : decode cX10_taxes 28 = .ok (.iload 4, 2) := by decide +kernel
theorem dX10_taxes_30 : decode cX10_taxes 30 = .ok (.bipush 10, 2) := by decide +kernel
theorem dX10_taxes_32 : decode cX10_taxes 32 = .ok (.if_icmp .ge 20, 3) := by decide +kernel
theorem dX10_taxes_35 : decode cX10_taxes 35 = .ok (.iload_n 3, 1) := by decide +kernel
theorem dX10_taxes_36 : decode cX10_taxes 36 = .ok (.aload_n 0, 1) := by decide +kernel
theorem dX10_taxes_37 : decode cX10_taxes 37 = .ok (.iload 4, 2) := by decide +kernel
theorem dX10_taxes_39 : decode cX10_taxes 39 = .ok (.iload_n 1, 1) := by decide +kernel
theorem dX10_taxes_40 : decode cX10_taxes 40 = .ok (.iload_n 2, 1) := by decide +kernel
theorem dX10_taxes_41 : decode cX10_taxes 41 = .ok (.invokevirtual 213, 3) := by decide +kernel
theorem dX10_taxes_44 : decode cX10_taxes 44 = .ok (.iadd, 1) := by decide +kernel
theorem dX10_taxes_45 : decode cX10_taxes 45 = .ok (.istore_n 3, 1) := by decide +kernel
theorem dX10_taxes_46 : decode cX10_taxes 46 = .ok (.iinc 4 1, 3) := by decide +kernel
theorem dX10_taxes_49 : decode cX10_taxes 49 = .ok (.goto (-21), 3) := by decide +kernel
theorem dX10_taxes_52 : decode cX10_taxes 52 = .ok (.iload_n 3, 1) := by decide +kernel
theorem dX10_taxes_53 : decode cX10_taxes 53 = .ok (.ireturn, 1) := by decide +kernel
theorem dX10_later_0 : decode cX10_later 0 = .ok (.iload_n 1, 1) := by decide +kernel
theorem dX10_later_1 : decode cX10_later 1 = .ok (.iload_n 2, 1) := by decide +kernel
theorem dX10_later_2 : decode cX10_later 2 = .ok (.if_icmp .gt 12, 3) := by decide +kernel
theorem dX10_later_5 : decode cX10_later 5 = .ok (.iload_n 1, 1) := by decide +kernel
theorem dX10_later_6 : decode cX10_later 6 = .ok (.iload_n 0, 1) := by decide +kernel
theorem dX10_later_7 : decode cX10_later 7 = .ok (.if_icmp .le 7, 3) := by decide +kernel
theorem dX10_later_10 : decode cX10_later 10 = .ok (.iload_n 1, 1) := by decide +kernel
theorem dX10_later_11 : decode cX10_later 11 = .ok (.goto 4, 3) := by decide +kernel
theorem dX10_later_14 : decode cX10_later 14 = .ok (.iload_n 0, 1) := by decide +kernel
theorem dX10_later_15 : decode cX10_later 15 = .ok (.ireturn, 1) := by decide +kernel
set_option maxRecDepth 20000 in
theorem ggX10_event_X10_later : GoodIn wsX10_event wsX10_later := goodIn_r _ [12] (by decide +kernel) (by decide +kernel)
set_option maxRecDepth 20000 in
theorem gX10_event_X10_later : GoodIn wsX10_event (va_wsS RX10 216 yX10_later wsX10_later) := goodIn_app (goodIn_of _ (by decide +kernel)) ggX10_event_X10_later
theorem dX10_event_0 : decode cX10_event 0 = .ok (.iconst 0, 1) := by decide +kernel
theorem dX10_event_1 : decode cX10_event 1 = .ok (.istore_n 2, 1) := by decide +kernel
theorem dX10_event_2 : decode cX10_event 2 = .ok (.iconst 0, 1) := by decide +kernel
theorem dX10_event_3 : decode cX10_event 3 = .ok (.istore_n 3, 1) := by decide +kernel
theorem dX10_event_4 : decode cX10_event 4 = .ok (.iload_n 3, 1) := by decide +kernel
theorem dX10_event_5 : decode cX10_event 5 = .ok (.aload_n 0, 1) := by decide +kernel
theorem dX10_event_6 : decode cX10_event 6 = .ok (.getfield 109, 3) := by decide +kernel
theorem dX10_event_9 : decode cX10_event 9 = .ok (.if_icmp .ge 59, 3) := by decide +kernel
theorem dX10_event_12 : decode cX10_event 12 = .ok (.iload_n 2, 1) := by decide +kernel
theorem dX10_event_13 : decode cX10_event 13 = .ok (.aload_n 0, 1) := by decide +kernel
theorem dX10_event_14 : decode cX10_event 14 = .ok (.getfield 28, 3) := by decide +kernel
theorem dX10_event_17 : decode cX10_event 17 = .ok (.iload_n 3, 1) := by decide +kernel
theorem dX10_event_18 : decode cX10_event 18 = .ok (.iaload, 1) := by decide +kernel
theorem dX10_event_19 : decode cX10_event 19 = .ok (.iload_n 1, 1) := by decide +kernel
theorem dX10_event_20 : decode cX10_event 20 = .ok (.invokestatic 216, 3) := by decide +kernel
theorem dX10_event_23 : decode cX10_event 23 = .ok (.istore_n 2, 1) := by decide +kernel
theorem dX10_event_24 : decode cX10_event 24 = .ok (.iconst 0, 1) := by decide +kernel
theorem dX10_event_25 : decode cX10_event 25 = .ok (.istore 4, 2) := by decide +kernel
theorem dX10_event_27 : decode cX10_event 27 = .ok (.iload 4, 2) := by decide +kernel
theorem dX10_event_29 : decode cX10_event 29 = .ok (.aload_n 0, 1) := by decide +kernel
theorem dX10_event_30 : decode cX10_event 30 = .ok (.getfield 37, 3) := by decide +kernel
theorem dX10_event_33 : decode cX10_event 33 = .ok (.iload_n 3, 1) := by decide +kernel
theorem dX10_event_34 : decode cX10_event 34 = .ok (.iaload, 1) := by decide +kernel
theorem dX10_event_35 : decode cX10_event 35 = .ok (.if_icmp .ge 27, 3) := by decide +kernel
theorem dX10_event_38 : decode cX10_event 38 = .ok (.iload_n 2, 1) := by decide +kernel
theorem dX10_event_39 : decode cX10_event 39 = .ok (.aload_n 0, 1) := by decide +kernel
theorem dX10_event_40 : decode cX10_event 40 = .ok (.getfield 40, 3) := by decide +kernel
theorem dX10_event_43 : decode cX10_event 43 = .ok (.bipush 8, 2) := by decide +kernel
theorem dX10_event_45 : decode cX10_event 45 = .ok (.iload_n 3, 1) := by decide +kernel
theorem dX10_event_46 : decode cX10_event 46 = .ok (.imul, 1) := by decide +kernel
theorem dX10_event_47 : decode cX10_event 47 = .ok (.iload 4, 2) := by decide +kernel
theorem dX10_event_49 : decode cX10_event 49 = .ok (.iadd, 1) := by decide +kernel
theorem dX10_event_50 : decode cX10_event 50 = .ok (.iaload, 1) := by decide +kernel
theorem dX10_event_51 : decode cX10_event 51 = .ok (.iload_n 1, 1) := by decide +kernel
theorem dX10_event_52 : decode cX10_event 52 = .ok (.invokestatic 216, 3) := by decide +kernel
theorem dX10_event_55 : decode cX10_event 55 = .ok (.istore_n 2, 1) := by decide +kernel
theorem dX10_event_56 : decode cX10_event 56 = .ok (.iinc 4 1, 3) := by decide +kernel
theorem dX10_event_59 : decode cX10_event 59 = .ok (.goto (-32), 3) := by decide +kernel
theorem dX10_event_62 : decode cX10_event 62 = .ok (.iinc 3 1, 3) := by decide +kernel
theorem dX10_event_65 : decode cX10_event 65 = .ok (.goto (-61), 3) := by decide +kernel
theorem dX10_event_68 : decode cX10_event 68 = .ok (.iconst 0, 1) := by decide +kernel
theorem dX10_event_69 : decode cX10_event 69 = .ok (.istore_n 3, 1) := by decide +kernel
theorem dX10_event_70 : decode cX10_event 70 = .ok (.iload_n 3, 1) := by decide +kernel
theorem dX10_event_71 : decode cX10_event 71 = .ok (.aload_n 0, 1) := by decide +kernel
theorem dX10_event_72 : decode cX10_event 72 = .ok (.getfield 178, 3) := by decide +kernel
theorem dX10_event_75 : decode cX10_event 75 = .ok (.if_icmp .ge 21, 3) := by decide +kernel
theorem dX10_event_78 : decode cX10_event 78 = .ok (.iload_n 2, 1) := by decide +kernel
theorem dX10_event_79 : decode cX10_event 79 = .ok (.aload_n 0, 1) := by decide +kernel
theorem dX10_event_80 : decode cX10_event 80 = .ok (.getfield 55, 3) := by decide +kernel
theorem dX10_event_83 : decode cX10_event 83 = .ok (.iload_n 3, 1) := by decide +kernel
theorem dX10_event_84 : decode cX10_event 84 = .ok (.iaload, 1) := by decide +kernel
theorem dX10_event_85 : decode cX10_event 85 = .ok (.iload_n 1, 1) := by decide +kernel
theorem dX10_event_86 : decode cX10_event 86 = .ok (.invokestatic 216, 3) := by decide +kernel
theorem dX10_event_89 : decode cX10_event 89 = .ok (.istore_n 2, 1) := by decide +kernel
theorem dX10_event_90 : decode cX10_event 90 = .ok (.iinc 3 1, 3) := by decide +kernel
theorem dX10_event_93 : decode cX10_event 93 = .ok (.goto (-23), 3) := by decide +kernel
theorem dX10_event_96 : decode cX10_event 96 = .ok (.iconst 0, 1) := by decide +kernel
theorem dX10_event_97 : decode cX10_event 97 = .ok (.istore_n 3, 1) := by decide +kernel
theorem dX10_event_98 : decode cX10_event 98 = .ok (.iload_n 3, 1) := by decide +kernel
theorem dX10_event_99 : decode cX10_event 99 = .ok (.aload_n 0, 1) := by decide +kernel
theorem dX10_event_100 : decode cX10_event 100 = .ok (.getfield 192, 3) := by decide +kernel
theorem dX10_event_103 : decode cX10_event 103 = .ok (.if_icmp .ge 21, 3) := by decide +kernel
theorem dX10_event_106 : decode cX10_event 106 = .ok (.iload_n 2, 1) := by decide +kernel
theorem dX10_event_107 : decode cX10_event 107 = .ok (.aload_n 0, 1) := by decide +kernel
theorem dX10_event_108 : decode cX10_event 108 = .ok (.getfield 67, 3) := by decide +kernel
theorem dX10_event_111 : decode cX10_event 111 = .ok (.iload_n 3, 1) := by decide +kernel
theorem dX10_event_112 : decode cX10_event 112 = .ok (.iaload, 1) := by decide +kernel
theorem dX10_event_113 : decode cX10_event 113 = .ok (.iload_n 1, 1) := by decide +kernel
theorem dX10_event_114 : decode cX10_event 114 = .ok (.invokestatic 216, 3) := by decide +kernel
theorem dX10_event_117 : decode cX10_event 117 = .ok (.istore_n 2, 1) := by decide +kernel
theorem dX10_event_118 : decode cX10_event 118 = .ok (.iinc 3 1, 3) := by decide +kernel
theorem dX10_event_121 : decode cX10_event 121 = .ok (.goto (-23), 3) := by decide +kernel
theorem dX10_event_124 : decode cX10_event 124 = .ok (.iload_n 2, 1) := by decide +kernel
theorem dX10_event_125 : decode cX10_event 125 = .ok (.ireturn, 1) := by decide +kernel
set_option maxRecDepth 20000 in
theorem ggX10_since_X10_isHouse : GoodIn wsX10_since wsX10_isHouse := goodIn_r _ [6, 7, 8, 5, 9] (by decide +kernel) (by decide +kernel)
set_option maxRecDepth 20000 in
theorem gX10_since_X10_isHouse : GoodIn wsX10_since (va_wsS RX10 152 yX10_isHouse wsX10_isHouse) := goodIn_app (goodIn_of _ (by decide +kernel)) ggX10_since_X10_isHouse
set_option maxRecDepth 20000 in
theorem ggX10_since_X10_isYear : GoodIn wsX10_since wsX10_isYear := goodIn_r _ [12, 7, 8, 5, 9] (by decide +kernel) (by decide +kernel)
set_option maxRecDepth 20000 in
theorem gX10_since_X10_isYear : GoodIn wsX10_since (va_wsS RX10 160 yX10_isYear wsX10_isYear) := goodIn_app (goodIn_of _ (by decide +kernel)) ggX10_since_X10_isYear
set_option maxRecDepth 20000 in
theorem ggX10_since_X10_knownWorth : GoodIn wsX10_since wsX10_knownWorth := goodIn_r _ [16, 17, 18, 19, 5, 20, 21, 22, 23, 24, 25, 26, 27, 28, 29, 30, 31, 32, 33, 34, 35, 36, 37, 38, 39, 40, 41, 42, 43, 44, 45, 46, 47, 48, 49, 50, 51, 52, 53, 54, 55, 56, 57, 58, 59, 60, 61, 62, 63, 64, 65, 66, 67, 68, 69, 70, 78, 79, 80, 81, 82, 83, 84, 85, 86, 87, 88, 89, 90, 91, 92, 93, 94, 95, 96, 97, 98, 99, 100, 101, 102, 103, 104, 105, 106, 107, 108, 109, 110, 111, 112, 113, 114, 115, 116, 117, 118] (by decide +kernel) (by decide +kernel)
set_option maxRecDepth 20000 in
theorem gX10_since_X10_knownWorth : GoodIn wsX10_since (wsV RX10 210 RX10 yX10_knownWorth wsX10_knownWorth) := goodIn_app (goodIn_of _ (by decide +kernel)) ggX10_since_X10_knownWorth
set_option maxRecDepth 20000 in
theorem ggX10_since_X10_event : GoodIn wsX10_since wsX10_event := goodIn_r _ [74, 21, 35, 36, 37, 52, 55, 66, 68, 75, 76, 5, 77, 78, 79, 80, 81, 82, 83, 84, 85, 86, 87, 88, 89, 90, 91, 92, 93, 94, 95, 96, 97, 98, 99, 100, 101, 102, 103, 104, 105, 106, 107, 108, 109, 110, 111, 112, 113, 114, 115, 116, 117, 118] (by decide +kernel) (by decide +kernel)
set_option maxRecDepth 20000 in
theorem gX10_since_X10_event : GoodIn wsX10_since (wsV RX10 219 RX10 yX10_event wsX10_event) := goodIn_app (goodIn_of _ (by decide +kernel)) ggX10_since_X10_event
theorem dX10_since_0 : decode cX10_since 0 = .ok (.iload_n 1, 1) := by decide +kernel
theorem dX10_since_1 : decode cX10_since 1 = .ok (.invokestatic 152, 3) := by decide +kernel
theorem dX10_since_4 : decode cX10_since 4 = .ok (.ifCond .eq 10, 3) := by decide +kernel
theorem dX10_since_7 : decode cX10_since 7 = .ok (.iload_n 2, 1) := by decide +kernel
theorem dX10_since_8 : decode cX10_since 8 = .ok (.invokestatic 160, 3) := by decide +kernel
theorem dX10_since_11 : decode cX10_since 11 = .ok (.ifCond .ne 6, 3) := by decide +kernel
theorem dX10_since_14 : decode cX10_since 14 = .ok (.ldc 116, 2) := by decide +kernel
theorem dX10_since_16 : decode cX10_since 16 = .ok (.ireturn, 1) := by decide +kernel
theorem dX10_since_17 : decode cX10_since 17 = .ok (.aload_n 0, 1) := by decide +kernel
theorem dX10_since_18 : decode cX10_since 18 = .ok (.iload_n 1, 1) := by decide +kernel
theorem dX10_since_19 : decode cX10_since 19 = .ok (.iload_n 2, 1) := by decide +kernel
theorem dX10_since_20 : decode cX10_since 20 = .ok (.aload_n 0, 1) := by decide +kernel
theorem dX10_since_21 : decode cX10_since 21 = .ok (.getfield 113, 3) := by decide +kernel
theorem dX10_since_24 : decode cX10_since 24 = .ok (.invokevirtual 210, 3) := by decide +kernel
theorem dX10_since_27 : decode cX10_since 27 = .ok (.istore_n 3, 1) := by decide +kernel
theorem dX10_since_28 : decode cX10_since 28 = .ok (.aload_n 0, 1) := by decide +kernel
theorem dX10_since_29 : decode cX10_since 29 = .ok (.aload_n 0, 1) := by decide +kernel
theorem dX10_since_30 : decode cX10_since 30 = .ok (.getfield 113, 3) := by decide +kernel
theorem dX10_since_33 : decode cX10_since 33 = .ok (.invokevirtual 219, 3) := by decide +kernel
theorem dX10_since_36 : decode cX10_since 36 = .ok (.istore 4, 2) := by decide +kernel
theorem dX10_since_38 : decode cX10_since 38 = .ok (.iload 4, 2) := by decide +kernel
theorem dX10_since_40 : decode cX10_since 40 = .ok (.ifCond .le 30, 3) := by decide +kernel
theorem dX10_since_43 : decode cX10_since 43 = .ok (.aload_n 0, 1) := by decide +kernel
theorem dX10_since_44 : decode cX10_since 44 = .ok (.iload_n 1, 1) := by decide +kernel
theorem dX10_since_45 : decode cX10_since 45 = .ok (.iload_n 2, 1) := by decide +kernel
theorem dX10_since_46 : decode cX10_since 46 = .ok (.iload 4, 2) := by decide +kernel
theorem dX10_since_48 : decode cX10_since 48 = .ok (.iconst 1, 1) := by decide +kernel
theorem dX10_since_49 : decode cX10_since 49 = .ok (.isub, 1) := by decide +kernel
theorem dX10_since_50 : decode cX10_since 50 = .ok (.invokevirtual 210, 3) := by decide +kernel
theorem dX10_since_53 : decode cX10_since 53 = .ok (.iload_n 3, 1) := by decide +kernel
theorem dX10_since_54 : decode cX10_since 54 = .ok (.if_icmp .ne 16, 3) := by decide +kernel
theorem dX10_since_57 : decode cX10_since 57 = .ok (.aload_n 0, 1) := by decide +kernel
theorem dX10_since_58 : decode cX10_since 58 = .ok (.iload 4, 2) := by decide +kernel
theorem dX10_since_60 : decode cX10_since 60 = .ok (.iconst 1, 1) := by decide +kernel
theorem dX10_since_61 : decode cX10_since 61 = .ok (.isub, 1) := by decide +kernel
theorem dX10_since_62 : decode cX10_since 62 = .ok (.invokevirtual 219, 3) := by decide +kernel
theorem dX10_since_65 : decode cX10_since 65 = .ok (.istore 4, 2) := by decide +kernel
theorem dX10_since_67 : decode cX10_since 67 = .ok (.goto (-29), 3) := by decide +kernel
theorem dX10_since_70 : decode cX10_since 70 = .ok (.iload 4, 2) := by decide +kernel
theorem dX10_since_72 : decode cX10_since 72 = .ok (.ireturn, 1) := by decide +kernel
set_option maxRecDepth 20000 in
theorem ggX10_differs_X10_isYear : GoodIn wsX10_differs wsX10_isYear := goodIn_r _ [6, 7, 8, 5, 9] (by decide +kernel) (by decide +kernel)
set_option maxRecDepth 20000 in
theorem gX10_differs_X10_isYear : GoodIn wsX10_differs (va_wsS RX10 160 yX10_isYear wsX10_isYear) := goodIn_app (goodIn_of _ (by decide +kernel)) ggX10_differs_X10_isYear
set_option maxRecDepth 20000 in
theorem ggX10_differs_X10_isDay : GoodIn wsX10_differs wsX10_isDay := goodIn_r _ [12, 13, 7, 8, 5, 9] (by decide +kernel) (by decide +kernel)
set_option maxRecDepth 20000 in
theorem gX10_differs_X10_isDay : GoodIn wsX10_differs (va_wsS RX10 175 yX10_isDay wsX10_isDay) := goodIn_app (goodIn_of _ (by decide +kernel)) ggX10_differs_X10_isDay
set_option maxRecDepth 20000 in
theorem ggX10_differs_X10_knownWorth : GoodIn wsX10_differs wsX10_knownWorth := goodIn_r _ [17, 18, 19, 20, 5, 21, 22, 23, 2, 24, 25, 26, 27, 28, 29, 30, 31, 32, 33, 34, 35, 36, 37, 38, 39, 40, 41, 42, 43, 44, 45, 46, 47, 48, 49, 50, 51, 52, 53, 54, 55, 56, 57, 58, 59, 60, 61, 62, 63, 64, 65, 66, 67, 68, 69, 70, 71, 72, 73, 74, 75, 76, 77, 78, 79, 80, 81, 82, 83, 84, 85, 86, 87, 88, 89, 90, 91, 92, 93, 94, 95, 96, 97, 98, 99, 100, 101, 102, 103, 104, 105, 106, 107, 108, 109, 110, 111] (by decide +kernel) (by decide +kernel)
set_option maxRecDepth 20000 in
theorem gX10_differs_X10_knownWorth : GoodIn wsX10_differs (wsV RX10 210 RX10 yX10_knownWorth wsX10_knownWorth) := goodIn_app (goodIn_of _ (by decide +kernel)) ggX10_differs_X10_knownWorth
theorem dX10_differs_0 : decode cX10_differs 0 = .ok (.iload_n 1, 1) := by decide +kernel
theorem dX10_differs_1 : decode cX10_differs 1 = .ok (.invokestatic 160, 3) := by decide +kernel
theorem dX10_differs_4 : decode cX10_differs 4 = .ok (.ifCond .eq 17, 3) := by decide +kernel
theorem dX10_differs_7 : decode cX10_differs 7 = .ok (.iload_n 2, 1) := by decide +kernel
theorem dX10_differs_8 : decode cX10_differs 8 = .ok (.invokestatic 175, 3) := by decide +kernel
theorem dX10_differs_11 : decode cX10_differs 11 = .ok (.ifCond .eq 10, 3) := by decide +kernel
theorem dX10_differs_14 : decode cX10_differs 14 = .ok (.iload_n 3, 1) := by decide +kernel
theorem dX10_differs_15 : decode cX10_differs 15 = .ok (.invokestatic 175, 3) := by decide +kernel
theorem dX10_differs_18 : decode cX10_differs 18 = .ok (.ifCond .ne 6, 3) := by decide +kernel
theorem dX10_differs_21 : decode cX10_differs 21 = .ok (.ldc 116, 2) := by decide +kernel
theorem dX10_differs_23 : decode cX10_differs 23 = .ok (.ireturn, 1) := by decide +kernel
theorem dX10_differs_24 : decode cX10_differs 24 = .ok (.iconst 0, 1) := by decide +kernel
theorem dX10_differs_25 : decode cX10_differs 25 = .ok (.istore 4, 2) := by decide +kernel
theorem dX10_differs_27 : decode cX10_differs 27 = .ok (.iload 4, 2) := by decide +kernel
theorem dX10_differs_29 : decode cX10_differs 29 = .ok (.bipush 10, 2) := by decide +kernel
theorem dX10_differs_31 : decode cX10_differs 31 = .ok (.if_icmp .ge 31, 3) := by decide +kernel
theorem dX10_differs_34 : decode cX10_differs 34 = .ok (.aload_n 0, 1) := by decide +kernel
theorem dX10_differs_35 : decode cX10_differs 35 = .ok (.iload 4, 2) := by decide +kernel
theorem dX10_differs_37 : decode cX10_differs 37 = .ok (.iload_n 1, 1) := by decide +kernel
theorem dX10_differs_38 : decode cX10_differs 38 = .ok (.iload_n 2, 1) := by decide +kernel
theorem dX10_differs_39 : decode cX10_differs 39 = .ok (.invokevirtual 210, 3) := by decide +kernel
theorem dX10_differs_42 : decode cX10_differs 42 = .ok (.aload_n 0, 1) := by decide +kernel
theorem dX10_differs_43 : decode cX10_differs 43 = .ok (.iload 4, 2) := by decide +kernel
theorem dX10_differs_45 : decode cX10_differs 45 = .ok (.iload_n 1, 1) := by decide +kernel
theorem dX10_differs_46 : decode cX10_differs 46 = .ok (.iload_n 3, 1) := by decide +kernel
theorem dX10_differs_47 : decode cX10_differs 47 = .ok (.invokevirtual 210, 3) := by decide +kernel
theorem dX10_differs_50 : decode cX10_differs 50 = .ok (.if_icmp .eq 6, 3) := by decide +kernel
theorem dX10_differs_53 : decode cX10_differs 53 = .ok (.iload 4, 2) := by decide +kernel
theorem dX10_differs_55 : decode cX10_differs 55 = .ok (.ireturn, 1) := by decide +kernel
theorem dX10_differs_56 : decode cX10_differs 56 = .ok (.iinc 4 1, 3) := by decide +kernel
theorem dX10_differs_59 : decode cX10_differs 59 = .ok (.goto (-32), 3) := by decide +kernel
theorem dX10_differs_62 : decode cX10_differs 62 = .ok (.ldc 148, 2) := by decide +kernel
theorem dX10_differs_64 : decode cX10_differs 64 = .ok (.ireturn, 1) := by decide +kernel
set_option maxRecDepth 20000 in
theorem ggX10_levy_X10_isIn : GoodIn wsX10_levy wsX10_isIn := goodIn_r _ [16] (by decide +kernel) (by decide +kernel)
set_option maxRecDepth 20000 in
theorem gX10_levy_X10_isIn : GoodIn wsX10_levy (va_wsS RX10 104 yX10_isIn wsX10_isIn) := goodIn_app (goodIn_of _ (by decide +kernel)) ggX10_levy_X10_isIn
set_option maxRecDepth 20000 in
theorem ggX10_levy_X10_isYear : GoodIn wsX10_levy wsX10_isYear := goodIn_r _ [19, 13, 14, 15, 16] (by decide +kernel) (by decide +kernel)
set_option maxRecDepth 20000 in
theorem gX10_levy_X10_isYear : GoodIn wsX10_levy (va_wsS RX10 160 yX10_isYear wsX10_isYear) := goodIn_app (goodIn_of _ (by decide +kernel)) ggX10_levy_X10_isYear
set_option maxRecDepth 20000 in
theorem ggX10_levy_X10_know : GoodIn wsX10_levy wsX10_know := goodIn_r _ [23, 24, 25, 26, 27, 28, 29, 30, 31, 32, 33, 34, 35, 36, 15, 37, 38, 39, 40, 41, 42, 43, 44, 45, 46, 47, 48, 49, 50, 51, 52, 53, 54, 55, 56, 57, 58, 59, 74, 75, 76, 77, 78, 79, 80, 81, 82, 83, 84, 85, 86, 87, 88, 89, 90, 91, 92, 93, 94, 95, 96, 97, 98, 99, 100, 101, 102, 103, 104, 105, 106, 107, 108, 109, 110, 111, 112, 113, 114] (by decide +kernel) (by decide +kernel)
set_option maxRecDepth 20000 in
theorem gX10_levy_X10_know : GoodIn wsX10_levy (wsV RX10 201 RX10 yX10_know wsX10_know) := goodIn_app (goodIn_of _ (by decide +kernel)) ggX10_levy_X10_know
set_option maxRecDepth 20000 in
theorem ggX10_levy_X10_worthOf : GoodIn wsX10_levy wsX10_worthOf := goodIn_r _ [63, 24, 30, 27, 32, 29, 64, 31, 65, 66, 67, 15, 68, 69, 70, 71, 72, 73, 74, 75, 76, 77, 78, 79, 80, 81, 82, 83, 84, 85, 86, 87, 88, 89, 90, 91, 92, 93, 94, 95, 96, 97, 98, 99, 100, 101, 102, 103, 104, 105, 106, 107, 108, 109, 110, 111, 112, 113, 114] (by decide +kernel) (by decide +kernel)
set_option maxRecDepth 20000 in
theorem gX10_levy_X10_worthOf : GoodIn wsX10_levy (wsV RX10 205 RX10 yX10_worthOf wsX10_worthOf) := goodIn_app (goodIn_of _ (by decide +kernel)) ggX10_levy_X10_worthOf
theorem dX10_levy_0 : decode cX10_levy 0 = .ok (.iload_n 1, 1) := by decide +kernel
theorem dX10_levy_1 : decode cX10_levy 1 = .ok (.iconst 1, 1) := by decide +kernel
theorem dX10_levy_2 : decode cX10_levy 2 = .ok (.ldc 108, 2) := by decide +kernel
theorem dX10_levy_4 : decode cX10_levy 4 = .ok (.invokestatic 104, 3) := by decide +kernel
theorem dX10_levy_7 : decode cX10_levy 7 = .ok (.ifCond .eq 10, 3) := by decide +kernel
theorem dX10_levy_10 : decode cX10_levy 10 = .ok (.iload_n 2, 1) := by decide +kernel
theorem dX10_levy_11 : decode cX10_levy 11 = .ok (.invokestatic 160, 3) := by decide +kernel
theorem dX10_levy_14 : decode cX10_levy 14 = .ok (.ifCond .ne 6, 3) := by decide +kernel
theorem dX10_levy_17 : decode cX10_levy 17 = .ok (.ldc 116, 2) := by decide +kernel
theorem dX10_levy_19 : decode cX10_levy 19 = .ok (.ireturn, 1) := by decide +kernel
theorem dX10_levy_20 : decode cX10_levy 20 = .ok (.aload_n 0, 1) := by decide +kernel
theorem dX10_levy_21 : decode cX10_levy 21 = .ok (.iload_n 2, 1) := by decide +kernel
theorem dX10_levy_22 : decode cX10_levy 22 = .ok (.aload_n 0, 1) := by decide +kernel
theorem dX10_levy_23 : decode cX10_levy 23 = .ok (.getfield 113, 3) := by decide +kernel
theorem dX10_levy_26 : decode cX10_levy 26 = .ok (.invokevirtual 201, 3) := by decide +kernel
theorem dX10_levy_29 : decode cX10_levy 29 = .ok (.lconst 0, 1) := by decide +kernel
theorem dX10_levy_30 : decode cX10_levy 30 = .ok (.lstore_n 3, 1) := by decide +kernel
theorem dX10_levy_31 : decode cX10_levy 31 = .ok (.iconst 0, 1) := by decide +kernel
theorem dX10_levy_32 : decode cX10_levy 32 = .ok (.istore 5, 2) := by decide +kernel
theorem dX10_levy_34 : decode cX10_levy 34 = .ok (.iload 5, 2) := by decide +kernel
theorem dX10_levy_36 : decode cX10_levy 36 = .ok (.bipush 10, 2) := by decide +kernel
theorem dX10_levy_38 : decode cX10_levy 38 = .ok (.if_icmp .ge 38, 3) := by decide +kernel
theorem dX10_levy_41 : decode cX10_levy 41 = .ok (.aload_n 0, 1) := by decide +kernel
theorem dX10_levy_42 : decode cX10_levy 42 = .ok (.getfield 97, 3) := by decide +kernel
theorem dX10_levy_45 : decode cX10_levy 45 = .ok (.iload 5, 2) := by decide +kernel
theorem dX10_levy_47 : decode cX10_levy 47 = .ok (.aload_n 0, 1) := by decide +kernel
theorem dX10_levy_48 : decode cX10_levy 48 = .ok (.iload 5, 2) := by decide +kernel
theorem dX10_levy_50 : decode cX10_levy 50 = .ok (.iload_n 2, 1) := by decide +kernel
theorem dX10_levy_51 : decode cX10_levy 51 = .ok (.aload_n 0, 1) := by decide +kernel
theorem dX10_levy_52 : decode cX10_levy 52 = .ok (.getfield 113, 3) := by decide +kernel
theorem dX10_levy_55 : decode cX10_levy 55 = .ok (.invokevirtual 205, 3) := by decide +kernel
theorem dX10_levy_58 : decode cX10_levy 58 = .ok (.iastore, 1) := by decide +kernel
theorem dX10_levy_59 : decode cX10_levy 59 = .ok (.lload_n 3, 1) := by decide +kernel
theorem dX10_levy_60 : decode cX10_levy 60 = .ok (.aload_n 0, 1) := by decide +kernel
theorem dX10_levy_61 : decode cX10_levy 61 = .ok (.getfield 97, 3) := by decide +kernel
theorem dX10_levy_64 : decode cX10_levy 64 = .ok (.iload 5, 2) := by decide +kernel
theorem dX10_levy_66 : decode cX10_levy 66 = .ok (.iaload, 1) := by decide +kernel
theorem dX10_levy_67 : decode cX10_levy 67 = .ok (.i2l, 1) := by decide +kernel
theorem dX10_levy_68 : decode cX10_levy 68 = .ok (.ladd, 1) := by decide +kernel
theorem dX10_levy_69 : decode cX10_levy 69 = .ok (.lstore_n 3, 1) := by decide +kernel
theorem dX10_levy_70 : decode cX10_levy 70 = .ok (.iinc 5 1, 3) := by decide +kernel
theorem dX10_levy_73 : decode cX10_levy 73 = .ok (.goto (-39), 3) := by decide +kernel
theorem dX10_levy_76 : decode cX10_levy 76 = .ok (.lload_n 3, 1) := by decide +kernel
theorem dX10_levy_77 : decode cX10_levy 77 = .ok (.lconst 0, 1) := by decide +kernel
theorem dX10_levy_78 : decode cX10_levy 78 = .ok (.lcmp, 1) := by decide +kernel
theorem dX10_levy_79 : decode cX10_levy 79 = .ok (.ifCond .ne 6, 3) := by decide +kernel
theorem dX10_levy_82 : decode cX10_levy 82 = .ok (.ldc 174, 2) := by decide +kernel
theorem dX10_levy_84 : decode cX10_levy 84 = .ok (.ireturn, 1) := by decide +kernel
theorem dX10_levy_85 : decode cX10_levy 85 = .ok (.aload_n 0, 1) := by decide +kernel
theorem dX10_levy_86 : decode cX10_levy 86 = .ok (.getfield 222, 3) := by decide +kernel
theorem dX10_levy_89 : decode cX10_levy 89 = .ok (.bipush 6, 2) := by decide +kernel
theorem dX10_levy_91 : decode cX10_levy 91 = .ok (.if_icmp .ne 6, 3) := by decide +kernel
theorem dX10_levy_94 : decode cX10_levy 94 = .ok (.ldc 120, 2) := by decide +kernel
theorem dX10_levy_96 : decode cX10_levy 96 = .ok (.ireturn, 1) := by decide +kernel
theorem dX10_levy_97 : decode cX10_levy 97 = .ok (.iload_n 1, 1) := by decide +kernel
theorem dX10_levy_98 : decode cX10_levy 98 = .ok (.istore 5, 2) := by decide +kernel
theorem dX10_levy_100 : decode cX10_levy 100 = .ok (.iconst 0, 1) := by decide +kernel
theorem dX10_levy_101 : decode cX10_levy 101 = .ok (.istore 6, 2) := by decide +kernel
theorem dX10_levy_103 : decode cX10_levy 103 = .ok (.iload 6, 2) := by decide +kernel
theorem dX10_levy_105 : decode cX10_levy 105 = .ok (.bipush 10, 2) := by decide +kernel
theorem dX10_levy_107 : decode cX10_levy 107 = .ok (.if_icmp .ge 90, 3) := by decide +kernel
theorem dX10_levy_110 : decode cX10_levy 110 = .ok (.bipush 10, 2) := by decide +kernel
theorem dX10_levy_112 : decode cX10_levy 112 = .ok (.aload_n 0, 1) := by decide +kernel
theorem dX10_levy_113 : decode cX10_levy 113 = .ok (.getfield 222, 3) := by decide +kernel
theorem dX10_levy_116 : decode cX10_levy 116 = .ok (.imul, 1) := by decide +kernel
theorem dX10_levy_117 : decode cX10_levy 117 = .ok (.iload 6, 2) := by decide +kernel
theorem dX10_levy_119 : decode cX10_levy 119 = .ok (.iadd, 1) := by decide +kernel
theorem dX10_levy_120 : decode cX10_levy 120 = .ok (.istore 7, 2) := by decide +kernel
theorem dX10_levy_122 : decode cX10_levy 122 = .ok (.aload_n 0, 1) := by decide +kernel
theorem dX10_levy_123 : decode cX10_levy 123 = .ok (.getfield 70, 3) := by decide +kernel
theorem dX10_levy_126 : decode cX10_levy 126 = .ok (.iload 7, 2) := by decide +kernel
theorem dX10_levy_128 : decode cX10_levy 128 = .ok (.iload_n 1, 1) := by decide +kernel
theorem dX10_levy_129 : decode cX10_levy 129 = .ok (.i2l, 1) := by decide +kernel
theorem dX10_levy_130 : decode cX10_levy 130 = .ok (.aload_n 0, 1) := by decide +kernel
theorem dX10_levy_131 : decode cX10_levy 131 = .ok (.getfield 97, 3) := by decide +kernel
theorem dX10_levy_134 : decode cX10_levy 134 = .ok (.iload 6, 2) := by decide +kernel
theorem dX10_levy_136 : decode cX10_levy 136 = .ok (.iaload, 1) := by decide +kernel
theorem dX10_levy_137 : decode cX10_levy 137 = .ok (.i2l, 1) := by decide +kernel
theorem dX10_levy_138 : decode cX10_levy 138 = .ok (.lmul, 1) := by decide +kernel
theorem dX10_levy_139 : decode cX10_levy 139 = .ok (.lload_n 3, 1) := by decide +kernel
theorem dX10_levy_140 : decode cX10_levy 140 = .ok (.ldiv, 1) := by decide +kernel
theorem dX10_levy_141 : decode cX10_levy 141 = .ok (.l2i, 1) := by decide +kernel
theorem dX10_levy_142 : decode cX10_levy 142 = .ok (.iastore, 1) := by decide +kernel
theorem dX10_levy_143 : decode cX10_levy 143 = .ok (.aload_n 0, 1) := by decide +kernel
theorem dX10_levy_144 : decode cX10_levy 144 = .ok (.getfield 100, 3) := by decide +kernel
theorem dX10_levy_147 : decode cX10_levy 147 = .ok (.iload 6, 2) := by decide +kernel
theorem dX10_levy_149 : decode cX10_levy 149 = .ok (.iload_n 1, 1) := by decide +kernel
theorem dX10_levy_150 : decode cX10_levy 150 = .ok (.i2l, 1) := by decide +kernel
theorem dX10_levy_151 : decode cX10_levy 151 = .ok (.aload_n 0, 1) := by decide +kernel
theorem dX10_levy_152 : decode cX10_levy 152 = .ok (.getfield 97, 3) := by decide +kernel
theorem dX10_levy_155 : decode cX10_levy 155 = .ok (.iload 6, 2) := by decide +kernel
theorem dX10_levy_157 : decode cX10_levy 157 = .ok (.iaload, 1) := by decide +kernel
theorem dX10_levy_158 : decode cX10_levy 158 = .ok (.i2l, 1) := by decide +kernel
theorem dX10_levy_159 : decode cX10_levy 159 = .ok (.lmul, 1) := by decide +kernel
theorem dX10_levy_160 : decode cX10_levy 160 = .ok (.lload_n 3, 1) := by decide +kernel
theorem dX10_levy_161 : decode cX10_levy 161 = .ok (.lrem, 1) := by decide +kernel
theorem dX10_levy_162 : decode cX10_levy 162 = .ok (.lastore, 1) := by decide +kernel
theorem dX10_levy_163 : decode cX10_levy 163 = .ok (.iload 5, 2) := by decide +kernel
theorem dX10_levy_165 : decode cX10_levy 165 = .ok (.aload_n 0, 1) := by decide +kernel
theorem dX10_levy_166 : decode cX10_levy 166 = .ok (.getfield 70, 3) := by decide +kernel
theorem dX10_levy_169 : decode cX10_levy 169 = .ok (.iload 7, 2) := by decide +kernel
theorem dX10_levy_171 : decode cX10_levy 171 = .ok (.iaload, 1) := by decide +kernel
theorem dX10_levy_172 : decode cX10_levy 172 = .ok (.isub, 1) := by decide +kernel
theorem dX10_levy_173 : decode cX10_levy 173 = .ok (.istore 5, 2) := by decide +kernel
theorem dX10_levy_175 : decode cX10_levy 175 = .ok (.aload_n 0, 1) := by decide +kernel
theorem dX10_levy_176 : decode cX10_levy 176 = .ok (.getfield 73, 3) := by decide +kernel
theorem dX10_levy_179 : decode cX10_levy 179 = .ok (.iload 7, 2) := by decide +kernel
theorem dX10_levy_181 : decode cX10_levy 181 = .ok (.iconst 0, 1) := by decide +kernel
theorem dX10_levy_182 : decode cX10_levy 182 = .ok (.iastore, 1) := by decide +kernel
theorem dX10_levy_183 : decode cX10_levy 183 = .ok (.aload_n 0, 1) := by decide +kernel
theorem dX10_levy_184 : decode cX10_levy 184 = .ok (.getfield 76, 3) := by decide +kernel
theorem dX10_levy_187 : decode cX10_levy 187 = .ok (.iload 7, 2) := by decide +kernel
theorem dX10_levy_189 : decode cX10_levy 189 = .ok (.iconst 0, 1) := by decide +kernel
theorem dX10_levy_190 : decode cX10_levy 190 = .ok (.iastore, 1) := by decide +kernel
theorem dX10_levy_191 : decode cX10_levy 191 = .ok (.iinc 6 1, 3) := by decide +kernel
theorem dX10_levy_194 : decode cX10_levy 194 = .ok (.goto (-91), 3) := by decide +kernel
theorem dX10_levy_197 : decode cX10_levy 197 = .ok (.iload 5, 2) := by decide +kernel
theorem dX10_levy_199 : decode cX10_levy 199 = .ok (.ifCond .le 84, 3) := by decide +kernel
theorem dX10_levy_202 : decode cX10_levy 202 = .ok (.iconst 0, 1) := by decide +kernel
theorem dX10_levy_203 : decode cX10_levy 203 = .ok (.istore 6, 2) := by decide +kernel
theorem dX10_levy_205 : decode cX10_levy 205 = .ok (.iconst 1, 1) := by decide +kernel
theorem dX10_levy_206 : decode cX10_levy 206 = .ok (.istore 7, 2) := by decide +kernel
theorem dX10_levy_208 : decode cX10_levy 208 = .ok (.iload 7, 2) := by decide +kernel
theorem dX10_levy_210 : decode cX10_levy 210 = .ok (.bipush 10, 2) := by decide +kernel
theorem dX10_levy_212 : decode cX10_levy 212 = .ok (.if_icmp .ge 36, 3) := by decide +kernel
theorem dX10_levy_215 : decode cX10_levy 215 = .ok (.aload_n 0, 1) := by decide +kernel
theorem dX10_levy_216 : decode cX10_levy 216 = .ok (.getfield 100, 3) := by decide +kernel
theorem dX10_levy_219 : decode cX10_levy 219 = .ok (.iload 7, 2) := by decide +kernel
theorem dX10_levy_221 : decode cX10_levy 221 = .ok (.laload, 1) := by decide +kernel
theorem dX10_levy_222 : decode cX10_levy 222 = .ok (.aload_n 0, 1) := by decide +kernel
theorem dX10_levy_223 : decode cX10_levy 223 = .ok (.getfield 100, 3) := by decide +kernel
theorem dX10_levy_226 : decode cX10_levy 226 = .ok (.iload 6, 2) := by decide +kernel
theorem dX10_levy_228 : decode cX10_levy 228 = .ok (.laload, 1) := by decide +kernel
theorem dX10_levy_229 : decode cX10_levy 229 = .ok (.lcmp, 1) := by decide +kernel
theorem dX10_levy_230 : decode cX10_levy 230 = .ok (.ifCond .le 8, 3) := by decide +kernel
theorem dX10_levy_233 : decode cX10_levy 233 = .ok (.iload 7, 2) := by decide +kernel
theorem dX10_levy_235 : decode cX10_levy 235 = .ok (.goto 5, 3) := by decide +kernel
theorem dX10_levy_238 : decode cX10_levy 238 = .ok (.iload 6, 2) := by decide +kernel
theorem dX10_levy_240 : decode cX10_levy 240 = .ok (.istore 6, 2) := by decide +kernel
theorem dX10_levy_242 : decode cX10_levy 242 = .ok (.iinc 7 1, 3) := by decide +kernel
theorem dX10_levy_245 : decode cX10_levy 245 = .ok (.goto (-37), 3) := by decide +kernel
theorem dX10_levy_248 : decode cX10_levy 248 = .ok (.aload_n 0, 1) := by decide +kernel
theorem dX10_levy_249 : decode cX10_levy 249 = .ok (.getfield 70, 3) := by decide +kernel
theorem dX10_levy_252 : decode cX10_levy 252 = .ok (.bipush 10, 2) := by decide +kernel
theorem dX10_levy_254 : decode cX10_levy 254 = .ok (.aload_n 0, 1) := by decide +kernel
theorem dX10_levy_255 : decode cX10_levy 255 = .ok (.getfield 222, 3) := by decide +kernel
theorem dX10_levy_258 : decode cX10_levy 258 = .ok (.imul, 1) := by decide +kernel
theorem dX10_levy_259 : decode cX10_levy 259 = .ok (.iload 6, 2) := by decide +kernel
theorem dX10_levy_261 : decode cX10_levy 261 = .ok (.iadd, 1) := by decide +kernel
theorem dX10_levy_262 : decode cX10_levy 262 = .ok (.dup2, 1) := by decide +kernel
theorem dX10_levy_263 : decode cX10_levy 263 = .ok (.iaload, 1) := by decide +kernel
theorem dX10_levy_264 : decode cX10_levy 264 = .ok (.iconst 1, 1) := by decide +kernel
theorem dX10_levy_265 : decode cX10_levy 265 = .ok (.iadd, 1) := by decide +kernel
theorem dX10_levy_266 : decode cX10_levy 266 = .ok (.iastore, 1) := by decide +kernel
theorem dX10_levy_267 : decode cX10_levy 267 = .ok (.aload_n 0, 1) := by decide +kernel
theorem dX10_levy_268 : decode cX10_levy 268 = .ok (.getfield 100, 3) := by decide +kernel
theorem dX10_levy_271 : decode cX10_levy 271 = .ok (.iload 6, 2) := by decide +kernel
theorem dX10_levy_273 : decode cX10_levy 273 = .ok (.ldc2_w 225, 3) := by decide +kernel
theorem dX10_levy_276 : decode cX10_levy 276 = .ok (.lastore, 1) := by decide +kernel
theorem dX10_levy_277 : decode cX10_levy 277 = .ok (.iinc 5 (-1), 3) := by decide +kernel
theorem dX10_levy_280 : decode cX10_levy 280 = .ok (.goto (-83), 3) := by decide +kernel
theorem dX10_levy_283 : decode cX10_levy 283 = .ok (.aload_n 0, 1) := by decide +kernel
theorem dX10_levy_284 : decode cX10_levy 284 = .ok (.dup, 1) := by decide +kernel
theorem dX10_levy_285 : decode cX10_levy 285 = .ok (.getfield 222, 3) := by decide +kernel
theorem dX10_levy_288 : decode cX10_levy 288 = .ok (.iconst 1, 1) := by decide +kernel
theorem dX10_levy_289 : decode cX10_levy 289 = .ok (.iadd, 1) := by decide +kernel
theorem dX10_levy_290 : decode cX10_levy 290 = .ok (.putfield 222, 3) := by decide +kernel
theorem dX10_levy_293 : decode cX10_levy 293 = .ok (.aload_n 0, 1) := by decide +kernel
theorem dX10_levy_294 : decode cX10_levy 294 = .ok (.getfield 222, 3) := by decide +kernel
theorem dX10_levy_297 : decode cX10_levy 297 = .ok (.iconst 1, 1) := by decide +kernel
theorem dX10_levy_298 : decode cX10_levy 298 = .ok (.isub, 1) := by decide +kernel
theorem dX10_levy_299 : decode cX10_levy 299 = .ok (.ireturn, 1) := by decide +kernel
set_option maxRecDepth 20000 in
theorem ggX10_isLoan_X10_isIn : GoodIn wsX10_isLoan wsX10_isIn := goodIn_r _ [5] (by decide +kernel) (by decide +kernel)
set_option maxRecDepth 20000 in
theorem gX10_isLoan_X10_isIn : GoodIn wsX10_isLoan (va_wsS RX10 104 yX10_isIn wsX10_isIn) := goodIn_app (goodIn_of _ (by decide +kernel)) ggX10_isLoan_X10_isIn
theorem dX10_isLoan_0 : decode cX10_isLoan 0 = .ok (.iload_n 1, 1) := by decide +kernel
theorem dX10_isLoan_1 : decode cX10_isLoan 1 = .ok (.iconst 0, 1) := by decide +kernel
theorem dX10_isLoan_2 : decode cX10_isLoan 2 = .ok (.aload_n 0, 1) := by decide +kernel
theorem dX10_isLoan_3 : decode cX10_isLoan 3 = .ok (.getfield 222, 3) := by decide +kernel
theorem dX10_isLoan_6 : decode cX10_isLoan 6 = .ok (.iconst 1, 1) := by decide +kernel
theorem dX10_isLoan_7 : decode cX10_isLoan 7 = .ok (.isub, 1) := by decide +kernel
theorem dX10_isLoan_8 : decode cX10_isLoan 8 = .ok (.invokestatic 104, 3) := by decide +kernel
theorem dX10_isLoan_11 : decode cX10_isLoan 11 = .ok (.ireturn, 1) := by decide +kernel
set_option maxRecDepth 20000 in
theorem ggX10_loan_X10_isLoan : GoodIn wsX10_loan wsX10_isLoan := goodIn_r _ [9, 10, 11, 12, 8, 13, 17, 18, 19, 20, 21, 22, 23, 24, 25, 26, 27, 28, 29, 30, 31, 32, 33, 34, 35, 36, 37, 38, 39, 40, 41, 42, 43, 44, 45, 46, 47, 48, 49, 50, 51, 52, 53, 54, 55, 56, 57] (by decide +kernel) (by decide +kernel)
set_option maxRecDepth 20000 in
theorem gX10_loan_X10_isLoan : GoodIn wsX10_loan (wsV RX10 227 RX10 yX10_isLoan wsX10_isLoan) := goodIn_app (goodIn_of _ (by decide +kernel)) ggX10_loan_X10_isLoan
set_option maxRecDepth 20000 in
theorem ggX10_loan_X10_isHouse : GoodIn wsX10_loan wsX10_isHouse := goodIn_r _ [16, 11, 12, 8, 13] (by decide +kernel) (by decide +kernel)
set_option maxRecDepth 20000 in
theorem gX10_loan_X10_isHouse : GoodIn wsX10_loan (va_wsS RX10 152 yX10_isHouse wsX10_isHouse) := goodIn_app (goodIn_of _ (by decide +kernel)) ggX10_loan_X10_isHouse
set_option maxRecDepth 20000 in
theorem ggX10_loan_X10_isIn : GoodIn wsX10_loan wsX10_isIn := goodIn_r _ [13] (by decide +kernel) (by decide +kernel)
set_option maxRecDepth 20000 in
theorem gX10_loan_X10_isIn : GoodIn wsX10_loan (va_wsS RX10 104 yX10_isIn wsX10_isIn) := goodIn_app (goodIn_of _ (by decide +kernel)) ggX10_loan_X10_isIn
theorem dX10_loan_0 : decode cX10_loan 0 = .ok (.aload_n 0, 1) := by decide +kernel
theorem dX10_loan_1 : decode cX10_loan 1 = .ok (.iload_n 1, 1) := by decide +kernel
theorem dX10_loan_2 : decode cX10_loan 2 = .ok (.invokevirtual 227, 3) := by decide +kernel
theorem dX10_loan_5 : decode cX10_loan 5 = .ok (.ifCond .eq 19, 3) := by decide +kernel
theorem dX10_loan_8 : decode cX10_loan 8 = .ok (.iload_n 2, 1) := by decide +kernel
theorem dX10_loan_9 : decode cX10_loan 9 = .ok (.invokestatic 152, 3) := by decide +kernel
theorem dX10_loan_12 : decode cX10_loan 12 = .ok (.ifCond .eq 12, 3) := by decide +kernel
theorem dX10_loan_15 : decode cX10_loan 15 = .ok (.iload_n 3, 1) := by decide +kernel
theorem dX10_loan_16 : decode cX10_loan 16 = .ok (.iconst 0, 1) := by decide +kernel
theorem dX10_loan_17 : decode cX10_loan 17 = .ok (.iconst 2, 1) := by decide +kernel
theorem dX10_loan_18 : decode cX10_loan 18 = .ok (.invokestatic 104, 3) := by decide +kernel
theorem dX10_loan_21 : decode cX10_loan 21 = .ok (.ifCond .ne 6, 3) := by decide +kernel
theorem dX10_loan_24 : decode cX10_loan 24 = .ok (.ldc 116, 2) := by decide +kernel
theorem dX10_loan_26 : decode cX10_loan 26 = .ok (.ireturn, 1) := by decide +kernel
theorem dX10_loan_27 : decode cX10_loan 27 = .ok (.bipush 10, 2) := by decide +kernel
theorem dX10_loan_29 : decode cX10_loan 29 = .ok (.iload_n 1, 1) := by decide +kernel
theorem dX10_loan_30 : decode cX10_loan 30 = .ok (.imul, 1) := by decide +kernel
theorem dX10_loan_31 : decode cX10_loan 31 = .ok (.iload_n 2, 1) := by decide +kernel
theorem dX10_loan_32 : decode cX10_loan 32 = .ok (.iadd, 1) := by decide +kernel
theorem dX10_loan_33 : decode cX10_loan 33 = .ok (.istore 4, 2) := by decide +kernel
theorem dX10_loan_35 : decode cX10_loan 35 = .ok (.iload_n 3, 1) := by decide +kernel
theorem dX10_loan_36 : decode cX10_loan 36 = .ok (.ifCond .ne 13, 3) := by decide +kernel
theorem dX10_loan_39 : decode cX10_loan 39 = .ok (.aload_n 0, 1) := by decide +kernel
theorem dX10_loan_40 : decode cX10_loan 40 = .ok (.getfield 70, 3) := by decide +kernel
theorem dX10_loan_43 : decode cX10_loan 43 = .ok (.iload 4, 2) := by decide +kernel
theorem dX10_loan_45 : decode cX10_loan 45 = .ok (.iaload, 1) := by decide +kernel
theorem dX10_loan_46 : decode cX10_loan 46 = .ok (.goto 25, 3) := by decide +kernel
theorem dX10_loan_49 : decode cX10_loan 49 = .ok (.iload_n 3, 1) := by decide +kernel
theorem dX10_loan_50 : decode cX10_loan 50 = .ok (.iconst 1, 1) := by decide +kernel
theorem dX10_loan_51 : decode cX10_loan 51 = .ok (.if_icmp .ne 13, 3) := by decide +kernel
theorem dX10_loan_54 : decode cX10_loan 54 = .ok (.aload_n 0, 1) := by decide +kernel
theorem dX10_loan_55 : decode cX10_loan 55 = .ok (.getfield 73, 3) := by decide +kernel
theorem dX10_loan_58 : decode cX10_loan 58 = .ok (.iload 4, 2) := by decide +kernel
theorem dX10_loan_60 : decode cX10_loan 60 = .ok (.iaload, 1) := by decide +kernel
theorem dX10_loan_61 : decode cX10_loan 61 = .ok (.goto 10, 3) := by decide +kernel
theorem dX10_loan_64 : decode cX10_loan 64 = .ok (.aload_n 0, 1) := by decide +kernel
theorem dX10_loan_65 : decode cX10_loan 65 = .ok (.getfield 76, 3) := by decide +kernel
theorem dX10_loan_68 : decode cX10_loan 68 = .ok (.iload 4, 2) := by decide +kernel
theorem dX10_loan_70 : decode cX10_loan 70 = .ok (.iaload, 1) := by decide +kernel
theorem dX10_loan_71 : decode cX10_loan 71 = .ok (.ireturn, 1) := by decide +kernel
set_option maxRecDepth 20000 in
theorem ggX10_pay_X10_isLoan : GoodIn wsX10_pay wsX10_isLoan := goodIn_r _ [11, 12, 13, 14, 10, 15, 19, 20, 21, 22, 23, 24, 25, 26, 27, 28, 29, 30, 31, 32, 33, 34, 35, 36, 37, 38, 39, 40, 41, 42, 43, 44, 45, 46, 47, 48, 49, 50, 51, 52, 53, 54, 55, 56, 57, 58, 59] (by decide +kernel) (by decide +kernel)
set_option maxRecDepth 20000 in
theorem gX10_pay_X10_isLoan : GoodIn wsX10_pay (wsV RX10 227 RX10 yX10_isLoan wsX10_isLoan) := goodIn_app (goodIn_of _ (by decide +kernel)) ggX10_pay_X10_isLoan
set_option maxRecDepth 20000 in
theorem ggX10_pay_X10_isHouse : GoodIn wsX10_pay wsX10_isHouse := goodIn_r _ [18, 13, 14, 10, 15] (by decide +kernel) (by decide +kernel)
set_option maxRecDepth 20000 in
theorem gX10_pay_X10_isHouse : GoodIn wsX10_pay (va_wsS RX10 152 yX10_isHouse wsX10_isHouse) := goodIn_app (goodIn_of _ (by decide +kernel)) ggX10_pay_X10_isHouse
set_option maxRecDepth 20000 in
theorem ggX10_pay_X10_isIn : GoodIn wsX10_pay wsX10_isIn := goodIn_r _ [15] (by decide +kernel) (by decide +kernel)
set_option maxRecDepth 20000 in
theorem gX10_pay_X10_isIn : GoodIn wsX10_pay (va_wsS RX10 104 yX10_isIn wsX10_isIn) := goodIn_app (goodIn_of _ (by decide +kernel)) ggX10_pay_X10_isIn
theorem dX10_pay_0 : decode cX10_pay 0 = .ok (.aload_n 0, 1) := by decide +kernel
theorem dX10_pay_1 : decode cX10_pay 1 = .ok (.iload_n 1, 1) := by decide +kernel
theorem dX10_pay_2 : decode cX10_pay 2 = .ok (.invokevirtual 227, 3) := by decide +kernel
theorem dX10_pay_5 : decode cX10_pay 5 = .ok (.ifCond .eq 20, 3) := by decide +kernel
theorem dX10_pay_8 : decode cX10_pay 8 = .ok (.iload_n 2, 1) := by decide +kernel
theorem dX10_pay_9 : decode cX10_pay 9 = .ok (.invokestatic 152, 3) := by decide +kernel
theorem dX10_pay_12 : decode cX10_pay 12 = .ok (.ifCond .eq 13, 3) := by decide +kernel
theorem dX10_pay_15 : decode cX10_pay 15 = .ok (.iload_n 3, 1) := by decide +kernel
theorem dX10_pay_16 : decode cX10_pay 16 = .ok (.iconst 1, 1) := by decide +kernel
theorem dX10_pay_17 : decode cX10_pay 17 = .ok (.ldc 108, 2) := by decide +kernel
theorem dX10_pay_19 : decode cX10_pay 19 = .ok (.invokestatic 104, 3) := by decide +kernel
theorem dX10_pay_22 : decode cX10_pay 22 = .ok (.ifCond .ne 6, 3) := by decide +kernel
theorem dX10_pay_25 : decode cX10_pay 25 = .ok (.ldc 116, 2) := by decide +kernel
theorem dX10_pay_27 : decode cX10_pay 27 = .ok (.ireturn, 1) := by decide +kernel
theorem dX10_pay_28 : decode cX10_pay 28 = .ok (.bipush 10, 2) := by decide +kernel
theorem dX10_pay_30 : decode cX10_pay 30 = .ok (.iload_n 1, 1) := by decide +kernel
theorem dX10_pay_31 : decode cX10_pay 31 = .ok (.imul, 1) := by decide +kernel
theorem dX10_pay_32 : decode cX10_pay 32 = .ok (.iload_n 2, 1) := by decide +kernel
theorem dX10_pay_33 : decode cX10_pay 33 = .ok (.iadd, 1) := by decide +kernel
theorem dX10_pay_34 : decode cX10_pay 34 = .ok (.istore 4, 2) := by decide +kernel
theorem dX10_pay_36 : decode cX10_pay 36 = .ok (.aload_n 0, 1) := by decide +kernel
theorem dX10_pay_37 : decode cX10_pay 37 = .ok (.getfield 70, 3) := by decide +kernel
theorem dX10_pay_40 : decode cX10_pay 40 = .ok (.iload 4, 2) := by decide +kernel
theorem dX10_pay_42 : decode cX10_pay 42 = .ok (.iaload, 1) := by decide +kernel
theorem dX10_pay_43 : decode cX10_pay 43 = .ok (.aload_n 0, 1) := by decide +kernel
theorem dX10_pay_44 : decode cX10_pay 44 = .ok (.getfield 73, 3) := by decide +kernel
theorem dX10_pay_47 : decode cX10_pay 47 = .ok (.iload 4, 2) := by decide +kernel
theorem dX10_pay_49 : decode cX10_pay 49 = .ok (.iaload, 1) := by decide +kernel
theorem dX10_pay_50 : decode cX10_pay 50 = .ok (.isub, 1) := by decide +kernel
theorem dX10_pay_51 : decode cX10_pay 51 = .ok (.istore 5, 2) := by decide +kernel
theorem dX10_pay_53 : decode cX10_pay 53 = .ok (.iload 5, 2) := by decide +kernel
theorem dX10_pay_55 : decode cX10_pay 55 = .ok (.ifCond .ne 6, 3) := by decide +kernel
theorem dX10_pay_58 : decode cX10_pay 58 = .ok (.ldc 174, 2) := by decide +kernel
theorem dX10_pay_60 : decode cX10_pay 60 = .ok (.ireturn, 1) := by decide +kernel
theorem dX10_pay_61 : decode cX10_pay 61 = .ok (.iload_n 3, 1) := by decide +kernel
theorem dX10_pay_62 : decode cX10_pay 62 = .ok (.iload 5, 2) := by decide +kernel
theorem dX10_pay_64 : decode cX10_pay 64 = .ok (.if_icmp .ge 7, 3) := by decide +kernel
theorem dX10_pay_67 : decode cX10_pay 67 = .ok (.iload_n 3, 1) := by decide +kernel
theorem dX10_pay_68 : decode cX10_pay 68 = .ok (.goto 5, 3) := by decide +kernel
theorem dX10_pay_71 : decode cX10_pay 71 = .ok (.iload 5, 2) := by decide +kernel
theorem dX10_pay_73 : decode cX10_pay 73 = .ok (.istore 6, 2) := by decide +kernel
theorem dX10_pay_75 : decode cX10_pay 75 = .ok (.aload_n 0, 1) := by decide +kernel
theorem dX10_pay_76 : decode cX10_pay 76 = .ok (.getfield 73, 3) := by decide +kernel
theorem dX10_pay_79 : decode cX10_pay 79 = .ok (.iload 4, 2) := by decide +kernel
theorem dX10_pay_81 : decode cX10_pay 81 = .ok (.dup2, 1) := by decide +kernel
theorem dX10_pay_82 : decode cX10_pay 82 = .ok (.iaload, 1) := by decide +kernel
theorem dX10_pay_83 : decode cX10_pay 83 = .ok (.iload 6, 2) := by decide +kernel
theorem dX10_pay_85 : decode cX10_pay 85 = .ok (.iadd, 1) := by decide +kernel
theorem dX10_pay_86 : decode cX10_pay 86 = .ok (.iastore, 1) := by decide +kernel
theorem dX10_pay_87 : decode cX10_pay 87 = .ok (.aload_n 0, 1) := by decide +kernel
theorem dX10_pay_88 : decode cX10_pay 88 = .ok (.getfield 76, 3) := by decide +kernel
theorem dX10_pay_91 : decode cX10_pay 91 = .ok (.iload 4, 2) := by decide +kernel
theorem dX10_pay_93 : decode cX10_pay 93 = .ok (.dup2, 1) := by decide +kernel
theorem dX10_pay_94 : decode cX10_pay 94 = .ok (.iaload, 1) := by decide +kernel
theorem dX10_pay_95 : decode cX10_pay 95 = .ok (.iload 6, 2) := by decide +kernel
theorem dX10_pay_97 : decode cX10_pay 97 = .ok (.iadd, 1) := by decide +kernel
theorem dX10_pay_98 : decode cX10_pay 98 = .ok (.iastore, 1) := by decide +kernel
theorem dX10_pay_99 : decode cX10_pay 99 = .ok (.iload 6, 2) := by decide +kernel
theorem dX10_pay_101 : decode cX10_pay 101 = .ok (.ireturn, 1) := by decide +kernel
set_option maxRecDepth 20000 in
theorem ggX10_sell_X10_isLoan : GoodIn wsX10_sell wsX10_isLoan := goodIn_r _ [9, 10, 11, 12, 8, 13, 17, 18, 19, 20, 21, 22, 23, 24, 25, 26, 27, 28, 29, 30, 31, 32, 33, 34, 35, 36, 37, 38, 39, 40, 41, 42, 43, 44, 45, 46, 47, 48, 49, 50, 51, 52, 53, 54, 55, 56, 57] (by decide +kernel) (by decide +kernel)
set_option maxRecDepth 20000 in
theorem gX10_sell_X10_isLoan : GoodIn wsX10_sell (wsV RX10 227 RX10 yX10_isLoan wsX10_isLoan) := goodIn_app (goodIn_of _ (by decide +kernel)) ggX10_sell_X10_isLoan
set_option maxRecDepth 20000 in
theorem ggX10_sell_X10_isHouse : GoodIn wsX10_sell wsX10_isHouse := goodIn_r _ [16, 11, 12, 8, 13] (by decide +kernel) (by decide +kernel)
set_option maxRecDepth 20000 in
theorem gX10_sell_X10_isHouse : GoodIn wsX10_sell (va_wsS RX10 152 yX10_isHouse wsX10_isHouse) := goodIn_app (goodIn_of _ (by decide +kernel)) ggX10_sell_X10_isHouse
set_option maxRecDepth 20000 in
theorem ggX10_sell_X10_isIn : GoodIn wsX10_sell wsX10_isIn := goodIn_r _ [13] (by decide +kernel) (by decide +kernel)
set_option maxRecDepth 20000 in
theorem gX10_sell_X10_isIn : GoodIn wsX10_sell (va_wsS RX10 104 yX10_isIn wsX10_isIn) := goodIn_app (goodIn_of _ (by decide +kernel)) ggX10_sell_X10_isIn
theorem dX10_sell_0 : decode cX10_sell 0 = .ok (.aload_n 0, 1) := by decide +kernel
theorem dX10_sell_1 : decode cX10_sell 1 = .ok (.iload_n 1, 1) := by decide +kernel
theorem dX10_sell_2 : decode cX10_sell 2 = .ok (.invokevirtual 227, 3) := by decide +kernel
theorem dX10_sell_5 : decode cX10_sell 5 = .ok (.ifCond .eq 33, 3) := by decide +kernel
theorem dX10_sell_8 : decode cX10_sell 8 = .ok (.iload_n 2, 1) := by decide +kernel
theorem dX10_sell_9 : decode cX10_sell 9 = .ok (.invokestatic 152, 3) := by decide +kernel
theorem dX10_sell_12 : decode cX10_sell 12 = .ok (.ifCond .eq 26, 3) := by decide +kernel
theorem dX10_sell_15 : decode cX10_sell 15 = .ok (.iload_n 3, 1) := by decide +kernel
theorem dX10_sell_16 : decode cX10_sell 16 = .ok (.invokestatic 152, 3) := by decide +kernel
theorem dX10_sell_19 : decode cX10_sell 19 = .ok (.ifCond .eq 19, 3) := by decide +kernel
theorem dX10_sell_22 : decode cX10_sell 22 = .ok (.iload_n 2, 1) := by decide +kernel
theorem dX10_sell_23 : decode cX10_sell 23 = .ok (.iload_n 3, 1) := by decide +kernel
theorem dX10_sell_24 : decode cX10_sell 24 = .ok (.if_icmp .eq 14, 3) := by decide +kernel
theorem dX10_sell_27 : decode cX10_sell 27 = .ok (.iload 4, 2) := by decide +kernel
theorem dX10_sell_29 : decode cX10_sell 29 = .ok (.iconst 1, 1) := by decide +kernel
theorem dX10_sell_30 : decode cX10_sell 30 = .ok (.ldc 108, 2) := by decide +kernel
theorem dX10_sell_32 : decode cX10_sell 32 = .ok (.invokestatic 104, 3) := by decide +kernel
theorem dX10_sell_35 : decode cX10_sell 35 = .ok (.ifCond .ne 6, 3) := by decide +kernel
theorem dX10_sell_38 : decode cX10_sell 38 = .ok (.ldc 116, 2) := by decide +kernel
theorem dX10_sell_40 : decode cX10_sell 40 = .ok (.ireturn, 1) := by decide +kernel
theorem dX10_sell_41 : decode cX10_sell 41 = .ok (.bipush 10, 2) := by decide +kernel
theorem dX10_sell_43 : decode cX10_sell 43 = .ok (.iload_n 1, 1) := by decide +kernel
theorem dX10_sell_44 : decode cX10_sell 44 = .ok (.imul, 1) := by decide +kernel
theorem dX10_sell_45 : decode cX10_sell 45 = .ok (.iload_n 2, 1) := by decide +kernel
theorem dX10_sell_46 : decode cX10_sell 46 = .ok (.iadd, 1) := by decide +kernel
theorem dX10_sell_47 : decode cX10_sell 47 = .ok (.istore 5, 2) := by decide +kernel
theorem dX10_sell_49 : decode cX10_sell 49 = .ok (.aload_n 0, 1) := by decide +kernel
theorem dX10_sell_50 : decode cX10_sell 50 = .ok (.getfield 76, 3) := by decide +kernel
theorem dX10_sell_53 : decode cX10_sell 53 = .ok (.iload 5, 2) := by decide +kernel
theorem dX10_sell_55 : decode cX10_sell 55 = .ok (.iaload, 1) := by decide +kernel
theorem dX10_sell_56 : decode cX10_sell 56 = .ok (.iload 4, 2) := by decide +kernel
theorem dX10_sell_58 : decode cX10_sell 58 = .ok (.if_icmp .ge 6, 3) := by decide +kernel
theorem dX10_sell_61 : decode cX10_sell 61 = .ok (.ldc 174, 2) := by decide +kernel
theorem dX10_sell_63 : decode cX10_sell 63 = .ok (.ireturn, 1) := by decide +kernel
theorem dX10_sell_64 : decode cX10_sell 64 = .ok (.aload_n 0, 1) := by decide +kernel
theorem dX10_sell_65 : decode cX10_sell 65 = .ok (.getfield 76, 3) := by decide +kernel
theorem dX10_sell_68 : decode cX10_sell 68 = .ok (.iload 5, 2) := by decide +kernel
theorem dX10_sell_70 : decode cX10_sell 70 = .ok (.dup2, 1) := by decide +kernel
theorem dX10_sell_71 : decode cX10_sell 71 = .ok (.iaload, 1) := by decide +kernel
theorem dX10_sell_72 : decode cX10_sell 72 = .ok (.iload 4, 2) := by decide +kernel
theorem dX10_sell_74 : decode cX10_sell 74 = .ok (.isub, 1) := by decide +kernel
theorem dX10_sell_75 : decode cX10_sell 75 = .ok (.iastore, 1) := by decide +kernel
theorem dX10_sell_76 : decode cX10_sell 76 = .ok (.aload_n 0, 1) := by decide +kernel
theorem dX10_sell_77 : decode cX10_sell 77 = .ok (.getfield 76, 3) := by decide +kernel
theorem dX10_sell_80 : decode cX10_sell 80 = .ok (.bipush 10, 2) := by decide +kernel
theorem dX10_sell_82 : decode cX10_sell 82 = .ok (.iload_n 1, 1) := by decide +kernel
theorem dX10_sell_83 : decode cX10_sell 83 = .ok (.imul, 1) := by decide +kernel
theorem dX10_sell_84 : decode cX10_sell 84 = .ok (.iload_n 3, 1) := by decide +kernel
theorem dX10_sell_85 : decode cX10_sell 85 = .ok (.iadd, 1) := by decide +kernel
theorem dX10_sell_86 : decode cX10_sell 86 = .ok (.dup2, 1) := by decide +kernel
theorem dX10_sell_87 : decode cX10_sell 87 = .ok (.iaload, 1) := by decide +kernel
theorem dX10_sell_88 : decode cX10_sell 88 = .ok (.iload 4, 2) := by decide +kernel
theorem dX10_sell_90 : decode cX10_sell 90 = .ok (.iadd, 1) := by decide +kernel
theorem dX10_sell_91 : decode cX10_sell 91 = .ok (.iastore, 1) := by decide +kernel
theorem dX10_sell_92 : decode cX10_sell 92 = .ok (.aload_n 0, 1) := by decide +kernel
theorem dX10_sell_93 : decode cX10_sell 93 = .ok (.getfield 76, 3) := by decide +kernel
theorem dX10_sell_96 : decode cX10_sell 96 = .ok (.bipush 10, 2) := by decide +kernel
theorem dX10_sell_98 : decode cX10_sell 98 = .ok (.iload_n 1, 1) := by decide +kernel
theorem dX10_sell_99 : decode cX10_sell 99 = .ok (.imul, 1) := by decide +kernel
theorem dX10_sell_100 : decode cX10_sell 100 = .ok (.iload_n 3, 1) := by decide +kernel
theorem dX10_sell_101 : decode cX10_sell 101 = .ok (.iadd, 1) := by decide +kernel
theorem dX10_sell_102 : decode cX10_sell 102 = .ok (.iaload, 1) := by decide +kernel
theorem dX10_sell_103 : decode cX10_sell 103 = .ok (.ireturn, 1) := by decide +kernel
theorem dX10_count_0 : decode cX10_count 0 = .ok (.iconst 0, 1) := by decide +kernel
theorem dX10_count_1 : decode cX10_count 1 = .ok (.istore_n 2, 1) := by decide +kernel
theorem dX10_count_2 : decode cX10_count 2 = .ok (.iload_n 1, 1) := by decide +kernel
theorem dX10_count_3 : decode cX10_count 3 = .ok (.tableswitch 138 0 7 #[45, 50, 55, 60, 65, 70, 75, 108], 45) := by decide +kernel
theorem dX10_count_48 : decode cX10_count 48 = .ok (.aload_n 0, 1) := by decide +kernel
theorem dX10_count_49 : decode cX10_count 49 = .ok (.getfield 109, 3) := by decide +kernel
theorem dX10_count_52 : decode cX10_count 52 = .ok (.ireturn, 1) := by decide +kernel
theorem dX10_count_53 : decode cX10_count 53 = .ok (.aload_n 0, 1) := by decide +kernel
theorem dX10_count_54 : decode cX10_count 54 = .ok (.getfield 178, 3) := by decide +kernel
theorem dX10_count_57 : decode cX10_count 57 = .ok (.ireturn, 1) := by decide +kernel
theorem dX10_count_58 : decode cX10_count 58 = .ok (.aload_n 0, 1) := by decide +kernel
theorem dX10_count_59 : decode cX10_count 59 = .ok (.getfield 192, 3) := by decide +kernel
theorem dX10_count_62 : decode cX10_count 62 = .ok (.ireturn, 1) := by decide +kernel
theorem dX10_count_63 : decode cX10_count 63 = .ok (.aload_n 0, 1) := by decide +kernel
theorem dX10_count_64 : decode cX10_count 64 = .ok (.getfield 222, 3) := by decide +kernel
theorem dX10_count_67 : decode cX10_count 67 = .ok (.ireturn, 1) := by decide +kernel
theorem dX10_count_68 : decode cX10_count 68 = .ok (.aload_n 0, 1) := by decide +kernel
theorem dX10_count_69 : decode cX10_count 69 = .ok (.getfield 117, 3) := by decide +kernel
theorem dX10_count_72 : decode cX10_count 72 = .ok (.ireturn, 1) := by decide +kernel
theorem dX10_count_73 : decode cX10_count 73 = .ok (.aload_n 0, 1) := by decide +kernel
theorem dX10_count_74 : decode cX10_count 74 = .ok (.getfield 113, 3) := by decide +kernel
theorem dX10_count_77 : decode cX10_count 77 = .ok (.ireturn, 1) := by decide +kernel
theorem dX10_count_78 : decode cX10_count 78 = .ok (.iconst 0, 1) := by decide +kernel
theorem dX10_count_79 : decode cX10_count 79 = .ok (.istore_n 3, 1) := by decide +kernel
theorem dX10_count_80 : decode cX10_count 80 = .ok (.iload_n 3, 1) := by decide +kernel
theorem dX10_count_81 : decode cX10_count 81 = .ok (.bipush 12, 2) := by decide +kernel
theorem dX10_count_83 : decode cX10_count 83 = .ok (.if_icmp .ge 26, 3) := by decide +kernel
theorem dX10_count_86 : decode cX10_count 86 = .ok (.iload_n 2, 1) := by decide +kernel
theorem dX10_count_87 : decode cX10_count 87 = .ok (.aload_n 0, 1) := by decide +kernel
theorem dX10_count_88 : decode cX10_count 88 = .ok (.getfield 7, 3) := by decide +kernel
theorem dX10_count_91 : decode cX10_count 91 = .ok (.iload_n 3, 1) := by decide +kernel
theorem dX10_count_92 : decode cX10_count 92 = .ok (.iaload, 1) := by decide +kernel
theorem dX10_count_93 : decode cX10_count 93 = .ok (.ifCond .le 7, 3) := by decide +kernel
theorem dX10_count_96 : decode cX10_count 96 = .ok (.iconst 1, 1) := by decide +kernel
theorem dX10_count_97 : decode cX10_count 97 = .ok (.goto 4, 3) := by decide +kernel
theorem dX10_count_100 : decode cX10_count 100 = .ok (.iconst 0, 1) := by decide +kernel
theorem dX10_count_101 : decode cX10_count 101 = .ok (.iadd, 1) := by decide +kernel
theorem dX10_count_102 : decode cX10_count 102 = .ok (.istore_n 2, 1) := by decide +kernel
theorem dX10_count_103 : decode cX10_count 103 = .ok (.iinc 3 1, 3) := by decide +kernel
theorem dX10_count_106 : decode cX10_count 106 = .ok (.goto (-26), 3) := by decide +kernel
theorem dX10_count_109 : decode cX10_count 109 = .ok (.iload_n 2, 1) := by decide +kernel
theorem dX10_count_110 : decode cX10_count 110 = .ok (.ireturn, 1) := by decide +kernel
theorem dX10_count_111 : decode cX10_count 111 = .ok (.iconst 0, 1) := by decide +kernel
theorem dX10_count_112 : decode cX10_count 112 = .ok (.istore_n 3, 1) := by decide +kernel
theorem dX10_count_113 : decode cX10_count 113 = .ok (.iload_n 3, 1) := by decide +kernel
theorem dX10_count_114 : decode cX10_count 114 = .ok (.bipush 10, 2) := by decide +kernel
theorem dX10_count_116 : decode cX10_count 116 = .ok (.aload_n 0, 1) := by decide +kernel
theorem dX10_count_117 : decode cX10_count 117 = .ok (.getfield 222, 3) := by decide +kernel
theorem dX10_count_120 : decode cX10_count 120 = .ok (.imul, 1) := by decide +kernel
theorem dX10_count_121 : decode cX10_count 121 = .ok (.if_icmp .ge 18, 3) := by decide +kernel
theorem dX10_count_124 : decode cX10_count 124 = .ok (.iload_n 2, 1) := by decide +kernel
theorem dX10_count_125 : decode cX10_count 125 = .ok (.aload_n 0, 1) := by decide +kernel
theorem dX10_count_126 : decode cX10_count 126 = .ok (.getfield 76, 3) := by decide +kernel
theorem dX10_count_129 : decode cX10_count 129 = .ok (.iload_n 3, 1) := by decide +kernel
theorem dX10_count_130 : decode cX10_count 130 = .ok (.iaload, 1) := by decide +kernel
theorem dX10_count_131 : decode cX10_count 131 = .ok (.iadd, 1) := by decide +kernel
theorem dX10_count_132 : decode cX10_count 132 = .ok (.istore_n 2, 1) := by decide +kernel
theorem dX10_count_133 : decode cX10_count 133 = .ok (.iinc 3 1, 3) := by decide +kernel
theorem dX10_count_136 : decode cX10_count 136 = .ok (.goto (-23), 3) := by decide +kernel
theorem dX10_count_139 : decode cX10_count 139 = .ok (.iload_n 2, 1) := by decide +kernel
theorem dX10_count_140 : decode cX10_count 140 = .ok (.ireturn, 1) := by decide +kernel
theorem dX10_count_141 : decode cX10_count 141 = .ok (.ldc 116, 2) := by decide +kernel
theorem dX10_count_143 : decode cX10_count 143 = .ok (.ireturn, 1) := by decide +kernel
