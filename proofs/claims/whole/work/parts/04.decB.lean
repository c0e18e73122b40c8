theorem dX9_init_0 : decode cX9_init 0 = .ok (.aload_n 0, 1) := by decide +kernel
theorem dX9_init_1 : decode cX9_init 1 = .ok (.invokespecial 3, 3) := by decide +kernel
theorem dX9_init_4 : decode cX9_init 4 = .ok (.aload_n 0, 1) := by decide +kernel
theorem dX9_init_5 : decode cX9_init 5 = .ok (.new 9, 3) := by decide +kernel
theorem dX9_init_8 : decode cX9_init 8 = .ok (.dup, 1) := by decide +kernel
theorem dX9_init_9 : decode cX9_init 9 = .ok (.invokespecial 11, 3) := by decide +kernel
theorem dX9_init_12 : decode cX9_init 12 = .ok (.putfield 12, 3) := by decide +kernel
theorem dX9_init_15 : decode cX9_init 15 = .ok (.aload_n 0, 1) := by decide +kernel
theorem dX9_init_16 : decode cX9_init 16 = .ok (.new 16, 3) := by decide +kernel
theorem dX9_init_19 : decode cX9_init 19 = .ok (.dup, 1) := by decide +kernel
theorem dX9_init_20 : decode cX9_init 20 = .ok (.invokespecial 18, 3) := by decide +kernel
theorem dX9_init_23 : decode cX9_init 23 = .ok (.putfield 19, 3) := by decide +kernel
theorem dX9_init_26 : decode cX9_init 26 = .ok (.aload_n 0, 1) := by decide +kernel
theorem dX9_init_27 : decode cX9_init 27 = .ok (.new 23, 3) := by decide +kernel
theorem dX9_init_30 : decode cX9_init 30 = .ok (.dup, 1) := by decide +kernel
theorem dX9_init_31 : decode cX9_init 31 = .ok (.invokespecial 25, 3) := by decide +kernel
theorem dX9_init_34 : decode cX9_init 34 = .ok (.putfield 26, 3) := by decide +kernel
theorem dX9_init_37 : decode cX9_init 37 = .ok (.aload_n 0, 1) := by decide +kernel
theorem dX9_init_38 : decode cX9_init 38 = .ok (.new 30, 3) := by decide +kernel
theorem dX9_init_41 : decode cX9_init 41 = .ok (.dup, 1) := by decide +kernel
theorem dX9_init_42 : decode cX9_init 42 = .ok (.aload_n 0, 1) := by decide +kernel
theorem dX9_init_43 : decode cX9_init 43 = .ok (.getfield 26, 3) := by decide +kernel
theorem dX9_init_46 : decode cX9_init 46 = .ok (.invokespecial 32, 3) := by decide +kernel
theorem dX9_init_49 : decode cX9_init 49 = .ok (.putfield 35, 3) := by decide +kernel
theorem dX9_init_52 : decode cX9_init 52 = .ok (.aload_n 0, 1) := by decide +kernel
theorem dX9_init_53 : decode cX9_init 53 = .ok (.new 39, 3) := by decide +kernel
theorem dX9_init_56 : decode cX9_init 56 = .ok (.dup, 1) := by decide +kernel
theorem dX9_init_57 : decode cX9_init 57 = .ok (.invokespecial 41, 3) := by decide +kernel
theorem dX9_init_60 : decode cX9_init 60 = .ok (.putfield 42, 3) := by decide +kernel
theorem dX9_init_63 : decode cX9_init 63 = .ok (.aload_n 0, 1) := by decide +kernel
theorem dX9_init_64 : decode cX9_init 64 = .ok (.new 46, 3) := by decide +kernel
theorem dX9_init_67 : decode cX9_init 67 = .ok (.dup, 1) := by decide +kernel
theorem dX9_init_68 : decode cX9_init 68 = .ok (.invokespecial 48, 3) := by decide +kernel
theorem dX9_init_71 : decode cX9_init 71 = .ok (.putfield 49, 3) := by decide +kernel
theorem dX9_init_74 : decode cX9_init 74 = .ok (.aload_n 0, 1) := by decide +kernel
theorem dX9_init_75 : decode cX9_init 75 = .ok (.new 53, 3) := by decide +kernel
theorem dX9_init_78 : decode cX9_init 78 = .ok (.dup, 1) := by decide +kernel
theorem dX9_init_79 : decode cX9_init 79 = .ok (.invokespecial 55, 3) := by decide +kernel
theorem dX9_init_82 : decode cX9_init 82 = .ok (.putfield 56, 3) := by decide +kernel
theorem dX9_init_85 : decode cX9_init 85 = .ok (.aload_n 0, 1) := by decide +kernel
theorem dX9_init_86 : decode cX9_init 86 = .ok (.new 60, 3) := by decide +kernel
theorem dX9_init_89 : decode cX9_init 89 = .ok (.dup, 1) := by decide +kernel
theorem dX9_init_90 : decode cX9_init 90 = .ok (.aload_n 0, 1) := by decide +kernel
theorem dX9_init_91 : decode cX9_init 91 = .ok (.getfield 19, 3) := by decide +kernel
theorem dX9_init_94 : decode cX9_init 94 = .ok (.aload_n 0, 1) := by decide +kernel
theorem dX9_init_95 : decode cX9_init 95 = .ok (.getfield 42, 3) := by decide +kernel
theorem dX9_init_98 : decode cX9_init 98 = .ok (.aload_n 0, 1) := by decide +kernel
theorem dX9_init_99 : decode cX9_init 99 = .ok (.getfield 49, 3) := by decide +kernel
theorem dX9_init_102 : decode cX9_init 102 = .ok (.aload_n 0, 1) := by decide +kernel
theorem dX9_init_103 : decode cX9_init 103 = .ok (.getfield 56, 3) := by decide +kernel
theorem dX9_init_106 : decode cX9_init 106 = .ok (.invokespecial 62, 3) := by decide +kernel
theorem dX9_init_109 : decode cX9_init 109 = .ok (.putfield 65, 3) := by decide +kernel
theorem dX9_init_112 : decode cX9_init 112 = .ok (.aload_n 0, 1) := by decide +kernel
theorem dX9_init_113 : decode cX9_init 113 = .ok (.new 69, 3) := by decide +kernel
theorem dX9_init_116 : decode cX9_init 116 = .ok (.dup, 1) := by decide +kernel
theorem dX9_init_117 : decode cX9_init 117 = .ok (.invokespecial 71, 3) := by decide +kernel
theorem dX9_init_120 : decode cX9_init 120 = .ok (.putfield 72, 3) := by decide +kernel
theorem dX9_init_123 : decode cX9_init 123 = .ok (.aload_n 0, 1) := by decide +kernel
theorem dX9_init_124 : decode cX9_init 124 = .ok (.bipush 10, 2) := by decide +kernel
theorem dX9_init_126 : decode cX9_init 126 = .ok (.newarray .int, 2) := by decide +kernel
theorem dX9_init_128 : decode cX9_init 128 = .ok (.putfield 76, 3) := by decide +kernel
theorem dX9_init_131 : decode cX9_init 131 = .ok (.return_, 1) := by decide +kernel
set_option maxRecDepth 20000 in
theorem ggX9_days_X9_isWithin : GoodIn wsX9_days wsX9_isWithin := goodIn_r _ [7] (by decide +kernel) (by decide +kernel)
set_option maxRecDepth 20000 in
theorem gX9_days_X9_isWithin : GoodIn wsX9_days (va_wsS RX9 80 yX9_isWithin wsX9_isWithin) := goodIn_app (goodIn_of _ (by decide +kernel)) ggX9_days_X9_isWithin
theorem dX9_days_0 : decode cX9_days 0 = .ok (.iload_n 1, 1) := by decide +kernel
theorem dX9_days_1 : decode cX9_days 1 = .ok (.iconst 0, 1) := by decide +kernel
theorem dX9_days_2 : decode cX9_days 2 = .ok (.sipush 1000, 3) := by decide +kernel
theorem dX9_days_5 : decode cX9_days 5 = .ok (.invokestatic 80, 3) := by decide +kernel
theorem dX9_days_8 : decode cX9_days 8 = .ok (.ifCond .eq 17, 3) := by decide +kernel
theorem dX9_days_11 : decode cX9_days 11 = .ok (.aload_n 0, 1) := by decide +kernel
theorem dX9_days_12 : decode cX9_days 12 = .ok (.getfield 12, 3) := by decide +kernel
theorem dX9_days_15 : decode cX9_days 15 = .ok (.getfield 84, 3) := by decide +kernel
theorem dX9_days_18 : decode cX9_days 18 = .ok (.iload_n 1, 1) := by decide +kernel
theorem dX9_days_19 : decode cX9_days 19 = .ok (.iadd, 1) := by decide +kernel
theorem dX9_days_20 : decode cX9_days 20 = .ok (.ldc 88, 2) := by decide +kernel
theorem dX9_days_22 : decode cX9_days 22 = .ok (.if_icmp .le 6, 3) := by decide +kernel
theorem dX9_days_25 : decode cX9_days 25 = .ok (.ldc 89, 2) := by decide +kernel
theorem dX9_days_27 : decode cX9_days 27 = .ok (.ireturn, 1) := by decide +kernel
theorem dX9_days_28 : decode cX9_days 28 = .ok (.aload_n 0, 1) := by decide +kernel
theorem dX9_days_29 : decode cX9_days 29 = .ok (.getfield 12, 3) := by decide +kernel
theorem dX9_days_32 : decode cX9_days 32 = .ok (.dup, 1) := by decide +kernel
theorem dX9_days_33 : decode cX9_days 33 = .ok (.getfield 84, 3) := by decide +kernel
theorem dX9_days_36 : decode cX9_days 36 = .ok (.iload_n 1, 1) := by decide +kernel
theorem dX9_days_37 : decode cX9_days 37 = .ok (.iadd, 1) := by decide +kernel
theorem dX9_days_38 : decode cX9_days 38 = .ok (.putfield 84, 3) := by decide +kernel
theorem dX9_days_41 : decode cX9_days 41 = .ok (.aload_n 0, 1) := by decide +kernel
theorem dX9_days_42 : decode cX9_days 42 = .ok (.getfield 12, 3) := by decide +kernel
theorem dX9_days_45 : decode cX9_days 45 = .ok (.getfield 84, 3) := by decide +kernel
theorem dX9_days_48 : decode cX9_days 48 = .ok (.ireturn, 1) := by decide +kernel
set_option maxRecDepth 20000 in
theorem ggX9_measure_X9_isPlot : GoodIn wsX9_measure wsX9_isPlot := goodIn_r _ [6, 7, 8, 5, 9] (by decide +kernel) (by decide +kernel)
set_option maxRecDepth 20000 in
theorem gX9_measure_X9_isPlot : GoodIn wsX9_measure (va_wsS RX9 90 yX9_isPlot wsX9_isPlot) := goodIn_app (goodIn_of _ (by decide +kernel)) ggX9_measure_X9_isPlot
set_option maxRecDepth 20000 in
theorem ggX9_measure_X9_isWithin : GoodIn wsX9_measure wsX9_isWithin := goodIn_r _ [9] (by decide +kernel) (by decide +kernel)
set_option maxRecDepth 20000 in
theorem gX9_measure_X9_isWithin : GoodIn wsX9_measure (va_wsS RX9 80 yX9_isWithin wsX9_isWithin) := goodIn_app (goodIn_of _ (by decide +kernel)) ggX9_measure_X9_isWithin
theorem dX9_measure_0 : decode cX9_measure 0 = .ok (.iload_n 1, 1) := by decide +kernel
theorem dX9_measure_1 : decode cX9_measure 1 = .ok (.invokestatic 90, 3) := by decide +kernel
theorem dX9_measure_4 : decode cX9_measure 4 = .ok (.ifCond .eq 23, 3) := by decide +kernel
theorem dX9_measure_7 : decode cX9_measure 7 = .ok (.iload_n 2, 1) := by decide +kernel
theorem dX9_measure_8 : decode cX9_measure 8 = .ok (.iconst 1, 1) := by decide +kernel
theorem dX9_measure_9 : decode cX9_measure 9 = .ok (.sipush 2000, 3) := by decide +kernel
theorem dX9_measure_12 : decode cX9_measure 12 = .ok (.invokestatic 80, 3) := by decide +kernel
theorem dX9_measure_15 : decode cX9_measure 15 = .ok (.ifCond .eq 12, 3) := by decide +kernel
theorem dX9_measure_18 : decode cX9_measure 18 = .ok (.iload_n 3, 1) := by decide +kernel
theorem dX9_measure_19 : decode cX9_measure 19 = .ok (.iconst 0, 1) := by decide +kernel
theorem dX9_measure_20 : decode cX9_measure 20 = .ok (.iconst 2, 1) := by decide +kernel
theorem dX9_measure_21 : decode cX9_measure 21 = .ok (.invokestatic 80, 3) := by decide +kernel
theorem dX9_measure_24 : decode cX9_measure 24 = .ok (.ifCond .ne 6, 3) := by decide +kernel
theorem dX9_measure_27 : decode cX9_measure 27 = .ok (.ldc 89, 2) := by decide +kernel
theorem dX9_measure_29 : decode cX9_measure 29 = .ok (.ireturn, 1) := by decide +kernel
theorem dX9_measure_30 : decode cX9_measure 30 = .ok (.aload_n 0, 1) := by decide +kernel
theorem dX9_measure_31 : decode cX9_measure 31 = .ok (.getfield 19, 3) := by decide +kernel
theorem dX9_measure_34 : decode cX9_measure 34 = .ok (.getfield 94, 3) := by decide +kernel
theorem dX9_measure_37 : decode cX9_measure 37 = .ok (.iload_n 1, 1) := by decide +kernel
theorem dX9_measure_38 : decode cX9_measure 38 = .ok (.iaload, 1) := by decide +kernel
theorem dX9_measure_39 : decode cX9_measure 39 = .ok (.istore 4, 2) := by decide +kernel
theorem dX9_measure_41 : decode cX9_measure 41 = .ok (.aload_n 0, 1) := by decide +kernel
theorem dX9_measure_42 : decode cX9_measure 42 = .ok (.getfield 19, 3) := by decide +kernel
theorem dX9_measure_45 : decode cX9_measure 45 = .ok (.getfield 94, 3) := by decide +kernel
theorem dX9_measure_48 : decode cX9_measure 48 = .ok (.iload_n 1, 1) := by decide +kernel
theorem dX9_measure_49 : decode cX9_measure 49 = .ok (.iload_n 2, 1) := by decide +kernel
theorem dX9_measure_50 : decode cX9_measure 50 = .ok (.iastore, 1) := by decide +kernel
theorem dX9_measure_51 : decode cX9_measure 51 = .ok (.aload_n 0, 1) := by decide +kernel
theorem dX9_measure_52 : decode cX9_measure 52 = .ok (.getfield 19, 3) := by decide +kernel
theorem dX9_measure_55 : decode cX9_measure 55 = .ok (.getfield 97, 3) := by decide +kernel
theorem dX9_measure_58 : decode cX9_measure 58 = .ok (.iload_n 1, 1) := by decide +kernel
theorem dX9_measure_59 : decode cX9_measure 59 = .ok (.iload_n 3, 1) := by decide +kernel
theorem dX9_measure_60 : decode cX9_measure 60 = .ok (.iastore, 1) := by decide +kernel
theorem dX9_measure_61 : decode cX9_measure 61 = .ok (.iload 4, 2) := by decide +kernel
theorem dX9_measure_63 : decode cX9_measure 63 = .ok (.ireturn, 1) := by decide +kernel
set_option maxRecDepth 20000 in
theorem ggX9_feed_X7_append : GoodIn wsX9_feed wsX7_append := goodIn_r _ [7, 8, 9, 20, 21] (by decide +kernel) (by decide +kernel)
set_option maxRecDepth 20000 in
theorem gX9_feed_X7_append : GoodIn wsX9_feed (wsV RX9 104 RX7 yX7_append wsX7_append) := goodIn_app (goodIn_of _ (by decide +kernel)) ggX9_feed_X7_append
theorem dX9_feed_0 : decode cX9_feed 0 = .ok (.aload_n 0, 1) := by decide +kernel
theorem dX9_feed_1 : decode cX9_feed 1 = .ok (.getfield 26, 3) := by decide +kernel
theorem dX9_feed_4 : decode cX9_feed 4 = .ok (.getfield 100, 3) := by decide +kernel
theorem dX9_feed_7 : decode cX9_feed 7 = .ok (.bipush 12, 2) := by decide +kernel
theorem dX9_feed_9 : decode cX9_feed 9 = .ok (.iadd, 1) := by decide +kernel
theorem dX9_feed_10 : decode cX9_feed 10 = .ok (.bipush 60, 2) := by decide +kernel
theorem dX9_feed_12 : decode cX9_feed 12 = .ok (.if_icmp .le 6, 3) := by decide +kernel
theorem dX9_feed_15 : decode cX9_feed 15 = .ok (.ldc 103, 2) := by decide +kernel
theorem dX9_feed_17 : decode cX9_feed 17 = .ok (.ireturn, 1) := by decide +kernel
theorem dX9_feed_18 : decode cX9_feed 18 = .ok (.aload_n 0, 1) := by decide +kernel
theorem dX9_feed_19 : decode cX9_feed 19 = .ok (.getfield 26, 3) := by decide +kernel
theorem dX9_feed_22 : decode cX9_feed 22 = .ok (.iload_n 1, 1) := by decide +kernel
theorem dX9_feed_23 : decode cX9_feed 23 = .ok (.invokevirtual 104, 3) := by decide +kernel
theorem dX9_feed_26 : decode cX9_feed 26 = .ok (.aload_n 0, 1) := by decide +kernel
theorem dX9_feed_27 : decode cX9_feed 27 = .ok (.getfield 26, 3) := by decide +kernel
theorem dX9_feed_30 : decode cX9_feed 30 = .ok (.iload_n 2, 1) := by decide +kernel
theorem dX9_feed_31 : decode cX9_feed 31 = .ok (.invokevirtual 104, 3) := by decide +kernel
theorem dX9_feed_34 : decode cX9_feed 34 = .ok (.aload_n 0, 1) := by decide +kernel
theorem dX9_feed_35 : decode cX9_feed 35 = .ok (.getfield 26, 3) := by decide +kernel
theorem dX9_feed_38 : decode cX9_feed 38 = .ok (.iload_n 3, 1) := by decide +kernel
theorem dX9_feed_39 : decode cX9_feed 39 = .ok (.invokevirtual 104, 3) := by decide +kernel
theorem dX9_feed_42 : decode cX9_feed 42 = .ok (.aload_n 0, 1) := by decide +kernel
theorem dX9_feed_43 : decode cX9_feed 43 = .ok (.getfield 26, 3) := by decide +kernel
theorem dX9_feed_46 : decode cX9_feed 46 = .ok (.getfield 100, 3) := by decide +kernel
theorem dX9_feed_49 : decode cX9_feed 49 = .ok (.ireturn, 1) := by decide +kernel
set_option maxRecDepth 20000 in
theorem ggX9_trim_X9_isWithin : GoodIn wsX9_trim wsX9_isWithin := goodIn_r _ [6] (by decide +kernel) (by decide +kernel)
set_option maxRecDepth 20000 in
theorem gX9_trim_X9_isWithin : GoodIn wsX9_trim (va_wsS RX9 80 yX9_isWithin wsX9_isWithin) := goodIn_app (goodIn_of _ (by decide +kernel)) ggX9_trim_X9_isWithin
theorem dX9_trim_0 : decode cX9_trim 0 = .ok (.iload_n 1, 1) := by decide +kernel
theorem dX9_trim_1 : decode cX9_trim 1 = .ok (.iconst 0, 1) := by decide +kernel
theorem dX9_trim_2 : decode cX9_trim 2 = .ok (.aload_n 0, 1) := by decide +kernel
theorem dX9_trim_3 : decode cX9_trim 3 = .ok (.getfield 26, 3) := by decide +kernel
theorem dX9_trim_6 : decode cX9_trim 6 = .ok (.getfield 100, 3) := by decide +kernel
theorem dX9_trim_9 : decode cX9_trim 9 = .ok (.invokestatic 80, 3) := by decide +kernel
theorem dX9_trim_12 : decode cX9_trim 12 = .ok (.ifCond .ne 6, 3) := by decide +kernel
theorem dX9_trim_15 : decode cX9_trim 15 = .ok (.ldc 89, 2) := by decide +kernel
theorem dX9_trim_17 : decode cX9_trim 17 = .ok (.ireturn, 1) := by decide +kernel
theorem dX9_trim_18 : decode cX9_trim 18 = .ok (.aload_n 0, 1) := by decide +kernel
theorem dX9_trim_19 : decode cX9_trim 19 = .ok (.getfield 26, 3) := by decide +kernel
theorem dX9_trim_22 : decode cX9_trim 22 = .ok (.iload_n 1, 1) := by decide +kernel
theorem dX9_trim_23 : decode cX9_trim 23 = .ok (.putfield 100, 3) := by decide +kernel
theorem dX9_trim_26 : decode cX9_trim 26 = .ok (.iload_n 1, 1) := by decide +kernel
theorem dX9_trim_27 : decode cX9_trim 27 = .ok (.ireturn, 1) := by decide +kernel
set_option maxRecDepth 20000 in
theorem ggX9_declare_X9_declareTape : GoodIn wsX9_declare wsX9_declareTape := goodIn_r _ [6, 7, 8, 9, 10, 11, 12, 13, 5, 14, 15, 16, 17, 18, 19, 20, 21, 22, 23, 24, 25, 26, 27, 28, 29, 30, 31, 32, 33, 34, 35, 36, 37, 38, 39, 40, 41, 42, 43, 44, 45, 46, 47, 48, 49, 50, 51, 52, 53, 54, 55, 56, 57, 58, 59, 60, 61, 62, 63, 64, 65, 66, 67, 68, 69, 70, 71, 72, 73, 74, 75, 76, 77, 78, 79, 80, 81, 82, 83, 84, 85, 86, 87, 88, 89, 90, 91, 92, 93, 94, 95, 96, 97, 98, 99, 100, 101, 102, 103, 104, 105, 106, 107, 108, 109, 110, 111, 112, 113, 114, 115, 116, 117, 118, 119, 120, 121, 122, 123, 124, 125, 126, 127, 128, 129, 130, 131, 132, 133, 134, 135, 136, 137, 138, 139, 140, 141, 142, 143, 144, 145, 146, 147, 148, 149, 150, 151, 152, 153, 154, 155, 156, 157, 158, 159, 160, 161, 162, 163, 164, 165, 166, 167, 168, 171, 172, 173, 174, 175, 176, 177, 178, 179, 180, 181, 182, 183, 184, 185, 186, 187, 188, 189, 190, 169, 170] (by decide +kernel) (by decide +kernel)
set_option maxRecDepth 20000 in
theorem gX9_declare_X9_declareTape : GoodIn wsX9_declare (wsV RX9 108 RX9 yX9_declareTape wsX9_declareTape) := goodIn_app (goodIn_of _ (by decide +kernel)) ggX9_declare_X9_declareTape
theorem dX9_declare_0 : decode cX9_declare 0 = .ok (.aload_n 0, 1) := by decide +kernel
theorem dX9_declare_1 : decode cX9_declare 1 = .ok (.iload_n 1, 1) := by decide +kernel
theorem dX9_declare_2 : decode cX9_declare 2 = .ok (.iload_n 2, 1) := by decide +kernel
theorem dX9_declare_3 : decode cX9_declare 3 = .ok (.invokevirtual 108, 3) := by decide +kernel
theorem dX9_declare_6 : decode cX9_declare 6 = .ok (.istore_n 3, 1) := by decide +kernel
theorem dX9_declare_7 : decode cX9_declare 7 = .ok (.aload_n 0, 1) := by decide +kernel
theorem dX9_declare_8 : decode cX9_declare 8 = .ok (.getfield 26, 3) := by decide +kernel
theorem dX9_declare_11 : decode cX9_declare 11 = .ok (.iconst 0, 1) := by decide +kernel
theorem dX9_declare_12 : decode cX9_declare 12 = .ok (.putfield 100, 3) := by decide +kernel
theorem dX9_declare_15 : decode cX9_declare 15 = .ok (.iload_n 3, 1) := by decide +kernel
theorem dX9_declare_16 : decode cX9_declare 16 = .ok (.ireturn, 1) := by decide +kernel
set_option maxRecDepth 20000 in
theorem ggX9_line_X2_has : GoodIn wsX9_line wsX2_has := goodIn_r _ [7, 8, 9, 10, 11, 22, 23, 24, 25, 26, 27, 28, 29, 30] (by decide +kernel) (by decide +kernel)
set_option maxRecDepth 20000 in
theorem gX9_line_X2_has : GoodIn wsX9_line (wsV RX9 112 RX2 yX2_has wsX2_has) := goodIn_app (goodIn_of _ (by decide +kernel)) ggX9_line_X2_has
theorem dX9_line_0 : decode cX9_line 0 = .ok (.aload_n 0, 1) := by decide +kernel
theorem dX9_line_1 : decode cX9_line 1 = .ok (.getfield 42, 3) := by decide +kernel
theorem dX9_line_4 : decode cX9_line 4 = .ok (.iload_n 1, 1) := by decide +kernel
theorem dX9_line_5 : decode cX9_line 5 = .ok (.invokevirtual 112, 3) := by decide +kernel
theorem dX9_line_8 : decode cX9_line 8 = .ok (.ifCond .ne 6, 3) := by decide +kernel
theorem dX9_line_11 : decode cX9_line 11 = .ok (.ldc 89, 2) := by decide +kernel
theorem dX9_line_13 : decode cX9_line 13 = .ok (.ireturn, 1) := by decide +kernel
theorem dX9_line_14 : decode cX9_line 14 = .ok (.iload_n 2, 1) := by decide +kernel
theorem dX9_line_15 : decode cX9_line 15 = .ok (.tableswitch 111 0 6 #[41, 51, 61, 71, 81, 91, 101], 41) := by decide +kernel
theorem dX9_line_56 : decode cX9_line 56 = .ok (.aload_n 0, 1) := by decide +kernel
theorem dX9_line_57 : decode cX9_line 57 = .ok (.getfield 42, 3) := by decide +kernel
theorem dX9_line_60 : decode cX9_line 60 = .ok (.getfield 115, 3) := by decide +kernel
theorem dX9_line_63 : decode cX9_line 63 = .ok (.iload_n 1, 1) := by decide +kernel
theorem dX9_line_64 : decode cX9_line 64 = .ok (.iaload, 1) := by decide +kernel
theorem dX9_line_65 : decode cX9_line 65 = .ok (.ireturn, 1) := by decide +kernel
theorem dX9_line_66 : decode cX9_line 66 = .ok (.aload_n 0, 1) := by decide +kernel
theorem dX9_line_67 : decode cX9_line 67 = .ok (.getfield 42, 3) := by decide +kernel
theorem dX9_line_70 : decode cX9_line 70 = .ok (.getfield 118, 3) := by decide +kernel
theorem dX9_line_73 : decode cX9_line 73 = .ok (.iload_n 1, 1) := by decide +kernel
theorem dX9_line_74 : decode cX9_line 74 = .ok (.iaload, 1) := by decide +kernel
theorem dX9_line_75 : decode cX9_line 75 = .ok (.ireturn, 1) := by decide +kernel
theorem dX9_line_76 : decode cX9_line 76 = .ok (.aload_n 0, 1) := by decide +kernel
theorem dX9_line_77 : decode cX9_line 77 = .ok (.getfield 42, 3) := by decide +kernel
theorem dX9_line_80 : decode cX9_line 80 = .ok (.getfield 121, 3) := by decide +kernel
theorem dX9_line_83 : decode cX9_line 83 = .ok (.iload_n 1, 1) := by decide +kernel
theorem dX9_line_84 : decode cX9_line 84 = .ok (.iaload, 1) := by decide +kernel
theorem dX9_line_85 : decode cX9_line 85 = .ok (.ireturn, 1) := by decide +kernel
theorem dX9_line_86 : decode cX9_line 86 = .ok (.aload_n 0, 1) := by decide +kernel
theorem dX9_line_87 : decode cX9_line 87 = .ok (.getfield 42, 3) := by decide +kernel
theorem dX9_line_90 : decode cX9_line 90 = .ok (.getfield 124, 3) := by decide +kernel
theorem dX9_line_93 : decode cX9_line 93 = .ok (.iload_n 1, 1) := by decide +kernel
theorem dX9_line_94 : decode cX9_line 94 = .ok (.iaload, 1) := by decide +kernel
theorem dX9_line_95 : decode cX9_line 95 = .ok (.ireturn, 1) := by decide +kernel
theorem dX9_line_96 : decode cX9_line 96 = .ok (.aload_n 0, 1) := by decide +kernel
theorem dX9_line_97 : decode cX9_line 97 = .ok (.getfield 42, 3) := by decide +kernel
theorem dX9_line_100 : decode cX9_line 100 = .ok (.getfield 127, 3) := by decide +kernel
theorem dX9_line_103 : decode cX9_line 103 = .ok (.iload_n 1, 1) := by decide +kernel
theorem dX9_line_104 : decode cX9_line 104 = .ok (.iaload, 1) := by decide +kernel
theorem dX9_line_105 : decode cX9_line 105 = .ok (.ireturn, 1) := by decide +kernel
theorem dX9_line_106 : decode cX9_line 106 = .ok (.aload_n 0, 1) := by decide +kernel
theorem dX9_line_107 : decode cX9_line 107 = .ok (.getfield 42, 3) := by decide +kernel
theorem dX9_line_110 : decode cX9_line 110 = .ok (.getfield 130, 3) := by decide +kernel
theorem dX9_line_113 : decode cX9_line 113 = .ok (.iload_n 1, 1) := by decide +kernel
theorem dX9_line_114 : decode cX9_line 114 = .ok (.iaload, 1) := by decide +kernel
theorem dX9_line_115 : decode cX9_line 115 = .ok (.ireturn, 1) := by decide +kernel
theorem dX9_line_116 : decode cX9_line 116 = .ok (.aload_n 0, 1) := by decide +kernel
theorem dX9_line_117 : decode cX9_line 117 = .ok (.getfield 42, 3) := by decide +kernel
theorem dX9_line_120 : decode cX9_line 120 = .ok (.getfield 133, 3) := by decide +kernel
theorem dX9_line_123 : decode cX9_line 123 = .ok (.iload_n 1, 1) := by decide +kernel
theorem dX9_line_124 : decode cX9_line 124 = .ok (.iaload, 1) := by decide +kernel
theorem dX9_line_125 : decode cX9_line 125 = .ok (.ireturn, 1) := by decide +kernel
theorem dX9_line_126 : decode cX9_line 126 = .ok (.ldc 89, 2) := by decide +kernel
theorem dX9_line_128 : decode cX9_line 128 = .ok (.ireturn, 1) := by decide +kernel
set_option maxRecDepth 20000 in
theorem ggX9_isOf_X2_has : GoodIn wsX9_isOf wsX2_has := goodIn_r _ [7, 8, 9, 10, 11, 26, 27, 28, 29, 30, 31, 32, 33, 34] (by decide +kernel) (by decide +kernel)
set_option maxRecDepth 20000 in
theorem gX9_isOf_X2_has : GoodIn wsX9_isOf (wsV RX9 112 RX2 yX2_has wsX2_has) := goodIn_app (goodIn_of _ (by decide +kernel)) ggX9_isOf_X2_has
set_option maxRecDepth 20000 in
theorem ggX9_isOf_X9_isWithin : GoodIn wsX9_isOf wsX9_isWithin := goodIn_r _ [11] (by decide +kernel) (by decide +kernel)
set_option maxRecDepth 20000 in
theorem gX9_isOf_X9_isWithin : GoodIn wsX9_isOf (va_wsS RX9 80 yX9_isWithin wsX9_isWithin) := goodIn_app (goodIn_of _ (by decide +kernel)) ggX9_isOf_X9_isWithin
set_option maxRecDepth 20000 in
theorem ggX9_isOf_X9_isKindOf : GoodIn wsX9_isOf wsX9_isKindOf := goodIn_r _ [15] (by decide +kernel) (by decide +kernel)
set_option maxRecDepth 20000 in
theorem gX9_isOf_X9_isKindOf : GoodIn wsX9_isOf (va_wsS RX9 136 yX9_isKindOf wsX9_isKindOf) := goodIn_app (goodIn_of _ (by decide +kernel)) ggX9_isOf_X9_isKindOf
theorem dX9_isOf_0 : decode cX9_isOf 0 = .ok (.aload_n 0, 1) := by decide +kernel
theorem dX9_isOf_1 : decode cX9_isOf 1 = .ok (.getfield 42, 3) := by decide +kernel
theorem dX9_isOf_4 : decode cX9_isOf 4 = .ok (.iload_n 1, 1) := by decide +kernel
theorem dX9_isOf_5 : decode cX9_isOf 5 = .ok (.invokevirtual 112, 3) := by decide +kernel
theorem dX9_isOf_8 : decode cX9_isOf 8 = .ok (.ifCond .eq 13, 3) := by decide +kernel
theorem dX9_isOf_11 : decode cX9_isOf 11 = .ok (.iload_n 2, 1) := by decide +kernel
theorem dX9_isOf_12 : decode cX9_isOf 12 = .ok (.iconst 0, 1) := by decide +kernel
theorem dX9_isOf_13 : decode cX9_isOf 13 = .ok (.bipush 7, 2) := by decide +kernel
theorem dX9_isOf_15 : decode cX9_isOf 15 = .ok (.invokestatic 80, 3) := by decide +kernel
theorem dX9_isOf_18 : decode cX9_isOf 18 = .ok (.ifCond .ne 6, 3) := by decide +kernel
theorem dX9_isOf_21 : decode cX9_isOf 21 = .ok (.ldc 89, 2) := by decide +kernel
theorem dX9_isOf_23 : decode cX9_isOf 23 = .ok (.ireturn, 1) := by decide +kernel
theorem dX9_isOf_24 : decode cX9_isOf 24 = .ok (.aload_n 0, 1) := by decide +kernel
theorem dX9_isOf_25 : decode cX9_isOf 25 = .ok (.getfield 42, 3) := by decide +kernel
theorem dX9_isOf_28 : decode cX9_isOf 28 = .ok (.getfield 115, 3) := by decide +kernel
theorem dX9_isOf_31 : decode cX9_isOf 31 = .ok (.iload_n 1, 1) := by decide +kernel
theorem dX9_isOf_32 : decode cX9_isOf 32 = .ok (.iaload, 1) := by decide +kernel
theorem dX9_isOf_33 : decode cX9_isOf 33 = .ok (.iload_n 2, 1) := by decide +kernel
theorem dX9_isOf_34 : decode cX9_isOf 34 = .ok (.invokestatic 136, 3) := by decide +kernel
theorem dX9_isOf_37 : decode cX9_isOf 37 = .ok (.ifCond .eq 7, 3) := by decide +kernel
theorem dX9_isOf_40 : decode cX9_isOf 40 = .ok (.iconst 1, 1) := by decide +kernel
theorem dX9_isOf_41 : decode cX9_isOf 41 = .ok (.goto 4, 3) := by decide +kernel
theorem dX9_isOf_44 : decode cX9_isOf 44 = .ok (.iconst 0, 1) := by decide +kernel
theorem dX9_isOf_45 : decode cX9_isOf 45 = .ok (.ireturn, 1) := by decide +kernel
set_option maxRecDepth 20000 in
theorem ggX9_appeal_X2_has : GoodIn wsX9_appeal wsX2_has := goodIn_r _ [10, 11, 12, 13, 14, 48, 49, 50, 51, 52, 53, 54, 55, 56] (by decide +kernel) (by decide +kernel)
set_option maxRecDepth 20000 in
theorem gX9_appeal_X2_has : GoodIn wsX9_appeal (wsV RX9 112 RX2 yX2_has wsX2_has) := goodIn_app (goodIn_of _ (by decide +kernel)) ggX9_appeal_X2_has
set_option maxRecDepth 20000 in
theorem ggX9_appeal_X9_isWithin : GoodIn wsX9_appeal wsX9_isWithin := goodIn_r _ [14] (by decide +kernel) (by decide +kernel)
set_option maxRecDepth 20000 in
theorem gX9_appeal_X9_isWithin : GoodIn wsX9_appeal (va_wsS RX9 80 yX9_isWithin wsX9_isWithin) := goodIn_app (goodIn_of _ (by decide +kernel)) ggX9_appeal_X9_isWithin
set_option maxRecDepth 20000 in
theorem ggX9_appeal_X2_standsOn : GoodIn wsX9_appeal wsX2_standsOn := goodIn_r _ [19, 20, 21, 22, 48, 49, 50, 51, 52, 53, 54, 55, 56] (by decide +kernel) (by decide +kernel)
set_option maxRecDepth 20000 in
theorem gX9_appeal_X2_standsOn : GoodIn wsX9_appeal (wsV RX9 140 RX2 yX2_standsOn wsX2_standsOn) := goodIn_app (goodIn_of _ (by decide +kernel)) ggX9_appeal_X2_standsOn
set_option maxRecDepth 20000 in
theorem ggX9_appeal_X2_addAppeal : GoodIn wsX9_appeal wsX2_addAppeal := goodIn_r _ [26, 21, 22, 48, 49, 50, 51, 52, 53, 54, 55, 56] (by decide +kernel) (by decide +kernel)
set_option maxRecDepth 20000 in
theorem gX9_appeal_X2_addAppeal : GoodIn wsX9_appeal (wsV RX9 144 RX2 yX2_addAppeal wsX2_addAppeal) := goodIn_app (goodIn_of _ (by decide +kernel)) ggX9_appeal_X2_addAppeal
set_option maxRecDepth 20000 in
theorem ggX9_appeal_X0_noteChange : GoodIn wsX9_appeal wsX0_noteChange := goodIn_r _ [31, 32, 33, 34, 45, 46, 47] (by decide +kernel) (by decide +kernel)
set_option maxRecDepth 20000 in
theorem gX9_appeal_X0_noteChange : GoodIn wsX9_appeal (wsV RX9 148 RX0 yX0_noteChange wsX0_noteChange) := goodIn_app (goodIn_of _ (by decide +kernel)) ggX9_appeal_X0_noteChange
theorem dX9_appeal_0 : decode cX9_appeal 0 = .ok (.aload_n 0, 1) := by decide +kernel
theorem dX9_appeal_1 : decode cX9_appeal 1 = .ok (.getfield 42, 3) := by decide +kernel
theorem dX9_appeal_4 : decode cX9_appeal 4 = .ok (.iload_n 1, 1) := by decide +kernel
theorem dX9_appeal_5 : decode cX9_appeal 5 = .ok (.invokevirtual 112, 3) := by decide +kernel
theorem dX9_appeal_8 : decode cX9_appeal 8 = .ok (.ifCond .eq 12, 3) := by decide +kernel
theorem dX9_appeal_11 : decode cX9_appeal 11 = .ok (.iload_n 2, 1) := by decide +kernel
theorem dX9_appeal_12 : decode cX9_appeal 12 = .ok (.iconst 0, 1) := by decide +kernel
theorem dX9_appeal_13 : decode cX9_appeal 13 = .ok (.iconst 1, 1) := by decide +kernel
theorem dX9_appeal_14 : decode cX9_appeal 14 = .ok (.invokestatic 80, 3) := by decide +kernel
theorem dX9_appeal_17 : decode cX9_appeal 17 = .ok (.ifCond .ne 6, 3) := by decide +kernel
theorem dX9_appeal_20 : decode cX9_appeal 20 = .ok (.ldc 89, 2) := by decide +kernel
theorem dX9_appeal_22 : decode cX9_appeal 22 = .ok (.ireturn, 1) := by decide +kernel
theorem dX9_appeal_23 : decode cX9_appeal 23 = .ok (.iload_n 2, 1) := by decide +kernel
theorem dX9_appeal_24 : decode cX9_appeal 24 = .ok (.iconst 1, 1) := by decide +kernel
theorem dX9_appeal_25 : decode cX9_appeal 25 = .ok (.if_icmp .ne 7, 3) := by decide +kernel
theorem dX9_appeal_28 : decode cX9_appeal 28 = .ok (.iconst 1, 1) := by decide +kernel
theorem dX9_appeal_29 : decode cX9_appeal 29 = .ok (.goto 4, 3) := by decide +kernel
theorem dX9_appeal_32 : decode cX9_appeal 32 = .ok (.iconst 0, 1) := by decide +kernel
theorem dX9_appeal_33 : decode cX9_appeal 33 = .ok (.istore_n 3, 1) := by decide +kernel
theorem dX9_appeal_34 : decode cX9_appeal 34 = .ok (.aload_n 0, 1) := by decide +kernel
theorem dX9_appeal_35 : decode cX9_appeal 35 = .ok (.getfield 42, 3) := by decide +kernel
theorem dX9_appeal_38 : decode cX9_appeal 38 = .ok (.iload_n 1, 1) := by decide +kernel
theorem dX9_appeal_39 : decode cX9_appeal 39 = .ok (.aload_n 0, 1) := by decide +kernel
theorem dX9_appeal_40 : decode cX9_appeal 40 = .ok (.getfield 12, 3) := by decide +kernel
theorem dX9_appeal_43 : decode cX9_appeal 43 = .ok (.getfield 84, 3) := by decide +kernel
theorem dX9_appeal_46 : decode cX9_appeal 46 = .ok (.invokevirtual 140, 3) := by decide +kernel
theorem dX9_appeal_49 : decode cX9_appeal 49 = .ok (.iload_n 3, 1) := by decide +kernel
theorem dX9_appeal_50 : decode cX9_appeal 50 = .ok (.if_icmp .eq 6, 3) := by decide +kernel
theorem dX9_appeal_53 : decode cX9_appeal 53 = .ok (.ldc 143, 2) := by decide +kernel
theorem dX9_appeal_55 : decode cX9_appeal 55 = .ok (.ireturn, 1) := by decide +kernel
theorem dX9_appeal_56 : decode cX9_appeal 56 = .ok (.aload_n 0, 1) := by decide +kernel
theorem dX9_appeal_57 : decode cX9_appeal 57 = .ok (.getfield 42, 3) := by decide +kernel
theorem dX9_appeal_60 : decode cX9_appeal 60 = .ok (.getfield 133, 3) := by decide +kernel
theorem dX9_appeal_63 : decode cX9_appeal 63 = .ok (.iload_n 1, 1) := by decide +kernel
theorem dX9_appeal_64 : decode cX9_appeal 64 = .ok (.iaload, 1) := by decide +kernel
theorem dX9_appeal_65 : decode cX9_appeal 65 = .ok (.bipush 8, 2) := by decide +kernel
theorem dX9_appeal_67 : decode cX9_appeal 67 = .ok (.if_icmp .lt 6, 3) := by decide +kernel
theorem dX9_appeal_70 : decode cX9_appeal 70 = .ok (.ldc 103, 2) := by decide +kernel
theorem dX9_appeal_72 : decode cX9_appeal 72 = .ok (.ireturn, 1) := by decide +kernel
theorem dX9_appeal_73 : decode cX9_appeal 73 = .ok (.aload_n 0, 1) := by decide +kernel
theorem dX9_appeal_74 : decode cX9_appeal 74 = .ok (.getfield 42, 3) := by decide +kernel
theorem dX9_appeal_77 : decode cX9_appeal 77 = .ok (.iload_n 1, 1) := by decide +kernel
theorem dX9_appeal_78 : decode cX9_appeal 78 = .ok (.aload_n 0, 1) := by decide +kernel
theorem dX9_appeal_79 : decode cX9_appeal 79 = .ok (.getfield 12, 3) := by decide +kernel
theorem dX9_appeal_82 : decode cX9_appeal 82 = .ok (.getfield 84, 3) := by decide +kernel
theorem dX9_appeal_85 : decode cX9_appeal 85 = .ok (.invokevirtual 144, 3) := by decide +kernel
theorem dX9_appeal_88 : decode cX9_appeal 88 = .ok (.aload_n 0, 1) := by decide +kernel
theorem dX9_appeal_89 : decode cX9_appeal 89 = .ok (.getfield 12, 3) := by decide +kernel
theorem dX9_appeal_92 : decode cX9_appeal 92 = .ok (.invokevirtual 148, 3) := by decide +kernel
theorem dX9_appeal_95 : decode cX9_appeal 95 = .ok (.aload_n 0, 1) := by decide +kernel
theorem dX9_appeal_96 : decode cX9_appeal 96 = .ok (.getfield 42, 3) := by decide +kernel
theorem dX9_appeal_99 : decode cX9_appeal 99 = .ok (.getfield 133, 3) := by decide +kernel
theorem dX9_appeal_102 : decode cX9_appeal 102 = .ok (.iload_n 1, 1) := by decide +kernel
theorem dX9_appeal_103 : decode cX9_appeal 103 = .ok (.iaload, 1) := by decide +kernel
theorem dX9_appeal_104 : decode cX9_appeal 104 = .ok (.ireturn, 1) := by decide +kernel
set_option maxRecDepth 20000 in
theorem ggX9_stands_X2_has : GoodIn wsX9_stands wsX2_has := goodIn_r _ [7, 8, 9, 10, 11, 34, 35, 36, 37, 38, 39, 40, 41, 42] (by decide +kernel) (by decide +kernel)
set_option maxRecDepth 20000 in
theorem gX9_stands_X2_has : GoodIn wsX9_stands (wsV RX9 112 RX2 yX2_has wsX2_has) := goodIn_app (goodIn_of _ (by decide +kernel)) ggX9_stands_X2_has
set_option maxRecDepth 20000 in
theorem ggX9_stands_X9_isDay : GoodIn wsX9_stands wsX9_isDay := goodIn_r _ [14, 15, 16, 9, 10, 11] (by decide +kernel) (by decide +kernel)
set_option maxRecDepth 20000 in
theorem gX9_stands_X9_isDay : GoodIn wsX9_stands (va_wsS RX9 151 yX9_isDay wsX9_isDay) := goodIn_app (goodIn_of _ (by decide +kernel)) ggX9_stands_X9_isDay
set_option maxRecDepth 20000 in
theorem ggX9_stands_X2_standsOn : GoodIn wsX9_stands wsX2_standsOn := goodIn_r _ [20, 21, 22, 23, 34, 35, 36, 37, 38, 39, 40, 41, 42] (by decide +kernel) (by decide +kernel)
set_option maxRecDepth 20000 in
theorem gX9_stands_X2_standsOn : GoodIn wsX9_stands (wsV RX9 140 RX2 yX2_standsOn wsX2_standsOn) := goodIn_app (goodIn_of _ (by decide +kernel)) ggX9_stands_X2_standsOn
theorem dX9_stands_0 : decode cX9_stands 0 = .ok (.aload_n 0, 1) := by decide +kernel
theorem dX9_stands_1 : decode cX9_stands 1 = .ok (.getfield 42, 3) := by decide +kernel
theorem dX9_stands_4 : decode cX9_stands 4 = .ok (.iload_n 1, 1) := by decide +kernel
theorem dX9_stands_5 : decode cX9_stands 5 = .ok (.invokevirtual 112, 3) := by decide +kernel
theorem dX9_stands_8 : decode cX9_stands 8 = .ok (.ifCond .eq 10, 3) := by decide +kernel
theorem dX9_stands_11 : decode cX9_stands 11 = .ok (.iload_n 2, 1) := by decide +kernel
theorem dX9_stands_12 : decode cX9_stands 12 = .ok (.invokestatic 151, 3) := by decide +kernel
theorem dX9_stands_15 : decode cX9_stands 15 = .ok (.ifCond .ne 6, 3) := by decide +kernel
theorem dX9_stands_18 : decode cX9_stands 18 = .ok (.ldc 89, 2) := by decide +kernel
theorem dX9_stands_20 : decode cX9_stands 20 = .ok (.ireturn, 1) := by decide +kernel
theorem dX9_stands_21 : decode cX9_stands 21 = .ok (.aload_n 0, 1) := by decide +kernel
theorem dX9_stands_22 : decode cX9_stands 22 = .ok (.getfield 42, 3) := by decide +kernel
theorem dX9_stands_25 : decode cX9_stands 25 = .ok (.iload_n 1, 1) := by decide +kernel
theorem dX9_stands_26 : decode cX9_stands 26 = .ok (.iload_n 2, 1) := by decide +kernel
theorem dX9_stands_27 : decode cX9_stands 27 = .ok (.invokevirtual 140, 3) := by decide +kernel
theorem dX9_stands_30 : decode cX9_stands 30 = .ok (.ifCond .eq 7, 3) := by decide +kernel
theorem dX9_stands_33 : decode cX9_stands 33 = .ok (.iconst 1, 1) := by decide +kernel
theorem dX9_stands_34 : decode cX9_stands 34 = .ok (.goto 4, 3) := by decide +kernel
theorem dX9_stands_37 : decode cX9_stands 37 = .ok (.iconst 0, 1) := by decide +kernel
theorem dX9_stands_38 : decode cX9_stands 38 = .ok (.ireturn, 1) := by decide +kernel
set_option maxRecDepth 20000 in
theorem ggX9_says_X9_isHouse : GoodIn wsX9_says wsX9_isHouse := goodIn_r _ [8, 9, 10, 7, 11] (by decide +kernel) (by decide +kernel)
set_option maxRecDepth 20000 in
theorem gX9_says_X9_isHouse : GoodIn wsX9_says (va_wsS RX9 154 yX9_isHouse wsX9_isHouse) := goodIn_app (goodIn_of _ (by decide +kernel)) ggX9_says_X9_isHouse
set_option maxRecDepth 20000 in
theorem ggX9_says_X9_isPlot : GoodIn wsX9_says wsX9_isPlot := goodIn_r _ [14, 9, 10, 7, 11] (by decide +kernel) (by decide +kernel)
set_option maxRecDepth 20000 in
theorem gX9_says_X9_isPlot : GoodIn wsX9_says (va_wsS RX9 90 yX9_isPlot wsX9_isPlot) := goodIn_app (goodIn_of _ (by decide +kernel)) ggX9_says_X9_isPlot
set_option maxRecDepth 20000 in
theorem ggX9_says_X8_add : GoodIn wsX9_says wsX8_add := goodIn_r _ [19, 20, 21, 22, 23, 24, 43, 44, 45, 46, 47, 48, 49] (by decide +kernel) (by decide +kernel)
set_option maxRecDepth 20000 in
theorem gX9_says_X8_add : GoodIn wsX9_says (wsV RX9 160 RX8 yX8_add wsX8_add) := goodIn_app (goodIn_of _ (by decide +kernel)) ggX9_says_X8_add
set_option maxRecDepth 20000 in
theorem ggX9_says_X0_noteChange : GoodIn wsX9_says wsX0_noteChange := goodIn_r _ [29, 30, 31, 32, 50, 51, 52] (by decide +kernel) (by decide +kernel)
set_option maxRecDepth 20000 in
theorem gX9_says_X0_noteChange : GoodIn wsX9_says (wsV RX9 148 RX0 yX0_noteChange wsX0_noteChange) := goodIn_app (goodIn_of _ (by decide +kernel)) ggX9_says_X0_noteChange
theorem dX9_says_0 : decode cX9_says 0 = .ok (.iload_n 1, 1) := by decide +kernel
theorem dX9_says_1 : decode cX9_says 1 = .ok (.invokestatic 154, 3) := by decide +kernel
theorem dX9_says_4 : decode cX9_says 4 = .ok (.ifCond .eq 17, 3) := by decide +kernel
theorem dX9_says_7 : decode cX9_says 7 = .ok (.iload_n 2, 1) := by decide +kernel
theorem dX9_says_8 : decode cX9_says 8 = .ok (.invokestatic 90, 3) := by decide +kernel
theorem dX9_says_11 : decode cX9_says 11 = .ok (.ifCond .eq 10, 3) := by decide +kernel
theorem dX9_says_14 : decode cX9_says 14 = .ok (.iload_n 3, 1) := by decide +kernel
theorem dX9_says_15 : decode cX9_says 15 = .ok (.invokestatic 154, 3) := by decide +kernel
theorem dX9_says_18 : decode cX9_says 18 = .ok (.ifCond .ne 6, 3) := by decide +kernel
theorem dX9_says_21 : decode cX9_says 21 = .ok (.ldc 89, 2) := by decide +kernel
theorem dX9_says_23 : decode cX9_says 23 = .ok (.ireturn, 1) := by decide +kernel
theorem dX9_says_24 : decode cX9_says 24 = .ok (.aload_n 0, 1) := by decide +kernel
theorem dX9_says_25 : decode cX9_says 25 = .ok (.getfield 49, 3) := by decide +kernel
theorem dX9_says_28 : decode cX9_says 28 = .ok (.getfield 157, 3) := by decide +kernel
theorem dX9_says_31 : decode cX9_says 31 = .ok (.bipush 40, 2) := by decide +kernel
theorem dX9_says_33 : decode cX9_says 33 = .ok (.if_icmp .lt 6, 3) := by decide +kernel
theorem dX9_says_36 : decode cX9_says 36 = .ok (.ldc 103, 2) := by decide +kernel
theorem dX9_says_38 : decode cX9_says 38 = .ok (.ireturn, 1) := by decide +kernel
theorem dX9_says_39 : decode cX9_says 39 = .ok (.aload_n 0, 1) := by decide +kernel
theorem dX9_says_40 : decode cX9_says 40 = .ok (.getfield 49, 3) := by decide +kernel
theorem dX9_says_43 : decode cX9_says 43 = .ok (.iload_n 1, 1) := by decide +kernel
theorem dX9_says_44 : decode cX9_says 44 = .ok (.iload_n 2, 1) := by decide +kernel
theorem dX9_says_45 : decode cX9_says 45 = .ok (.iload_n 3, 1) := by decide +kernel
theorem dX9_says_46 : decode cX9_says 46 = .ok (.aload_n 0, 1) := by decide +kernel
theorem dX9_says_47 : decode cX9_says 47 = .ok (.getfield 12, 3) := by decide +kernel
theorem dX9_says_50 : decode cX9_says 50 = .ok (.getfield 84, 3) := by decide +kernel
theorem dX9_says_53 : decode cX9_says 53 = .ok (.invokevirtual 160, 3) := by decide +kernel
theorem dX9_says_56 : decode cX9_says 56 = .ok (.aload_n 0, 1) := by decide +kernel
theorem dX9_says_57 : decode cX9_says 57 = .ok (.getfield 12, 3) := by decide +kernel
theorem dX9_says_60 : decode cX9_says 60 = .ok (.invokevirtual 148, 3) := by decide +kernel
theorem dX9_says_63 : decode cX9_says 63 = .ok (.aload_n 0, 1) := by decide +kernel
theorem dX9_says_64 : decode cX9_says 64 = .ok (.getfield 49, 3) := by decide +kernel
theorem dX9_says_67 : decode cX9_says 67 = .ok (.getfield 157, 3) := by decide +kernel
theorem dX9_says_70 : decode cX9_says 70 = .ok (.ireturn, 1) := by decide +kernel
set_option maxRecDepth 20000 in
theorem ggX9_toldOf_X9_isPlot : GoodIn wsX9_toldOf wsX9_isPlot := goodIn_r _ [6, 7, 8, 5, 9] (by decide +kernel) (by decide +kernel)
set_option maxRecDepth 20000 in
theorem gX9_toldOf_X9_isPlot : GoodIn wsX9_toldOf (va_wsS RX9 90 yX9_isPlot wsX9_isPlot) := goodIn_app (goodIn_of _ (by decide +kernel)) ggX9_toldOf_X9_isPlot
set_option maxRecDepth 20000 in
theorem ggX9_toldOf_X9_isDay : GoodIn wsX9_toldOf wsX9_isDay := goodIn_r _ [12, 13, 7, 8, 5, 9] (by decide +kernel) (by decide +kernel)
set_option maxRecDepth 20000 in
theorem gX9_toldOf_X9_isDay : GoodIn wsX9_toldOf (va_wsS RX9 151 yX9_isDay wsX9_isDay) := goodIn_app (goodIn_of _ (by decide +kernel)) ggX9_toldOf_X9_isDay
set_option maxRecDepth 20000 in
theorem ggX9_toldOf_X8_houseTold : GoodIn wsX9_toldOf wsX8_houseTold := goodIn_r _ [18, 19, 20, 21, 22, 23, 17, 24, 25, 26, 27, 28, 29, 30, 31, 32, 33, 34, 35, 36, 37, 38, 49, 50, 51, 52, 53, 54, 55] (by decide +kernel) (by decide +kernel)
set_option maxRecDepth 20000 in
theorem gX9_toldOf_X8_houseTold : GoodIn wsX9_toldOf (wsV RX9 164 RX8 yX8_houseTold wsX8_houseTold) := goodIn_app (goodIn_of _ (by decide +kernel)) ggX9_toldOf_X8_houseTold
theorem dX9_toldOf_0 : decode cX9_toldOf 0 = .ok (.iload_n 1, 1) := by decide +kernel
theorem dX9_toldOf_1 : decode cX9_toldOf 1 = .ok (.invokestatic 90, 3) := by decide +kernel
theorem dX9_toldOf_4 : decode cX9_toldOf 4 = .ok (.ifCond .eq 10, 3) := by decide +kernel
theorem dX9_toldOf_7 : decode cX9_toldOf 7 = .ok (.iload_n 2, 1) := by decide +kernel
theorem dX9_toldOf_8 : decode cX9_toldOf 8 = .ok (.invokestatic 151, 3) := by decide +kernel
theorem dX9_toldOf_11 : decode cX9_toldOf 11 = .ok (.ifCond .ne 6, 3) := by decide +kernel
theorem dX9_toldOf_14 : decode cX9_toldOf 14 = .ok (.ldc 89, 2) := by decide +kernel
theorem dX9_toldOf_16 : decode cX9_toldOf 16 = .ok (.ireturn, 1) := by decide +kernel
theorem dX9_toldOf_17 : decode cX9_toldOf 17 = .ok (.aload_n 0, 1) := by decide +kernel
theorem dX9_toldOf_18 : decode cX9_toldOf 18 = .ok (.getfield 49, 3) := by decide +kernel
theorem dX9_toldOf_21 : decode cX9_toldOf 21 = .ok (.iload_n 1, 1) := by decide +kernel
theorem dX9_toldOf_22 : decode cX9_toldOf 22 = .ok (.iload_n 2, 1) := by decide +kernel
theorem dX9_toldOf_23 : decode cX9_toldOf 23 = .ok (.invokevirtual 164, 3) := by decide +kernel
theorem dX9_toldOf_26 : decode cX9_toldOf 26 = .ok (.ireturn, 1) := by decide +kernel
set_option maxRecDepth 20000 in
theorem ggX9_decree_X9_isItem : GoodIn wsX9_decree wsX9_isItem := goodIn_r _ [9, 10, 11, 8, 12] (by decide +kernel) (by decide +kernel)
set_option maxRecDepth 20000 in
theorem gX9_decree_X9_isItem : GoodIn wsX9_decree (va_wsS RX9 167 yX9_isItem wsX9_isItem) := goodIn_app (goodIn_of _ (by decide +kernel)) ggX9_decree_X9_isItem
set_option maxRecDepth 20000 in
theorem ggX9_decree_X9_isYear : GoodIn wsX9_decree wsX9_isYear := goodIn_r _ [15, 10, 11, 8, 12] (by decide +kernel) (by decide +kernel)
set_option maxRecDepth 20000 in
theorem gX9_decree_X9_isYear : GoodIn wsX9_decree (va_wsS RX9 170 yX9_isYear wsX9_isYear) := goodIn_app (goodIn_of _ (by decide +kernel)) ggX9_decree_X9_isYear
set_option maxRecDepth 20000 in
theorem ggX9_decree_X9_isWithin : GoodIn wsX9_decree wsX9_isWithin := goodIn_r _ [12] (by decide +kernel) (by decide +kernel)
set_option maxRecDepth 20000 in
theorem gX9_decree_X9_isWithin : GoodIn wsX9_decree (va_wsS RX9 80 yX9_isWithin wsX9_isWithin) := goodIn_app (goodIn_of _ (by decide +kernel)) ggX9_decree_X9_isWithin
set_option maxRecDepth 20000 in
theorem ggX9_decree_X1_add : GoodIn wsX9_decree wsX1_add := goodIn_r _ [20, 21, 22, 23, 24, 25, 44, 45, 46, 47, 48] (by decide +kernel) (by decide +kernel)
set_option maxRecDepth 20000 in
theorem gX9_decree_X1_add : GoodIn wsX9_decree (wsV RX9 177 RX1 yX1_add wsX1_add) := goodIn_app (goodIn_of _ (by decide +kernel)) ggX9_decree_X1_add
set_option maxRecDepth 20000 in
theorem ggX9_decree_X0_noteChange : GoodIn wsX9_decree wsX0_noteChange := goodIn_r _ [30, 31, 32, 33, 49, 50, 51] (by decide +kernel) (by decide +kernel)
set_option maxRecDepth 20000 in
theorem gX9_decree_X0_noteChange : GoodIn wsX9_decree (wsV RX9 148 RX0 yX0_noteChange wsX0_noteChange) := goodIn_app (goodIn_of _ (by decide +kernel)) ggX9_decree_X0_noteChange
theorem dX9_decree_0 : decode cX9_decree 0 = .ok (.iload_n 1, 1) := by decide +kernel
theorem dX9_decree_1 : decode cX9_decree 1 = .ok (.invokestatic 167, 3) := by decide +kernel
theorem dX9_decree_4 : decode cX9_decree 4 = .ok (.ifCond .eq 23, 3) := by decide +kernel
theorem dX9_decree_7 : decode cX9_decree 7 = .ok (.iload_n 2, 1) := by decide +kernel
theorem dX9_decree_8 : decode cX9_decree 8 = .ok (.invokestatic 170, 3) := by decide +kernel
theorem dX9_decree_11 : decode cX9_decree 11 = .ok (.ifCond .eq 16, 3) := by decide +kernel
theorem dX9_decree_14 : decode cX9_decree 14 = .ok (.iload_n 3, 1) := by decide +kernel
theorem dX9_decree_15 : decode cX9_decree 15 = .ok (.iconst 0, 1) := by decide +kernel
theorem dX9_decree_16 : decode cX9_decree 16 = .ok (.getstatic 173, 3) := by decide +kernel
theorem dX9_decree_19 : decode cX9_decree 19 = .ok (.iload_n 1, 1) := by decide +kernel
theorem dX9_decree_20 : decode cX9_decree 20 = .ok (.iaload, 1) := by decide +kernel
theorem dX9_decree_21 : decode cX9_decree 21 = .ok (.invokestatic 80, 3) := by decide +kernel
theorem dX9_decree_24 : decode cX9_decree 24 = .ok (.ifCond .ne 6, 3) := by decide +kernel
theorem dX9_decree_27 : decode cX9_decree 27 = .ok (.ldc 89, 2) := by decide +kernel
theorem dX9_decree_29 : decode cX9_decree 29 = .ok (.ireturn, 1) := by decide +kernel
theorem dX9_decree_30 : decode cX9_decree 30 = .ok (.aload_n 0, 1) := by decide +kernel
theorem dX9_decree_31 : decode cX9_decree 31 = .ok (.getfield 56, 3) := by decide +kernel
theorem dX9_decree_34 : decode cX9_decree 34 = .ok (.getfield 176, 3) := by decide +kernel
theorem dX9_decree_37 : decode cX9_decree 37 = .ok (.bipush 40, 2) := by decide +kernel
theorem dX9_decree_39 : decode cX9_decree 39 = .ok (.if_icmp .lt 6, 3) := by decide +kernel
theorem dX9_decree_42 : decode cX9_decree 42 = .ok (.ldc 103, 2) := by decide +kernel
theorem dX9_decree_44 : decode cX9_decree 44 = .ok (.ireturn, 1) := by decide +kernel
theorem dX9_decree_45 : decode cX9_decree 45 = .ok (.aload_n 0, 1) := by decide +kernel
theorem dX9_decree_46 : decode cX9_decree 46 = .ok (.getfield 56, 3) := by decide +kernel
theorem dX9_decree_49 : decode cX9_decree 49 = .ok (.iload_n 1, 1) := by decide +kernel
theorem dX9_decree_50 : decode cX9_decree 50 = .ok (.iload_n 2, 1) := by decide +kernel
theorem dX9_decree_51 : decode cX9_decree 51 = .ok (.iload_n 3, 1) := by decide +kernel
theorem dX9_decree_52 : decode cX9_decree 52 = .ok (.aload_n 0, 1) := by decide +kernel
theorem dX9_decree_53 : decode cX9_decree 53 = .ok (.getfield 12, 3) := by decide +kernel
theorem dX9_decree_56 : decode cX9_decree 56 = .ok (.getfield 84, 3) := by decide +kernel
theorem dX9_decree_59 : decode cX9_decree 59 = .ok (.invokevirtual 177, 3) := by decide +kernel
theorem dX9_decree_62 : decode cX9_decree 62 = .ok (.aload_n 0, 1) := by decide +kernel
theorem dX9_decree_63 : decode cX9_decree 63 = .ok (.getfield 12, 3) := by decide +kernel
theorem dX9_decree_66 : decode cX9_decree 66 = .ok (.invokevirtual 148, 3) := by decide +kernel
theorem dX9_decree_69 : decode cX9_decree 69 = .ok (.aload_n 0, 1) := by decide +kernel
theorem dX9_decree_70 : decode cX9_decree 70 = .ok (.getfield 56, 3) := by decide +kernel
theorem dX9_decree_73 : decode cX9_decree 73 = .ok (.getfield 176, 3) := by decide +kernel
theorem dX9_decree_76 : decode cX9_decree 76 = .ok (.ireturn, 1) := by decide +kernel
set_option maxRecDepth 20000 in
theorem ggX9_holds_X9_isItem : GoodIn wsX9_holds wsX9_isItem := goodIn_r _ [6, 7, 8, 5, 9] (by decide +kernel) (by decide +kernel)
set_option maxRecDepth 20000 in
theorem gX9_holds_X9_isItem : GoodIn wsX9_holds (va_wsS RX9 167 yX9_isItem wsX9_isItem) := goodIn_app (goodIn_of _ (by decide +kernel)) ggX9_holds_X9_isItem
set_option maxRecDepth 20000 in
theorem ggX9_holds_X9_isYear : GoodIn wsX9_holds wsX9_isYear := goodIn_r _ [12, 7, 8, 5, 9] (by decide +kernel) (by decide +kernel)
set_option maxRecDepth 20000 in
theorem gX9_holds_X9_isYear : GoodIn wsX9_holds (va_wsS RX9 170 yX9_isYear wsX9_isYear) := goodIn_app (goodIn_of _ (by decide +kernel)) ggX9_holds_X9_isYear
set_option maxRecDepth 20000 in
theorem ggX9_holds_X9_isDay : GoodIn wsX9_holds wsX9_isDay := goodIn_r _ [15, 16, 7, 8, 5, 9] (by decide +kernel) (by decide +kernel)
set_option maxRecDepth 20000 in
theorem gX9_holds_X9_isDay : GoodIn wsX9_holds (va_wsS RX9 151 yX9_isDay wsX9_isDay) := goodIn_app (goodIn_of _ (by decide +kernel)) ggX9_holds_X9_isDay
set_option maxRecDepth 20000 in
theorem ggX9_holds_X1_valueHeld : GoodIn wsX9_holds wsX1_valueHeld := goodIn_r _ [21, 22, 23, 24, 25, 26, 8, 5, 9, 37, 38, 39, 40, 41] (by decide +kernel) (by decide +kernel)
set_option maxRecDepth 20000 in
theorem gX9_holds_X1_valueHeld : GoodIn wsX9_holds (wsV RX9 178 RX1 yX1_valueHeld wsX1_valueHeld) := goodIn_app (goodIn_of _ (by decide +kernel)) ggX9_holds_X1_valueHeld
theorem dX9_holds_0 : decode cX9_holds 0 = .ok (.iload_n 1, 1) := by decide +kernel
theorem dX9_holds_1 : decode cX9_holds 1 = .ok (.invokestatic 167, 3) := by decide +kernel
theorem dX9_holds_4 : decode cX9_holds 4 = .ok (.ifCond .eq 17, 3) := by decide +kernel
theorem dX9_holds_7 : decode cX9_holds 7 = .ok (.iload_n 2, 1) := by decide +kernel
theorem dX9_holds_8 : decode cX9_holds 8 = .ok (.invokestatic 170, 3) := by decide +kernel
theorem dX9_holds_11 : decode cX9_holds 11 = .ok (.ifCond .eq 10, 3) := by decide +kernel
theorem dX9_holds_14 : decode cX9_holds 14 = .ok (.iload_n 3, 1) := by decide +kernel
theorem dX9_holds_15 : decode cX9_holds 15 = .ok (.invokestatic 151, 3) := by decide +kernel
theorem dX9_holds_18 : decode cX9_holds 18 = .ok (.ifCond .ne 6, 3) := by decide +kernel
theorem dX9_holds_21 : decode cX9_holds 21 = .ok (.ldc 89, 2) := by decide +kernel
theorem dX9_holds_23 : decode cX9_holds 23 = .ok (.ireturn, 1) := by decide +kernel
theorem dX9_holds_24 : decode cX9_holds 24 = .ok (.aload_n 0, 1) := by decide +kernel
theorem dX9_holds_25 : decode cX9_holds 25 = .ok (.getfield 56, 3) := by decide +kernel
theorem dX9_holds_28 : decode cX9_holds 28 = .ok (.iload_n 1, 1) := by decide +kernel
theorem dX9_holds_29 : decode cX9_holds 29 = .ok (.iload_n 2, 1) := by decide +kernel
theorem dX9_holds_30 : decode cX9_holds 30 = .ok (.iload_n 3, 1) := by decide +kernel
theorem dX9_holds_31 : decode cX9_holds 31 = .ok (.invokevirtual 178, 3) := by decide +kernel
theorem dX9_holds_34 : decode cX9_holds 34 = .ok (.ireturn, 1) := by decide +kernel
set_option maxRecDepth 20000 in
theorem ggX9_match_X2_has : GoodIn wsX9_match wsX2_has := goodIn_r _ [9, 10, 11, 12, 13, 136, 137, 138, 139, 140, 141, 142, 143, 144] (by decide +kernel) (by decide +kernel)
set_option maxRecDepth 20000 in
theorem gX9_match_X2_has : GoodIn wsX9_match (wsV RX9 112 RX2 yX2_has wsX2_has) := goodIn_app (goodIn_of _ (by decide +kernel)) ggX9_match_X2_has
set_option maxRecDepth 20000 in
theorem ggX9_match_X9_isDay : GoodIn wsX9_match wsX9_isDay := goodIn_r _ [16, 17, 18, 11, 12, 13] (by decide +kernel) (by decide +kernel)
set_option maxRecDepth 20000 in
theorem gX9_match_X9_isDay : GoodIn wsX9_match (va_wsS RX9 151 yX9_isDay wsX9_isDay) := goodIn_app (goodIn_of _ (by decide +kernel)) ggX9_match_X9_isDay
set_option maxRecDepth 20000 in
theorem ggX9_match_X9_isKindOf : GoodIn wsX9_match wsX9_isKindOf := goodIn_r _ [21] (by decide +kernel) (by decide +kernel)
set_option maxRecDepth 20000 in
theorem gX9_match_X9_isKindOf : GoodIn wsX9_match (va_wsS RX9 136 yX9_isKindOf wsX9_isKindOf) := goodIn_app (goodIn_of _ (by decide +kernel)) ggX9_match_X9_isKindOf
set_option maxRecDepth 20000 in
theorem ggX9_match_X6_reckon : GoodIn wsX9_match wsX6_reckon := goodIn_r _ [26, 27, 28, 29, 30, 31, 32, 33, 25, 34, 35, 36, 37, 38, 39, 40, 41, 8, 42, 43, 44, 45, 46, 47, 48, 49, 50, 51, 52, 53, 54, 55, 56, 57, 58, 59, 60, 61, 62, 63, 64, 65, 66, 67, 68, 69, 70, 71, 72, 73, 74, 75, 76, 77, 78, 79, 80, 11, 12, 13, 81, 82, 83, 84, 85, 86, 87, 88, 89, 90, 91, 92, 93, 94, 95, 96, 97, 98, 99, 100, 101, 102, 103, 104, 105, 106, 107, 108, 109, 110, 111, 112, 18, 113, 114, 115, 116, 117, 118, 119, 120, 121, 122, 123, 124, 125, 145, 146, 147, 148, 149, 150, 151, 152, 153, 154, 136, 137, 138, 139, 140, 141, 142, 143, 144, 155, 156, 157, 158, 159, 160, 161, 162, 163, 164, 165, 166, 167, 168] (by decide +kernel) (by decide +kernel)
set_option maxRecDepth 20000 in
theorem gX9_match_X6_reckon : GoodIn wsX9_match (wsV RX9 182 RX6 yX6_reckon wsX6_reckon) := goodIn_app (goodIn_of _ (by decide +kernel)) ggX9_match_X6_reckon
theorem dX9_match_0 : decode cX9_match 0 = .ok (.aload_n 0, 1) := by decide +kernel
theorem dX9_match_1 : decode cX9_match 1 = .ok (.getfield 42, 3) := by decide +kernel
theorem dX9_match_4 : decode cX9_match 4 = .ok (.iload_n 1, 1) := by decide +kernel
theorem dX9_match_5 : decode cX9_match 5 = .ok (.invokevirtual 112, 3) := by decide +kernel
theorem dX9_match_8 : decode cX9_match 8 = .ok (.ifCond .eq 10, 3) := by decide +kernel
theorem dX9_match_11 : decode cX9_match 11 = .ok (.iload_n 2, 1) := by decide +kernel
theorem dX9_match_12 : decode cX9_match 12 = .ok (.invokestatic 151, 3) := by decide +kernel
theorem dX9_match_15 : decode cX9_match 15 = .ok (.ifCond .ne 6, 3) := by decide +kernel
theorem dX9_match_18 : decode cX9_match 18 = .ok (.ldc 89, 2) := by decide +kernel
theorem dX9_match_20 : decode cX9_match 20 = .ok (.ireturn, 1) := by decide +kernel
theorem dX9_match_21 : decode cX9_match 21 = .ok (.aload_n 0, 1) := by decide +kernel
theorem dX9_match_22 : decode cX9_match 22 = .ok (.getfield 42, 3) := by decide +kernel
theorem dX9_match_25 : decode cX9_match 25 = .ok (.getfield 115, 3) := by decide +kernel
theorem dX9_match_28 : decode cX9_match 28 = .ok (.iload_n 1, 1) := by decide +kernel
theorem dX9_match_29 : decode cX9_match 29 = .ok (.iaload, 1) := by decide +kernel
theorem dX9_match_30 : decode cX9_match 30 = .ok (.bipush 6, 2) := by decide +kernel
theorem dX9_match_32 : decode cX9_match 32 = .ok (.invokestatic 136, 3) := by decide +kernel
theorem dX9_match_35 : decode cX9_match 35 = .ok (.ifCond .ne 6, 3) := by decide +kernel
theorem dX9_match_38 : decode cX9_match 38 = .ok (.ldc 143, 2) := by decide +kernel
theorem dX9_match_40 : decode cX9_match 40 = .ok (.ireturn, 1) := by decide +kernel
theorem dX9_match_41 : decode cX9_match 41 = .ok (.aload_n 0, 1) := by decide +kernel
theorem dX9_match_42 : decode cX9_match 42 = .ok (.getfield 65, 3) := by decide +kernel
theorem dX9_match_45 : decode cX9_match 45 = .ok (.aload_n 0, 1) := by decide +kernel
theorem dX9_match_46 : decode cX9_match 46 = .ok (.getfield 42, 3) := by decide +kernel
theorem dX9_match_49 : decode cX9_match 49 = .ok (.getfield 121, 3) := by decide +kernel
theorem dX9_match_52 : decode cX9_match 52 = .ok (.iload_n 1, 1) := by decide +kernel
theorem dX9_match_53 : decode cX9_match 53 = .ok (.iaload, 1) := by decide +kernel
theorem dX9_match_54 : decode cX9_match 54 = .ok (.iload_n 2, 1) := by decide +kernel
theorem dX9_match_55 : decode cX9_match 55 = .ok (.invokevirtual 182, 3) := by decide +kernel
theorem dX9_match_58 : decode cX9_match 58 = .ok (.aload_n 0, 1) := by decide +kernel
theorem dX9_match_59 : decode cX9_match 59 = .ok (.getfield 65, 3) := by decide +kernel
theorem dX9_match_62 : decode cX9_match 62 = .ok (.getfield 185, 3) := by decide +kernel
theorem dX9_match_65 : decode cX9_match 65 = .ok (.iload_n 1, 1) := by decide +kernel
theorem dX9_match_66 : decode cX9_match 66 = .ok (.iaload, 1) := by decide +kernel
theorem dX9_match_67 : decode cX9_match 67 = .ok (.ireturn, 1) := by decide +kernel
set_option maxRecDepth 20000 in
theorem ggX9_quarrel_X2_has : GoodIn wsX9_quarrel wsX2_has := goodIn_r _ [8, 9, 10, 11, 12, 132, 133, 134, 135, 136, 137, 138, 139, 140] (by decide +kernel) (by decide +kernel)
set_option maxRecDepth 20000 in
theorem gX9_quarrel_X2_has : GoodIn wsX9_quarrel (wsV RX9 112 RX2 yX2_has wsX2_has) := goodIn_app (goodIn_of _ (by decide +kernel)) ggX9_quarrel_X2_has
set_option maxRecDepth 20000 in
theorem ggX9_quarrel_X9_isDay : GoodIn wsX9_quarrel wsX9_isDay := goodIn_r _ [15, 16, 17, 10, 11, 12] (by decide +kernel) (by decide +kernel)
set_option maxRecDepth 20000 in
theorem gX9_quarrel_X9_isDay : GoodIn wsX9_quarrel (va_wsS RX9 151 yX9_isDay wsX9_isDay) := goodIn_app (goodIn_of _ (by decide +kernel)) ggX9_quarrel_X9_isDay
set_option maxRecDepth 20000 in
theorem ggX9_quarrel_X6_reckon : GoodIn wsX9_quarrel wsX6_reckon := goodIn_r _ [22, 23, 24, 25, 26, 27, 28, 29, 21, 30, 31, 32, 33, 34, 35, 36, 37, 7, 38, 39, 40, 41, 42, 43, 44, 45, 46, 47, 48, 49, 50, 51, 52, 53, 54, 55, 56, 57, 58, 59, 60, 61, 62, 63, 64, 65, 66, 67, 68, 69, 70, 71, 72, 73, 74, 75, 76, 10, 11, 12, 77, 78, 79, 80, 81, 82, 83, 84, 85, 86, 87, 88, 89, 90, 91, 92, 93, 94, 95, 96, 97, 98, 99, 100, 101, 102, 103, 104, 105, 106, 107, 108, 17, 109, 110, 111, 112, 113, 114, 115, 116, 117, 118, 119, 120, 121, 141, 142, 143, 144, 145, 146, 147, 148, 149, 150, 132, 133, 134, 135, 136, 137, 138, 139, 140, 151, 152, 153, 154, 155, 156, 157, 158, 159, 160, 161, 162, 163, 164] (by decide +kernel) (by decide +kernel)
set_option maxRecDepth 20000 in
theorem gX9_quarrel_X6_reckon : GoodIn wsX9_quarrel (wsV RX9 182 RX6 yX6_reckon wsX6_reckon) := goodIn_app (goodIn_of _ (by decide +kernel)) ggX9_quarrel_X6_reckon
theorem dX9_quarrel_0 : decode cX9_quarrel 0 = .ok (.aload_n 0, 1) := by decide +kernel
theorem dX9_quarrel_1 : decode cX9_quarrel 1 = .ok (.getfield 42, 3) := by decide +kernel
theorem dX9_quarrel_4 : decode cX9_quarrel 4 = .ok (.iload_n 1, 1) := by decide +kernel
theorem dX9_quarrel_5 : decode cX9_quarrel 5 = .ok (.invokevirtual 112, 3) := by decide +kernel
theorem dX9_quarrel_8 : decode cX9_quarrel 8 = .ok (.ifCond .eq 10, 3) := by decide +kernel
theorem dX9_quarrel_11 : decode cX9_quarrel 11 = .ok (.iload_n 2, 1) := by decide +kernel
theorem dX9_quarrel_12 : decode cX9_quarrel 12 = .ok (.invokestatic 151, 3) := by decide +kernel
theorem dX9_quarrel_15 : decode cX9_quarrel 15 = .ok (.ifCond .ne 6, 3) := by decide +kernel
theorem dX9_quarrel_18 : decode cX9_quarrel 18 = .ok (.ldc 89, 2) := by decide +kernel
theorem dX9_quarrel_20 : decode cX9_quarrel 20 = .ok (.ireturn, 1) := by decide +kernel
theorem dX9_quarrel_21 : decode cX9_quarrel 21 = .ok (.aload_n 0, 1) := by decide +kernel
theorem dX9_quarrel_22 : decode cX9_quarrel 22 = .ok (.getfield 65, 3) := by decide +kernel
theorem dX9_quarrel_25 : decode cX9_quarrel 25 = .ok (.aload_n 0, 1) := by decide +kernel
theorem dX9_quarrel_26 : decode cX9_quarrel 26 = .ok (.getfield 42, 3) := by decide +kernel
theorem dX9_quarrel_29 : decode cX9_quarrel 29 = .ok (.getfield 121, 3) := by decide +kernel
theorem dX9_quarrel_32 : decode cX9_quarrel 32 = .ok (.iload_n 1, 1) := by decide +kernel
theorem dX9_quarrel_33 : decode cX9_quarrel 33 = .ok (.iaload, 1) := by decide +kernel
theorem dX9_quarrel_34 : decode cX9_quarrel 34 = .ok (.iload_n 2, 1) := by decide +kernel
theorem dX9_quarrel_35 : decode cX9_quarrel 35 = .ok (.invokevirtual 182, 3) := by decide +kernel
theorem dX9_quarrel_38 : decode cX9_quarrel 38 = .ok (.aload_n 0, 1) := by decide +kernel
theorem dX9_quarrel_39 : decode cX9_quarrel 39 = .ok (.getfield 65, 3) := by decide +kernel
theorem dX9_quarrel_42 : decode cX9_quarrel 42 = .ok (.getfield 188, 3) := by decide +kernel
theorem dX9_quarrel_45 : decode cX9_quarrel 45 = .ok (.iload_n 1, 1) := by decide +kernel
theorem dX9_quarrel_46 : decode cX9_quarrel 46 = .ok (.iaload, 1) := by decide +kernel
theorem dX9_quarrel_47 : decode cX9_quarrel 47 = .ok (.ireturn, 1) := by decide +kernel
set_option maxRecDepth 20000 in
theorem ggX9_quarrels_X9_isYear : GoodIn wsX9_quarrels wsX9_isYear := goodIn_r _ [6, 7, 8, 5, 9] (by decide +kernel) (by decide +kernel)
set_option maxRecDepth 20000 in
theorem gX9_quarrels_X9_isYear : GoodIn wsX9_quarrels (va_wsS RX9 170 yX9_isYear wsX9_isYear) := goodIn_app (goodIn_of _ (by decide +kernel)) ggX9_quarrels_X9_isYear
set_option maxRecDepth 20000 in
theorem ggX9_quarrels_X9_isDay : GoodIn wsX9_quarrels wsX9_isDay := goodIn_r _ [12, 13, 7, 8, 5, 9] (by decide +kernel) (by decide +kernel)
set_option maxRecDepth 20000 in
theorem gX9_quarrels_X9_isDay : GoodIn wsX9_quarrels (va_wsS RX9 151 yX9_isDay wsX9_isDay) := goodIn_app (goodIn_of _ (by decide +kernel)) ggX9_quarrels_X9_isDay
set_option maxRecDepth 20000 in
theorem ggX9_quarrels_X6_reckon : GoodIn wsX9_quarrels wsX6_reckon := goodIn_r _ [18, 19, 20, 21, 22, 23, 24, 25, 17, 26, 27, 28, 29, 30, 31, 32, 33, 34, 35, 36, 37, 38, 39, 40, 41, 42, 43, 44, 45, 46, 47, 48, 49, 50, 51, 52, 53, 54, 55, 56, 57, 58, 59, 60, 61, 62, 63, 64, 65, 66, 67, 68, 69, 70, 71, 72, 73, 8, 5, 9, 74, 75, 76, 77, 78, 79, 80, 81, 82, 83, 84, 85, 86, 87, 88, 89, 90, 91, 92, 93, 94, 95, 96, 97, 98, 99, 100, 101, 102, 103, 104, 105, 7, 106, 107, 108, 109, 110, 111, 112, 113, 114, 115, 116, 117, 118, 133, 134, 135, 136, 137, 138, 139, 140, 141, 142, 143, 144, 145, 146, 147, 148, 149, 150, 151, 152, 153, 154, 155, 156, 157, 158, 159, 160, 161, 162, 163, 164, 165] (by decide +kernel) (by decide +kernel)
set_option maxRecDepth 20000 in
theorem gX9_quarrels_X6_reckon : GoodIn wsX9_quarrels (wsV RX9 182 RX6 yX6_reckon wsX6_reckon) := goodIn_app (goodIn_of _ (by decide +kernel)) ggX9_quarrels_X6_reckon
set_option maxRecDepth 20000 in
theorem ggX9_quarrels_X6_quarrelCount : GoodIn wsX9_quarrels wsX6_quarrelCount := goodIn_r _ [122, 27, 28, 29, 133, 134, 135, 136, 137, 138, 139, 140, 141, 142, 143, 144, 145, 146, 147, 148, 149, 150, 151] (by decide +kernel) (by decide +kernel)
set_option maxRecDepth 20000 in
theorem gX9_quarrels_X6_quarrelCount : GoodIn wsX9_quarrels (wsV RX9 191 RX6 yX6_quarrelCount wsX6_quarrelCount) := goodIn_app (goodIn_of _ (by decide +kernel)) ggX9_quarrels_X6_quarrelCount
theorem dX9_quarrels_0 : decode cX9_quarrels 0 = .ok (.iload_n 1, 1) := by decide +kernel
theorem dX9_quarrels_1 : decode cX9_quarrels 1 = .ok (.invokestatic 170, 3) := by decide +kernel
theorem dX9_quarrels_4 : decode cX9_quarrels 4 = .ok (.ifCond .eq 10, 3) := by decide +kernel
theorem dX9_quarrels_7 : decode cX9_quarrels 7 = .ok (.iload_n 2, 1) := by decide +kernel
theorem dX9_quarrels_8 : decode cX9_quarrels 8 = .ok (.invokestatic 151, 3) := by decide +kernel
theorem dX9_quarrels_11 : decode cX9_quarrels 11 = .ok (.ifCond .ne 6, 3) := by decide +kernel
theorem dX9_quarrels_14 : decode cX9_quarrels 14 = .ok (.ldc 89, 2) := by decide +kernel
theorem dX9_quarrels_16 : decode cX9_quarrels 16 = .ok (.ireturn, 1) := by decide +kernel
theorem dX9_quarrels_17 : decode cX9_quarrels 17 = .ok (.aload_n 0, 1) := by decide +kernel
theorem dX9_quarrels_18 : decode cX9_quarrels 18 = .ok (.getfield 65, 3) := by decide +kernel
theorem dX9_quarrels_21 : decode cX9_quarrels 21 = .ok (.iload_n 1, 1) := by decide +kernel
theorem dX9_quarrels_22 : decode cX9_quarrels 22 = .ok (.iload_n 2, 1) := by decide +kernel
theorem dX9_quarrels_23 : decode cX9_quarrels 23 = .ok (.invokevirtual 182, 3) := by decide +kernel
theorem dX9_quarrels_26 : decode cX9_quarrels 26 = .ok (.aload_n 0, 1) := by decide +kernel
theorem dX9_quarrels_27 : decode cX9_quarrels 27 = .ok (.getfield 65, 3) := by decide +kernel
theorem dX9_quarrels_30 : decode cX9_quarrels 30 = .ok (.invokevirtual 191, 3) := by decide +kernel
theorem dX9_quarrels_33 : decode cX9_quarrels 33 = .ok (.ireturn, 1) := by decide +kernel
set_option maxRecDepth 20000 in
theorem ggX9_worth_X9_isHouse : GoodIn wsX9_worth wsX9_isHouse := goodIn_r _ [5, 6, 7, 4, 8] (by decide +kernel) (by decide +kernel)
set_option maxRecDepth 20000 in
theorem gX9_worth_X9_isHouse : GoodIn wsX9_worth (va_wsS RX9 154 yX9_isHouse wsX9_isHouse) := goodIn_app (goodIn_of _ (by decide +kernel)) ggX9_worth_X9_isHouse
set_option maxRecDepth 20000 in
theorem ggX9_worth_X9_isYear : GoodIn wsX9_worth wsX9_isYear := goodIn_r _ [11, 6, 7, 4, 8] (by decide +kernel) (by decide +kernel)
set_option maxRecDepth 20000 in
theorem gX9_worth_X9_isYear : GoodIn wsX9_worth (va_wsS RX9 170 yX9_isYear wsX9_isYear) := goodIn_app (goodIn_of _ (by decide +kernel)) ggX9_worth_X9_isYear
set_option maxRecDepth 20000 in
theorem ggX9_worth_X9_isDay : GoodIn wsX9_worth wsX9_isDay := goodIn_r _ [14, 15, 6, 7, 4, 8] (by decide +kernel) (by decide +kernel)
set_option maxRecDepth 20000 in
theorem gX9_worth_X9_isDay : GoodIn wsX9_worth (va_wsS RX9 151 yX9_isDay wsX9_isDay) := goodIn_app (goodIn_of _ (by decide +kernel)) ggX9_worth_X9_isDay
set_option maxRecDepth 20000 in
theorem ggX9_worth_X9_worthKnown : GoodIn wsX9_worth wsX9_worthKnown := goodIn_r _ [19, 20, 21, 22, 23, 24, 25, 26, 27, 28, 29, 30, 31, 32, 33, 34, 35, 36, 37, 38, 39, 40, 41, 42, 43, 44, 45, 46, 47, 48, 49, 50, 51, 52, 53, 54, 55, 56, 57, 58, 59, 60, 61, 62, 63, 64, 65, 66, 67, 68, 69, 70, 71, 72, 73, 74, 75, 76, 77, 78, 79, 80, 7, 4, 8, 81, 82, 83, 84, 85, 86, 87, 88, 89, 90, 91, 92, 93, 94, 95, 96, 97, 98, 99, 100, 101, 102, 103, 104, 105, 106, 107, 108, 109, 110, 111, 112, 6, 113, 114, 115, 116, 117, 118, 119, 120, 121, 122, 123, 124, 125, 126, 127, 128, 129, 130, 131, 132, 133, 134, 135, 136, 137, 138, 139, 140, 141, 142, 143, 144, 145, 146, 147, 148, 149, 150, 151, 152, 153, 154, 155, 156, 157, 158, 159, 160, 161, 162, 163, 164, 165, 166, 167, 168] (by decide +kernel) (by decide +kernel)
set_option maxRecDepth 20000 in
theorem gX9_worth_X9_worthKnown : GoodIn wsX9_worth (wsV RX9 195 RX9 yX9_worthKnown wsX9_worthKnown) := goodIn_app (goodIn_of _ (by decide +kernel)) ggX9_worth_X9_worthKnown
theorem dX9_worth_0 : decode cX9_worth 0 = .ok (.iload_n 1, 1) := by decide +kernel
theorem dX9_worth_1 : decode cX9_worth 1 = .ok (.invokestatic 154, 3) := by decide +kernel
theorem dX9_worth_4 : decode cX9_worth 4 = .ok (.ifCond .eq 17, 3) := by decide +kernel
theorem dX9_worth_7 : decode cX9_worth 7 = .ok (.iload_n 2, 1) := by decide +kernel
theorem dX9_worth_8 : decode cX9_worth 8 = .ok (.invokestatic 170, 3) := by decide +kernel
theorem dX9_worth_11 : decode cX9_worth 11 = .ok (.ifCond .eq 10, 3) := by decide +kernel
theorem dX9_worth_14 : decode cX9_worth 14 = .ok (.iload_n 3, 1) := by decide +kernel
theorem dX9_worth_15 : decode cX9_worth 15 = .ok (.invokestatic 151, 3) := by decide +kernel
theorem dX9_worth_18 : decode cX9_worth 18 = .ok (.ifCond .ne 6, 3) := by decide +kernel
theorem dX9_worth_21 : decode cX9_worth 21 = .ok (.ldc 89, 2) := by decide +kernel
theorem dX9_worth_23 : decode cX9_worth 23 = .ok (.ireturn, 1) := by decide +kernel
theorem dX9_worth_24 : decode cX9_worth 24 = .ok (.aload_n 0, 1) := by decide +kernel
theorem dX9_worth_25 : decode cX9_worth 25 = .ok (.iload_n 1, 1) := by decide +kernel
theorem dX9_worth_26 : decode cX9_worth 26 = .ok (.iload_n 2, 1) := by decide +kernel
theorem dX9_worth_27 : decode cX9_worth 27 = .ok (.iload_n 3, 1) := by decide +kernel
theorem dX9_worth_28 : decode cX9_worth 28 = .ok (.invokevirtual 195, 3) := by decide +kernel
theorem dX9_worth_31 : decode cX9_worth 31 = .ok (.ireturn, 1) := by decide +kernel
set_option maxRecDepth 20000 in
theorem ggX9_tax_X9_isHouse : GoodIn wsX9_tax wsX9_isHouse := goodIn_r _ [6, 7, 8, 5, 9] (by decide +kernel) (by decide +kernel)
set_option maxRecDepth 20000 in
theorem gX9_tax_X9_isHouse : GoodIn wsX9_tax (va_wsS RX9 154 yX9_isHouse wsX9_isHouse) := goodIn_app (goodIn_of _ (by decide +kernel)) ggX9_tax_X9_isHouse
set_option maxRecDepth 20000 in
theorem ggX9_tax_X9_isYear : GoodIn wsX9_tax wsX9_isYear := goodIn_r _ [12, 7, 8, 5, 9] (by decide +kernel) (by decide +kernel)
set_option maxRecDepth 20000 in
theorem gX9_tax_X9_isYear : GoodIn wsX9_tax (va_wsS RX9 170 yX9_isYear wsX9_isYear) := goodIn_app (goodIn_of _ (by decide +kernel)) ggX9_tax_X9_isYear
set_option maxRecDepth 20000 in
theorem ggX9_tax_X9_isDay : GoodIn wsX9_tax wsX9_isDay := goodIn_r _ [15, 16, 7, 8, 5, 9] (by decide +kernel) (by decide +kernel)
set_option maxRecDepth 20000 in
theorem gX9_tax_X9_isDay : GoodIn wsX9_tax (va_wsS RX9 151 yX9_isDay wsX9_isDay) := goodIn_app (goodIn_of _ (by decide +kernel)) ggX9_tax_X9_isDay
set_option maxRecDepth 20000 in
theorem ggX9_tax_X6_reckon : GoodIn wsX9_tax wsX6_reckon := goodIn_r _ [21, 22, 23, 24, 25, 26, 27, 28, 20, 29, 30, 31, 32, 33, 34, 35, 36, 37, 38, 39, 40, 41, 42, 43, 44, 45, 46, 47, 48, 49, 50, 51, 52, 53, 54, 55, 56, 57, 58, 59, 60, 61, 62, 63, 64, 65, 66, 67, 68, 69, 70, 71, 72, 73, 74, 75, 76, 8, 5, 9, 77, 78, 79, 80, 81, 82, 83, 84, 85, 86, 87, 88, 89, 90, 91, 92, 93, 94, 95, 96, 97, 98, 99, 100, 101, 102, 103, 104, 105, 106, 107, 108, 7, 109, 110, 111, 112, 113, 114, 115, 116, 117, 118, 119, 120, 121, 137, 138, 139, 140, 141, 142, 143, 144, 145, 146, 147, 148, 149, 150, 151, 152, 153, 154, 155, 156, 157, 158, 159, 160, 161, 162, 163, 164, 165, 166, 167, 168, 169] (by decide +kernel) (by decide +kernel)
set_option maxRecDepth 20000 in
theorem gX9_tax_X6_reckon : GoodIn wsX9_tax (wsV RX9 182 RX6 yX6_reckon wsX6_reckon) := goodIn_app (goodIn_of _ (by decide +kernel)) ggX9_tax_X6_reckon
set_option maxRecDepth 20000 in
theorem ggX9_tax_X6_taxOf : GoodIn wsX9_tax wsX6_taxOf := goodIn_r _ [125, 113, 24, 126, 137, 138, 139, 140, 141, 142, 143, 144, 145, 146] (by decide +kernel) (by decide +kernel)
set_option maxRecDepth 20000 in
theorem gX9_tax_X6_taxOf : GoodIn wsX9_tax (wsV RX9 198 RX6 yX6_taxOf wsX6_taxOf) := goodIn_app (goodIn_of _ (by decide +kernel)) ggX9_tax_X6_taxOf
theorem dX9_tax_0 : decode cX9_tax 0 = .ok (.iload_n 1, 1) := by decide +kernel
theorem dX9_tax_1 : decode cX9_tax 1 = .ok (.invokestatic 154, 3) := by decide +kernel
theorem dX9_tax_4 : decode cX9_tax 4 = .ok (.ifCond .eq 17, 3) := by decide +kernel
theorem dX9_tax_7 : decode cX9_tax 7 = .ok (.iload_n 2, 1) := by decide +kernel
theorem dX9_tax_8 : decode cX9_tax 8 = .ok (.invokestatic 170, 3) := by decide +kernel
theorem dX9_tax_11 : decode cX9_tax 11 = .ok (.ifCond .eq 10, 3) := by decide +kernel
theorem dX9_tax_14 : decode cX9_tax 14 = .ok (.iload_n 3, 1) := by decide +kernel
theorem dX9_tax_15 : decode cX9_tax 15 = .ok (.invokestatic 151, 3) := by decide +kernel
theorem dX9_tax_18 : decode cX9_tax 18 = .ok (.ifCond .ne 6, 3) := by decide +kernel
theorem dX9_tax_21 : decode cX9_tax 21 = .ok (.ldc 89, 2) := by decide +kernel
theorem dX9_tax_23 : decode cX9_tax 23 = .ok (.ireturn, 1) := by decide +kernel
theorem dX9_tax_24 : decode cX9_tax 24 = .ok (.aload_n 0, 1) := by decide +kernel
theorem dX9_tax_25 : decode cX9_tax 25 = .ok (.getfield 65, 3) := by decide +kernel
theorem dX9_tax_28 : decode cX9_tax 28 = .ok (.iload_n 2, 1) := by decide +kernel
theorem dX9_tax_29 : decode cX9_tax 29 = .ok (.iload_n 3, 1) := by decide +kernel
theorem dX9_tax_30 : decode cX9_tax 30 = .ok (.invokevirtual 182, 3) := by decide +kernel
theorem dX9_tax_33 : decode cX9_tax 33 = .ok (.aload_n 0, 1) := by decide +kernel
theorem dX9_tax_34 : decode cX9_tax 34 = .ok (.getfield 65, 3) := by decide +kernel
theorem dX9_tax_37 : decode cX9_tax 37 = .ok (.iload_n 1, 1) := by decide +kernel
theorem dX9_tax_38 : decode cX9_tax 38 = .ok (.invokevirtual 198, 3) := by decide +kernel
theorem dX9_tax_41 : decode cX9_tax 41 = .ok (.ireturn, 1) := by decide +kernel
set_option maxRecDepth 20000 in
theorem ggX9_taxes_X9_isYear : GoodIn wsX9_taxes wsX9_isYear := goodIn_r _ [6, 7, 8, 5, 9] (by decide +kernel) (by decide +kernel)
set_option maxRecDepth 20000 in
theorem gX9_taxes_X9_isYear : GoodIn wsX9_taxes (va_wsS RX9 170 yX9_isYear wsX9_isYear) := goodIn_app (goodIn_of _ (by decide +kernel)) ggX9_taxes_X9_isYear
set_option maxRecDepth 20000 in
theorem ggX9_taxes_X9_isDay : GoodIn wsX9_taxes wsX9_isDay := goodIn_r _ [12, 13, 7, 8, 5, 9] (by decide +kernel) (by decide +kernel)
set_option maxRecDepth 20000 in
theorem gX9_taxes_X9_isDay : GoodIn wsX9_taxes (va_wsS RX9 151 yX9_isDay wsX9_isDay) := goodIn_app (goodIn_of _ (by decide +kernel)) ggX9_taxes_X9_isDay
set_option maxRecDepth 20000 in
theorem ggX9_taxes_X6_reckon : GoodIn wsX9_taxes wsX6_reckon := goodIn_r _ [18, 19, 20, 21, 22, 23, 24, 25, 17, 26, 27, 28, 29, 30, 31, 32, 33, 34, 35, 36, 37, 38, 39, 40, 41, 42, 43, 44, 45, 46, 47, 48, 49, 50, 51, 52, 53, 54, 55, 56, 57, 58, 59, 60, 61, 62, 63, 64, 65, 66, 67, 68, 69, 70, 71, 72, 73, 8, 5, 9, 74, 75, 76, 77, 78, 79, 80, 81, 82, 83, 84, 85, 86, 87, 88, 89, 90, 91, 92, 93, 94, 95, 96, 97, 98, 99, 100, 101, 102, 103, 104, 105, 7, 106, 107, 108, 109, 110, 111, 112, 113, 114, 115, 116, 117, 118, 134, 135, 136, 137, 138, 139, 140, 141, 142, 143, 144, 145, 146, 147, 148, 149, 150, 151, 152, 153, 154, 155, 156, 157, 158, 159, 160, 161, 162, 163, 164, 165, 166] (by decide +kernel) (by decide +kernel)
set_option maxRecDepth 20000 in
theorem gX9_taxes_X6_reckon : GoodIn wsX9_taxes (wsV RX9 182 RX6 yX6_reckon wsX6_reckon) := goodIn_app (goodIn_of _ (by decide +kernel)) ggX9_taxes_X6_reckon
set_option maxRecDepth 20000 in
theorem ggX9_taxes_X6_taxOf : GoodIn wsX9_taxes wsX6_taxOf := goodIn_r _ [122, 110, 21, 123, 134, 135, 136, 137, 138, 139, 140, 141, 142, 143] (by decide +kernel) (by decide +kernel)
set_option maxRecDepth 20000 in
theorem gX9_taxes_X6_taxOf : GoodIn wsX9_taxes (wsV RX9 198 RX6 yX6_taxOf wsX6_taxOf) := goodIn_app (goodIn_of _ (by decide +kernel)) ggX9_taxes_X6_taxOf
theorem dX9_taxes_0 : decode cX9_taxes 0 = .ok (.iload_n 1, 1) := by decide +kernel
theorem dX9_taxes_1 : decode cX9_taxes 1 = .ok (.invokestatic 170, 3) := by decide +kernel
theorem dX9_taxes_4 : decode cX9_taxes 4 = .ok (.ifCond .eq 10, 3) := by decide +kernel
theorem dX9_taxes_7 : decode cX9_taxes 7 = .ok (.iload_n 2, 1) := by decide +kernel
theorem dX9_taxes_8 : decode cX9_taxes 8 = .ok (.invokestatic 151, 3) := by decide +kernel
theorem dX9_taxes_11 : decode cX9_taxes 11 = .ok (.ifCond .ne 6, 3) := by decide +kernel
theorem dX9_taxes_14 : decode cX9_taxes 14 = .ok (.ldc 89, 2) := by decide +kernel
theorem dX9_taxes_16 : decode cX9_taxes 16 = .ok (.ireturn, 1) := by decide +kernel
theorem dX9_taxes_17 : decode cX9_taxes 17 = .ok (.aload_n 0, 1) := by decide +kernel
theorem dX9_taxes_18 : decode cX9_taxes 18 = .ok (.getfield 65, 3) := by decide +kernel
theorem dX9_taxes_21 : decode cX9_taxes 21 = .ok (.iload_n 1, 1) := by decide +kernel
theorem dX9_taxes_22 : decode cX9_taxes 22 = .ok (.iload_n 2, 1) := by decide +kernel
theorem dX9_taxes_23 : decode cX9_taxes 23 = .ok (.invokevirtual 182, 3) := by decide +kernel
theorem dX9_taxes_26 : decode cX9_taxes 26 = .ok (.iconst 0, 1) := by decide +kernel
theorem dX9_taxes_27 : decode cX9_taxes 27 = .ok (.istore_n 3, 1) := by decide +kernel
theorem dX9_taxes_28 : decode cX9_taxes 28 = .ok (.iconst 0, 1) := by decide +kernel
theorem dX9_taxes_29 : decode cX9_taxes 29 = .ok (.istore 4, 2) := by decide +kernel
theorem dX9_taxes_31 : decode cX9_taxes 31 = .ok (.iload 4, 2) := by decide +kernel
theorem dX9_taxes_33 : decode cX9_taxes 33 = .ok (.bipush 10, 2) := by decide +kernel
theorem dX9_taxes_35 : decode cX9_taxes 35 = .ok (.if_icmp .ge 21, 3) := by decide +kernel
theorem dX9_taxes_38 : decode cX9_taxes 38 = .ok (.iload_n 3, 1) := by decide +kernel
theorem dX9_taxes_39 : decode cX9_taxes 39 = .ok (.aload_n 0, 1) := by decide +kernel
theorem dX9_taxes_40 : decode cX9_taxes 40 = .ok (.getfield 65, 3) := by decide +kernel
theorem dX9_taxes_43 : decode cX9_taxes 43 = .ok (.iload 4, 2) := by decide +kernel
theorem dX9_taxes_45 : decode cX9_taxes 45 = .ok (.invokevirtual 198, 3) := by decide +kernel
theorem dX9_taxes_48 : decode cX9_taxes 48 = .ok (.iadd, 1) := by decide +kernel
theorem dX9_taxes_49 : decode cX9_taxes 49 = .ok (.istore_n 3, 1) := by decide +kernel
theorem dX9_taxes_50 : decode cX9_taxes 50 = .ok (.iinc 4 1, 3) := by decide +kernel
theorem dX9_taxes_53 : decode cX9_taxes 53 = .ok (.goto (-22), 3) := by decide +kernel
theorem dX9_taxes_56 : decode cX9_taxes 56 = .ok (.iload_n 3, 1) := by decide +kernel
theorem dX9_taxes_57 : decode cX9_taxes 57 = .ok (.ireturn, 1) := by decide +kernel
set_option maxRecDepth 20000 in
theorem ggX9_since_X9_isHouse : GoodIn wsX9_since wsX9_isHouse := goodIn_r _ [6, 7, 8, 5, 9] (by decide +kernel) (by decide +kernel)
set_option maxRecDepth 20000 in
theorem gX9_since_X9_isHouse : GoodIn wsX9_since (va_wsS RX9 154 yX9_isHouse wsX9_isHouse) := goodIn_app (goodIn_of _ (by decide +kernel)) ggX9_since_X9_isHouse
set_option maxRecDepth 20000 in
theorem ggX9_since_X9_isYear : GoodIn wsX9_since wsX9_isYear := goodIn_r _ [12, 7, 8, 5, 9] (by decide +kernel) (by decide +kernel)
set_option maxRecDepth 20000 in
theorem gX9_since_X9_isYear : GoodIn wsX9_since (va_wsS RX9 170 yX9_isYear wsX9_isYear) := goodIn_app (goodIn_of _ (by decide +kernel)) ggX9_since_X9_isYear
set_option maxRecDepth 20000 in
theorem ggX9_since_X9_worthKnown : GoodIn wsX9_since wsX9_worthKnown := goodIn_r _ [16, 17, 18, 19, 20, 21, 22, 23, 24, 25, 26, 27, 28, 29, 30, 31, 32, 33, 34, 35, 36, 37, 38, 39, 40, 41, 42, 43, 44, 45, 46, 47, 48, 49, 50, 51, 52, 53, 54, 55, 56, 57, 58, 59, 60, 61, 62, 63, 64, 65, 66, 67, 68, 69, 70, 71, 72, 73, 74, 75, 76, 77, 8, 5, 9, 78, 79, 80, 81, 82, 83, 84, 85, 86, 87, 88, 89, 90, 91, 92, 93, 94, 95, 96, 97, 98, 99, 100, 101, 102, 103, 104, 105, 106, 107, 108, 109, 7, 110, 111, 112, 113, 114, 115, 116, 117, 118, 119, 120, 121, 122, 123, 124, 125, 126, 127, 128, 129, 130, 131, 132, 136, 137, 138, 139, 140, 141, 142, 143, 144, 145, 146, 147, 148, 149, 150, 151, 152, 153, 154, 155, 156, 157, 158, 159, 160, 161, 162, 163, 164, 165, 166, 167, 168] (by decide +kernel) (by decide +kernel)
set_option maxRecDepth 20000 in
theorem gX9_since_X9_worthKnown : GoodIn wsX9_since (wsV RX9 195 RX9 yX9_worthKnown wsX9_worthKnown) := goodIn_app (goodIn_of _ (by decide +kernel)) ggX9_since_X9_worthKnown
theorem dX9_since_0 : decode cX9_since 0 = .ok (.iload_n 1, 1) := by decide +kernel
theorem dX9_since_1 : decode cX9_since 1 = .ok (.invokestatic 154, 3) := by decide +kernel
theorem dX9_since_4 : decode cX9_since 4 = .ok (.ifCond .eq 10, 3) := by decide +kernel
theorem dX9_since_7 : decode cX9_since 7 = .ok (.iload_n 2, 1) := by decide +kernel
theorem dX9_since_8 : decode cX9_since 8 = .ok (.invokestatic 170, 3) := by decide +kernel
theorem dX9_since_11 : decode cX9_since 11 = .ok (.ifCond .ne 6, 3) := by decide +kernel
theorem dX9_since_14 : decode cX9_since 14 = .ok (.ldc 89, 2) := by decide +kernel
theorem dX9_since_16 : decode cX9_since 16 = .ok (.ireturn, 1) := by decide +kernel
theorem dX9_since_17 : decode cX9_since 17 = .ok (.aload_n 0, 1) := by decide +kernel
theorem dX9_since_18 : decode cX9_since 18 = .ok (.iload_n 1, 1) := by decide +kernel
theorem dX9_since_19 : decode cX9_since 19 = .ok (.iload_n 2, 1) := by decide +kernel
theorem dX9_since_20 : decode cX9_since 20 = .ok (.aload_n 0, 1) := by decide +kernel
theorem dX9_since_21 : decode cX9_since 21 = .ok (.getfield 12, 3) := by decide +kernel
theorem dX9_since_24 : decode cX9_since 24 = .ok (.getfield 84, 3) := by decide +kernel
theorem dX9_since_27 : decode cX9_since 27 = .ok (.invokevirtual 195, 3) := by decide +kernel
theorem dX9_since_30 : decode cX9_since 30 = .ok (.istore_n 3, 1) := by decide +kernel
theorem dX9_since_31 : decode cX9_since 31 = .ok (.aload_n 0, 1) := by decide +kernel
theorem dX9_since_32 : decode cX9_since 32 = .ok (.getfield 12, 3) := by decide +kernel
theorem dX9_since_35 : decode cX9_since 35 = .ok (.getfield 202, 3) := by decide +kernel
theorem dX9_since_38 : decode cX9_since 38 = .ok (.iconst 1, 1) := by decide +kernel
theorem dX9_since_39 : decode cX9_since 39 = .ok (.isub, 1) := by decide +kernel
theorem dX9_since_40 : decode cX9_since 40 = .ok (.istore 4, 2) := by decide +kernel
theorem dX9_since_42 : decode cX9_since 42 = .ok (.iload 4, 2) := by decide +kernel
theorem dX9_since_44 : decode cX9_since 44 = .ok (.ifCond .lt 43, 3) := by decide +kernel
theorem dX9_since_47 : decode cX9_since 47 = .ok (.aload_n 0, 1) := by decide +kernel
theorem dX9_since_48 : decode cX9_since 48 = .ok (.getfield 12, 3) := by decide +kernel
theorem dX9_since_51 : decode cX9_since 51 = .ok (.getfield 205, 3) := by decide +kernel
theorem dX9_since_54 : decode cX9_since 54 = .ok (.iload 4, 2) := by decide +kernel
theorem dX9_since_56 : decode cX9_since 56 = .ok (.iaload, 1) := by decide +kernel
theorem dX9_since_57 : decode cX9_since 57 = .ok (.istore 5, 2) := by decide +kernel
theorem dX9_since_59 : decode cX9_since 59 = .ok (.iload 5, 2) := by decide +kernel
theorem dX9_since_61 : decode cX9_since 61 = .ok (.ifCond .le 20, 3) := by decide +kernel
theorem dX9_since_64 : decode cX9_since 64 = .ok (.aload_n 0, 1) := by decide +kernel
theorem dX9_since_65 : decode cX9_since 65 = .ok (.iload_n 1, 1) := by decide +kernel
theorem dX9_since_66 : decode cX9_since 66 = .ok (.iload_n 2, 1) := by decide +kernel
theorem dX9_since_67 : decode cX9_since 67 = .ok (.iload 5, 2) := by decide +kernel
theorem dX9_since_69 : decode cX9_since 69 = .ok (.iconst 1, 1) := by decide +kernel
theorem dX9_since_70 : decode cX9_since 70 = .ok (.isub, 1) := by decide +kernel
theorem dX9_since_71 : decode cX9_since 71 = .ok (.invokevirtual 195, 3) := by decide +kernel
theorem dX9_since_74 : decode cX9_since 74 = .ok (.iload_n 3, 1) := by decide +kernel
theorem dX9_since_75 : decode cX9_since 75 = .ok (.if_icmp .eq 6, 3) := by decide +kernel
theorem dX9_since_78 : decode cX9_since 78 = .ok (.iload 5, 2) := by decide +kernel
theorem dX9_since_80 : decode cX9_since 80 = .ok (.ireturn, 1) := by decide +kernel
theorem dX9_since_81 : decode cX9_since 81 = .ok (.iinc 4 (-1), 3) := by decide +kernel
theorem dX9_since_84 : decode cX9_since 84 = .ok (.goto (-42), 3) := by decide +kernel
theorem dX9_since_87 : decode cX9_since 87 = .ok (.iconst 0, 1) := by decide +kernel
theorem dX9_since_88 : decode cX9_since 88 = .ok (.ireturn, 1) := by decide +kernel
set_option maxRecDepth 20000 in
theorem ggX9_differs_X9_isYear : GoodIn wsX9_differs wsX9_isYear := goodIn_r _ [12, 13, 14, 11, 15] (by decide +kernel) (by decide +kernel)
set_option maxRecDepth 20000 in
theorem gX9_differs_X9_isYear : GoodIn wsX9_differs (va_wsS RX9 170 yX9_isYear wsX9_isYear) := goodIn_app (goodIn_of _ (by decide +kernel)) ggX9_differs_X9_isYear
set_option maxRecDepth 20000 in
theorem ggX9_differs_X9_isDay : GoodIn wsX9_differs wsX9_isDay := goodIn_r _ [18, 19, 13, 14, 11, 15] (by decide +kernel) (by decide +kernel)
set_option maxRecDepth 20000 in
theorem gX9_differs_X9_isDay : GoodIn wsX9_differs (va_wsS RX9 151 yX9_isDay wsX9_isDay) := goodIn_app (goodIn_of _ (by decide +kernel)) ggX9_differs_X9_isDay
set_option maxRecDepth 20000 in
theorem ggX9_differs_X6_reckon : GoodIn wsX9_differs wsX6_reckon := goodIn_r _ [24, 25, 26, 27, 28, 29, 30, 31, 23, 32, 33, 34, 35, 36, 37, 38, 39, 40, 41, 42, 43, 44, 45, 46, 47, 48, 49, 50, 51, 52, 53, 54, 55, 56, 57, 58, 59, 60, 61, 62, 63, 64, 65, 66, 67, 68, 69, 70, 71, 72, 73, 74, 75, 76, 77, 78, 79, 14, 11, 15, 80, 81, 82, 83, 84, 85, 86, 87, 88, 89, 90, 91, 92, 93, 94, 95, 96, 97, 98, 99, 100, 101, 102, 103, 104, 105, 106, 107, 108, 109, 110, 111, 13, 112, 113, 114, 115, 116, 117, 118, 119, 120, 121, 122, 123, 124, 135, 136, 137, 138, 139, 140, 141, 142, 143, 144, 145, 146, 147, 148, 149, 150, 151, 152, 153, 154, 155, 156, 157, 158, 159, 160, 161, 162, 163, 164, 165, 166, 167] (by decide +kernel) (by decide +kernel)
set_option maxRecDepth 20000 in
theorem gX9_differs_X6_reckon : GoodIn wsX9_differs (wsV RX9 182 RX6 yX6_reckon wsX6_reckon) := goodIn_app (goodIn_of _ (by decide +kernel)) ggX9_differs_X6_reckon
theorem dX9_differs_0 : decode cX9_differs 0 = .ok (.iload_n 1, 1) := by decide +kernel
theorem dX9_differs_1 : decode cX9_differs 1 = .ok (.invokestatic 170, 3) := by decide +kernel
theorem dX9_differs_4 : decode cX9_differs 4 = .ok (.ifCond .eq 17, 3) := by decide +kernel
theorem dX9_differs_7 : decode cX9_differs 7 = .ok (.iload_n 2, 1) := by decide +kernel
theorem dX9_differs_8 : decode cX9_differs 8 = .ok (.invokestatic 151, 3) := by decide +kernel
theorem dX9_differs_11 : decode cX9_differs 11 = .ok (.ifCond .eq 10, 3) := by decide +kernel
theorem dX9_differs_14 : decode cX9_differs 14 = .ok (.iload_n 3, 1) := by decide +kernel
theorem dX9_differs_15 : decode cX9_differs 15 = .ok (.invokestatic 151, 3) := by decide +kernel
theorem dX9_differs_18 : decode cX9_differs 18 = .ok (.ifCond .ne 6, 3) := by decide +kernel
theorem dX9_differs_21 : decode cX9_differs 21 = .ok (.ldc 89, 2) := by decide +kernel
theorem dX9_differs_23 : decode cX9_differs 23 = .ok (.ireturn, 1) := by decide +kernel
theorem dX9_differs_24 : decode cX9_differs 24 = .ok (.aload_n 0, 1) := by decide +kernel
theorem dX9_differs_25 : decode cX9_differs 25 = .ok (.getfield 65, 3) := by decide +kernel
theorem dX9_differs_28 : decode cX9_differs 28 = .ok (.iload_n 1, 1) := by decide +kernel
theorem dX9_differs_29 : decode cX9_differs 29 = .ok (.iload_n 2, 1) := by decide +kernel
theorem dX9_differs_30 : decode cX9_differs 30 = .ok (.invokevirtual 182, 3) := by decide +kernel
theorem dX9_differs_33 : decode cX9_differs 33 = .ok (.aload_n 0, 1) := by decide +kernel
theorem dX9_differs_34 : decode cX9_differs 34 = .ok (.getfield 65, 3) := by decide +kernel
theorem dX9_differs_37 : decode cX9_differs 37 = .ok (.getfield 208, 3) := by decide +kernel
theorem dX9_differs_40 : decode cX9_differs 40 = .ok (.iconst 0, 1) := by decide +kernel
theorem dX9_differs_41 : decode cX9_differs 41 = .ok (.aload_n 0, 1) := by decide +kernel
theorem dX9_differs_42 : decode cX9_differs 42 = .ok (.getfield 76, 3) := by decide +kernel
theorem dX9_differs_45 : decode cX9_differs 45 = .ok (.iconst 0, 1) := by decide +kernel
theorem dX9_differs_46 : decode cX9_differs 46 = .ok (.bipush 10, 2) := by decide +kernel
theorem dX9_differs_48 : decode cX9_differs 48 = .ok (.invokestatic 211, 3) := by decide +kernel
theorem dX9_differs_51 : decode cX9_differs 51 = .ok (.aload_n 0, 1) := by decide +kernel
theorem dX9_differs_52 : decode cX9_differs 52 = .ok (.getfield 65, 3) := by decide +kernel
theorem dX9_differs_55 : decode cX9_differs 55 = .ok (.iload_n 1, 1) := by decide +kernel
theorem dX9_differs_56 : decode cX9_differs 56 = .ok (.iload_n 3, 1) := by decide +kernel
theorem dX9_differs_57 : decode cX9_differs 57 = .ok (.invokevirtual 182, 3) := by decide +kernel
theorem dX9_differs_60 : decode cX9_differs 60 = .ok (.iconst 0, 1) := by decide +kernel
theorem dX9_differs_61 : decode cX9_differs 61 = .ok (.istore 4, 2) := by decide +kernel
theorem dX9_differs_63 : decode cX9_differs 63 = .ok (.iload 4, 2) := by decide +kernel
theorem dX9_differs_65 : decode cX9_differs 65 = .ok (.bipush 10, 2) := by decide +kernel
theorem dX9_differs_67 : decode cX9_differs 67 = .ok (.if_icmp .ge 32, 3) := by decide +kernel
theorem dX9_differs_70 : decode cX9_differs 70 = .ok (.aload_n 0, 1) := by decide +kernel
theorem dX9_differs_71 : decode cX9_differs 71 = .ok (.getfield 65, 3) := by decide +kernel
theorem dX9_differs_74 : decode cX9_differs 74 = .ok (.getfield 208, 3) := by decide +kernel
theorem dX9_differs_77 : decode cX9_differs 77 = .ok (.iload 4, 2) := by decide +kernel
theorem dX9_differs_79 : decode cX9_differs 79 = .ok (.iaload, 1) := by decide +kernel
theorem dX9_differs_80 : decode cX9_differs 80 = .ok (.aload_n 0, 1) := by decide +kernel
theorem dX9_differs_81 : decode cX9_differs 81 = .ok (.getfield 76, 3) := by decide +kernel
theorem dX9_differs_84 : decode cX9_differs 84 = .ok (.iload 4, 2) := by decide +kernel
theorem dX9_differs_86 : decode cX9_differs 86 = .ok (.iaload, 1) := by decide +kernel
theorem dX9_differs_87 : decode cX9_differs 87 = .ok (.if_icmp .eq 6, 3) := by decide +kernel
theorem dX9_differs_90 : decode cX9_differs 90 = .ok (.iload 4, 2) := by decide +kernel
theorem dX9_differs_92 : decode cX9_differs 92 = .ok (.ireturn, 1) := by decide +kernel
theorem dX9_differs_93 : decode cX9_differs 93 = .ok (.iinc 4 1, 3) := by decide +kernel
theorem dX9_differs_96 : decode cX9_differs 96 = .ok (.goto (-33), 3) := by decide +kernel
theorem dX9_differs_99 : decode cX9_differs 99 = .ok (.ldc 217, 2) := by decide +kernel
theorem dX9_differs_101 : decode cX9_differs 101 = .ok (.ireturn, 1) := by decide +kernel
set_option maxRecDepth 20000 in
theorem ggX9_levy_X9_isWithin : GoodIn wsX9_levy wsX9_isWithin := goodIn_r _ [11] (by decide +kernel) (by decide +kernel)
set_option maxRecDepth 20000 in
theorem gX9_levy_X9_isWithin : GoodIn wsX9_levy (va_wsS RX9 80 yX9_isWithin wsX9_isWithin) := goodIn_app (goodIn_of _ (by decide +kernel)) ggX9_levy_X9_isWithin
set_option maxRecDepth 20000 in
theorem ggX9_levy_X9_isYear : GoodIn wsX9_levy wsX9_isYear := goodIn_r _ [14, 8, 9, 10, 11] (by decide +kernel) (by decide +kernel)
set_option maxRecDepth 20000 in
theorem gX9_levy_X9_isYear : GoodIn wsX9_levy (va_wsS RX9 170 yX9_isYear wsX9_isYear) := goodIn_app (goodIn_of _ (by decide +kernel)) ggX9_levy_X9_isYear
set_option maxRecDepth 20000 in
theorem ggX9_levy_X6_reckon : GoodIn wsX9_levy wsX6_reckon := goodIn_r _ [19, 20, 21, 22, 23, 24, 25, 26, 18, 27, 28, 29, 30, 31, 32, 33, 34, 35, 36, 37, 38, 39, 40, 41, 42, 43, 44, 45, 46, 47, 48, 49, 50, 51, 52, 53, 54, 55, 56, 57, 58, 59, 60, 61, 62, 63, 64, 65, 66, 67, 68, 69, 70, 71, 72, 73, 74, 9, 10, 11, 75, 76, 77, 78, 79, 80, 81, 82, 83, 84, 85, 86, 87, 88, 89, 90, 91, 92, 93, 94, 95, 96, 97, 98, 99, 100, 101, 102, 103, 104, 105, 106, 8, 107, 108, 109, 110, 111, 112, 113, 114, 115, 116, 117, 118, 119, 156, 157, 158, 159, 160, 161, 162, 163, 164, 165, 171, 172, 173, 174, 175, 176, 177, 178, 179, 180, 181, 182, 183, 184, 185, 186, 187, 188, 189, 190, 191, 192, 193] (by decide +kernel) (by decide +kernel)
set_option maxRecDepth 20000 in
theorem gX9_levy_X6_reckon : GoodIn wsX9_levy (wsV RX9 182 RX6 yX6_reckon wsX6_reckon) := goodIn_app (goodIn_of _ (by decide +kernel)) ggX9_levy_X6_reckon
set_option maxRecDepth 20000 in
theorem ggX9_levy_X9_sumOf : GoodIn wsX9_levy wsX9_sumOf := goodIn_r _ [122] (by decide +kernel) (by decide +kernel)
set_option maxRecDepth 20000 in
theorem gX9_levy_X9_sumOf : GoodIn wsX9_levy (va_wsS RX9 218 yX9_sumOf wsX9_sumOf) := goodIn_app (goodIn_of _ (by decide +kernel)) ggX9_levy_X9_sumOf
set_option maxRecDepth 20000 in
theorem ggX9_levy_X3_add : GoodIn wsX9_levy wsX3_add := goodIn_r _ [127, 128, 129, 130, 121, 10, 122, 131, 132, 126, 133, 134, 135, 136, 137, 138, 139, 140, 141, 142, 166, 167, 168, 169, 170] (by decide +kernel) (by decide +kernel)
set_option maxRecDepth 20000 in
theorem gX9_levy_X3_add : GoodIn wsX9_levy (wsV RX9 223 RX3 yX3_add wsX3_add) := goodIn_app (goodIn_of _ (by decide +kernel)) ggX9_levy_X3_add
theorem dX9_levy_0 : decode cX9_levy 0 = .ok (.iload_n 1, 1) := by decide +kernel
theorem dX9_levy_1 : decode cX9_levy 1 = .ok (.iconst 1, 1) := by decide +kernel
theorem dX9_levy_2 : decode cX9_levy 2 = .ok (.ldc 88, 2) := by decide +kernel
theorem dX9_levy_4 : decode cX9_levy 4 = .ok (.invokestatic 80, 3) := by decide +kernel
theorem dX9_levy_7 : decode cX9_levy 7 = .ok (.ifCond .eq 10, 3) := by decide +kernel
theorem dX9_levy_10 : decode cX9_levy 10 = .ok (.iload_n 2, 1) := by decide +kernel
theorem dX9_levy_11 : decode cX9_levy 11 = .ok (.invokestatic 170, 3) := by decide +kernel
theorem dX9_levy_14 : decode cX9_levy 14 = .ok (.ifCond .ne 6, 3) := by decide +kernel
theorem dX9_levy_17 : decode cX9_levy 17 = .ok (.ldc 89, 2) := by decide +kernel
theorem dX9_levy_19 : decode cX9_levy 19 = .ok (.ireturn, 1) := by decide +kernel
theorem dX9_levy_20 : decode cX9_levy 20 = .ok (.aload_n 0, 1) := by decide +kernel
theorem dX9_levy_21 : decode cX9_levy 21 = .ok (.getfield 65, 3) := by decide +kernel
theorem dX9_levy_24 : decode cX9_levy 24 = .ok (.iload_n 2, 1) := by decide +kernel
theorem dX9_levy_25 : decode cX9_levy 25 = .ok (.aload_n 0, 1) := by decide +kernel
theorem dX9_levy_26 : decode cX9_levy 26 = .ok (.getfield 12, 3) := by decide +kernel
theorem dX9_levy_29 : decode cX9_levy 29 = .ok (.getfield 84, 3) := by decide +kernel
theorem dX9_levy_32 : decode cX9_levy 32 = .ok (.invokevirtual 182, 3) := by decide +kernel
theorem dX9_levy_35 : decode cX9_levy 35 = .ok (.aload_n 0, 1) := by decide +kernel
theorem dX9_levy_36 : decode cX9_levy 36 = .ok (.getfield 65, 3) := by decide +kernel
theorem dX9_levy_39 : decode cX9_levy 39 = .ok (.getfield 208, 3) := by decide +kernel
theorem dX9_levy_42 : decode cX9_levy 42 = .ok (.invokestatic 218, 3) := by decide +kernel
theorem dX9_levy_45 : decode cX9_levy 45 = .ok (.ifCond .ne 6, 3) := by decide +kernel
theorem dX9_levy_48 : decode cX9_levy 48 = .ok (.ldc 143, 2) := by decide +kernel
theorem dX9_levy_50 : decode cX9_levy 50 = .ok (.ireturn, 1) := by decide +kernel
theorem dX9_levy_51 : decode cX9_levy 51 = .ok (.aload_n 0, 1) := by decide +kernel
theorem dX9_levy_52 : decode cX9_levy 52 = .ok (.getfield 72, 3) := by decide +kernel
theorem dX9_levy_55 : decode cX9_levy 55 = .ok (.getfield 222, 3) := by decide +kernel
theorem dX9_levy_58 : decode cX9_levy 58 = .ok (.bipush 6, 2) := by decide +kernel
theorem dX9_levy_60 : decode cX9_levy 60 = .ok (.if_icmp .lt 6, 3) := by decide +kernel
theorem dX9_levy_63 : decode cX9_levy 63 = .ok (.ldc 103, 2) := by decide +kernel
theorem dX9_levy_65 : decode cX9_levy 65 = .ok (.ireturn, 1) := by decide +kernel
theorem dX9_levy_66 : decode cX9_levy 66 = .ok (.aload_n 0, 1) := by decide +kernel
theorem dX9_levy_67 : decode cX9_levy 67 = .ok (.getfield 72, 3) := by decide +kernel
theorem dX9_levy_70 : decode cX9_levy 70 = .ok (.iload_n 1, 1) := by decide +kernel
theorem dX9_levy_71 : decode cX9_levy 71 = .ok (.aload_n 0, 1) := by decide +kernel
theorem dX9_levy_72 : decode cX9_levy 72 = .ok (.getfield 65, 3) := by decide +kernel
theorem dX9_levy_75 : decode cX9_levy 75 = .ok (.getfield 208, 3) := by decide +kernel
theorem dX9_levy_78 : decode cX9_levy 78 = .ok (.invokevirtual 223, 3) := by decide +kernel
theorem dX9_levy_81 : decode cX9_levy 81 = .ok (.aload_n 0, 1) := by decide +kernel
theorem dX9_levy_82 : decode cX9_levy 82 = .ok (.getfield 72, 3) := by decide +kernel
theorem dX9_levy_85 : decode cX9_levy 85 = .ok (.getfield 222, 3) := by decide +kernel
theorem dX9_levy_88 : decode cX9_levy 88 = .ok (.iconst 1, 1) := by decide +kernel
theorem dX9_levy_89 : decode cX9_levy 89 = .ok (.isub, 1) := by decide +kernel
theorem dX9_levy_90 : decode cX9_levy 90 = .ok (.ireturn, 1) := by decide +kernel
set_option maxRecDepth 20000 in
theorem ggX9_loan_X3_has : GoodIn wsX9_loan wsX3_has := goodIn_r _ [7, 8, 9, 10, 11, 29, 30, 31, 32, 33] (by decide +kernel) (by decide +kernel)
set_option maxRecDepth 20000 in
theorem gX9_loan_X3_has : GoodIn wsX9_loan (wsV RX9 226 RX3 yX3_has wsX3_has) := goodIn_app (goodIn_of _ (by decide +kernel)) ggX9_loan_X3_has
set_option maxRecDepth 20000 in
theorem ggX9_loan_X9_isHouse : GoodIn wsX9_loan wsX9_isHouse := goodIn_r _ [14, 15, 9, 10, 11] (by decide +kernel) (by decide +kernel)
set_option maxRecDepth 20000 in
theorem gX9_loan_X9_isHouse : GoodIn wsX9_loan (va_wsS RX9 154 yX9_isHouse wsX9_isHouse) := goodIn_app (goodIn_of _ (by decide +kernel)) ggX9_loan_X9_isHouse
set_option maxRecDepth 20000 in
theorem ggX9_loan_X3_placeOf : GoodIn wsX9_loan wsX3_placeOf := goodIn_r _ [18] (by decide +kernel) (by decide +kernel)
set_option maxRecDepth 20000 in
theorem gX9_loan_X3_placeOf : GoodIn wsX9_loan (va_wsS RX9 227 yX3_placeOf wsX3_placeOf) := goodIn_app (goodIn_of _ (by decide +kernel)) ggX9_loan_X3_placeOf
theorem dX9_loan_0 : decode cX9_loan 0 = .ok (.aload_n 0, 1) := by decide +kernel
theorem dX9_loan_1 : decode cX9_loan 1 = .ok (.getfield 72, 3) := by decide +kernel
theorem dX9_loan_4 : decode cX9_loan 4 = .ok (.iload_n 1, 1) := by decide +kernel
theorem dX9_loan_5 : decode cX9_loan 5 = .ok (.invokevirtual 226, 3) := by decide +kernel
theorem dX9_loan_8 : decode cX9_loan 8 = .ok (.ifCond .eq 10, 3) := by decide +kernel
theorem dX9_loan_11 : decode cX9_loan 11 = .ok (.iload_n 2, 1) := by decide +kernel
theorem dX9_loan_12 : decode cX9_loan 12 = .ok (.invokestatic 154, 3) := by decide +kernel
theorem dX9_loan_15 : decode cX9_loan 15 = .ok (.ifCond .ne 6, 3) := by decide +kernel
theorem dX9_loan_18 : decode cX9_loan 18 = .ok (.ldc 89, 2) := by decide +kernel
theorem dX9_loan_20 : decode cX9_loan 20 = .ok (.ireturn, 1) := by decide +kernel
theorem dX9_loan_21 : decode cX9_loan 21 = .ok (.iload_n 1, 1) := by decide +kernel
theorem dX9_loan_22 : decode cX9_loan 22 = .ok (.iload_n 2, 1) := by decide +kernel
theorem dX9_loan_23 : decode cX9_loan 23 = .ok (.invokestatic 227, 3) := by decide +kernel
theorem dX9_loan_26 : decode cX9_loan 26 = .ok (.istore 4, 2) := by decide +kernel
theorem dX9_loan_28 : decode cX9_loan 28 = .ok (.iload_n 3, 1) := by decide +kernel
theorem dX9_loan_29 : decode cX9_loan 29 = .ok (.tableswitch 60 0 2 #[27, 38, 49], 27) := by decide +kernel
theorem dX9_loan_56 : decode cX9_loan 56 = .ok (.aload_n 0, 1) := by decide +kernel
theorem dX9_loan_57 : decode cX9_loan 57 = .ok (.getfield 72, 3) := by decide +kernel
theorem dX9_loan_60 : decode cX9_loan 60 = .ok (.getfield 230, 3) := by decide +kernel
theorem dX9_loan_63 : decode cX9_loan 63 = .ok (.iload 4, 2) := by decide +kernel
theorem dX9_loan_65 : decode cX9_loan 65 = .ok (.iaload, 1) := by decide +kernel
theorem dX9_loan_66 : decode cX9_loan 66 = .ok (.ireturn, 1) := by decide +kernel
theorem dX9_loan_67 : decode cX9_loan 67 = .ok (.aload_n 0, 1) := by decide +kernel
theorem dX9_loan_68 : decode cX9_loan 68 = .ok (.getfield 72, 3) := by decide +kernel
theorem dX9_loan_71 : decode cX9_loan 71 = .ok (.getfield 233, 3) := by decide +kernel
theorem dX9_loan_74 : decode cX9_loan 74 = .ok (.iload 4, 2) := by decide +kernel
theorem dX9_loan_76 : decode cX9_loan 76 = .ok (.iaload, 1) := by decide +kernel
theorem dX9_loan_77 : decode cX9_loan 77 = .ok (.ireturn, 1) := by decide +kernel
theorem dX9_loan_78 : decode cX9_loan 78 = .ok (.aload_n 0, 1) := by decide +kernel
theorem dX9_loan_79 : decode cX9_loan 79 = .ok (.getfield 72, 3) := by decide +kernel
theorem dX9_loan_82 : decode cX9_loan 82 = .ok (.getfield 236, 3) := by decide +kernel
theorem dX9_loan_85 : decode cX9_loan 85 = .ok (.iload 4, 2) := by decide +kernel
theorem dX9_loan_87 : decode cX9_loan 87 = .ok (.iaload, 1) := by decide +kernel
theorem dX9_loan_88 : decode cX9_loan 88 = .ok (.ireturn, 1) := by decide +kernel
theorem dX9_loan_89 : decode cX9_loan 89 = .ok (.ldc 89, 2) := by decide +kernel
theorem dX9_loan_91 : decode cX9_loan 91 = .ok (.ireturn, 1) := by decide +kernel
set_option maxRecDepth 20000 in
theorem ggX9_pay_X3_has : GoodIn wsX9_pay wsX3_has := goodIn_r _ [13, 14, 15, 16, 17, 35, 36, 37, 38, 39] (by decide +kernel) (by decide +kernel)
set_option maxRecDepth 20000 in
theorem gX9_pay_X3_has : GoodIn wsX9_pay (wsV RX9 226 RX3 yX3_has wsX3_has) := goodIn_app (goodIn_of _ (by decide +kernel)) ggX9_pay_X3_has
set_option maxRecDepth 20000 in
theorem ggX9_pay_X9_isHouse : GoodIn wsX9_pay wsX9_isHouse := goodIn_r _ [20, 21, 15, 16, 17] (by decide +kernel) (by decide +kernel)
set_option maxRecDepth 20000 in
theorem gX9_pay_X9_isHouse : GoodIn wsX9_pay (va_wsS RX9 154 yX9_isHouse wsX9_isHouse) := goodIn_app (goodIn_of _ (by decide +kernel)) ggX9_pay_X9_isHouse
set_option maxRecDepth 20000 in
theorem ggX9_pay_X9_isWithin : GoodIn wsX9_pay wsX9_isWithin := goodIn_r _ [17] (by decide +kernel) (by decide +kernel)
set_option maxRecDepth 20000 in
theorem gX9_pay_X9_isWithin : GoodIn wsX9_pay (va_wsS RX9 80 yX9_isWithin wsX9_isWithin) := goodIn_app (goodIn_of _ (by decide +kernel)) ggX9_pay_X9_isWithin
set_option maxRecDepth 20000 in
theorem ggX9_pay_X3_placeOf : GoodIn wsX9_pay wsX3_placeOf := goodIn_r _ [24] (by decide +kernel) (by decide +kernel)
set_option maxRecDepth 20000 in
theorem gX9_pay_X3_placeOf : GoodIn wsX9_pay (va_wsS RX9 227 yX3_placeOf wsX3_placeOf) := goodIn_app (goodIn_of _ (by decide +kernel)) ggX9_pay_X3_placeOf
theorem dX9_pay_0 : decode cX9_pay 0 = .ok (.aload_n 0, 1) := by decide +kernel
theorem dX9_pay_1 : decode cX9_pay 1 = .ok (.getfield 72, 3) := by decide +kernel
theorem dX9_pay_4 : decode cX9_pay 4 = .ok (.iload_n 1, 1) := by decide +kernel
theorem dX9_pay_5 : decode cX9_pay 5 = .ok (.invokevirtual 226, 3) := by decide +kernel
theorem dX9_pay_8 : decode cX9_pay 8 = .ok (.ifCond .eq 20, 3) := by decide +kernel
theorem dX9_pay_11 : decode cX9_pay 11 = .ok (.iload_n 2, 1) := by decide +kernel
theorem dX9_pay_12 : decode cX9_pay 12 = .ok (.invokestatic 154, 3) := by decide +kernel
theorem dX9_pay_15 : decode cX9_pay 15 = .ok (.ifCond .eq 13, 3) := by decide +kernel
theorem dX9_pay_18 : decode cX9_pay 18 = .ok (.iload_n 3, 1) := by decide +kernel
theorem dX9_pay_19 : decode cX9_pay 19 = .ok (.iconst 1, 1) := by decide +kernel
theorem dX9_pay_20 : decode cX9_pay 20 = .ok (.ldc 88, 2) := by decide +kernel
theorem dX9_pay_22 : decode cX9_pay 22 = .ok (.invokestatic 80, 3) := by decide +kernel
theorem dX9_pay_25 : decode cX9_pay 25 = .ok (.ifCond .ne 6, 3) := by decide +kernel
theorem dX9_pay_28 : decode cX9_pay 28 = .ok (.ldc 89, 2) := by decide +kernel
theorem dX9_pay_30 : decode cX9_pay 30 = .ok (.ireturn, 1) := by decide +kernel
theorem dX9_pay_31 : decode cX9_pay 31 = .ok (.iload_n 1, 1) := by decide +kernel
theorem dX9_pay_32 : decode cX9_pay 32 = .ok (.iload_n 2, 1) := by decide +kernel
theorem dX9_pay_33 : decode cX9_pay 33 = .ok (.invokestatic 227, 3) := by decide +kernel
theorem dX9_pay_36 : decode cX9_pay 36 = .ok (.istore 4, 2) := by decide +kernel
theorem dX9_pay_38 : decode cX9_pay 38 = .ok (.aload_n 0, 1) := by decide +kernel
theorem dX9_pay_39 : decode cX9_pay 39 = .ok (.getfield 72, 3) := by decide +kernel
theorem dX9_pay_42 : decode cX9_pay 42 = .ok (.getfield 230, 3) := by decide +kernel
theorem dX9_pay_45 : decode cX9_pay 45 = .ok (.iload 4, 2) := by decide +kernel
theorem dX9_pay_47 : decode cX9_pay 47 = .ok (.iaload, 1) := by decide +kernel
theorem dX9_pay_48 : decode cX9_pay 48 = .ok (.aload_n 0, 1) := by decide +kernel
theorem dX9_pay_49 : decode cX9_pay 49 = .ok (.getfield 72, 3) := by decide +kernel
theorem dX9_pay_52 : decode cX9_pay 52 = .ok (.getfield 233, 3) := by decide +kernel
theorem dX9_pay_55 : decode cX9_pay 55 = .ok (.iload 4, 2) := by decide +kernel
theorem dX9_pay_57 : decode cX9_pay 57 = .ok (.iaload, 1) := by decide +kernel
theorem dX9_pay_58 : decode cX9_pay 58 = .ok (.isub, 1) := by decide +kernel
theorem dX9_pay_59 : decode cX9_pay 59 = .ok (.istore 5, 2) := by decide +kernel
theorem dX9_pay_61 : decode cX9_pay 61 = .ok (.iload 5, 2) := by decide +kernel
theorem dX9_pay_63 : decode cX9_pay 63 = .ok (.ifCond .gt 6, 3) := by decide +kernel
theorem dX9_pay_66 : decode cX9_pay 66 = .ok (.ldc 143, 2) := by decide +kernel
theorem dX9_pay_68 : decode cX9_pay 68 = .ok (.ireturn, 1) := by decide +kernel
theorem dX9_pay_69 : decode cX9_pay 69 = .ok (.iload_n 3, 1) := by decide +kernel
theorem dX9_pay_70 : decode cX9_pay 70 = .ok (.iload 5, 2) := by decide +kernel
theorem dX9_pay_72 : decode cX9_pay 72 = .ok (.invokestatic 239, 3) := by decide +kernel
theorem dX9_pay_75 : decode cX9_pay 75 = .ok (.istore 6, 2) := by decide +kernel
theorem dX9_pay_77 : decode cX9_pay 77 = .ok (.aload_n 0, 1) := by decide +kernel
theorem dX9_pay_78 : decode cX9_pay 78 = .ok (.getfield 72, 3) := by decide +kernel
theorem dX9_pay_81 : decode cX9_pay 81 = .ok (.getfield 233, 3) := by decide +kernel
theorem dX9_pay_84 : decode cX9_pay 84 = .ok (.iload 4, 2) := by decide +kernel
theorem dX9_pay_86 : decode cX9_pay 86 = .ok (.dup2, 1) := by decide +kernel
theorem dX9_pay_87 : decode cX9_pay 87 = .ok (.iaload, 1) := by decide +kernel
theorem dX9_pay_88 : decode cX9_pay 88 = .ok (.iload 6, 2) := by decide +kernel
theorem dX9_pay_90 : decode cX9_pay 90 = .ok (.iadd, 1) := by decide +kernel
theorem dX9_pay_91 : decode cX9_pay 91 = .ok (.iastore, 1) := by decide +kernel
theorem dX9_pay_92 : decode cX9_pay 92 = .ok (.aload_n 0, 1) := by decide +kernel
theorem dX9_pay_93 : decode cX9_pay 93 = .ok (.getfield 72, 3) := by decide +kernel
theorem dX9_pay_96 : decode cX9_pay 96 = .ok (.getfield 236, 3) := by decide +kernel
theorem dX9_pay_99 : decode cX9_pay 99 = .ok (.iload 4, 2) := by decide +kernel
theorem dX9_pay_101 : decode cX9_pay 101 = .ok (.dup2, 1) := by decide +kernel
theorem dX9_pay_102 : decode cX9_pay 102 = .ok (.iaload, 1) := by decide +kernel
theorem dX9_pay_103 : decode cX9_pay 103 = .ok (.iload 6, 2) := by decide +kernel
theorem dX9_pay_105 : decode cX9_pay 105 = .ok (.iadd, 1) := by decide +kernel
theorem dX9_pay_106 : decode cX9_pay 106 = .ok (.iastore, 1) := by decide +kernel
theorem dX9_pay_107 : decode cX9_pay 107 = .ok (.iload 6, 2) := by decide +kernel
theorem dX9_pay_109 : decode cX9_pay 109 = .ok (.ireturn, 1) := by decide +kernel
set_option maxRecDepth 20000 in
theorem ggX9_sell_X3_has : GoodIn wsX9_sell wsX3_has := goodIn_r _ [9, 10, 11, 12, 13, 31, 32, 33, 34, 35] (by decide +kernel) (by decide +kernel)
set_option maxRecDepth 20000 in
theorem gX9_sell_X3_has : GoodIn wsX9_sell (wsV RX9 226 RX3 yX3_has wsX3_has) := goodIn_app (goodIn_of _ (by decide +kernel)) ggX9_sell_X3_has
set_option maxRecDepth 20000 in
theorem ggX9_sell_X9_isHouse : GoodIn wsX9_sell wsX9_isHouse := goodIn_r _ [16, 17, 11, 12, 13] (by decide +kernel) (by decide +kernel)
set_option maxRecDepth 20000 in
theorem gX9_sell_X9_isHouse : GoodIn wsX9_sell (va_wsS RX9 154 yX9_isHouse wsX9_isHouse) := goodIn_app (goodIn_of _ (by decide +kernel)) ggX9_sell_X9_isHouse
set_option maxRecDepth 20000 in
theorem ggX9_sell_X9_isWithin : GoodIn wsX9_sell wsX9_isWithin := goodIn_r _ [13] (by decide +kernel) (by decide +kernel)
set_option maxRecDepth 20000 in
theorem gX9_sell_X9_isWithin : GoodIn wsX9_sell (va_wsS RX9 80 yX9_isWithin wsX9_isWithin) := goodIn_app (goodIn_of _ (by decide +kernel)) ggX9_sell_X9_isWithin
set_option maxRecDepth 20000 in
theorem ggX9_sell_X3_placeOf : GoodIn wsX9_sell wsX3_placeOf := goodIn_r _ [20] (by decide +kernel) (by decide +kernel)
set_option maxRecDepth 20000 in
theorem gX9_sell_X3_placeOf : GoodIn wsX9_sell (va_wsS RX9 227 yX3_placeOf wsX3_placeOf) := goodIn_app (goodIn_of _ (by decide +kernel)) ggX9_sell_X3_placeOf
theorem dX9_sell_0 : decode cX9_sell 0 = .ok (.aload_n 0, 1) := by decide +kernel
theorem dX9_sell_1 : decode cX9_sell 1 = .ok (.getfield 72, 3) := by decide +kernel
theorem dX9_sell_4 : decode cX9_sell 4 = .ok (.iload_n 1, 1) := by decide +kernel
theorem dX9_sell_5 : decode cX9_sell 5 = .ok (.invokevirtual 226, 3) := by decide +kernel
theorem dX9_sell_8 : decode cX9_sell 8 = .ok (.ifCond .eq 33, 3) := by decide +kernel
theorem dX9_sell_11 : decode cX9_sell 11 = .ok (.iload_n 2, 1) := by decide +kernel
theorem dX9_sell_12 : decode cX9_sell 12 = .ok (.invokestatic 154, 3) := by decide +kernel
theorem dX9_sell_15 : decode cX9_sell 15 = .ok (.ifCond .eq 26, 3) := by decide +kernel
theorem dX9_sell_18 : decode cX9_sell 18 = .ok (.iload_n 3, 1) := by decide +kernel
theorem dX9_sell_19 : decode cX9_sell 19 = .ok (.invokestatic 154, 3) := by decide +kernel
theorem dX9_sell_22 : decode cX9_sell 22 = .ok (.ifCond .eq 19, 3) := by decide +kernel
theorem dX9_sell_25 : decode cX9_sell 25 = .ok (.iload_n 2, 1) := by decide +kernel
theorem dX9_sell_26 : decode cX9_sell 26 = .ok (.iload_n 3, 1) := by decide +kernel
theorem dX9_sell_27 : decode cX9_sell 27 = .ok (.if_icmp .eq 14, 3) := by decide +kernel
theorem dX9_sell_30 : decode cX9_sell 30 = .ok (.iload 4, 2) := by decide +kernel
theorem dX9_sell_32 : decode cX9_sell 32 = .ok (.iconst 1, 1) := by decide +kernel
theorem dX9_sell_33 : decode cX9_sell 33 = .ok (.ldc 88, 2) := by decide +kernel
theorem dX9_sell_35 : decode cX9_sell 35 = .ok (.invokestatic 80, 3) := by decide +kernel
theorem dX9_sell_38 : decode cX9_sell 38 = .ok (.ifCond .ne 6, 3) := by decide +kernel
theorem dX9_sell_41 : decode cX9_sell 41 = .ok (.ldc 89, 2) := by decide +kernel
theorem dX9_sell_43 : decode cX9_sell 43 = .ok (.ireturn, 1) := by decide +kernel
theorem dX9_sell_44 : decode cX9_sell 44 = .ok (.iload_n 1, 1) := by decide +kernel
theorem dX9_sell_45 : decode cX9_sell 45 = .ok (.iload_n 2, 1) := by decide +kernel
theorem dX9_sell_46 : decode cX9_sell 46 = .ok (.invokestatic 227, 3) := by decide +kernel
theorem dX9_sell_49 : decode cX9_sell 49 = .ok (.istore 5, 2) := by decide +kernel
theorem dX9_sell_51 : decode cX9_sell 51 = .ok (.iload_n 1, 1) := by decide +kernel
theorem dX9_sell_52 : decode cX9_sell 52 = .ok (.iload_n 3, 1) := by decide +kernel
theorem dX9_sell_53 : decode cX9_sell 53 = .ok (.invokestatic 227, 3) := by decide +kernel
theorem dX9_sell_56 : decode cX9_sell 56 = .ok (.istore 6, 2) := by decide +kernel
theorem dX9_sell_58 : decode cX9_sell 58 = .ok (.aload_n 0, 1) := by decide +kernel
theorem dX9_sell_59 : decode cX9_sell 59 = .ok (.getfield 72, 3) := by decide +kernel
theorem dX9_sell_62 : decode cX9_sell 62 = .ok (.getfield 236, 3) := by decide +kernel
theorem dX9_sell_65 : decode cX9_sell 65 = .ok (.iload 5, 2) := by decide +kernel
theorem dX9_sell_67 : decode cX9_sell 67 = .ok (.iaload, 1) := by decide +kernel
theorem dX9_sell_68 : decode cX9_sell 68 = .ok (.iload 4, 2) := by decide +kernel
theorem dX9_sell_70 : decode cX9_sell 70 = .ok (.if_icmp .ge 6, 3) := by decide +kernel
theorem dX9_sell_73 : decode cX9_sell 73 = .ok (.ldc 143, 2) := by decide +kernel
theorem dX9_sell_75 : decode cX9_sell 75 = .ok (.ireturn, 1) := by decide +kernel
theorem dX9_sell_76 : decode cX9_sell 76 = .ok (.aload_n 0, 1) := by decide +kernel
theorem dX9_sell_77 : decode cX9_sell 77 = .ok (.getfield 72, 3) := by decide +kernel
theorem dX9_sell_80 : decode cX9_sell 80 = .ok (.getfield 236, 3) := by decide +kernel
theorem dX9_sell_83 : decode cX9_sell 83 = .ok (.iload 5, 2) := by decide +kernel
theorem dX9_sell_85 : decode cX9_sell 85 = .ok (.dup2, 1) := by decide +kernel
theorem dX9_sell_86 : decode cX9_sell 86 = .ok (.iaload, 1) := by decide +kernel
theorem dX9_sell_87 : decode cX9_sell 87 = .ok (.iload 4, 2) := by decide +kernel
theorem dX9_sell_89 : decode cX9_sell 89 = .ok (.isub, 1) := by decide +kernel
theorem dX9_sell_90 : decode cX9_sell 90 = .ok (.iastore, 1) := by decide +kernel
theorem dX9_sell_91 : decode cX9_sell 91 = .ok (.aload_n 0, 1) := by decide +kernel
theorem dX9_sell_92 : decode cX9_sell 92 = .ok (.getfield 72, 3) := by decide +kernel
theorem dX9_sell_95 : decode cX9_sell 95 = .ok (.getfield 236, 3) := by decide +kernel
theorem dX9_sell_98 : decode cX9_sell 98 = .ok (.iload 6, 2) := by decide +kernel
theorem dX9_sell_100 : decode cX9_sell 100 = .ok (.dup2, 1) := by decide +kernel
theorem dX9_sell_101 : decode cX9_sell 101 = .ok (.iaload, 1) := by decide +kernel
theorem dX9_sell_102 : decode cX9_sell 102 = .ok (.iload 4, 2) := by decide +kernel
theorem dX9_sell_104 : decode cX9_sell 104 = .ok (.iadd, 1) := by decide +kernel
theorem dX9_sell_105 : decode cX9_sell 105 = .ok (.iastore, 1) := by decide +kernel
theorem dX9_sell_106 : decode cX9_sell 106 = .ok (.aload_n 0, 1) := by decide +kernel
theorem dX9_sell_107 : decode cX9_sell 107 = .ok (.getfield 72, 3) := by decide +kernel
theorem dX9_sell_110 : decode cX9_sell 110 = .ok (.getfield 236, 3) := by decide +kernel
theorem dX9_sell_113 : decode cX9_sell 113 = .ok (.iload 6, 2) := by decide +kernel
theorem dX9_sell_115 : decode cX9_sell 115 = .ok (.iaload, 1) := by decide +kernel
theorem dX9_sell_116 : decode cX9_sell 116 = .ok (.ireturn, 1) := by decide +kernel
set_option maxRecDepth 20000 in
theorem ggX9_count_X4_measuredCount : GoodIn wsX9_count wsX4_measuredCount := goodIn_r _ [13, 14, 60, 61] (by decide +kernel) (by decide +kernel)
set_option maxRecDepth 20000 in
theorem gX9_count_X4_measuredCount : GoodIn wsX9_count (wsV RX9 245 RX4 yX4_measuredCount wsX4_measuredCount) := goodIn_app (goodIn_of _ (by decide +kernel)) ggX9_count_X4_measuredCount
set_option maxRecDepth 20000 in
theorem ggX9_count_X9_sumOf : GoodIn wsX9_count wsX9_sumOf := goodIn_r _ [18] (by decide +kernel) (by decide +kernel)
set_option maxRecDepth 20000 in
theorem gX9_count_X9_sumOf : GoodIn wsX9_count (va_wsS RX9 218 yX9_sumOf wsX9_sumOf) := goodIn_app (goodIn_of _ (by decide +kernel)) ggX9_count_X9_sumOf
theorem dX9_count_0 : decode cX9_count 0 = .ok (.iload_n 1, 1) := by decide +kernel
theorem dX9_count_1 : decode cX9_count 1 = .ok (.tableswitch 114 0 7 #[47, 55, 63, 71, 79, 87, 95, 103], 47) := by decide +kernel
theorem dX9_count_48 : decode cX9_count 48 = .ok (.aload_n 0, 1) := by decide +kernel
theorem dX9_count_49 : decode cX9_count 49 = .ok (.getfield 42, 3) := by decide +kernel
theorem dX9_count_52 : decode cX9_count 52 = .ok (.getfield 244, 3) := by decide +kernel
theorem dX9_count_55 : decode cX9_count 55 = .ok (.ireturn, 1) := by decide +kernel
theorem dX9_count_56 : decode cX9_count 56 = .ok (.aload_n 0, 1) := by decide +kernel
theorem dX9_count_57 : decode cX9_count 57 = .ok (.getfield 49, 3) := by decide +kernel
theorem dX9_count_60 : decode cX9_count 60 = .ok (.getfield 157, 3) := by decide +kernel
theorem dX9_count_63 : decode cX9_count 63 = .ok (.ireturn, 1) := by decide +kernel
theorem dX9_count_64 : decode cX9_count 64 = .ok (.aload_n 0, 1) := by decide +kernel
theorem dX9_count_65 : decode cX9_count 65 = .ok (.getfield 56, 3) := by decide +kernel
theorem dX9_count_68 : decode cX9_count 68 = .ok (.getfield 176, 3) := by decide +kernel
theorem dX9_count_71 : decode cX9_count 71 = .ok (.ireturn, 1) := by decide +kernel
theorem dX9_count_72 : decode cX9_count 72 = .ok (.aload_n 0, 1) := by decide +kernel
theorem dX9_count_73 : decode cX9_count 73 = .ok (.getfield 72, 3) := by decide +kernel
theorem dX9_count_76 : decode cX9_count 76 = .ok (.getfield 222, 3) := by decide +kernel
theorem dX9_count_79 : decode cX9_count 79 = .ok (.ireturn, 1) := by decide +kernel
theorem dX9_count_80 : decode cX9_count 80 = .ok (.aload_n 0, 1) := by decide +kernel
theorem dX9_count_81 : decode cX9_count 81 = .ok (.getfield 26, 3) := by decide +kernel
theorem dX9_count_84 : decode cX9_count 84 = .ok (.getfield 100, 3) := by decide +kernel
theorem dX9_count_87 : decode cX9_count 87 = .ok (.ireturn, 1) := by decide +kernel
theorem dX9_count_88 : decode cX9_count 88 = .ok (.aload_n 0, 1) := by decide +kernel
theorem dX9_count_89 : decode cX9_count 89 = .ok (.getfield 12, 3) := by decide +kernel
theorem dX9_count_92 : decode cX9_count 92 = .ok (.getfield 84, 3) := by decide +kernel
theorem dX9_count_95 : decode cX9_count 95 = .ok (.ireturn, 1) := by decide +kernel
theorem dX9_count_96 : decode cX9_count 96 = .ok (.aload_n 0, 1) := by decide +kernel
theorem dX9_count_97 : decode cX9_count 97 = .ok (.getfield 19, 3) := by decide +kernel
theorem dX9_count_100 : decode cX9_count 100 = .ok (.invokevirtual 245, 3) := by decide +kernel
theorem dX9_count_103 : decode cX9_count 103 = .ok (.ireturn, 1) := by decide +kernel
theorem dX9_count_104 : decode cX9_count 104 = .ok (.aload_n 0, 1) := by decide +kernel
theorem dX9_count_105 : decode cX9_count 105 = .ok (.getfield 72, 3) := by decide +kernel
theorem dX9_count_108 : decode cX9_count 108 = .ok (.getfield 236, 3) := by decide +kernel
theorem dX9_count_111 : decode cX9_count 111 = .ok (.invokestatic 218, 3) := by decide +kernel
theorem dX9_count_114 : decode cX9_count 114 = .ok (.ireturn, 1) := by decide +kernel
theorem dX9_count_115 : decode cX9_count 115 = .ok (.ldc 89, 2) := by decide +kernel
theorem dX9_count_117 : decode cX9_count 117 = .ok (.ireturn, 1) := by decide +kernel
set_option maxRecDepth 20000 in
theorem ggX9_declareTape_X9_isHouse : GoodIn wsX9_declareTape wsX9_isHouse := goodIn_r _ [9, 10, 11, 8, 12] (by decide +kernel) (by decide +kernel)
set_option maxRecDepth 20000 in
theorem gX9_declareTape_X9_isHouse : GoodIn wsX9_declareTape (va_wsS RX9 154 yX9_isHouse wsX9_isHouse) := goodIn_app (goodIn_of _ (by decide +kernel)) ggX9_declareTape_X9_isHouse
set_option maxRecDepth 20000 in
theorem ggX9_declareTape_X9_isYear : GoodIn wsX9_declareTape wsX9_isYear := goodIn_r _ [15, 10, 11, 8, 12] (by decide +kernel) (by decide +kernel)
set_option maxRecDepth 20000 in
theorem gX9_declareTape_X9_isYear : GoodIn wsX9_declareTape (va_wsS RX9 170 yX9_isYear wsX9_isYear) := goodIn_app (goodIn_of _ (by decide +kernel)) ggX9_declareTape_X9_isYear
set_option maxRecDepth 20000 in
theorem ggX9_declareTape_X5_readText : GoodIn wsX9_declareTape wsX5_readText := goodIn_r _ [20, 21, 22, 23, 24, 25, 26, 19, 27, 28, 29, 30, 31, 32, 33, 34, 35, 36, 37, 38, 39, 40, 41, 42, 43, 44, 45, 46, 47, 48, 49, 50, 51, 52, 53, 54, 55, 56, 57, 58, 59, 60, 61, 62, 63, 64, 65, 66, 67, 68, 69, 70, 71, 72, 73, 74, 75, 76, 77, 78, 79, 80, 81, 82, 83, 84, 85, 86, 87, 88, 89, 90, 91, 92, 93, 94, 95, 96, 97, 98, 99, 100, 101, 102, 103, 104, 105, 106, 107, 108, 109, 110, 111, 112, 113, 114, 115, 116, 117, 8, 118, 119, 120, 121, 122, 123, 124, 125, 126, 127, 128, 129, 173, 174, 175, 176, 177, 178, 179, 180, 184, 185] (by decide +kernel) (by decide +kernel)
set_option maxRecDepth 20000 in
theorem gX9_declareTape_X5_readText : GoodIn wsX9_declareTape (wsV RX9 248 RX5 yX5_readText wsX5_readText) := goodIn_app (goodIn_of _ (by decide +kernel)) ggX9_declareTape_X5_readText
set_option maxRecDepth 20000 in
theorem ggX9_declareTape_X2_add : GoodIn wsX9_declareTape wsX2_add := goodIn_r _ [134, 135, 136, 137, 138, 164, 165, 166, 167, 168, 169, 170, 171, 172] (by decide +kernel) (by decide +kernel)
set_option maxRecDepth 20000 in
theorem gX9_declareTape_X2_add : GoodIn wsX9_declareTape (wsV RX9 252 RX2 yX2_add wsX2_add) := goodIn_app (goodIn_of _ (by decide +kernel)) ggX9_declareTape_X2_add
set_option maxRecDepth 20000 in
theorem ggX9_declareTape_X2_tell : GoodIn wsX9_declareTape wsX2_tell := goodIn_r _ [142, 135, 143, 144, 145, 164, 165, 166, 167, 168, 169, 170, 171, 172] (by decide +kernel) (by decide +kernel)
set_option maxRecDepth 20000 in
theorem gX9_declareTape_X2_tell : GoodIn wsX9_declareTape (wsV RX9 258 RX2 yX2_tell wsX2_tell) := goodIn_app (goodIn_of _ (by decide +kernel)) ggX9_declareTape_X2_tell
set_option maxRecDepth 20000 in
theorem ggX9_declareTape_X0_noteChange : GoodIn wsX9_declareTape wsX0_noteChange := goodIn_r _ [150, 151, 152, 153, 181, 182, 183] (by decide +kernel) (by decide +kernel)
set_option maxRecDepth 20000 in
theorem gX9_declareTape_X0_noteChange : GoodIn wsX9_declareTape (wsV RX9 148 RX0 yX0_noteChange wsX0_noteChange) := goodIn_app (goodIn_of _ (by decide +kernel)) ggX9_declareTape_X0_noteChange
theorem dX9_declareTape_0 : decode cX9_declareTape 0 = .ok (.iload_n 1, 1) := by decide +kernel
theorem dX9_declareTape_1 : decode cX9_declareTape 1 = .ok (.invokestatic 154, 3) := by decide +kernel
theorem dX9_declareTape_4 : decode cX9_declareTape 4 = .ok (.ifCond .eq 10, 3) := by decide +kernel
theorem dX9_declareTape_7 : decode cX9_declareTape 7 = .ok (.iload_n 2, 1) := by decide +kernel
theorem dX9_declareTape_8 : decode cX9_declareTape 8 = .ok (.invokestatic 170, 3) := by decide +kernel
theorem dX9_declareTape_11 : decode cX9_declareTape 11 = .ok (.ifCond .ne 6, 3) := by decide +kernel
theorem dX9_declareTape_14 : decode cX9_declareTape 14 = .ok (.ldc 89, 2) := by decide +kernel
theorem dX9_declareTape_16 : decode cX9_declareTape 16 = .ok (.ireturn, 1) := by decide +kernel
theorem dX9_declareTape_17 : decode cX9_declareTape 17 = .ok (.aload_n 0, 1) := by decide +kernel
theorem dX9_declareTape_18 : decode cX9_declareTape 18 = .ok (.getfield 35, 3) := by decide +kernel
theorem dX9_declareTape_21 : decode cX9_declareTape 21 = .ok (.iload_n 1, 1) := by decide +kernel
theorem dX9_declareTape_22 : decode cX9_declareTape 22 = .ok (.invokevirtual 248, 3) := by decide +kernel
theorem dX9_declareTape_25 : decode cX9_declareTape 25 = .ok (.istore_n 3, 1) := by decide +kernel
theorem dX9_declareTape_26 : decode cX9_declareTape 26 = .ok (.iload_n 3, 1) := by decide +kernel
theorem dX9_declareTape_27 : decode cX9_declareTape 27 = .ok (.iconst (-1), 1) := by decide +kernel
theorem dX9_declareTape_28 : decode cX9_declareTape 28 = .ok (.if_icmp .eq 8, 3) := by decide +kernel
theorem dX9_declareTape_31 : decode cX9_declareTape 31 = .ok (.bipush (-100), 2) := by decide +kernel
theorem dX9_declareTape_33 : decode cX9_declareTape 33 = .ok (.iload_n 3, 1) := by decide +kernel
theorem dX9_declareTape_34 : decode cX9_declareTape 34 = .ok (.isub, 1) := by decide +kernel
theorem dX9_declareTape_35 : decode cX9_declareTape 35 = .ok (.ireturn, 1) := by decide +kernel
theorem dX9_declareTape_36 : decode cX9_declareTape 36 = .ok (.aload_n 0, 1) := by decide +kernel
theorem dX9_declareTape_37 : decode cX9_declareTape 37 = .ok (.getfield 42, 3) := by decide +kernel
theorem dX9_declareTape_40 : decode cX9_declareTape 40 = .ok (.getfield 244, 3) := by decide +kernel
theorem dX9_declareTape_43 : decode cX9_declareTape 43 = .ok (.aload_n 0, 1) := by decide +kernel
theorem dX9_declareTape_44 : decode cX9_declareTape 44 = .ok (.getfield 35, 3) := by decide +kernel
theorem dX9_declareTape_47 : decode cX9_declareTape 47 = .ok (.getfield 251, 3) := by decide +kernel
theorem dX9_declareTape_50 : decode cX9_declareTape 50 = .ok (.iadd, 1) := by decide +kernel
theorem dX9_declareTape_51 : decode cX9_declareTape 51 = .ok (.bipush 100, 2) := by decide +kernel
theorem dX9_declareTape_53 : decode cX9_declareTape 53 = .ok (.if_icmp .le 6, 3) := by decide +kernel
theorem dX9_declareTape_56 : decode cX9_declareTape 56 = .ok (.ldc 103, 2) := by decide +kernel
theorem dX9_declareTape_58 : decode cX9_declareTape 58 = .ok (.ireturn, 1) := by decide +kernel
theorem dX9_declareTape_59 : decode cX9_declareTape 59 = .ok (.iconst 0, 1) := by decide +kernel
theorem dX9_declareTape_60 : decode cX9_declareTape 60 = .ok (.istore 4, 2) := by decide +kernel
theorem dX9_declareTape_62 : decode cX9_declareTape 62 = .ok (.iload 4, 2) := by decide +kernel
theorem dX9_declareTape_64 : decode cX9_declareTape 64 = .ok (.aload_n 0, 1) := by decide +kernel
theorem dX9_declareTape_65 : decode cX9_declareTape 65 = .ok (.getfield 35, 3) := by decide +kernel
theorem dX9_declareTape_68 : decode cX9_declareTape 68 = .ok (.getfield 251, 3) := by decide +kernel
theorem dX9_declareTape_71 : decode cX9_declareTape 71 = .ok (.if_icmp .ge 62, 3) := by decide +kernel
theorem dX9_declareTape_74 : decode cX9_declareTape 74 = .ok (.aload_n 0, 1) := by decide +kernel
theorem dX9_declareTape_75 : decode cX9_declareTape 75 = .ok (.getfield 42, 3) := by decide +kernel
theorem dX9_declareTape_78 : decode cX9_declareTape 78 = .ok (.iload_n 1, 1) := by decide +kernel
theorem dX9_declareTape_79 : decode cX9_declareTape 79 = .ok (.iload_n 2, 1) := by decide +kernel
theorem dX9_declareTape_80 : decode cX9_declareTape 80 = .ok (.aload_n 0, 1) := by decide +kernel
theorem dX9_declareTape_81 : decode cX9_declareTape 81 = .ok (.getfield 12, 3) := by decide +kernel
theorem dX9_declareTape_84 : decode cX9_declareTape 84 = .ok (.getfield 84, 3) := by decide +kernel
theorem dX9_declareTape_87 : decode cX9_declareTape 87 = .ok (.invokevirtual 252, 3) := by decide +kernel
theorem dX9_declareTape_90 : decode cX9_declareTape 90 = .ok (.aload_n 0, 1) := by decide +kernel
theorem dX9_declareTape_91 : decode cX9_declareTape 91 = .ok (.getfield 42, 3) := by decide +kernel
theorem dX9_declareTape_94 : decode cX9_declareTape 94 = .ok (.aload_n 0, 1) := by decide +kernel
theorem dX9_declareTape_95 : decode cX9_declareTape 95 = .ok (.getfield 35, 3) := by decide +kernel
theorem dX9_declareTape_98 : decode cX9_declareTape 98 = .ok (.getfield 255, 3) := by decide +kernel
theorem dX9_declareTape_101 : decode cX9_declareTape 101 = .ok (.iload 4, 2) := by decide +kernel
theorem dX9_declareTape_103 : decode cX9_declareTape 103 = .ok (.iaload, 1) := by decide +kernel
theorem dX9_declareTape_104 : decode cX9_declareTape 104 = .ok (.aload_n 0, 1) := by decide +kernel
theorem dX9_declareTape_105 : decode cX9_declareTape 105 = .ok (.getfield 35, 3) := by decide +kernel
theorem dX9_declareTape_108 : decode cX9_declareTape 108 = .ok (.getfield 256, 3) := by decide +kernel
theorem dX9_declareTape_111 : decode cX9_declareTape 111 = .ok (.iload 4, 2) := by decide +kernel
theorem dX9_declareTape_113 : decode cX9_declareTape 113 = .ok (.iaload, 1) := by decide +kernel
theorem dX9_declareTape_114 : decode cX9_declareTape 114 = .ok (.aload_n 0, 1) := by decide +kernel
theorem dX9_declareTape_115 : decode cX9_declareTape 115 = .ok (.getfield 35, 3) := by decide +kernel
theorem dX9_declareTape_118 : decode cX9_declareTape 118 = .ok (.getfield 257, 3) := by decide +kernel
theorem dX9_declareTape_121 : decode cX9_declareTape 121 = .ok (.iload 4, 2) := by decide +kernel
theorem dX9_declareTape_123 : decode cX9_declareTape 123 = .ok (.iaload, 1) := by decide +kernel
theorem dX9_declareTape_124 : decode cX9_declareTape 124 = .ok (.invokevirtual 258, 3) := by decide +kernel
theorem dX9_declareTape_127 : decode cX9_declareTape 127 = .ok (.iinc 4 1, 3) := by decide +kernel
theorem dX9_declareTape_130 : decode cX9_declareTape 130 = .ok (.goto (-68), 3) := by decide +kernel
theorem dX9_declareTape_133 : decode cX9_declareTape 133 = .ok (.aload_n 0, 1) := by decide +kernel
theorem dX9_declareTape_134 : decode cX9_declareTape 134 = .ok (.getfield 12, 3) := by decide +kernel
theorem dX9_declareTape_137 : decode cX9_declareTape 137 = .ok (.invokevirtual 148, 3) := by decide +kernel
theorem dX9_declareTape_140 : decode cX9_declareTape 140 = .ok (.aload_n 0, 1) := by decide +kernel
theorem dX9_declareTape_141 : decode cX9_declareTape 141 = .ok (.getfield 35, 3) := by decide +kernel
theorem dX9_declareTape_144 : decode cX9_declareTape 144 = .ok (.getfield 251, 3) := by decide +kernel
theorem dX9_declareTape_147 : decode cX9_declareTape 147 = .ok (.ireturn, 1) := by decide +kernel
set_option maxRecDepth 20000 in
theorem ggX9_worthKnown_X6_reckon : GoodIn wsX9_worthKnown wsX6_reckon := goodIn_r _ [6, 7, 8, 9, 10, 11, 12, 13, 5, 14, 15, 16, 17, 18, 19, 20, 21, 22, 23, 24, 25, 26, 27, 28, 29, 30, 31, 32, 33, 34, 35, 36, 37, 38, 39, 40, 41, 42, 43, 44, 45, 46, 47, 48, 49, 50, 51, 52, 53, 54, 55, 56, 57, 58, 59, 60, 61, 62, 63, 64, 65, 66, 67, 68, 69, 70, 71, 72, 73, 74, 75, 76, 77, 78, 79, 80, 81, 82, 83, 84, 85, 86, 87, 88, 89, 90, 91, 92, 93, 94, 95, 96, 97, 98, 99, 100, 101, 102, 103, 104, 105, 106, 107, 108, 109, 110, 121, 122, 123, 124, 125, 126, 127, 128, 129, 130, 131, 132, 133, 134, 135, 136, 137, 138, 139, 140, 141, 142, 143, 144, 145, 146, 147, 148, 149, 150, 151, 152, 153] (by decide +kernel) (by decide +kernel)
set_option maxRecDepth 20000 in
theorem gX9_worthKnown_X6_reckon : GoodIn wsX9_worthKnown (wsV RX9 182 RX6 yX6_reckon wsX6_reckon) := goodIn_app (goodIn_of _ (by decide +kernel)) ggX9_worthKnown_X6_reckon
theorem dX9_worthKnown_0 : decode cX9_worthKnown 0 = .ok (.aload_n 0, 1) := by decide +kernel
theorem dX9_worthKnown_1 : decode cX9_worthKnown 1 = .ok (.getfield 65, 3) := by decide +kernel
theorem dX9_worthKnown_4 : decode cX9_worthKnown 4 = .ok (.iload_n 2, 1) := by decide +kernel
theorem dX9_worthKnown_5 : decode cX9_worthKnown 5 = .ok (.iload_n 3, 1) := by decide +kernel
theorem dX9_worthKnown_6 : decode cX9_worthKnown 6 = .ok (.invokevirtual 182, 3) := by decide +kernel
theorem dX9_worthKnown_9 : decode cX9_worthKnown 9 = .ok (.aload_n 0, 1) := by decide +kernel
theorem dX9_worthKnown_10 : decode cX9_worthKnown 10 = .ok (.getfield 65, 3) := by decide +kernel
theorem dX9_worthKnown_13 : decode cX9_worthKnown 13 = .ok (.getfield 208, 3) := by decide +kernel
theorem dX9_worthKnown_16 : decode cX9_worthKnown 16 = .ok (.iload_n 1, 1) := by decide +kernel
theorem dX9_worthKnown_17 : decode cX9_worthKnown 17 = .ok (.iaload, 1) := by decide +kernel
theorem dX9_worthKnown_18 : decode cX9_worthKnown 18 = .ok (.ireturn, 1) := by decide +kernel
theorem dX9_isWithin_0 : decode cX9_isWithin 0 = .ok (.iload_n 0, 1) := by decide +kernel
theorem dX9_isWithin_1 : decode cX9_isWithin 1 = .ok (.iload_n 1, 1) := by decide +kernel
theorem dX9_isWithin_2 : decode cX9_isWithin 2 = .ok (.if_icmp .lt 12, 3) := by decide +kernel
theorem dX9_isWithin_5 : decode cX9_isWithin 5 = .ok (.iload_n 0, 1) := by decide +kernel
theorem dX9_isWithin_6 : decode cX9_isWithin 6 = .ok (.iload_n 2, 1) := by decide +kernel
theorem dX9_isWithin_7 : decode cX9_isWithin 7 = .ok (.if_icmp .gt 7, 3) := by decide +kernel
theorem dX9_isWithin_10 : decode cX9_isWithin 10 = .ok (.iconst 1, 1) := by decide +kernel
theorem dX9_isWithin_11 : decode cX9_isWithin 11 = .ok (.goto 4, 3) := by decide +kernel
theorem dX9_isWithin_14 : decode cX9_isWithin 14 = .ok (.iconst 0, 1) := by decide +kernel
theorem dX9_isWithin_15 : decode cX9_isWithin 15 = .ok (.ireturn, 1) := by decide +kernel
set_option maxRecDepth 20000 in
theorem ggX9_isHouse_X9_isWithin : GoodIn wsX9_isHouse wsX9_isWithin := goodIn_r _ [4] (by decide +kernel) (by decide +kernel)
set_option maxRecDepth 20000 in
theorem gX9_isHouse_X9_isWithin : GoodIn wsX9_isHouse (va_wsS RX9 80 yX9_isWithin wsX9_isWithin) := goodIn_app (goodIn_of _ (by decide +kernel)) ggX9_isHouse_X9_isWithin
theorem dX9_isHouse_0 : decode cX9_isHouse 0 = .ok (.iload_n 0, 1) := by decide +kernel
theorem dX9_isHouse_1 : decode cX9_isHouse 1 = .ok (.iconst 0, 1) := by decide +kernel
theorem dX9_isHouse_2 : decode cX9_isHouse 2 = .ok (.bipush 9, 2) := by decide +kernel
theorem dX9_isHouse_4 : decode cX9_isHouse 4 = .ok (.invokestatic 80, 3) := by decide +kernel
theorem dX9_isHouse_7 : decode cX9_isHouse 7 = .ok (.ireturn, 1) := by decide +kernel
set_option maxRecDepth 20000 in
theorem ggX9_isPlot_X9_isWithin : GoodIn wsX9_isPlot wsX9_isWithin := goodIn_r _ [4] (by decide +kernel) (by decide +kernel)
set_option maxRecDepth 20000 in
theorem gX9_isPlot_X9_isWithin : GoodIn wsX9_isPlot (va_wsS RX9 80 yX9_isWithin wsX9_isWithin) := goodIn_app (goodIn_of _ (by decide +kernel)) ggX9_isPlot_X9_isWithin
theorem dX9_isPlot_0 : decode cX9_isPlot 0 = .ok (.iload_n 0, 1) := by decide +kernel
theorem dX9_isPlot_1 : decode cX9_isPlot 1 = .ok (.iconst 0, 1) := by decide +kernel
theorem dX9_isPlot_2 : decode cX9_isPlot 2 = .ok (.bipush 11, 2) := by decide +kernel
theorem dX9_isPlot_4 : decode cX9_isPlot 4 = .ok (.invokestatic 80, 3) := by decide +kernel
theorem dX9_isPlot_7 : decode cX9_isPlot 7 = .ok (.ireturn, 1) := by decide +kernel
set_option maxRecDepth 20000 in
theorem ggX9_isYear_X9_isWithin : GoodIn wsX9_isYear wsX9_isWithin := goodIn_r _ [4] (by decide +kernel) (by decide +kernel)
set_option maxRecDepth 20000 in
theorem gX9_isYear_X9_isWithin : GoodIn wsX9_isYear (va_wsS RX9 80 yX9_isWithin wsX9_isWithin) := goodIn_app (goodIn_of _ (by decide +kernel)) ggX9_isYear_X9_isWithin
theorem dX9_isYear_0 : decode cX9_isYear 0 = .ok (.iload_n 0, 1) := by decide +kernel
theorem dX9_isYear_1 : decode cX9_isYear 1 = .ok (.iconst 0, 1) := by decide +kernel
theorem dX9_isYear_2 : decode cX9_isYear 2 = .ok (.bipush 30, 2) := by decide +kernel
theorem dX9_isYear_4 : decode cX9_isYear 4 = .ok (.invokestatic 80, 3) := by decide +kernel
theorem dX9_isYear_7 : decode cX9_isYear 7 = .ok (.ireturn, 1) := by decide +kernel
set_option maxRecDepth 20000 in
theorem ggX9_isDay_X9_isWithin : GoodIn wsX9_isDay wsX9_isWithin := goodIn_r _ [5] (by decide +kernel) (by decide +kernel)
set_option maxRecDepth 20000 in
theorem gX9_isDay_X9_isWithin : GoodIn wsX9_isDay (va_wsS RX9 80 yX9_isWithin wsX9_isWithin) := goodIn_app (goodIn_of _ (by decide +kernel)) ggX9_isDay_X9_isWithin
theorem dX9_isDay_0 : decode cX9_isDay 0 = .ok (.iload_n 0, 1) := by decide +kernel
theorem dX9_isDay_1 : decode cX9_isDay 1 = .ok (.iconst 0, 1) := by decide +kernel
theorem dX9_isDay_2 : decode cX9_isDay 2 = .ok (.ldc 88, 2) := by decide +kernel
theorem dX9_isDay_4 : decode cX9_isDay 4 = .ok (.invokestatic 80, 3) := by decide +kernel
theorem dX9_isDay_7 : decode cX9_isDay 7 = .ok (.ireturn, 1) := by decide +kernel
set_option maxRecDepth 20000 in
theorem ggX9_isItem_X9_isWithin : GoodIn wsX9_isItem wsX9_isWithin := goodIn_r _ [4] (by decide +kernel) (by decide +kernel)
set_option maxRecDepth 20000 in
theorem gX9_isItem_X9_isWithin : GoodIn wsX9_isItem (va_wsS RX9 80 yX9_isWithin wsX9_isWithin) := goodIn_app (goodIn_of _ (by decide +kernel)) ggX9_isItem_X9_isWithin
theorem dX9_isItem_0 : decode cX9_isItem 0 = .ok (.iload_n 0, 1) := by decide +kernel
theorem dX9_isItem_1 : decode cX9_isItem 1 = .ok (.iconst 0, 1) := by decide +kernel
theorem dX9_isItem_2 : decode cX9_isItem 2 = .ok (.iconst 5, 1) := by decide +kernel
theorem dX9_isItem_3 : decode cX9_isItem 3 = .ok (.invokestatic 80, 3) := by decide +kernel
theorem dX9_isItem_6 : decode cX9_isItem 6 = .ok (.ireturn, 1) := by decide +kernel
theorem dX9_isKindOf_0 : decode cX9_isKindOf 0 = .ok (.iload_n 1, 1) := by decide +kernel
theorem dX9_isKindOf_1 : decode cX9_isKindOf 1 = .ok (.lookupswitch 74 #[(0, 35), (6, 37), (7, 53)], 35) := by decide +kernel
theorem dX9_isKindOf_36 : decode cX9_isKindOf 36 = .ok (.iconst 1, 1) := by decide +kernel
theorem dX9_isKindOf_37 : decode cX9_isKindOf 37 = .ok (.ireturn, 1) := by decide +kernel
theorem dX9_isKindOf_38 : decode cX9_isKindOf 38 = .ok (.iload_n 0, 1) := by decide +kernel
theorem dX9_isKindOf_39 : decode cX9_isKindOf 39 = .ok (.iconst 4, 1) := by decide +kernel
theorem dX9_isKindOf_40 : decode cX9_isKindOf 40 = .ok (.if_icmp .eq 8, 3) := by decide +kernel
theorem dX9_isKindOf_43 : decode cX9_isKindOf 43 = .ok (.iload_n 0, 1) := by decide +kernel
theorem dX9_isKindOf_44 : decode cX9_isKindOf 44 = .ok (.iconst 5, 1) := by decide +kernel
theorem dX9_isKindOf_45 : decode cX9_isKindOf 45 = .ok (.if_icmp .ne 7, 3) := by decide +kernel
theorem dX9_isKindOf_48 : decode cX9_isKindOf 48 = .ok (.iconst 1, 1) := by decide +kernel
theorem dX9_isKindOf_49 : decode cX9_isKindOf 49 = .ok (.goto 4, 3) := by decide +kernel
theorem dX9_isKindOf_52 : decode cX9_isKindOf 52 = .ok (.iconst 0, 1) := by decide +kernel
theorem dX9_isKindOf_53 : decode cX9_isKindOf 53 = .ok (.ireturn, 1) := by decide +kernel
theorem dX9_isKindOf_54 : decode cX9_isKindOf 54 = .ok (.iload_n 0, 1) := by decide +kernel
theorem dX9_isKindOf_55 : decode cX9_isKindOf 55 = .ok (.iconst 1, 1) := by decide +kernel
theorem dX9_isKindOf_56 : decode cX9_isKindOf 56 = .ok (.if_icmp .eq 13, 3) := by decide +kernel
theorem dX9_isKindOf_59 : decode cX9_isKindOf 59 = .ok (.iload_n 0, 1) := by decide +kernel
theorem dX9_isKindOf_60 : decode cX9_isKindOf 60 = .ok (.iconst 2, 1) := by decide +kernel
theorem dX9_isKindOf_61 : decode cX9_isKindOf 61 = .ok (.if_icmp .eq 8, 3) := by decide +kernel
theorem dX9_isKindOf_64 : decode cX9_isKindOf 64 = .ok (.iload_n 0, 1) := by decide +kernel
theorem dX9_isKindOf_65 : decode cX9_isKindOf 65 = .ok (.iconst 5, 1) := by decide +kernel
theorem dX9_isKindOf_66 : decode cX9_isKindOf 66 = .ok (.if_icmp .ne 7, 3) := by decide +kernel
theorem dX9_isKindOf_69 : decode cX9_isKindOf 69 = .ok (.iconst 1, 1) := by decide +kernel
theorem dX9_isKindOf_70 : decode cX9_isKindOf 70 = .ok (.goto 4, 3) := by decide +kernel
theorem dX9_isKindOf_73 : decode cX9_isKindOf 73 = .ok (.iconst 0, 1) := by decide +kernel
theorem dX9_isKindOf_74 : decode cX9_isKindOf 74 = .ok (.ireturn, 1) := by decide +kernel
theorem dX9_isKindOf_75 : decode cX9_isKindOf 75 = .ok (.iload_n 0, 1) := by decide +kernel
theorem dX9_isKindOf_76 : decode cX9_isKindOf 76 = .ok (.iload_n 1, 1) := by decide +kernel
theorem dX9_isKindOf_77 : decode cX9_isKindOf 77 = .ok (.if_icmp .ne 7, 3) := by decide +kernel
theorem dX9_isKindOf_80 : decode cX9_isKindOf 80 = .ok (.iconst 1, 1) := by decide +kernel
theorem dX9_isKindOf_81 : decode cX9_isKindOf 81 = .ok (.goto 4, 3) := by decide +kernel
theorem dX9_isKindOf_84 : decode cX9_isKindOf 84 = .ok (.iconst 0, 1) := by decide +kernel
theorem dX9_isKindOf_85 : decode cX9_isKindOf 85 = .ok (.ireturn, 1) := by decide +kernel
theorem dX9_sumOf_0 : decode cX9_sumOf 0 = .ok (.iconst 0, 1) := by decide +kernel
theorem dX9_sumOf_1 : decode cX9_sumOf 1 = .ok (.istore_n 1, 1) := by decide +kernel
theorem dX9_sumOf_2 : decode cX9_sumOf 2 = .ok (.aload_n 0, 1) := by decide +kernel
theorem dX9_sumOf_3 : decode cX9_sumOf 3 = .ok (.astore_n 2, 1) := by decide +kernel
theorem dX9_sumOf_4 : decode cX9_sumOf 4 = .ok (.aload_n 2, 1) := by decide +kernel
theorem dX9_sumOf_5 : decode cX9_sumOf 5 = .ok (.arraylength, 1) := by decide +kernel
theorem dX9_sumOf_6 : decode cX9_sumOf 6 = .ok (.istore_n 3, 1) := by decide +kernel
theorem dX9_sumOf_7 : decode cX9_sumOf 7 = .ok (.iconst 0, 1) := by decide +kernel
theorem dX9_sumOf_8 : decode cX9_sumOf 8 = .ok (.istore 4, 2) := by decide +kernel
theorem dX9_sumOf_10 : decode cX9_sumOf 10 = .ok (.iload 4, 2) := by decide +kernel
theorem dX9_sumOf_12 : decode cX9_sumOf 12 = .ok (.iload_n 3, 1) := by decide +kernel
theorem dX9_sumOf_13 : decode cX9_sumOf 13 = .ok (.if_icmp .ge 20, 3) := by decide +kernel
theorem dX9_sumOf_16 : decode cX9_sumOf 16 = .ok (.aload_n 2, 1) := by decide +kernel
theorem dX9_sumOf_17 : decode cX9_sumOf 17 = .ok (.iload 4, 2) := by decide +kernel
theorem dX9_sumOf_19 : decode cX9_sumOf 19 = .ok (.iaload, 1) := by decide +kernel
theorem dX9_sumOf_20 : decode cX9_sumOf 20 = .ok (.istore 5, 2) := by decide +kernel
theorem dX9_sumOf_22 : decode cX9_sumOf 22 = .ok (.iload_n 1, 1) := by decide +kernel
theorem dX9_sumOf_23 : decode cX9_sumOf 23 = .ok (.iload 5, 2) := by decide +kernel
theorem dX9_sumOf_25 : decode cX9_sumOf 25 = .ok (.iadd, 1) := by decide +kernel
theorem dX9_sumOf_26 : decode cX9_sumOf 26 = .ok (.istore_n 1, 1) := by decide +kernel
theorem dX9_sumOf_27 : decode cX9_sumOf 27 = .ok (.iinc 4 1, 3) := by decide +kernel
theorem dX9_sumOf_30 : decode cX9_sumOf 30 = .ok (.goto (-20), 3) := by decide +kernel
theorem dX9_sumOf_33 : decode cX9_sumOf 33 = .ok (.iload_n 1, 1) := by decide +kernel
theorem dX9_sumOf_34 : decode cX9_sumOf 34 = .ok (.ireturn, 1) := by decide +kernel
