theorem dX0_init_0 : decode cX0_init 0 = .ok (.aload_n 0, 1) := by decide +kernel
theorem dX0_init_1 : decode cX0_init 1 = .ok (.invokespecial 3, 3) := by decide +kernel
theorem dX0_init_4 : decode cX0_init 4 = .ok (.aload_n 0, 1) := by decide +kernel
theorem dX0_init_5 : decode cX0_init 5 = .ok (.sipush 980, 3) := by decide +kernel
theorem dX0_init_8 : decode cX0_init 8 = .ok (.newarray .int, 2) := by decide +kernel
theorem dX0_init_10 : decode cX0_init 10 = .ok (.putfield 9, 3) := by decide +kernel
theorem dX0_init_13 : decode cX0_init 13 = .ok (.return_, 1) := by decide +kernel
theorem dX0_noteChange_0 : decode cX0_noteChange 0 = .ok (.aload_n 0, 1) := by decide +kernel
theorem dX0_noteChange_1 : decode cX0_noteChange 1 = .ok (.getfield 15, 3) := by decide +kernel
theorem dX0_noteChange_4 : decode cX0_noteChange 4 = .ok (.ifCond .le 25, 3) := by decide +kernel
theorem dX0_noteChange_7 : decode cX0_noteChange 7 = .ok (.aload_n 0, 1) := by decide +kernel
theorem dX0_noteChange_8 : decode cX0_noteChange 8 = .ok (.getfield 9, 3) := by decide +kernel
theorem dX0_noteChange_11 : decode cX0_noteChange 11 = .ok (.aload_n 0, 1) := by decide +kernel
theorem dX0_noteChange_12 : decode cX0_noteChange 12 = .ok (.getfield 15, 3) := by decide +kernel
theorem dX0_noteChange_15 : decode cX0_noteChange 15 = .ok (.iconst 1, 1) := by decide +kernel
theorem dX0_noteChange_16 : decode cX0_noteChange 16 = .ok (.isub, 1) := by decide +kernel
theorem dX0_noteChange_17 : decode cX0_noteChange 17 = .ok (.iaload, 1) := by decide +kernel
theorem dX0_noteChange_18 : decode cX0_noteChange 18 = .ok (.aload_n 0, 1) := by decide +kernel
theorem dX0_noteChange_19 : decode cX0_noteChange 19 = .ok (.getfield 19, 3) := by decide +kernel
theorem dX0_noteChange_22 : decode cX0_noteChange 22 = .ok (.if_icmp .ne 7, 3) := by decide +kernel
theorem dX0_noteChange_25 : decode cX0_noteChange 25 = .ok (.iconst 1, 1) := by decide +kernel
theorem dX0_noteChange_26 : decode cX0_noteChange 26 = .ok (.goto 4, 3) := by decide +kernel
theorem dX0_noteChange_29 : decode cX0_noteChange 29 = .ok (.iconst 0, 1) := by decide +kernel
theorem dX0_noteChange_30 : decode cX0_noteChange 30 = .ok (.istore_n 1, 1) := by decide +kernel
theorem dX0_noteChange_31 : decode cX0_noteChange 31 = .ok (.iload_n 1, 1) := by decide +kernel
theorem dX0_noteChange_32 : decode cX0_noteChange 32 = .ok (.ifCond .ne 36, 3) := by decide +kernel
theorem dX0_noteChange_35 : decode cX0_noteChange 35 = .ok (.aload_n 0, 1) := by decide +kernel
theorem dX0_noteChange_36 : decode cX0_noteChange 36 = .ok (.getfield 15, 3) := by decide +kernel
theorem dX0_noteChange_39 : decode cX0_noteChange 39 = .ok (.sipush 980, 3) := by decide +kernel
theorem dX0_noteChange_42 : decode cX0_noteChange 42 = .ok (.if_icmp .ge 26, 3) := by decide +kernel
theorem dX0_noteChange_45 : decode cX0_noteChange 45 = .ok (.aload_n 0, 1) := by decide +kernel
theorem dX0_noteChange_46 : decode cX0_noteChange 46 = .ok (.getfield 9, 3) := by decide +kernel
theorem dX0_noteChange_49 : decode cX0_noteChange 49 = .ok (.aload_n 0, 1) := by decide +kernel
theorem dX0_noteChange_50 : decode cX0_noteChange 50 = .ok (.getfield 15, 3) := by decide +kernel
theorem dX0_noteChange_53 : decode cX0_noteChange 53 = .ok (.aload_n 0, 1) := by decide +kernel
theorem dX0_noteChange_54 : decode cX0_noteChange 54 = .ok (.getfield 19, 3) := by decide +kernel
theorem dX0_noteChange_57 : decode cX0_noteChange 57 = .ok (.iastore, 1) := by decide +kernel
theorem dX0_noteChange_58 : decode cX0_noteChange 58 = .ok (.aload_n 0, 1) := by decide +kernel
theorem dX0_noteChange_59 : decode cX0_noteChange 59 = .ok (.dup, 1) := by decide +kernel
theorem dX0_noteChange_60 : decode cX0_noteChange 60 = .ok (.getfield 15, 3) := by decide +kernel
theorem dX0_noteChange_63 : decode cX0_noteChange 63 = .ok (.iconst 1, 1) := by decide +kernel
theorem dX0_noteChange_64 : decode cX0_noteChange 64 = .ok (.iadd, 1) := by decide +kernel
theorem dX0_noteChange_65 : decode cX0_noteChange 65 = .ok (.putfield 15, 3) := by decide +kernel
theorem dX0_noteChange_68 : decode cX0_noteChange 68 = .ok (.return_, 1) := by decide +kernel
theorem dX1_init_0 : decode cX1_init 0 = .ok (.aload_n 0, 1) := by decide +kernel
theorem dX1_init_1 : decode cX1_init 1 = .ok (.invokespecial 3, 3) := by decide +kernel
theorem dX1_init_4 : decode cX1_init 4 = .ok (.aload_n 0, 1) := by decide +kernel
theorem dX1_init_5 : decode cX1_init 5 = .ok (.bipush 40, 2) := by decide +kernel
theorem dX1_init_7 : decode cX1_init 7 = .ok (.newarray .int, 2) := by decide +kernel
theorem dX1_init_9 : decode cX1_init 9 = .ok (.putfield 9, 3) := by decide +kernel
theorem dX1_init_12 : decode cX1_init 12 = .ok (.aload_n 0, 1) := by decide +kernel
theorem dX1_init_13 : decode cX1_init 13 = .ok (.bipush 40, 2) := by decide +kernel
theorem dX1_init_15 : decode cX1_init 15 = .ok (.newarray .int, 2) := by decide +kernel
theorem dX1_init_17 : decode cX1_init 17 = .ok (.putfield 15, 3) := by decide +kernel
theorem dX1_init_20 : decode cX1_init 20 = .ok (.aload_n 0, 1) := by decide +kernel
theorem dX1_init_21 : decode cX1_init 21 = .ok (.bipush 40, 2) := by decide +kernel
theorem dX1_init_23 : decode cX1_init 23 = .ok (.newarray .int, 2) := by decide +kernel
theorem dX1_init_25 : decode cX1_init 25 = .ok (.putfield 18, 3) := by decide +kernel
theorem dX1_init_28 : decode cX1_init 28 = .ok (.aload_n 0, 1) := by decide +kernel
theorem dX1_init_29 : decode cX1_init 29 = .ok (.bipush 40, 2) := by decide +kernel
theorem dX1_init_31 : decode cX1_init 31 = .ok (.newarray .int, 2) := by decide +kernel
theorem dX1_init_33 : decode cX1_init 33 = .ok (.putfield 21, 3) := by decide +kernel
theorem dX1_init_36 : decode cX1_init 36 = .ok (.return_, 1) := by decide +kernel
theorem dX1_add_0 : decode cX1_add 0 = .ok (.aload_n 0, 1) := by decide +kernel
theorem dX1_add_1 : decode cX1_add 1 = .ok (.getfield 24, 3) := by decide +kernel
theorem dX1_add_4 : decode cX1_add 4 = .ok (.bipush 40, 2) := by decide +kernel
theorem dX1_add_6 : decode cX1_add 6 = .ok (.if_icmp .ge 54, 3) := by decide +kernel
theorem dX1_add_9 : decode cX1_add 9 = .ok (.aload_n 0, 1) := by decide +kernel
theorem dX1_add_10 : decode cX1_add 10 = .ok (.getfield 9, 3) := by decide +kernel
theorem dX1_add_13 : decode cX1_add 13 = .ok (.aload_n 0, 1) := by decide +kernel
theorem dX1_add_14 : decode cX1_add 14 = .ok (.getfield 24, 3) := by decide +kernel
theorem dX1_add_17 : decode cX1_add 17 = .ok (.iload_n 1, 1) := by decide +kernel
theorem dX1_add_18 : decode cX1_add 18 = .ok (.iastore, 1) := by decide +kernel
theorem dX1_add_19 : decode cX1_add 19 = .ok (.aload_n 0, 1) := by decide +kernel
theorem dX1_add_20 : decode cX1_add 20 = .ok (.getfield 15, 3) := by decide +kernel
theorem dX1_add_23 : decode cX1_add 23 = .ok (.aload_n 0, 1) := by decide +kernel
theorem dX1_add_24 : decode cX1_add 24 = .ok (.getfield 24, 3) := by decide +kernel
theorem dX1_add_27 : decode cX1_add 27 = .ok (.iload_n 2, 1) := by decide +kernel
theorem dX1_add_28 : decode cX1_add 28 = .ok (.iastore, 1) := by decide +kernel
theorem dX1_add_29 : decode cX1_add 29 = .ok (.aload_n 0, 1) := by decide +kernel
theorem dX1_add_30 : decode cX1_add 30 = .ok (.getfield 18, 3) := by decide +kernel
theorem dX1_add_33 : decode cX1_add 33 = .ok (.aload_n 0, 1) := by decide +kernel
theorem dX1_add_34 : decode cX1_add 34 = .ok (.getfield 24, 3) := by decide +kernel
theorem dX1_add_37 : decode cX1_add 37 = .ok (.iload_n 3, 1) := by decide +kernel
theorem dX1_add_38 : decode cX1_add 38 = .ok (.iastore, 1) := by decide +kernel
theorem dX1_add_39 : decode cX1_add 39 = .ok (.aload_n 0, 1) := by decide +kernel
theorem dX1_add_40 : decode cX1_add 40 = .ok (.getfield 21, 3) := by decide +kernel
theorem dX1_add_43 : decode cX1_add 43 = .ok (.aload_n 0, 1) := by decide +kernel
theorem dX1_add_44 : decode cX1_add 44 = .ok (.getfield 24, 3) := by decide +kernel
theorem dX1_add_47 : decode cX1_add 47 = .ok (.iload 4, 2) := by decide +kernel
theorem dX1_add_49 : decode cX1_add 49 = .ok (.iastore, 1) := by decide +kernel
theorem dX1_add_50 : decode cX1_add 50 = .ok (.aload_n 0, 1) := by decide +kernel
theorem dX1_add_51 : decode cX1_add 51 = .ok (.dup, 1) := by decide +kernel
theorem dX1_add_52 : decode cX1_add 52 = .ok (.getfield 24, 3) := by decide +kernel
theorem dX1_add_55 : decode cX1_add 55 = .ok (.iconst 1, 1) := by decide +kernel
theorem dX1_add_56 : decode cX1_add 56 = .ok (.iadd, 1) := by decide +kernel
theorem dX1_add_57 : decode cX1_add 57 = .ok (.putfield 24, 3) := by decide +kernel
theorem dX1_add_60 : decode cX1_add 60 = .ok (.return_, 1) := by decide +kernel
set_option maxRecDepth 20000 in
theorem ggX1_valueHeld_X9_isWithin : GoodIn wsX1_valueHeld wsX9_isWithin := goodIn_r _ [8] (by decide +kernel) (by decide +kernel)
set_option maxRecDepth 20000 in
theorem gX1_valueHeld_X9_isWithin_n31 : GoodIn wsX1_valueHeld (wsX9_isWithin) := ggX1_valueHeld_X9_isWithin
theorem dX1_valueHeld_0 : decode cX1_valueHeld 0 = .ok (.getstatic 28, 3) := by decide +kernel
theorem dX1_valueHeld_3 : decode cX1_valueHeld 3 = .ok (.iload_n 1, 1) := by decide +kernel
theorem dX1_valueHeld_4 : decode cX1_valueHeld 4 = .ok (.iaload, 1) := by decide +kernel
theorem dX1_valueHeld_5 : decode cX1_valueHeld 5 = .ok (.istore 4, 2) := by decide +kernel
theorem dX1_valueHeld_7 : decode cX1_valueHeld 7 = .ok (.iconst 0, 1) := by decide +kernel
theorem dX1_valueHeld_8 : decode cX1_valueHeld 8 = .ok (.istore 5, 2) := by decide +kernel
theorem dX1_valueHeld_10 : decode cX1_valueHeld 10 = .ok (.iconst 0, 1) := by decide +kernel
theorem dX1_valueHeld_11 : decode cX1_valueHeld 11 = .ok (.istore 6, 2) := by decide +kernel
theorem dX1_valueHeld_13 : decode cX1_valueHeld 13 = .ok (.iload 6, 2) := by decide +kernel
theorem dX1_valueHeld_15 : decode cX1_valueHeld 15 = .ok (.aload_n 0, 1) := by decide +kernel
theorem dX1_valueHeld_16 : decode cX1_valueHeld 16 = .ok (.getfield 24, 3) := by decide +kernel
theorem dX1_valueHeld_19 : decode cX1_valueHeld 19 = .ok (.if_icmp .ge 77, 3) := by decide +kernel
theorem dX1_valueHeld_22 : decode cX1_valueHeld 22 = .ok (.aload_n 0, 1) := by decide +kernel
theorem dX1_valueHeld_23 : decode cX1_valueHeld 23 = .ok (.getfield 9, 3) := by decide +kernel
theorem dX1_valueHeld_26 : decode cX1_valueHeld 26 = .ok (.iload 6, 2) := by decide +kernel
theorem dX1_valueHeld_28 : decode cX1_valueHeld 28 = .ok (.iaload, 1) := by decide +kernel
theorem dX1_valueHeld_29 : decode cX1_valueHeld 29 = .ok (.iload_n 1, 1) := by decide +kernel
theorem dX1_valueHeld_30 : decode cX1_valueHeld 30 = .ok (.if_icmp .ne 18, 3) := by decide +kernel
theorem dX1_valueHeld_33 : decode cX1_valueHeld 33 = .ok (.aload_n 0, 1) := by decide +kernel
theorem dX1_valueHeld_34 : decode cX1_valueHeld 34 = .ok (.getfield 21, 3) := by decide +kernel
theorem dX1_valueHeld_37 : decode cX1_valueHeld 37 = .ok (.iload 6, 2) := by decide +kernel
theorem dX1_valueHeld_39 : decode cX1_valueHeld 39 = .ok (.iaload, 1) := by decide +kernel
theorem dX1_valueHeld_40 : decode cX1_valueHeld 40 = .ok (.iload_n 3, 1) := by decide +kernel
theorem dX1_valueHeld_41 : decode cX1_valueHeld 41 = .ok (.if_icmp .gt 7, 3) := by decide +kernel
theorem dX1_valueHeld_44 : decode cX1_valueHeld 44 = .ok (.iconst 1, 1) := by decide +kernel
theorem dX1_valueHeld_45 : decode cX1_valueHeld 45 = .ok (.goto 4, 3) := by decide +kernel
theorem dX1_valueHeld_48 : decode cX1_valueHeld 48 = .ok (.iconst 0, 1) := by decide +kernel
theorem dX1_valueHeld_49 : decode cX1_valueHeld 49 = .ok (.istore 7, 2) := by decide +kernel
theorem dX1_valueHeld_51 : decode cX1_valueHeld 51 = .ok (.iload 7, 2) := by decide +kernel
theorem dX1_valueHeld_53 : decode cX1_valueHeld 53 = .ok (.ifCond .eq 37, 3) := by decide +kernel
theorem dX1_valueHeld_56 : decode cX1_valueHeld 56 = .ok (.aload_n 0, 1) := by decide +kernel
theorem dX1_valueHeld_57 : decode cX1_valueHeld 57 = .ok (.getfield 15, 3) := by decide +kernel
theorem dX1_valueHeld_60 : decode cX1_valueHeld 60 = .ok (.iload 6, 2) := by decide +kernel
theorem dX1_valueHeld_62 : decode cX1_valueHeld 62 = .ok (.iaload, 1) := by decide +kernel
theorem dX1_valueHeld_63 : decode cX1_valueHeld 63 = .ok (.iload 5, 2) := by decide +kernel
theorem dX1_valueHeld_65 : decode cX1_valueHeld 65 = .ok (.iload_n 2, 1) := by decide +kernel
theorem dX1_valueHeld_66 : decode cX1_valueHeld 66 = .ok (.invokestatic 31, 3) := by decide +kernel
theorem dX1_valueHeld_69 : decode cX1_valueHeld 69 = .ok (.ifCond .eq 21, 3) := by decide +kernel
theorem dX1_valueHeld_72 : decode cX1_valueHeld 72 = .ok (.aload_n 0, 1) := by decide +kernel
theorem dX1_valueHeld_73 : decode cX1_valueHeld 73 = .ok (.getfield 18, 3) := by decide +kernel
theorem dX1_valueHeld_76 : decode cX1_valueHeld 76 = .ok (.iload 6, 2) := by decide +kernel
theorem dX1_valueHeld_78 : decode cX1_valueHeld 78 = .ok (.iaload, 1) := by decide +kernel
theorem dX1_valueHeld_79 : decode cX1_valueHeld 79 = .ok (.istore 4, 2) := by decide +kernel
theorem dX1_valueHeld_81 : decode cX1_valueHeld 81 = .ok (.aload_n 0, 1) := by decide +kernel
theorem dX1_valueHeld_82 : decode cX1_valueHeld 82 = .ok (.getfield 15, 3) := by decide +kernel
theorem dX1_valueHeld_85 : decode cX1_valueHeld 85 = .ok (.iload 6, 2) := by decide +kernel
theorem dX1_valueHeld_87 : decode cX1_valueHeld 87 = .ok (.iaload, 1) := by decide +kernel
theorem dX1_valueHeld_88 : decode cX1_valueHeld 88 = .ok (.istore 5, 2) := by decide +kernel
theorem dX1_valueHeld_90 : decode cX1_valueHeld 90 = .ok (.iinc 6 1, 3) := by decide +kernel
theorem dX1_valueHeld_93 : decode cX1_valueHeld 93 = .ok (.goto (-80), 3) := by decide +kernel
theorem dX1_valueHeld_96 : decode cX1_valueHeld 96 = .ok (.iload 4, 2) := by decide +kernel
theorem dX1_valueHeld_98 : decode cX1_valueHeld 98 = .ok (.ireturn, 1) := by decide +kernel
theorem dX2_init_0 : decode cX2_init 0 = .ok (.aload_n 0, 1) := by decide +kernel
theorem dX2_init_1 : decode cX2_init 1 = .ok (.invokespecial 3, 3) := by decide +kernel
theorem dX2_init_4 : decode cX2_init 4 = .ok (.aload_n 0, 1) := by decide +kernel
theorem dX2_init_5 : decode cX2_init 5 = .ok (.bipush 100, 2) := by decide +kernel
theorem dX2_init_7 : decode cX2_init 7 = .ok (.newarray .int, 2) := by decide +kernel
theorem dX2_init_9 : decode cX2_init 9 = .ok (.putfield 9, 3) := by decide +kernel
theorem dX2_init_12 : decode cX2_init 12 = .ok (.aload_n 0, 1) := by decide +kernel
theorem dX2_init_13 : decode cX2_init 13 = .ok (.bipush 100, 2) := by decide +kernel
theorem dX2_init_15 : decode cX2_init 15 = .ok (.newarray .int, 2) := by decide +kernel
theorem dX2_init_17 : decode cX2_init 17 = .ok (.putfield 15, 3) := by decide +kernel
theorem dX2_init_20 : decode cX2_init 20 = .ok (.aload_n 0, 1) := by decide +kernel
theorem dX2_init_21 : decode cX2_init 21 = .ok (.bipush 100, 2) := by decide +kernel
theorem dX2_init_23 : decode cX2_init 23 = .ok (.newarray .int, 2) := by decide +kernel
theorem dX2_init_25 : decode cX2_init 25 = .ok (.putfield 18, 3) := by decide +kernel
theorem dX2_init_28 : decode cX2_init 28 = .ok (.aload_n 0, 1) := by decide +kernel
theorem dX2_init_29 : decode cX2_init 29 = .ok (.bipush 100, 2) := by decide +kernel
theorem dX2_init_31 : decode cX2_init 31 = .ok (.newarray .int, 2) := by decide +kernel
theorem dX2_init_33 : decode cX2_init 33 = .ok (.putfield 21, 3) := by decide +kernel
theorem dX2_init_36 : decode cX2_init 36 = .ok (.aload_n 0, 1) := by decide +kernel
theorem dX2_init_37 : decode cX2_init 37 = .ok (.bipush 100, 2) := by decide +kernel
theorem dX2_init_39 : decode cX2_init 39 = .ok (.newarray .int, 2) := by decide +kernel
theorem dX2_init_41 : decode cX2_init 41 = .ok (.putfield 24, 3) := by decide +kernel
theorem dX2_init_44 : decode cX2_init 44 = .ok (.aload_n 0, 1) := by decide +kernel
theorem dX2_init_45 : decode cX2_init 45 = .ok (.bipush 100, 2) := by decide +kernel
theorem dX2_init_47 : decode cX2_init 47 = .ok (.newarray .int, 2) := by decide +kernel
theorem dX2_init_49 : decode cX2_init 49 = .ok (.putfield 27, 3) := by decide +kernel
theorem dX2_init_52 : decode cX2_init 52 = .ok (.aload_n 0, 1) := by decide +kernel
theorem dX2_init_53 : decode cX2_init 53 = .ok (.bipush 100, 2) := by decide +kernel
theorem dX2_init_55 : decode cX2_init 55 = .ok (.newarray .int, 2) := by decide +kernel
theorem dX2_init_57 : decode cX2_init 57 = .ok (.putfield 30, 3) := by decide +kernel
theorem dX2_init_60 : decode cX2_init 60 = .ok (.aload_n 0, 1) := by decide +kernel
theorem dX2_init_61 : decode cX2_init 61 = .ok (.sipush 800, 3) := by decide +kernel
theorem dX2_init_64 : decode cX2_init 64 = .ok (.newarray .int, 2) := by decide +kernel
theorem dX2_init_66 : decode cX2_init 66 = .ok (.putfield 33, 3) := by decide +kernel
theorem dX2_init_69 : decode cX2_init 69 = .ok (.return_, 1) := by decide +kernel
set_option maxRecDepth 20000 in
theorem ggX2_has_X9_isWithin : GoodIn wsX2_has wsX9_isWithin := goodIn_r _ [4] (by decide +kernel) (by decide +kernel)
set_option maxRecDepth 20000 in
theorem gX2_has_X9_isWithin_n40 : GoodIn wsX2_has (wsX9_isWithin) := ggX2_has_X9_isWithin
theorem dX2_has_0 : decode cX2_has 0 = .ok (.iload_n 1, 1) := by decide +kernel
theorem dX2_has_1 : decode cX2_has 1 = .ok (.iconst 0, 1) := by decide +kernel
theorem dX2_has_2 : decode cX2_has 2 = .ok (.aload_n 0, 1) := by decide +kernel
theorem dX2_has_3 : decode cX2_has 3 = .ok (.getfield 36, 3) := by decide +kernel
theorem dX2_has_6 : decode cX2_has 6 = .ok (.iconst 1, 1) := by decide +kernel
theorem dX2_has_7 : decode cX2_has 7 = .ok (.isub, 1) := by decide +kernel
theorem dX2_has_8 : decode cX2_has 8 = .ok (.invokestatic 40, 3) := by decide +kernel
theorem dX2_has_11 : decode cX2_has 11 = .ok (.ireturn, 1) := by decide +kernel
theorem dX2_add_0 : decode cX2_add 0 = .ok (.aload_n 0, 1) := by decide +kernel
theorem dX2_add_1 : decode cX2_add 1 = .ok (.getfield 36, 3) := by decide +kernel
theorem dX2_add_4 : decode cX2_add 4 = .ok (.bipush 100, 2) := by decide +kernel
theorem dX2_add_6 : decode cX2_add 6 = .ok (.if_icmp .ge 43, 3) := by decide +kernel
theorem dX2_add_9 : decode cX2_add 9 = .ok (.aload_n 0, 1) := by decide +kernel
theorem dX2_add_10 : decode cX2_add 10 = .ok (.getfield 15, 3) := by decide +kernel
theorem dX2_add_13 : decode cX2_add 13 = .ok (.aload_n 0, 1) := by decide +kernel
theorem dX2_add_14 : decode cX2_add 14 = .ok (.getfield 36, 3) := by decide +kernel
theorem dX2_add_17 : decode cX2_add 17 = .ok (.iload_n 1, 1) := by decide +kernel
theorem dX2_add_18 : decode cX2_add 18 = .ok (.iastore, 1) := by decide +kernel
theorem dX2_add_19 : decode cX2_add 19 = .ok (.aload_n 0, 1) := by decide +kernel
theorem dX2_add_20 : decode cX2_add 20 = .ok (.getfield 18, 3) := by decide +kernel
theorem dX2_add_23 : decode cX2_add 23 = .ok (.aload_n 0, 1) := by decide +kernel
theorem dX2_add_24 : decode cX2_add 24 = .ok (.getfield 36, 3) := by decide +kernel
theorem dX2_add_27 : decode cX2_add 27 = .ok (.iload_n 2, 1) := by decide +kernel
theorem dX2_add_28 : decode cX2_add 28 = .ok (.iastore, 1) := by decide +kernel
theorem dX2_add_29 : decode cX2_add 29 = .ok (.aload_n 0, 1) := by decide +kernel
theorem dX2_add_30 : decode cX2_add 30 = .ok (.getfield 21, 3) := by decide +kernel
theorem dX2_add_33 : decode cX2_add 33 = .ok (.aload_n 0, 1) := by decide +kernel
theorem dX2_add_34 : decode cX2_add 34 = .ok (.getfield 36, 3) := by decide +kernel
theorem dX2_add_37 : decode cX2_add 37 = .ok (.iload_n 3, 1) := by decide +kernel
theorem dX2_add_38 : decode cX2_add 38 = .ok (.iastore, 1) := by decide +kernel
theorem dX2_add_39 : decode cX2_add 39 = .ok (.aload_n 0, 1) := by decide +kernel
theorem dX2_add_40 : decode cX2_add 40 = .ok (.dup, 1) := by decide +kernel
theorem dX2_add_41 : decode cX2_add 41 = .ok (.getfield 36, 3) := by decide +kernel
theorem dX2_add_44 : decode cX2_add 44 = .ok (.iconst 1, 1) := by decide +kernel
theorem dX2_add_45 : decode cX2_add 45 = .ok (.iadd, 1) := by decide +kernel
theorem dX2_add_46 : decode cX2_add 46 = .ok (.putfield 36, 3) := by decide +kernel
theorem dX2_add_49 : decode cX2_add 49 = .ok (.return_, 1) := by decide +kernel
theorem dX2_tell_0 : decode cX2_tell 0 = .ok (.aload_n 0, 1) := by decide +kernel
theorem dX2_tell_1 : decode cX2_tell 1 = .ok (.getfield 36, 3) := by decide +kernel
theorem dX2_tell_4 : decode cX2_tell 4 = .ok (.ifCond .le 39, 3) := by decide +kernel
theorem dX2_tell_7 : decode cX2_tell 7 = .ok (.aload_n 0, 1) := by decide +kernel
theorem dX2_tell_8 : decode cX2_tell 8 = .ok (.getfield 9, 3) := by decide +kernel
theorem dX2_tell_11 : decode cX2_tell 11 = .ok (.aload_n 0, 1) := by decide +kernel
theorem dX2_tell_12 : decode cX2_tell 12 = .ok (.getfield 36, 3) := by decide +kernel
theorem dX2_tell_15 : decode cX2_tell 15 = .ok (.iconst 1, 1) := by decide +kernel
theorem dX2_tell_16 : decode cX2_tell 16 = .ok (.isub, 1) := by decide +kernel
theorem dX2_tell_17 : decode cX2_tell 17 = .ok (.iload_n 1, 1) := by decide +kernel
theorem dX2_tell_18 : decode cX2_tell 18 = .ok (.iastore, 1) := by decide +kernel
theorem dX2_tell_19 : decode cX2_tell 19 = .ok (.aload_n 0, 1) := by decide +kernel
theorem dX2_tell_20 : decode cX2_tell 20 = .ok (.getfield 24, 3) := by decide +kernel
theorem dX2_tell_23 : decode cX2_tell 23 = .ok (.aload_n 0, 1) := by decide +kernel
theorem dX2_tell_24 : decode cX2_tell 24 = .ok (.getfield 36, 3) := by decide +kernel
theorem dX2_tell_27 : decode cX2_tell 27 = .ok (.iconst 1, 1) := by decide +kernel
theorem dX2_tell_28 : decode cX2_tell 28 = .ok (.isub, 1) := by decide +kernel
theorem dX2_tell_29 : decode cX2_tell 29 = .ok (.iload_n 2, 1) := by decide +kernel
theorem dX2_tell_30 : decode cX2_tell 30 = .ok (.iastore, 1) := by decide +kernel
theorem dX2_tell_31 : decode cX2_tell 31 = .ok (.aload_n 0, 1) := by decide +kernel
theorem dX2_tell_32 : decode cX2_tell 32 = .ok (.getfield 27, 3) := by decide +kernel
theorem dX2_tell_35 : decode cX2_tell 35 = .ok (.aload_n 0, 1) := by decide +kernel
theorem dX2_tell_36 : decode cX2_tell 36 = .ok (.getfield 36, 3) := by decide +kernel
theorem dX2_tell_39 : decode cX2_tell 39 = .ok (.iconst 1, 1) := by decide +kernel
theorem dX2_tell_40 : decode cX2_tell 40 = .ok (.isub, 1) := by decide +kernel
theorem dX2_tell_41 : decode cX2_tell 41 = .ok (.iload_n 3, 1) := by decide +kernel
theorem dX2_tell_42 : decode cX2_tell 42 = .ok (.iastore, 1) := by decide +kernel
theorem dX2_tell_43 : decode cX2_tell 43 = .ok (.return_, 1) := by decide +kernel
theorem dX2_addAppeal_0 : decode cX2_addAppeal 0 = .ok (.aload_n 0, 1) := by decide +kernel
theorem dX2_addAppeal_1 : decode cX2_addAppeal 1 = .ok (.getfield 30, 3) := by decide +kernel
theorem dX2_addAppeal_4 : decode cX2_addAppeal 4 = .ok (.iload_n 1, 1) := by decide +kernel
theorem dX2_addAppeal_5 : decode cX2_addAppeal 5 = .ok (.iaload, 1) := by decide +kernel
theorem dX2_addAppeal_6 : decode cX2_addAppeal 6 = .ok (.bipush 8, 2) := by decide +kernel
theorem dX2_addAppeal_8 : decode cX2_addAppeal 8 = .ok (.if_icmp .ge 30, 3) := by decide +kernel
theorem dX2_addAppeal_11 : decode cX2_addAppeal 11 = .ok (.aload_n 0, 1) := by decide +kernel
theorem dX2_addAppeal_12 : decode cX2_addAppeal 12 = .ok (.getfield 33, 3) := by decide +kernel
theorem dX2_addAppeal_15 : decode cX2_addAppeal 15 = .ok (.iload_n 1, 1) := by decide +kernel
theorem dX2_addAppeal_16 : decode cX2_addAppeal 16 = .ok (.bipush 8, 2) := by decide +kernel
theorem dX2_addAppeal_18 : decode cX2_addAppeal 18 = .ok (.imul, 1) := by decide +kernel
theorem dX2_addAppeal_19 : decode cX2_addAppeal 19 = .ok (.aload_n 0, 1) := by decide +kernel
theorem dX2_addAppeal_20 : decode cX2_addAppeal 20 = .ok (.getfield 30, 3) := by decide +kernel
theorem dX2_addAppeal_23 : decode cX2_addAppeal 23 = .ok (.iload_n 1, 1) := by decide +kernel
theorem dX2_addAppeal_24 : decode cX2_addAppeal 24 = .ok (.iaload, 1) := by decide +kernel
theorem dX2_addAppeal_25 : decode cX2_addAppeal 25 = .ok (.iadd, 1) := by decide +kernel
theorem dX2_addAppeal_26 : decode cX2_addAppeal 26 = .ok (.iload_n 2, 1) := by decide +kernel
theorem dX2_addAppeal_27 : decode cX2_addAppeal 27 = .ok (.iastore, 1) := by decide +kernel
theorem dX2_addAppeal_28 : decode cX2_addAppeal 28 = .ok (.aload_n 0, 1) := by decide +kernel
theorem dX2_addAppeal_29 : decode cX2_addAppeal 29 = .ok (.getfield 30, 3) := by decide +kernel
theorem dX2_addAppeal_32 : decode cX2_addAppeal 32 = .ok (.iload_n 1, 1) := by decide +kernel
theorem dX2_addAppeal_33 : decode cX2_addAppeal 33 = .ok (.dup2, 1) := by decide +kernel
theorem dX2_addAppeal_34 : decode cX2_addAppeal 34 = .ok (.iaload, 1) := by decide +kernel
theorem dX2_addAppeal_35 : decode cX2_addAppeal 35 = .ok (.iconst 1, 1) := by decide +kernel
theorem dX2_addAppeal_36 : decode cX2_addAppeal 36 = .ok (.iadd, 1) := by decide +kernel
theorem dX2_addAppeal_37 : decode cX2_addAppeal 37 = .ok (.iastore, 1) := by decide +kernel
theorem dX2_addAppeal_38 : decode cX2_addAppeal 38 = .ok (.return_, 1) := by decide +kernel
theorem dX2_standsOn_0 : decode cX2_standsOn 0 = .ok (.aload_n 0, 1) := by decide +kernel
theorem dX2_standsOn_1 : decode cX2_standsOn 1 = .ok (.getfield 21, 3) := by decide +kernel
theorem dX2_standsOn_4 : decode cX2_standsOn 4 = .ok (.iload_n 1, 1) := by decide +kernel
theorem dX2_standsOn_5 : decode cX2_standsOn 5 = .ok (.iaload, 1) := by decide +kernel
theorem dX2_standsOn_6 : decode cX2_standsOn 6 = .ok (.iload_n 2, 1) := by decide +kernel
theorem dX2_standsOn_7 : decode cX2_standsOn 7 = .ok (.if_icmp .le 5, 3) := by decide +kernel
theorem dX2_standsOn_10 : decode cX2_standsOn 10 = .ok (.iconst 0, 1) := by decide +kernel
theorem dX2_standsOn_11 : decode cX2_standsOn 11 = .ok (.ireturn, 1) := by decide +kernel
theorem dX2_standsOn_12 : decode cX2_standsOn 12 = .ok (.iconst 1, 1) := by decide +kernel
theorem dX2_standsOn_13 : decode cX2_standsOn 13 = .ok (.istore_n 3, 1) := by decide +kernel
theorem dX2_standsOn_14 : decode cX2_standsOn 14 = .ok (.iconst 0, 1) := by decide +kernel
theorem dX2_standsOn_15 : decode cX2_standsOn 15 = .ok (.istore 4, 2) := by decide +kernel
theorem dX2_standsOn_17 : decode cX2_standsOn 17 = .ok (.iload 4, 2) := by decide +kernel
theorem dX2_standsOn_19 : decode cX2_standsOn 19 = .ok (.aload_n 0, 1) := by decide +kernel
theorem dX2_standsOn_20 : decode cX2_standsOn 20 = .ok (.getfield 30, 3) := by decide +kernel
theorem dX2_standsOn_23 : decode cX2_standsOn 23 = .ok (.iload_n 1, 1) := by decide +kernel
theorem dX2_standsOn_24 : decode cX2_standsOn 24 = .ok (.iaload, 1) := by decide +kernel
theorem dX2_standsOn_25 : decode cX2_standsOn 25 = .ok (.if_icmp .ge 35, 3) := by decide +kernel
theorem dX2_standsOn_28 : decode cX2_standsOn 28 = .ok (.aload_n 0, 1) := by decide +kernel
theorem dX2_standsOn_29 : decode cX2_standsOn 29 = .ok (.getfield 33, 3) := by decide +kernel
theorem dX2_standsOn_32 : decode cX2_standsOn 32 = .ok (.iload_n 1, 1) := by decide +kernel
theorem dX2_standsOn_33 : decode cX2_standsOn 33 = .ok (.bipush 8, 2) := by decide +kernel
theorem dX2_standsOn_35 : decode cX2_standsOn 35 = .ok (.imul, 1) := by decide +kernel
theorem dX2_standsOn_36 : decode cX2_standsOn 36 = .ok (.iload 4, 2) := by decide +kernel
theorem dX2_standsOn_38 : decode cX2_standsOn 38 = .ok (.iadd, 1) := by decide +kernel
theorem dX2_standsOn_39 : decode cX2_standsOn 39 = .ok (.iaload, 1) := by decide +kernel
theorem dX2_standsOn_40 : decode cX2_standsOn 40 = .ok (.iload_n 2, 1) := by decide +kernel
theorem dX2_standsOn_41 : decode cX2_standsOn 41 = .ok (.if_icmp .gt 13, 3) := by decide +kernel
theorem dX2_standsOn_44 : decode cX2_standsOn 44 = .ok (.iload_n 3, 1) := by decide +kernel
theorem dX2_standsOn_45 : decode cX2_standsOn 45 = .ok (.ifCond .ne 7, 3) := by decide +kernel
theorem dX2_standsOn_48 : decode cX2_standsOn 48 = .ok (.iconst 1, 1) := by decide +kernel
theorem dX2_standsOn_49 : decode cX2_standsOn 49 = .ok (.goto 4, 3) := by decide +kernel
theorem dX2_standsOn_52 : decode cX2_standsOn 52 = .ok (.iconst 0, 1) := by decide +kernel
theorem dX2_standsOn_53 : decode cX2_standsOn 53 = .ok (.istore_n 3, 1) := by decide +kernel
theorem dX2_standsOn_54 : decode cX2_standsOn 54 = .ok (.iinc 4 1, 3) := by decide +kernel
theorem dX2_standsOn_57 : decode cX2_standsOn 57 = .ok (.goto (-40), 3) := by decide +kernel
theorem dX2_standsOn_60 : decode cX2_standsOn 60 = .ok (.iload_n 3, 1) := by decide +kernel
theorem dX2_standsOn_61 : decode cX2_standsOn 61 = .ok (.ireturn, 1) := by decide +kernel
theorem dX3_init_0 : decode cX3_init 0 = .ok (.aload_n 0, 1) := by decide +kernel
theorem dX3_init_1 : decode cX3_init 1 = .ok (.invokespecial 3, 3) := by decide +kernel
theorem dX3_init_4 : decode cX3_init 4 = .ok (.aload_n 0, 1) := by decide +kernel
theorem dX3_init_5 : decode cX3_init 5 = .ok (.bipush 60, 2) := by decide +kernel
theorem dX3_init_7 : decode cX3_init 7 = .ok (.newarray .int, 2) := by decide +kernel
theorem dX3_init_9 : decode cX3_init 9 = .ok (.putfield 9, 3) := by decide +kernel
theorem dX3_init_12 : decode cX3_init 12 = .ok (.aload_n 0, 1) := by decide +kernel
theorem dX3_init_13 : decode cX3_init 13 = .ok (.bipush 60, 2) := by decide +kernel
theorem dX3_init_15 : decode cX3_init 15 = .ok (.newarray .int, 2) := by decide +kernel
theorem dX3_init_17 : decode cX3_init 17 = .ok (.putfield 15, 3) := by decide +kernel
theorem dX3_init_20 : decode cX3_init 20 = .ok (.aload_n 0, 1) := by decide +kernel
theorem dX3_init_21 : decode cX3_init 21 = .ok (.bipush 60, 2) := by decide +kernel
theorem dX3_init_23 : decode cX3_init 23 = .ok (.newarray .int, 2) := by decide +kernel
theorem dX3_init_25 : decode cX3_init 25 = .ok (.putfield 18, 3) := by decide +kernel
theorem dX3_init_28 : decode cX3_init 28 = .ok (.aload_n 0, 1) := by decide +kernel
theorem dX3_init_29 : decode cX3_init 29 = .ok (.bipush 10, 2) := by decide +kernel
theorem dX3_init_31 : decode cX3_init 31 = .ok (.newarray .long, 2) := by decide +kernel
theorem dX3_init_33 : decode cX3_init 33 = .ok (.putfield 21, 3) := by decide +kernel
theorem dX3_init_36 : decode cX3_init 36 = .ok (.return_, 1) := by decide +kernel
theorem dX3_placeOf_0 : decode cX3_placeOf 0 = .ok (.iload_n 0, 1) := by decide +kernel
theorem dX3_placeOf_1 : decode cX3_placeOf 1 = .ok (.bipush 10, 2) := by decide +kernel
theorem dX3_placeOf_3 : decode cX3_placeOf 3 = .ok (.imul, 1) := by decide +kernel
theorem dX3_placeOf_4 : decode cX3_placeOf 4 = .ok (.iload_n 1, 1) := by decide +kernel
theorem dX3_placeOf_5 : decode cX3_placeOf 5 = .ok (.iadd, 1) := by decide +kernel
theorem dX3_placeOf_6 : decode cX3_placeOf 6 = .ok (.ireturn, 1) := by decide +kernel
set_option maxRecDepth 20000 in
theorem ggX3_has_X9_isWithin : GoodIn wsX3_has wsX9_isWithin := goodIn_r _ [4] (by decide +kernel) (by decide +kernel)
set_option maxRecDepth 20000 in
theorem gX3_has_X9_isWithin_n29 : GoodIn wsX3_has (wsX9_isWithin) := ggX3_has_X9_isWithin
theorem dX3_has_0 : decode cX3_has 0 = .ok (.iload_n 1, 1) := by decide +kernel
theorem dX3_has_1 : decode cX3_has 1 = .ok (.iconst 0, 1) := by decide +kernel
theorem dX3_has_2 : decode cX3_has 2 = .ok (.aload_n 0, 1) := by decide +kernel
theorem dX3_has_3 : decode cX3_has 3 = .ok (.getfield 25, 3) := by decide +kernel
theorem dX3_has_6 : decode cX3_has 6 = .ok (.iconst 1, 1) := by decide +kernel
theorem dX3_has_7 : decode cX3_has 7 = .ok (.isub, 1) := by decide +kernel
theorem dX3_has_8 : decode cX3_has 8 = .ok (.invokestatic 29, 3) := by decide +kernel
theorem dX3_has_11 : decode cX3_has 11 = .ok (.ireturn, 1) := by decide +kernel
set_option maxRecDepth 20000 in
theorem ggX3_add_X9_sumOf : GoodIn wsX3_add wsX9_sumOf := goodIn_r _ [6] (by decide +kernel) (by decide +kernel)
set_option maxRecDepth 20000 in
theorem gX3_add_X9_sumOf_n33 : GoodIn wsX3_add (wsX9_sumOf) := ggX3_add_X9_sumOf
set_option maxRecDepth 20000 in
theorem ggX3_add_X3_placeOf : GoodIn wsX3_add wsX3_placeOf := goodIn_r _ [10] (by decide +kernel) (by decide +kernel)
set_option maxRecDepth 20000 in
theorem gX3_add_X3_placeOf : GoodIn wsX3_add (va_wsS RX3 37 yX3_placeOf wsX3_placeOf) := goodIn_app (goodIn_of _ (by decide +kernel)) ggX3_add_X3_placeOf
set_option maxRecDepth 20000 in
theorem ggX3_add_X3_spread : GoodIn wsX3_add wsX3_spread := goodIn_r _ [14, 2, 1, 3, 15, 16, 17, 18, 9, 19, 7, 8, 10, 20, 21, 22, 23, 24] (by decide +kernel) (by decide +kernel)
set_option maxRecDepth 20000 in
theorem gX3_add_X3_spread : GoodIn wsX3_add (wsV RX3 41 RX3 yX3_spread wsX3_spread) := goodIn_app (goodIn_of _ (by decide +kernel)) ggX3_add_X3_spread
theorem dX3_add_0 : decode cX3_add 0 = .ok (.aload_n 2, 1) := by decide +kernel
theorem dX3_add_1 : decode cX3_add 1 = .ok (.invokestatic 33, 3) := by decide +kernel
theorem dX3_add_4 : decode cX3_add 4 = .ok (.istore_n 3, 1) := by decide +kernel
theorem dX3_add_5 : decode cX3_add 5 = .ok (.iload_n 3, 1) := by decide +kernel
theorem dX3_add_6 : decode cX3_add 6 = .ok (.ifCond .le 12, 3) := by decide +kernel
theorem dX3_add_9 : decode cX3_add 9 = .ok (.aload_n 0, 1) := by decide +kernel
theorem dX3_add_10 : decode cX3_add 10 = .ok (.getfield 25, 3) := by decide +kernel
theorem dX3_add_13 : decode cX3_add 13 = .ok (.bipush 6, 2) := by decide +kernel
theorem dX3_add_15 : decode cX3_add 15 = .ok (.if_icmp .lt 4, 3) := by decide +kernel
theorem dX3_add_18 : decode cX3_add 18 = .ok (.return_, 1) := by decide +kernel
theorem dX3_add_19 : decode cX3_add 19 = .ok (.iload_n 1, 1) := by decide +kernel
theorem dX3_add_20 : decode cX3_add 20 = .ok (.istore 4, 2) := by decide +kernel
theorem dX3_add_22 : decode cX3_add 22 = .ok (.iconst 0, 1) := by decide +kernel
theorem dX3_add_23 : decode cX3_add 23 = .ok (.istore 5, 2) := by decide +kernel
theorem dX3_add_25 : decode cX3_add 25 = .ok (.iload 5, 2) := by decide +kernel
theorem dX3_add_27 : decode cX3_add 27 = .ok (.bipush 10, 2) := by decide +kernel
theorem dX3_add_29 : decode cX3_add 29 = .ok (.if_icmp .ge 62, 3) := by decide +kernel
theorem dX3_add_32 : decode cX3_add 32 = .ok (.iload_n 1, 1) := by decide +kernel
theorem dX3_add_33 : decode cX3_add 33 = .ok (.i2l, 1) := by decide +kernel
theorem dX3_add_34 : decode cX3_add 34 = .ok (.aload_n 2, 1) := by decide +kernel
theorem dX3_add_35 : decode cX3_add 35 = .ok (.iload 5, 2) := by decide +kernel
theorem dX3_add_37 : decode cX3_add 37 = .ok (.iaload, 1) := by decide +kernel
theorem dX3_add_38 : decode cX3_add 38 = .ok (.i2l, 1) := by decide +kernel
theorem dX3_add_39 : decode cX3_add 39 = .ok (.lmul, 1) := by decide +kernel
theorem dX3_add_40 : decode cX3_add 40 = .ok (.lstore 6, 2) := by decide +kernel
theorem dX3_add_42 : decode cX3_add 42 = .ok (.lload 6, 2) := by decide +kernel
theorem dX3_add_44 : decode cX3_add 44 = .ok (.iload_n 3, 1) := by decide +kernel
theorem dX3_add_45 : decode cX3_add 45 = .ok (.i2l, 1) := by decide +kernel
theorem dX3_add_46 : decode cX3_add 46 = .ok (.ldiv, 1) := by decide +kernel
theorem dX3_add_47 : decode cX3_add 47 = .ok (.l2i, 1) := by decide +kernel
theorem dX3_add_48 : decode cX3_add 48 = .ok (.istore 8, 2) := by decide +kernel
theorem dX3_add_50 : decode cX3_add 50 = .ok (.aload_n 0, 1) := by decide +kernel
theorem dX3_add_51 : decode cX3_add 51 = .ok (.getfield 9, 3) := by decide +kernel
theorem dX3_add_54 : decode cX3_add 54 = .ok (.aload_n 0, 1) := by decide +kernel
theorem dX3_add_55 : decode cX3_add 55 = .ok (.getfield 25, 3) := by decide +kernel
theorem dX3_add_58 : decode cX3_add 58 = .ok (.iload 5, 2) := by decide +kernel
theorem dX3_add_60 : decode cX3_add 60 = .ok (.invokestatic 37, 3) := by decide +kernel
theorem dX3_add_63 : decode cX3_add 63 = .ok (.iload 8, 2) := by decide +kernel
theorem dX3_add_65 : decode cX3_add 65 = .ok (.iastore, 1) := by decide +kernel
theorem dX3_add_66 : decode cX3_add 66 = .ok (.aload_n 0, 1) := by decide +kernel
theorem dX3_add_67 : decode cX3_add 67 = .ok (.getfield 21, 3) := by decide +kernel
theorem dX3_add_70 : decode cX3_add 70 = .ok (.iload 5, 2) := by decide +kernel
theorem dX3_add_72 : decode cX3_add 72 = .ok (.lload 6, 2) := by decide +kernel
theorem dX3_add_74 : decode cX3_add 74 = .ok (.iload_n 3, 1) := by decide +kernel
theorem dX3_add_75 : decode cX3_add 75 = .ok (.i2l, 1) := by decide +kernel
theorem dX3_add_76 : decode cX3_add 76 = .ok (.lrem, 1) := by decide +kernel
theorem dX3_add_77 : decode cX3_add 77 = .ok (.lastore, 1) := by decide +kernel
theorem dX3_add_78 : decode cX3_add 78 = .ok (.iload 4, 2) := by decide +kernel
theorem dX3_add_80 : decode cX3_add 80 = .ok (.iload 8, 2) := by decide +kernel
theorem dX3_add_82 : decode cX3_add 82 = .ok (.isub, 1) := by decide +kernel
theorem dX3_add_83 : decode cX3_add 83 = .ok (.istore 4, 2) := by decide +kernel
theorem dX3_add_85 : decode cX3_add 85 = .ok (.iinc 5 1, 3) := by decide +kernel
theorem dX3_add_88 : decode cX3_add 88 = .ok (.goto (-63), 3) := by decide +kernel
theorem dX3_add_91 : decode cX3_add 91 = .ok (.aload_n 0, 1) := by decide +kernel
theorem dX3_add_92 : decode cX3_add 92 = .ok (.iload 4, 2) := by decide +kernel
theorem dX3_add_94 : decode cX3_add 94 = .ok (.invokevirtual 41, 3) := by decide +kernel
theorem dX3_add_97 : decode cX3_add 97 = .ok (.aload_n 0, 1) := by decide +kernel
theorem dX3_add_98 : decode cX3_add 98 = .ok (.dup, 1) := by decide +kernel
theorem dX3_add_99 : decode cX3_add 99 = .ok (.getfield 25, 3) := by decide +kernel
theorem dX3_add_102 : decode cX3_add 102 = .ok (.iconst 1, 1) := by decide +kernel
theorem dX3_add_103 : decode cX3_add 103 = .ok (.iadd, 1) := by decide +kernel
theorem dX3_add_104 : decode cX3_add 104 = .ok (.putfield 25, 3) := by decide +kernel
theorem dX3_add_107 : decode cX3_add 107 = .ok (.return_, 1) := by decide +kernel
set_option maxRecDepth 20000 in
theorem ggX3_spread_X3_houseOfGreatestRest : GoodIn wsX3_spread wsX3_houseOfGreatestRest := goodIn_r _ [9, 3, 13, 14, 15, 16, 17] (by decide +kernel) (by decide +kernel)
set_option maxRecDepth 20000 in
theorem gX3_spread_X3_houseOfGreatestRest : GoodIn wsX3_spread (wsV RX3 45 RX3 yX3_houseOfGreatestRest wsX3_houseOfGreatestRest) := goodIn_app (goodIn_of _ (by decide +kernel)) ggX3_spread_X3_houseOfGreatestRest
set_option maxRecDepth 20000 in
theorem ggX3_spread_X3_placeOf : GoodIn wsX3_spread wsX3_placeOf := goodIn_r _ [12] (by decide +kernel) (by decide +kernel)
set_option maxRecDepth 20000 in
theorem gX3_spread_X3_placeOf : GoodIn wsX3_spread (va_wsS RX3 37 yX3_placeOf wsX3_placeOf) := goodIn_app (goodIn_of _ (by decide +kernel)) ggX3_spread_X3_placeOf
theorem dX3_spread_0 : decode cX3_spread 0 = .ok (.iconst 0, 1) := by decide +kernel
theorem dX3_spread_1 : decode cX3_spread 1 = .ok (.istore_n 2, 1) := by decide +kernel
theorem dX3_spread_2 : decode cX3_spread 2 = .ok (.iload_n 2, 1) := by decide +kernel
theorem dX3_spread_3 : decode cX3_spread 3 = .ok (.iload_n 1, 1) := by decide +kernel
theorem dX3_spread_4 : decode cX3_spread 4 = .ok (.if_icmp .ge 46, 3) := by decide +kernel
theorem dX3_spread_7 : decode cX3_spread 7 = .ok (.iload_n 2, 1) := by decide +kernel
theorem dX3_spread_8 : decode cX3_spread 8 = .ok (.bipush 10, 2) := by decide +kernel
theorem dX3_spread_10 : decode cX3_spread 10 = .ok (.if_icmp .ge 40, 3) := by decide +kernel
theorem dX3_spread_13 : decode cX3_spread 13 = .ok (.aload_n 0, 1) := by decide +kernel
theorem dX3_spread_14 : decode cX3_spread 14 = .ok (.invokevirtual 45, 3) := by decide +kernel
theorem dX3_spread_17 : decode cX3_spread 17 = .ok (.istore_n 3, 1) := by decide +kernel
theorem dX3_spread_18 : decode cX3_spread 18 = .ok (.aload_n 0, 1) := by decide +kernel
theorem dX3_spread_19 : decode cX3_spread 19 = .ok (.getfield 9, 3) := by decide +kernel
theorem dX3_spread_22 : decode cX3_spread 22 = .ok (.aload_n 0, 1) := by decide +kernel
theorem dX3_spread_23 : decode cX3_spread 23 = .ok (.getfield 25, 3) := by decide +kernel
theorem dX3_spread_26 : decode cX3_spread 26 = .ok (.iload_n 3, 1) := by decide +kernel
theorem dX3_spread_27 : decode cX3_spread 27 = .ok (.invokestatic 37, 3) := by decide +kernel
theorem dX3_spread_30 : decode cX3_spread 30 = .ok (.dup2, 1) := by decide +kernel
theorem dX3_spread_31 : decode cX3_spread 31 = .ok (.iaload, 1) := by decide +kernel
theorem dX3_spread_32 : decode cX3_spread 32 = .ok (.iconst 1, 1) := by decide +kernel
theorem dX3_spread_33 : decode cX3_spread 33 = .ok (.iadd, 1) := by decide +kernel
theorem dX3_spread_34 : decode cX3_spread 34 = .ok (.iastore, 1) := by decide +kernel
theorem dX3_spread_35 : decode cX3_spread 35 = .ok (.aload_n 0, 1) := by decide +kernel
theorem dX3_spread_36 : decode cX3_spread 36 = .ok (.getfield 21, 3) := by decide +kernel
theorem dX3_spread_39 : decode cX3_spread 39 = .ok (.iload_n 3, 1) := by decide +kernel
theorem dX3_spread_40 : decode cX3_spread 40 = .ok (.ldc2_w 49, 3) := by decide +kernel
theorem dX3_spread_43 : decode cX3_spread 43 = .ok (.lastore, 1) := by decide +kernel
theorem dX3_spread_44 : decode cX3_spread 44 = .ok (.iinc 2 1, 3) := by decide +kernel
theorem dX3_spread_47 : decode cX3_spread 47 = .ok (.goto (-45), 3) := by decide +kernel
theorem dX3_spread_50 : decode cX3_spread 50 = .ok (.return_, 1) := by decide +kernel
theorem dX3_houseOfGreatestRest_0 : decode cX3_houseOfGreatestRest 0 = .ok (.iconst 0, 1) := by decide +kernel
theorem dX3_houseOfGreatestRest_1 : decode cX3_houseOfGreatestRest 1 = .ok (.istore_n 1, 1) := by decide +kernel
theorem dX3_houseOfGreatestRest_2 : decode cX3_houseOfGreatestRest 2 = .ok (.iconst 1, 1) := by decide +kernel
theorem dX3_houseOfGreatestRest_3 : decode cX3_houseOfGreatestRest 3 = .ok (.istore_n 2, 1) := by decide +kernel
theorem dX3_houseOfGreatestRest_4 : decode cX3_houseOfGreatestRest 4 = .ok (.iload_n 2, 1) := by decide +kernel
theorem dX3_houseOfGreatestRest_5 : decode cX3_houseOfGreatestRest 5 = .ok (.bipush 10, 2) := by decide +kernel
theorem dX3_houseOfGreatestRest_7 : decode cX3_houseOfGreatestRest 7 = .ok (.if_icmp .ge 27, 3) := by decide +kernel
theorem dX3_houseOfGreatestRest_10 : decode cX3_houseOfGreatestRest 10 = .ok (.aload_n 0, 1) := by decide +kernel
theorem dX3_houseOfGreatestRest_11 : decode cX3_houseOfGreatestRest 11 = .ok (.getfield 21, 3) := by decide +kernel
theorem dX3_houseOfGreatestRest_14 : decode cX3_houseOfGreatestRest 14 = .ok (.iload_n 2, 1) := by decide +kernel
theorem dX3_houseOfGreatestRest_15 : decode cX3_houseOfGreatestRest 15 = .ok (.laload, 1) := by decide +kernel
theorem dX3_houseOfGreatestRest_16 : decode cX3_houseOfGreatestRest 16 = .ok (.aload_n 0, 1) := by decide +kernel
theorem dX3_houseOfGreatestRest_17 : decode cX3_houseOfGreatestRest 17 = .ok (.getfield 21, 3) := by decide +kernel
theorem dX3_houseOfGreatestRest_20 : decode cX3_houseOfGreatestRest 20 = .ok (.iload_n 1, 1) := by decide +kernel
theorem dX3_houseOfGreatestRest_21 : decode cX3_houseOfGreatestRest 21 = .ok (.laload, 1) := by decide +kernel
theorem dX3_houseOfGreatestRest_22 : decode cX3_houseOfGreatestRest 22 = .ok (.lcmp, 1) := by decide +kernel
theorem dX3_houseOfGreatestRest_23 : decode cX3_houseOfGreatestRest 23 = .ok (.ifCond .le 5, 3) := by decide +kernel
theorem dX3_houseOfGreatestRest_26 : decode cX3_houseOfGreatestRest 26 = .ok (.iload_n 2, 1) := by decide +kernel
theorem dX3_houseOfGreatestRest_27 : decode cX3_houseOfGreatestRest 27 = .ok (.istore_n 1, 1) := by decide +kernel
theorem dX3_houseOfGreatestRest_28 : decode cX3_houseOfGreatestRest 28 = .ok (.iinc 2 1, 3) := by decide +kernel
theorem dX3_houseOfGreatestRest_31 : decode cX3_houseOfGreatestRest 31 = .ok (.goto (-27), 3) := by decide +kernel
theorem dX3_houseOfGreatestRest_34 : decode cX3_houseOfGreatestRest 34 = .ok (.iload_n 1, 1) := by decide +kernel
theorem dX3_houseOfGreatestRest_35 : decode cX3_houseOfGreatestRest 35 = .ok (.ireturn, 1) := by decide +kernel
theorem dX4_init_0 : decode cX4_init 0 = .ok (.aload_n 0, 1) := by decide +kernel
theorem dX4_init_1 : decode cX4_init 1 = .ok (.invokespecial 3, 3) := by decide +kernel
theorem dX4_init_4 : decode cX4_init 4 = .ok (.aload_n 0, 1) := by decide +kernel
theorem dX4_init_5 : decode cX4_init 5 = .ok (.bipush 12, 2) := by decide +kernel
theorem dX4_init_7 : decode cX4_init 7 = .ok (.newarray .int, 2) := by decide +kernel
theorem dX4_init_9 : decode cX4_init 9 = .ok (.putfield 9, 3) := by decide +kernel
theorem dX4_init_12 : decode cX4_init 12 = .ok (.aload_n 0, 1) := by decide +kernel
theorem dX4_init_13 : decode cX4_init 13 = .ok (.bipush 12, 2) := by decide +kernel
theorem dX4_init_15 : decode cX4_init 15 = .ok (.newarray .int, 2) := by decide +kernel
theorem dX4_init_17 : decode cX4_init 17 = .ok (.putfield 15, 3) := by decide +kernel
theorem dX4_init_20 : decode cX4_init 20 = .ok (.return_, 1) := by decide +kernel
theorem dX4_measuredCount_0 : decode cX4_measuredCount 0 = .ok (.iconst 0, 1) := by decide +kernel
theorem dX4_measuredCount_1 : decode cX4_measuredCount 1 = .ok (.istore_n 1, 1) := by decide +kernel
theorem dX4_measuredCount_2 : decode cX4_measuredCount 2 = .ok (.aload_n 0, 1) := by decide +kernel
theorem dX4_measuredCount_3 : decode cX4_measuredCount 3 = .ok (.getfield 9, 3) := by decide +kernel
theorem dX4_measuredCount_6 : decode cX4_measuredCount 6 = .ok (.astore_n 2, 1) := by decide +kernel
theorem dX4_measuredCount_7 : decode cX4_measuredCount 7 = .ok (.aload_n 2, 1) := by decide +kernel
theorem dX4_measuredCount_8 : decode cX4_measuredCount 8 = .ok (.arraylength, 1) := by decide +kernel
theorem dX4_measuredCount_9 : decode cX4_measuredCount 9 = .ok (.istore_n 3, 1) := by decide +kernel
theorem dX4_measuredCount_10 : decode cX4_measuredCount 10 = .ok (.iconst 0, 1) := by decide +kernel
theorem dX4_measuredCount_11 : decode cX4_measuredCount 11 = .ok (.istore 4, 2) := by decide +kernel
theorem dX4_measuredCount_13 : decode cX4_measuredCount 13 = .ok (.iload 4, 2) := by decide +kernel
theorem dX4_measuredCount_15 : decode cX4_measuredCount 15 = .ok (.iload_n 3, 1) := by decide +kernel
theorem dX4_measuredCount_16 : decode cX4_measuredCount 16 = .ok (.if_icmp .ge 23, 3) := by decide +kernel
theorem dX4_measuredCount_19 : decode cX4_measuredCount 19 = .ok (.aload_n 2, 1) := by decide +kernel
theorem dX4_measuredCount_20 : decode cX4_measuredCount 20 = .ok (.iload 4, 2) := by decide +kernel
theorem dX4_measuredCount_22 : decode cX4_measuredCount 22 = .ok (.iaload, 1) := by decide +kernel
theorem dX4_measuredCount_23 : decode cX4_measuredCount 23 = .ok (.istore 5, 2) := by decide +kernel
theorem dX4_measuredCount_25 : decode cX4_measuredCount 25 = .ok (.iload 5, 2) := by decide +kernel
theorem dX4_measuredCount_27 : decode cX4_measuredCount 27 = .ok (.ifCond .le 6, 3) := by decide +kernel
theorem dX4_measuredCount_30 : decode cX4_measuredCount 30 = .ok (.iinc 1 1, 3) := by decide +kernel
theorem dX4_measuredCount_33 : decode cX4_measuredCount 33 = .ok (.iinc 4 1, 3) := by decide +kernel
theorem dX4_measuredCount_36 : decode cX4_measuredCount 36 = .ok (.goto (-23), 3) := by decide +kernel
theorem dX4_measuredCount_39 : decode cX4_measuredCount 39 = .ok (.iload_n 1, 1) := by decide +kernel
theorem dX4_measuredCount_40 : decode cX4_measuredCount 40 = .ok (.ireturn, 1) := by decide +kernel
theorem dX5_init_0 : decode cX5_init 0 = .ok (.aload_n 0, 1) := by decide +kernel
theorem dX5_init_1 : decode cX5_init 1 = .ok (.invokespecial 3, 3) := by decide +kernel
theorem dX5_init_4 : decode cX5_init 4 = .ok (.aload_n 0, 1) := by decide +kernel
theorem dX5_init_5 : decode cX5_init 5 = .ok (.bipush 8, 2) := by decide +kernel
theorem dX5_init_7 : decode cX5_init 7 = .ok (.newarray .int, 2) := by decide +kernel
theorem dX5_init_9 : decode cX5_init 9 = .ok (.putfield 9, 3) := by decide +kernel
theorem dX5_init_12 : decode cX5_init 12 = .ok (.aload_n 0, 1) := by decide +kernel
theorem dX5_init_13 : decode cX5_init 13 = .ok (.bipush 8, 2) := by decide +kernel
theorem dX5_init_15 : decode cX5_init 15 = .ok (.newarray .int, 2) := by decide +kernel
theorem dX5_init_17 : decode cX5_init 17 = .ok (.putfield 15, 3) := by decide +kernel
theorem dX5_init_20 : decode cX5_init 20 = .ok (.aload_n 0, 1) := by decide +kernel
theorem dX5_init_21 : decode cX5_init 21 = .ok (.bipush 8, 2) := by decide +kernel
theorem dX5_init_23 : decode cX5_init 23 = .ok (.newarray .int, 2) := by decide +kernel
theorem dX5_init_25 : decode cX5_init 25 = .ok (.putfield 18, 3) := by decide +kernel
theorem dX5_init_28 : decode cX5_init 28 = .ok (.aload_n 0, 1) := by decide +kernel
theorem dX5_init_29 : decode cX5_init 29 = .ok (.aload_n 1, 1) := by decide +kernel
theorem dX5_init_30 : decode cX5_init 30 = .ok (.putfield 21, 3) := by decide +kernel
theorem dX5_init_33 : decode cX5_init 33 = .ok (.return_, 1) := by decide +kernel
set_option maxRecDepth 20000 in
theorem ggX5_readText_X5_readLine : GoodIn wsX5_readText wsX5_readLine := goodIn_r _ [8, 9, 3, 1, 10, 11, 12, 13, 14, 15, 7, 16, 17, 18, 19, 20, 21, 2, 22, 23, 24, 25, 26, 27, 28, 29, 30, 31, 32, 33, 34, 35, 36, 37, 38, 39, 40, 41, 42, 43, 44, 45, 46, 47, 48, 49, 50, 51, 52, 53, 54, 55, 56, 57, 58, 59, 60, 61, 62, 63, 64, 65, 66, 67, 68, 69, 70, 71, 72, 73, 74, 75, 76, 77, 78, 79, 80, 81, 82, 83, 84, 85, 86, 87, 88, 89, 90, 91, 92, 93, 94, 95, 96, 97, 98, 99, 100, 101, 102, 103, 104, 105, 106, 107, 112, 113, 114, 115, 116, 117, 118, 119, 120, 121] (by decide +kernel) (by decide +kernel)
set_option maxRecDepth 20000 in
theorem gX5_readText_X5_readLine : GoodIn wsX5_readText (wsV RX5 35 RX5 yX5_readLine wsX5_readLine) := goodIn_app (goodIn_of _ (by decide +kernel)) ggX5_readText_X5_readLine
set_option maxRecDepth 20000 in
theorem ggX5_readText_X5_isAnotherAhead : GoodIn wsX5_readText wsX5_isAnotherAhead := goodIn_r _ [111, 17, 22, 3, 18, 19, 20, 7, 21, 2, 23, 24, 25, 26, 27, 28, 112, 113, 114, 115, 116, 117, 118, 119, 120, 121] (by decide +kernel) (by decide +kernel)
set_option maxRecDepth 20000 in
theorem gX5_readText_X5_isAnotherAhead : GoodIn wsX5_readText (wsV RX5 39 RX5 yX5_isAnotherAhead wsX5_isAnotherAhead) := goodIn_app (goodIn_of _ (by decide +kernel)) ggX5_readText_X5_isAnotherAhead
theorem dX5_readText_0 : decode cX5_readText 0 = .ok (.aload_n 0, 1) := by decide +kernel
theorem dX5_readText_1 : decode cX5_readText 1 = .ok (.iconst 0, 1) := by decide +kernel
theorem dX5_readText_2 : decode cX5_readText 2 = .ok (.putfield 25, 3) := by decide +kernel
theorem dX5_readText_5 : decode cX5_readText 5 = .ok (.aload_n 0, 1) := by decide +kernel
theorem dX5_readText_6 : decode cX5_readText 6 = .ok (.iconst 0, 1) := by decide +kernel
theorem dX5_readText_7 : decode cX5_readText 7 = .ok (.putfield 29, 3) := by decide +kernel
theorem dX5_readText_10 : decode cX5_readText 10 = .ok (.aload_n 0, 1) := by decide +kernel
theorem dX5_readText_11 : decode cX5_readText 11 = .ok (.iconst (-1), 1) := by decide +kernel
theorem dX5_readText_12 : decode cX5_readText 12 = .ok (.putfield 32, 3) := by decide +kernel
theorem dX5_readText_15 : decode cX5_readText 15 = .ok (.iconst 1, 1) := by decide +kernel
theorem dX5_readText_16 : decode cX5_readText 16 = .ok (.istore_n 2, 1) := by decide +kernel
theorem dX5_readText_17 : decode cX5_readText 17 = .ok (.iconst 0, 1) := by decide +kernel
theorem dX5_readText_18 : decode cX5_readText 18 = .ok (.istore_n 3, 1) := by decide +kernel
theorem dX5_readText_19 : decode cX5_readText 19 = .ok (.iload_n 2, 1) := by decide +kernel
theorem dX5_readText_20 : decode cX5_readText 20 = .ok (.ifCond .eq 41, 3) := by decide +kernel
theorem dX5_readText_23 : decode cX5_readText 23 = .ok (.iload_n 3, 1) := by decide +kernel
theorem dX5_readText_24 : decode cX5_readText 24 = .ok (.bipush 8, 2) := by decide +kernel
theorem dX5_readText_26 : decode cX5_readText 26 = .ok (.if_icmp .ge 35, 3) := by decide +kernel
theorem dX5_readText_29 : decode cX5_readText 29 = .ok (.aload_n 0, 1) := by decide +kernel
theorem dX5_readText_30 : decode cX5_readText 30 = .ok (.iload_n 1, 1) := by decide +kernel
theorem dX5_readText_31 : decode cX5_readText 31 = .ok (.invokevirtual 35, 3) := by decide +kernel
theorem dX5_readText_34 : decode cX5_readText 34 = .ok (.aload_n 0, 1) := by decide +kernel
theorem dX5_readText_35 : decode cX5_readText 35 = .ok (.getfield 32, 3) := by decide +kernel
theorem dX5_readText_38 : decode cX5_readText 38 = .ok (.iconst (-1), 1) := by decide +kernel
theorem dX5_readText_39 : decode cX5_readText 39 = .ok (.if_icmp .ne 14, 3) := by decide +kernel
theorem dX5_readText_42 : decode cX5_readText 42 = .ok (.aload_n 0, 1) := by decide +kernel
theorem dX5_readText_43 : decode cX5_readText 43 = .ok (.invokevirtual 39, 3) := by decide +kernel
theorem dX5_readText_46 : decode cX5_readText 46 = .ok (.ifCond .eq 7, 3) := by decide +kernel
theorem dX5_readText_49 : decode cX5_readText 49 = .ok (.iconst 1, 1) := by decide +kernel
theorem dX5_readText_50 : decode cX5_readText 50 = .ok (.goto 4, 3) := by decide +kernel
theorem dX5_readText_53 : decode cX5_readText 53 = .ok (.iconst 0, 1) := by decide +kernel
theorem dX5_readText_54 : decode cX5_readText 54 = .ok (.istore_n 2, 1) := by decide +kernel
theorem dX5_readText_55 : decode cX5_readText 55 = .ok (.iinc 3 1, 3) := by decide +kernel
theorem dX5_readText_58 : decode cX5_readText 58 = .ok (.goto (-39), 3) := by decide +kernel
theorem dX5_readText_61 : decode cX5_readText 61 = .ok (.aload_n 0, 1) := by decide +kernel
theorem dX5_readText_62 : decode cX5_readText 62 = .ok (.getfield 32, 3) := by decide +kernel
theorem dX5_readText_65 : decode cX5_readText 65 = .ok (.ireturn, 1) := by decide +kernel
set_option maxRecDepth 20000 in
theorem ggX5_readLine_X5_readKind : GoodIn wsX5_readLine wsX5_readKind := goodIn_r _ [11, 12, 2, 13, 14, 15, 10, 16, 17, 18, 19, 20, 21, 22, 23, 24, 25, 26, 27, 28, 29, 30, 31, 32, 33, 34, 35, 36, 37, 38, 39, 40, 41, 42, 43, 44, 45, 46, 47, 48, 49, 50, 51, 52, 53, 54, 55, 56, 57, 58, 59, 60, 61, 62, 63, 64, 65, 66, 67, 68, 69, 70, 71, 72, 73, 74, 75, 76, 77, 78, 79, 80, 104, 105, 106, 107, 108, 109, 110, 111, 112, 113] (by decide +kernel) (by decide +kernel)
set_option maxRecDepth 20000 in
theorem gX5_readLine_X5_readKind : GoodIn wsX5_readLine (wsV RX5 43 RX5 yX5_readKind wsX5_readKind) := goodIn_app (goodIn_of _ (by decide +kernel)) ggX5_readLine_X5_readKind
set_option maxRecDepth 20000 in
theorem ggX5_readLine_X5_readNumber : GoodIn wsX5_readLine wsX5_readNumber := goodIn_r _ [84, 12, 2, 1, 13, 14, 15, 10, 16, 17, 18, 19, 20, 21, 22, 23, 24, 85, 86, 87, 88, 89, 90, 91, 92, 93, 104, 105, 106, 107, 108, 109, 110, 111, 112, 113] (by decide +kernel) (by decide +kernel)
set_option maxRecDepth 20000 in
theorem gX5_readLine_X5_readNumber : GoodIn wsX5_readLine (wsV RX5 48 RX5 yX5_readNumber wsX5_readNumber) := goodIn_app (goodIn_of _ (by decide +kernel)) ggX5_readLine_X5_readNumber
set_option maxRecDepth 20000 in
theorem ggX5_readLine_X9_isKindOf : GoodIn wsX5_readLine wsX9_isKindOf := goodIn_r _ [96] (by decide +kernel) (by decide +kernel)
set_option maxRecDepth 20000 in
theorem gX5_readLine_X9_isKindOf_n52 : GoodIn wsX5_readLine (wsX9_isKindOf) := ggX5_readLine_X9_isKindOf
set_option maxRecDepth 20000 in
theorem ggX5_readLine_X5_readOtherHouse : GoodIn wsX5_readLine wsX5_readOtherHouse := goodIn_r _ [100, 12, 2, 81, 82, 83, 10, 84, 1, 13, 14, 15, 16, 17, 18, 19, 20, 21, 22, 23, 24, 85, 86, 87, 88, 89, 90, 91, 92, 93, 104, 105, 106, 107, 108, 109, 110, 111, 112, 113] (by decide +kernel) (by decide +kernel)
set_option maxRecDepth 20000 in
theorem gX5_readLine_X5_readOtherHouse : GoodIn wsX5_readLine (wsV RX5 56 RX5 yX5_readOtherHouse wsX5_readOtherHouse) := goodIn_app (goodIn_of _ (by decide +kernel)) ggX5_readLine_X5_readOtherHouse
set_option maxRecDepth 20000 in
theorem ggX5_readLine_X5_mostOfKind : GoodIn wsX5_readLine wsX5_mostOfKind := goodIn_r _ [103] (by decide +kernel) (by decide +kernel)
set_option maxRecDepth 20000 in
theorem gX5_readLine_X5_mostOfKind : GoodIn wsX5_readLine (va_wsS RX5 60 yX5_mostOfKind wsX5_mostOfKind) := goodIn_app (goodIn_of _ (by decide +kernel)) ggX5_readLine_X5_mostOfKind
theorem dX5_readLine_0 : decode cX5_readLine 0 = .ok (.aload_n 0, 1) := by decide +kernel
theorem dX5_readLine_1 : decode cX5_readLine 1 = .ok (.invokevirtual 43, 3) := by decide +kernel
theorem dX5_readLine_4 : decode cX5_readLine 4 = .ok (.istore_n 2, 1) := by decide +kernel
theorem dX5_readLine_5 : decode cX5_readLine 5 = .ok (.ldc 47, 2) := by decide +kernel
theorem dX5_readLine_7 : decode cX5_readLine 7 = .ok (.istore_n 3, 1) := by decide +kernel
theorem dX5_readLine_8 : decode cX5_readLine 8 = .ok (.iload_n 2, 1) := by decide +kernel
theorem dX5_readLine_9 : decode cX5_readLine 9 = .ok (.iconst 1, 1) := by decide +kernel
theorem dX5_readLine_10 : decode cX5_readLine 10 = .ok (.if_icmp .ne 11, 3) := by decide +kernel
theorem dX5_readLine_13 : decode cX5_readLine 13 = .ok (.aload_n 0, 1) := by decide +kernel
theorem dX5_readLine_14 : decode cX5_readLine 14 = .ok (.iconst 0, 1) := by decide +kernel
theorem dX5_readLine_15 : decode cX5_readLine 15 = .ok (.bipush 11, 2) := by decide +kernel
theorem dX5_readLine_17 : decode cX5_readLine 17 = .ok (.invokevirtual 48, 3) := by decide +kernel
theorem dX5_readLine_20 : decode cX5_readLine 20 = .ok (.istore_n 3, 1) := by decide +kernel
theorem dX5_readLine_21 : decode cX5_readLine 21 = .ok (.iload_n 2, 1) := by decide +kernel
theorem dX5_readLine_22 : decode cX5_readLine 22 = .ok (.bipush 6, 2) := by decide +kernel
theorem dX5_readLine_24 : decode cX5_readLine 24 = .ok (.invokestatic 52, 3) := by decide +kernel
theorem dX5_readLine_27 : decode cX5_readLine 27 = .ok (.ifCond .eq 9, 3) := by decide +kernel
theorem dX5_readLine_30 : decode cX5_readLine 30 = .ok (.aload_n 0, 1) := by decide +kernel
theorem dX5_readLine_31 : decode cX5_readLine 31 = .ok (.iload_n 1, 1) := by decide +kernel
theorem dX5_readLine_32 : decode cX5_readLine 32 = .ok (.invokevirtual 56, 3) := by decide +kernel
theorem dX5_readLine_35 : decode cX5_readLine 35 = .ok (.istore_n 3, 1) := by decide +kernel
theorem dX5_readLine_36 : decode cX5_readLine 36 = .ok (.aload_n 0, 1) := by decide +kernel
theorem dX5_readLine_37 : decode cX5_readLine 37 = .ok (.getfield 32, 3) := by decide +kernel
theorem dX5_readLine_40 : decode cX5_readLine 40 = .ok (.iconst (-1), 1) := by decide +kernel
theorem dX5_readLine_41 : decode cX5_readLine 41 = .ok (.if_icmp .ne 15, 3) := by decide +kernel
theorem dX5_readLine_44 : decode cX5_readLine 44 = .ok (.aload_n 0, 1) := by decide +kernel
theorem dX5_readLine_45 : decode cX5_readLine 45 = .ok (.iconst 1, 1) := by decide +kernel
theorem dX5_readLine_46 : decode cX5_readLine 46 = .ok (.iload_n 2, 1) := by decide +kernel
theorem dX5_readLine_47 : decode cX5_readLine 47 = .ok (.invokestatic 60, 3) := by decide +kernel
theorem dX5_readLine_50 : decode cX5_readLine 50 = .ok (.invokevirtual 48, 3) := by decide +kernel
theorem dX5_readLine_53 : decode cX5_readLine 53 = .ok (.goto 5, 3) := by decide +kernel
theorem dX5_readLine_56 : decode cX5_readLine 56 = .ok (.ldc 47, 2) := by decide +kernel
theorem dX5_readLine_58 : decode cX5_readLine 58 = .ok (.istore 4, 2) := by decide +kernel
theorem dX5_readLine_60 : decode cX5_readLine 60 = .ok (.aload_n 0, 1) := by decide +kernel
theorem dX5_readLine_61 : decode cX5_readLine 61 = .ok (.getfield 32, 3) := by decide +kernel
theorem dX5_readLine_64 : decode cX5_readLine 64 = .ok (.iconst (-1), 1) := by decide +kernel
theorem dX5_readLine_65 : decode cX5_readLine 65 = .ok (.if_icmp .ne 53, 3) := by decide +kernel
theorem dX5_readLine_68 : decode cX5_readLine 68 = .ok (.aload_n 0, 1) := by decide +kernel
theorem dX5_readLine_69 : decode cX5_readLine 69 = .ok (.getfield 25, 3) := by decide +kernel
theorem dX5_readLine_72 : decode cX5_readLine 72 = .ok (.bipush 8, 2) := by decide +kernel
theorem dX5_readLine_74 : decode cX5_readLine 74 = .ok (.if_icmp .ge 44, 3) := by decide +kernel
theorem dX5_readLine_77 : decode cX5_readLine 77 = .ok (.aload_n 0, 1) := by decide +kernel
theorem dX5_readLine_78 : decode cX5_readLine 78 = .ok (.getfield 9, 3) := by decide +kernel
theorem dX5_readLine_81 : decode cX5_readLine 81 = .ok (.aload_n 0, 1) := by decide +kernel
theorem dX5_readLine_82 : decode cX5_readLine 82 = .ok (.getfield 25, 3) := by decide +kernel
theorem dX5_readLine_85 : decode cX5_readLine 85 = .ok (.iload_n 2, 1) := by decide +kernel
theorem dX5_readLine_86 : decode cX5_readLine 86 = .ok (.iastore, 1) := by decide +kernel
theorem dX5_readLine_87 : decode cX5_readLine 87 = .ok (.aload_n 0, 1) := by decide +kernel
theorem dX5_readLine_88 : decode cX5_readLine 88 = .ok (.getfield 15, 3) := by decide +kernel
theorem dX5_readLine_91 : decode cX5_readLine 91 = .ok (.aload_n 0, 1) := by decide +kernel
theorem dX5_readLine_92 : decode cX5_readLine 92 = .ok (.getfield 25, 3) := by decide +kernel
theorem dX5_readLine_95 : decode cX5_readLine 95 = .ok (.iload_n 3, 1) := by decide +kernel
theorem dX5_readLine_96 : decode cX5_readLine 96 = .ok (.iastore, 1) := by decide +kernel
theorem dX5_readLine_97 : decode cX5_readLine 97 = .ok (.aload_n 0, 1) := by decide +kernel
theorem dX5_readLine_98 : decode cX5_readLine 98 = .ok (.getfield 18, 3) := by decide +kernel
theorem dX5_readLine_101 : decode cX5_readLine 101 = .ok (.aload_n 0, 1) := by decide +kernel
theorem dX5_readLine_102 : decode cX5_readLine 102 = .ok (.getfield 25, 3) := by decide +kernel
theorem dX5_readLine_105 : decode cX5_readLine 105 = .ok (.iload 4, 2) := by decide +kernel
theorem dX5_readLine_107 : decode cX5_readLine 107 = .ok (.iastore, 1) := by decide +kernel
theorem dX5_readLine_108 : decode cX5_readLine 108 = .ok (.aload_n 0, 1) := by decide +kernel
theorem dX5_readLine_109 : decode cX5_readLine 109 = .ok (.dup, 1) := by decide +kernel
theorem dX5_readLine_110 : decode cX5_readLine 110 = .ok (.getfield 25, 3) := by decide +kernel
theorem dX5_readLine_113 : decode cX5_readLine 113 = .ok (.iconst 1, 1) := by decide +kernel
theorem dX5_readLine_114 : decode cX5_readLine 114 = .ok (.iadd, 1) := by decide +kernel
theorem dX5_readLine_115 : decode cX5_readLine 115 = .ok (.putfield 25, 3) := by decide +kernel
theorem dX5_readLine_118 : decode cX5_readLine 118 = .ok (.return_, 1) := by decide +kernel
set_option maxRecDepth 20000 in
theorem ggX5_readKind_X5_nextToken : GoodIn wsX5_readKind wsX5_nextToken := goodIn_r _ [7, 8, 9, 1, 10, 11, 12, 13, 14, 15, 72, 73, 74, 75, 76, 77, 78, 79, 80, 81] (by decide +kernel) (by decide +kernel)
set_option maxRecDepth 20000 in
theorem gX5_readKind_X5_nextToken : GoodIn wsX5_readKind (wsV RX5 63 RX5 yX5_nextToken wsX5_nextToken) := goodIn_app (goodIn_of _ (by decide +kernel)) ggX5_readKind_X5_nextToken
set_option maxRecDepth 20000 in
theorem ggX5_readKind_X5_wordOfKind : GoodIn wsX5_readKind wsX5_wordOfKind := goodIn_r _ [18] (by decide +kernel) (by decide +kernel)
set_option maxRecDepth 20000 in
theorem gX5_readKind_X5_wordOfKind : GoodIn wsX5_readKind (va_wsS RX5 66 yX5_wordOfKind wsX5_wordOfKind) := goodIn_app (goodIn_of _ (by decide +kernel)) ggX5_readKind_X5_wordOfKind
set_option maxRecDepth 20000 in
theorem ggX5_readKind_X5_tokenIs : GoodIn wsX5_readKind wsX5_tokenIs := goodIn_r _ [22, 8, 1, 9, 23, 24, 25, 26, 27, 28, 29, 30, 31, 32, 33, 34, 35, 36, 37, 38, 39, 40, 41, 42, 43, 44, 45, 46, 47, 48, 49, 50, 51, 52, 53, 54, 55, 56, 57, 58, 59, 60, 61, 62, 63, 64, 65, 66, 67, 68, 69, 70, 71, 72, 73, 74, 75, 76, 77, 78, 79, 80, 81] (by decide +kernel) (by decide +kernel)
set_option maxRecDepth 20000 in
theorem gX5_readKind_X5_tokenIs : GoodIn wsX5_readKind (wsV RX5 70 RX5 yX5_tokenIs wsX5_tokenIs) := goodIn_app (goodIn_of _ (by decide +kernel)) ggX5_readKind_X5_tokenIs
theorem dX5_readKind_0 : decode cX5_readKind 0 = .ok (.aload_n 0, 1) := by decide +kernel
theorem dX5_readKind_1 : decode cX5_readKind 1 = .ok (.invokevirtual 63, 3) := by decide +kernel
theorem dX5_readKind_4 : decode cX5_readKind 4 = .ok (.iconst 1, 1) := by decide +kernel
theorem dX5_readKind_5 : decode cX5_readKind 5 = .ok (.istore_n 1, 1) := by decide +kernel
theorem dX5_readKind_6 : decode cX5_readKind 6 = .ok (.iload_n 1, 1) := by decide +kernel
theorem dX5_readKind_7 : decode cX5_readKind 7 = .ok (.iconst 5, 1) := by decide +kernel
theorem dX5_readKind_8 : decode cX5_readKind 8 = .ok (.if_icmp .gt 22, 3) := by decide +kernel
theorem dX5_readKind_11 : decode cX5_readKind 11 = .ok (.aload_n 0, 1) := by decide +kernel
theorem dX5_readKind_12 : decode cX5_readKind 12 = .ok (.iload_n 1, 1) := by decide +kernel
theorem dX5_readKind_13 : decode cX5_readKind 13 = .ok (.invokestatic 66, 3) := by decide +kernel
theorem dX5_readKind_16 : decode cX5_readKind 16 = .ok (.invokevirtual 70, 3) := by decide +kernel
theorem dX5_readKind_19 : decode cX5_readKind 19 = .ok (.ifCond .eq 5, 3) := by decide +kernel
theorem dX5_readKind_22 : decode cX5_readKind 22 = .ok (.iload_n 1, 1) := by decide +kernel
theorem dX5_readKind_23 : decode cX5_readKind 23 = .ok (.ireturn, 1) := by decide +kernel
theorem dX5_readKind_24 : decode cX5_readKind 24 = .ok (.iinc 1 1, 3) := by decide +kernel
theorem dX5_readKind_27 : decode cX5_readKind 27 = .ok (.goto (-21), 3) := by decide +kernel
theorem dX5_readKind_30 : decode cX5_readKind 30 = .ok (.aload_n 0, 1) := by decide +kernel
theorem dX5_readKind_31 : decode cX5_readKind 31 = .ok (.aload_n 0, 1) := by decide +kernel
theorem dX5_readKind_32 : decode cX5_readKind 32 = .ok (.getfield 74, 3) := by decide +kernel
theorem dX5_readKind_35 : decode cX5_readKind 35 = .ok (.putfield 32, 3) := by decide +kernel
theorem dX5_readKind_38 : decode cX5_readKind 38 = .ok (.iconst (-1), 1) := by decide +kernel
theorem dX5_readKind_39 : decode cX5_readKind 39 = .ok (.ireturn, 1) := by decide +kernel
set_option maxRecDepth 20000 in
theorem ggX5_readOtherHouse_X5_readNumber : GoodIn wsX5_readOtherHouse wsX5_readNumber := goodIn_r _ [7, 1, 2, 8, 9, 10, 11, 6, 12, 13, 14, 15, 16, 17, 18, 19, 20, 21, 22, 23, 24, 25, 26, 27, 28, 29, 30, 31, 32, 33, 34, 35, 36, 37, 38, 39] (by decide +kernel) (by decide +kernel)
set_option maxRecDepth 20000 in
theorem gX5_readOtherHouse_X5_readNumber : GoodIn wsX5_readOtherHouse (wsV RX5 48 RX5 yX5_readNumber wsX5_readNumber) := goodIn_app (goodIn_of _ (by decide +kernel)) ggX5_readOtherHouse_X5_readNumber
theorem dX5_readOtherHouse_0 : decode cX5_readOtherHouse 0 = .ok (.aload_n 0, 1) := by decide +kernel
theorem dX5_readOtherHouse_1 : decode cX5_readOtherHouse 1 = .ok (.iconst 0, 1) := by decide +kernel
theorem dX5_readOtherHouse_2 : decode cX5_readOtherHouse 2 = .ok (.bipush 9, 2) := by decide +kernel
theorem dX5_readOtherHouse_4 : decode cX5_readOtherHouse 4 = .ok (.invokevirtual 48, 3) := by decide +kernel
theorem dX5_readOtherHouse_7 : decode cX5_readOtherHouse 7 = .ok (.istore_n 2, 1) := by decide +kernel
theorem dX5_readOtherHouse_8 : decode cX5_readOtherHouse 8 = .ok (.iload_n 2, 1) := by decide +kernel
theorem dX5_readOtherHouse_9 : decode cX5_readOtherHouse 9 = .ok (.iload_n 1, 1) := by decide +kernel
theorem dX5_readOtherHouse_10 : decode cX5_readOtherHouse 10 = .ok (.if_icmp .ne 11, 3) := by decide +kernel
theorem dX5_readOtherHouse_13 : decode cX5_readOtherHouse 13 = .ok (.aload_n 0, 1) := by decide +kernel
theorem dX5_readOtherHouse_14 : decode cX5_readOtherHouse 14 = .ok (.aload_n 0, 1) := by decide +kernel
theorem dX5_readOtherHouse_15 : decode cX5_readOtherHouse 15 = .ok (.getfield 74, 3) := by decide +kernel
theorem dX5_readOtherHouse_18 : decode cX5_readOtherHouse 18 = .ok (.putfield 32, 3) := by decide +kernel
theorem dX5_readOtherHouse_21 : decode cX5_readOtherHouse 21 = .ok (.iload_n 2, 1) := by decide +kernel
theorem dX5_readOtherHouse_22 : decode cX5_readOtherHouse 22 = .ok (.ireturn, 1) := by decide +kernel
set_option maxRecDepth 20000 in
theorem ggX5_readNumber_X5_nextToken : GoodIn wsX5_readNumber wsX5_nextToken := goodIn_r _ [8, 9, 10, 1, 11, 12, 13, 14, 15, 16, 26, 27, 28, 29, 30, 31, 32, 33, 34, 35] (by decide +kernel) (by decide +kernel)
set_option maxRecDepth 20000 in
theorem gX5_readNumber_X5_nextToken : GoodIn wsX5_readNumber (wsV RX5 63 RX5 yX5_nextToken wsX5_nextToken) := goodIn_app (goodIn_of _ (by decide +kernel)) ggX5_readNumber_X5_nextToken
set_option maxRecDepth 20000 in
theorem ggX5_readNumber_X5_tokenValue : GoodIn wsX5_readNumber wsX5_tokenValue := goodIn_r _ [20, 1, 9, 10, 21, 22, 23, 24, 25, 26, 27, 28, 29, 30, 31, 32, 33, 34, 35] (by decide +kernel) (by decide +kernel)
set_option maxRecDepth 20000 in
theorem gX5_readNumber_X5_tokenValue : GoodIn wsX5_readNumber (wsV RX5 77 RX5 yX5_tokenValue wsX5_tokenValue) := goodIn_app (goodIn_of _ (by decide +kernel)) ggX5_readNumber_X5_tokenValue
theorem dX5_readNumber_0 : decode cX5_readNumber 0 = .ok (.aload_n 0, 1) := by decide +kernel
theorem dX5_readNumber_1 : decode cX5_readNumber 1 = .ok (.invokevirtual 63, 3) := by decide +kernel
theorem dX5_readNumber_4 : decode cX5_readNumber 4 = .ok (.aload_n 0, 1) := by decide +kernel
theorem dX5_readNumber_5 : decode cX5_readNumber 5 = .ok (.invokevirtual 77, 3) := by decide +kernel
theorem dX5_readNumber_8 : decode cX5_readNumber 8 = .ok (.istore_n 3, 1) := by decide +kernel
theorem dX5_readNumber_9 : decode cX5_readNumber 9 = .ok (.iload_n 3, 1) := by decide +kernel
theorem dX5_readNumber_10 : decode cX5_readNumber 10 = .ok (.iload_n 1, 1) := by decide +kernel
theorem dX5_readNumber_11 : decode cX5_readNumber 11 = .ok (.if_icmp .lt 8, 3) := by decide +kernel
theorem dX5_readNumber_14 : decode cX5_readNumber 14 = .ok (.iload_n 3, 1) := by decide +kernel
theorem dX5_readNumber_15 : decode cX5_readNumber 15 = .ok (.iload_n 2, 1) := by decide +kernel
theorem dX5_readNumber_16 : decode cX5_readNumber 16 = .ok (.if_icmp .le 14, 3) := by decide +kernel
theorem dX5_readNumber_19 : decode cX5_readNumber 19 = .ok (.aload_n 0, 1) := by decide +kernel
theorem dX5_readNumber_20 : decode cX5_readNumber 20 = .ok (.aload_n 0, 1) := by decide +kernel
theorem dX5_readNumber_21 : decode cX5_readNumber 21 = .ok (.getfield 74, 3) := by decide +kernel
theorem dX5_readNumber_24 : decode cX5_readNumber 24 = .ok (.putfield 32, 3) := by decide +kernel
theorem dX5_readNumber_27 : decode cX5_readNumber 27 = .ok (.ldc 47, 2) := by decide +kernel
theorem dX5_readNumber_29 : decode cX5_readNumber 29 = .ok (.ireturn, 1) := by decide +kernel
theorem dX5_readNumber_30 : decode cX5_readNumber 30 = .ok (.iload_n 3, 1) := by decide +kernel
theorem dX5_readNumber_31 : decode cX5_readNumber 31 = .ok (.ireturn, 1) := by decide +kernel
set_option maxRecDepth 20000 in
theorem ggX5_isAnotherAhead_X5_nextToken : GoodIn wsX5_isAnotherAhead wsX5_nextToken := goodIn_r _ [8, 9, 2, 1, 10, 11, 12, 13, 14, 15, 16, 17, 18, 19, 20, 21, 22, 23, 24, 25] (by decide +kernel) (by decide +kernel)
set_option maxRecDepth 20000 in
theorem gX5_isAnotherAhead_X5_nextToken : GoodIn wsX5_isAnotherAhead (wsV RX5 63 RX5 yX5_nextToken wsX5_nextToken) := goodIn_app (goodIn_of _ (by decide +kernel)) ggX5_isAnotherAhead_X5_nextToken
set_option maxRecDepth 20000 in
theorem ggX5_isAnotherAhead_X7_isPartOfWord : GoodIn wsX5_isAnotherAhead wsX7_isPartOfWord := goodIn_r _ [14, 15, 24, 25] (by decide +kernel) (by decide +kernel)
set_option maxRecDepth 20000 in
theorem gX5_isAnotherAhead_X7_isPartOfWord : GoodIn wsX5_isAnotherAhead (wsV RX5 85 RX7 yX7_isPartOfWord wsX7_isPartOfWord) := goodIn_app (goodIn_of _ (by decide +kernel)) ggX5_isAnotherAhead_X7_isPartOfWord
theorem dX5_isAnotherAhead_0 : decode cX5_isAnotherAhead 0 = .ok (.aload_n 0, 1) := by decide +kernel
theorem dX5_isAnotherAhead_1 : decode cX5_isAnotherAhead 1 = .ok (.invokevirtual 63, 3) := by decide +kernel
theorem dX5_isAnotherAhead_4 : decode cX5_isAnotherAhead 4 = .ok (.aload_n 0, 1) := by decide +kernel
theorem dX5_isAnotherAhead_5 : decode cX5_isAnotherAhead 5 = .ok (.getfield 74, 3) := by decide +kernel
theorem dX5_isAnotherAhead_8 : decode cX5_isAnotherAhead 8 = .ok (.aload_n 0, 1) := by decide +kernel
theorem dX5_isAnotherAhead_9 : decode cX5_isAnotherAhead 9 = .ok (.getfield 21, 3) := by decide +kernel
theorem dX5_isAnotherAhead_12 : decode cX5_isAnotherAhead 12 = .ok (.getfield 80, 3) := by decide +kernel
theorem dX5_isAnotherAhead_15 : decode cX5_isAnotherAhead 15 = .ok (.if_icmp .lt 5, 3) := by decide +kernel
theorem dX5_isAnotherAhead_18 : decode cX5_isAnotherAhead 18 = .ok (.iconst 0, 1) := by decide +kernel
theorem dX5_isAnotherAhead_19 : decode cX5_isAnotherAhead 19 = .ok (.ireturn, 1) := by decide +kernel
theorem dX5_isAnotherAhead_20 : decode cX5_isAnotherAhead 20 = .ok (.aload_n 0, 1) := by decide +kernel
theorem dX5_isAnotherAhead_21 : decode cX5_isAnotherAhead 21 = .ok (.getfield 21, 3) := by decide +kernel
theorem dX5_isAnotherAhead_24 : decode cX5_isAnotherAhead 24 = .ok (.aload_n 0, 1) := by decide +kernel
theorem dX5_isAnotherAhead_25 : decode cX5_isAnotherAhead 25 = .ok (.getfield 74, 3) := by decide +kernel
theorem dX5_isAnotherAhead_28 : decode cX5_isAnotherAhead 28 = .ok (.invokevirtual 85, 3) := by decide +kernel
theorem dX5_isAnotherAhead_31 : decode cX5_isAnotherAhead 31 = .ok (.ifCond .eq 13, 3) := by decide +kernel
theorem dX5_isAnotherAhead_34 : decode cX5_isAnotherAhead 34 = .ok (.aload_n 0, 1) := by decide +kernel
theorem dX5_isAnotherAhead_35 : decode cX5_isAnotherAhead 35 = .ok (.aload_n 0, 1) := by decide +kernel
theorem dX5_isAnotherAhead_36 : decode cX5_isAnotherAhead 36 = .ok (.getfield 74, 3) := by decide +kernel
theorem dX5_isAnotherAhead_39 : decode cX5_isAnotherAhead 39 = .ok (.putfield 32, 3) := by decide +kernel
theorem dX5_isAnotherAhead_42 : decode cX5_isAnotherAhead 42 = .ok (.iconst 0, 1) := by decide +kernel
theorem dX5_isAnotherAhead_43 : decode cX5_isAnotherAhead 43 = .ok (.ireturn, 1) := by decide +kernel
theorem dX5_isAnotherAhead_44 : decode cX5_isAnotherAhead 44 = .ok (.iconst 1, 1) := by decide +kernel
theorem dX5_isAnotherAhead_45 : decode cX5_isAnotherAhead 45 = .ok (.ireturn, 1) := by decide +kernel
set_option maxRecDepth 20000 in
theorem ggX5_nextToken_X7_isPartOfWord : GoodIn wsX5_nextToken wsX7_isPartOfWord := goodIn_r _ [8, 9, 18, 19] (by decide +kernel) (by decide +kernel)
set_option maxRecDepth 20000 in
theorem gX5_nextToken_X7_isPartOfWord : GoodIn wsX5_nextToken (wsV RX5 85 RX7 yX7_isPartOfWord wsX7_isPartOfWord) := goodIn_app (goodIn_of _ (by decide +kernel)) ggX5_nextToken_X7_isPartOfWord
theorem dX5_nextToken_0 : decode cX5_nextToken 0 = .ok (.aload_n 0, 1) := by decide +kernel
theorem dX5_nextToken_1 : decode cX5_nextToken 1 = .ok (.getfield 29, 3) := by decide +kernel
theorem dX5_nextToken_4 : decode cX5_nextToken 4 = .ok (.istore_n 1, 1) := by decide +kernel
theorem dX5_nextToken_5 : decode cX5_nextToken 5 = .ok (.iload_n 1, 1) := by decide +kernel
theorem dX5_nextToken_6 : decode cX5_nextToken 6 = .ok (.aload_n 0, 1) := by decide +kernel
theorem dX5_nextToken_7 : decode cX5_nextToken 7 = .ok (.getfield 21, 3) := by decide +kernel
theorem dX5_nextToken_10 : decode cX5_nextToken 10 = .ok (.getfield 80, 3) := by decide +kernel
theorem dX5_nextToken_13 : decode cX5_nextToken 13 = .ok (.if_icmp .ge 23, 3) := by decide +kernel
theorem dX5_nextToken_16 : decode cX5_nextToken 16 = .ok (.aload_n 0, 1) := by decide +kernel
theorem dX5_nextToken_17 : decode cX5_nextToken 17 = .ok (.getfield 21, 3) := by decide +kernel
theorem dX5_nextToken_20 : decode cX5_nextToken 20 = .ok (.getfield 89, 3) := by decide +kernel
theorem dX5_nextToken_23 : decode cX5_nextToken 23 = .ok (.iload_n 1, 1) := by decide +kernel
theorem dX5_nextToken_24 : decode cX5_nextToken 24 = .ok (.iaload, 1) := by decide +kernel
theorem dX5_nextToken_25 : decode cX5_nextToken 25 = .ok (.bipush 32, 2) := by decide +kernel
theorem dX5_nextToken_27 : decode cX5_nextToken 27 = .ok (.if_icmp .ne 9, 3) := by decide +kernel
theorem dX5_nextToken_30 : decode cX5_nextToken 30 = .ok (.iinc 1 1, 3) := by decide +kernel
theorem dX5_nextToken_33 : decode cX5_nextToken 33 = .ok (.goto (-28), 3) := by decide +kernel
theorem dX5_nextToken_36 : decode cX5_nextToken 36 = .ok (.aload_n 0, 1) := by decide +kernel
theorem dX5_nextToken_37 : decode cX5_nextToken 37 = .ok (.iload_n 1, 1) := by decide +kernel
theorem dX5_nextToken_38 : decode cX5_nextToken 38 = .ok (.putfield 74, 3) := by decide +kernel
theorem dX5_nextToken_41 : decode cX5_nextToken 41 = .ok (.iload_n 1, 1) := by decide +kernel
theorem dX5_nextToken_42 : decode cX5_nextToken 42 = .ok (.aload_n 0, 1) := by decide +kernel
theorem dX5_nextToken_43 : decode cX5_nextToken 43 = .ok (.getfield 21, 3) := by decide +kernel
theorem dX5_nextToken_46 : decode cX5_nextToken 46 = .ok (.getfield 80, 3) := by decide +kernel
theorem dX5_nextToken_49 : decode cX5_nextToken 49 = .ok (.if_icmp .ge 20, 3) := by decide +kernel
theorem dX5_nextToken_52 : decode cX5_nextToken 52 = .ok (.aload_n 0, 1) := by decide +kernel
theorem dX5_nextToken_53 : decode cX5_nextToken 53 = .ok (.getfield 21, 3) := by decide +kernel
theorem dX5_nextToken_56 : decode cX5_nextToken 56 = .ok (.iload_n 1, 1) := by decide +kernel
theorem dX5_nextToken_57 : decode cX5_nextToken 57 = .ok (.invokevirtual 85, 3) := by decide +kernel
theorem dX5_nextToken_60 : decode cX5_nextToken 60 = .ok (.ifCond .eq 9, 3) := by decide +kernel
theorem dX5_nextToken_63 : decode cX5_nextToken 63 = .ok (.iinc 1 1, 3) := by decide +kernel
theorem dX5_nextToken_66 : decode cX5_nextToken 66 = .ok (.goto (-25), 3) := by decide +kernel
theorem dX5_nextToken_69 : decode cX5_nextToken 69 = .ok (.iload_n 1, 1) := by decide +kernel
theorem dX5_nextToken_70 : decode cX5_nextToken 70 = .ok (.aload_n 0, 1) := by decide +kernel
theorem dX5_nextToken_71 : decode cX5_nextToken 71 = .ok (.getfield 74, 3) := by decide +kernel
theorem dX5_nextToken_74 : decode cX5_nextToken 74 = .ok (.if_icmp .ne 18, 3) := by decide +kernel
theorem dX5_nextToken_77 : decode cX5_nextToken 77 = .ok (.iload_n 1, 1) := by decide +kernel
theorem dX5_nextToken_78 : decode cX5_nextToken 78 = .ok (.aload_n 0, 1) := by decide +kernel
theorem dX5_nextToken_79 : decode cX5_nextToken 79 = .ok (.getfield 21, 3) := by decide +kernel
theorem dX5_nextToken_82 : decode cX5_nextToken 82 = .ok (.getfield 80, 3) := by decide +kernel
theorem dX5_nextToken_85 : decode cX5_nextToken 85 = .ok (.if_icmp .ge 7, 3) := by decide +kernel
theorem dX5_nextToken_88 : decode cX5_nextToken 88 = .ok (.iconst 1, 1) := by decide +kernel
theorem dX5_nextToken_89 : decode cX5_nextToken 89 = .ok (.goto 4, 3) := by decide +kernel
theorem dX5_nextToken_92 : decode cX5_nextToken 92 = .ok (.iconst 0, 1) := by decide +kernel
theorem dX5_nextToken_93 : decode cX5_nextToken 93 = .ok (.istore_n 2, 1) := by decide +kernel
theorem dX5_nextToken_94 : decode cX5_nextToken 94 = .ok (.aload_n 0, 1) := by decide +kernel
theorem dX5_nextToken_95 : decode cX5_nextToken 95 = .ok (.iload_n 2, 1) := by decide +kernel
theorem dX5_nextToken_96 : decode cX5_nextToken 96 = .ok (.ifCond .eq 9, 3) := by decide +kernel
theorem dX5_nextToken_99 : decode cX5_nextToken 99 = .ok (.iload_n 1, 1) := by decide +kernel
theorem dX5_nextToken_100 : decode cX5_nextToken 100 = .ok (.iconst 1, 1) := by decide +kernel
theorem dX5_nextToken_101 : decode cX5_nextToken 101 = .ok (.iadd, 1) := by decide +kernel
theorem dX5_nextToken_102 : decode cX5_nextToken 102 = .ok (.goto 4, 3) := by decide +kernel
theorem dX5_nextToken_105 : decode cX5_nextToken 105 = .ok (.iload_n 1, 1) := by decide +kernel
theorem dX5_nextToken_106 : decode cX5_nextToken 106 = .ok (.putfield 29, 3) := by decide +kernel
theorem dX5_nextToken_109 : decode cX5_nextToken 109 = .ok (.return_, 1) := by decide +kernel
set_option maxRecDepth 20000 in
theorem ggX5_tokenIs_J0_length_8abf5 : GoodIn wsX5_tokenIs wsJ0_length_8abf5 := goodIn_r _ [8, 9, 10, 11, 12, 7, 13, 14, 15] (by decide +kernel) (by decide +kernel)
set_option maxRecDepth 20000 in
theorem gX5_tokenIs_J0_length_8abf5 : GoodIn wsX5_tokenIs (wsV RX5 92 RJ0 yJ0_length_8abf5 wsJ0_length_8abf5) := goodIn_app (goodIn_of _ (by decide +kernel)) ggX5_tokenIs_J0_length_8abf5
set_option maxRecDepth 20000 in
theorem ggX5_tokenIs_J0_charAt_5068e : GoodIn wsX5_tokenIs wsJ0_charAt_5068e := goodIn_r _ [19, 9, 20, 21, 22, 7, 23, 14, 15, 24, 25, 26, 27, 28, 29, 30, 31, 32, 33, 34, 35, 36, 37, 38, 39, 40, 41, 42, 43, 44, 45, 46, 47, 48, 49, 50, 51, 52] (by decide +kernel) (by decide +kernel)
set_option maxRecDepth 20000 in
theorem gX5_tokenIs_J0_charAt_5068e : GoodIn wsX5_tokenIs (wsV RX5 96 RJ0 yJ0_charAt_5068e wsJ0_charAt_5068e) := goodIn_app (goodIn_of _ (by decide +kernel)) ggX5_tokenIs_J0_charAt_5068e
theorem dX5_tokenIs_0 : decode cX5_tokenIs 0 = .ok (.aload_n 0, 1) := by decide +kernel
theorem dX5_tokenIs_1 : decode cX5_tokenIs 1 = .ok (.getfield 29, 3) := by decide +kernel
theorem dX5_tokenIs_4 : decode cX5_tokenIs 4 = .ok (.aload_n 0, 1) := by decide +kernel
theorem dX5_tokenIs_5 : decode cX5_tokenIs 5 = .ok (.getfield 74, 3) := by decide +kernel
theorem dX5_tokenIs_8 : decode cX5_tokenIs 8 = .ok (.isub, 1) := by decide +kernel
theorem dX5_tokenIs_9 : decode cX5_tokenIs 9 = .ok (.aload_n 1, 1) := by decide +kernel
theorem dX5_tokenIs_10 : decode cX5_tokenIs 10 = .ok (.invokevirtual 92, 3) := by decide +kernel
theorem dX5_tokenIs_13 : decode cX5_tokenIs 13 = .ok (.if_icmp .eq 5, 3) := by decide +kernel
theorem dX5_tokenIs_16 : decode cX5_tokenIs 16 = .ok (.iconst 0, 1) := by decide +kernel
theorem dX5_tokenIs_17 : decode cX5_tokenIs 17 = .ok (.ireturn, 1) := by decide +kernel
theorem dX5_tokenIs_18 : decode cX5_tokenIs 18 = .ok (.iconst 0, 1) := by decide +kernel
theorem dX5_tokenIs_19 : decode cX5_tokenIs 19 = .ok (.istore_n 2, 1) := by decide +kernel
theorem dX5_tokenIs_20 : decode cX5_tokenIs 20 = .ok (.iload_n 2, 1) := by decide +kernel
theorem dX5_tokenIs_21 : decode cX5_tokenIs 21 = .ok (.aload_n 1, 1) := by decide +kernel
theorem dX5_tokenIs_22 : decode cX5_tokenIs 22 = .ok (.invokevirtual 92, 3) := by decide +kernel
theorem dX5_tokenIs_25 : decode cX5_tokenIs 25 = .ok (.if_icmp .ge 33, 3) := by decide +kernel
theorem dX5_tokenIs_28 : decode cX5_tokenIs 28 = .ok (.aload_n 0, 1) := by decide +kernel
theorem dX5_tokenIs_29 : decode cX5_tokenIs 29 = .ok (.getfield 21, 3) := by decide +kernel
theorem dX5_tokenIs_32 : decode cX5_tokenIs 32 = .ok (.getfield 89, 3) := by decide +kernel
theorem dX5_tokenIs_35 : decode cX5_tokenIs 35 = .ok (.aload_n 0, 1) := by decide +kernel
theorem dX5_tokenIs_36 : decode cX5_tokenIs 36 = .ok (.getfield 74, 3) := by decide +kernel
theorem dX5_tokenIs_39 : decode cX5_tokenIs 39 = .ok (.iload_n 2, 1) := by decide +kernel
theorem dX5_tokenIs_40 : decode cX5_tokenIs 40 = .ok (.iadd, 1) := by decide +kernel
theorem dX5_tokenIs_41 : decode cX5_tokenIs 41 = .ok (.iaload, 1) := by decide +kernel
theorem dX5_tokenIs_42 : decode cX5_tokenIs 42 = .ok (.aload_n 1, 1) := by decide +kernel
theorem dX5_tokenIs_43 : decode cX5_tokenIs 43 = .ok (.iload_n 2, 1) := by decide +kernel
theorem dX5_tokenIs_44 : decode cX5_tokenIs 44 = .ok (.invokevirtual 96, 3) := by decide +kernel
theorem dX5_tokenIs_47 : decode cX5_tokenIs 47 = .ok (.if_icmp .eq 5, 3) := by decide +kernel
theorem dX5_tokenIs_50 : decode cX5_tokenIs 50 = .ok (.iconst 0, 1) := by decide +kernel
theorem dX5_tokenIs_51 : decode cX5_tokenIs 51 = .ok (.ireturn, 1) := by decide +kernel
theorem dX5_tokenIs_52 : decode cX5_tokenIs 52 = .ok (.iinc 2 1, 3) := by decide +kernel
theorem dX5_tokenIs_55 : decode cX5_tokenIs 55 = .ok (.goto (-35), 3) := by decide +kernel
theorem dX5_tokenIs_58 : decode cX5_tokenIs 58 = .ok (.iconst 1, 1) := by decide +kernel
theorem dX5_tokenIs_59 : decode cX5_tokenIs 59 = .ok (.ireturn, 1) := by decide +kernel
theorem dX5_tokenValue_0 : decode cX5_tokenValue 0 = .ok (.aload_n 0, 1) := by decide +kernel
theorem dX5_tokenValue_1 : decode cX5_tokenValue 1 = .ok (.getfield 74, 3) := by decide +kernel
theorem dX5_tokenValue_4 : decode cX5_tokenValue 4 = .ok (.aload_n 0, 1) := by decide +kernel
theorem dX5_tokenValue_5 : decode cX5_tokenValue 5 = .ok (.getfield 29, 3) := by decide +kernel
theorem dX5_tokenValue_8 : decode cX5_tokenValue 8 = .ok (.if_icmp .lt 5, 3) := by decide +kernel
theorem dX5_tokenValue_11 : decode cX5_tokenValue 11 = .ok (.iconst (-1), 1) := by decide +kernel
theorem dX5_tokenValue_12 : decode cX5_tokenValue 12 = .ok (.ireturn, 1) := by decide +kernel
theorem dX5_tokenValue_13 : decode cX5_tokenValue 13 = .ok (.iconst 0, 1) := by decide +kernel
theorem dX5_tokenValue_14 : decode cX5_tokenValue 14 = .ok (.istore_n 1, 1) := by decide +kernel
theorem dX5_tokenValue_15 : decode cX5_tokenValue 15 = .ok (.aload_n 0, 1) := by decide +kernel
theorem dX5_tokenValue_16 : decode cX5_tokenValue 16 = .ok (.getfield 74, 3) := by decide +kernel
theorem dX5_tokenValue_19 : decode cX5_tokenValue 19 = .ok (.istore_n 2, 1) := by decide +kernel
theorem dX5_tokenValue_20 : decode cX5_tokenValue 20 = .ok (.iload_n 2, 1) := by decide +kernel
theorem dX5_tokenValue_21 : decode cX5_tokenValue 21 = .ok (.aload_n 0, 1) := by decide +kernel
theorem dX5_tokenValue_22 : decode cX5_tokenValue 22 = .ok (.getfield 29, 3) := by decide +kernel
theorem dX5_tokenValue_25 : decode cX5_tokenValue 25 = .ok (.if_icmp .ge 46, 3) := by decide +kernel
theorem dX5_tokenValue_28 : decode cX5_tokenValue 28 = .ok (.aload_n 0, 1) := by decide +kernel
theorem dX5_tokenValue_29 : decode cX5_tokenValue 29 = .ok (.getfield 21, 3) := by decide +kernel
theorem dX5_tokenValue_32 : decode cX5_tokenValue 32 = .ok (.getfield 89, 3) := by decide +kernel
theorem dX5_tokenValue_35 : decode cX5_tokenValue 35 = .ok (.iload_n 2, 1) := by decide +kernel
theorem dX5_tokenValue_36 : decode cX5_tokenValue 36 = .ok (.iaload, 1) := by decide +kernel
theorem dX5_tokenValue_37 : decode cX5_tokenValue 37 = .ok (.bipush 48, 2) := by decide +kernel
theorem dX5_tokenValue_39 : decode cX5_tokenValue 39 = .ok (.isub, 1) := by decide +kernel
theorem dX5_tokenValue_40 : decode cX5_tokenValue 40 = .ok (.istore_n 3, 1) := by decide +kernel
theorem dX5_tokenValue_41 : decode cX5_tokenValue 41 = .ok (.iload_n 3, 1) := by decide +kernel
theorem dX5_tokenValue_42 : decode cX5_tokenValue 42 = .ok (.ifCond .lt 9, 3) := by decide +kernel
theorem dX5_tokenValue_45 : decode cX5_tokenValue 45 = .ok (.iload_n 3, 1) := by decide +kernel
theorem dX5_tokenValue_46 : decode cX5_tokenValue 46 = .ok (.bipush 9, 2) := by decide +kernel
theorem dX5_tokenValue_48 : decode cX5_tokenValue 48 = .ok (.if_icmp .le 5, 3) := by decide +kernel
theorem dX5_tokenValue_51 : decode cX5_tokenValue 51 = .ok (.iconst (-1), 1) := by decide +kernel
theorem dX5_tokenValue_52 : decode cX5_tokenValue 52 = .ok (.ireturn, 1) := by decide +kernel
theorem dX5_tokenValue_53 : decode cX5_tokenValue 53 = .ok (.iload_n 1, 1) := by decide +kernel
theorem dX5_tokenValue_54 : decode cX5_tokenValue 54 = .ok (.bipush 10, 2) := by decide +kernel
theorem dX5_tokenValue_56 : decode cX5_tokenValue 56 = .ok (.imul, 1) := by decide +kernel
theorem dX5_tokenValue_57 : decode cX5_tokenValue 57 = .ok (.iload_n 3, 1) := by decide +kernel
theorem dX5_tokenValue_58 : decode cX5_tokenValue 58 = .ok (.iadd, 1) := by decide +kernel
theorem dX5_tokenValue_59 : decode cX5_tokenValue 59 = .ok (.ldc 100, 2) := by decide +kernel
theorem dX5_tokenValue_61 : decode cX5_tokenValue 61 = .ok (.invokestatic 101, 3) := by decide +kernel
theorem dX5_tokenValue_64 : decode cX5_tokenValue 64 = .ok (.istore_n 1, 1) := by decide +kernel
theorem dX5_tokenValue_65 : decode cX5_tokenValue 65 = .ok (.iinc 2 1, 3) := by decide +kernel
theorem dX5_tokenValue_68 : decode cX5_tokenValue 68 = .ok (.goto (-48), 3) := by decide +kernel
theorem dX5_tokenValue_71 : decode cX5_tokenValue 71 = .ok (.iload_n 1, 1) := by decide +kernel
theorem dX5_tokenValue_72 : decode cX5_tokenValue 72 = .ok (.ireturn, 1) := by decide +kernel
theorem dX5_wordOfKind_0 : decode cX5_wordOfKind 0 = .ok (.iload_n 0, 1) := by decide +kernel
theorem dX5_wordOfKind_1 : decode cX5_wordOfKind 1 = .ok (.tableswitch 43 1 4 #[31, 34, 37, 40], 31) := by decide +kernel
theorem dX5_wordOfKind_32 : decode cX5_wordOfKind 32 = .ok (.ldc 106, 2) := by decide +kernel
theorem dX5_wordOfKind_34 : decode cX5_wordOfKind 34 = .ok (.areturn, 1) := by decide +kernel
theorem dX5_wordOfKind_35 : decode cX5_wordOfKind 35 = .ok (.ldc 108, 2) := by decide +kernel
theorem dX5_wordOfKind_37 : decode cX5_wordOfKind 37 = .ok (.areturn, 1) := by decide +kernel
theorem dX5_wordOfKind_38 : decode cX5_wordOfKind 38 = .ok (.ldc 110, 2) := by decide +kernel
theorem dX5_wordOfKind_40 : decode cX5_wordOfKind 40 = .ok (.areturn, 1) := by decide +kernel
theorem dX5_wordOfKind_41 : decode cX5_wordOfKind 41 = .ok (.ldc 112, 2) := by decide +kernel
theorem dX5_wordOfKind_43 : decode cX5_wordOfKind 43 = .ok (.areturn, 1) := by decide +kernel
theorem dX5_wordOfKind_44 : decode cX5_wordOfKind 44 = .ok (.ldc 114, 2) := by decide +kernel
theorem dX5_wordOfKind_46 : decode cX5_wordOfKind 46 = .ok (.areturn, 1) := by decide +kernel
theorem dX5_mostOfKind_0 : decode cX5_mostOfKind 0 = .ok (.iload_n 0, 1) := by decide +kernel
theorem dX5_mostOfKind_1 : decode cX5_mostOfKind 1 = .ok (.lookupswitch 34 #[(1, 27), (3, 31)], 27) := by decide +kernel
theorem dX5_mostOfKind_28 : decode cX5_mostOfKind 28 = .ok (.sipush 500, 3) := by decide +kernel
theorem dX5_mostOfKind_31 : decode cX5_mostOfKind 31 = .ok (.ireturn, 1) := by decide +kernel
theorem dX5_mostOfKind_32 : decode cX5_mostOfKind 32 = .ok (.bipush 50, 2) := by decide +kernel
theorem dX5_mostOfKind_34 : decode cX5_mostOfKind 34 = .ok (.ireturn, 1) := by decide +kernel
theorem dX5_mostOfKind_35 : decode cX5_mostOfKind 35 = .ok (.sipush 9999, 3) := by decide +kernel
theorem dX5_mostOfKind_38 : decode cX5_mostOfKind 38 = .ok (.ireturn, 1) := by decide +kernel
theorem dX6_init_0 : decode cX6_init 0 = .ok (.aload_n 0, 1) := by decide +kernel
theorem dX6_init_1 : decode cX6_init 1 = .ok (.invokespecial 3, 3) := by decide +kernel
theorem dX6_init_4 : decode cX6_init 4 = .ok (.aload_n 0, 1) := by decide +kernel
theorem dX6_init_5 : decode cX6_init 5 = .ok (.bipush 100, 2) := by decide +kernel
theorem dX6_init_7 : decode cX6_init 7 = .ok (.newarray .int, 2) := by decide +kernel
theorem dX6_init_9 : decode cX6_init 9 = .ok (.putfield 9, 3) := by decide +kernel
theorem dX6_init_12 : decode cX6_init 12 = .ok (.aload_n 0, 1) := by decide +kernel
theorem dX6_init_13 : decode cX6_init 13 = .ok (.bipush 100, 2) := by decide +kernel
theorem dX6_init_15 : decode cX6_init 15 = .ok (.newarray .int, 2) := by decide +kernel
theorem dX6_init_17 : decode cX6_init 17 = .ok (.putfield 15, 3) := by decide +kernel
theorem dX6_init_20 : decode cX6_init 20 = .ok (.aload_n 0, 1) := by decide +kernel
theorem dX6_init_21 : decode cX6_init 21 = .ok (.bipush 12, 2) := by decide +kernel
theorem dX6_init_23 : decode cX6_init 23 = .ok (.newarray .int, 2) := by decide +kernel
theorem dX6_init_25 : decode cX6_init 25 = .ok (.putfield 18, 3) := by decide +kernel
theorem dX6_init_28 : decode cX6_init 28 = .ok (.aload_n 0, 1) := by decide +kernel
theorem dX6_init_29 : decode cX6_init 29 = .ok (.bipush 12, 2) := by decide +kernel
theorem dX6_init_31 : decode cX6_init 31 = .ok (.newarray .int, 2) := by decide +kernel
theorem dX6_init_33 : decode cX6_init 33 = .ok (.putfield 21, 3) := by decide +kernel
theorem dX6_init_36 : decode cX6_init 36 = .ok (.aload_n 0, 1) := by decide +kernel
theorem dX6_init_37 : decode cX6_init 37 = .ok (.bipush 6, 2) := by decide +kernel
theorem dX6_init_39 : decode cX6_init 39 = .ok (.newarray .int, 2) := by decide +kernel
theorem dX6_init_41 : decode cX6_init 41 = .ok (.putfield 24, 3) := by decide +kernel
theorem dX6_init_44 : decode cX6_init 44 = .ok (.aload_n 0, 1) := by decide +kernel
theorem dX6_init_45 : decode cX6_init 45 = .ok (.bipush 10, 2) := by decide +kernel
theorem dX6_init_47 : decode cX6_init 47 = .ok (.newarray .int, 2) := by decide +kernel
theorem dX6_init_49 : decode cX6_init 49 = .ok (.putfield 27, 3) := by decide +kernel
theorem dX6_init_52 : decode cX6_init 52 = .ok (.aload_n 0, 1) := by decide +kernel
theorem dX6_init_53 : decode cX6_init 53 = .ok (.aload_n 1, 1) := by decide +kernel
theorem dX6_init_54 : decode cX6_init 54 = .ok (.putfield 30, 3) := by decide +kernel
theorem dX6_init_57 : decode cX6_init 57 = .ok (.aload_n 0, 1) := by decide +kernel
theorem dX6_init_58 : decode cX6_init 58 = .ok (.aload_n 2, 1) := by decide +kernel
theorem dX6_init_59 : decode cX6_init 59 = .ok (.putfield 34, 3) := by decide +kernel
theorem dX6_init_62 : decode cX6_init 62 = .ok (.aload_n 0, 1) := by decide +kernel
theorem dX6_init_63 : decode cX6_init 63 = .ok (.aload_n 3, 1) := by decide +kernel
theorem dX6_init_64 : decode cX6_init 64 = .ok (.putfield 38, 3) := by decide +kernel
theorem dX6_init_67 : decode cX6_init 67 = .ok (.aload_n 0, 1) := by decide +kernel
theorem dX6_init_68 : decode cX6_init 68 = .ok (.aload 4, 2) := by decide +kernel
theorem dX6_init_70 : decode cX6_init 70 = .ok (.putfield 42, 3) := by decide +kernel
theorem dX6_init_73 : decode cX6_init 73 = .ok (.return_, 1) := by decide +kernel
set_option maxRecDepth 20000 in
theorem ggX6_reckon_X6_takeLines : GoodIn wsX6_reckon wsX6_takeLines := goodIn_r _ [9, 10, 11, 12, 13, 14, 15, 16, 17, 18, 19, 20, 21, 106, 107, 108, 109, 110, 111, 112, 113, 114, 115, 116, 117, 118, 119, 120, 121, 122, 123, 124] (by decide +kernel) (by decide +kernel)
set_option maxRecDepth 20000 in
theorem gX6_reckon_X6_takeLines : GoodIn wsX6_reckon (wsV RX6 46 RX6 yX6_takeLines wsX6_takeLines) := goodIn_app (goodIn_of _ (by decide +kernel)) ggX6_reckon_X6_takeLines
set_option maxRecDepth 20000 in
theorem ggX6_reckon_X8_houseTold : GoodIn wsX6_reckon wsX8_houseTold := goodIn_r _ [26, 27, 28, 29, 30, 31, 25, 32, 33, 34, 35, 36, 37, 38, 39, 40, 41, 42, 43, 44, 45, 46, 125, 126, 127, 128, 129, 130, 131] (by decide +kernel) (by decide +kernel)
set_option maxRecDepth 20000 in
theorem gX6_reckon_X8_houseTold : GoodIn wsX6_reckon (wsV RX6 50 RX8 yX8_houseTold wsX8_houseTold) := goodIn_app (goodIn_of _ (by decide +kernel)) ggX6_reckon_X8_houseTold
set_option maxRecDepth 20000 in
theorem ggX6_reckon_X1_valueHeld : GoodIn wsX6_reckon wsX1_valueHeld := goodIn_r _ [51, 52, 53, 54, 55, 56, 57, 58, 59, 132, 133, 134, 135, 136] (by decide +kernel) (by decide +kernel)
set_option maxRecDepth 20000 in
theorem gX6_reckon_X1_valueHeld : GoodIn wsX6_reckon (wsV RX6 56 RX1 yX1_valueHeld wsX1_valueHeld) := goodIn_app (goodIn_of _ (by decide +kernel)) ggX6_reckon_X1_valueHeld
set_option maxRecDepth 20000 in
theorem ggX6_reckon_X6_matchDebts : GoodIn wsX6_reckon wsX6_matchDebts := goodIn_r _ [63, 10, 11, 12, 64, 65, 66, 8, 67, 13, 68, 69, 70, 71, 106, 107, 108, 109, 110, 111, 112, 113, 114, 115, 116, 117, 118, 119, 120, 121, 122, 123, 124] (by decide +kernel) (by decide +kernel)
set_option maxRecDepth 20000 in
theorem gX6_reckon_X6_matchDebts : GoodIn wsX6_reckon (wsV RX6 62 RX6 yX6_matchDebts wsX6_matchDebts) := goodIn_app (goodIn_of _ (by decide +kernel)) ggX6_reckon_X6_matchDebts
set_option maxRecDepth 20000 in
theorem ggX6_reckon_X6_findDebtQuarrels : GoodIn wsX6_reckon wsX6_findDebtQuarrels := goodIn_r _ [75, 10, 11, 12, 13, 76, 77, 8, 78, 106, 107, 108, 109, 110, 111, 112, 113, 114, 115, 116, 117, 118, 119, 120, 121, 122, 123, 124] (by decide +kernel) (by decide +kernel)
set_option maxRecDepth 20000 in
theorem gX6_reckon_X6_findDebtQuarrels : GoodIn wsX6_reckon (wsV RX6 65 RX6 yX6_findDebtQuarrels wsX6_findDebtQuarrels) := goodIn_app (goodIn_of _ (by decide +kernel)) ggX6_reckon_X6_findDebtQuarrels
set_option maxRecDepth 20000 in
theorem ggX6_reckon_X6_findLandQuarrels : GoodIn wsX6_reckon wsX6_findLandQuarrels := goodIn_r _ [82, 83, 10, 11, 12, 84, 40, 41, 42, 85, 86, 87, 8, 88, 89, 1, 90, 58, 91, 92, 57, 59, 106, 107, 108, 109, 110, 111, 112, 113, 114, 115, 116, 117, 118, 119, 120, 121, 122, 123, 124, 137, 138] (by decide +kernel) (by decide +kernel)
set_option maxRecDepth 20000 in
theorem gX6_reckon_X6_findLandQuarrels : GoodIn wsX6_reckon (wsV RX6 68 RX6 yX6_findLandQuarrels wsX6_findLandQuarrels) := goodIn_app (goodIn_of _ (by decide +kernel)) ggX6_reckon_X6_findLandQuarrels
set_option maxRecDepth 20000 in
theorem ggX6_reckon_X6_sumWorths : GoodIn wsX6_reckon wsX6_sumWorths := goodIn_r _ [96, 97, 10, 11, 98, 99, 100, 101, 84, 40, 41, 42, 102, 103, 104, 8, 105, 3, 89, 90, 58, 91, 92, 57, 59, 106, 107, 108, 109, 110, 111, 112, 113, 114, 115, 116, 117, 118, 119, 120, 121, 122, 123, 124, 137, 138] (by decide +kernel) (by decide +kernel)
set_option maxRecDepth 20000 in
theorem gX6_reckon_X6_sumWorths : GoodIn wsX6_reckon (wsV RX6 71 RX6 yX6_sumWorths wsX6_sumWorths) := goodIn_app (goodIn_of _ (by decide +kernel)) ggX6_reckon_X6_sumWorths
theorem dX6_reckon_0 : decode cX6_reckon 0 = .ok (.aload_n 0, 1) := by decide +kernel
theorem dX6_reckon_1 : decode cX6_reckon 1 = .ok (.iload_n 1, 1) := by decide +kernel
theorem dX6_reckon_2 : decode cX6_reckon 2 = .ok (.iload_n 2, 1) := by decide +kernel
theorem dX6_reckon_3 : decode cX6_reckon 3 = .ok (.invokevirtual 46, 3) := by decide +kernel
theorem dX6_reckon_6 : decode cX6_reckon 6 = .ok (.iconst 0, 1) := by decide +kernel
theorem dX6_reckon_7 : decode cX6_reckon 7 = .ok (.istore_n 3, 1) := by decide +kernel
theorem dX6_reckon_8 : decode cX6_reckon 8 = .ok (.iload_n 3, 1) := by decide +kernel
theorem dX6_reckon_9 : decode cX6_reckon 9 = .ok (.bipush 12, 2) := by decide +kernel
theorem dX6_reckon_11 : decode cX6_reckon 11 = .ok (.if_icmp .ge 24, 3) := by decide +kernel
theorem dX6_reckon_14 : decode cX6_reckon 14 = .ok (.aload_n 0, 1) := by decide +kernel
theorem dX6_reckon_15 : decode cX6_reckon 15 = .ok (.getfield 21, 3) := by decide +kernel
theorem dX6_reckon_18 : decode cX6_reckon 18 = .ok (.iload_n 3, 1) := by decide +kernel
theorem dX6_reckon_19 : decode cX6_reckon 19 = .ok (.aload_n 0, 1) := by decide +kernel
theorem dX6_reckon_20 : decode cX6_reckon 20 = .ok (.getfield 38, 3) := by decide +kernel
theorem dX6_reckon_23 : decode cX6_reckon 23 = .ok (.iload_n 3, 1) := by decide +kernel
theorem dX6_reckon_24 : decode cX6_reckon 24 = .ok (.iload_n 2, 1) := by decide +kernel
theorem dX6_reckon_25 : decode cX6_reckon 25 = .ok (.invokevirtual 50, 3) := by decide +kernel
theorem dX6_reckon_28 : decode cX6_reckon 28 = .ok (.iastore, 1) := by decide +kernel
theorem dX6_reckon_29 : decode cX6_reckon 29 = .ok (.iinc 3 1, 3) := by decide +kernel
theorem dX6_reckon_32 : decode cX6_reckon 32 = .ok (.goto (-24), 3) := by decide +kernel
theorem dX6_reckon_35 : decode cX6_reckon 35 = .ok (.iconst 0, 1) := by decide +kernel
theorem dX6_reckon_36 : decode cX6_reckon 36 = .ok (.istore_n 3, 1) := by decide +kernel
theorem dX6_reckon_37 : decode cX6_reckon 37 = .ok (.iload_n 3, 1) := by decide +kernel
theorem dX6_reckon_38 : decode cX6_reckon 38 = .ok (.bipush 6, 2) := by decide +kernel
theorem dX6_reckon_40 : decode cX6_reckon 40 = .ok (.if_icmp .ge 25, 3) := by decide +kernel
theorem dX6_reckon_43 : decode cX6_reckon 43 = .ok (.aload_n 0, 1) := by decide +kernel
theorem dX6_reckon_44 : decode cX6_reckon 44 = .ok (.getfield 24, 3) := by decide +kernel
theorem dX6_reckon_47 : decode cX6_reckon 47 = .ok (.iload_n 3, 1) := by decide +kernel
theorem dX6_reckon_48 : decode cX6_reckon 48 = .ok (.aload_n 0, 1) := by decide +kernel
theorem dX6_reckon_49 : decode cX6_reckon 49 = .ok (.getfield 42, 3) := by decide +kernel
theorem dX6_reckon_52 : decode cX6_reckon 52 = .ok (.iload_n 3, 1) := by decide +kernel
theorem dX6_reckon_53 : decode cX6_reckon 53 = .ok (.iload_n 1, 1) := by decide +kernel
theorem dX6_reckon_54 : decode cX6_reckon 54 = .ok (.iload_n 2, 1) := by decide +kernel
theorem dX6_reckon_55 : decode cX6_reckon 55 = .ok (.invokevirtual 56, 3) := by decide +kernel
theorem dX6_reckon_58 : decode cX6_reckon 58 = .ok (.iastore, 1) := by decide +kernel
theorem dX6_reckon_59 : decode cX6_reckon 59 = .ok (.iinc 3 1, 3) := by decide +kernel
theorem dX6_reckon_62 : decode cX6_reckon 62 = .ok (.goto (-25), 3) := by decide +kernel
theorem dX6_reckon_65 : decode cX6_reckon 65 = .ok (.aload_n 0, 1) := by decide +kernel
theorem dX6_reckon_66 : decode cX6_reckon 66 = .ok (.invokevirtual 62, 3) := by decide +kernel
theorem dX6_reckon_69 : decode cX6_reckon 69 = .ok (.aload_n 0, 1) := by decide +kernel
theorem dX6_reckon_70 : decode cX6_reckon 70 = .ok (.invokevirtual 65, 3) := by decide +kernel
theorem dX6_reckon_73 : decode cX6_reckon 73 = .ok (.aload_n 0, 1) := by decide +kernel
theorem dX6_reckon_74 : decode cX6_reckon 74 = .ok (.invokevirtual 68, 3) := by decide +kernel
theorem dX6_reckon_77 : decode cX6_reckon 77 = .ok (.aload_n 0, 1) := by decide +kernel
theorem dX6_reckon_78 : decode cX6_reckon 78 = .ok (.invokevirtual 71, 3) := by decide +kernel
theorem dX6_reckon_81 : decode cX6_reckon 81 = .ok (.return_, 1) := by decide +kernel
theorem dX6_quarrelCount_0 : decode cX6_quarrelCount 0 = .ok (.iconst 0, 1) := by decide +kernel
theorem dX6_quarrelCount_1 : decode cX6_quarrelCount 1 = .ok (.istore_n 1, 1) := by decide +kernel
theorem dX6_quarrelCount_2 : decode cX6_quarrelCount 2 = .ok (.iconst 0, 1) := by decide +kernel
theorem dX6_quarrelCount_3 : decode cX6_quarrelCount 3 = .ok (.istore_n 2, 1) := by decide +kernel
theorem dX6_quarrelCount_4 : decode cX6_quarrelCount 4 = .ok (.iload_n 2, 1) := by decide +kernel
theorem dX6_quarrelCount_5 : decode cX6_quarrelCount 5 = .ok (.aload_n 0, 1) := by decide +kernel
theorem dX6_quarrelCount_6 : decode cX6_quarrelCount 6 = .ok (.getfield 34, 3) := by decide +kernel
theorem dX6_quarrelCount_9 : decode cX6_quarrelCount 9 = .ok (.getfield 74, 3) := by decide +kernel
theorem dX6_quarrelCount_12 : decode cX6_quarrelCount 12 = .ok (.if_icmp .ge 32, 3) := by decide +kernel
theorem dX6_quarrelCount_15 : decode cX6_quarrelCount 15 = .ok (.aload_n 0, 1) := by decide +kernel
theorem dX6_quarrelCount_16 : decode cX6_quarrelCount 16 = .ok (.getfield 15, 3) := by decide +kernel
theorem dX6_quarrelCount_19 : decode cX6_quarrelCount 19 = .ok (.iload_n 2, 1) := by decide +kernel
theorem dX6_quarrelCount_20 : decode cX6_quarrelCount 20 = .ok (.iaload, 1) := by decide +kernel
theorem dX6_quarrelCount_21 : decode cX6_quarrelCount 21 = .ok (.ldc 80, 2) := by decide +kernel
theorem dX6_quarrelCount_23 : decode cX6_quarrelCount 23 = .ok (.if_icmp .eq 15, 3) := by decide +kernel
theorem dX6_quarrelCount_26 : decode cX6_quarrelCount 26 = .ok (.aload_n 0, 1) := by decide +kernel
theorem dX6_quarrelCount_27 : decode cX6_quarrelCount 27 = .ok (.getfield 15, 3) := by decide +kernel
theorem dX6_quarrelCount_30 : decode cX6_quarrelCount 30 = .ok (.iload_n 2, 1) := by decide +kernel
theorem dX6_quarrelCount_31 : decode cX6_quarrelCount 31 = .ok (.iaload, 1) := by decide +kernel
theorem dX6_quarrelCount_32 : decode cX6_quarrelCount 32 = .ok (.ifCond .eq 6, 3) := by decide +kernel
theorem dX6_quarrelCount_35 : decode cX6_quarrelCount 35 = .ok (.iinc 1 1, 3) := by decide +kernel
theorem dX6_quarrelCount_38 : decode cX6_quarrelCount 38 = .ok (.iinc 2 1, 3) := by decide +kernel
theorem dX6_quarrelCount_41 : decode cX6_quarrelCount 41 = .ok (.goto (-37), 3) := by decide +kernel
theorem dX6_quarrelCount_44 : decode cX6_quarrelCount 44 = .ok (.iload_n 1, 1) := by decide +kernel
theorem dX6_quarrelCount_45 : decode cX6_quarrelCount 45 = .ok (.ireturn, 1) := by decide +kernel
theorem dX6_taxOf_0 : decode cX6_taxOf 0 = .ok (.aload_n 0, 1) := by decide +kernel
theorem dX6_taxOf_1 : decode cX6_taxOf 1 = .ok (.getfield 27, 3) := by decide +kernel
theorem dX6_taxOf_4 : decode cX6_taxOf 4 = .ok (.iload_n 1, 1) := by decide +kernel
theorem dX6_taxOf_5 : decode cX6_taxOf 5 = .ok (.iaload, 1) := by decide +kernel
theorem dX6_taxOf_6 : decode cX6_taxOf 6 = .ok (.i2l, 1) := by decide +kernel
theorem dX6_taxOf_7 : decode cX6_taxOf 7 = .ok (.aload_n 0, 1) := by decide +kernel
theorem dX6_taxOf_8 : decode cX6_taxOf 8 = .ok (.getfield 24, 3) := by decide +kernel
theorem dX6_taxOf_11 : decode cX6_taxOf 11 = .ok (.iconst 5, 1) := by decide +kernel
theorem dX6_taxOf_12 : decode cX6_taxOf 12 = .ok (.iaload, 1) := by decide +kernel
theorem dX6_taxOf_13 : decode cX6_taxOf 13 = .ok (.i2l, 1) := by decide +kernel
theorem dX6_taxOf_14 : decode cX6_taxOf 14 = .ok (.lmul, 1) := by decide +kernel
theorem dX6_taxOf_15 : decode cX6_taxOf 15 = .ok (.ldc2_w 81, 3) := by decide +kernel
theorem dX6_taxOf_18 : decode cX6_taxOf 18 = .ok (.ldiv, 1) := by decide +kernel
theorem dX6_taxOf_19 : decode cX6_taxOf 19 = .ok (.l2i, 1) := by decide +kernel
theorem dX6_taxOf_20 : decode cX6_taxOf 20 = .ok (.ireturn, 1) := by decide +kernel
set_option maxRecDepth 20000 in
theorem ggX6_takeLines_X2_standsOn : GoodIn wsX6_takeLines wsX2_standsOn := goodIn_r _ [9, 10, 11, 12, 23, 24, 25, 26, 27, 28, 29, 30, 31] (by decide +kernel) (by decide +kernel)
set_option maxRecDepth 20000 in
theorem gX6_takeLines_X2_standsOn : GoodIn wsX6_takeLines (wsV RX6 86 RX2 yX2_standsOn wsX2_standsOn) := goodIn_app (goodIn_of _ (by decide +kernel)) ggX6_takeLines_X2_standsOn
theorem dX6_takeLines_0 : decode cX6_takeLines 0 = .ok (.iconst 0, 1) := by decide +kernel
theorem dX6_takeLines_1 : decode cX6_takeLines 1 = .ok (.istore_n 3, 1) := by decide +kernel
theorem dX6_takeLines_2 : decode cX6_takeLines 2 = .ok (.iload_n 3, 1) := by decide +kernel
theorem dX6_takeLines_3 : decode cX6_takeLines 3 = .ok (.aload_n 0, 1) := by decide +kernel
theorem dX6_takeLines_4 : decode cX6_takeLines 4 = .ok (.getfield 34, 3) := by decide +kernel
theorem dX6_takeLines_7 : decode cX6_takeLines 7 = .ok (.getfield 74, 3) := by decide +kernel
theorem dX6_takeLines_10 : decode cX6_takeLines 10 = .ok (.if_icmp .ge 66, 3) := by decide +kernel
theorem dX6_takeLines_13 : decode cX6_takeLines 13 = .ok (.aload_n 0, 1) := by decide +kernel
theorem dX6_takeLines_14 : decode cX6_takeLines 14 = .ok (.getfield 34, 3) := by decide +kernel
theorem dX6_takeLines_17 : decode cX6_takeLines 17 = .ok (.getfield 83, 3) := by decide +kernel
theorem dX6_takeLines_20 : decode cX6_takeLines 20 = .ok (.iload_n 3, 1) := by decide +kernel
theorem dX6_takeLines_21 : decode cX6_takeLines 21 = .ok (.iaload, 1) := by decide +kernel
theorem dX6_takeLines_22 : decode cX6_takeLines 22 = .ok (.iload_n 1, 1) := by decide +kernel
theorem dX6_takeLines_23 : decode cX6_takeLines 23 = .ok (.if_icmp .ne 19, 3) := by decide +kernel
theorem dX6_takeLines_26 : decode cX6_takeLines 26 = .ok (.aload_n 0, 1) := by decide +kernel
theorem dX6_takeLines_27 : decode cX6_takeLines 27 = .ok (.getfield 34, 3) := by decide +kernel
theorem dX6_takeLines_30 : decode cX6_takeLines 30 = .ok (.iload_n 3, 1) := by decide +kernel
theorem dX6_takeLines_31 : decode cX6_takeLines 31 = .ok (.iload_n 2, 1) := by decide +kernel
theorem dX6_takeLines_32 : decode cX6_takeLines 32 = .ok (.invokevirtual 86, 3) := by decide +kernel
theorem dX6_takeLines_35 : decode cX6_takeLines 35 = .ok (.ifCond .eq 7, 3) := by decide +kernel
theorem dX6_takeLines_38 : decode cX6_takeLines 38 = .ok (.iconst 1, 1) := by decide +kernel
theorem dX6_takeLines_39 : decode cX6_takeLines 39 = .ok (.goto 4, 3) := by decide +kernel
theorem dX6_takeLines_42 : decode cX6_takeLines 42 = .ok (.iconst 0, 1) := by decide +kernel
theorem dX6_takeLines_43 : decode cX6_takeLines 43 = .ok (.istore 4, 2) := by decide +kernel
theorem dX6_takeLines_45 : decode cX6_takeLines 45 = .ok (.aload_n 0, 1) := by decide +kernel
theorem dX6_takeLines_46 : decode cX6_takeLines 46 = .ok (.getfield 15, 3) := by decide +kernel
theorem dX6_takeLines_49 : decode cX6_takeLines 49 = .ok (.iload_n 3, 1) := by decide +kernel
theorem dX6_takeLines_50 : decode cX6_takeLines 50 = .ok (.iload 4, 2) := by decide +kernel
theorem dX6_takeLines_52 : decode cX6_takeLines 52 = .ok (.ifCond .eq 7, 3) := by decide +kernel
theorem dX6_takeLines_55 : decode cX6_takeLines 55 = .ok (.iconst 0, 1) := by decide +kernel
theorem dX6_takeLines_56 : decode cX6_takeLines 56 = .ok (.goto 5, 3) := by decide +kernel
theorem dX6_takeLines_59 : decode cX6_takeLines 59 = .ok (.ldc 80, 2) := by decide +kernel
theorem dX6_takeLines_61 : decode cX6_takeLines 61 = .ok (.iastore, 1) := by decide +kernel
theorem dX6_takeLines_62 : decode cX6_takeLines 62 = .ok (.aload_n 0, 1) := by decide +kernel
theorem dX6_takeLines_63 : decode cX6_takeLines 63 = .ok (.getfield 9, 3) := by decide +kernel
theorem dX6_takeLines_66 : decode cX6_takeLines 66 = .ok (.iload_n 3, 1) := by decide +kernel
theorem dX6_takeLines_67 : decode cX6_takeLines 67 = .ok (.ldc 80, 2) := by decide +kernel
theorem dX6_takeLines_69 : decode cX6_takeLines 69 = .ok (.iastore, 1) := by decide +kernel
theorem dX6_takeLines_70 : decode cX6_takeLines 70 = .ok (.iinc 3 1, 3) := by decide +kernel
theorem dX6_takeLines_73 : decode cX6_takeLines 73 = .ok (.goto (-71), 3) := by decide +kernel
theorem dX6_takeLines_76 : decode cX6_takeLines 76 = .ok (.return_, 1) := by decide +kernel
set_option maxRecDepth 20000 in
theorem ggX6_matchDebts_X6_matchOwes : GoodIn wsX6_matchDebts wsX6_matchOwes := goodIn_r _ [8, 1, 9, 10, 11, 12, 7, 13, 2, 3, 14, 15, 16, 17, 18, 19, 20, 21, 22, 23, 24, 25, 26, 27, 28, 29, 30, 31, 32] (by decide +kernel) (by decide +kernel)
set_option maxRecDepth 20000 in
theorem gX6_matchDebts_X6_matchOwes : GoodIn wsX6_matchDebts (wsV RX6 93 RX6 yX6_matchOwes wsX6_matchOwes) := goodIn_app (goodIn_of _ (by decide +kernel)) ggX6_matchDebts_X6_matchOwes
theorem dX6_matchDebts_0 : decode cX6_matchDebts 0 = .ok (.iconst 0, 1) := by decide +kernel
theorem dX6_matchDebts_1 : decode cX6_matchDebts 1 = .ok (.istore_n 1, 1) := by decide +kernel
theorem dX6_matchDebts_2 : decode cX6_matchDebts 2 = .ok (.iload_n 1, 1) := by decide +kernel
theorem dX6_matchDebts_3 : decode cX6_matchDebts 3 = .ok (.aload_n 0, 1) := by decide +kernel
theorem dX6_matchDebts_4 : decode cX6_matchDebts 4 = .ok (.getfield 34, 3) := by decide +kernel
theorem dX6_matchDebts_7 : decode cX6_matchDebts 7 = .ok (.getfield 74, 3) := by decide +kernel
theorem dX6_matchDebts_10 : decode cX6_matchDebts 10 = .ok (.if_icmp .ge 38, 3) := by decide +kernel
theorem dX6_matchDebts_13 : decode cX6_matchDebts 13 = .ok (.aload_n 0, 1) := by decide +kernel
theorem dX6_matchDebts_14 : decode cX6_matchDebts 14 = .ok (.getfield 15, 3) := by decide +kernel
theorem dX6_matchDebts_17 : decode cX6_matchDebts 17 = .ok (.iload_n 1, 1) := by decide +kernel
theorem dX6_matchDebts_18 : decode cX6_matchDebts 18 = .ok (.iaload, 1) := by decide +kernel
theorem dX6_matchDebts_19 : decode cX6_matchDebts 19 = .ok (.ldc 80, 2) := by decide +kernel
theorem dX6_matchDebts_21 : decode cX6_matchDebts 21 = .ok (.if_icmp .eq 21, 3) := by decide +kernel
theorem dX6_matchDebts_24 : decode cX6_matchDebts 24 = .ok (.aload_n 0, 1) := by decide +kernel
theorem dX6_matchDebts_25 : decode cX6_matchDebts 25 = .ok (.getfield 34, 3) := by decide +kernel
theorem dX6_matchDebts_28 : decode cX6_matchDebts 28 = .ok (.getfield 90, 3) := by decide +kernel
theorem dX6_matchDebts_31 : decode cX6_matchDebts 31 = .ok (.iload_n 1, 1) := by decide +kernel
theorem dX6_matchDebts_32 : decode cX6_matchDebts 32 = .ok (.iaload, 1) := by decide +kernel
theorem dX6_matchDebts_33 : decode cX6_matchDebts 33 = .ok (.iconst 4, 1) := by decide +kernel
theorem dX6_matchDebts_34 : decode cX6_matchDebts 34 = .ok (.if_icmp .ne 8, 3) := by decide +kernel
theorem dX6_matchDebts_37 : decode cX6_matchDebts 37 = .ok (.aload_n 0, 1) := by decide +kernel
theorem dX6_matchDebts_38 : decode cX6_matchDebts 38 = .ok (.iload_n 1, 1) := by decide +kernel
theorem dX6_matchDebts_39 : decode cX6_matchDebts 39 = .ok (.invokevirtual 93, 3) := by decide +kernel
theorem dX6_matchDebts_42 : decode cX6_matchDebts 42 = .ok (.iinc 1 1, 3) := by decide +kernel
theorem dX6_matchDebts_45 : decode cX6_matchDebts 45 = .ok (.goto (-43), 3) := by decide +kernel
theorem dX6_matchDebts_48 : decode cX6_matchDebts 48 = .ok (.return_, 1) := by decide +kernel
set_option maxRecDepth 20000 in
theorem ggX6_matchOwes_X6_isFreeLentOf : GoodIn wsX6_matchOwes wsX6_isFreeLentOf := goodIn_r _ [7, 8, 9, 1, 2, 10, 11, 12, 13, 14, 15, 16, 17, 18, 19, 20, 21, 22, 23, 24, 25, 26, 27, 28] (by decide +kernel) (by decide +kernel)
set_option maxRecDepth 20000 in
theorem gX6_matchOwes_X6_isFreeLentOf : GoodIn wsX6_matchOwes (wsV RX6 97 RX6 yX6_isFreeLentOf wsX6_isFreeLentOf) := goodIn_app (goodIn_of _ (by decide +kernel)) ggX6_matchOwes_X6_isFreeLentOf
theorem dX6_matchOwes_0 : decode cX6_matchOwes 0 = .ok (.iconst 0, 1) := by decide +kernel
theorem dX6_matchOwes_1 : decode cX6_matchOwes 1 = .ok (.istore_n 2, 1) := by decide +kernel
theorem dX6_matchOwes_2 : decode cX6_matchOwes 2 = .ok (.iload_n 2, 1) := by decide +kernel
theorem dX6_matchOwes_3 : decode cX6_matchOwes 3 = .ok (.aload_n 0, 1) := by decide +kernel
theorem dX6_matchOwes_4 : decode cX6_matchOwes 4 = .ok (.getfield 34, 3) := by decide +kernel
theorem dX6_matchOwes_7 : decode cX6_matchOwes 7 = .ok (.getfield 74, 3) := by decide +kernel
theorem dX6_matchOwes_10 : decode cX6_matchOwes 10 = .ok (.if_icmp .ge 33, 3) := by decide +kernel
theorem dX6_matchOwes_13 : decode cX6_matchOwes 13 = .ok (.aload_n 0, 1) := by decide +kernel
theorem dX6_matchOwes_14 : decode cX6_matchOwes 14 = .ok (.iload_n 2, 1) := by decide +kernel
theorem dX6_matchOwes_15 : decode cX6_matchOwes 15 = .ok (.iload_n 1, 1) := by decide +kernel
theorem dX6_matchOwes_16 : decode cX6_matchOwes 16 = .ok (.invokevirtual 97, 3) := by decide +kernel
theorem dX6_matchOwes_19 : decode cX6_matchOwes 19 = .ok (.ifCond .eq 18, 3) := by decide +kernel
theorem dX6_matchOwes_22 : decode cX6_matchOwes 22 = .ok (.aload_n 0, 1) := by decide +kernel
theorem dX6_matchOwes_23 : decode cX6_matchOwes 23 = .ok (.getfield 9, 3) := by decide +kernel
theorem dX6_matchOwes_26 : decode cX6_matchOwes 26 = .ok (.iload_n 1, 1) := by decide +kernel
theorem dX6_matchOwes_27 : decode cX6_matchOwes 27 = .ok (.iload_n 2, 1) := by decide +kernel
theorem dX6_matchOwes_28 : decode cX6_matchOwes 28 = .ok (.iastore, 1) := by decide +kernel
theorem dX6_matchOwes_29 : decode cX6_matchOwes 29 = .ok (.aload_n 0, 1) := by decide +kernel
theorem dX6_matchOwes_30 : decode cX6_matchOwes 30 = .ok (.getfield 9, 3) := by decide +kernel
theorem dX6_matchOwes_33 : decode cX6_matchOwes 33 = .ok (.iload_n 2, 1) := by decide +kernel
theorem dX6_matchOwes_34 : decode cX6_matchOwes 34 = .ok (.iload_n 1, 1) := by decide +kernel
theorem dX6_matchOwes_35 : decode cX6_matchOwes 35 = .ok (.iastore, 1) := by decide +kernel
theorem dX6_matchOwes_36 : decode cX6_matchOwes 36 = .ok (.return_, 1) := by decide +kernel
theorem dX6_matchOwes_37 : decode cX6_matchOwes 37 = .ok (.iinc 2 1, 3) := by decide +kernel
theorem dX6_matchOwes_40 : decode cX6_matchOwes 40 = .ok (.goto (-38), 3) := by decide +kernel
theorem dX6_matchOwes_43 : decode cX6_matchOwes 43 = .ok (.return_, 1) := by decide +kernel
theorem dX6_isFreeLentOf_0 : decode cX6_isFreeLentOf 0 = .ok (.aload_n 0, 1) := by decide +kernel
theorem dX6_isFreeLentOf_1 : decode cX6_isFreeLentOf 1 = .ok (.getfield 15, 3) := by decide +kernel
theorem dX6_isFreeLentOf_4 : decode cX6_isFreeLentOf 4 = .ok (.iload_n 1, 1) := by decide +kernel
theorem dX6_isFreeLentOf_5 : decode cX6_isFreeLentOf 5 = .ok (.iaload, 1) := by decide +kernel
theorem dX6_isFreeLentOf_6 : decode cX6_isFreeLentOf 6 = .ok (.ldc 80, 2) := by decide +kernel
theorem dX6_isFreeLentOf_8 : decode cX6_isFreeLentOf 8 = .ok (.if_icmp .eq 94, 3) := by decide +kernel
theorem dX6_isFreeLentOf_11 : decode cX6_isFreeLentOf 11 = .ok (.aload_n 0, 1) := by decide +kernel
theorem dX6_isFreeLentOf_12 : decode cX6_isFreeLentOf 12 = .ok (.getfield 34, 3) := by decide +kernel
theorem dX6_isFreeLentOf_15 : decode cX6_isFreeLentOf 15 = .ok (.getfield 90, 3) := by decide +kernel
theorem dX6_isFreeLentOf_18 : decode cX6_isFreeLentOf 18 = .ok (.iload_n 1, 1) := by decide +kernel
theorem dX6_isFreeLentOf_19 : decode cX6_isFreeLentOf 19 = .ok (.iaload, 1) := by decide +kernel
theorem dX6_isFreeLentOf_20 : decode cX6_isFreeLentOf 20 = .ok (.iconst 5, 1) := by decide +kernel
theorem dX6_isFreeLentOf_21 : decode cX6_isFreeLentOf 21 = .ok (.if_icmp .ne 81, 3) := by decide +kernel
theorem dX6_isFreeLentOf_24 : decode cX6_isFreeLentOf 24 = .ok (.aload_n 0, 1) := by decide +kernel
theorem dX6_isFreeLentOf_25 : decode cX6_isFreeLentOf 25 = .ok (.getfield 9, 3) := by decide +kernel
theorem dX6_isFreeLentOf_28 : decode cX6_isFreeLentOf 28 = .ok (.iload_n 1, 1) := by decide +kernel
theorem dX6_isFreeLentOf_29 : decode cX6_isFreeLentOf 29 = .ok (.iaload, 1) := by decide +kernel
theorem dX6_isFreeLentOf_30 : decode cX6_isFreeLentOf 30 = .ok (.ldc 80, 2) := by decide +kernel
theorem dX6_isFreeLentOf_32 : decode cX6_isFreeLentOf 32 = .ok (.if_icmp .ne 70, 3) := by decide +kernel
theorem dX6_isFreeLentOf_35 : decode cX6_isFreeLentOf 35 = .ok (.aload_n 0, 1) := by decide +kernel
theorem dX6_isFreeLentOf_36 : decode cX6_isFreeLentOf 36 = .ok (.getfield 34, 3) := by decide +kernel
theorem dX6_isFreeLentOf_39 : decode cX6_isFreeLentOf 39 = .ok (.getfield 100, 3) := by decide +kernel
theorem dX6_isFreeLentOf_42 : decode cX6_isFreeLentOf 42 = .ok (.iload_n 1, 1) := by decide +kernel
theorem dX6_isFreeLentOf_43 : decode cX6_isFreeLentOf 43 = .ok (.iaload, 1) := by decide +kernel
theorem dX6_isFreeLentOf_44 : decode cX6_isFreeLentOf 44 = .ok (.aload_n 0, 1) := by decide +kernel
theorem dX6_isFreeLentOf_45 : decode cX6_isFreeLentOf 45 = .ok (.getfield 34, 3) := by decide +kernel
theorem dX6_isFreeLentOf_48 : decode cX6_isFreeLentOf 48 = .ok (.getfield 103, 3) := by decide +kernel
theorem dX6_isFreeLentOf_51 : decode cX6_isFreeLentOf 51 = .ok (.iload_n 2, 1) := by decide +kernel
theorem dX6_isFreeLentOf_52 : decode cX6_isFreeLentOf 52 = .ok (.iaload, 1) := by decide +kernel
theorem dX6_isFreeLentOf_53 : decode cX6_isFreeLentOf 53 = .ok (.if_icmp .ne 49, 3) := by decide +kernel
theorem dX6_isFreeLentOf_56 : decode cX6_isFreeLentOf 56 = .ok (.aload_n 0, 1) := by decide +kernel
theorem dX6_isFreeLentOf_57 : decode cX6_isFreeLentOf 57 = .ok (.getfield 34, 3) := by decide +kernel
theorem dX6_isFreeLentOf_60 : decode cX6_isFreeLentOf 60 = .ok (.getfield 103, 3) := by decide +kernel
theorem dX6_isFreeLentOf_63 : decode cX6_isFreeLentOf 63 = .ok (.iload_n 1, 1) := by decide +kernel
theorem dX6_isFreeLentOf_64 : decode cX6_isFreeLentOf 64 = .ok (.iaload, 1) := by decide +kernel
theorem dX6_isFreeLentOf_65 : decode cX6_isFreeLentOf 65 = .ok (.aload_n 0, 1) := by decide +kernel
theorem dX6_isFreeLentOf_66 : decode cX6_isFreeLentOf 66 = .ok (.getfield 34, 3) := by decide +kernel
theorem dX6_isFreeLentOf_69 : decode cX6_isFreeLentOf 69 = .ok (.getfield 100, 3) := by decide +kernel
theorem dX6_isFreeLentOf_72 : decode cX6_isFreeLentOf 72 = .ok (.iload_n 2, 1) := by decide +kernel
theorem dX6_isFreeLentOf_73 : decode cX6_isFreeLentOf 73 = .ok (.iaload, 1) := by decide +kernel
theorem dX6_isFreeLentOf_74 : decode cX6_isFreeLentOf 74 = .ok (.if_icmp .ne 28, 3) := by decide +kernel
theorem dX6_isFreeLentOf_77 : decode cX6_isFreeLentOf 77 = .ok (.aload_n 0, 1) := by decide +kernel
theorem dX6_isFreeLentOf_78 : decode cX6_isFreeLentOf 78 = .ok (.getfield 34, 3) := by decide +kernel
theorem dX6_isFreeLentOf_81 : decode cX6_isFreeLentOf 81 = .ok (.getfield 106, 3) := by decide +kernel
theorem dX6_isFreeLentOf_84 : decode cX6_isFreeLentOf 84 = .ok (.iload_n 1, 1) := by decide +kernel
theorem dX6_isFreeLentOf_85 : decode cX6_isFreeLentOf 85 = .ok (.iaload, 1) := by decide +kernel
theorem dX6_isFreeLentOf_86 : decode cX6_isFreeLentOf 86 = .ok (.aload_n 0, 1) := by decide +kernel
theorem dX6_isFreeLentOf_87 : decode cX6_isFreeLentOf 87 = .ok (.getfield 34, 3) := by decide +kernel
theorem dX6_isFreeLentOf_90 : decode cX6_isFreeLentOf 90 = .ok (.getfield 106, 3) := by decide +kernel
theorem dX6_isFreeLentOf_93 : decode cX6_isFreeLentOf 93 = .ok (.iload_n 2, 1) := by decide +kernel
theorem dX6_isFreeLentOf_94 : decode cX6_isFreeLentOf 94 = .ok (.iaload, 1) := by decide +kernel
theorem dX6_isFreeLentOf_95 : decode cX6_isFreeLentOf 95 = .ok (.if_icmp .ne 7, 3) := by decide +kernel
theorem dX6_isFreeLentOf_98 : decode cX6_isFreeLentOf 98 = .ok (.iconst 1, 1) := by decide +kernel
theorem dX6_isFreeLentOf_99 : decode cX6_isFreeLentOf 99 = .ok (.goto 4, 3) := by decide +kernel
theorem dX6_isFreeLentOf_102 : decode cX6_isFreeLentOf 102 = .ok (.iconst 0, 1) := by decide +kernel
theorem dX6_isFreeLentOf_103 : decode cX6_isFreeLentOf 103 = .ok (.ireturn, 1) := by decide +kernel
set_option maxRecDepth 20000 in
theorem ggX6_findDebtQuarrels_X6_quarrelOfUnmatched : GoodIn wsX6_findDebtQuarrels wsX6_quarrelOfUnmatched := goodIn_r _ [8] (by decide +kernel) (by decide +kernel)
set_option maxRecDepth 20000 in
theorem gX6_findDebtQuarrels_X6_quarrelOfUnmatched : GoodIn wsX6_findDebtQuarrels (va_wsS RX6 109 yX6_quarrelOfUnmatched wsX6_quarrelOfUnmatched) := goodIn_app (goodIn_of _ (by decide +kernel)) ggX6_findDebtQuarrels_X6_quarrelOfUnmatched
theorem dX6_findDebtQuarrels_0 : decode cX6_findDebtQuarrels 0 = .ok (.iconst 0, 1) := by decide +kernel
theorem dX6_findDebtQuarrels_1 : decode cX6_findDebtQuarrels 1 = .ok (.istore_n 1, 1) := by decide +kernel
theorem dX6_findDebtQuarrels_2 : decode cX6_findDebtQuarrels 2 = .ok (.iload_n 1, 1) := by decide +kernel
theorem dX6_findDebtQuarrels_3 : decode cX6_findDebtQuarrels 3 = .ok (.aload_n 0, 1) := by decide +kernel
theorem dX6_findDebtQuarrels_4 : decode cX6_findDebtQuarrels 4 = .ok (.getfield 34, 3) := by decide +kernel
theorem dX6_findDebtQuarrels_7 : decode cX6_findDebtQuarrels 7 = .ok (.getfield 74, 3) := by decide +kernel
theorem dX6_findDebtQuarrels_10 : decode cX6_findDebtQuarrels 10 = .ok (.if_icmp .ge 49, 3) := by decide +kernel
theorem dX6_findDebtQuarrels_13 : decode cX6_findDebtQuarrels 13 = .ok (.aload_n 0, 1) := by decide +kernel
theorem dX6_findDebtQuarrels_14 : decode cX6_findDebtQuarrels 14 = .ok (.getfield 15, 3) := by decide +kernel
theorem dX6_findDebtQuarrels_17 : decode cX6_findDebtQuarrels 17 = .ok (.iload_n 1, 1) := by decide +kernel
theorem dX6_findDebtQuarrels_18 : decode cX6_findDebtQuarrels 18 = .ok (.iaload, 1) := by decide +kernel
theorem dX6_findDebtQuarrels_19 : decode cX6_findDebtQuarrels 19 = .ok (.ldc 80, 2) := by decide +kernel
theorem dX6_findDebtQuarrels_21 : decode cX6_findDebtQuarrels 21 = .ok (.if_icmp .eq 32, 3) := by decide +kernel
theorem dX6_findDebtQuarrels_24 : decode cX6_findDebtQuarrels 24 = .ok (.aload_n 0, 1) := by decide +kernel
theorem dX6_findDebtQuarrels_25 : decode cX6_findDebtQuarrels 25 = .ok (.getfield 9, 3) := by decide +kernel
theorem dX6_findDebtQuarrels_28 : decode cX6_findDebtQuarrels 28 = .ok (.iload_n 1, 1) := by decide +kernel
theorem dX6_findDebtQuarrels_29 : decode cX6_findDebtQuarrels 29 = .ok (.iaload, 1) := by decide +kernel
theorem dX6_findDebtQuarrels_30 : decode cX6_findDebtQuarrels 30 = .ok (.ldc 80, 2) := by decide +kernel
theorem dX6_findDebtQuarrels_32 : decode cX6_findDebtQuarrels 32 = .ok (.if_icmp .ne 21, 3) := by decide +kernel
theorem dX6_findDebtQuarrels_35 : decode cX6_findDebtQuarrels 35 = .ok (.aload_n 0, 1) := by decide +kernel
theorem dX6_findDebtQuarrels_36 : decode cX6_findDebtQuarrels 36 = .ok (.getfield 15, 3) := by decide +kernel
theorem dX6_findDebtQuarrels_39 : decode cX6_findDebtQuarrels 39 = .ok (.iload_n 1, 1) := by decide +kernel
theorem dX6_findDebtQuarrels_40 : decode cX6_findDebtQuarrels 40 = .ok (.aload_n 0, 1) := by decide +kernel
theorem dX6_findDebtQuarrels_41 : decode cX6_findDebtQuarrels 41 = .ok (.getfield 34, 3) := by decide +kernel
theorem dX6_findDebtQuarrels_44 : decode cX6_findDebtQuarrels 44 = .ok (.getfield 90, 3) := by decide +kernel
theorem dX6_findDebtQuarrels_47 : decode cX6_findDebtQuarrels 47 = .ok (.iload_n 1, 1) := by decide +kernel
theorem dX6_findDebtQuarrels_48 : decode cX6_findDebtQuarrels 48 = .ok (.iaload, 1) := by decide +kernel
theorem dX6_findDebtQuarrels_49 : decode cX6_findDebtQuarrels 49 = .ok (.invokestatic 109, 3) := by decide +kernel
theorem dX6_findDebtQuarrels_52 : decode cX6_findDebtQuarrels 52 = .ok (.iastore, 1) := by decide +kernel
theorem dX6_findDebtQuarrels_53 : decode cX6_findDebtQuarrels 53 = .ok (.iinc 1 1, 3) := by decide +kernel
theorem dX6_findDebtQuarrels_56 : decode cX6_findDebtQuarrels 56 = .ok (.goto (-54), 3) := by decide +kernel
theorem dX6_findDebtQuarrels_59 : decode cX6_findDebtQuarrels 59 = .ok (.return_, 1) := by decide +kernel
theorem dX6_quarrelOfUnmatched_0 : decode cX6_quarrelOfUnmatched 0 = .ok (.iload_n 0, 1) := by decide +kernel
theorem dX6_quarrelOfUnmatched_1 : decode cX6_quarrelOfUnmatched 1 = .ok (.lookupswitch 31 #[(4, 27), (5, 29)], 27) := by decide +kernel
theorem dX6_quarrelOfUnmatched_28 : decode cX6_quarrelOfUnmatched 28 = .ok (.iconst 4, 1) := by decide +kernel
theorem dX6_quarrelOfUnmatched_29 : decode cX6_quarrelOfUnmatched 29 = .ok (.ireturn, 1) := by decide +kernel
theorem dX6_quarrelOfUnmatched_30 : decode cX6_quarrelOfUnmatched 30 = .ok (.iconst 5, 1) := by decide +kernel
theorem dX6_quarrelOfUnmatched_31 : decode cX6_quarrelOfUnmatched 31 = .ok (.ireturn, 1) := by decide +kernel
theorem dX6_quarrelOfUnmatched_32 : decode cX6_quarrelOfUnmatched 32 = .ok (.iconst 0, 1) := by decide +kernel
theorem dX6_quarrelOfUnmatched_33 : decode cX6_quarrelOfUnmatched 33 = .ok (.ireturn, 1) := by decide +kernel
set_option maxRecDepth 20000 in
theorem ggX6_findLandQuarrels_J7_fill_53178 : GoodIn wsX6_findLandQuarrels wsJ7_fill_53178 := goodIn_r _ [8] (by decide +kernel) (by decide +kernel)
set_option maxRecDepth 20000 in
theorem gX6_findLandQuarrels_J7_fill_53178 : GoodIn wsX6_findLandQuarrels (va_wsS RX6 113 yJ7_fill_53178 wsJ7_fill_53178) := goodIn_app (goodIn_of _ (by decide +kernel)) ggX6_findLandQuarrels_J7_fill_53178
set_option maxRecDepth 20000 in
theorem ggX6_findLandQuarrels_X6_tellLand : GoodIn wsX6_findLandQuarrels wsX6_tellLand := goodIn_r _ [13, 14, 1, 15, 4, 16, 17, 18, 19, 20, 21, 22, 23, 24, 25, 26, 27, 28, 29, 30, 31, 41, 42] (by decide +kernel) (by decide +kernel)
set_option maxRecDepth 20000 in
theorem gX6_findLandQuarrels_X6_tellLand : GoodIn wsX6_findLandQuarrels (wsV RX6 119 RX6 yX6_tellLand wsX6_tellLand) := goodIn_app (goodIn_of _ (by decide +kernel)) ggX6_findLandQuarrels_X6_tellLand
theorem dX6_findLandQuarrels_0 : decode cX6_findLandQuarrels 0 = .ok (.aload_n 0, 1) := by decide +kernel
theorem dX6_findLandQuarrels_1 : decode cX6_findLandQuarrels 1 = .ok (.getfield 18, 3) := by decide +kernel
theorem dX6_findLandQuarrels_4 : decode cX6_findLandQuarrels 4 = .ok (.iconst 0, 1) := by decide +kernel
theorem dX6_findLandQuarrels_5 : decode cX6_findLandQuarrels 5 = .ok (.invokestatic 113, 3) := by decide +kernel
theorem dX6_findLandQuarrels_8 : decode cX6_findLandQuarrels 8 = .ok (.iconst 0, 1) := by decide +kernel
theorem dX6_findLandQuarrels_9 : decode cX6_findLandQuarrels 9 = .ok (.istore_n 1, 1) := by decide +kernel
theorem dX6_findLandQuarrels_10 : decode cX6_findLandQuarrels 10 = .ok (.iload_n 1, 1) := by decide +kernel
theorem dX6_findLandQuarrels_11 : decode cX6_findLandQuarrels 11 = .ok (.aload_n 0, 1) := by decide +kernel
theorem dX6_findLandQuarrels_12 : decode cX6_findLandQuarrels 12 = .ok (.getfield 34, 3) := by decide +kernel
theorem dX6_findLandQuarrels_15 : decode cX6_findLandQuarrels 15 = .ok (.getfield 74, 3) := by decide +kernel
theorem dX6_findLandQuarrels_18 : decode cX6_findLandQuarrels 18 = .ok (.if_icmp .ge 70, 3) := by decide +kernel
theorem dX6_findLandQuarrels_21 : decode cX6_findLandQuarrels 21 = .ok (.aload_n 0, 1) := by decide +kernel
theorem dX6_findLandQuarrels_22 : decode cX6_findLandQuarrels 22 = .ok (.getfield 15, 3) := by decide +kernel
theorem dX6_findLandQuarrels_25 : decode cX6_findLandQuarrels 25 = .ok (.iload_n 1, 1) := by decide +kernel
theorem dX6_findLandQuarrels_26 : decode cX6_findLandQuarrels 26 = .ok (.iaload, 1) := by decide +kernel
theorem dX6_findLandQuarrels_27 : decode cX6_findLandQuarrels 27 = .ok (.ldc 80, 2) := by decide +kernel
theorem dX6_findLandQuarrels_29 : decode cX6_findLandQuarrels 29 = .ok (.if_icmp .eq 53, 3) := by decide +kernel
theorem dX6_findLandQuarrels_32 : decode cX6_findLandQuarrels 32 = .ok (.aload_n 0, 1) := by decide +kernel
theorem dX6_findLandQuarrels_33 : decode cX6_findLandQuarrels 33 = .ok (.getfield 34, 3) := by decide +kernel
theorem dX6_findLandQuarrels_36 : decode cX6_findLandQuarrels 36 = .ok (.getfield 90, 3) := by decide +kernel
theorem dX6_findLandQuarrels_39 : decode cX6_findLandQuarrels 39 = .ok (.iload_n 1, 1) := by decide +kernel
theorem dX6_findLandQuarrels_40 : decode cX6_findLandQuarrels 40 = .ok (.iaload, 1) := by decide +kernel
theorem dX6_findLandQuarrels_41 : decode cX6_findLandQuarrels 41 = .ok (.iconst 1, 1) := by decide +kernel
theorem dX6_findLandQuarrels_42 : decode cX6_findLandQuarrels 42 = .ok (.if_icmp .ne 40, 3) := by decide +kernel
theorem dX6_findLandQuarrels_45 : decode cX6_findLandQuarrels 45 = .ok (.aload_n 0, 1) := by decide +kernel
theorem dX6_findLandQuarrels_46 : decode cX6_findLandQuarrels 46 = .ok (.getfield 15, 3) := by decide +kernel
theorem dX6_findLandQuarrels_49 : decode cX6_findLandQuarrels 49 = .ok (.iload_n 1, 1) := by decide +kernel
theorem dX6_findLandQuarrels_50 : decode cX6_findLandQuarrels 50 = .ok (.aload_n 0, 1) := by decide +kernel
theorem dX6_findLandQuarrels_51 : decode cX6_findLandQuarrels 51 = .ok (.aload_n 0, 1) := by decide +kernel
theorem dX6_findLandQuarrels_52 : decode cX6_findLandQuarrels 52 = .ok (.getfield 34, 3) := by decide +kernel
theorem dX6_findLandQuarrels_55 : decode cX6_findLandQuarrels 55 = .ok (.getfield 103, 3) := by decide +kernel
theorem dX6_findLandQuarrels_58 : decode cX6_findLandQuarrels 58 = .ok (.iload_n 1, 1) := by decide +kernel
theorem dX6_findLandQuarrels_59 : decode cX6_findLandQuarrels 59 = .ok (.iaload, 1) := by decide +kernel
theorem dX6_findLandQuarrels_60 : decode cX6_findLandQuarrels 60 = .ok (.aload_n 0, 1) := by decide +kernel
theorem dX6_findLandQuarrels_61 : decode cX6_findLandQuarrels 61 = .ok (.getfield 34, 3) := by decide +kernel
theorem dX6_findLandQuarrels_64 : decode cX6_findLandQuarrels 64 = .ok (.getfield 106, 3) := by decide +kernel
theorem dX6_findLandQuarrels_67 : decode cX6_findLandQuarrels 67 = .ok (.iload_n 1, 1) := by decide +kernel
theorem dX6_findLandQuarrels_68 : decode cX6_findLandQuarrels 68 = .ok (.iaload, 1) := by decide +kernel
theorem dX6_findLandQuarrels_69 : decode cX6_findLandQuarrels 69 = .ok (.aload_n 0, 1) := by decide +kernel
theorem dX6_findLandQuarrels_70 : decode cX6_findLandQuarrels 70 = .ok (.getfield 34, 3) := by decide +kernel
theorem dX6_findLandQuarrels_73 : decode cX6_findLandQuarrels 73 = .ok (.getfield 100, 3) := by decide +kernel
theorem dX6_findLandQuarrels_76 : decode cX6_findLandQuarrels 76 = .ok (.iload_n 1, 1) := by decide +kernel
theorem dX6_findLandQuarrels_77 : decode cX6_findLandQuarrels 77 = .ok (.iaload, 1) := by decide +kernel
theorem dX6_findLandQuarrels_78 : decode cX6_findLandQuarrels 78 = .ok (.invokevirtual 119, 3) := by decide +kernel
theorem dX6_findLandQuarrels_81 : decode cX6_findLandQuarrels 81 = .ok (.iastore, 1) := by decide +kernel
theorem dX6_findLandQuarrels_82 : decode cX6_findLandQuarrels 82 = .ok (.iinc 1 1, 3) := by decide +kernel
theorem dX6_findLandQuarrels_85 : decode cX6_findLandQuarrels 85 = .ok (.goto (-75), 3) := by decide +kernel
theorem dX6_findLandQuarrels_88 : decode cX6_findLandQuarrels 88 = .ok (.return_, 1) := by decide +kernel
set_option maxRecDepth 20000 in
theorem ggX6_tellLand_X9_isPlot : GoodIn wsX6_tellLand wsX9_isPlot := goodIn_r _ [7, 8, 9, 6, 10] (by decide +kernel) (by decide +kernel)
set_option maxRecDepth 20000 in
theorem gX6_tellLand_X9_isPlot_n122 : GoodIn wsX6_tellLand (wsX9_isPlot) := ggX6_tellLand_X9_isPlot
theorem dX6_tellLand_0 : decode cX6_tellLand 0 = .ok (.iload_n 1, 1) := by decide +kernel
theorem dX6_tellLand_1 : decode cX6_tellLand 1 = .ok (.invokestatic 122, 3) := by decide +kernel
theorem dX6_tellLand_4 : decode cX6_tellLand 4 = .ok (.ifCond .eq 15, 3) := by decide +kernel
theorem dX6_tellLand_7 : decode cX6_tellLand 7 = .ok (.aload_n 0, 1) := by decide +kernel
theorem dX6_tellLand_8 : decode cX6_tellLand 8 = .ok (.getfield 30, 3) := by decide +kernel
theorem dX6_tellLand_11 : decode cX6_tellLand 11 = .ok (.getfield 126, 3) := by decide +kernel
theorem dX6_tellLand_14 : decode cX6_tellLand 14 = .ok (.iload_n 1, 1) := by decide +kernel
theorem dX6_tellLand_15 : decode cX6_tellLand 15 = .ok (.iaload, 1) := by decide +kernel
theorem dX6_tellLand_16 : decode cX6_tellLand 16 = .ok (.ifCond .ne 5, 3) := by decide +kernel
theorem dX6_tellLand_19 : decode cX6_tellLand 19 = .ok (.iconst 1, 1) := by decide +kernel
theorem dX6_tellLand_20 : decode cX6_tellLand 20 = .ok (.ireturn, 1) := by decide +kernel
theorem dX6_tellLand_21 : decode cX6_tellLand 21 = .ok (.aload_n 0, 1) := by decide +kernel
theorem dX6_tellLand_22 : decode cX6_tellLand 22 = .ok (.getfield 18, 3) := by decide +kernel
theorem dX6_tellLand_25 : decode cX6_tellLand 25 = .ok (.iload_n 1, 1) := by decide +kernel
theorem dX6_tellLand_26 : decode cX6_tellLand 26 = .ok (.iaload, 1) := by decide +kernel
theorem dX6_tellLand_27 : decode cX6_tellLand 27 = .ok (.iload_n 2, 1) := by decide +kernel
theorem dX6_tellLand_28 : decode cX6_tellLand 28 = .ok (.iadd, 1) := by decide +kernel
theorem dX6_tellLand_29 : decode cX6_tellLand 29 = .ok (.aload_n 0, 1) := by decide +kernel
theorem dX6_tellLand_30 : decode cX6_tellLand 30 = .ok (.getfield 30, 3) := by decide +kernel
theorem dX6_tellLand_33 : decode cX6_tellLand 33 = .ok (.getfield 126, 3) := by decide +kernel
theorem dX6_tellLand_36 : decode cX6_tellLand 36 = .ok (.iload_n 1, 1) := by decide +kernel
theorem dX6_tellLand_37 : decode cX6_tellLand 37 = .ok (.iaload, 1) := by decide +kernel
theorem dX6_tellLand_38 : decode cX6_tellLand 38 = .ok (.if_icmp .le 5, 3) := by decide +kernel
theorem dX6_tellLand_41 : decode cX6_tellLand 41 = .ok (.iconst 2, 1) := by decide +kernel
theorem dX6_tellLand_42 : decode cX6_tellLand 42 = .ok (.ireturn, 1) := by decide +kernel
theorem dX6_tellLand_43 : decode cX6_tellLand 43 = .ok (.aload_n 0, 1) := by decide +kernel
theorem dX6_tellLand_44 : decode cX6_tellLand 44 = .ok (.getfield 21, 3) := by decide +kernel
theorem dX6_tellLand_47 : decode cX6_tellLand 47 = .ok (.iload_n 1, 1) := by decide +kernel
theorem dX6_tellLand_48 : decode cX6_tellLand 48 = .ok (.iaload, 1) := by decide +kernel
theorem dX6_tellLand_49 : decode cX6_tellLand 49 = .ok (.ldc 80, 2) := by decide +kernel
theorem dX6_tellLand_51 : decode cX6_tellLand 51 = .ok (.if_icmp .eq 15, 3) := by decide +kernel
theorem dX6_tellLand_54 : decode cX6_tellLand 54 = .ok (.aload_n 0, 1) := by decide +kernel
theorem dX6_tellLand_55 : decode cX6_tellLand 55 = .ok (.getfield 21, 3) := by decide +kernel
theorem dX6_tellLand_58 : decode cX6_tellLand 58 = .ok (.iload_n 1, 1) := by decide +kernel
theorem dX6_tellLand_59 : decode cX6_tellLand 59 = .ok (.iaload, 1) := by decide +kernel
theorem dX6_tellLand_60 : decode cX6_tellLand 60 = .ok (.iload_n 3, 1) := by decide +kernel
theorem dX6_tellLand_61 : decode cX6_tellLand 61 = .ok (.if_icmp .eq 5, 3) := by decide +kernel
theorem dX6_tellLand_64 : decode cX6_tellLand 64 = .ok (.iconst 3, 1) := by decide +kernel
theorem dX6_tellLand_65 : decode cX6_tellLand 65 = .ok (.ireturn, 1) := by decide +kernel
theorem dX6_tellLand_66 : decode cX6_tellLand 66 = .ok (.aload_n 0, 1) := by decide +kernel
theorem dX6_tellLand_67 : decode cX6_tellLand 67 = .ok (.getfield 18, 3) := by decide +kernel
theorem dX6_tellLand_70 : decode cX6_tellLand 70 = .ok (.iload_n 1, 1) := by decide +kernel
theorem dX6_tellLand_71 : decode cX6_tellLand 71 = .ok (.dup2, 1) := by decide +kernel
theorem dX6_tellLand_72 : decode cX6_tellLand 72 = .ok (.iaload, 1) := by decide +kernel
theorem dX6_tellLand_73 : decode cX6_tellLand 73 = .ok (.iload_n 2, 1) := by decide +kernel
theorem dX6_tellLand_74 : decode cX6_tellLand 74 = .ok (.iadd, 1) := by decide +kernel
theorem dX6_tellLand_75 : decode cX6_tellLand 75 = .ok (.iastore, 1) := by decide +kernel
theorem dX6_tellLand_76 : decode cX6_tellLand 76 = .ok (.iconst 0, 1) := by decide +kernel
theorem dX6_tellLand_77 : decode cX6_tellLand 77 = .ok (.ireturn, 1) := by decide +kernel
set_option maxRecDepth 20000 in
theorem ggX6_sumWorths_J7_fill_53178 : GoodIn wsX6_sumWorths wsJ7_fill_53178 := goodIn_r _ [11] (by decide +kernel) (by decide +kernel)
set_option maxRecDepth 20000 in
theorem gX6_sumWorths_J7_fill_53178 : GoodIn wsX6_sumWorths (va_wsS RX6 113 yJ7_fill_53178 wsJ7_fill_53178) := goodIn_app (goodIn_of _ (by decide +kernel)) ggX6_sumWorths_J7_fill_53178
set_option maxRecDepth 20000 in
theorem ggX6_sumWorths_X6_valueOfLine : GoodIn wsX6_sumWorths wsX6_valueOfLine := goodIn_r _ [16, 2, 17, 18, 19, 20, 21, 22, 23, 24, 25, 26, 27, 28, 29, 30, 31, 32, 33, 34, 35, 36, 37, 38, 39, 40, 41, 42, 43, 44, 45] (by decide +kernel) (by decide +kernel)
set_option maxRecDepth 20000 in
theorem gX6_sumWorths_X6_valueOfLine : GoodIn wsX6_sumWorths (wsV RX6 131 RX6 yX6_valueOfLine wsX6_valueOfLine) := goodIn_app (goodIn_of _ (by decide +kernel)) ggX6_sumWorths_X6_valueOfLine
theorem dX6_sumWorths_0 : decode cX6_sumWorths 0 = .ok (.aload_n 0, 1) := by decide +kernel
theorem dX6_sumWorths_1 : decode cX6_sumWorths 1 = .ok (.getfield 27, 3) := by decide +kernel
theorem dX6_sumWorths_4 : decode cX6_sumWorths 4 = .ok (.iconst 0, 1) := by decide +kernel
theorem dX6_sumWorths_5 : decode cX6_sumWorths 5 = .ok (.invokestatic 113, 3) := by decide +kernel
theorem dX6_sumWorths_8 : decode cX6_sumWorths 8 = .ok (.iconst 0, 1) := by decide +kernel
theorem dX6_sumWorths_9 : decode cX6_sumWorths 9 = .ok (.istore_n 1, 1) := by decide +kernel
theorem dX6_sumWorths_10 : decode cX6_sumWorths 10 = .ok (.iload_n 1, 1) := by decide +kernel
theorem dX6_sumWorths_11 : decode cX6_sumWorths 11 = .ok (.aload_n 0, 1) := by decide +kernel
theorem dX6_sumWorths_12 : decode cX6_sumWorths 12 = .ok (.getfield 34, 3) := by decide +kernel
theorem dX6_sumWorths_15 : decode cX6_sumWorths 15 = .ok (.getfield 74, 3) := by decide +kernel
theorem dX6_sumWorths_18 : decode cX6_sumWorths 18 = .ok (.if_icmp .ge 40, 3) := by decide +kernel
theorem dX6_sumWorths_21 : decode cX6_sumWorths 21 = .ok (.aload_n 0, 1) := by decide +kernel
theorem dX6_sumWorths_22 : decode cX6_sumWorths 22 = .ok (.getfield 15, 3) := by decide +kernel
theorem dX6_sumWorths_25 : decode cX6_sumWorths 25 = .ok (.iload_n 1, 1) := by decide +kernel
theorem dX6_sumWorths_26 : decode cX6_sumWorths 26 = .ok (.iaload, 1) := by decide +kernel
theorem dX6_sumWorths_27 : decode cX6_sumWorths 27 = .ok (.ifCond .ne 25, 3) := by decide +kernel
theorem dX6_sumWorths_30 : decode cX6_sumWorths 30 = .ok (.aload_n 0, 1) := by decide +kernel
theorem dX6_sumWorths_31 : decode cX6_sumWorths 31 = .ok (.getfield 27, 3) := by decide +kernel
theorem dX6_sumWorths_34 : decode cX6_sumWorths 34 = .ok (.aload_n 0, 1) := by decide +kernel
theorem dX6_sumWorths_35 : decode cX6_sumWorths 35 = .ok (.getfield 34, 3) := by decide +kernel
theorem dX6_sumWorths_38 : decode cX6_sumWorths 38 = .ok (.getfield 100, 3) := by decide +kernel
theorem dX6_sumWorths_41 : decode cX6_sumWorths 41 = .ok (.iload_n 1, 1) := by decide +kernel
theorem dX6_sumWorths_42 : decode cX6_sumWorths 42 = .ok (.iaload, 1) := by decide +kernel
theorem dX6_sumWorths_43 : decode cX6_sumWorths 43 = .ok (.dup2, 1) := by decide +kernel
theorem dX6_sumWorths_44 : decode cX6_sumWorths 44 = .ok (.iaload, 1) := by decide +kernel
theorem dX6_sumWorths_45 : decode cX6_sumWorths 45 = .ok (.aload_n 0, 1) := by decide +kernel
theorem dX6_sumWorths_46 : decode cX6_sumWorths 46 = .ok (.iload_n 1, 1) := by decide +kernel
theorem dX6_sumWorths_47 : decode cX6_sumWorths 47 = .ok (.invokevirtual 131, 3) := by decide +kernel
theorem dX6_sumWorths_50 : decode cX6_sumWorths 50 = .ok (.iadd, 1) := by decide +kernel
theorem dX6_sumWorths_51 : decode cX6_sumWorths 51 = .ok (.iastore, 1) := by decide +kernel
theorem dX6_sumWorths_52 : decode cX6_sumWorths 52 = .ok (.iinc 1 1, 3) := by decide +kernel
theorem dX6_sumWorths_55 : decode cX6_sumWorths 55 = .ok (.goto (-45), 3) := by decide +kernel
theorem dX6_sumWorths_58 : decode cX6_sumWorths 58 = .ok (.iconst 0, 1) := by decide +kernel
theorem dX6_sumWorths_59 : decode cX6_sumWorths 59 = .ok (.istore_n 1, 1) := by decide +kernel
theorem dX6_sumWorths_60 : decode cX6_sumWorths 60 = .ok (.iload_n 1, 1) := by decide +kernel
theorem dX6_sumWorths_61 : decode cX6_sumWorths 61 = .ok (.bipush 10, 2) := by decide +kernel
theorem dX6_sumWorths_63 : decode cX6_sumWorths 63 = .ok (.if_icmp .ge 25, 3) := by decide +kernel
theorem dX6_sumWorths_66 : decode cX6_sumWorths 66 = .ok (.aload_n 0, 1) := by decide +kernel
theorem dX6_sumWorths_67 : decode cX6_sumWorths 67 = .ok (.getfield 27, 3) := by decide +kernel
theorem dX6_sumWorths_70 : decode cX6_sumWorths 70 = .ok (.iload_n 1, 1) := by decide +kernel
theorem dX6_sumWorths_71 : decode cX6_sumWorths 71 = .ok (.aload_n 0, 1) := by decide +kernel
theorem dX6_sumWorths_72 : decode cX6_sumWorths 72 = .ok (.getfield 27, 3) := by decide +kernel
theorem dX6_sumWorths_75 : decode cX6_sumWorths 75 = .ok (.iload_n 1, 1) := by decide +kernel
theorem dX6_sumWorths_76 : decode cX6_sumWorths 76 = .ok (.iaload, 1) := by decide +kernel
theorem dX6_sumWorths_77 : decode cX6_sumWorths 77 = .ok (.iconst 0, 1) := by decide +kernel
theorem dX6_sumWorths_78 : decode cX6_sumWorths 78 = .ok (.invokestatic 134, 3) := by decide +kernel
theorem dX6_sumWorths_81 : decode cX6_sumWorths 81 = .ok (.iastore, 1) := by decide +kernel
theorem dX6_sumWorths_82 : decode cX6_sumWorths 82 = .ok (.iinc 1 1, 3) := by decide +kernel
theorem dX6_sumWorths_85 : decode cX6_sumWorths 85 = .ok (.goto (-25), 3) := by decide +kernel
theorem dX6_sumWorths_88 : decode cX6_sumWorths 88 = .ok (.return_, 1) := by decide +kernel
set_option maxRecDepth 20000 in
theorem ggX6_valueOfLine_X9_isPlot : GoodIn wsX6_valueOfLine wsX9_isPlot := goodIn_r _ [6, 7, 8, 5, 9] (by decide +kernel) (by decide +kernel)
set_option maxRecDepth 20000 in
theorem gX6_valueOfLine_X9_isPlot_n122 : GoodIn wsX6_valueOfLine (wsX9_isPlot) := ggX6_valueOfLine_X9_isPlot
theorem dX6_valueOfLine_0 : decode cX6_valueOfLine 0 = .ok (.aload_n 0, 1) := by decide +kernel
theorem dX6_valueOfLine_1 : decode cX6_valueOfLine 1 = .ok (.getfield 34, 3) := by decide +kernel
theorem dX6_valueOfLine_4 : decode cX6_valueOfLine 4 = .ok (.getfield 106, 3) := by decide +kernel
theorem dX6_valueOfLine_7 : decode cX6_valueOfLine 7 = .ok (.iload_n 1, 1) := by decide +kernel
theorem dX6_valueOfLine_8 : decode cX6_valueOfLine 8 = .ok (.iaload, 1) := by decide +kernel
theorem dX6_valueOfLine_9 : decode cX6_valueOfLine 9 = .ok (.istore_n 2, 1) := by decide +kernel
theorem dX6_valueOfLine_10 : decode cX6_valueOfLine 10 = .ok (.aload_n 0, 1) := by decide +kernel
theorem dX6_valueOfLine_11 : decode cX6_valueOfLine 11 = .ok (.getfield 34, 3) := by decide +kernel
theorem dX6_valueOfLine_14 : decode cX6_valueOfLine 14 = .ok (.getfield 103, 3) := by decide +kernel
theorem dX6_valueOfLine_17 : decode cX6_valueOfLine 17 = .ok (.iload_n 1, 1) := by decide +kernel
theorem dX6_valueOfLine_18 : decode cX6_valueOfLine 18 = .ok (.iaload, 1) := by decide +kernel
theorem dX6_valueOfLine_19 : decode cX6_valueOfLine 19 = .ok (.istore_n 3, 1) := by decide +kernel
theorem dX6_valueOfLine_20 : decode cX6_valueOfLine 20 = .ok (.aload_n 0, 1) := by decide +kernel
theorem dX6_valueOfLine_21 : decode cX6_valueOfLine 21 = .ok (.getfield 34, 3) := by decide +kernel
theorem dX6_valueOfLine_24 : decode cX6_valueOfLine 24 = .ok (.getfield 90, 3) := by decide +kernel
theorem dX6_valueOfLine_27 : decode cX6_valueOfLine 27 = .ok (.iload_n 1, 1) := by decide +kernel
theorem dX6_valueOfLine_28 : decode cX6_valueOfLine 28 = .ok (.iaload, 1) := by decide +kernel
theorem dX6_valueOfLine_29 : decode cX6_valueOfLine 29 = .ok (.tableswitch 92 1 5 #[35, 92, 63, 73, 83], 35) := by decide +kernel
theorem dX6_valueOfLine_64 : decode cX6_valueOfLine 64 = .ok (.iload_n 3, 1) := by decide +kernel
theorem dX6_valueOfLine_65 : decode cX6_valueOfLine 65 = .ok (.invokestatic 122, 3) := by decide +kernel
theorem dX6_valueOfLine_68 : decode cX6_valueOfLine 68 = .ok (.ifCond .eq 22, 3) := by decide +kernel
theorem dX6_valueOfLine_71 : decode cX6_valueOfLine 71 = .ok (.iload_n 2, 1) := by decide +kernel
theorem dX6_valueOfLine_72 : decode cX6_valueOfLine 72 = .ok (.aload_n 0, 1) := by decide +kernel
theorem dX6_valueOfLine_73 : decode cX6_valueOfLine 73 = .ok (.getfield 24, 3) := by decide +kernel
theorem dX6_valueOfLine_76 : decode cX6_valueOfLine 76 = .ok (.aload_n 0, 1) := by decide +kernel
theorem dX6_valueOfLine_77 : decode cX6_valueOfLine 77 = .ok (.getfield 30, 3) := by decide +kernel
theorem dX6_valueOfLine_80 : decode cX6_valueOfLine 80 = .ok (.getfield 139, 3) := by decide +kernel
theorem dX6_valueOfLine_83 : decode cX6_valueOfLine 83 = .ok (.iload_n 3, 1) := by decide +kernel
theorem dX6_valueOfLine_84 : decode cX6_valueOfLine 84 = .ok (.iaload, 1) := by decide +kernel
theorem dX6_valueOfLine_85 : decode cX6_valueOfLine 85 = .ok (.iaload, 1) := by decide +kernel
theorem dX6_valueOfLine_86 : decode cX6_valueOfLine 86 = .ok (.imul, 1) := by decide +kernel
theorem dX6_valueOfLine_87 : decode cX6_valueOfLine 87 = .ok (.goto 4, 3) := by decide +kernel
theorem dX6_valueOfLine_90 : decode cX6_valueOfLine 90 = .ok (.iconst 0, 1) := by decide +kernel
theorem dX6_valueOfLine_91 : decode cX6_valueOfLine 91 = .ok (.ireturn, 1) := by decide +kernel
theorem dX6_valueOfLine_92 : decode cX6_valueOfLine 92 = .ok (.iload_n 2, 1) := by decide +kernel
theorem dX6_valueOfLine_93 : decode cX6_valueOfLine 93 = .ok (.ineg, 1) := by decide +kernel
theorem dX6_valueOfLine_94 : decode cX6_valueOfLine 94 = .ok (.aload_n 0, 1) := by decide +kernel
theorem dX6_valueOfLine_95 : decode cX6_valueOfLine 95 = .ok (.getfield 24, 3) := by decide +kernel
theorem dX6_valueOfLine_98 : decode cX6_valueOfLine 98 = .ok (.iconst 3, 1) := by decide +kernel
theorem dX6_valueOfLine_99 : decode cX6_valueOfLine 99 = .ok (.iaload, 1) := by decide +kernel
theorem dX6_valueOfLine_100 : decode cX6_valueOfLine 100 = .ok (.imul, 1) := by decide +kernel
theorem dX6_valueOfLine_101 : decode cX6_valueOfLine 101 = .ok (.ireturn, 1) := by decide +kernel
theorem dX6_valueOfLine_102 : decode cX6_valueOfLine 102 = .ok (.iload_n 2, 1) := by decide +kernel
theorem dX6_valueOfLine_103 : decode cX6_valueOfLine 103 = .ok (.ineg, 1) := by decide +kernel
theorem dX6_valueOfLine_104 : decode cX6_valueOfLine 104 = .ok (.aload_n 0, 1) := by decide +kernel
theorem dX6_valueOfLine_105 : decode cX6_valueOfLine 105 = .ok (.getfield 24, 3) := by decide +kernel
theorem dX6_valueOfLine_108 : decode cX6_valueOfLine 108 = .ok (.iconst 4, 1) := by decide +kernel
theorem dX6_valueOfLine_109 : decode cX6_valueOfLine 109 = .ok (.iaload, 1) := by decide +kernel
theorem dX6_valueOfLine_110 : decode cX6_valueOfLine 110 = .ok (.imul, 1) := by decide +kernel
theorem dX6_valueOfLine_111 : decode cX6_valueOfLine 111 = .ok (.ireturn, 1) := by decide +kernel
theorem dX6_valueOfLine_112 : decode cX6_valueOfLine 112 = .ok (.iload_n 2, 1) := by decide +kernel
theorem dX6_valueOfLine_113 : decode cX6_valueOfLine 113 = .ok (.aload_n 0, 1) := by decide +kernel
theorem dX6_valueOfLine_114 : decode cX6_valueOfLine 114 = .ok (.getfield 24, 3) := by decide +kernel
theorem dX6_valueOfLine_117 : decode cX6_valueOfLine 117 = .ok (.iconst 4, 1) := by decide +kernel
theorem dX6_valueOfLine_118 : decode cX6_valueOfLine 118 = .ok (.iaload, 1) := by decide +kernel
theorem dX6_valueOfLine_119 : decode cX6_valueOfLine 119 = .ok (.imul, 1) := by decide +kernel
theorem dX6_valueOfLine_120 : decode cX6_valueOfLine 120 = .ok (.ireturn, 1) := by decide +kernel
theorem dX6_valueOfLine_121 : decode cX6_valueOfLine 121 = .ok (.iload_n 2, 1) := by decide +kernel
theorem dX6_valueOfLine_122 : decode cX6_valueOfLine 122 = .ok (.ireturn, 1) := by decide +kernel
theorem dX7_init_0 : decode cX7_init 0 = .ok (.aload_n 0, 1) := by decide +kernel
theorem dX7_init_1 : decode cX7_init 1 = .ok (.invokespecial 3, 3) := by decide +kernel
theorem dX7_init_4 : decode cX7_init 4 = .ok (.aload_n 0, 1) := by decide +kernel
theorem dX7_init_5 : decode cX7_init 5 = .ok (.bipush 60, 2) := by decide +kernel
theorem dX7_init_7 : decode cX7_init 7 = .ok (.newarray .int, 2) := by decide +kernel
theorem dX7_init_9 : decode cX7_init 9 = .ok (.putfield 9, 3) := by decide +kernel
theorem dX7_init_12 : decode cX7_init 12 = .ok (.return_, 1) := by decide +kernel
theorem dX7_append_0 : decode cX7_append 0 = .ok (.bipush 24, 2) := by decide +kernel
theorem dX7_append_2 : decode cX7_append 2 = .ok (.istore_n 2, 1) := by decide +kernel
theorem dX7_append_3 : decode cX7_append 3 = .ok (.iload_n 2, 1) := by decide +kernel
theorem dX7_append_4 : decode cX7_append 4 = .ok (.ifCond .lt 44, 3) := by decide +kernel
theorem dX7_append_7 : decode cX7_append 7 = .ok (.aload_n 0, 1) := by decide +kernel
theorem dX7_append_8 : decode cX7_append 8 = .ok (.getfield 15, 3) := by decide +kernel
theorem dX7_append_11 : decode cX7_append 11 = .ok (.bipush 60, 2) := by decide +kernel
theorem dX7_append_13 : decode cX7_append 13 = .ok (.if_icmp .ge 29, 3) := by decide +kernel
theorem dX7_append_16 : decode cX7_append 16 = .ok (.aload_n 0, 1) := by decide +kernel
theorem dX7_append_17 : decode cX7_append 17 = .ok (.getfield 9, 3) := by decide +kernel
theorem dX7_append_20 : decode cX7_append 20 = .ok (.aload_n 0, 1) := by decide +kernel
theorem dX7_append_21 : decode cX7_append 21 = .ok (.getfield 15, 3) := by decide +kernel
theorem dX7_append_24 : decode cX7_append 24 = .ok (.iload_n 1, 1) := by decide +kernel
theorem dX7_append_25 : decode cX7_append 25 = .ok (.iload_n 2, 1) := by decide +kernel
theorem dX7_append_26 : decode cX7_append 26 = .ok (.iushr, 1) := by decide +kernel
theorem dX7_append_27 : decode cX7_append 27 = .ok (.sipush 255, 3) := by decide +kernel
theorem dX7_append_30 : decode cX7_append 30 = .ok (.iand, 1) := by decide +kernel
theorem dX7_append_31 : decode cX7_append 31 = .ok (.iastore, 1) := by decide +kernel
theorem dX7_append_32 : decode cX7_append 32 = .ok (.aload_n 0, 1) := by decide +kernel
theorem dX7_append_33 : decode cX7_append 33 = .ok (.dup, 1) := by decide +kernel
theorem dX7_append_34 : decode cX7_append 34 = .ok (.getfield 15, 3) := by decide +kernel
theorem dX7_append_37 : decode cX7_append 37 = .ok (.iconst 1, 1) := by decide +kernel
theorem dX7_append_38 : decode cX7_append 38 = .ok (.iadd, 1) := by decide +kernel
theorem dX7_append_39 : decode cX7_append 39 = .ok (.putfield 15, 3) := by decide +kernel
theorem dX7_append_42 : decode cX7_append 42 = .ok (.iinc 2 (-8), 3) := by decide +kernel
theorem dX7_append_45 : decode cX7_append 45 = .ok (.goto (-42), 3) := by decide +kernel
theorem dX7_append_48 : decode cX7_append 48 = .ok (.return_, 1) := by decide +kernel
theorem dX7_isPartOfWord_0 : decode cX7_isPartOfWord 0 = .ok (.aload_n 0, 1) := by decide +kernel
theorem dX7_isPartOfWord_1 : decode cX7_isPartOfWord 1 = .ok (.getfield 9, 3) := by decide +kernel
theorem dX7_isPartOfWord_4 : decode cX7_isPartOfWord 4 = .ok (.iload_n 1, 1) := by decide +kernel
theorem dX7_isPartOfWord_5 : decode cX7_isPartOfWord 5 = .ok (.iaload, 1) := by decide +kernel
theorem dX7_isPartOfWord_6 : decode cX7_isPartOfWord 6 = .ok (.bipush 32, 2) := by decide +kernel
theorem dX7_isPartOfWord_8 : decode cX7_isPartOfWord 8 = .ok (.if_icmp .eq 18, 3) := by decide +kernel
theorem dX7_isPartOfWord_11 : decode cX7_isPartOfWord 11 = .ok (.aload_n 0, 1) := by decide +kernel
theorem dX7_isPartOfWord_12 : decode cX7_isPartOfWord 12 = .ok (.getfield 9, 3) := by decide +kernel
theorem dX7_isPartOfWord_15 : decode cX7_isPartOfWord 15 = .ok (.iload_n 1, 1) := by decide +kernel
theorem dX7_isPartOfWord_16 : decode cX7_isPartOfWord 16 = .ok (.iaload, 1) := by decide +kernel
theorem dX7_isPartOfWord_17 : decode cX7_isPartOfWord 17 = .ok (.bipush 44, 2) := by decide +kernel
theorem dX7_isPartOfWord_19 : decode cX7_isPartOfWord 19 = .ok (.if_icmp .eq 7, 3) := by decide +kernel
theorem dX7_isPartOfWord_22 : decode cX7_isPartOfWord 22 = .ok (.iconst 1, 1) := by decide +kernel
theorem dX7_isPartOfWord_23 : decode cX7_isPartOfWord 23 = .ok (.goto 4, 3) := by decide +kernel
theorem dX7_isPartOfWord_26 : decode cX7_isPartOfWord 26 = .ok (.iconst 0, 1) := by decide +kernel
theorem dX7_isPartOfWord_27 : decode cX7_isPartOfWord 27 = .ok (.ireturn, 1) := by decide +kernel
theorem dX8_init_0 : decode cX8_init 0 = .ok (.aload_n 0, 1) := by decide +kernel
theorem dX8_init_1 : decode cX8_init 1 = .ok (.invokespecial 3, 3) := by decide +kernel
theorem dX8_init_4 : decode cX8_init 4 = .ok (.aload_n 0, 1) := by decide +kernel
theorem dX8_init_5 : decode cX8_init 5 = .ok (.bipush 40, 2) := by decide +kernel
theorem dX8_init_7 : decode cX8_init 7 = .ok (.newarray .int, 2) := by decide +kernel
theorem dX8_init_9 : decode cX8_init 9 = .ok (.putfield 9, 3) := by decide +kernel
theorem dX8_init_12 : decode cX8_init 12 = .ok (.aload_n 0, 1) := by decide +kernel
theorem dX8_init_13 : decode cX8_init 13 = .ok (.bipush 40, 2) := by decide +kernel
theorem dX8_init_15 : decode cX8_init 15 = .ok (.newarray .int, 2) := by decide +kernel
theorem dX8_init_17 : decode cX8_init 17 = .ok (.putfield 15, 3) := by decide +kernel
theorem dX8_init_20 : decode cX8_init 20 = .ok (.aload_n 0, 1) := by decide +kernel
theorem dX8_init_21 : decode cX8_init 21 = .ok (.bipush 40, 2) := by decide +kernel
theorem dX8_init_23 : decode cX8_init 23 = .ok (.newarray .int, 2) := by decide +kernel
theorem dX8_init_25 : decode cX8_init 25 = .ok (.putfield 18, 3) := by decide +kernel
theorem dX8_init_28 : decode cX8_init 28 = .ok (.aload_n 0, 1) := by decide +kernel
theorem dX8_init_29 : decode cX8_init 29 = .ok (.bipush 40, 2) := by decide +kernel
theorem dX8_init_31 : decode cX8_init 31 = .ok (.newarray .int, 2) := by decide +kernel
theorem dX8_init_33 : decode cX8_init 33 = .ok (.putfield 21, 3) := by decide +kernel
theorem dX8_init_36 : decode cX8_init 36 = .ok (.aload_n 0, 1) := by decide +kernel
theorem dX8_init_37 : decode cX8_init 37 = .ok (.bipush 10, 2) := by decide +kernel
theorem dX8_init_39 : decode cX8_init 39 = .ok (.newarray .int, 2) := by decide +kernel
theorem dX8_init_41 : decode cX8_init 41 = .ok (.putfield 24, 3) := by decide +kernel
theorem dX8_init_44 : decode cX8_init 44 = .ok (.aload_n 0, 1) := by decide +kernel
theorem dX8_init_45 : decode cX8_init 45 = .ok (.bipush 10, 2) := by decide +kernel
theorem dX8_init_47 : decode cX8_init 47 = .ok (.newarray .int, 2) := by decide +kernel
theorem dX8_init_49 : decode cX8_init 49 = .ok (.putfield 27, 3) := by decide +kernel
theorem dX8_init_52 : decode cX8_init 52 = .ok (.return_, 1) := by decide +kernel
theorem dX8_add_0 : decode cX8_add 0 = .ok (.aload_n 0, 1) := by decide +kernel
theorem dX8_add_1 : decode cX8_add 1 = .ok (.getfield 30, 3) := by decide +kernel
theorem dX8_add_4 : decode cX8_add 4 = .ok (.bipush 40, 2) := by decide +kernel
theorem dX8_add_6 : decode cX8_add 6 = .ok (.if_icmp .ge 54, 3) := by decide +kernel
theorem dX8_add_9 : decode cX8_add 9 = .ok (.aload_n 0, 1) := by decide +kernel
theorem dX8_add_10 : decode cX8_add 10 = .ok (.getfield 9, 3) := by decide +kernel
theorem dX8_add_13 : decode cX8_add 13 = .ok (.aload_n 0, 1) := by decide +kernel
theorem dX8_add_14 : decode cX8_add 14 = .ok (.getfield 30, 3) := by decide +kernel
theorem dX8_add_17 : decode cX8_add 17 = .ok (.iload_n 1, 1) := by decide +kernel
theorem dX8_add_18 : decode cX8_add 18 = .ok (.iastore, 1) := by decide +kernel
theorem dX8_add_19 : decode cX8_add 19 = .ok (.aload_n 0, 1) := by decide +kernel
theorem dX8_add_20 : decode cX8_add 20 = .ok (.getfield 15, 3) := by decide +kernel
theorem dX8_add_23 : decode cX8_add 23 = .ok (.aload_n 0, 1) := by decide +kernel
theorem dX8_add_24 : decode cX8_add 24 = .ok (.getfield 30, 3) := by decide +kernel
theorem dX8_add_27 : decode cX8_add 27 = .ok (.iload_n 2, 1) := by decide +kernel
theorem dX8_add_28 : decode cX8_add 28 = .ok (.iastore, 1) := by decide +kernel
theorem dX8_add_29 : decode cX8_add 29 = .ok (.aload_n 0, 1) := by decide +kernel
theorem dX8_add_30 : decode cX8_add 30 = .ok (.getfield 18, 3) := by decide +kernel
theorem dX8_add_33 : decode cX8_add 33 = .ok (.aload_n 0, 1) := by decide +kernel
theorem dX8_add_34 : decode cX8_add 34 = .ok (.getfield 30, 3) := by decide +kernel
theorem dX8_add_37 : decode cX8_add 37 = .ok (.iload_n 3, 1) := by decide +kernel
theorem dX8_add_38 : decode cX8_add 38 = .ok (.iastore, 1) := by decide +kernel
theorem dX8_add_39 : decode cX8_add 39 = .ok (.aload_n 0, 1) := by decide +kernel
theorem dX8_add_40 : decode cX8_add 40 = .ok (.getfield 21, 3) := by decide +kernel
theorem dX8_add_43 : decode cX8_add 43 = .ok (.aload_n 0, 1) := by decide +kernel
theorem dX8_add_44 : decode cX8_add 44 = .ok (.getfield 30, 3) := by decide +kernel
theorem dX8_add_47 : decode cX8_add 47 = .ok (.iload 4, 2) := by decide +kernel
theorem dX8_add_49 : decode cX8_add 49 = .ok (.iastore, 1) := by decide +kernel
theorem dX8_add_50 : decode cX8_add 50 = .ok (.aload_n 0, 1) := by decide +kernel
theorem dX8_add_51 : decode cX8_add 51 = .ok (.dup, 1) := by decide +kernel
theorem dX8_add_52 : decode cX8_add 52 = .ok (.getfield 30, 3) := by decide +kernel
theorem dX8_add_55 : decode cX8_add 55 = .ok (.iconst 1, 1) := by decide +kernel
theorem dX8_add_56 : decode cX8_add 56 = .ok (.iadd, 1) := by decide +kernel
theorem dX8_add_57 : decode cX8_add 57 = .ok (.putfield 30, 3) := by decide +kernel
theorem dX8_add_60 : decode cX8_add 60 = .ok (.return_, 1) := by decide +kernel
set_option maxRecDepth 20000 in
theorem ggX8_houseTold_X8_findLatest : GoodIn wsX8_houseTold wsX8_findLatest := goodIn_r _ [7, 8, 2, 9, 10, 11, 12, 13, 14, 15, 16, 17, 22, 23, 24, 25, 26, 27, 28] (by decide +kernel) (by decide +kernel)
set_option maxRecDepth 20000 in
theorem gX8_houseTold_X8_findLatest : GoodIn wsX8_houseTold (wsV RX8 34 RX8 yX8_findLatest wsX8_findLatest) := goodIn_app (goodIn_of _ (by decide +kernel)) ggX8_houseTold_X8_findLatest
set_option maxRecDepth 20000 in
theorem ggX8_houseTold_X8_countVotes : GoodIn wsX8_houseTold wsX8_countVotes := goodIn_r _ [21, 1, 8, 2, 14, 15, 16, 17, 22, 23, 24, 25, 26, 27, 28] (by decide +kernel) (by decide +kernel)
set_option maxRecDepth 20000 in
theorem gX8_houseTold_X8_countVotes : GoodIn wsX8_houseTold (wsV RX8 38 RX8 yX8_countVotes wsX8_countVotes) := goodIn_app (goodIn_of _ (by decide +kernel)) ggX8_houseTold_X8_countVotes
theorem dX8_houseTold_0 : decode cX8_houseTold 0 = .ok (.aload_n 0, 1) := by decide +kernel
theorem dX8_houseTold_1 : decode cX8_houseTold 1 = .ok (.iload_n 1, 1) := by decide +kernel
theorem dX8_houseTold_2 : decode cX8_houseTold 2 = .ok (.iload_n 2, 1) := by decide +kernel
theorem dX8_houseTold_3 : decode cX8_houseTold 3 = .ok (.invokevirtual 34, 3) := by decide +kernel
theorem dX8_houseTold_6 : decode cX8_houseTold 6 = .ok (.aload_n 0, 1) := by decide +kernel
theorem dX8_houseTold_7 : decode cX8_houseTold 7 = .ok (.invokevirtual 38, 3) := by decide +kernel
theorem dX8_houseTold_10 : decode cX8_houseTold 10 = .ok (.istore_n 3, 1) := by decide +kernel
theorem dX8_houseTold_11 : decode cX8_houseTold 11 = .ok (.iconst 0, 1) := by decide +kernel
theorem dX8_houseTold_12 : decode cX8_houseTold 12 = .ok (.istore 4, 2) := by decide +kernel
theorem dX8_houseTold_14 : decode cX8_houseTold 14 = .ok (.iload 4, 2) := by decide +kernel
theorem dX8_houseTold_16 : decode cX8_houseTold 16 = .ok (.bipush 10, 2) := by decide +kernel
theorem dX8_houseTold_18 : decode cX8_houseTold 18 = .ok (.if_icmp .ge 25, 3) := by decide +kernel
theorem dX8_houseTold_21 : decode cX8_houseTold 21 = .ok (.iconst 2, 1) := by decide +kernel
theorem dX8_houseTold_22 : decode cX8_houseTold 22 = .ok (.aload_n 0, 1) := by decide +kernel
theorem dX8_houseTold_23 : decode cX8_houseTold 23 = .ok (.getfield 27, 3) := by decide +kernel
theorem dX8_houseTold_26 : decode cX8_houseTold 26 = .ok (.iload 4, 2) := by decide +kernel
theorem dX8_houseTold_28 : decode cX8_houseTold 28 = .ok (.iaload, 1) := by decide +kernel
theorem dX8_houseTold_29 : decode cX8_houseTold 29 = .ok (.imul, 1) := by decide +kernel
theorem dX8_houseTold_30 : decode cX8_houseTold 30 = .ok (.iload_n 3, 1) := by decide +kernel
theorem dX8_houseTold_31 : decode cX8_houseTold 31 = .ok (.if_icmp .le 6, 3) := by decide +kernel
theorem dX8_houseTold_34 : decode cX8_houseTold 34 = .ok (.iload 4, 2) := by decide +kernel
theorem dX8_houseTold_36 : decode cX8_houseTold 36 = .ok (.ireturn, 1) := by decide +kernel
theorem dX8_houseTold_37 : decode cX8_houseTold 37 = .ok (.iinc 4 1, 3) := by decide +kernel
theorem dX8_houseTold_40 : decode cX8_houseTold 40 = .ok (.goto (-26), 3) := by decide +kernel
theorem dX8_houseTold_43 : decode cX8_houseTold 43 = .ok (.ldc 42, 2) := by decide +kernel
theorem dX8_houseTold_45 : decode cX8_houseTold 45 = .ok (.ireturn, 1) := by decide +kernel
set_option maxRecDepth 20000 in
theorem ggX8_findLatest_J7_fill_53178 : GoodIn wsX8_findLatest wsJ7_fill_53178 := goodIn_r _ [11] (by decide +kernel) (by decide +kernel)
set_option maxRecDepth 20000 in
theorem gX8_findLatest_J7_fill_53178 : GoodIn wsX8_findLatest (va_wsS RX8 43 yJ7_fill_53178 wsJ7_fill_53178) := goodIn_app (goodIn_of _ (by decide +kernel)) ggX8_findLatest_J7_fill_53178
theorem dX8_findLatest_0 : decode cX8_findLatest 0 = .ok (.aload_n 0, 1) := by decide +kernel
theorem dX8_findLatest_1 : decode cX8_findLatest 1 = .ok (.getfield 24, 3) := by decide +kernel
theorem dX8_findLatest_4 : decode cX8_findLatest 4 = .ok (.ldc 42, 2) := by decide +kernel
theorem dX8_findLatest_6 : decode cX8_findLatest 6 = .ok (.invokestatic 43, 3) := by decide +kernel
theorem dX8_findLatest_9 : decode cX8_findLatest 9 = .ok (.iconst 0, 1) := by decide +kernel
theorem dX8_findLatest_10 : decode cX8_findLatest 10 = .ok (.istore_n 3, 1) := by decide +kernel
theorem dX8_findLatest_11 : decode cX8_findLatest 11 = .ok (.iload_n 3, 1) := by decide +kernel
theorem dX8_findLatest_12 : decode cX8_findLatest 12 = .ok (.aload_n 0, 1) := by decide +kernel
theorem dX8_findLatest_13 : decode cX8_findLatest 13 = .ok (.getfield 30, 3) := by decide +kernel
theorem dX8_findLatest_16 : decode cX8_findLatest 16 = .ok (.if_icmp .ge 46, 3) := by decide +kernel
theorem dX8_findLatest_19 : decode cX8_findLatest 19 = .ok (.aload_n 0, 1) := by decide +kernel
theorem dX8_findLatest_20 : decode cX8_findLatest 20 = .ok (.getfield 15, 3) := by decide +kernel
theorem dX8_findLatest_23 : decode cX8_findLatest 23 = .ok (.iload_n 3, 1) := by decide +kernel
theorem dX8_findLatest_24 : decode cX8_findLatest 24 = .ok (.iaload, 1) := by decide +kernel
theorem dX8_findLatest_25 : decode cX8_findLatest 25 = .ok (.iload_n 1, 1) := by decide +kernel
theorem dX8_findLatest_26 : decode cX8_findLatest 26 = .ok (.if_icmp .ne 30, 3) := by decide +kernel
theorem dX8_findLatest_29 : decode cX8_findLatest 29 = .ok (.aload_n 0, 1) := by decide +kernel
theorem dX8_findLatest_30 : decode cX8_findLatest 30 = .ok (.getfield 21, 3) := by decide +kernel
theorem dX8_findLatest_33 : decode cX8_findLatest 33 = .ok (.iload_n 3, 1) := by decide +kernel
theorem dX8_findLatest_34 : decode cX8_findLatest 34 = .ok (.iaload, 1) := by decide +kernel
theorem dX8_findLatest_35 : decode cX8_findLatest 35 = .ok (.iload_n 2, 1) := by decide +kernel
theorem dX8_findLatest_36 : decode cX8_findLatest 36 = .ok (.if_icmp .gt 20, 3) := by decide +kernel
theorem dX8_findLatest_39 : decode cX8_findLatest 39 = .ok (.aload_n 0, 1) := by decide +kernel
theorem dX8_findLatest_40 : decode cX8_findLatest 40 = .ok (.getfield 24, 3) := by decide +kernel
theorem dX8_findLatest_43 : decode cX8_findLatest 43 = .ok (.aload_n 0, 1) := by decide +kernel
theorem dX8_findLatest_44 : decode cX8_findLatest 44 = .ok (.getfield 9, 3) := by decide +kernel
theorem dX8_findLatest_47 : decode cX8_findLatest 47 = .ok (.iload_n 3, 1) := by decide +kernel
theorem dX8_findLatest_48 : decode cX8_findLatest 48 = .ok (.iaload, 1) := by decide +kernel
theorem dX8_findLatest_49 : decode cX8_findLatest 49 = .ok (.aload_n 0, 1) := by decide +kernel
theorem dX8_findLatest_50 : decode cX8_findLatest 50 = .ok (.getfield 18, 3) := by decide +kernel
theorem dX8_findLatest_53 : decode cX8_findLatest 53 = .ok (.iload_n 3, 1) := by decide +kernel
theorem dX8_findLatest_54 : decode cX8_findLatest 54 = .ok (.iaload, 1) := by decide +kernel
theorem dX8_findLatest_55 : decode cX8_findLatest 55 = .ok (.iastore, 1) := by decide +kernel
theorem dX8_findLatest_56 : decode cX8_findLatest 56 = .ok (.iinc 3 1, 3) := by decide +kernel
theorem dX8_findLatest_59 : decode cX8_findLatest 59 = .ok (.goto (-48), 3) := by decide +kernel
theorem dX8_findLatest_62 : decode cX8_findLatest 62 = .ok (.return_, 1) := by decide +kernel
set_option maxRecDepth 20000 in
theorem ggX8_countVotes_J7_fill_53178 : GoodIn wsX8_countVotes wsJ7_fill_53178 := goodIn_r _ [7] (by decide +kernel) (by decide +kernel)
set_option maxRecDepth 20000 in
theorem gX8_countVotes_J7_fill_53178 : GoodIn wsX8_countVotes (va_wsS RX8 43 yJ7_fill_53178 wsJ7_fill_53178) := goodIn_app (goodIn_of _ (by decide +kernel)) ggX8_countVotes_J7_fill_53178
theorem dX8_countVotes_0 : decode cX8_countVotes 0 = .ok (.aload_n 0, 1) := by decide +kernel
theorem dX8_countVotes_1 : decode cX8_countVotes 1 = .ok (.getfield 27, 3) := by decide +kernel
theorem dX8_countVotes_4 : decode cX8_countVotes 4 = .ok (.iconst 0, 1) := by decide +kernel
theorem dX8_countVotes_5 : decode cX8_countVotes 5 = .ok (.invokestatic 43, 3) := by decide +kernel
theorem dX8_countVotes_8 : decode cX8_countVotes 8 = .ok (.iconst 0, 1) := by decide +kernel
theorem dX8_countVotes_9 : decode cX8_countVotes 9 = .ok (.istore_n 1, 1) := by decide +kernel
theorem dX8_countVotes_10 : decode cX8_countVotes 10 = .ok (.iconst 0, 1) := by decide +kernel
theorem dX8_countVotes_11 : decode cX8_countVotes 11 = .ok (.istore_n 2, 1) := by decide +kernel
theorem dX8_countVotes_12 : decode cX8_countVotes 12 = .ok (.iload_n 2, 1) := by decide +kernel
theorem dX8_countVotes_13 : decode cX8_countVotes 13 = .ok (.bipush 10, 2) := by decide +kernel
theorem dX8_countVotes_15 : decode cX8_countVotes 15 = .ok (.if_icmp .ge 40, 3) := by decide +kernel
theorem dX8_countVotes_18 : decode cX8_countVotes 18 = .ok (.aload_n 0, 1) := by decide +kernel
theorem dX8_countVotes_19 : decode cX8_countVotes 19 = .ok (.getfield 24, 3) := by decide +kernel
theorem dX8_countVotes_22 : decode cX8_countVotes 22 = .ok (.iload_n 2, 1) := by decide +kernel
theorem dX8_countVotes_23 : decode cX8_countVotes 23 = .ok (.iaload, 1) := by decide +kernel
theorem dX8_countVotes_24 : decode cX8_countVotes 24 = .ok (.istore_n 3, 1) := by decide +kernel
theorem dX8_countVotes_25 : decode cX8_countVotes 25 = .ok (.iload_n 3, 1) := by decide +kernel
theorem dX8_countVotes_26 : decode cX8_countVotes 26 = .ok (.ldc 42, 2) := by decide +kernel
theorem dX8_countVotes_28 : decode cX8_countVotes 28 = .ok (.if_icmp .eq 21, 3) := by decide +kernel
theorem dX8_countVotes_31 : decode cX8_countVotes 31 = .ok (.iload_n 3, 1) := by decide +kernel
theorem dX8_countVotes_32 : decode cX8_countVotes 32 = .ok (.iload_n 2, 1) := by decide +kernel
theorem dX8_countVotes_33 : decode cX8_countVotes 33 = .ok (.if_icmp .eq 16, 3) := by decide +kernel
theorem dX8_countVotes_36 : decode cX8_countVotes 36 = .ok (.aload_n 0, 1) := by decide +kernel
theorem dX8_countVotes_37 : decode cX8_countVotes 37 = .ok (.getfield 27, 3) := by decide +kernel
theorem dX8_countVotes_40 : decode cX8_countVotes 40 = .ok (.iload_n 3, 1) := by decide +kernel
theorem dX8_countVotes_41 : decode cX8_countVotes 41 = .ok (.dup2, 1) := by decide +kernel
theorem dX8_countVotes_42 : decode cX8_countVotes 42 = .ok (.iaload, 1) := by decide +kernel
theorem dX8_countVotes_43 : decode cX8_countVotes 43 = .ok (.iconst 1, 1) := by decide +kernel
theorem dX8_countVotes_44 : decode cX8_countVotes 44 = .ok (.iadd, 1) := by decide +kernel
theorem dX8_countVotes_45 : decode cX8_countVotes 45 = .ok (.iastore, 1) := by decide +kernel
theorem dX8_countVotes_46 : decode cX8_countVotes 46 = .ok (.iinc 1 1, 3) := by decide +kernel
theorem dX8_countVotes_49 : decode cX8_countVotes 49 = .ok (.iinc 2 1, 3) := by decide +kernel
theorem dX8_countVotes_52 : decode cX8_countVotes 52 = .ok (.goto (-40), 3) := by decide +kernel
theorem dX8_countVotes_55 : decode cX8_countVotes 55 = .ok (.iload_n 1, 1) := by decide +kernel
theorem dX8_countVotes_56 : decode cX8_countVotes 56 = .ok (.ireturn, 1) := by decide +kernel
set_option maxRecDepth 20000 in
theorem ggX9_init_X0_init : GoodIn wsX9_init wsX0_init := goodIn_r _ [43, 44, 2, 3, 40, 45, 112, 113, 114] (by decide +kernel) (by decide +kernel)
set_option maxRecDepth 20000 in
theorem gX9_init_X0_init_n11 : GoodIn wsX9_init (wsX0_init) := ggX9_init_X0_init
set_option maxRecDepth 20000 in
theorem ggX9_init_X4_init : GoodIn wsX9_init wsX4_init := goodIn_r _ [47, 48, 2, 3, 40, 49, 50, 125, 126] (by decide +kernel) (by decide +kernel)
set_option maxRecDepth 20000 in
theorem gX9_init_X4_init_n18 : GoodIn wsX9_init (wsX4_init) := ggX9_init_X4_init
set_option maxRecDepth 20000 in
theorem ggX9_init_X7_init : GoodIn wsX9_init wsX7_init := goodIn_r _ [52, 53, 2, 3, 40, 54, 127, 128] (by decide +kernel) (by decide +kernel)
set_option maxRecDepth 20000 in
theorem gX9_init_X7_init_n25 : GoodIn wsX9_init (wsX7_init) := ggX9_init_X7_init
set_option maxRecDepth 20000 in
theorem ggX9_init_X5_init : GoodIn wsX9_init wsX5_init := goodIn_r _ [57, 58, 2, 3, 40, 59, 60, 61, 62, 129, 130, 131, 132, 133, 134, 135, 136] (by decide +kernel) (by decide +kernel)
set_option maxRecDepth 20000 in
theorem gX9_init_X5_init : GoodIn wsX9_init (wsX5_init) := ggX9_init_X5_init
set_option maxRecDepth 20000 in
theorem ggX9_init_X2_init : GoodIn wsX9_init wsX2_init := goodIn_r _ [64, 65, 2, 3, 40, 66, 67, 68, 69, 70, 71, 72, 73, 137, 138, 139, 140, 141, 142, 143, 144, 145] (by decide +kernel) (by decide +kernel)
set_option maxRecDepth 20000 in
theorem gX9_init_X2_init_n41 : GoodIn wsX9_init (wsX2_init) := ggX9_init_X2_init
set_option maxRecDepth 20000 in
theorem ggX9_init_X8_init : GoodIn wsX9_init wsX8_init := goodIn_r _ [75, 76, 2, 3, 40, 77, 78, 79, 80, 81, 82, 146, 147, 148, 149, 150, 151, 152] (by decide +kernel) (by decide +kernel)
set_option maxRecDepth 20000 in
theorem gX9_init_X8_init_n48 : GoodIn wsX9_init (wsX8_init) := ggX9_init_X8_init
set_option maxRecDepth 20000 in
theorem ggX9_init_X1_init : GoodIn wsX9_init wsX1_init := goodIn_r _ [84, 85, 2, 3, 40, 86, 87, 88, 89, 153, 154, 155, 156, 157] (by decide +kernel) (by decide +kernel)
set_option maxRecDepth 20000 in
theorem gX9_init_X1_init_n55 : GoodIn wsX9_init (wsX1_init) := ggX9_init_X1_init
set_option maxRecDepth 20000 in
theorem ggX9_init_X6_init : GoodIn wsX9_init wsX6_init := goodIn_r _ [92, 93, 2, 3, 40, 94, 95, 96, 97, 98, 99, 100, 101, 102, 103, 158, 159, 160, 161, 162, 163, 164, 165, 166, 167] (by decide +kernel) (by decide +kernel)
set_option maxRecDepth 20000 in
theorem gX9_init_X6_init : GoodIn wsX9_init (wsX6_init) := ggX9_init_X6_init
set_option maxRecDepth 20000 in
theorem ggX9_init_X3_init : GoodIn wsX9_init wsX3_init := goodIn_r _ [105, 106, 2, 3, 40, 107, 108, 109, 110, 111, 168, 169, 170, 171, 172] (by decide +kernel) (by decide +kernel)
set_option maxRecDepth 20000 in
theorem gX9_init_X3_init_n71 : GoodIn wsX9_init (wsX3_init) := ggX9_init_X3_init
