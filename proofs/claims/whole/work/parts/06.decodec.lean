theorem dX10_init_260 : decode cX10_init 260 = .ok (.putfield 111, 3) := by decide +kernel
theorem dX10_init_263 : decode cX10_init 263 = .ok (.aload_n 0, 1) := by decide +kernel
theorem dX10_init_264 : decode cX10_init 264 = .ok (.sipush 200, 3) := by decide +kernel
theorem dX10_init_267 : decode cX10_init 267 = .ok (.newarray .int, 2) := by decide +kernel
theorem dX10_init_269 : decode cX10_init 269 = .ok (.putfield 114, 3) := by decide +kernel
theorem dX10_init_272 : decode cX10_init 272 = .ok (.aload_n 0, 1) := by decide +kernel
theorem dX10_init_273 : decode cX10_init 273 = .ok (.sipush 200, 3) := by decide +kernel
theorem dX10_init_276 : decode cX10_init 276 = .ok (.newarray .int, 2) := by decide +kernel
theorem dX10_init_278 : decode cX10_init 278 = .ok (.putfield 117, 3) := by decide +kernel
theorem dX10_init_281 : decode cX10_init 281 = .ok (.aload_n 0, 1) := by decide +kernel
theorem dX10_init_282 : decode cX10_init 282 = .ok (.sipush 200, 3) := by decide +kernel
theorem dX10_init_285 : decode cX10_init 285 = .ok (.newarray .int, 2) := by decide +kernel
theorem dX10_init_287 : decode cX10_init 287 = .ok (.putfield 120, 3) := by decide +kernel
theorem dX10_init_290 : decode cX10_init 290 = .ok (.return_, 1) := by decide +kernel
theorem dX10_in_0 : decode cX10_in 0 = .ok (.lload_n 0, 1) := by decide +kernel
theorem dX10_in_1 : decode cX10_in 1 = .ok (.lload_n 2, 1) := by decide +kernel
theorem dX10_in_2 : decode cX10_in 2 = .ok (.lcmp, 1) := by decide +kernel
theorem dX10_in_3 : decode cX10_in 3 = .ok (.ifCond .lt 14, 3) := by decide +kernel
theorem dX10_in_6 : decode cX10_in 6 = .ok (.lload_n 0, 1) := by decide +kernel
theorem dX10_in_7 : decode cX10_in 7 = .ok (.lload 4, 2) := by decide +kernel
theorem dX10_in_9 : decode cX10_in 9 = .ok (.lcmp, 1) := by decide +kernel
theorem dX10_in_10 : decode cX10_in 10 = .ok (.ifCond .gt 7, 3) := by decide +kernel
theorem dX10_in_13 : decode cX10_in 13 = .ok (.iconst 1, 1) := by decide +kernel
theorem dX10_in_14 : decode cX10_in 14 = .ok (.goto 4, 3) := by decide +kernel
theorem dX10_in_17 : decode cX10_in 17 = .ok (.iconst 0, 1) := by decide +kernel
theorem dX10_in_18 : decode cX10_in 18 = .ok (.ireturn, 1) := by decide +kernel
theorem dX10_told_0 : decode cX10_told 0 = .ok (.aload_n 0, 1) := by decide +kernel
theorem dX10_told_1 : decode cX10_told 1 = .ok (.iload_n 1, 1) := by decide +kernel
theorem dX10_told_2 : decode cX10_told 2 = .ok (.ifCond .ge 7, 3) := by decide +kernel
theorem dX10_told_5 : decode cX10_told 5 = .ok (.iload_n 1, 1) := by decide +kernel
theorem dX10_told_6 : decode cX10_told 6 = .ok (.goto 4, 3) := by decide +kernel
theorem dX10_told_9 : decode cX10_told 9 = .ok (.iconst 0, 1) := by decide +kernel
theorem dX10_told_10 : decode cX10_told 10 = .ok (.putfield 126, 3) := by decide +kernel
theorem dX10_told_13 : decode cX10_told 13 = .ok (.iload_n 1, 1) := by decide +kernel
theorem dX10_told_14 : decode cX10_told 14 = .ok (.ireturn, 1) := by decide +kernel
set_option maxRecDepth 20000 in
theorem ggX10_isHour_X10_in : GoodIn wsX10_isHour wsX10_in := goodIn_r _ [5] (by decide +kernel) (by decide +kernel)
set_option maxRecDepth 20000 in
theorem gX10_isHour_X10_in : GoodIn wsX10_isHour (va_wsS RX10 131 yX10_in wsX10_in) := goodIn_app (goodIn_of _ (by decide +kernel)) ggX10_isHour_X10_in
theorem dX10_isHour_0 : decode cX10_isHour 0 = .ok (.iload_n 0, 1) := by decide +kernel
theorem dX10_isHour_1 : decode cX10_isHour 1 = .ok (.i2l, 1) := by decide +kernel
theorem dX10_isHour_2 : decode cX10_isHour 2 = .ok (.lconst 0, 1) := by decide +kernel
theorem dX10_isHour_3 : decode cX10_isHour 3 = .ok (.ldc2_w 129, 3) := by decide +kernel
theorem dX10_isHour_6 : decode cX10_isHour 6 = .ok (.invokestatic 131, 3) := by decide +kernel
theorem dX10_isHour_9 : decode cX10_isHour 9 = .ok (.ireturn, 1) := by decide +kernel
set_option maxRecDepth 20000 in
theorem ggX10_isPlace_X10_in : GoodIn wsX10_isPlace wsX10_in := goodIn_r _ [5] (by decide +kernel) (by decide +kernel)
set_option maxRecDepth 20000 in
theorem gX10_isPlace_X10_in : GoodIn wsX10_isPlace (va_wsS RX10 131 yX10_in wsX10_in) := goodIn_app (goodIn_of _ (by decide +kernel)) ggX10_isPlace_X10_in
theorem dX10_isPlace_0 : decode cX10_isPlace 0 = .ok (.iload_n 0, 1) := by decide +kernel
theorem dX10_isPlace_1 : decode cX10_isPlace 1 = .ok (.i2l, 1) := by decide +kernel
theorem dX10_isPlace_2 : decode cX10_isPlace 2 = .ok (.lconst 0, 1) := by decide +kernel
theorem dX10_isPlace_3 : decode cX10_isPlace 3 = .ok (.ldc2_w 135, 3) := by decide +kernel
theorem dX10_isPlace_6 : decode cX10_isPlace 6 = .ok (.invokestatic 131, 3) := by decide +kernel
theorem dX10_isPlace_9 : decode cX10_isPlace 9 = .ok (.ireturn, 1) := by decide +kernel
set_option maxRecDepth 20000 in
theorem ggX10_isLine_X10_in : GoodIn wsX10_isLine wsX10_in := goodIn_r _ [5] (by decide +kernel) (by decide +kernel)
set_option maxRecDepth 20000 in
theorem gX10_isLine_X10_in : GoodIn wsX10_isLine (va_wsS RX10 131 yX10_in wsX10_in) := goodIn_app (goodIn_of _ (by decide +kernel)) ggX10_isLine_X10_in
theorem dX10_isLine_0 : decode cX10_isLine 0 = .ok (.iload_n 1, 1) := by decide +kernel
theorem dX10_isLine_1 : decode cX10_isLine 1 = .ok (.i2l, 1) := by decide +kernel
theorem dX10_isLine_2 : decode cX10_isLine 2 = .ok (.lconst 0, 1) := by decide +kernel
theorem dX10_isLine_3 : decode cX10_isLine 3 = .ok (.aload_n 0, 1) := by decide +kernel
theorem dX10_isLine_4 : decode cX10_isLine 4 = .ok (.getfield 137, 3) := by decide +kernel
theorem dX10_isLine_7 : decode cX10_isLine 7 = .ok (.i2l, 1) := by decide +kernel
theorem dX10_isLine_8 : decode cX10_isLine 8 = .ok (.lconst 1, 1) := by decide +kernel
theorem dX10_isLine_9 : decode cX10_isLine 9 = .ok (.lsub, 1) := by decide +kernel
theorem dX10_isLine_10 : decode cX10_isLine 10 = .ok (.invokestatic 131, 3) := by decide +kernel
theorem dX10_isLine_13 : decode cX10_isLine 13 = .ok (.ireturn, 1) := by decide +kernel
set_option maxRecDepth 20000 in
theorem ggX10_line_X10_isPlace : GoodIn wsX10_line wsX10_isPlace := goodIn_r _ [13, 14, 15, 16, 12, 17] (by decide +kernel) (by decide +kernel)
set_option maxRecDepth 20000 in
theorem gX10_line_X10_isPlace : GoodIn wsX10_line (va_wsS RX10 140 yX10_isPlace wsX10_isPlace) := goodIn_app (goodIn_of _ (by decide +kernel)) ggX10_line_X10_isPlace
set_option maxRecDepth 20000 in
theorem ggX10_line_X10_in : GoodIn wsX10_line wsX10_in := goodIn_r _ [17] (by decide +kernel) (by decide +kernel)
set_option maxRecDepth 20000 in
theorem gX10_line_X10_in : GoodIn wsX10_line (va_wsS RX10 131 yX10_in wsX10_in) := goodIn_app (goodIn_of _ (by decide +kernel)) ggX10_line_X10_in
set_option maxRecDepth 20000 in
theorem ggX10_line_X10_told : GoodIn wsX10_line wsX10_told := goodIn_r _ [21, 22, 23, 24, 25, 26, 27, 28, 29, 30, 31, 32, 33, 34, 35, 36, 37, 38, 39, 40, 41, 42, 43, 44, 45, 46, 47, 48, 49, 50, 51, 52, 53, 54, 55, 56, 57, 58, 59, 60, 61, 62, 63, 64, 65, 66, 67, 68, 69, 70, 71, 72, 73] (by decide +kernel) (by decide +kernel)
set_option maxRecDepth 20000 in
theorem gX10_line_X10_told : GoodIn wsX10_line (wsV RX10 148 RX10 yX10_told wsX10_told) := goodIn_app (goodIn_of _ (by decide +kernel)) ggX10_line_X10_told
theorem dX10_line_0 : decode cX10_line 0 = .ok (.aload_n 0, 1) := by decide +kernel
theorem dX10_line_1 : decode cX10_line 1 = .ok (.iconst 0, 1) := by decide +kernel
theorem dX10_line_2 : decode cX10_line 2 = .ok (.putfield 123, 3) := by decide +kernel
theorem dX10_line_5 : decode cX10_line 5 = .ok (.iload_n 1, 1) := by decide +kernel
theorem dX10_line_6 : decode cX10_line 6 = .ok (.invokestatic 140, 3) := by decide +kernel
theorem dX10_line_9 : decode cX10_line 9 = .ok (.ifCond .eq 40, 3) := by decide +kernel
theorem dX10_line_12 : decode cX10_line 12 = .ok (.iload_n 2, 1) := by decide +kernel
theorem dX10_line_13 : decode cX10_line 13 = .ok (.invokestatic 140, 3) := by decide +kernel
theorem dX10_line_16 : decode cX10_line 16 = .ok (.ifCond .eq 33, 3) := by decide +kernel
theorem dX10_line_19 : decode cX10_line 19 = .ok (.iload_n 1, 1) := by decide +kernel
theorem dX10_line_20 : decode cX10_line 20 = .ok (.iload_n 2, 1) := by decide +kernel
theorem dX10_line_21 : decode cX10_line 21 = .ok (.if_icmp .eq 28, 3) := by decide +kernel
theorem dX10_line_24 : decode cX10_line 24 = .ok (.iload_n 3, 1) := by decide +kernel
theorem dX10_line_25 : decode cX10_line 25 = .ok (.i2l, 1) := by decide +kernel
theorem dX10_line_26 : decode cX10_line 26 = .ok (.lconst 1, 1) := by decide +kernel
theorem dX10_line_27 : decode cX10_line 27 = .ok (.ldc2_w 144, 3) := by decide +kernel
theorem dX10_line_30 : decode cX10_line 30 = .ok (.invokestatic 131, 3) := by decide +kernel
theorem dX10_line_33 : decode cX10_line 33 = .ok (.ifCond .eq 16, 3) := by decide +kernel
theorem dX10_line_36 : decode cX10_line 36 = .ok (.iload 4, 2) := by decide +kernel
theorem dX10_line_38 : decode cX10_line 38 = .ok (.i2l, 1) := by decide +kernel
theorem dX10_line_39 : decode cX10_line 39 = .ok (.lconst 1, 1) := by decide +kernel
theorem dX10_line_40 : decode cX10_line 40 = .ok (.ldc2_w 146, 3) := by decide +kernel
theorem dX10_line_43 : decode cX10_line 43 = .ok (.invokestatic 131, 3) := by decide +kernel
theorem dX10_line_46 : decode cX10_line 46 = .ok (.ifCond .ne 9, 3) := by decide +kernel
theorem dX10_line_49 : decode cX10_line 49 = .ok (.aload_n 0, 1) := by decide +kernel
theorem dX10_line_50 : decode cX10_line 50 = .ok (.iconst (-1), 1) := by decide +kernel
theorem dX10_line_51 : decode cX10_line 51 = .ok (.invokevirtual 148, 3) := by decide +kernel
theorem dX10_line_54 : decode cX10_line 54 = .ok (.ireturn, 1) := by decide +kernel
theorem dX10_line_55 : decode cX10_line 55 = .ok (.aload_n 0, 1) := by decide +kernel
theorem dX10_line_56 : decode cX10_line 56 = .ok (.getfield 137, 3) := by decide +kernel
theorem dX10_line_59 : decode cX10_line 59 = .ok (.bipush 30, 2) := by decide +kernel
theorem dX10_line_61 : decode cX10_line 61 = .ok (.if_icmp .ne 10, 3) := by decide +kernel
theorem dX10_line_64 : decode cX10_line 64 = .ok (.aload_n 0, 1) := by decide +kernel
theorem dX10_line_65 : decode cX10_line 65 = .ok (.bipush (-5), 2) := by decide +kernel
theorem dX10_line_67 : decode cX10_line 67 = .ok (.invokevirtual 148, 3) := by decide +kernel
theorem dX10_line_70 : decode cX10_line 70 = .ok (.ireturn, 1) := by decide +kernel
theorem dX10_line_71 : decode cX10_line 71 = .ok (.aload_n 0, 1) := by decide +kernel
theorem dX10_line_72 : decode cX10_line 72 = .ok (.getfield 7, 3) := by decide +kernel
theorem dX10_line_75 : decode cX10_line 75 = .ok (.aload_n 0, 1) := by decide +kernel
theorem dX10_line_76 : decode cX10_line 76 = .ok (.getfield 137, 3) := by decide +kernel
theorem dX10_line_79 : decode cX10_line 79 = .ok (.iload_n 1, 1) := by decide +kernel
theorem dX10_line_80 : decode cX10_line 80 = .ok (.iastore, 1) := by decide +kernel
theorem dX10_line_81 : decode cX10_line 81 = .ok (.aload_n 0, 1) := by decide +kernel
theorem dX10_line_82 : decode cX10_line 82 = .ok (.getfield 13, 3) := by decide +kernel
theorem dX10_line_85 : decode cX10_line 85 = .ok (.aload_n 0, 1) := by decide +kernel
theorem dX10_line_86 : decode cX10_line 86 = .ok (.getfield 137, 3) := by decide +kernel
theorem dX10_line_89 : decode cX10_line 89 = .ok (.iload_n 2, 1) := by decide +kernel
theorem dX10_line_90 : decode cX10_line 90 = .ok (.iastore, 1) := by decide +kernel
theorem dX10_line_91 : decode cX10_line 91 = .ok (.aload_n 0, 1) := by decide +kernel
theorem dX10_line_92 : decode cX10_line 92 = .ok (.getfield 16, 3) := by decide +kernel
theorem dX10_line_95 : decode cX10_line 95 = .ok (.aload_n 0, 1) := by decide +kernel
theorem dX10_line_96 : decode cX10_line 96 = .ok (.getfield 137, 3) := by decide +kernel
theorem dX10_line_99 : decode cX10_line 99 = .ok (.iload_n 3, 1) := by decide +kernel
theorem dX10_line_100 : decode cX10_line 100 = .ok (.iastore, 1) := by decide +kernel
theorem dX10_line_101 : decode cX10_line 101 = .ok (.aload_n 0, 1) := by decide +kernel
theorem dX10_line_102 : decode cX10_line 102 = .ok (.getfield 19, 3) := by decide +kernel
theorem dX10_line_105 : decode cX10_line 105 = .ok (.aload_n 0, 1) := by decide +kernel
theorem dX10_line_106 : decode cX10_line 106 = .ok (.getfield 137, 3) := by decide +kernel
theorem dX10_line_109 : decode cX10_line 109 = .ok (.iload 4, 2) := by decide +kernel
theorem dX10_line_111 : decode cX10_line 111 = .ok (.iastore, 1) := by decide +kernel
theorem dX10_line_112 : decode cX10_line 112 = .ok (.aload_n 0, 1) := by decide +kernel
theorem dX10_line_113 : decode cX10_line 113 = .ok (.getfield 22, 3) := by decide +kernel
theorem dX10_line_116 : decode cX10_line 116 = .ok (.aload_n 0, 1) := by decide +kernel
theorem dX10_line_117 : decode cX10_line 117 = .ok (.getfield 137, 3) := by decide +kernel
theorem dX10_line_120 : decode cX10_line 120 = .ok (.iload 5, 2) := by decide +kernel
theorem dX10_line_122 : decode cX10_line 122 = .ok (.bastore, 1) := by decide +kernel
theorem dX10_line_123 : decode cX10_line 123 = .ok (.aload_n 0, 1) := by decide +kernel
theorem dX10_line_124 : decode cX10_line 124 = .ok (.dup, 1) := by decide +kernel
theorem dX10_line_125 : decode cX10_line 125 = .ok (.getfield 137, 3) := by decide +kernel
theorem dX10_line_128 : decode cX10_line 128 = .ok (.iconst 1, 1) := by decide +kernel
theorem dX10_line_129 : decode cX10_line 129 = .ok (.iadd, 1) := by decide +kernel
theorem dX10_line_130 : decode cX10_line 130 = .ok (.putfield 137, 3) := by decide +kernel
theorem dX10_line_133 : decode cX10_line 133 = .ok (.aload_n 0, 1) := by decide +kernel
theorem dX10_line_134 : decode cX10_line 134 = .ok (.aload_n 0, 1) := by decide +kernel
theorem dX10_line_135 : decode cX10_line 135 = .ok (.getfield 137, 3) := by decide +kernel
theorem dX10_line_138 : decode cX10_line 138 = .ok (.iconst 1, 1) := by decide +kernel
theorem dX10_line_139 : decode cX10_line 139 = .ok (.isub, 1) := by decide +kernel
theorem dX10_line_140 : decode cX10_line 140 = .ok (.invokevirtual 148, 3) := by decide +kernel
theorem dX10_line_143 : decode cX10_line 143 = .ok (.ireturn, 1) := by decide +kernel
set_option maxRecDepth 20000 in
theorem ggX10_rates_X10_in : GoodIn wsX10_rates wsX10_in := goodIn_r _ [8] (by decide +kernel) (by decide +kernel)
set_option maxRecDepth 20000 in
theorem gX10_rates_X10_in : GoodIn wsX10_rates (va_wsS RX10 131 yX10_in wsX10_in) := goodIn_app (goodIn_of _ (by decide +kernel)) ggX10_rates_X10_in
set_option maxRecDepth 20000 in
theorem ggX10_rates_X10_told : GoodIn wsX10_rates wsX10_told := goodIn_r _ [12, 13, 14, 15, 16, 17, 18, 19, 20, 21, 22, 23, 24, 25, 26, 27, 28, 29, 30, 31, 32, 33, 34, 35, 36, 37, 38, 39, 40, 41, 42, 43, 44, 45, 46, 47, 48, 49, 50, 51, 52, 53, 54, 55, 56, 57, 58, 59, 60, 61, 62, 63, 64] (by decide +kernel) (by decide +kernel)
set_option maxRecDepth 20000 in
theorem gX10_rates_X10_told : GoodIn wsX10_rates (wsV RX10 148 RX10 yX10_told wsX10_told) := goodIn_app (goodIn_of _ (by decide +kernel)) ggX10_rates_X10_told
theorem dX10_rates_0 : decode cX10_rates 0 = .ok (.aload_n 0, 1) := by decide +kernel
theorem dX10_rates_1 : decode cX10_rates 1 = .ok (.iconst 0, 1) := by decide +kernel
theorem dX10_rates_2 : decode cX10_rates 2 = .ok (.putfield 123, 3) := by decide +kernel
theorem dX10_rates_5 : decode cX10_rates 5 = .ok (.iload_n 1, 1) := by decide +kernel
theorem dX10_rates_6 : decode cX10_rates 6 = .ok (.i2l, 1) := by decide +kernel
theorem dX10_rates_7 : decode cX10_rates 7 = .ok (.lconst 1, 1) := by decide +kernel
theorem dX10_rates_8 : decode cX10_rates 8 = .ok (.ldc2_w 152, 3) := by decide +kernel
theorem dX10_rates_11 : decode cX10_rates 11 = .ok (.invokestatic 131, 3) := by decide +kernel
theorem dX10_rates_14 : decode cX10_rates 14 = .ok (.ifCond .eq 15, 3) := by decide +kernel
theorem dX10_rates_17 : decode cX10_rates 17 = .ok (.iload_n 2, 1) := by decide +kernel
theorem dX10_rates_18 : decode cX10_rates 18 = .ok (.i2l, 1) := by decide +kernel
theorem dX10_rates_19 : decode cX10_rates 19 = .ok (.lconst 1, 1) := by decide +kernel
theorem dX10_rates_20 : decode cX10_rates 20 = .ok (.ldc2_w 152, 3) := by decide +kernel
theorem dX10_rates_23 : decode cX10_rates 23 = .ok (.invokestatic 131, 3) := by decide +kernel
theorem dX10_rates_26 : decode cX10_rates 26 = .ok (.ifCond .ne 9, 3) := by decide +kernel
theorem dX10_rates_29 : decode cX10_rates 29 = .ok (.aload_n 0, 1) := by decide +kernel
theorem dX10_rates_30 : decode cX10_rates 30 = .ok (.iconst (-1), 1) := by decide +kernel
theorem dX10_rates_31 : decode cX10_rates 31 = .ok (.invokevirtual 148, 3) := by decide +kernel
theorem dX10_rates_34 : decode cX10_rates 34 = .ok (.ireturn, 1) := by decide +kernel
theorem dX10_rates_35 : decode cX10_rates 35 = .ok (.aload_n 0, 1) := by decide +kernel
theorem dX10_rates_36 : decode cX10_rates 36 = .ok (.iload_n 1, 1) := by decide +kernel
theorem dX10_rates_37 : decode cX10_rates 37 = .ok (.putfield 26, 3) := by decide +kernel
theorem dX10_rates_40 : decode cX10_rates 40 = .ok (.aload_n 0, 1) := by decide +kernel
theorem dX10_rates_41 : decode cX10_rates 41 = .ok (.iload_n 2, 1) := by decide +kernel
theorem dX10_rates_42 : decode cX10_rates 42 = .ok (.putfield 30, 3) := by decide +kernel
theorem dX10_rates_45 : decode cX10_rates 45 = .ok (.aload_n 0, 1) := by decide +kernel
theorem dX10_rates_46 : decode cX10_rates 46 = .ok (.iconst 0, 1) := by decide +kernel
theorem dX10_rates_47 : decode cX10_rates 47 = .ok (.invokevirtual 148, 3) := by decide +kernel
theorem dX10_rates_50 : decode cX10_rates 50 = .ok (.ireturn, 1) := by decide +kernel
set_option maxRecDepth 20000 in
theorem ggX10_gangs_X10_in : GoodIn wsX10_gangs wsX10_in := goodIn_r _ [7] (by decide +kernel) (by decide +kernel)
set_option maxRecDepth 20000 in
theorem gX10_gangs_X10_in : GoodIn wsX10_gangs (va_wsS RX10 131 yX10_in wsX10_in) := goodIn_app (goodIn_of _ (by decide +kernel)) ggX10_gangs_X10_in
set_option maxRecDepth 20000 in
theorem ggX10_gangs_X10_told : GoodIn wsX10_gangs wsX10_told := goodIn_r _ [11, 12, 13, 14, 15, 16, 17, 18, 19, 20, 21, 22, 23, 24, 25, 26, 27, 28, 29, 30, 31, 32, 33, 34, 35, 36, 37, 38, 39, 40, 41, 42, 43, 44, 45, 46, 47, 48, 49, 50, 51, 52, 53, 54, 55, 56, 57, 58, 59, 60, 61, 62, 63] (by decide +kernel) (by decide +kernel)
set_option maxRecDepth 20000 in
theorem gX10_gangs_X10_told : GoodIn wsX10_gangs (wsV RX10 148 RX10 yX10_told wsX10_told) := goodIn_app (goodIn_of _ (by decide +kernel)) ggX10_gangs_X10_told
theorem dX10_gangs_0 : decode cX10_gangs 0 = .ok (.aload_n 0, 1) := by decide +kernel
theorem dX10_gangs_1 : decode cX10_gangs 1 = .ok (.iconst 0, 1) := by decide +kernel
theorem dX10_gangs_2 : decode cX10_gangs 2 = .ok (.putfield 123, 3) := by decide +kernel
theorem dX10_gangs_5 : decode cX10_gangs 5 = .ok (.iload_n 1, 1) := by decide +kernel
theorem dX10_gangs_6 : decode cX10_gangs 6 = .ok (.i2l, 1) := by decide +kernel
theorem dX10_gangs_7 : decode cX10_gangs 7 = .ok (.lconst 0, 1) := by decide +kernel
theorem dX10_gangs_8 : decode cX10_gangs 8 = .ok (.ldc2_w 154, 3) := by decide +kernel
theorem dX10_gangs_11 : decode cX10_gangs 11 = .ok (.invokestatic 131, 3) := by decide +kernel
theorem dX10_gangs_14 : decode cX10_gangs 14 = .ok (.ifCond .ne 9, 3) := by decide +kernel
theorem dX10_gangs_17 : decode cX10_gangs 17 = .ok (.aload_n 0, 1) := by decide +kernel
theorem dX10_gangs_18 : decode cX10_gangs 18 = .ok (.iconst (-1), 1) := by decide +kernel
theorem dX10_gangs_19 : decode cX10_gangs 19 = .ok (.invokevirtual 148, 3) := by decide +kernel
theorem dX10_gangs_22 : decode cX10_gangs 22 = .ok (.ireturn, 1) := by decide +kernel
theorem dX10_gangs_23 : decode cX10_gangs 23 = .ok (.aload_n 0, 1) := by decide +kernel
theorem dX10_gangs_24 : decode cX10_gangs 24 = .ok (.getfield 33, 3) := by decide +kernel
theorem dX10_gangs_27 : decode cX10_gangs 27 = .ok (.istore_n 2, 1) := by decide +kernel
theorem dX10_gangs_28 : decode cX10_gangs 28 = .ok (.aload_n 0, 1) := by decide +kernel
theorem dX10_gangs_29 : decode cX10_gangs 29 = .ok (.iload_n 1, 1) := by decide +kernel
theorem dX10_gangs_30 : decode cX10_gangs 30 = .ok (.putfield 33, 3) := by decide +kernel
theorem dX10_gangs_33 : decode cX10_gangs 33 = .ok (.aload_n 0, 1) := by decide +kernel
theorem dX10_gangs_34 : decode cX10_gangs 34 = .ok (.iload_n 2, 1) := by decide +kernel
theorem dX10_gangs_35 : decode cX10_gangs 35 = .ok (.invokevirtual 148, 3) := by decide +kernel
theorem dX10_gangs_38 : decode cX10_gangs 38 = .ok (.ireturn, 1) := by decide +kernel
set_option maxRecDepth 20000 in
theorem ggX10_transfer_X10_in : GoodIn wsX10_transfer wsX10_in := goodIn_r _ [7] (by decide +kernel) (by decide +kernel)
set_option maxRecDepth 20000 in
theorem gX10_transfer_X10_in : GoodIn wsX10_transfer (va_wsS RX10 131 yX10_in wsX10_in) := goodIn_app (goodIn_of _ (by decide +kernel)) ggX10_transfer_X10_in
set_option maxRecDepth 20000 in
theorem ggX10_transfer_X10_told : GoodIn wsX10_transfer wsX10_told := goodIn_r _ [11, 12, 13, 14, 15, 16, 17, 18, 19, 20, 21, 22, 23, 24, 25, 26, 27, 28, 29, 30, 31, 32, 33, 34, 35, 36, 37, 38, 39, 40, 41, 42, 43, 44, 45, 46, 47, 48, 49, 50, 51, 52, 53, 54, 55, 56, 57, 58, 59, 60, 61, 62, 63] (by decide +kernel) (by decide +kernel)
set_option maxRecDepth 20000 in
theorem gX10_transfer_X10_told : GoodIn wsX10_transfer (wsV RX10 148 RX10 yX10_told wsX10_told) := goodIn_app (goodIn_of _ (by decide +kernel)) ggX10_transfer_X10_told
theorem dX10_transfer_0 : decode cX10_transfer 0 = .ok (.aload_n 0, 1) := by decide +kernel
theorem dX10_transfer_1 : decode cX10_transfer 1 = .ok (.iconst 0, 1) := by decide +kernel
theorem dX10_transfer_2 : decode cX10_transfer 2 = .ok (.putfield 123, 3) := by decide +kernel
theorem dX10_transfer_5 : decode cX10_transfer 5 = .ok (.iload_n 1, 1) := by decide +kernel
theorem dX10_transfer_6 : decode cX10_transfer 6 = .ok (.i2l, 1) := by decide +kernel
theorem dX10_transfer_7 : decode cX10_transfer 7 = .ok (.lconst 0, 1) := by decide +kernel
theorem dX10_transfer_8 : decode cX10_transfer 8 = .ok (.ldc2_w 146, 3) := by decide +kernel
theorem dX10_transfer_11 : decode cX10_transfer 11 = .ok (.invokestatic 131, 3) := by decide +kernel
theorem dX10_transfer_14 : decode cX10_transfer 14 = .ok (.ifCond .ne 9, 3) := by decide +kernel
theorem dX10_transfer_17 : decode cX10_transfer 17 = .ok (.aload_n 0, 1) := by decide +kernel
theorem dX10_transfer_18 : decode cX10_transfer 18 = .ok (.iconst (-1), 1) := by decide +kernel
theorem dX10_transfer_19 : decode cX10_transfer 19 = .ok (.invokevirtual 148, 3) := by decide +kernel
theorem dX10_transfer_22 : decode cX10_transfer 22 = .ok (.ireturn, 1) := by decide +kernel
theorem dX10_transfer_23 : decode cX10_transfer 23 = .ok (.aload_n 0, 1) := by decide +kernel
theorem dX10_transfer_24 : decode cX10_transfer 24 = .ok (.getfield 36, 3) := by decide +kernel
theorem dX10_transfer_27 : decode cX10_transfer 27 = .ok (.istore_n 2, 1) := by decide +kernel
theorem dX10_transfer_28 : decode cX10_transfer 28 = .ok (.aload_n 0, 1) := by decide +kernel
theorem dX10_transfer_29 : decode cX10_transfer 29 = .ok (.iload_n 1, 1) := by decide +kernel
theorem dX10_transfer_30 : decode cX10_transfer 30 = .ok (.putfield 36, 3) := by decide +kernel
theorem dX10_transfer_33 : decode cX10_transfer 33 = .ok (.aload_n 0, 1) := by decide +kernel
theorem dX10_transfer_34 : decode cX10_transfer 34 = .ok (.iload_n 2, 1) := by decide +kernel
theorem dX10_transfer_35 : decode cX10_transfer 35 = .ok (.invokevirtual 148, 3) := by decide +kernel
theorem dX10_transfer_38 : decode cX10_transfer 38 = .ok (.ireturn, 1) := by decide +kernel
theorem dX10_reckon_0 : decode cX10_reckon 0 = .ok (.iconst 0, 1) := by decide +kernel
theorem dX10_reckon_1 : decode cX10_reckon 1 = .ok (.istore_n 1, 1) := by decide +kernel
theorem dX10_reckon_2 : decode cX10_reckon 2 = .ok (.iload_n 1, 1) := by decide +kernel
theorem dX10_reckon_3 : decode cX10_reckon 3 = .ok (.bipush 30, 2) := by decide +kernel
theorem dX10_reckon_5 : decode cX10_reckon 5 = .ok (.if_icmp .ge 32, 3) := by decide +kernel
theorem dX10_reckon_8 : decode cX10_reckon 8 = .ok (.aload_n 0, 1) := by decide +kernel
theorem dX10_reckon_9 : decode cX10_reckon 9 = .ok (.getfield 54, 3) := by decide +kernel
theorem dX10_reckon_12 : decode cX10_reckon 12 = .ok (.iload_n 1, 1) := by decide +kernel
theorem dX10_reckon_13 : decode cX10_reckon 13 = .ok (.ldc 156, 2) := by decide +kernel
theorem dX10_reckon_15 : decode cX10_reckon 15 = .ok (.iastore, 1) := by decide +kernel
theorem dX10_reckon_16 : decode cX10_reckon 16 = .ok (.aload_n 0, 1) := by decide +kernel
theorem dX10_reckon_17 : decode cX10_reckon 17 = .ok (.getfield 57, 3) := by decide +kernel
theorem dX10_reckon_20 : decode cX10_reckon 20 = .ok (.iload_n 1, 1) := by decide +kernel
theorem dX10_reckon_21 : decode cX10_reckon 21 = .ok (.ldc 156, 2) := by decide +kernel
theorem dX10_reckon_23 : decode cX10_reckon 23 = .ok (.iastore, 1) := by decide +kernel
theorem dX10_reckon_24 : decode cX10_reckon 24 = .ok (.aload_n 0, 1) := by decide +kernel
theorem dX10_reckon_25 : decode cX10_reckon 25 = .ok (.getfield 60, 3) := by decide +kernel
theorem dX10_reckon_28 : decode cX10_reckon 28 = .ok (.iload_n 1, 1) := by decide +kernel
theorem dX10_reckon_29 : decode cX10_reckon 29 = .ok (.iconst 0, 1) := by decide +kernel
theorem dX10_reckon_30 : decode cX10_reckon 30 = .ok (.iastore, 1) := by decide +kernel
theorem dX10_reckon_31 : decode cX10_reckon 31 = .ok (.iinc 1 1, 3) := by decide +kernel
theorem dX10_reckon_34 : decode cX10_reckon 34 = .ok (.goto (-32), 3) := by decide +kernel
theorem dX10_reckon_37 : decode cX10_reckon 37 = .ok (.iconst 0, 1) := by decide +kernel
theorem dX10_reckon_38 : decode cX10_reckon 38 = .ok (.istore_n 1, 1) := by decide +kernel
theorem dX10_reckon_39 : decode cX10_reckon 39 = .ok (.iload_n 1, 1) := by decide +kernel
theorem dX10_reckon_40 : decode cX10_reckon 40 = .ok (.aload_n 0, 1) := by decide +kernel
theorem dX10_reckon_41 : decode cX10_reckon 41 = .ok (.getfield 157, 3) := by decide +kernel
theorem dX10_reckon_44 : decode cX10_reckon 44 = .ok (.if_icmp .ge 119, 3) := by decide +kernel
theorem dX10_reckon_47 : decode cX10_reckon 47 = .ok (.aload_n 0, 1) := by decide +kernel
theorem dX10_reckon_48 : decode cX10_reckon 48 = .ok (.getfield 39, 3) := by decide +kernel
theorem dX10_reckon_51 : decode cX10_reckon 51 = .ok (.iload_n 1, 1) := by decide +kernel
theorem dX10_reckon_52 : decode cX10_reckon 52 = .ok (.iaload, 1) := by decide +kernel
theorem dX10_reckon_53 : decode cX10_reckon 53 = .ok (.istore_n 2, 1) := by decide +kernel
theorem dX10_reckon_54 : decode cX10_reckon 54 = .ok (.aload_n 0, 1) := by decide +kernel
theorem dX10_reckon_55 : decode cX10_reckon 55 = .ok (.getfield 48, 3) := by decide +kernel
theorem dX10_reckon_58 : decode cX10_reckon 58 = .ok (.iload_n 1, 1) := by decide +kernel
theorem dX10_reckon_59 : decode cX10_reckon 59 = .ok (.iaload, 1) := by decide +kernel
theorem dX10_reckon_60 : decode cX10_reckon 60 = .ok (.aload_n 0, 1) := by decide +kernel
theorem dX10_reckon_61 : decode cX10_reckon 61 = .ok (.getfield 22, 3) := by decide +kernel
theorem dX10_reckon_64 : decode cX10_reckon 64 = .ok (.iload_n 2, 1) := by decide +kernel
theorem dX10_reckon_65 : decode cX10_reckon 65 = .ok (.baload, 1) := by decide +kernel
theorem dX10_reckon_66 : decode cX10_reckon 66 = .ok (.ifCond .eq 10, 3) := by decide +kernel
theorem dX10_reckon_69 : decode cX10_reckon 69 = .ok (.aload_n 0, 1) := by decide +kernel
theorem dX10_reckon_70 : decode cX10_reckon 70 = .ok (.getfield 26, 3) := by decide +kernel
theorem dX10_reckon_73 : decode cX10_reckon 73 = .ok (.goto 7, 3) := by decide +kernel
theorem dX10_reckon_76 : decode cX10_reckon 76 = .ok (.aload_n 0, 1) := by decide +kernel
theorem dX10_reckon_77 : decode cX10_reckon 77 = .ok (.getfield 30, 3) := by decide +kernel
theorem dX10_reckon_80 : decode cX10_reckon 80 = .ok (.imul, 1) := by decide +kernel
theorem dX10_reckon_81 : decode cX10_reckon 81 = .ok (.istore_n 3, 1) := by decide +kernel
theorem dX10_reckon_82 : decode cX10_reckon 82 = .ok (.aload_n 0, 1) := by decide +kernel
theorem dX10_reckon_83 : decode cX10_reckon 83 = .ok (.getfield 54, 3) := by decide +kernel
theorem dX10_reckon_86 : decode cX10_reckon 86 = .ok (.iload_n 2, 1) := by decide +kernel
theorem dX10_reckon_87 : decode cX10_reckon 87 = .ok (.aload_n 0, 1) := by decide +kernel
theorem dX10_reckon_88 : decode cX10_reckon 88 = .ok (.getfield 45, 3) := by decide +kernel
theorem dX10_reckon_91 : decode cX10_reckon 91 = .ok (.iload_n 1, 1) := by decide +kernel
theorem dX10_reckon_92 : decode cX10_reckon 92 = .ok (.iaload, 1) := by decide +kernel
theorem dX10_reckon_93 : decode cX10_reckon 93 = .ok (.aload_n 0, 1) := by decide +kernel
theorem dX10_reckon_94 : decode cX10_reckon 94 = .ok (.getfield 42, 3) := by decide +kernel
theorem dX10_reckon_97 : decode cX10_reckon 97 = .ok (.iload_n 1, 1) := by decide +kernel
theorem dX10_reckon_98 : decode cX10_reckon 98 = .ok (.iaload, 1) := by decide +kernel
theorem dX10_reckon_99 : decode cX10_reckon 99 = .ok (.iconst (-1), 1) := by decide +kernel
theorem dX10_reckon_100 : decode cX10_reckon 100 = .ok (.if_icmp .ne 7, 3) := by decide +kernel
theorem dX10_reckon_103 : decode cX10_reckon 103 = .ok (.iconst 0, 1) := by decide +kernel
theorem dX10_reckon_104 : decode cX10_reckon 104 = .ok (.goto 14, 3) := by decide +kernel
theorem dX10_reckon_107 : decode cX10_reckon 107 = .ok (.aload_n 0, 1) := by decide +kernel
theorem dX10_reckon_108 : decode cX10_reckon 108 = .ok (.getfield 57, 3) := by decide +kernel
theorem dX10_reckon_111 : decode cX10_reckon 111 = .ok (.aload_n 0, 1) := by decide +kernel
theorem dX10_reckon_112 : decode cX10_reckon 112 = .ok (.getfield 42, 3) := by decide +kernel
theorem dX10_reckon_115 : decode cX10_reckon 115 = .ok (.iload_n 1, 1) := by decide +kernel
theorem dX10_reckon_116 : decode cX10_reckon 116 = .ok (.iaload, 1) := by decide +kernel
theorem dX10_reckon_117 : decode cX10_reckon 117 = .ok (.iaload, 1) := by decide +kernel
theorem dX10_reckon_118 : decode cX10_reckon 118 = .ok (.iadd, 1) := by decide +kernel
theorem dX10_reckon_119 : decode cX10_reckon 119 = .ok (.iastore, 1) := by decide +kernel
theorem dX10_reckon_120 : decode cX10_reckon 120 = .ok (.aload_n 0, 1) := by decide +kernel
theorem dX10_reckon_121 : decode cX10_reckon 121 = .ok (.getfield 57, 3) := by decide +kernel
theorem dX10_reckon_124 : decode cX10_reckon 124 = .ok (.iload_n 2, 1) := by decide +kernel
theorem dX10_reckon_125 : decode cX10_reckon 125 = .ok (.aload_n 0, 1) := by decide +kernel
theorem dX10_reckon_126 : decode cX10_reckon 126 = .ok (.getfield 54, 3) := by decide +kernel
theorem dX10_reckon_129 : decode cX10_reckon 129 = .ok (.iload_n 2, 1) := by decide +kernel
theorem dX10_reckon_130 : decode cX10_reckon 130 = .ok (.iaload, 1) := by decide +kernel
theorem dX10_reckon_131 : decode cX10_reckon 131 = .ok (.aload_n 0, 1) := by decide +kernel
theorem dX10_reckon_132 : decode cX10_reckon 132 = .ok (.getfield 16, 3) := by decide +kernel
theorem dX10_reckon_135 : decode cX10_reckon 135 = .ok (.iload_n 2, 1) := by decide +kernel
theorem dX10_reckon_136 : decode cX10_reckon 136 = .ok (.iaload, 1) := by decide +kernel
theorem dX10_reckon_137 : decode cX10_reckon 137 = .ok (.iload_n 3, 1) := by decide +kernel
theorem dX10_reckon_138 : decode cX10_reckon 138 = .ok (.iadd, 1) := by decide +kernel
theorem dX10_reckon_139 : decode cX10_reckon 139 = .ok (.iconst 1, 1) := by decide +kernel
theorem dX10_reckon_140 : decode cX10_reckon 140 = .ok (.isub, 1) := by decide +kernel
theorem dX10_reckon_141 : decode cX10_reckon 141 = .ok (.iload_n 3, 1) := by decide +kernel
theorem dX10_reckon_142 : decode cX10_reckon 142 = .ok (.idiv, 1) := by decide +kernel
theorem dX10_reckon_143 : decode cX10_reckon 143 = .ok (.iadd, 1) := by decide +kernel
theorem dX10_reckon_144 : decode cX10_reckon 144 = .ok (.iastore, 1) := by decide +kernel
theorem dX10_reckon_145 : decode cX10_reckon 145 = .ok (.aload_n 0, 1) := by decide +kernel
theorem dX10_reckon_146 : decode cX10_reckon 146 = .ok (.getfield 60, 3) := by decide +kernel
theorem dX10_reckon_149 : decode cX10_reckon 149 = .ok (.iload_n 2, 1) := by decide +kernel
theorem dX10_reckon_150 : decode cX10_reckon 150 = .ok (.aload_n 0, 1) := by decide +kernel
theorem dX10_reckon_151 : decode cX10_reckon 151 = .ok (.getfield 48, 3) := by decide +kernel
theorem dX10_reckon_154 : decode cX10_reckon 154 = .ok (.iload_n 1, 1) := by decide +kernel
theorem dX10_reckon_155 : decode cX10_reckon 155 = .ok (.iaload, 1) := by decide +kernel
theorem dX10_reckon_156 : decode cX10_reckon 156 = .ok (.iastore, 1) := by decide +kernel
theorem dX10_reckon_157 : decode cX10_reckon 157 = .ok (.iinc 1 1, 3) := by decide +kernel
theorem dX10_reckon_160 : decode cX10_reckon 160 = .ok (.goto (-121), 3) := by decide +kernel
theorem dX10_reckon_163 : decode cX10_reckon 163 = .ok (.return_, 1) := by decide +kernel
theorem dX10_four_0 : decode cX10_four 0 = .ok (.bipush 24, 2) := by decide +kernel
theorem dX10_four_2 : decode cX10_four 2 = .ok (.istore_n 2, 1) := by decide +kernel
theorem dX10_four_3 : decode cX10_four 3 = .ok (.iload_n 2, 1) := by decide +kernel
theorem dX10_four_4 : decode cX10_four 4 = .ok (.ifCond .lt 35, 3) := by decide +kernel
theorem dX10_four_7 : decode cX10_four 7 = .ok (.aload_n 0, 1) := by decide +kernel
theorem dX10_four_8 : decode cX10_four 8 = .ok (.getfield 63, 3) := by decide +kernel
theorem dX10_four_11 : decode cX10_four 11 = .ok (.aload_n 0, 1) := by decide +kernel
theorem dX10_four_12 : decode cX10_four 12 = .ok (.getfield 160, 3) := by decide +kernel
theorem dX10_four_15 : decode cX10_four 15 = .ok (.iload_n 1, 1) := by decide +kernel
theorem dX10_four_16 : decode cX10_four 16 = .ok (.iload_n 2, 1) := by decide +kernel
theorem dX10_four_17 : decode cX10_four 17 = .ok (.ishr, 1) := by decide +kernel
theorem dX10_four_18 : decode cX10_four 18 = .ok (.sipush 255, 3) := by decide +kernel
theorem dX10_four_21 : decode cX10_four 21 = .ok (.iand, 1) := by decide +kernel
theorem dX10_four_22 : decode cX10_four 22 = .ok (.iastore, 1) := by decide +kernel
theorem dX10_four_23 : decode cX10_four 23 = .ok (.aload_n 0, 1) := by decide +kernel
theorem dX10_four_24 : decode cX10_four 24 = .ok (.dup, 1) := by decide +kernel
theorem dX10_four_25 : decode cX10_four 25 = .ok (.getfield 160, 3) := by decide +kernel
theorem dX10_four_28 : decode cX10_four 28 = .ok (.iconst 1, 1) := by decide +kernel
theorem dX10_four_29 : decode cX10_four 29 = .ok (.iadd, 1) := by decide +kernel
theorem dX10_four_30 : decode cX10_four 30 = .ok (.putfield 160, 3) := by decide +kernel
theorem dX10_four_33 : decode cX10_four 33 = .ok (.iinc 2 (-8), 3) := by decide +kernel
theorem dX10_four_36 : decode cX10_four 36 = .ok (.goto (-33), 3) := by decide +kernel
theorem dX10_four_39 : decode cX10_four 39 = .ok (.return_, 1) := by decide +kernel
set_option maxRecDepth 20000 in
theorem ggX10_feed_X10_four : GoodIn wsX10_feed wsX10_four := goodIn_r _ [7, 8, 2, 9, 10, 11, 12, 13, 14, 15, 16, 17, 18, 19, 20, 21, 22, 23, 24, 25, 26, 27, 28, 29, 30, 31, 32, 33, 34, 35, 36, 37, 38, 39, 40, 41, 42, 43, 44, 45, 46, 47, 48, 49, 50, 51, 52, 53, 54, 55, 56, 57, 58, 59] (by decide +kernel) (by decide +kernel)
set_option maxRecDepth 20000 in
theorem gX10_feed_X10_four : GoodIn wsX10_feed (wsV RX10 163 RX10 yX10_four wsX10_four) := goodIn_app (goodIn_of _ (by decide +kernel)) ggX10_feed_X10_four
theorem dX10_feed_0 : decode cX10_feed 0 = .ok (.aload_n 0, 1) := by decide +kernel
theorem dX10_feed_1 : decode cX10_feed 1 = .ok (.iconst 0, 1) := by decide +kernel
theorem dX10_feed_2 : decode cX10_feed 2 = .ok (.putfield 123, 3) := by decide +kernel
theorem dX10_feed_5 : decode cX10_feed 5 = .ok (.aload_n 0, 1) := by decide +kernel
theorem dX10_feed_6 : decode cX10_feed 6 = .ok (.getfield 160, 3) := by decide +kernel
theorem dX10_feed_9 : decode cX10_feed 9 = .ok (.bipush 20, 2) := by decide +kernel
theorem dX10_feed_11 : decode cX10_feed 11 = .ok (.iadd, 1) := by decide +kernel
theorem dX10_feed_12 : decode cX10_feed 12 = .ok (.sipush 400, 3) := by decide +kernel
theorem dX10_feed_15 : decode cX10_feed 15 = .ok (.if_icmp .le 5, 3) := by decide +kernel
theorem dX10_feed_18 : decode cX10_feed 18 = .ok (.iconst (-1), 1) := by decide +kernel
theorem dX10_feed_19 : decode cX10_feed 19 = .ok (.ireturn, 1) := by decide +kernel
theorem dX10_feed_20 : decode cX10_feed 20 = .ok (.aload_n 0, 1) := by decide +kernel
theorem dX10_feed_21 : decode cX10_feed 21 = .ok (.iload_n 1, 1) := by decide +kernel
theorem dX10_feed_22 : decode cX10_feed 22 = .ok (.invokevirtual 163, 3) := by decide +kernel
theorem dX10_feed_25 : decode cX10_feed 25 = .ok (.aload_n 0, 1) := by decide +kernel
theorem dX10_feed_26 : decode cX10_feed 26 = .ok (.iload_n 2, 1) := by decide +kernel
theorem dX10_feed_27 : decode cX10_feed 27 = .ok (.invokevirtual 163, 3) := by decide +kernel
theorem dX10_feed_30 : decode cX10_feed 30 = .ok (.aload_n 0, 1) := by decide +kernel
theorem dX10_feed_31 : decode cX10_feed 31 = .ok (.iload_n 3, 1) := by decide +kernel
theorem dX10_feed_32 : decode cX10_feed 32 = .ok (.invokevirtual 163, 3) := by decide +kernel
theorem dX10_feed_35 : decode cX10_feed 35 = .ok (.aload_n 0, 1) := by decide +kernel
theorem dX10_feed_36 : decode cX10_feed 36 = .ok (.iload 4, 2) := by decide +kernel
theorem dX10_feed_38 : decode cX10_feed 38 = .ok (.invokevirtual 163, 3) := by decide +kernel
theorem dX10_feed_41 : decode cX10_feed 41 = .ok (.aload_n 0, 1) := by decide +kernel
theorem dX10_feed_42 : decode cX10_feed 42 = .ok (.iload 5, 2) := by decide +kernel
theorem dX10_feed_44 : decode cX10_feed 44 = .ok (.invokevirtual 163, 3) := by decide +kernel
theorem dX10_feed_47 : decode cX10_feed 47 = .ok (.aload_n 0, 1) := by decide +kernel
theorem dX10_feed_48 : decode cX10_feed 48 = .ok (.getfield 160, 3) := by decide +kernel
theorem dX10_feed_51 : decode cX10_feed 51 = .ok (.ireturn, 1) := by decide +kernel
theorem dX10_end_0 : decode cX10_end 0 = .ok (.aload_n 0, 1) := by decide +kernel
theorem dX10_end_1 : decode cX10_end 1 = .ok (.iconst 0, 1) := by decide +kernel
theorem dX10_end_2 : decode cX10_end 2 = .ok (.putfield 123, 3) := by decide +kernel
theorem dX10_end_5 : decode cX10_end 5 = .ok (.iload_n 1, 1) := by decide +kernel
theorem dX10_end_6 : decode cX10_end 6 = .ok (.ifCond .lt 11, 3) := by decide +kernel
theorem dX10_end_9 : decode cX10_end 9 = .ok (.iload_n 1, 1) := by decide +kernel
theorem dX10_end_10 : decode cX10_end 10 = .ok (.aload_n 0, 1) := by decide +kernel
theorem dX10_end_11 : decode cX10_end 11 = .ok (.getfield 160, 3) := by decide +kernel
theorem dX10_end_14 : decode cX10_end 14 = .ok (.if_icmp .le 5, 3) := by decide +kernel
theorem dX10_end_17 : decode cX10_end 17 = .ok (.iconst (-1), 1) := by decide +kernel
theorem dX10_end_18 : decode cX10_end 18 = .ok (.ireturn, 1) := by decide +kernel
theorem dX10_end_19 : decode cX10_end 19 = .ok (.aload_n 0, 1) := by decide +kernel
theorem dX10_end_20 : decode cX10_end 20 = .ok (.iload_n 1, 1) := by decide +kernel
theorem dX10_end_21 : decode cX10_end 21 = .ok (.putfield 160, 3) := by decide +kernel
theorem dX10_end_24 : decode cX10_end 24 = .ok (.iload_n 1, 1) := by decide +kernel
theorem dX10_end_25 : decode cX10_end 25 = .ok (.ireturn, 1) := by decide +kernel
theorem dX10_isSmall_0 : decode cX10_isSmall 0 = .ok (.iload_n 0, 1) := by decide +kernel
theorem dX10_isSmall_1 : decode cX10_isSmall 1 = .ok (.bipush 97, 2) := by decide +kernel
theorem dX10_isSmall_3 : decode cX10_isSmall 3 = .ok (.if_icmp .lt 13, 3) := by decide +kernel
theorem dX10_isSmall_6 : decode cX10_isSmall 6 = .ok (.iload_n 0, 1) := by decide +kernel
theorem dX10_isSmall_7 : decode cX10_isSmall 7 = .ok (.bipush 122, 2) := by decide +kernel
theorem dX10_isSmall_9 : decode cX10_isSmall 9 = .ok (.if_icmp .gt 7, 3) := by decide +kernel
theorem dX10_isSmall_12 : decode cX10_isSmall 12 = .ok (.iconst 1, 1) := by decide +kernel
theorem dX10_isSmall_13 : decode cX10_isSmall 13 = .ok (.goto 4, 3) := by decide +kernel
theorem dX10_isSmall_16 : decode cX10_isSmall 16 = .ok (.iconst 0, 1) := by decide +kernel
theorem dX10_isSmall_17 : decode cX10_isSmall 17 = .ok (.ireturn, 1) := by decide +kernel
theorem dX10_isDigit_0 : decode cX10_isDigit 0 = .ok (.iload_n 0, 1) := by decide +kernel
theorem dX10_isDigit_1 : decode cX10_isDigit 1 = .ok (.bipush 48, 2) := by decide +kernel
theorem dX10_isDigit_3 : decode cX10_isDigit 3 = .ok (.if_icmp .lt 13, 3) := by decide +kernel
theorem dX10_isDigit_6 : decode cX10_isDigit 6 = .ok (.iload_n 0, 1) := by decide +kernel
theorem dX10_isDigit_7 : decode cX10_isDigit 7 = .ok (.bipush 57, 2) := by decide +kernel
theorem dX10_isDigit_9 : decode cX10_isDigit 9 = .ok (.if_icmp .gt 7, 3) := by decide +kernel
theorem dX10_isDigit_12 : decode cX10_isDigit 12 = .ok (.iconst 1, 1) := by decide +kernel
theorem dX10_isDigit_13 : decode cX10_isDigit 13 = .ok (.goto 4, 3) := by decide +kernel
theorem dX10_isDigit_16 : decode cX10_isDigit 16 = .ok (.iconst 0, 1) := by decide +kernel
theorem dX10_isDigit_17 : decode cX10_isDigit 17 = .ok (.ireturn, 1) := by decide +kernel
set_option maxRecDepth 20000 in
theorem ggX10_next_X10_isSmall : GoodIn wsX10_next wsX10_isSmall := goodIn_r _ [16] (by decide +kernel) (by decide +kernel)
set_option maxRecDepth 20000 in
theorem gX10_next_X10_isSmall : GoodIn wsX10_next (va_wsS RX10 177 yX10_isSmall wsX10_isSmall) := goodIn_app (goodIn_of _ (by decide +kernel)) ggX10_next_X10_isSmall
set_option maxRecDepth 20000 in
theorem ggX10_next_X10_isDigit : GoodIn wsX10_next wsX10_isDigit := goodIn_r _ [19] (by decide +kernel) (by decide +kernel)
set_option maxRecDepth 20000 in
theorem gX10_next_X10_isDigit : GoodIn wsX10_next (va_wsS RX10 180 yX10_isDigit wsX10_isDigit) := goodIn_app (goodIn_of _ (by decide +kernel)) ggX10_next_X10_isDigit
theorem dX10_next_0 : decode cX10_next 0 = .ok (.aload_n 0, 1) := by decide +kernel
theorem dX10_next_1 : decode cX10_next 1 = .ok (.aload_n 0, 1) := by decide +kernel
theorem dX10_next_2 : decode cX10_next 2 = .ok (.getfield 167, 3) := by decide +kernel
theorem dX10_next_5 : decode cX10_next 5 = .ok (.putfield 170, 3) := by decide +kernel
theorem dX10_next_8 : decode cX10_next 8 = .ok (.aload_n 0, 1) := by decide +kernel
theorem dX10_next_9 : decode cX10_next 9 = .ok (.getfield 170, 3) := by decide +kernel
theorem dX10_next_12 : decode cX10_next 12 = .ok (.aload_n 0, 1) := by decide +kernel
theorem dX10_next_13 : decode cX10_next 13 = .ok (.getfield 160, 3) := by decide +kernel
theorem dX10_next_16 : decode cX10_next 16 = .ok (.if_icmp .ge 30, 3) := by decide +kernel
theorem dX10_next_19 : decode cX10_next 19 = .ok (.aload_n 0, 1) := by decide +kernel
theorem dX10_next_20 : decode cX10_next 20 = .ok (.getfield 63, 3) := by decide +kernel
theorem dX10_next_23 : decode cX10_next 23 = .ok (.aload_n 0, 1) := by decide +kernel
theorem dX10_next_24 : decode cX10_next 24 = .ok (.getfield 170, 3) := by decide +kernel
theorem dX10_next_27 : decode cX10_next 27 = .ok (.iaload, 1) := by decide +kernel
theorem dX10_next_28 : decode cX10_next 28 = .ok (.bipush 32, 2) := by decide +kernel
theorem dX10_next_30 : decode cX10_next 30 = .ok (.if_icmp .ne 16, 3) := by decide +kernel
theorem dX10_next_33 : decode cX10_next 33 = .ok (.aload_n 0, 1) := by decide +kernel
theorem dX10_next_34 : decode cX10_next 34 = .ok (.dup, 1) := by decide +kernel
theorem dX10_next_35 : decode cX10_next 35 = .ok (.getfield 170, 3) := by decide +kernel
theorem dX10_next_38 : decode cX10_next 38 = .ok (.iconst 1, 1) := by decide +kernel
theorem dX10_next_39 : decode cX10_next 39 = .ok (.iadd, 1) := by decide +kernel
theorem dX10_next_40 : decode cX10_next 40 = .ok (.putfield 170, 3) := by decide +kernel
theorem dX10_next_43 : decode cX10_next 43 = .ok (.goto (-35), 3) := by decide +kernel
theorem dX10_next_46 : decode cX10_next 46 = .ok (.aload_n 0, 1) := by decide +kernel
theorem dX10_next_47 : decode cX10_next 47 = .ok (.aload_n 0, 1) := by decide +kernel
theorem dX10_next_48 : decode cX10_next 48 = .ok (.getfield 170, 3) := by decide +kernel
theorem dX10_next_51 : decode cX10_next 51 = .ok (.putfield 167, 3) := by decide +kernel
theorem dX10_next_54 : decode cX10_next 54 = .ok (.aload_n 0, 1) := by decide +kernel
theorem dX10_next_55 : decode cX10_next 55 = .ok (.lconst 0, 1) := by decide +kernel
theorem dX10_next_56 : decode cX10_next 56 = .ok (.putfield 173, 3) := by decide +kernel
theorem dX10_next_59 : decode cX10_next 59 = .ok (.aload_n 0, 1) := by decide +kernel
theorem dX10_next_60 : decode cX10_next 60 = .ok (.aload_n 0, 1) := by decide +kernel
theorem dX10_next_61 : decode cX10_next 61 = .ok (.getfield 170, 3) := by decide +kernel
theorem dX10_next_64 : decode cX10_next 64 = .ok (.aload_n 0, 1) := by decide +kernel
theorem dX10_next_65 : decode cX10_next 65 = .ok (.getfield 160, 3) := by decide +kernel
theorem dX10_next_68 : decode cX10_next 68 = .ok (.if_icmp .ne 7, 3) := by decide +kernel
theorem dX10_next_71 : decode cX10_next 71 = .ok (.iconst 0, 1) := by decide +kernel
theorem dX10_next_72 : decode cX10_next 72 = .ok (.goto 42, 3) := by decide +kernel
theorem dX10_next_75 : decode cX10_next 75 = .ok (.aload_n 0, 1) := by decide +kernel
theorem dX10_next_76 : decode cX10_next 76 = .ok (.getfield 63, 3) := by decide +kernel
theorem dX10_next_79 : decode cX10_next 79 = .ok (.aload_n 0, 1) := by decide +kernel
theorem dX10_next_80 : decode cX10_next 80 = .ok (.getfield 170, 3) := by decide +kernel
theorem dX10_next_83 : decode cX10_next 83 = .ok (.iaload, 1) := by decide +kernel
theorem dX10_next_84 : decode cX10_next 84 = .ok (.invokestatic 177, 3) := by decide +kernel
theorem dX10_next_87 : decode cX10_next 87 = .ok (.ifCond .eq 7, 3) := by decide +kernel
theorem dX10_next_90 : decode cX10_next 90 = .ok (.iconst 1, 1) := by decide +kernel
theorem dX10_next_91 : decode cX10_next 91 = .ok (.goto 23, 3) := by decide +kernel
theorem dX10_next_94 : decode cX10_next 94 = .ok (.aload_n 0, 1) := by decide +kernel
theorem dX10_next_95 : decode cX10_next 95 = .ok (.getfield 63, 3) := by decide +kernel
theorem dX10_next_98 : decode cX10_next 98 = .ok (.aload_n 0, 1) := by decide +kernel
theorem dX10_next_99 : decode cX10_next 99 = .ok (.getfield 170, 3) := by decide +kernel
theorem dX10_next_102 : decode cX10_next 102 = .ok (.iaload, 1) := by decide +kernel
theorem dX10_next_103 : decode cX10_next 103 = .ok (.invokestatic 180, 3) := by decide +kernel
theorem dX10_next_106 : decode cX10_next 106 = .ok (.ifCond .eq 7, 3) := by decide +kernel
theorem dX10_next_109 : decode cX10_next 109 = .ok (.iconst 2, 1) := by decide +kernel
theorem dX10_next_110 : decode cX10_next 110 = .ok (.goto 4, 3) := by decide +kernel
theorem dX10_next_113 : decode cX10_next 113 = .ok (.iconst 3, 1) := by decide +kernel
theorem dX10_next_114 : decode cX10_next 114 = .ok (.putfield 183, 3) := by decide +kernel
theorem dX10_next_117 : decode cX10_next 117 = .ok (.aload_n 0, 1) := by decide +kernel
theorem dX10_next_118 : decode cX10_next 118 = .ok (.getfield 183, 3) := by decide +kernel
theorem dX10_next_121 : decode cX10_next 121 = .ok (.iconst 3, 1) := by decide +kernel
theorem dX10_next_122 : decode cX10_next 122 = .ok (.if_icmp .ne 27, 3) := by decide +kernel
theorem dX10_next_125 : decode cX10_next 125 = .ok (.aload_n 0, 1) := by decide +kernel
theorem dX10_next_126 : decode cX10_next 126 = .ok (.aload_n 0, 1) := by decide +kernel
theorem dX10_next_127 : decode cX10_next 127 = .ok (.getfield 63, 3) := by decide +kernel
theorem dX10_next_130 : decode cX10_next 130 = .ok (.aload_n 0, 1) := by decide +kernel
theorem dX10_next_131 : decode cX10_next 131 = .ok (.getfield 170, 3) := by decide +kernel
theorem dX10_next_134 : decode cX10_next 134 = .ok (.iaload, 1) := by decide +kernel
theorem dX10_next_135 : decode cX10_next 135 = .ok (.i2l, 1) := by decide +kernel
theorem dX10_next_136 : decode cX10_next 136 = .ok (.putfield 173, 3) := by decide +kernel
theorem dX10_next_139 : decode cX10_next 139 = .ok (.aload_n 0, 1) := by decide +kernel
theorem dX10_next_140 : decode cX10_next 140 = .ok (.dup, 1) := by decide +kernel
theorem dX10_next_141 : decode cX10_next 141 = .ok (.getfield 167, 3) := by decide +kernel
theorem dX10_next_144 : decode cX10_next 144 = .ok (.iconst 1, 1) := by decide +kernel
theorem dX10_next_145 : decode cX10_next 145 = .ok (.iadd, 1) := by decide +kernel
theorem dX10_next_146 : decode cX10_next 146 = .ok (.putfield 167, 3) := by decide +kernel
theorem dX10_next_149 : decode cX10_next 149 = .ok (.aload_n 0, 1) := by decide +kernel
theorem dX10_next_150 : decode cX10_next 150 = .ok (.getfield 183, 3) := by decide +kernel
theorem dX10_next_153 : decode cX10_next 153 = .ok (.iconst 1, 1) := by decide +kernel
theorem dX10_next_154 : decode cX10_next 154 = .ok (.if_icmp .ne 89, 3) := by decide +kernel
theorem dX10_next_157 : decode cX10_next 157 = .ok (.aload_n 0, 1) := by decide +kernel
theorem dX10_next_158 : decode cX10_next 158 = .ok (.getfield 167, 3) := by decide +kernel
theorem dX10_next_161 : decode cX10_next 161 = .ok (.aload_n 0, 1) := by decide +kernel
theorem dX10_next_162 : decode cX10_next 162 = .ok (.getfield 160, 3) := by decide +kernel
theorem dX10_next_165 : decode cX10_next 165 = .ok (.if_icmp .ge 78, 3) := by decide +kernel
theorem dX10_next_168 : decode cX10_next 168 = .ok (.aload_n 0, 1) := by decide +kernel
theorem dX10_next_169 : decode cX10_next 169 = .ok (.getfield 63, 3) := by decide +kernel
theorem dX10_next_172 : decode cX10_next 172 = .ok (.aload_n 0, 1) := by decide +kernel
theorem dX10_next_173 : decode cX10_next 173 = .ok (.getfield 167, 3) := by decide +kernel
theorem dX10_next_176 : decode cX10_next 176 = .ok (.iaload, 1) := by decide +kernel
theorem dX10_next_177 : decode cX10_next 177 = .ok (.invokestatic 177, 3) := by decide +kernel
theorem dX10_next_180 : decode cX10_next 180 = .ok (.ifCond .eq 63, 3) := by decide +kernel
theorem dX10_next_183 : decode cX10_next 183 = .ok (.aload_n 0, 1) := by decide +kernel
theorem dX10_next_184 : decode cX10_next 184 = .ok (.aload_n 0, 1) := by decide +kernel
theorem dX10_next_185 : decode cX10_next 185 = .ok (.getfield 167, 3) := by decide +kernel
theorem dX10_next_188 : decode cX10_next 188 = .ok (.aload_n 0, 1) := by decide +kernel
theorem dX10_next_189 : decode cX10_next 189 = .ok (.getfield 170, 3) := by decide +kernel
theorem dX10_next_192 : decode cX10_next 192 = .ok (.isub, 1) := by decide +kernel
theorem dX10_next_193 : decode cX10_next 193 = .ok (.bipush 6, 2) := by decide +kernel
theorem dX10_next_195 : decode cX10_next 195 = .ok (.if_icmp .ge 29, 3) := by decide +kernel
theorem dX10_next_198 : decode cX10_next 198 = .ok (.aload_n 0, 1) := by decide +kernel
theorem dX10_next_199 : decode cX10_next 199 = .ok (.getfield 173, 3) := by decide +kernel
theorem dX10_next_202 : decode cX10_next 202 = .ok (.ldc2_w 186, 3) := by decide +kernel
theorem dX10_next_205 : decode cX10_next 205 = .ok (.lmul, 1) := by decide +kernel
theorem dX10_next_206 : decode cX10_next 206 = .ok (.aload_n 0, 1) := by decide +kernel
theorem dX10_next_207 : decode cX10_next 207 = .ok (.getfield 63, 3) := by decide +kernel
theorem dX10_next_210 : decode cX10_next 210 = .ok (.aload_n 0, 1) := by decide +kernel
theorem dX10_next_211 : decode cX10_next 211 = .ok (.getfield 167, 3) := by decide +kernel
theorem dX10_next_214 : decode cX10_next 214 = .ok (.iaload, 1) := by decide +kernel
theorem dX10_next_215 : decode cX10_next 215 = .ok (.i2l, 1) := by decide +kernel
theorem dX10_next_216 : decode cX10_next 216 = .ok (.ladd, 1) := by decide +kernel
theorem dX10_next_217 : decode cX10_next 217 = .ok (.ldc2_w 188, 3) := by decide +kernel
theorem dX10_next_220 : decode cX10_next 220 = .ok (.lsub, 1) := by decide +kernel
theorem dX10_next_221 : decode cX10_next 221 = .ok (.goto 6, 3) := by decide +kernel
theorem dX10_next_224 : decode cX10_next 224 = .ok (.ldc2_w 190, 3) := by decide +kernel
theorem dX10_next_227 : decode cX10_next 227 = .ok (.putfield 173, 3) := by decide +kernel
theorem dX10_next_230 : decode cX10_next 230 = .ok (.aload_n 0, 1) := by decide +kernel
theorem dX10_next_231 : decode cX10_next 231 = .ok (.dup, 1) := by decide +kernel
theorem dX10_next_232 : decode cX10_next 232 = .ok (.getfield 167, 3) := by decide +kernel
theorem dX10_next_235 : decode cX10_next 235 = .ok (.iconst 1, 1) := by decide +kernel
theorem dX10_next_236 : decode cX10_next 236 = .ok (.iadd, 1) := by decide +kernel
theorem dX10_next_237 : decode cX10_next 237 = .ok (.putfield 167, 3) := by decide +kernel
theorem dX10_next_240 : decode cX10_next 240 = .ok (.goto (-91), 3) := by decide +kernel
theorem dX10_next_243 : decode cX10_next 243 = .ok (.aload_n 0, 1) := by decide +kernel
theorem dX10_next_244 : decode cX10_next 244 = .ok (.getfield 183, 3) := by decide +kernel
theorem dX10_next_247 : decode cX10_next 247 = .ok (.iconst 2, 1) := by decide +kernel
theorem dX10_next_248 : decode cX10_next 248 = .ok (.if_icmp .ne 87, 3) := by decide +kernel
theorem dX10_next_251 : decode cX10_next 251 = .ok (.aload_n 0, 1) := by decide +kernel
theorem dX10_next_252 : decode cX10_next 252 = .ok (.getfield 167, 3) := by decide +kernel
theorem dX10_next_255 : decode cX10_next 255 = .ok (.aload_n 0, 1) := by decide +kernel
theorem dX10_next_256 : decode cX10_next 256 = .ok (.getfield 160, 3) := by decide +kernel
theorem dX10_next_259 : decode cX10_next 259 = .ok (.if_icmp .ge 76, 3) := by decide +kernel
theorem dX10_next_262 : decode cX10_next 262 = .ok (.aload_n 0, 1) := by decide +kernel
theorem dX10_next_263 : decode cX10_next 263 = .ok (.getfield 63, 3) := by decide +kernel
theorem dX10_next_266 : decode cX10_next 266 = .ok (.aload_n 0, 1) := by decide +kernel
theorem dX10_next_267 : decode cX10_next 267 = .ok (.getfield 167, 3) := by decide +kernel
theorem dX10_next_270 : decode cX10_next 270 = .ok (.iaload, 1) := by decide +kernel
theorem dX10_next_271 : decode cX10_next 271 = .ok (.invokestatic 180, 3) := by decide +kernel
theorem dX10_next_274 : decode cX10_next 274 = .ok (.ifCond .eq 61, 3) := by decide +kernel
theorem dX10_next_277 : decode cX10_next 277 = .ok (.aload_n 0, 1) := by decide +kernel
theorem dX10_next_278 : decode cX10_next 278 = .ok (.aload_n 0, 1) := by decide +kernel
theorem dX10_next_279 : decode cX10_next 279 = .ok (.getfield 173, 3) := by decide +kernel
theorem dX10_next_282 : decode cX10_next 282 = .ok (.ldc2_w 192, 3) := by decide +kernel
theorem dX10_next_285 : decode cX10_next 285 = .ok (.lcmp, 1) := by decide +kernel
theorem dX10_next_286 : decode cX10_next 286 = .ok (.ifCond .le 10, 3) := by decide +kernel
theorem dX10_next_289 : decode cX10_next 289 = .ok (.aload_n 0, 1) := by decide +kernel
theorem dX10_next_290 : decode cX10_next 290 = .ok (.getfield 173, 3) := by decide +kernel
theorem dX10_next_293 : decode cX10_next 293 = .ok (.goto 26, 3) := by decide +kernel
theorem dX10_next_296 : decode cX10_next 296 = .ok (.aload_n 0, 1) := by decide +kernel
theorem dX10_next_297 : decode cX10_next 297 = .ok (.getfield 173, 3) := by decide +kernel
theorem dX10_next_300 : decode cX10_next 300 = .ok (.ldc2_w 194, 3) := by decide +kernel
theorem dX10_next_303 : decode cX10_next 303 = .ok (.lmul, 1) := by decide +kernel
theorem dX10_next_304 : decode cX10_next 304 = .ok (.aload_n 0, 1) := by decide +kernel
theorem dX10_next_305 : decode cX10_next 305 = .ok (.getfield 63, 3) := by decide +kernel
theorem dX10_next_308 : decode cX10_next 308 = .ok (.aload_n 0, 1) := by decide +kernel
theorem dX10_next_309 : decode cX10_next 309 = .ok (.getfield 167, 3) := by decide +kernel
theorem dX10_next_312 : decode cX10_next 312 = .ok (.iaload, 1) := by decide +kernel
theorem dX10_next_313 : decode cX10_next 313 = .ok (.i2l, 1) := by decide +kernel
theorem dX10_next_314 : decode cX10_next 314 = .ok (.ladd, 1) := by decide +kernel
theorem dX10_next_315 : decode cX10_next 315 = .ok (.ldc2_w 196, 3) := by decide +kernel
theorem dX10_next_318 : decode cX10_next 318 = .ok (.lsub, 1) := by decide +kernel
theorem dX10_next_319 : decode cX10_next 319 = .ok (.putfield 173, 3) := by decide +kernel
theorem dX10_next_322 : decode cX10_next 322 = .ok (.aload_n 0, 1) := by decide +kernel
theorem dX10_next_323 : decode cX10_next 323 = .ok (.dup, 1) := by decide +kernel
theorem dX10_next_324 : decode cX10_next 324 = .ok (.getfield 167, 3) := by decide +kernel
theorem dX10_next_327 : decode cX10_next 327 = .ok (.iconst 1, 1) := by decide +kernel
theorem dX10_next_328 : decode cX10_next 328 = .ok (.iadd, 1) := by decide +kernel
theorem dX10_next_329 : decode cX10_next 329 = .ok (.putfield 167, 3) := by decide +kernel
theorem dX10_next_332 : decode cX10_next 332 = .ok (.goto (-89), 3) := by decide +kernel
theorem dX10_next_335 : decode cX10_next 335 = .ok (.return_, 1) := by decide +kernel
theorem dX10_isWord_0 : decode cX10_isWord 0 = .ok (.iload_n 1, 1) := by decide +kernel
theorem dX10_isWord_1 : decode cX10_isWord 1 = .ok (.i2l, 1) := by decide +kernel
theorem dX10_isWord_2 : decode cX10_isWord 2 = .ok (.ldc2_w 188, 3) := by decide +kernel
theorem dX10_isWord_5 : decode cX10_isWord 5 = .ok (.lsub, 1) := by decide +kernel
theorem dX10_isWord_6 : decode cX10_isWord 6 = .ok (.ldc2_w 186, 3) := by decide +kernel
theorem dX10_isWord_9 : decode cX10_isWord 9 = .ok (.lmul, 1) := by decide +kernel
theorem dX10_isWord_10 : decode cX10_isWord 10 = .ok (.iload_n 2, 1) := by decide +kernel
theorem dX10_isWord_11 : decode cX10_isWord 11 = .ok (.i2l, 1) := by decide +kernel
theorem dX10_isWord_12 : decode cX10_isWord 12 = .ok (.ladd, 1) := by decide +kernel
theorem dX10_isWord_13 : decode cX10_isWord 13 = .ok (.ldc2_w 188, 3) := by decide +kernel
theorem dX10_isWord_16 : decode cX10_isWord 16 = .ok (.lsub, 1) := by decide +kernel
theorem dX10_isWord_17 : decode cX10_isWord 17 = .ok (.lstore 6, 2) := by decide +kernel
theorem dX10_isWord_19 : decode cX10_isWord 19 = .ok (.iload_n 3, 1) := by decide +kernel
theorem dX10_isWord_20 : decode cX10_isWord 20 = .ok (.ifCond .ne 8, 3) := by decide +kernel
theorem dX10_isWord_23 : decode cX10_isWord 23 = .ok (.lload 6, 2) := by decide +kernel
theorem dX10_isWord_25 : decode cX10_isWord 25 = .ok (.goto 16, 3) := by decide +kernel
theorem dX10_isWord_28 : decode cX10_isWord 28 = .ok (.lload 6, 2) := by decide +kernel
theorem dX10_isWord_30 : decode cX10_isWord 30 = .ok (.ldc2_w 186, 3) := by decide +kernel
theorem dX10_isWord_33 : decode cX10_isWord 33 = .ok (.lmul, 1) := by decide +kernel
theorem dX10_isWord_34 : decode cX10_isWord 34 = .ok (.iload_n 3, 1) := by decide +kernel
theorem dX10_isWord_35 : decode cX10_isWord 35 = .ok (.i2l, 1) := by decide +kernel
theorem dX10_isWord_36 : decode cX10_isWord 36 = .ok (.ladd, 1) := by decide +kernel
theorem dX10_isWord_37 : decode cX10_isWord 37 = .ok (.ldc2_w 188, 3) := by decide +kernel
theorem dX10_isWord_40 : decode cX10_isWord 40 = .ok (.lsub, 1) := by decide +kernel
theorem dX10_isWord_41 : decode cX10_isWord 41 = .ok (.lstore 6, 2) := by decide +kernel
theorem dX10_isWord_43 : decode cX10_isWord 43 = .ok (.iload 4, 2) := by decide +kernel
theorem dX10_isWord_45 : decode cX10_isWord 45 = .ok (.ifCond .ne 8, 3) := by decide +kernel
theorem dX10_isWord_48 : decode cX10_isWord 48 = .ok (.lload 6, 2) := by decide +kernel
theorem dX10_isWord_50 : decode cX10_isWord 50 = .ok (.goto 17, 3) := by decide +kernel
theorem dX10_isWord_53 : decode cX10_isWord 53 = .ok (.lload 6, 2) := by decide +kernel
theorem dX10_isWord_55 : decode cX10_isWord 55 = .ok (.ldc2_w 186, 3) := by decide +kernel
theorem dX10_isWord_58 : decode cX10_isWord 58 = .ok (.lmul, 1) := by decide +kernel
theorem dX10_isWord_59 : decode cX10_isWord 59 = .ok (.iload 4, 2) := by decide +kernel
theorem dX10_isWord_61 : decode cX10_isWord 61 = .ok (.i2l, 1) := by decide +kernel
theorem dX10_isWord_62 : decode cX10_isWord 62 = .ok (.ladd, 1) := by decide +kernel
theorem dX10_isWord_63 : decode cX10_isWord 63 = .ok (.ldc2_w 188, 3) := by decide +kernel
theorem dX10_isWord_66 : decode cX10_isWord 66 = .ok (.lsub, 1) := by decide +kernel
theorem dX10_isWord_67 : decode cX10_isWord 67 = .ok (.lstore 6, 2) := by decide +kernel
theorem dX10_isWord_69 : decode cX10_isWord 69 = .ok (.iload 5, 2) := by decide +kernel
theorem dX10_isWord_71 : decode cX10_isWord 71 = .ok (.ifCond .ne 8, 3) := by decide +kernel
theorem dX10_isWord_74 : decode cX10_isWord 74 = .ok (.lload 6, 2) := by decide +kernel
theorem dX10_isWord_76 : decode cX10_isWord 76 = .ok (.goto 17, 3) := by decide +kernel
theorem dX10_isWord_79 : decode cX10_isWord 79 = .ok (.lload 6, 2) := by decide +kernel
theorem dX10_isWord_81 : decode cX10_isWord 81 = .ok (.ldc2_w 186, 3) := by decide +kernel
theorem dX10_isWord_84 : decode cX10_isWord 84 = .ok (.lmul, 1) := by decide +kernel
theorem dX10_isWord_85 : decode cX10_isWord 85 = .ok (.iload 5, 2) := by decide +kernel
theorem dX10_isWord_87 : decode cX10_isWord 87 = .ok (.i2l, 1) := by decide +kernel
theorem dX10_isWord_88 : decode cX10_isWord 88 = .ok (.ladd, 1) := by decide +kernel
theorem dX10_isWord_89 : decode cX10_isWord 89 = .ok (.ldc2_w 188, 3) := by decide +kernel
theorem dX10_isWord_92 : decode cX10_isWord 92 = .ok (.lsub, 1) := by decide +kernel
theorem dX10_isWord_93 : decode cX10_isWord 93 = .ok (.lstore 6, 2) := by decide +kernel
theorem dX10_isWord_95 : decode cX10_isWord 95 = .ok (.aload_n 0, 1) := by decide +kernel
theorem dX10_isWord_96 : decode cX10_isWord 96 = .ok (.getfield 183, 3) := by decide +kernel
theorem dX10_isWord_99 : decode cX10_isWord 99 = .ok (.iconst 1, 1) := by decide +kernel
theorem dX10_isWord_100 : decode cX10_isWord 100 = .ok (.if_icmp .ne 17, 3) := by decide +kernel
theorem dX10_isWord_103 : decode cX10_isWord 103 = .ok (.aload_n 0, 1) := by decide +kernel
theorem dX10_isWord_104 : decode cX10_isWord 104 = .ok (.getfield 173, 3) := by decide +kernel
theorem dX10_isWord_107 : decode cX10_isWord 107 = .ok (.lload 6, 2) := by decide +kernel
theorem dX10_isWord_109 : decode cX10_isWord 109 = .ok (.lcmp, 1) := by decide +kernel
theorem dX10_isWord_110 : decode cX10_isWord 110 = .ok (.ifCond .ne 7, 3) := by decide +kernel
theorem dX10_isWord_113 : decode cX10_isWord 113 = .ok (.iconst 1, 1) := by decide +kernel
theorem dX10_isWord_114 : decode cX10_isWord 114 = .ok (.goto 4, 3) := by decide +kernel
theorem dX10_isWord_117 : decode cX10_isWord 117 = .ok (.iconst 0, 1) := by decide +kernel
theorem dX10_isWord_118 : decode cX10_isWord 118 = .ok (.ireturn, 1) := by decide +kernel
set_option maxRecDepth 20000 in
theorem ggX10_must_X10_next : GoodIn wsX10_must wsX10_next := goodIn_r _ [8, 9, 2, 10, 11, 12, 13, 14, 15, 16, 17, 18, 19, 20, 21, 7, 22, 23, 24, 25, 26, 27, 28, 29, 30, 31, 32, 33, 34, 35, 36, 37, 38, 39, 40, 41, 42, 43, 44, 45, 46, 47, 48, 49, 50, 51, 52, 53, 54, 55, 56, 57, 58, 59, 60, 61, 62, 63, 64, 65, 66, 67, 68, 69, 70, 71, 72, 73, 74, 75, 76] (by decide +kernel) (by decide +kernel)
set_option maxRecDepth 20000 in
theorem gX10_must_X10_next : GoodIn wsX10_must (wsV RX10 202 RX10 yX10_next wsX10_next) := goodIn_app (goodIn_of _ (by decide +kernel)) ggX10_must_X10_next
theorem dX10_must_0 : decode cX10_must 0 = .ok (.aload_n 0, 1) := by decide +kernel
theorem dX10_must_1 : decode cX10_must 1 = .ok (.getfield 198, 3) := by decide +kernel
theorem dX10_must_4 : decode cX10_must 4 = .ok (.ifCond .ne 20, 3) := by decide +kernel
theorem dX10_must_7 : decode cX10_must 7 = .ok (.iload_n 1, 1) := by decide +kernel
theorem dX10_must_8 : decode cX10_must 8 = .ok (.ifCond .ne 16, 3) := by decide +kernel
theorem dX10_must_11 : decode cX10_must 11 = .ok (.aload_n 0, 1) := by decide +kernel
theorem dX10_must_12 : decode cX10_must 12 = .ok (.iconst 1, 1) := by decide +kernel
theorem dX10_must_13 : decode cX10_must 13 = .ok (.putfield 198, 3) := by decide +kernel
theorem dX10_must_16 : decode cX10_must 16 = .ok (.aload_n 0, 1) := by decide +kernel
theorem dX10_must_17 : decode cX10_must 17 = .ok (.aload_n 0, 1) := by decide +kernel
theorem dX10_must_18 : decode cX10_must 18 = .ok (.getfield 170, 3) := by decide +kernel
theorem dX10_must_21 : decode cX10_must 21 = .ok (.putfield 66, 3) := by decide +kernel
theorem dX10_must_24 : decode cX10_must 24 = .ok (.aload_n 0, 1) := by decide +kernel
theorem dX10_must_25 : decode cX10_must 25 = .ok (.getfield 198, 3) := by decide +kernel
theorem dX10_must_28 : decode cX10_must 28 = .ok (.ifCond .ne 7, 3) := by decide +kernel
theorem dX10_must_31 : decode cX10_must 31 = .ok (.aload_n 0, 1) := by decide +kernel
theorem dX10_must_32 : decode cX10_must 32 = .ok (.invokevirtual 202, 3) := by decide +kernel
theorem dX10_must_35 : decode cX10_must 35 = .ok (.return_, 1) := by decide +kernel
set_option maxRecDepth 20000 in
theorem ggX10_number_X10_in : GoodIn wsX10_number wsX10_in := goodIn_r _ [6] (by decide +kernel) (by decide +kernel)
set_option maxRecDepth 20000 in
theorem gX10_number_X10_in : GoodIn wsX10_number (va_wsS RX10 131 yX10_in wsX10_in) := goodIn_app (goodIn_of _ (by decide +kernel)) ggX10_number_X10_in
set_option maxRecDepth 20000 in
theorem ggX10_number_X10_must : GoodIn wsX10_number wsX10_must := goodIn_r _ [10, 11, 12, 13, 14, 15, 16, 5, 17, 18, 19, 20, 1, 2, 21, 22, 23, 24, 25, 26, 27, 28, 29, 30, 31, 32, 33, 34, 35, 36, 37, 38, 39, 40, 41, 42, 43, 44, 45, 46, 47, 48, 49, 50, 51, 52, 53, 54, 55, 56, 57, 58, 59, 60, 61, 62, 63, 64, 65, 66, 67, 68, 69, 70, 71, 72, 73, 74, 75, 76, 77, 78, 79, 80, 81, 82, 83] (by decide +kernel) (by decide +kernel)
set_option maxRecDepth 20000 in
theorem gX10_number_X10_must : GoodIn wsX10_number (wsV RX10 205 RX10 yX10_must wsX10_must) := goodIn_app (goodIn_of _ (by decide +kernel)) ggX10_number_X10_must
theorem dX10_number_0 : decode cX10_number 0 = .ok (.aload_n 0, 1) := by decide +kernel
theorem dX10_number_1 : decode cX10_number 1 = .ok (.getfield 173, 3) := by decide +kernel
theorem dX10_number_4 : decode cX10_number 4 = .ok (.l2i, 1) := by decide +kernel
theorem dX10_number_5 : decode cX10_number 5 = .ok (.istore 5, 2) := by decide +kernel
theorem dX10_number_7 : decode cX10_number 7 = .ok (.aload_n 0, 1) := by decide +kernel
theorem dX10_number_8 : decode cX10_number 8 = .ok (.aload_n 0, 1) := by decide +kernel
theorem dX10_number_9 : decode cX10_number 9 = .ok (.getfield 183, 3) := by decide +kernel
theorem dX10_number_12 : decode cX10_number 12 = .ok (.iconst 2, 1) := by decide +kernel
theorem dX10_number_13 : decode cX10_number 13 = .ok (.if_icmp .ne 19, 3) := by decide +kernel
theorem dX10_number_16 : decode cX10_number 16 = .ok (.aload_n 0, 1) := by decide +kernel
theorem dX10_number_17 : decode cX10_number 17 = .ok (.getfield 173, 3) := by decide +kernel
theorem dX10_number_20 : decode cX10_number 20 = .ok (.lload_n 1, 1) := by decide +kernel
theorem dX10_number_21 : decode cX10_number 21 = .ok (.lload_n 3, 1) := by decide +kernel
theorem dX10_number_22 : decode cX10_number 22 = .ok (.invokestatic 131, 3) := by decide +kernel
theorem dX10_number_25 : decode cX10_number 25 = .ok (.ifCond .eq 7, 3) := by decide +kernel
theorem dX10_number_28 : decode cX10_number 28 = .ok (.iconst 1, 1) := by decide +kernel
theorem dX10_number_29 : decode cX10_number 29 = .ok (.goto 4, 3) := by decide +kernel
theorem dX10_number_32 : decode cX10_number 32 = .ok (.iconst 0, 1) := by decide +kernel
theorem dX10_number_33 : decode cX10_number 33 = .ok (.invokevirtual 205, 3) := by decide +kernel
theorem dX10_number_36 : decode cX10_number 36 = .ok (.iload 5, 2) := by decide +kernel
theorem dX10_number_38 : decode cX10_number 38 = .ok (.ireturn, 1) := by decide +kernel
theorem dX10_hasOrder_0 : decode cX10_hasOrder 0 = .ok (.iconst 0, 1) := by decide +kernel
theorem dX10_hasOrder_1 : decode cX10_hasOrder 1 = .ok (.istore_n 3, 1) := by decide +kernel
theorem dX10_hasOrder_2 : decode cX10_hasOrder 2 = .ok (.iconst 0, 1) := by decide +kernel
theorem dX10_hasOrder_3 : decode cX10_hasOrder 3 = .ok (.istore 4, 2) := by decide +kernel
theorem dX10_hasOrder_5 : decode cX10_hasOrder 5 = .ok (.iload 4, 2) := by decide +kernel
theorem dX10_hasOrder_7 : decode cX10_hasOrder 7 = .ok (.aload_n 0, 1) := by decide +kernel
theorem dX10_hasOrder_8 : decode cX10_hasOrder 8 = .ok (.getfield 209, 3) := by decide +kernel
theorem dX10_hasOrder_11 : decode cX10_hasOrder 11 = .ok (.if_icmp .ge 34, 3) := by decide +kernel
theorem dX10_hasOrder_14 : decode cX10_hasOrder 14 = .ok (.iload_n 3, 1) := by decide +kernel
theorem dX10_hasOrder_15 : decode cX10_hasOrder 15 = .ok (.ifCond .ne 18, 3) := by decide +kernel
theorem dX10_hasOrder_18 : decode cX10_hasOrder 18 = .ok (.aload_n 0, 1) := by decide +kernel
theorem dX10_hasOrder_19 : decode cX10_hasOrder 19 = .ok (.getfield 51, 3) := by decide +kernel
theorem dX10_hasOrder_22 : decode cX10_hasOrder 22 = .ok (.iconst 4, 1) := by decide +kernel
theorem dX10_hasOrder_23 : decode cX10_hasOrder 23 = .ok (.iload 4, 2) := by decide +kernel
theorem dX10_hasOrder_25 : decode cX10_hasOrder 25 = .ok (.imul, 1) := by decide +kernel
theorem dX10_hasOrder_26 : decode cX10_hasOrder 26 = .ok (.iaload, 1) := by decide +kernel
theorem dX10_hasOrder_27 : decode cX10_hasOrder 27 = .ok (.i2l, 1) := by decide +kernel
theorem dX10_hasOrder_28 : decode cX10_hasOrder 28 = .ok (.lload_n 1, 1) := by decide +kernel
theorem dX10_hasOrder_29 : decode cX10_hasOrder 29 = .ok (.lcmp, 1) := by decide +kernel
theorem dX10_hasOrder_30 : decode cX10_hasOrder 30 = .ok (.ifCond .ne 7, 3) := by decide +kernel
theorem dX10_hasOrder_33 : decode cX10_hasOrder 33 = .ok (.iconst 1, 1) := by decide +kernel
theorem dX10_hasOrder_34 : decode cX10_hasOrder 34 = .ok (.goto 4, 3) := by decide +kernel
theorem dX10_hasOrder_37 : decode cX10_hasOrder 37 = .ok (.iconst 0, 1) := by decide +kernel
theorem dX10_hasOrder_38 : decode cX10_hasOrder 38 = .ok (.istore_n 3, 1) := by decide +kernel
theorem dX10_hasOrder_39 : decode cX10_hasOrder 39 = .ok (.iinc 4 1, 3) := by decide +kernel
theorem dX10_hasOrder_42 : decode cX10_hasOrder 42 = .ok (.goto (-37), 3) := by decide +kernel
theorem dX10_hasOrder_45 : decode cX10_hasOrder 45 = .ok (.iload_n 3, 1) := by decide +kernel
theorem dX10_hasOrder_46 : decode cX10_hasOrder 46 = .ok (.ireturn, 1) := by decide +kernel
set_option maxRecDepth 20000 in
theorem ggX10_readOrder_X10_isWord : GoodIn wsX10_readOrder wsX10_isWord := goodIn_r _ [13, 14, 15, 2, 1, 50, 51, 52, 53, 54, 55, 56, 57, 58, 59, 60, 61, 62, 63, 64, 65, 66, 67, 68, 69, 70, 71, 72, 73, 74, 75, 76, 77, 78, 79, 80, 81, 82, 83, 84, 85, 86, 87, 88, 89, 90, 91, 92, 93, 94, 95, 96, 97, 98, 99, 100] (by decide +kernel) (by decide +kernel)
set_option maxRecDepth 20000 in
theorem gX10_readOrder_X10_isWord : GoodIn wsX10_readOrder (wsV RX10 212 RX10 yX10_isWord wsX10_isWord) := goodIn_app (goodIn_of _ (by decide +kernel)) ggX10_readOrder_X10_isWord
set_option maxRecDepth 20000 in
theorem ggX10_readOrder_X10_must : GoodIn wsX10_readOrder wsX10_must := goodIn_r _ [19, 5, 20, 21, 22, 23, 24, 12, 25, 26, 27, 28, 1, 2, 15, 14, 29, 30, 31, 32, 33, 34, 35, 36, 37, 38, 50, 51, 52, 53, 54, 55, 56, 57, 58, 59, 60, 61, 62, 63, 64, 65, 66, 67, 68, 69, 70, 71, 72, 73, 74, 75, 76, 77, 78, 79, 80, 81, 82, 83, 84, 85, 86, 87, 88, 89, 90, 91, 92, 93, 94, 95, 96, 97, 98, 99, 100] (by decide +kernel) (by decide +kernel)
set_option maxRecDepth 20000 in
theorem gX10_readOrder_X10_must : GoodIn wsX10_readOrder (wsV RX10 205 RX10 yX10_must wsX10_must) := goodIn_app (goodIn_of _ (by decide +kernel)) ggX10_readOrder_X10_must
set_option maxRecDepth 20000 in
theorem ggX10_readOrder_X10_hasOrder : GoodIn wsX10_readOrder wsX10_hasOrder := goodIn_r _ [42, 8, 7, 50, 51, 52, 53, 54, 55, 56, 57, 58, 59, 60, 61, 62, 63, 64, 65, 66, 67, 68, 69, 70, 71, 72, 73, 74, 75, 76, 77, 78, 79, 80, 81, 82, 83, 84, 85, 86, 87, 88, 89, 90, 91, 92, 93, 94, 95, 96, 97, 98, 99, 100] (by decide +kernel) (by decide +kernel)
set_option maxRecDepth 20000 in
theorem gX10_readOrder_X10_hasOrder : GoodIn wsX10_readOrder (wsV RX10 216 RX10 yX10_hasOrder wsX10_hasOrder) := goodIn_app (goodIn_of _ (by decide +kernel)) ggX10_readOrder_X10_hasOrder
set_option maxRecDepth 20000 in
theorem ggX10_readOrder_X10_number : GoodIn wsX10_readOrder wsX10_number := goodIn_r _ [46, 1, 2, 47, 48, 12, 49, 16, 17, 18, 19, 5, 20, 21, 22, 23, 24, 25, 26, 27, 28, 15, 14, 29, 30, 31, 32, 33, 34, 35, 36, 37, 38, 50, 51, 52, 53, 54, 55, 56, 57, 58, 59, 60, 61, 62, 63, 64, 65, 66, 67, 68, 69, 70, 71, 72, 73, 74, 75, 76, 77, 78, 79, 80, 81, 82, 83, 84, 85, 86, 87, 88, 89, 90, 91, 92, 93, 94, 95, 96, 97, 98, 99, 100] (by decide +kernel) (by decide +kernel)
set_option maxRecDepth 20000 in
theorem gX10_readOrder_X10_number : GoodIn wsX10_readOrder (wsV RX10 222 RX10 yX10_number wsX10_number) := goodIn_app (goodIn_of _ (by decide +kernel)) ggX10_readOrder_X10_number
set_option maxRecDepth 20000 in
theorem ggX10_readOrder_X10_next : GoodIn wsX10_readOrder wsX10_next := goodIn_r _ [25, 26, 20, 27, 28, 1, 2, 15, 14, 29, 30, 31, 32, 33, 34, 12, 35, 36, 37, 38, 50, 51, 52, 53, 54, 55, 56, 57, 58, 59, 60, 61, 62, 63, 64, 65, 66, 67, 68, 69, 70, 71, 72, 73, 74, 75, 76, 77, 78, 79, 80, 81, 82, 83, 84, 85, 86, 87, 88, 89, 90, 91, 92, 93, 94, 95, 96, 97, 98, 99, 100] (by decide +kernel) (by decide +kernel)
set_option maxRecDepth 20000 in
theorem gX10_readOrder_X10_next : GoodIn wsX10_readOrder (wsV RX10 202 RX10 yX10_next wsX10_next) := goodIn_app (goodIn_of _ (by decide +kernel)) ggX10_readOrder_X10_next
theorem dX10_readOrder_0 : decode cX10_readOrder 0 = .ok (.aload_n 0, 1) := by decide +kernel
theorem dX10_readOrder_1 : decode cX10_readOrder 1 = .ok (.aload_n 0, 1) := by decide +kernel
theorem dX10_readOrder_2 : decode cX10_readOrder 2 = .ok (.bipush 108, 2) := by decide +kernel
theorem dX10_readOrder_4 : decode cX10_readOrder 4 = .ok (.bipush 105, 2) := by decide +kernel
theorem dX10_readOrder_6 : decode cX10_readOrder 6 = .ok (.bipush 110, 2) := by decide +kernel
theorem dX10_readOrder_8 : decode cX10_readOrder 8 = .ok (.bipush 101, 2) := by decide +kernel
theorem dX10_readOrder_10 : decode cX10_readOrder 10 = .ok (.iconst 0, 1) := by decide +kernel
theorem dX10_readOrder_11 : decode cX10_readOrder 11 = .ok (.invokevirtual 212, 3) := by decide +kernel
theorem dX10_readOrder_14 : decode cX10_readOrder 14 = .ok (.invokevirtual 205, 3) := by decide +kernel
theorem dX10_readOrder_17 : decode cX10_readOrder 17 = .ok (.aload_n 0, 1) := by decide +kernel
theorem dX10_readOrder_18 : decode cX10_readOrder 18 = .ok (.getfield 173, 3) := by decide +kernel
theorem dX10_readOrder_21 : decode cX10_readOrder 21 = .ok (.l2i, 1) := by decide +kernel
theorem dX10_readOrder_22 : decode cX10_readOrder 22 = .ok (.istore_n 1, 1) := by decide +kernel
theorem dX10_readOrder_23 : decode cX10_readOrder 23 = .ok (.aload_n 0, 1) := by decide +kernel
theorem dX10_readOrder_24 : decode cX10_readOrder 24 = .ok (.aload_n 0, 1) := by decide +kernel
theorem dX10_readOrder_25 : decode cX10_readOrder 25 = .ok (.getfield 183, 3) := by decide +kernel
theorem dX10_readOrder_28 : decode cX10_readOrder 28 = .ok (.iconst 2, 1) := by decide +kernel
theorem dX10_readOrder_29 : decode cX10_readOrder 29 = .ok (.if_icmp .ne 31, 3) := by decide +kernel
theorem dX10_readOrder_32 : decode cX10_readOrder 32 = .ok (.aload_n 0, 1) := by decide +kernel
theorem dX10_readOrder_33 : decode cX10_readOrder 33 = .ok (.getfield 173, 3) := by decide +kernel
theorem dX10_readOrder_36 : decode cX10_readOrder 36 = .ok (.aload_n 0, 1) := by decide +kernel
theorem dX10_readOrder_37 : decode cX10_readOrder 37 = .ok (.getfield 137, 3) := by decide +kernel
theorem dX10_readOrder_40 : decode cX10_readOrder 40 = .ok (.i2l, 1) := by decide +kernel
theorem dX10_readOrder_41 : decode cX10_readOrder 41 = .ok (.lcmp, 1) := by decide +kernel
theorem dX10_readOrder_42 : decode cX10_readOrder 42 = .ok (.ifCond .ge 18, 3) := by decide +kernel
theorem dX10_readOrder_45 : decode cX10_readOrder 45 = .ok (.aload_n 0, 1) := by decide +kernel
theorem dX10_readOrder_46 : decode cX10_readOrder 46 = .ok (.aload_n 0, 1) := by decide +kernel
theorem dX10_readOrder_47 : decode cX10_readOrder 47 = .ok (.getfield 173, 3) := by decide +kernel
theorem dX10_readOrder_50 : decode cX10_readOrder 50 = .ok (.invokevirtual 216, 3) := by decide +kernel
theorem dX10_readOrder_53 : decode cX10_readOrder 53 = .ok (.ifCond .ne 7, 3) := by decide +kernel
theorem dX10_readOrder_56 : decode cX10_readOrder 56 = .ok (.iconst 1, 1) := by decide +kernel
theorem dX10_readOrder_57 : decode cX10_readOrder 57 = .ok (.goto 4, 3) := by decide +kernel
theorem dX10_readOrder_60 : decode cX10_readOrder 60 = .ok (.iconst 0, 1) := by decide +kernel
theorem dX10_readOrder_61 : decode cX10_readOrder 61 = .ok (.invokevirtual 205, 3) := by decide +kernel
theorem dX10_readOrder_64 : decode cX10_readOrder 64 = .ok (.aload_n 0, 1) := by decide +kernel
theorem dX10_readOrder_65 : decode cX10_readOrder 65 = .ok (.bipush 97, 2) := by decide +kernel
theorem dX10_readOrder_67 : decode cX10_readOrder 67 = .ok (.bipush 116, 2) := by decide +kernel
theorem dX10_readOrder_69 : decode cX10_readOrder 69 = .ok (.iconst 0, 1) := by decide +kernel
theorem dX10_readOrder_70 : decode cX10_readOrder 70 = .ok (.iconst 0, 1) := by decide +kernel
theorem dX10_readOrder_71 : decode cX10_readOrder 71 = .ok (.iconst 0, 1) := by decide +kernel
theorem dX10_readOrder_72 : decode cX10_readOrder 72 = .ok (.invokevirtual 212, 3) := by decide +kernel
theorem dX10_readOrder_75 : decode cX10_readOrder 75 = .ok (.istore_n 2, 1) := by decide +kernel
theorem dX10_readOrder_76 : decode cX10_readOrder 76 = .ok (.aload_n 0, 1) := by decide +kernel
theorem dX10_readOrder_77 : decode cX10_readOrder 77 = .ok (.iload_n 2, 1) := by decide +kernel
theorem dX10_readOrder_78 : decode cX10_readOrder 78 = .ok (.ifCond .ne 20, 3) := by decide +kernel
theorem dX10_readOrder_81 : decode cX10_readOrder 81 = .ok (.aload_n 0, 1) := by decide +kernel
theorem dX10_readOrder_82 : decode cX10_readOrder 82 = .ok (.bipush 97, 2) := by decide +kernel
theorem dX10_readOrder_84 : decode cX10_readOrder 84 = .ok (.bipush 102, 2) := by decide +kernel
theorem dX10_readOrder_86 : decode cX10_readOrder 86 = .ok (.bipush 116, 2) := by decide +kernel
theorem dX10_readOrder_88 : decode cX10_readOrder 88 = .ok (.bipush 101, 2) := by decide +kernel
theorem dX10_readOrder_90 : decode cX10_readOrder 90 = .ok (.bipush 114, 2) := by decide +kernel
theorem dX10_readOrder_92 : decode cX10_readOrder 92 = .ok (.invokevirtual 212, 3) := by decide +kernel
theorem dX10_readOrder_95 : decode cX10_readOrder 95 = .ok (.ifCond .eq 7, 3) := by decide +kernel
theorem dX10_readOrder_98 : decode cX10_readOrder 98 = .ok (.iconst 1, 1) := by decide +kernel
theorem dX10_readOrder_99 : decode cX10_readOrder 99 = .ok (.goto 4, 3) := by decide +kernel
theorem dX10_readOrder_102 : decode cX10_readOrder 102 = .ok (.iconst 0, 1) := by decide +kernel
theorem dX10_readOrder_103 : decode cX10_readOrder 103 = .ok (.invokevirtual 205, 3) := by decide +kernel
theorem dX10_readOrder_106 : decode cX10_readOrder 106 = .ok (.iconst (-1), 1) := by decide +kernel
theorem dX10_readOrder_107 : decode cX10_readOrder 107 = .ok (.istore_n 3, 1) := by decide +kernel
theorem dX10_readOrder_108 : decode cX10_readOrder 108 = .ok (.iconst 0, 1) := by decide +kernel
theorem dX10_readOrder_109 : decode cX10_readOrder 109 = .ok (.istore 4, 2) := by decide +kernel
theorem dX10_readOrder_111 : decode cX10_readOrder 111 = .ok (.iload_n 2, 1) := by decide +kernel
theorem dX10_readOrder_112 : decode cX10_readOrder 112 = .ok (.ifCond .eq 16, 3) := by decide +kernel
theorem dX10_readOrder_115 : decode cX10_readOrder 115 = .ok (.aload_n 0, 1) := by decide +kernel
theorem dX10_readOrder_116 : decode cX10_readOrder 116 = .ok (.lconst 0, 1) := by decide +kernel
theorem dX10_readOrder_117 : decode cX10_readOrder 117 = .ok (.ldc2_w 220, 3) := by decide +kernel
theorem dX10_readOrder_120 : decode cX10_readOrder 120 = .ok (.invokevirtual 222, 3) := by decide +kernel
theorem dX10_readOrder_123 : decode cX10_readOrder 123 = .ok (.istore 4, 2) := by decide +kernel
theorem dX10_readOrder_125 : decode cX10_readOrder 125 = .ok (.goto 86, 3) := by decide +kernel
theorem dX10_readOrder_128 : decode cX10_readOrder 128 = .ok (.aload_n 0, 1) := by decide +kernel
theorem dX10_readOrder_129 : decode cX10_readOrder 129 = .ok (.getfield 173, 3) := by decide +kernel
theorem dX10_readOrder_132 : decode cX10_readOrder 132 = .ok (.l2i, 1) := by decide +kernel
theorem dX10_readOrder_133 : decode cX10_readOrder 133 = .ok (.istore_n 3, 1) := by decide +kernel
theorem dX10_readOrder_134 : decode cX10_readOrder 134 = .ok (.aload_n 0, 1) := by decide +kernel
theorem dX10_readOrder_135 : decode cX10_readOrder 135 = .ok (.aload_n 0, 1) := by decide +kernel
theorem dX10_readOrder_136 : decode cX10_readOrder 136 = .ok (.getfield 183, 3) := by decide +kernel
theorem dX10_readOrder_139 : decode cX10_readOrder 139 = .ok (.iconst 2, 1) := by decide +kernel
theorem dX10_readOrder_140 : decode cX10_readOrder 140 = .ok (.if_icmp .ne 31, 3) := by decide +kernel
theorem dX10_readOrder_143 : decode cX10_readOrder 143 = .ok (.aload_n 0, 1) := by decide +kernel
theorem dX10_readOrder_144 : decode cX10_readOrder 144 = .ok (.getfield 173, 3) := by decide +kernel
theorem dX10_readOrder_147 : decode cX10_readOrder 147 = .ok (.aload_n 0, 1) := by decide +kernel
theorem dX10_readOrder_148 : decode cX10_readOrder 148 = .ok (.getfield 137, 3) := by decide +kernel
theorem dX10_readOrder_151 : decode cX10_readOrder 151 = .ok (.i2l, 1) := by decide +kernel
theorem dX10_readOrder_152 : decode cX10_readOrder 152 = .ok (.lcmp, 1) := by decide +kernel
theorem dX10_readOrder_153 : decode cX10_readOrder 153 = .ok (.ifCond .ge 18, 3) := by decide +kernel
theorem dX10_readOrder_156 : decode cX10_readOrder 156 = .ok (.aload_n 0, 1) := by decide +kernel
theorem dX10_readOrder_157 : decode cX10_readOrder 157 = .ok (.aload_n 0, 1) := by decide +kernel
theorem dX10_readOrder_158 : decode cX10_readOrder 158 = .ok (.getfield 173, 3) := by decide +kernel
theorem dX10_readOrder_161 : decode cX10_readOrder 161 = .ok (.invokevirtual 216, 3) := by decide +kernel
theorem dX10_readOrder_164 : decode cX10_readOrder 164 = .ok (.ifCond .eq 7, 3) := by decide +kernel
theorem dX10_readOrder_167 : decode cX10_readOrder 167 = .ok (.iconst 1, 1) := by decide +kernel
theorem dX10_readOrder_168 : decode cX10_readOrder 168 = .ok (.goto 4, 3) := by decide +kernel
theorem dX10_readOrder_171 : decode cX10_readOrder 171 = .ok (.iconst 0, 1) := by decide +kernel
theorem dX10_readOrder_172 : decode cX10_readOrder 172 = .ok (.invokevirtual 205, 3) := by decide +kernel
theorem dX10_readOrder_175 : decode cX10_readOrder 175 = .ok (.aload_n 0, 1) := by decide +kernel
theorem dX10_readOrder_176 : decode cX10_readOrder 176 = .ok (.getfield 198, 3) := by decide +kernel
theorem dX10_readOrder_179 : decode cX10_readOrder 179 = .ok (.ifCond .ne 32, 3) := by decide +kernel
theorem dX10_readOrder_182 : decode cX10_readOrder 182 = .ok (.aload_n 0, 1) := by decide +kernel
theorem dX10_readOrder_183 : decode cX10_readOrder 183 = .ok (.bipush 97, 2) := by decide +kernel
theorem dX10_readOrder_185 : decode cX10_readOrder 185 = .ok (.bipush 110, 2) := by decide +kernel
theorem dX10_readOrder_187 : decode cX10_readOrder 187 = .ok (.bipush 100, 2) := by decide +kernel
theorem dX10_readOrder_189 : decode cX10_readOrder 189 = .ok (.iconst 0, 1) := by decide +kernel
theorem dX10_readOrder_190 : decode cX10_readOrder 190 = .ok (.iconst 0, 1) := by decide +kernel
theorem dX10_readOrder_191 : decode cX10_readOrder 191 = .ok (.invokevirtual 212, 3) := by decide +kernel
theorem dX10_readOrder_194 : decode cX10_readOrder 194 = .ok (.ifCond .eq 17, 3) := by decide +kernel
theorem dX10_readOrder_197 : decode cX10_readOrder 197 = .ok (.aload_n 0, 1) := by decide +kernel
theorem dX10_readOrder_198 : decode cX10_readOrder 198 = .ok (.invokevirtual 202, 3) := by decide +kernel
theorem dX10_readOrder_201 : decode cX10_readOrder 201 = .ok (.aload_n 0, 1) := by decide +kernel
theorem dX10_readOrder_202 : decode cX10_readOrder 202 = .ok (.lconst 0, 1) := by decide +kernel
theorem dX10_readOrder_203 : decode cX10_readOrder 203 = .ok (.ldc2_w 154, 3) := by decide +kernel
theorem dX10_readOrder_206 : decode cX10_readOrder 206 = .ok (.invokevirtual 222, 3) := by decide +kernel
theorem dX10_readOrder_209 : decode cX10_readOrder 209 = .ok (.istore 4, 2) := by decide +kernel
theorem dX10_readOrder_211 : decode cX10_readOrder 211 = .ok (.aload_n 0, 1) := by decide +kernel
theorem dX10_readOrder_212 : decode cX10_readOrder 212 = .ok (.aload_n 0, 1) := by decide +kernel
theorem dX10_readOrder_213 : decode cX10_readOrder 213 = .ok (.bipush 119, 2) := by decide +kernel
theorem dX10_readOrder_215 : decode cX10_readOrder 215 = .ok (.bipush 105, 2) := by decide +kernel
theorem dX10_readOrder_217 : decode cX10_readOrder 217 = .ok (.bipush 116, 2) := by decide +kernel
theorem dX10_readOrder_219 : decode cX10_readOrder 219 = .ok (.bipush 104, 2) := by decide +kernel
theorem dX10_readOrder_221 : decode cX10_readOrder 221 = .ok (.iconst 0, 1) := by decide +kernel
theorem dX10_readOrder_222 : decode cX10_readOrder 222 = .ok (.invokevirtual 212, 3) := by decide +kernel
theorem dX10_readOrder_225 : decode cX10_readOrder 225 = .ok (.invokevirtual 205, 3) := by decide +kernel
theorem dX10_readOrder_228 : decode cX10_readOrder 228 = .ok (.aload_n 0, 1) := by decide +kernel
theorem dX10_readOrder_229 : decode cX10_readOrder 229 = .ok (.lconst 1, 1) := by decide +kernel
theorem dX10_readOrder_230 : decode cX10_readOrder 230 = .ok (.ldc2_w 154, 3) := by decide +kernel
theorem dX10_readOrder_233 : decode cX10_readOrder 233 = .ok (.invokevirtual 222, 3) := by decide +kernel
theorem dX10_readOrder_236 : decode cX10_readOrder 236 = .ok (.istore 5, 2) := by decide +kernel
theorem dX10_readOrder_238 : decode cX10_readOrder 238 = .ok (.aload_n 0, 1) := by decide +kernel
theorem dX10_readOrder_239 : decode cX10_readOrder 239 = .ok (.getfield 198, 3) := by decide +kernel
theorem dX10_readOrder_242 : decode cX10_readOrder 242 = .ok (.ifCond .eq 4, 3) := by decide +kernel
theorem dX10_readOrder_245 : decode cX10_readOrder 245 = .ok (.return_, 1) := by decide +kernel
theorem dX10_readOrder_246 : decode cX10_readOrder 246 = .ok (.aload_n 0, 1) := by decide +kernel
theorem dX10_readOrder_247 : decode cX10_readOrder 247 = .ok (.getfield 51, 3) := by decide +kernel
theorem dX10_readOrder_250 : decode cX10_readOrder 250 = .ok (.iconst 4, 1) := by decide +kernel
theorem dX10_readOrder_251 : decode cX10_readOrder 251 = .ok (.aload_n 0, 1) := by decide +kernel
theorem dX10_readOrder_252 : decode cX10_readOrder 252 = .ok (.getfield 209, 3) := by decide +kernel
theorem dX10_readOrder_255 : decode cX10_readOrder 255 = .ok (.imul, 1) := by decide +kernel
theorem dX10_readOrder_256 : decode cX10_readOrder 256 = .ok (.iload_n 1, 1) := by decide +kernel
theorem dX10_readOrder_257 : decode cX10_readOrder 257 = .ok (.iastore, 1) := by decide +kernel
theorem dX10_readOrder_258 : decode cX10_readOrder 258 = .ok (.aload_n 0, 1) := by decide +kernel
theorem dX10_readOrder_259 : decode cX10_readOrder 259 = .ok (.getfield 51, 3) := by decide +kernel
theorem dX10_readOrder_262 : decode cX10_readOrder 262 = .ok (.iconst 4, 1) := by decide +kernel
theorem dX10_readOrder_263 : decode cX10_readOrder 263 = .ok (.aload_n 0, 1) := by decide +kernel
theorem dX10_readOrder_264 : decode cX10_readOrder 264 = .ok (.getfield 209, 3) := by decide +kernel
theorem dX10_readOrder_267 : decode cX10_readOrder 267 = .ok (.imul, 1) := by decide +kernel
theorem dX10_readOrder_268 : decode cX10_readOrder 268 = .ok (.iconst 1, 1) := by decide +kernel
theorem dX10_readOrder_269 : decode cX10_readOrder 269 = .ok (.iadd, 1) := by decide +kernel
theorem dX10_readOrder_270 : decode cX10_readOrder 270 = .ok (.iload_n 3, 1) := by decide +kernel
theorem dX10_readOrder_271 : decode cX10_readOrder 271 = .ok (.iastore, 1) := by decide +kernel
theorem dX10_readOrder_272 : decode cX10_readOrder 272 = .ok (.aload_n 0, 1) := by decide +kernel
theorem dX10_readOrder_273 : decode cX10_readOrder 273 = .ok (.getfield 51, 3) := by decide +kernel
theorem dX10_readOrder_276 : decode cX10_readOrder 276 = .ok (.iconst 4, 1) := by decide +kernel
theorem dX10_readOrder_277 : decode cX10_readOrder 277 = .ok (.aload_n 0, 1) := by decide +kernel
theorem dX10_readOrder_278 : decode cX10_readOrder 278 = .ok (.getfield 209, 3) := by decide +kernel
theorem dX10_readOrder_281 : decode cX10_readOrder 281 = .ok (.imul, 1) := by decide +kernel
theorem dX10_readOrder_282 : decode cX10_readOrder 282 = .ok (.iconst 2, 1) := by decide +kernel
theorem dX10_readOrder_283 : decode cX10_readOrder 283 = .ok (.iadd, 1) := by decide +kernel
theorem dX10_readOrder_284 : decode cX10_readOrder 284 = .ok (.iload 4, 2) := by decide +kernel
theorem dX10_readOrder_286 : decode cX10_readOrder 286 = .ok (.iastore, 1) := by decide +kernel
theorem dX10_readOrder_287 : decode cX10_readOrder 287 = .ok (.aload_n 0, 1) := by decide +kernel
theorem dX10_readOrder_288 : decode cX10_readOrder 288 = .ok (.getfield 51, 3) := by decide +kernel
theorem dX10_readOrder_291 : decode cX10_readOrder 291 = .ok (.iconst 4, 1) := by decide +kernel
theorem dX10_readOrder_292 : decode cX10_readOrder 292 = .ok (.aload_n 0, 1) := by decide +kernel
theorem dX10_readOrder_293 : decode cX10_readOrder 293 = .ok (.getfield 209, 3) := by decide +kernel
theorem dX10_readOrder_296 : decode cX10_readOrder 296 = .ok (.imul, 1) := by decide +kernel
theorem dX10_readOrder_297 : decode cX10_readOrder 297 = .ok (.iconst 3, 1) := by decide +kernel
theorem dX10_readOrder_298 : decode cX10_readOrder 298 = .ok (.iadd, 1) := by decide +kernel
theorem dX10_readOrder_299 : decode cX10_readOrder 299 = .ok (.iload 5, 2) := by decide +kernel
theorem dX10_readOrder_301 : decode cX10_readOrder 301 = .ok (.iastore, 1) := by decide +kernel
theorem dX10_readOrder_302 : decode cX10_readOrder 302 = .ok (.aload_n 0, 1) := by decide +kernel
theorem dX10_readOrder_303 : decode cX10_readOrder 303 = .ok (.dup, 1) := by decide +kernel
theorem dX10_readOrder_304 : decode cX10_readOrder 304 = .ok (.getfield 209, 3) := by decide +kernel
theorem dX10_readOrder_307 : decode cX10_readOrder 307 = .ok (.iconst 1, 1) := by decide +kernel
theorem dX10_readOrder_308 : decode cX10_readOrder 308 = .ok (.iadd, 1) := by decide +kernel
theorem dX10_readOrder_309 : decode cX10_readOrder 309 = .ok (.putfield 209, 3) := by decide +kernel
theorem dX10_readOrder_312 : decode cX10_readOrder 312 = .ok (.return_, 1) := by decide +kernel
set_option maxRecDepth 20000 in
theorem ggX10_orders_X10_next : GoodIn wsX10_orders wsX10_next := goodIn_r _ [20, 2, 21, 9, 22, 7, 6, 23, 24, 25, 26, 27, 28, 29, 30, 19, 31, 32, 33, 34, 66, 67, 68, 69, 70, 71, 72, 73, 74, 75, 76, 77, 78, 79, 80, 81, 82, 83, 84, 85, 86, 87, 88, 89, 90, 91, 92, 93, 94, 95, 96, 97, 98, 99, 100, 101, 102, 103, 104, 105, 106, 107, 108, 109, 110, 111, 112, 113, 114, 115, 116] (by decide +kernel) (by decide +kernel)
set_option maxRecDepth 20000 in
theorem gX10_orders_X10_next : GoodIn wsX10_orders (wsV RX10 202 RX10 yX10_next wsX10_next) := goodIn_app (goodIn_of _ (by decide +kernel)) ggX10_orders_X10_next
set_option maxRecDepth 20000 in
theorem ggX10_orders_X10_readOrder : GoodIn wsX10_orders wsX10_readOrder := goodIn_r _ [38, 7, 6, 39, 40, 3, 41, 12, 5, 42, 43, 44, 19, 45, 24, 23, 46, 47, 48, 49, 21, 4, 16, 17, 18, 20, 2, 9, 22, 25, 26, 27, 28, 29, 30, 31, 32, 33, 34, 50, 51, 52, 53, 54, 55, 56, 57, 58, 59, 60, 66, 67, 68, 69, 70, 71, 72, 73, 74, 75, 76, 77, 78, 79, 80, 81, 82, 83, 84, 85, 86, 87, 88, 89, 90, 91, 92, 93, 94, 95, 96, 97, 98, 99, 100, 101, 102, 103, 104, 105, 106, 107, 108, 109, 110, 111, 112, 113, 114, 115, 116] (by decide +kernel) (by decide +kernel)
set_option maxRecDepth 20000 in
theorem gX10_orders_X10_readOrder : GoodIn wsX10_orders (wsV RX10 226 RX10 yX10_readOrder wsX10_readOrder) := goodIn_app (goodIn_of _ (by decide +kernel)) ggX10_orders_X10_readOrder
set_option maxRecDepth 20000 in
theorem ggX10_orders_X10_must : GoodIn wsX10_orders wsX10_must := goodIn_r _ [49, 3, 21, 4, 16, 17, 18, 19, 20, 2, 9, 22, 7, 6, 23, 24, 25, 26, 27, 28, 29, 30, 31, 32, 33, 34, 66, 67, 68, 69, 70, 71, 72, 73, 74, 75, 76, 77, 78, 79, 80, 81, 82, 83, 84, 85, 86, 87, 88, 89, 90, 91, 92, 93, 94, 95, 96, 97, 98, 99, 100, 101, 102, 103, 104, 105, 106, 107, 108, 109, 110, 111, 112, 113, 114, 115, 116] (by decide +kernel) (by decide +kernel)
set_option maxRecDepth 20000 in
theorem gX10_orders_X10_must : GoodIn wsX10_orders (wsV RX10 205 RX10 yX10_must wsX10_must) := goodIn_app (goodIn_of _ (by decide +kernel)) ggX10_orders_X10_must
set_option maxRecDepth 20000 in
theorem ggX10_orders_X10_told : GoodIn wsX10_orders wsX10_told := goodIn_r _ [64, 65, 66, 67, 68, 69, 70, 71, 72, 73, 74, 75, 76, 77, 78, 79, 80, 81, 82, 83, 84, 85, 86, 87, 88, 89, 90, 91, 92, 93, 94, 95, 96, 97, 98, 99, 100, 101, 102, 103, 104, 105, 106, 107, 108, 109, 110, 111, 112, 113, 114, 115, 116] (by decide +kernel) (by decide +kernel)
set_option maxRecDepth 20000 in
theorem gX10_orders_X10_told : GoodIn wsX10_orders (wsV RX10 148 RX10 yX10_told wsX10_told) := goodIn_app (goodIn_of _ (by decide +kernel)) ggX10_orders_X10_told
theorem dX10_orders_0 : decode cX10_orders 0 = .ok (.aload_n 0, 1) := by decide +kernel
theorem dX10_orders_1 : decode cX10_orders 1 = .ok (.iconst 0, 1) := by decide +kernel
theorem dX10_orders_2 : decode cX10_orders 2 = .ok (.putfield 123, 3) := by decide +kernel
theorem dX10_orders_5 : decode cX10_orders 5 = .ok (.aload_n 0, 1) := by decide +kernel
theorem dX10_orders_6 : decode cX10_orders 6 = .ok (.iconst 0, 1) := by decide +kernel
theorem dX10_orders_7 : decode cX10_orders 7 = .ok (.putfield 167, 3) := by decide +kernel
theorem dX10_orders_10 : decode cX10_orders 10 = .ok (.aload_n 0, 1) := by decide +kernel
theorem dX10_orders_11 : decode cX10_orders 11 = .ok (.iconst 0, 1) := by decide +kernel
theorem dX10_orders_12 : decode cX10_orders 12 = .ok (.putfield 198, 3) := by decide +kernel
theorem dX10_orders_15 : decode cX10_orders 15 = .ok (.aload_n 0, 1) := by decide +kernel
theorem dX10_orders_16 : decode cX10_orders 16 = .ok (.iconst (-1), 1) := by decide +kernel
theorem dX10_orders_17 : decode cX10_orders 17 = .ok (.putfield 66, 3) := by decide +kernel
theorem dX10_orders_20 : decode cX10_orders 20 = .ok (.aload_n 0, 1) := by decide +kernel
theorem dX10_orders_21 : decode cX10_orders 21 = .ok (.iconst 0, 1) := by decide +kernel
theorem dX10_orders_22 : decode cX10_orders 22 = .ok (.putfield 209, 3) := by decide +kernel
theorem dX10_orders_25 : decode cX10_orders 25 = .ok (.aload_n 0, 1) := by decide +kernel
theorem dX10_orders_26 : decode cX10_orders 26 = .ok (.invokevirtual 202, 3) := by decide +kernel
theorem dX10_orders_29 : decode cX10_orders 29 = .ok (.aload_n 0, 1) := by decide +kernel
theorem dX10_orders_30 : decode cX10_orders 30 = .ok (.getfield 183, 3) := by decide +kernel
theorem dX10_orders_33 : decode cX10_orders 33 = .ok (.ifCond .eq 63, 3) := by decide +kernel
theorem dX10_orders_36 : decode cX10_orders 36 = .ok (.aload_n 0, 1) := by decide +kernel
theorem dX10_orders_37 : decode cX10_orders 37 = .ok (.invokevirtual 226, 3) := by decide +kernel
theorem dX10_orders_40 : decode cX10_orders 40 = .ok (.aload_n 0, 1) := by decide +kernel
theorem dX10_orders_41 : decode cX10_orders 41 = .ok (.getfield 198, 3) := by decide +kernel
theorem dX10_orders_44 : decode cX10_orders 44 = .ok (.ifCond .ne 33, 3) := by decide +kernel
theorem dX10_orders_47 : decode cX10_orders 47 = .ok (.aload_n 0, 1) := by decide +kernel
theorem dX10_orders_48 : decode cX10_orders 48 = .ok (.getfield 183, 3) := by decide +kernel
theorem dX10_orders_51 : decode cX10_orders 51 = .ok (.iconst 3, 1) := by decide +kernel
theorem dX10_orders_52 : decode cX10_orders 52 = .ok (.if_icmp .ne 25, 3) := by decide +kernel
theorem dX10_orders_55 : decode cX10_orders 55 = .ok (.aload_n 0, 1) := by decide +kernel
theorem dX10_orders_56 : decode cX10_orders 56 = .ok (.getfield 173, 3) := by decide +kernel
theorem dX10_orders_59 : decode cX10_orders 59 = .ok (.ldc2_w 229, 3) := by decide +kernel
theorem dX10_orders_62 : decode cX10_orders 62 = .ok (.lcmp, 1) := by decide +kernel
theorem dX10_orders_63 : decode cX10_orders 63 = .ok (.ifCond .ne 14, 3) := by decide +kernel
theorem dX10_orders_66 : decode cX10_orders 66 = .ok (.aload_n 0, 1) := by decide +kernel
theorem dX10_orders_67 : decode cX10_orders 67 = .ok (.invokevirtual 202, 3) := by decide +kernel
theorem dX10_orders_70 : decode cX10_orders 70 = .ok (.aload_n 0, 1) := by decide +kernel
theorem dX10_orders_71 : decode cX10_orders 71 = .ok (.invokevirtual 226, 3) := by decide +kernel
theorem dX10_orders_74 : decode cX10_orders 74 = .ok (.goto (-34), 3) := by decide +kernel
theorem dX10_orders_77 : decode cX10_orders 77 = .ok (.aload_n 0, 1) := by decide +kernel
theorem dX10_orders_78 : decode cX10_orders 78 = .ok (.getfield 198, 3) := by decide +kernel
theorem dX10_orders_81 : decode cX10_orders 81 = .ok (.ifCond .ne 15, 3) := by decide +kernel
theorem dX10_orders_84 : decode cX10_orders 84 = .ok (.aload_n 0, 1) := by decide +kernel
theorem dX10_orders_85 : decode cX10_orders 85 = .ok (.getfield 183, 3) := by decide +kernel
theorem dX10_orders_88 : decode cX10_orders 88 = .ok (.ifCond .eq 8, 3) := by decide +kernel
theorem dX10_orders_91 : decode cX10_orders 91 = .ok (.aload_n 0, 1) := by decide +kernel
theorem dX10_orders_92 : decode cX10_orders 92 = .ok (.iconst 0, 1) := by decide +kernel
theorem dX10_orders_93 : decode cX10_orders 93 = .ok (.invokevirtual 205, 3) := by decide +kernel
theorem dX10_orders_96 : decode cX10_orders 96 = .ok (.aload_n 0, 1) := by decide +kernel
theorem dX10_orders_97 : decode cX10_orders 97 = .ok (.iconst 0, 1) := by decide +kernel
theorem dX10_orders_98 : decode cX10_orders 98 = .ok (.putfield 160, 3) := by decide +kernel
theorem dX10_orders_101 : decode cX10_orders 101 = .ok (.aload_n 0, 1) := by decide +kernel
theorem dX10_orders_102 : decode cX10_orders 102 = .ok (.getfield 198, 3) := by decide +kernel
theorem dX10_orders_105 : decode cX10_orders 105 = .ok (.ifCond .eq 10, 3) := by decide +kernel
theorem dX10_orders_108 : decode cX10_orders 108 = .ok (.aload_n 0, 1) := by decide +kernel
theorem dX10_orders_109 : decode cX10_orders 109 = .ok (.bipush (-6), 2) := by decide +kernel
theorem dX10_orders_111 : decode cX10_orders 111 = .ok (.invokevirtual 148, 3) := by decide +kernel
theorem dX10_orders_114 : decode cX10_orders 114 = .ok (.ireturn, 1) := by decide +kernel
theorem dX10_orders_115 : decode cX10_orders 115 = .ok (.aload_n 0, 1) := by decide +kernel
theorem dX10_orders_116 : decode cX10_orders 116 = .ok (.aload_n 0, 1) := by decide +kernel
theorem dX10_orders_117 : decode cX10_orders 117 = .ok (.getfield 209, 3) := by decide +kernel
theorem dX10_orders_120 : decode cX10_orders 120 = .ok (.putfield 157, 3) := by decide +kernel
theorem dX10_orders_123 : decode cX10_orders 123 = .ok (.iconst 0, 1) := by decide +kernel
theorem dX10_orders_124 : decode cX10_orders 124 = .ok (.istore_n 1, 1) := by decide +kernel
theorem dX10_orders_125 : decode cX10_orders 125 = .ok (.iload_n 1, 1) := by decide +kernel
theorem dX10_orders_126 : decode cX10_orders 126 = .ok (.aload_n 0, 1) := by decide +kernel
theorem dX10_orders_127 : decode cX10_orders 127 = .ok (.getfield 157, 3) := by decide +kernel
theorem dX10_orders_130 : decode cX10_orders 130 = .ok (.if_icmp .ge 71, 3) := by decide +kernel
theorem dX10_orders_133 : decode cX10_orders 133 = .ok (.aload_n 0, 1) := by decide +kernel
theorem dX10_orders_134 : decode cX10_orders 134 = .ok (.getfield 39, 3) := by decide +kernel
theorem dX10_orders_137 : decode cX10_orders 137 = .ok (.iload_n 1, 1) := by decide +kernel
theorem dX10_orders_138 : decode cX10_orders 138 = .ok (.aload_n 0, 1) := by decide +kernel
theorem dX10_orders_139 : decode cX10_orders 139 = .ok (.getfield 51, 3) := by decide +kernel
theorem dX10_orders_142 : decode cX10_orders 142 = .ok (.iconst 4, 1) := by decide +kernel
theorem dX10_orders_143 : decode cX10_orders 143 = .ok (.iload_n 1, 1) := by decide +kernel
theorem dX10_orders_144 : decode cX10_orders 144 = .ok (.imul, 1) := by decide +kernel
theorem dX10_orders_145 : decode cX10_orders 145 = .ok (.iaload, 1) := by decide +kernel
theorem dX10_orders_146 : decode cX10_orders 146 = .ok (.iastore, 1) := by decide +kernel
theorem dX10_orders_147 : decode cX10_orders 147 = .ok (.aload_n 0, 1) := by decide +kernel
theorem dX10_orders_148 : decode cX10_orders 148 = .ok (.getfield 42, 3) := by decide +kernel
theorem dX10_orders_151 : decode cX10_orders 151 = .ok (.iload_n 1, 1) := by decide +kernel
theorem dX10_orders_152 : decode cX10_orders 152 = .ok (.aload_n 0, 1) := by decide +kernel
theorem dX10_orders_153 : decode cX10_orders 153 = .ok (.getfield 51, 3) := by decide +kernel
theorem dX10_orders_156 : decode cX10_orders 156 = .ok (.iconst 4, 1) := by decide +kernel
theorem dX10_orders_157 : decode cX10_orders 157 = .ok (.iload_n 1, 1) := by decide +kernel
theorem dX10_orders_158 : decode cX10_orders 158 = .ok (.imul, 1) := by decide +kernel
theorem dX10_orders_159 : decode cX10_orders 159 = .ok (.iconst 1, 1) := by decide +kernel
theorem dX10_orders_160 : decode cX10_orders 160 = .ok (.iadd, 1) := by decide +kernel
theorem dX10_orders_161 : decode cX10_orders 161 = .ok (.iaload, 1) := by decide +kernel
theorem dX10_orders_162 : decode cX10_orders 162 = .ok (.iastore, 1) := by decide +kernel
theorem dX10_orders_163 : decode cX10_orders 163 = .ok (.aload_n 0, 1) := by decide +kernel
theorem dX10_orders_164 : decode cX10_orders 164 = .ok (.getfield 45, 3) := by decide +kernel
theorem dX10_orders_167 : decode cX10_orders 167 = .ok (.iload_n 1, 1) := by decide +kernel
theorem dX10_orders_168 : decode cX10_orders 168 = .ok (.aload_n 0, 1) := by decide +kernel
theorem dX10_orders_169 : decode cX10_orders 169 = .ok (.getfield 51, 3) := by decide +kernel
theorem dX10_orders_172 : decode cX10_orders 172 = .ok (.iconst 4, 1) := by decide +kernel
theorem dX10_orders_173 : decode cX10_orders 173 = .ok (.iload_n 1, 1) := by decide +kernel
theorem dX10_orders_174 : decode cX10_orders 174 = .ok (.imul, 1) := by decide +kernel
theorem dX10_orders_175 : decode cX10_orders 175 = .ok (.iconst 2, 1) := by decide +kernel
theorem dX10_orders_176 : decode cX10_orders 176 = .ok (.iadd, 1) := by decide +kernel
theorem dX10_orders_177 : decode cX10_orders 177 = .ok (.iaload, 1) := by decide +kernel
theorem dX10_orders_178 : decode cX10_orders 178 = .ok (.iastore, 1) := by decide +kernel
theorem dX10_orders_179 : decode cX10_orders 179 = .ok (.aload_n 0, 1) := by decide +kernel
theorem dX10_orders_180 : decode cX10_orders 180 = .ok (.getfield 48, 3) := by decide +kernel
theorem dX10_orders_183 : decode cX10_orders 183 = .ok (.iload_n 1, 1) := by decide +kernel
theorem dX10_orders_184 : decode cX10_orders 184 = .ok (.aload_n 0, 1) := by decide +kernel
theorem dX10_orders_185 : decode cX10_orders 185 = .ok (.getfield 51, 3) := by decide +kernel
theorem dX10_orders_188 : decode cX10_orders 188 = .ok (.iconst 4, 1) := by decide +kernel
theorem dX10_orders_189 : decode cX10_orders 189 = .ok (.iload_n 1, 1) := by decide +kernel
theorem dX10_orders_190 : decode cX10_orders 190 = .ok (.imul, 1) := by decide +kernel
theorem dX10_orders_191 : decode cX10_orders 191 = .ok (.iconst 3, 1) := by decide +kernel
theorem dX10_orders_192 : decode cX10_orders 192 = .ok (.iadd, 1) := by decide +kernel
theorem dX10_orders_193 : decode cX10_orders 193 = .ok (.iaload, 1) := by decide +kernel
theorem dX10_orders_194 : decode cX10_orders 194 = .ok (.iastore, 1) := by decide +kernel
theorem dX10_orders_195 : decode cX10_orders 195 = .ok (.iinc 1 1, 3) := by decide +kernel
theorem dX10_orders_198 : decode cX10_orders 198 = .ok (.goto (-73), 3) := by decide +kernel
theorem dX10_orders_201 : decode cX10_orders 201 = .ok (.aload_n 0, 1) := by decide +kernel
theorem dX10_orders_202 : decode cX10_orders 202 = .ok (.aload_n 0, 1) := by decide +kernel
theorem dX10_orders_203 : decode cX10_orders 203 = .ok (.getfield 157, 3) := by decide +kernel
theorem dX10_orders_206 : decode cX10_orders 206 = .ok (.invokevirtual 148, 3) := by decide +kernel
theorem dX10_orders_209 : decode cX10_orders 209 = .ok (.ireturn, 1) := by decide +kernel
theorem dX10_fault_0 : decode cX10_fault 0 = .ok (.aload_n 0, 1) := by decide +kernel
theorem dX10_fault_1 : decode cX10_fault 1 = .ok (.iconst 0, 1) := by decide +kernel
theorem dX10_fault_2 : decode cX10_fault 2 = .ok (.putfield 123, 3) := by decide +kernel
theorem dX10_fault_5 : decode cX10_fault 5 = .ok (.aload_n 0, 1) := by decide +kernel
theorem dX10_fault_6 : decode cX10_fault 6 = .ok (.getfield 66, 3) := by decide +kernel
theorem dX10_fault_9 : decode cX10_fault 9 = .ok (.ireturn, 1) := by decide +kernel
set_option maxRecDepth 20000 in
theorem ggX10_of_X10_isLine : GoodIn wsX10_of wsX10_isLine := goodIn_r _ [9, 10, 11, 12, 8, 13, 28, 29, 30, 31, 32, 33, 34, 35, 36, 37, 38, 39, 40, 41, 42, 43, 44, 45, 46, 47, 48, 49, 50, 51, 52, 53, 54, 55, 56, 57, 58, 59, 60, 61, 62, 63, 64, 65, 66, 67, 68, 69, 70, 71, 72, 73, 74, 75, 76, 77, 78] (by decide +kernel) (by decide +kernel)
set_option maxRecDepth 20000 in
theorem gX10_of_X10_isLine : GoodIn wsX10_of (wsV RX10 231 RX10 yX10_isLine wsX10_isLine) := goodIn_app (goodIn_of _ (by decide +kernel)) ggX10_of_X10_isLine
set_option maxRecDepth 20000 in
theorem ggX10_of_X10_reckon : GoodIn wsX10_of wsX10_reckon := goodIn_r _ [17, 3, 18, 4, 2, 19, 20, 21, 22, 23, 24, 25, 26, 27, 28, 29, 30, 31, 32, 33, 34, 35, 36, 37, 38, 39, 40, 41, 42, 43, 44, 45, 46, 47, 48, 49, 50, 51, 52, 53, 54, 55, 56, 57, 58, 59, 60, 61, 62, 63, 64, 65, 66, 67, 68, 69, 70, 71, 72, 73, 74, 75, 76, 77, 78] (by decide +kernel) (by decide +kernel)
set_option maxRecDepth 20000 in
theorem gX10_of_X10_reckon : GoodIn wsX10_of (wsV RX10 234 RX10 yX10_reckon wsX10_reckon) := goodIn_app (goodIn_of _ (by decide +kernel)) ggX10_of_X10_reckon
theorem dX10_of_0 : decode cX10_of 0 = .ok (.aload_n 0, 1) := by decide +kernel
theorem dX10_of_1 : decode cX10_of 1 = .ok (.iconst 0, 1) := by decide +kernel
theorem dX10_of_2 : decode cX10_of 2 = .ok (.putfield 123, 3) := by decide +kernel
theorem dX10_of_5 : decode cX10_of 5 = .ok (.aload_n 0, 1) := by decide +kernel
theorem dX10_of_6 : decode cX10_of 6 = .ok (.iload_n 1, 1) := by decide +kernel
theorem dX10_of_7 : decode cX10_of 7 = .ok (.invokevirtual 231, 3) := by decide +kernel
theorem dX10_of_10 : decode cX10_of 10 = .ok (.ifCond .ne 5, 3) := by decide +kernel
theorem dX10_of_13 : decode cX10_of 13 = .ok (.iconst (-1), 1) := by decide +kernel
theorem dX10_of_14 : decode cX10_of 14 = .ok (.ireturn, 1) := by decide +kernel
theorem dX10_of_15 : decode cX10_of 15 = .ok (.aload_n 0, 1) := by decide +kernel
theorem dX10_of_16 : decode cX10_of 16 = .ok (.invokevirtual 234, 3) := by decide +kernel
theorem dX10_of_19 : decode cX10_of 19 = .ok (.iload_n 2, 1) := by decide +kernel
theorem dX10_of_20 : decode cX10_of 20 = .ok (.iconst 2, 1) := by decide +kernel
theorem dX10_of_21 : decode cX10_of 21 = .ok (.if_icmp .ne 10, 3) := by decide +kernel
theorem dX10_of_24 : decode cX10_of 24 = .ok (.aload_n 0, 1) := by decide +kernel
theorem dX10_of_25 : decode cX10_of 25 = .ok (.getfield 60, 3) := by decide +kernel
theorem dX10_of_28 : decode cX10_of 28 = .ok (.iload_n 1, 1) := by decide +kernel
theorem dX10_of_29 : decode cX10_of 29 = .ok (.iaload, 1) := by decide +kernel
theorem dX10_of_30 : decode cX10_of 30 = .ok (.ireturn, 1) := by decide +kernel
theorem dX10_of_31 : decode cX10_of 31 = .ok (.aload_n 0, 1) := by decide +kernel
theorem dX10_of_32 : decode cX10_of 32 = .ok (.getfield 60, 3) := by decide +kernel
theorem dX10_of_35 : decode cX10_of 35 = .ok (.iload_n 1, 1) := by decide +kernel
theorem dX10_of_36 : decode cX10_of 36 = .ok (.iaload, 1) := by decide +kernel
theorem dX10_of_37 : decode cX10_of 37 = .ok (.ifCond .ne 7, 3) := by decide +kernel
theorem dX10_of_40 : decode cX10_of 40 = .ok (.iconst (-1), 1) := by decide +kernel
theorem dX10_of_41 : decode cX10_of 41 = .ok (.goto 31, 3) := by decide +kernel
theorem dX10_of_44 : decode cX10_of 44 = .ok (.iload_n 2, 1) := by decide +kernel
theorem dX10_of_45 : decode cX10_of 45 = .ok (.ifCond .ne 12, 3) := by decide +kernel
theorem dX10_of_48 : decode cX10_of 48 = .ok (.aload_n 0, 1) := by decide +kernel
theorem dX10_of_49 : decode cX10_of 49 = .ok (.getfield 54, 3) := by decide +kernel
theorem dX10_of_52 : decode cX10_of 52 = .ok (.iload_n 1, 1) := by decide +kernel
theorem dX10_of_53 : decode cX10_of 53 = .ok (.iaload, 1) := by decide +kernel
theorem dX10_of_54 : decode cX10_of 54 = .ok (.goto 18, 3) := by decide +kernel
theorem dX10_of_57 : decode cX10_of 57 = .ok (.iload_n 2, 1) := by decide +kernel
theorem dX10_of_58 : decode cX10_of 58 = .ok (.iconst 1, 1) := by decide +kernel
theorem dX10_of_59 : decode cX10_of 59 = .ok (.if_icmp .ne 12, 3) := by decide +kernel
theorem dX10_of_62 : decode cX10_of 62 = .ok (.aload_n 0, 1) := by decide +kernel
theorem dX10_of_63 : decode cX10_of 63 = .ok (.getfield 57, 3) := by decide +kernel
theorem dX10_of_66 : decode cX10_of 66 = .ok (.iload_n 1, 1) := by decide +kernel
theorem dX10_of_67 : decode cX10_of 67 = .ok (.iaload, 1) := by decide +kernel
theorem dX10_of_68 : decode cX10_of 68 = .ok (.goto 4, 3) := by decide +kernel
theorem dX10_of_71 : decode cX10_of 71 = .ok (.iconst (-1), 1) := by decide +kernel
theorem dX10_of_72 : decode cX10_of 72 = .ok (.ireturn, 1) := by decide +kernel
set_option maxRecDepth 20000 in
theorem ggX10_is_X10_isLine : GoodIn wsX10_is wsX10_isLine := goodIn_r _ [8, 9, 10, 11, 7, 12, 32, 33, 34, 35, 36, 37, 38, 39, 40, 41, 42, 43, 44, 45, 46, 47, 48, 49, 50, 51, 52, 53, 54, 55, 56, 57, 58, 59, 60, 61, 62, 63, 64, 65, 66, 67, 68, 69, 70, 71, 72, 73, 74, 75, 76, 77, 78, 79, 80, 81, 82] (by decide +kernel) (by decide +kernel)
set_option maxRecDepth 20000 in
theorem gX10_is_X10_isLine : GoodIn wsX10_is (wsV RX10 231 RX10 yX10_isLine wsX10_isLine) := goodIn_app (goodIn_of _ (by decide +kernel)) ggX10_is_X10_isLine
set_option maxRecDepth 20000 in
theorem ggX10_is_X10_isHour : GoodIn wsX10_is wsX10_isHour := goodIn_r _ [15, 16, 10, 11, 7, 12] (by decide +kernel) (by decide +kernel)
set_option maxRecDepth 20000 in
theorem gX10_is_X10_isHour : GoodIn wsX10_is (va_wsS RX10 237 yX10_isHour wsX10_isHour) := goodIn_app (goodIn_of _ (by decide +kernel)) ggX10_is_X10_isHour
set_option maxRecDepth 20000 in
theorem ggX10_is_X10_reckon : GoodIn wsX10_is wsX10_reckon := goodIn_r _ [20, 2, 21, 3, 22, 23, 24, 25, 26, 27, 28, 29, 30, 31, 32, 33, 34, 35, 36, 37, 38, 39, 40, 41, 42, 43, 44, 45, 46, 47, 48, 49, 50, 51, 52, 53, 54, 55, 56, 57, 58, 59, 60, 61, 62, 63, 64, 65, 66, 67, 68, 69, 70, 71, 72, 73, 74, 75, 76, 77, 78, 79, 80, 81, 82] (by decide +kernel) (by decide +kernel)
set_option maxRecDepth 20000 in
theorem gX10_is_X10_reckon : GoodIn wsX10_is (wsV RX10 234 RX10 yX10_reckon wsX10_reckon) := goodIn_app (goodIn_of _ (by decide +kernel)) ggX10_is_X10_reckon
theorem dX10_is_0 : decode cX10_is 0 = .ok (.aload_n 0, 1) := by decide +kernel
theorem dX10_is_1 : decode cX10_is 1 = .ok (.iconst 0, 1) := by decide +kernel
theorem dX10_is_2 : decode cX10_is 2 = .ok (.putfield 123, 3) := by decide +kernel
theorem dX10_is_5 : decode cX10_is 5 = .ok (.aload_n 0, 1) := by decide +kernel
theorem dX10_is_6 : decode cX10_is 6 = .ok (.iload_n 1, 1) := by decide +kernel
theorem dX10_is_7 : decode cX10_is 7 = .ok (.invokevirtual 231, 3) := by decide +kernel
theorem dX10_is_10 : decode cX10_is 10 = .ok (.ifCond .eq 10, 3) := by decide +kernel
theorem dX10_is_13 : decode cX10_is 13 = .ok (.iload_n 2, 1) := by decide +kernel
theorem dX10_is_14 : decode cX10_is 14 = .ok (.invokestatic 237, 3) := by decide +kernel
theorem dX10_is_17 : decode cX10_is 17 = .ok (.ifCond .ne 5, 3) := by decide +kernel
theorem dX10_is_20 : decode cX10_is 20 = .ok (.iconst (-1), 1) := by decide +kernel
theorem dX10_is_21 : decode cX10_is 21 = .ok (.ireturn, 1) := by decide +kernel
theorem dX10_is_22 : decode cX10_is 22 = .ok (.aload_n 0, 1) := by decide +kernel
theorem dX10_is_23 : decode cX10_is 23 = .ok (.invokevirtual 234, 3) := by decide +kernel
theorem dX10_is_26 : decode cX10_is 26 = .ok (.iload_n 2, 1) := by decide +kernel
theorem dX10_is_27 : decode cX10_is 27 = .ok (.aload_n 0, 1) := by decide +kernel
theorem dX10_is_28 : decode cX10_is 28 = .ok (.getfield 54, 3) := by decide +kernel
theorem dX10_is_31 : decode cX10_is 31 = .ok (.iload_n 1, 1) := by decide +kernel
theorem dX10_is_32 : decode cX10_is 32 = .ok (.iaload, 1) := by decide +kernel
theorem dX10_is_33 : decode cX10_is 33 = .ok (.if_icmp .ge 7, 3) := by decide +kernel
theorem dX10_is_36 : decode cX10_is 36 = .ok (.iconst 0, 1) := by decide +kernel
theorem dX10_is_37 : decode cX10_is 37 = .ok (.goto 18, 3) := by decide +kernel
theorem dX10_is_40 : decode cX10_is 40 = .ok (.iload_n 2, 1) := by decide +kernel
theorem dX10_is_41 : decode cX10_is 41 = .ok (.aload_n 0, 1) := by decide +kernel
theorem dX10_is_42 : decode cX10_is 42 = .ok (.getfield 57, 3) := by decide +kernel
theorem dX10_is_45 : decode cX10_is 45 = .ok (.iload_n 1, 1) := by decide +kernel
theorem dX10_is_46 : decode cX10_is 46 = .ok (.iaload, 1) := by decide +kernel
theorem dX10_is_47 : decode cX10_is 47 = .ok (.if_icmp .ge 7, 3) := by decide +kernel
theorem dX10_is_50 : decode cX10_is 50 = .ok (.iconst 1, 1) := by decide +kernel
theorem dX10_is_51 : decode cX10_is 51 = .ok (.goto 4, 3) := by decide +kernel
theorem dX10_is_54 : decode cX10_is 54 = .ok (.iconst 2, 1) := by decide +kernel
theorem dX10_is_55 : decode cX10_is 55 = .ok (.ireturn, 1) := by decide +kernel
theorem dX10_busyIn_0 : decode cX10_busyIn 0 = .ok (.iconst 0, 1) := by decide +kernel
theorem dX10_busyIn_1 : decode cX10_busyIn 1 = .ok (.istore_n 2, 1) := by decide +kernel
theorem dX10_busyIn_2 : decode cX10_busyIn 2 = .ok (.iconst 0, 1) := by decide +kernel
theorem dX10_busyIn_3 : decode cX10_busyIn 3 = .ok (.istore_n 3, 1) := by decide +kernel
theorem dX10_busyIn_4 : decode cX10_busyIn 4 = .ok (.iload_n 3, 1) := by decide +kernel
theorem dX10_busyIn_5 : decode cX10_busyIn 5 = .ok (.aload_n 0, 1) := by decide +kernel
theorem dX10_busyIn_6 : decode cX10_busyIn 6 = .ok (.getfield 137, 3) := by decide +kernel
theorem dX10_busyIn_9 : decode cX10_busyIn 9 = .ok (.if_icmp .ge 42, 3) := by decide +kernel
theorem dX10_busyIn_12 : decode cX10_busyIn 12 = .ok (.iload_n 2, 1) := by decide +kernel
theorem dX10_busyIn_13 : decode cX10_busyIn 13 = .ok (.iload_n 1, 1) := by decide +kernel
theorem dX10_busyIn_14 : decode cX10_busyIn 14 = .ok (.aload_n 0, 1) := by decide +kernel
theorem dX10_busyIn_15 : decode cX10_busyIn 15 = .ok (.getfield 54, 3) := by decide +kernel
theorem dX10_busyIn_18 : decode cX10_busyIn 18 = .ok (.iload_n 3, 1) := by decide +kernel
theorem dX10_busyIn_19 : decode cX10_busyIn 19 = .ok (.iaload, 1) := by decide +kernel
theorem dX10_busyIn_20 : decode cX10_busyIn 20 = .ok (.if_icmp .lt 22, 3) := by decide +kernel
theorem dX10_busyIn_23 : decode cX10_busyIn 23 = .ok (.iload_n 1, 1) := by decide +kernel
theorem dX10_busyIn_24 : decode cX10_busyIn 24 = .ok (.aload_n 0, 1) := by decide +kernel
theorem dX10_busyIn_25 : decode cX10_busyIn 25 = .ok (.getfield 57, 3) := by decide +kernel
theorem dX10_busyIn_28 : decode cX10_busyIn 28 = .ok (.iload_n 3, 1) := by decide +kernel
theorem dX10_busyIn_29 : decode cX10_busyIn 29 = .ok (.iaload, 1) := by decide +kernel
theorem dX10_busyIn_30 : decode cX10_busyIn 30 = .ok (.if_icmp .ge 12, 3) := by decide +kernel
theorem dX10_busyIn_33 : decode cX10_busyIn 33 = .ok (.aload_n 0, 1) := by decide +kernel
theorem dX10_busyIn_34 : decode cX10_busyIn 34 = .ok (.getfield 60, 3) := by decide +kernel
theorem dX10_busyIn_37 : decode cX10_busyIn 37 = .ok (.iload_n 3, 1) := by decide +kernel
theorem dX10_busyIn_38 : decode cX10_busyIn 38 = .ok (.iaload, 1) := by decide +kernel
theorem dX10_busyIn_39 : decode cX10_busyIn 39 = .ok (.goto 4, 3) := by decide +kernel
theorem dX10_busyIn_42 : decode cX10_busyIn 42 = .ok (.iconst 0, 1) := by decide +kernel
theorem dX10_busyIn_43 : decode cX10_busyIn 43 = .ok (.iadd, 1) := by decide +kernel
theorem dX10_busyIn_44 : decode cX10_busyIn 44 = .ok (.istore_n 2, 1) := by decide +kernel
theorem dX10_busyIn_45 : decode cX10_busyIn 45 = .ok (.iinc 3 1, 3) := by decide +kernel
theorem dX10_busyIn_48 : decode cX10_busyIn 48 = .ok (.goto (-44), 3) := by decide +kernel
theorem dX10_busyIn_51 : decode cX10_busyIn 51 = .ok (.iload_n 2, 1) := by decide +kernel
theorem dX10_busyIn_52 : decode cX10_busyIn 52 = .ok (.ireturn, 1) := by decide +kernel
set_option maxRecDepth 20000 in
theorem ggX10_busy_X10_isHour : GoodIn wsX10_busy wsX10_isHour := goodIn_r _ [5, 6, 7, 8, 4, 9] (by decide +kernel) (by decide +kernel)
set_option maxRecDepth 20000 in
theorem gX10_busy_X10_isHour : GoodIn wsX10_busy (va_wsS RX10 237 yX10_isHour wsX10_isHour) := goodIn_app (goodIn_of _ (by decide +kernel)) ggX10_busy_X10_isHour
set_option maxRecDepth 20000 in
theorem ggX10_busy_X10_reckon : GoodIn wsX10_busy wsX10_reckon := goodIn_r _ [13, 14, 15, 16, 17, 18, 19, 20, 21, 22, 23, 24, 25, 26, 32, 33, 34, 35, 36, 37, 38, 39, 40, 41, 42, 43, 44, 45, 46, 47, 48, 49, 50, 51, 52, 53, 54, 55, 56, 57, 58, 59, 60, 61, 62, 63, 64, 65, 66, 67, 68, 69, 70, 71, 72, 73, 74, 75, 76, 77, 78, 79, 80, 81, 82] (by decide +kernel) (by decide +kernel)
set_option maxRecDepth 20000 in
theorem gX10_busy_X10_reckon : GoodIn wsX10_busy (wsV RX10 234 RX10 yX10_reckon wsX10_reckon) := goodIn_app (goodIn_of _ (by decide +kernel)) ggX10_busy_X10_reckon
set_option maxRecDepth 20000 in
theorem ggX10_busy_X10_busyIn : GoodIn wsX10_busy wsX10_busyIn := goodIn_r _ [30, 31, 14, 16, 17, 32, 33, 34, 35, 36, 37, 38, 39, 40, 41, 42, 43, 44, 45, 46, 47, 48, 49, 50, 51, 52, 53, 54, 55, 56, 57, 58, 59, 60, 61, 62, 63, 64, 65, 66, 67, 68, 69, 70, 71, 72, 73, 74, 75, 76, 77, 78, 79, 80, 81, 82] (by decide +kernel) (by decide +kernel)
set_option maxRecDepth 20000 in
theorem gX10_busy_X10_busyIn : GoodIn wsX10_busy (wsV RX10 240 RX10 yX10_busyIn wsX10_busyIn) := goodIn_app (goodIn_of _ (by decide +kernel)) ggX10_busy_X10_busyIn
theorem dX10_busy_0 : decode cX10_busy 0 = .ok (.aload_n 0, 1) := by decide +kernel
theorem dX10_busy_1 : decode cX10_busy 1 = .ok (.iconst 0, 1) := by decide +kernel
theorem dX10_busy_2 : decode cX10_busy 2 = .ok (.putfield 123, 3) := by decide +kernel
theorem dX10_busy_5 : decode cX10_busy 5 = .ok (.iload_n 1, 1) := by decide +kernel
theorem dX10_busy_6 : decode cX10_busy 6 = .ok (.invokestatic 237, 3) := by decide +kernel
theorem dX10_busy_9 : decode cX10_busy 9 = .ok (.ifCond .ne 5, 3) := by decide +kernel
theorem dX10_busy_12 : decode cX10_busy 12 = .ok (.iconst (-1), 1) := by decide +kernel
theorem dX10_busy_13 : decode cX10_busy 13 = .ok (.ireturn, 1) := by decide +kernel
theorem dX10_busy_14 : decode cX10_busy 14 = .ok (.aload_n 0, 1) := by decide +kernel
theorem dX10_busy_15 : decode cX10_busy 15 = .ok (.invokevirtual 234, 3) := by decide +kernel
theorem dX10_busy_18 : decode cX10_busy 18 = .ok (.aload_n 0, 1) := by decide +kernel
theorem dX10_busy_19 : decode cX10_busy 19 = .ok (.iload_n 1, 1) := by decide +kernel
theorem dX10_busy_20 : decode cX10_busy 20 = .ok (.invokevirtual 240, 3) := by decide +kernel
theorem dX10_busy_23 : decode cX10_busy 23 = .ok (.ireturn, 1) := by decide +kernel
set_option maxRecDepth 20000 in
theorem ggX10_lack_X10_reckon : GoodIn wsX10_lack wsX10_reckon := goodIn_r _ [7, 8, 9, 10, 11, 12, 13, 14, 15, 16, 17, 18, 19, 20, 26, 27, 28, 29, 30, 31, 32, 33, 34, 35, 36, 37, 38, 39, 40, 41, 42, 43, 44, 45, 46, 47, 48, 49, 50, 51, 52, 53, 54, 55, 56, 57, 58, 59, 60, 61, 62, 63, 64, 65, 66, 67, 68, 69, 70, 71, 72, 73, 74, 75, 76] (by decide +kernel) (by decide +kernel)
set_option maxRecDepth 20000 in
theorem gX10_lack_X10_reckon : GoodIn wsX10_lack (wsV RX10 234 RX10 yX10_reckon wsX10_reckon) := goodIn_app (goodIn_of _ (by decide +kernel)) ggX10_lack_X10_reckon
set_option maxRecDepth 20000 in
theorem ggX10_lack_X10_busyIn : GoodIn wsX10_lack wsX10_busyIn := goodIn_r _ [24, 25, 8, 10, 11, 26, 27, 28, 29, 30, 31, 32, 33, 34, 35, 36, 37, 38, 39, 40, 41, 42, 43, 44, 45, 46, 47, 48, 49, 50, 51, 52, 53, 54, 55, 56, 57, 58, 59, 60, 61, 62, 63, 64, 65, 66, 67, 68, 69, 70, 71, 72, 73, 74, 75, 76] (by decide +kernel) (by decide +kernel)
set_option maxRecDepth 20000 in
theorem gX10_lack_X10_busyIn : GoodIn wsX10_lack (wsV RX10 240 RX10 yX10_busyIn wsX10_busyIn) := goodIn_app (goodIn_of _ (by decide +kernel)) ggX10_lack_X10_busyIn
theorem dX10_lack_0 : decode cX10_lack 0 = .ok (.aload_n 0, 1) := by decide +kernel
theorem dX10_lack_1 : decode cX10_lack 1 = .ok (.iconst 0, 1) := by decide +kernel
theorem dX10_lack_2 : decode cX10_lack 2 = .ok (.putfield 123, 3) := by decide +kernel
theorem dX10_lack_5 : decode cX10_lack 5 = .ok (.aload_n 0, 1) := by decide +kernel
theorem dX10_lack_6 : decode cX10_lack 6 = .ok (.invokevirtual 234, 3) := by decide +kernel
theorem dX10_lack_9 : decode cX10_lack 9 = .ok (.iconst 0, 1) := by decide +kernel
theorem dX10_lack_10 : decode cX10_lack 10 = .ok (.istore_n 1, 1) := by decide +kernel
theorem dX10_lack_11 : decode cX10_lack 11 = .ok (.iload_n 1, 1) := by decide +kernel
theorem dX10_lack_12 : decode cX10_lack 12 = .ok (.bipush 120, 2) := by decide +kernel
theorem dX10_lack_14 : decode cX10_lack 14 = .ok (.if_icmp .gt 23, 3) := by decide +kernel
theorem dX10_lack_17 : decode cX10_lack 17 = .ok (.aload_n 0, 1) := by decide +kernel
theorem dX10_lack_18 : decode cX10_lack 18 = .ok (.iload_n 1, 1) := by decide +kernel
theorem dX10_lack_19 : decode cX10_lack 19 = .ok (.invokevirtual 240, 3) := by decide +kernel
theorem dX10_lack_22 : decode cX10_lack 22 = .ok (.aload_n 0, 1) := by decide +kernel
theorem dX10_lack_23 : decode cX10_lack 23 = .ok (.getfield 33, 3) := by decide +kernel
theorem dX10_lack_26 : decode cX10_lack 26 = .ok (.if_icmp .le 5, 3) := by decide +kernel
theorem dX10_lack_29 : decode cX10_lack 29 = .ok (.iload_n 1, 1) := by decide +kernel
theorem dX10_lack_30 : decode cX10_lack 30 = .ok (.ireturn, 1) := by decide +kernel
theorem dX10_lack_31 : decode cX10_lack 31 = .ok (.iinc 1 1, 3) := by decide +kernel
theorem dX10_lack_34 : decode cX10_lack 34 = .ok (.goto (-23), 3) := by decide +kernel
theorem dX10_lack_37 : decode cX10_lack 37 = .ok (.iconst (-1), 1) := by decide +kernel
theorem dX10_lack_38 : decode cX10_lack 38 = .ok (.ireturn, 1) := by decide +kernel
theorem dX10_stateBehind_0 : decode cX10_stateBehind 0 = .ok (.iload_n 1, 1) := by decide +kernel
theorem dX10_stateBehind_1 : decode cX10_stateBehind 1 = .ok (.bipush 16, 2) := by decide +kernel
theorem dX10_stateBehind_3 : decode cX10_stateBehind 3 = .ok (.irem, 1) := by decide +kernel
theorem dX10_stateBehind_4 : decode cX10_stateBehind 4 = .ok (.istore_n 3, 1) := by decide +kernel
theorem dX10_stateBehind_5 : decode cX10_stateBehind 5 = .ok (.iload_n 2, 1) := by decide +kernel
theorem dX10_stateBehind_6 : decode cX10_stateBehind 6 = .ok (.bipush 30, 2) := by decide +kernel
theorem dX10_stateBehind_8 : decode cX10_stateBehind 8 = .ok (.if_icmp .ne 11, 3) := by decide +kernel
theorem dX10_stateBehind_11 : decode cX10_stateBehind 11 = .ok (.iload_n 1, 1) := by decide +kernel
theorem dX10_stateBehind_12 : decode cX10_stateBehind 12 = .ok (.bipush 16, 2) := by decide +kernel
theorem dX10_stateBehind_14 : decode cX10_stateBehind 14 = .ok (.iadd, 1) := by decide +kernel
theorem dX10_stateBehind_15 : decode cX10_stateBehind 15 = .ok (.bipush 32, 2) := by decide +kernel
theorem dX10_stateBehind_17 : decode cX10_stateBehind 17 = .ok (.irem, 1) := by decide +kernel
theorem dX10_stateBehind_18 : decode cX10_stateBehind 18 = .ok (.ireturn, 1) := by decide +kernel
theorem dX10_stateBehind_19 : decode cX10_stateBehind 19 = .ok (.iload_n 2, 1) := by decide +kernel
theorem dX10_stateBehind_20 : decode cX10_stateBehind 20 = .ok (.aload_n 0, 1) := by decide +kernel
theorem dX10_stateBehind_21 : decode cX10_stateBehind 21 = .ok (.getfield 137, 3) := by decide +kernel
theorem dX10_stateBehind_24 : decode cX10_stateBehind 24 = .ok (.if_icmp .lt 5, 3) := by decide +kernel
theorem dX10_stateBehind_27 : decode cX10_stateBehind 27 = .ok (.iconst (-1), 1) := by decide +kernel
theorem dX10_stateBehind_28 : decode cX10_stateBehind 28 = .ok (.ireturn, 1) := by decide +kernel
theorem dX10_stateBehind_29 : decode cX10_stateBehind 29 = .ok (.aload_n 0, 1) := by decide +kernel
theorem dX10_stateBehind_30 : decode cX10_stateBehind 30 = .ok (.getfield 7, 3) := by decide +kernel
theorem dX10_stateBehind_33 : decode cX10_stateBehind 33 = .ok (.iload_n 2, 1) := by decide +kernel
theorem dX10_stateBehind_34 : decode cX10_stateBehind 34 = .ok (.iaload, 1) := by decide +kernel
theorem dX10_stateBehind_35 : decode cX10_stateBehind 35 = .ok (.iload_n 3, 1) := by decide +kernel
theorem dX10_stateBehind_36 : decode cX10_stateBehind 36 = .ok (.if_icmp .ne 12, 3) := by decide +kernel
theorem dX10_stateBehind_39 : decode cX10_stateBehind 39 = .ok (.aload_n 0, 1) := by decide +kernel
theorem dX10_stateBehind_40 : decode cX10_stateBehind 40 = .ok (.getfield 13, 3) := by decide +kernel
theorem dX10_stateBehind_43 : decode cX10_stateBehind 43 = .ok (.iload_n 2, 1) := by decide +kernel
theorem dX10_stateBehind_44 : decode cX10_stateBehind 44 = .ok (.iaload, 1) := by decide +kernel
theorem dX10_stateBehind_45 : decode cX10_stateBehind 45 = .ok (.goto 23, 3) := by decide +kernel
theorem dX10_stateBehind_48 : decode cX10_stateBehind 48 = .ok (.aload_n 0, 1) := by decide +kernel
theorem dX10_stateBehind_49 : decode cX10_stateBehind 49 = .ok (.getfield 13, 3) := by decide +kernel
theorem dX10_stateBehind_52 : decode cX10_stateBehind 52 = .ok (.iload_n 2, 1) := by decide +kernel
theorem dX10_stateBehind_53 : decode cX10_stateBehind 53 = .ok (.iaload, 1) := by decide +kernel
theorem dX10_stateBehind_54 : decode cX10_stateBehind 54 = .ok (.iload_n 3, 1) := by decide +kernel
theorem dX10_stateBehind_55 : decode cX10_stateBehind 55 = .ok (.if_icmp .ne 12, 3) := by decide +kernel
theorem dX10_stateBehind_58 : decode cX10_stateBehind 58 = .ok (.aload_n 0, 1) := by decide +kernel
theorem dX10_stateBehind_59 : decode cX10_stateBehind 59 = .ok (.getfield 7, 3) := by decide +kernel
theorem dX10_stateBehind_62 : decode cX10_stateBehind 62 = .ok (.iload_n 2, 1) := by decide +kernel
theorem dX10_stateBehind_63 : decode cX10_stateBehind 63 = .ok (.iaload, 1) := by decide +kernel
theorem dX10_stateBehind_64 : decode cX10_stateBehind 64 = .ok (.goto 4, 3) := by decide +kernel
theorem dX10_stateBehind_67 : decode cX10_stateBehind 67 = .ok (.iconst (-1), 1) := by decide +kernel
theorem dX10_stateBehind_68 : decode cX10_stateBehind 68 = .ok (.istore 4, 2) := by decide +kernel
theorem dX10_stateBehind_70 : decode cX10_stateBehind 70 = .ok (.iload 4, 2) := by decide +kernel
theorem dX10_stateBehind_72 : decode cX10_stateBehind 72 = .ok (.iconst (-1), 1) := by decide +kernel
theorem dX10_stateBehind_73 : decode cX10_stateBehind 73 = .ok (.if_icmp .ne 7, 3) := by decide +kernel
theorem dX10_stateBehind_76 : decode cX10_stateBehind 76 = .ok (.iconst (-1), 1) := by decide +kernel
theorem dX10_stateBehind_77 : decode cX10_stateBehind 77 = .ok (.goto 9, 3) := by decide +kernel
theorem dX10_stateBehind_80 : decode cX10_stateBehind 80 = .ok (.iload_n 1, 1) := by decide +kernel
theorem dX10_stateBehind_81 : decode cX10_stateBehind 81 = .ok (.iload_n 3, 1) := by decide +kernel
theorem dX10_stateBehind_82 : decode cX10_stateBehind 82 = .ok (.isub, 1) := by decide +kernel
theorem dX10_stateBehind_83 : decode cX10_stateBehind 83 = .ok (.iload 4, 2) := by decide +kernel
theorem dX10_stateBehind_85 : decode cX10_stateBehind 85 = .ok (.iadd, 1) := by decide +kernel
theorem dX10_stateBehind_86 : decode cX10_stateBehind 86 = .ok (.ireturn, 1) := by decide +kernel
theorem dX10_comesBy_0 : decode cX10_comesBy 0 = .ok (.iload_n 2, 1) := by decide +kernel
theorem dX10_comesBy_1 : decode cX10_comesBy 1 = .ok (.bipush 30, 2) := by decide +kernel
theorem dX10_comesBy_3 : decode cX10_comesBy 3 = .ok (.if_icmp .ne 10, 3) := by decide +kernel
theorem dX10_comesBy_6 : decode cX10_comesBy 6 = .ok (.iload_n 3, 1) := by decide +kernel
theorem dX10_comesBy_7 : decode cX10_comesBy 7 = .ok (.aload_n 0, 1) := by decide +kernel
theorem dX10_comesBy_8 : decode cX10_comesBy 8 = .ok (.getfield 36, 3) := by decide +kernel
theorem dX10_comesBy_11 : decode cX10_comesBy 11 = .ok (.iadd, 1) := by decide +kernel
theorem dX10_comesBy_12 : decode cX10_comesBy 12 = .ok (.ireturn, 1) := by decide +kernel
theorem dX10_comesBy_13 : decode cX10_comesBy 13 = .ok (.iload_n 1, 1) := by decide +kernel
theorem dX10_comesBy_14 : decode cX10_comesBy 14 = .ok (.bipush 16, 2) := by decide +kernel
theorem dX10_comesBy_16 : decode cX10_comesBy 16 = .ok (.if_icmp .ge 34, 3) := by decide +kernel
theorem dX10_comesBy_19 : decode cX10_comesBy 19 = .ok (.iload_n 3, 1) := by decide +kernel
theorem dX10_comesBy_20 : decode cX10_comesBy 20 = .ok (.aload_n 0, 1) := by decide +kernel
theorem dX10_comesBy_21 : decode cX10_comesBy 21 = .ok (.getfield 19, 3) := by decide +kernel
theorem dX10_comesBy_24 : decode cX10_comesBy 24 = .ok (.iload_n 2, 1) := by decide +kernel
theorem dX10_comesBy_25 : decode cX10_comesBy 25 = .ok (.iaload, 1) := by decide +kernel
theorem dX10_comesBy_26 : decode cX10_comesBy 26 = .ok (.iadd, 1) := by decide +kernel
theorem dX10_comesBy_27 : decode cX10_comesBy 27 = .ok (.aload_n 0, 1) := by decide +kernel
theorem dX10_comesBy_28 : decode cX10_comesBy 28 = .ok (.getfield 54, 3) := by decide +kernel
theorem dX10_comesBy_31 : decode cX10_comesBy 31 = .ok (.iload_n 2, 1) := by decide +kernel
theorem dX10_comesBy_32 : decode cX10_comesBy 32 = .ok (.iaload, 1) := by decide +kernel
theorem dX10_comesBy_33 : decode cX10_comesBy 33 = .ok (.if_icmp .gt 14, 3) := by decide +kernel
theorem dX10_comesBy_36 : decode cX10_comesBy 36 = .ok (.iload_n 3, 1) := by decide +kernel
theorem dX10_comesBy_37 : decode cX10_comesBy 37 = .ok (.aload_n 0, 1) := by decide +kernel
theorem dX10_comesBy_38 : decode cX10_comesBy 38 = .ok (.getfield 19, 3) := by decide +kernel
theorem dX10_comesBy_41 : decode cX10_comesBy 41 = .ok (.iload_n 2, 1) := by decide +kernel
theorem dX10_comesBy_42 : decode cX10_comesBy 42 = .ok (.iaload, 1) := by decide +kernel
theorem dX10_comesBy_43 : decode cX10_comesBy 43 = .ok (.iadd, 1) := by decide +kernel
theorem dX10_comesBy_44 : decode cX10_comesBy 44 = .ok (.goto 5, 3) := by decide +kernel
theorem dX10_comesBy_47 : decode cX10_comesBy 47 = .ok (.ldc 156, 2) := by decide +kernel
theorem dX10_comesBy_49 : decode cX10_comesBy 49 = .ok (.ireturn, 1) := by decide +kernel
theorem dX10_comesBy_50 : decode cX10_comesBy 50 = .ok (.iload_n 3, 1) := by decide +kernel
theorem dX10_comesBy_51 : decode cX10_comesBy 51 = .ok (.aload_n 0, 1) := by decide +kernel
theorem dX10_comesBy_52 : decode cX10_comesBy 52 = .ok (.getfield 57, 3) := by decide +kernel
theorem dX10_comesBy_55 : decode cX10_comesBy 55 = .ok (.iload_n 2, 1) := by decide +kernel
theorem dX10_comesBy_56 : decode cX10_comesBy 56 = .ok (.iaload, 1) := by decide +kernel
theorem dX10_comesBy_57 : decode cX10_comesBy 57 = .ok (.if_icmp .ge 12, 3) := by decide +kernel
theorem dX10_comesBy_60 : decode cX10_comesBy 60 = .ok (.aload_n 0, 1) := by decide +kernel
theorem dX10_comesBy_61 : decode cX10_comesBy 61 = .ok (.getfield 57, 3) := by decide +kernel
theorem dX10_comesBy_64 : decode cX10_comesBy 64 = .ok (.iload_n 2, 1) := by decide +kernel
theorem dX10_comesBy_65 : decode cX10_comesBy 65 = .ok (.iaload, 1) := by decide +kernel
theorem dX10_comesBy_66 : decode cX10_comesBy 66 = .ok (.goto 4, 3) := by decide +kernel
theorem dX10_comesBy_69 : decode cX10_comesBy 69 = .ok (.iload_n 3, 1) := by decide +kernel
theorem dX10_comesBy_70 : decode cX10_comesBy 70 = .ok (.istore 4, 2) := by decide +kernel
theorem dX10_comesBy_72 : decode cX10_comesBy 72 = .ok (.iload 4, 2) := by decide +kernel
theorem dX10_comesBy_74 : decode cX10_comesBy 74 = .ok (.aload_n 0, 1) := by decide +kernel
theorem dX10_comesBy_75 : decode cX10_comesBy 75 = .ok (.getfield 19, 3) := by decide +kernel
theorem dX10_comesBy_78 : decode cX10_comesBy 78 = .ok (.iload_n 2, 1) := by decide +kernel
theorem dX10_comesBy_79 : decode cX10_comesBy 79 = .ok (.iaload, 1) := by decide +kernel
theorem dX10_comesBy_80 : decode cX10_comesBy 80 = .ok (.iadd, 1) := by decide +kernel
theorem dX10_comesBy_81 : decode cX10_comesBy 81 = .ok (.ireturn, 1) := by decide +kernel
theorem dX10_leavesBy_0 : decode cX10_leavesBy 0 = .ok (.iload_n 2, 1) := by decide +kernel
theorem dX10_leavesBy_1 : decode cX10_leavesBy 1 = .ok (.bipush 30, 2) := by decide +kernel
theorem dX10_leavesBy_3 : decode cX10_leavesBy 3 = .ok (.if_icmp .ne 10, 3) := by decide +kernel
theorem dX10_leavesBy_6 : decode cX10_leavesBy 6 = .ok (.iload_n 3, 1) := by decide +kernel
theorem dX10_leavesBy_7 : decode cX10_leavesBy 7 = .ok (.aload_n 0, 1) := by decide +kernel
theorem dX10_leavesBy_8 : decode cX10_leavesBy 8 = .ok (.getfield 36, 3) := by decide +kernel
theorem dX10_leavesBy_11 : decode cX10_leavesBy 11 = .ok (.isub, 1) := by decide +kernel
theorem dX10_leavesBy_12 : decode cX10_leavesBy 12 = .ok (.ireturn, 1) := by decide +kernel
theorem dX10_leavesBy_13 : decode cX10_leavesBy 13 = .ok (.iload_n 1, 1) := by decide +kernel
theorem dX10_leavesBy_14 : decode cX10_leavesBy 14 = .ok (.bipush 16, 2) := by decide +kernel
theorem dX10_leavesBy_16 : decode cX10_leavesBy 16 = .ok (.if_icmp .ge 31, 3) := by decide +kernel
theorem dX10_leavesBy_19 : decode cX10_leavesBy 19 = .ok (.iload_n 3, 1) := by decide +kernel
theorem dX10_leavesBy_20 : decode cX10_leavesBy 20 = .ok (.aload_n 0, 1) := by decide +kernel
theorem dX10_leavesBy_21 : decode cX10_leavesBy 21 = .ok (.getfield 54, 3) := by decide +kernel
theorem dX10_leavesBy_24 : decode cX10_leavesBy 24 = .ok (.iload_n 2, 1) := by decide +kernel
theorem dX10_leavesBy_25 : decode cX10_leavesBy 25 = .ok (.iaload, 1) := by decide +kernel
theorem dX10_leavesBy_26 : decode cX10_leavesBy 26 = .ok (.if_icmp .ge 7, 3) := by decide +kernel
theorem dX10_leavesBy_29 : decode cX10_leavesBy 29 = .ok (.iload_n 3, 1) := by decide +kernel
theorem dX10_leavesBy_30 : decode cX10_leavesBy 30 = .ok (.goto 9, 3) := by decide +kernel
theorem dX10_leavesBy_33 : decode cX10_leavesBy 33 = .ok (.aload_n 0, 1) := by decide +kernel
theorem dX10_leavesBy_34 : decode cX10_leavesBy 34 = .ok (.getfield 54, 3) := by decide +kernel
theorem dX10_leavesBy_37 : decode cX10_leavesBy 37 = .ok (.iload_n 2, 1) := by decide +kernel
theorem dX10_leavesBy_38 : decode cX10_leavesBy 38 = .ok (.iaload, 1) := by decide +kernel
theorem dX10_leavesBy_39 : decode cX10_leavesBy 39 = .ok (.aload_n 0, 1) := by decide +kernel
theorem dX10_leavesBy_40 : decode cX10_leavesBy 40 = .ok (.getfield 19, 3) := by decide +kernel
theorem dX10_leavesBy_43 : decode cX10_leavesBy 43 = .ok (.iload_n 2, 1) := by decide +kernel
theorem dX10_leavesBy_44 : decode cX10_leavesBy 44 = .ok (.iaload, 1) := by decide +kernel
theorem dX10_leavesBy_45 : decode cX10_leavesBy 45 = .ok (.isub, 1) := by decide +kernel
theorem dX10_leavesBy_46 : decode cX10_leavesBy 46 = .ok (.ireturn, 1) := by decide +kernel
theorem dX10_leavesBy_47 : decode cX10_leavesBy 47 = .ok (.iload_n 3, 1) := by decide +kernel
theorem dX10_leavesBy_48 : decode cX10_leavesBy 48 = .ok (.aload_n 0, 1) := by decide +kernel
theorem dX10_leavesBy_49 : decode cX10_leavesBy 49 = .ok (.getfield 19, 3) := by decide +kernel
theorem dX10_leavesBy_52 : decode cX10_leavesBy 52 = .ok (.iload_n 2, 1) := by decide +kernel
theorem dX10_leavesBy_53 : decode cX10_leavesBy 53 = .ok (.iaload, 1) := by decide +kernel
theorem dX10_leavesBy_54 : decode cX10_leavesBy 54 = .ok (.isub, 1) := by decide +kernel
theorem dX10_leavesBy_55 : decode cX10_leavesBy 55 = .ok (.aload_n 0, 1) := by decide +kernel
theorem dX10_leavesBy_56 : decode cX10_leavesBy 56 = .ok (.getfield 57, 3) := by decide +kernel
theorem dX10_leavesBy_59 : decode cX10_leavesBy 59 = .ok (.iload_n 2, 1) := by decide +kernel
theorem dX10_leavesBy_60 : decode cX10_leavesBy 60 = .ok (.iaload, 1) := by decide +kernel
theorem dX10_leavesBy_61 : decode cX10_leavesBy 61 = .ok (.if_icmp .ge 7, 3) := by decide +kernel
theorem dX10_leavesBy_64 : decode cX10_leavesBy 64 = .ok (.iconst (-1), 1) := by decide +kernel
theorem dX10_leavesBy_65 : decode cX10_leavesBy 65 = .ok (.goto 11, 3) := by decide +kernel
theorem dX10_leavesBy_68 : decode cX10_leavesBy 68 = .ok (.iload_n 3, 1) := by decide +kernel
theorem dX10_leavesBy_69 : decode cX10_leavesBy 69 = .ok (.aload_n 0, 1) := by decide +kernel
theorem dX10_leavesBy_70 : decode cX10_leavesBy 70 = .ok (.getfield 19, 3) := by decide +kernel
theorem dX10_leavesBy_73 : decode cX10_leavesBy 73 = .ok (.iload_n 2, 1) := by decide +kernel
theorem dX10_leavesBy_74 : decode cX10_leavesBy 74 = .ok (.iaload, 1) := by decide +kernel
theorem dX10_leavesBy_75 : decode cX10_leavesBy 75 = .ok (.isub, 1) := by decide +kernel
theorem dX10_leavesBy_76 : decode cX10_leavesBy 76 = .ok (.ireturn, 1) := by decide +kernel
set_option maxRecDepth 20000 in
theorem ggX10_goEarly_X10_stateBehind : GoodIn wsX10_goEarly wsX10_stateBehind := goodIn_r _ [7, 8, 9, 10, 19, 20, 21, 22, 23, 24, 25, 26, 27, 28, 29, 30, 31, 32, 33, 34, 35, 36, 37, 38, 39, 40, 41, 42, 43, 44, 45, 46, 47, 48, 49, 50, 51, 52, 53, 54, 55, 56, 57, 58, 59, 60, 61, 62, 63, 64, 65, 66, 67, 68, 69] (by decide +kernel) (by decide +kernel)
set_option maxRecDepth 20000 in
theorem gX10_goEarly_X10_stateBehind : GoodIn wsX10_goEarly (wsV RX10 243 RX10 yX10_stateBehind wsX10_stateBehind) := goodIn_app (goodIn_of _ (by decide +kernel)) ggX10_goEarly_X10_stateBehind
set_option maxRecDepth 20000 in
theorem ggX10_goEarly_X10_comesBy : GoodIn wsX10_goEarly wsX10_comesBy := goodIn_r _ [14, 15, 16, 17, 2, 18, 19, 20, 21, 22, 23, 24, 25, 26, 27, 28, 29, 30, 31, 32, 33, 34, 35, 36, 37, 38, 39, 40, 41, 42, 43, 44, 45, 46, 47, 48, 49, 50, 51, 52, 53, 54, 55, 56, 57, 58, 59, 60, 61, 62, 63, 64, 65, 66, 67, 68, 69] (by decide +kernel) (by decide +kernel)
set_option maxRecDepth 20000 in
theorem gX10_goEarly_X10_comesBy : GoodIn wsX10_goEarly (wsV RX10 247 RX10 yX10_comesBy wsX10_comesBy) := goodIn_app (goodIn_of _ (by decide +kernel)) ggX10_goEarly_X10_comesBy
theorem dX10_goEarly_0 : decode cX10_goEarly 0 = .ok (.iconst 0, 1) := by decide +kernel
theorem dX10_goEarly_1 : decode cX10_goEarly 1 = .ok (.istore_n 3, 1) := by decide +kernel
theorem dX10_goEarly_2 : decode cX10_goEarly 2 = .ok (.iload_n 3, 1) := by decide +kernel
theorem dX10_goEarly_3 : decode cX10_goEarly 3 = .ok (.sipush 1056, 3) := by decide +kernel
theorem dX10_goEarly_6 : decode cX10_goEarly 6 = .ok (.if_icmp .ge 17, 3) := by decide +kernel
theorem dX10_goEarly_9 : decode cX10_goEarly 9 = .ok (.aload_n 0, 1) := by decide +kernel
theorem dX10_goEarly_10 : decode cX10_goEarly 10 = .ok (.getfield 69, 3) := by decide +kernel
theorem dX10_goEarly_13 : decode cX10_goEarly 13 = .ok (.iload_n 3, 1) := by decide +kernel
theorem dX10_goEarly_14 : decode cX10_goEarly 14 = .ok (.ldc 156, 2) := by decide +kernel
theorem dX10_goEarly_16 : decode cX10_goEarly 16 = .ok (.iastore, 1) := by decide +kernel
theorem dX10_goEarly_17 : decode cX10_goEarly 17 = .ok (.iinc 3 1, 3) := by decide +kernel
theorem dX10_goEarly_20 : decode cX10_goEarly 20 = .ok (.goto (-18), 3) := by decide +kernel
theorem dX10_goEarly_23 : decode cX10_goEarly 23 = .ok (.aload_n 0, 1) := by decide +kernel
theorem dX10_goEarly_24 : decode cX10_goEarly 24 = .ok (.getfield 69, 3) := by decide +kernel
theorem dX10_goEarly_27 : decode cX10_goEarly 27 = .ok (.iload_n 1, 1) := by decide +kernel
theorem dX10_goEarly_28 : decode cX10_goEarly 28 = .ok (.iload_n 2, 1) := by decide +kernel
theorem dX10_goEarly_29 : decode cX10_goEarly 29 = .ok (.iastore, 1) := by decide +kernel
theorem dX10_goEarly_30 : decode cX10_goEarly 30 = .ok (.iconst 0, 1) := by decide +kernel
theorem dX10_goEarly_31 : decode cX10_goEarly 31 = .ok (.istore_n 3, 1) := by decide +kernel
theorem dX10_goEarly_32 : decode cX10_goEarly 32 = .ok (.iload_n 3, 1) := by decide +kernel
theorem dX10_goEarly_33 : decode cX10_goEarly 33 = .ok (.bipush 32, 2) := by decide +kernel
theorem dX10_goEarly_35 : decode cX10_goEarly 35 = .ok (.if_icmp .ge 145, 3) := by decide +kernel
theorem dX10_goEarly_38 : decode cX10_goEarly 38 = .ok (.iconst 0, 1) := by decide +kernel
theorem dX10_goEarly_39 : decode cX10_goEarly 39 = .ok (.istore 4, 2) := by decide +kernel
theorem dX10_goEarly_41 : decode cX10_goEarly 41 = .ok (.iload 4, 2) := by decide +kernel
theorem dX10_goEarly_43 : decode cX10_goEarly 43 = .ok (.bipush 32, 2) := by decide +kernel
theorem dX10_goEarly_45 : decode cX10_goEarly 45 = .ok (.if_icmp .ge 129, 3) := by decide +kernel
theorem dX10_goEarly_48 : decode cX10_goEarly 48 = .ok (.iconst 0, 1) := by decide +kernel
theorem dX10_goEarly_49 : decode cX10_goEarly 49 = .ok (.istore 5, 2) := by decide +kernel
theorem dX10_goEarly_51 : decode cX10_goEarly 51 = .ok (.iload 5, 2) := by decide +kernel
theorem dX10_goEarly_53 : decode cX10_goEarly 53 = .ok (.bipush 30, 2) := by decide +kernel
theorem dX10_goEarly_55 : decode cX10_goEarly 55 = .ok (.if_icmp .gt 113, 3) := by decide +kernel
theorem dX10_goEarly_58 : decode cX10_goEarly 58 = .ok (.aload_n 0, 1) := by decide +kernel
theorem dX10_goEarly_59 : decode cX10_goEarly 59 = .ok (.getfield 69, 3) := by decide +kernel
theorem dX10_goEarly_62 : decode cX10_goEarly 62 = .ok (.bipush 32, 2) := by decide +kernel
theorem dX10_goEarly_64 : decode cX10_goEarly 64 = .ok (.iload_n 3, 1) := by decide +kernel
theorem dX10_goEarly_65 : decode cX10_goEarly 65 = .ok (.imul, 1) := by decide +kernel
theorem dX10_goEarly_66 : decode cX10_goEarly 66 = .ok (.iload 4, 2) := by decide +kernel
theorem dX10_goEarly_68 : decode cX10_goEarly 68 = .ok (.iadd, 1) := by decide +kernel
theorem dX10_goEarly_69 : decode cX10_goEarly 69 = .ok (.iaload, 1) := by decide +kernel
theorem dX10_goEarly_70 : decode cX10_goEarly 70 = .ok (.bipush 120, 2) := by decide +kernel
theorem dX10_goEarly_72 : decode cX10_goEarly 72 = .ok (.if_icmp .gt 96, 3) := by decide +kernel
theorem dX10_goEarly_75 : decode cX10_goEarly 75 = .ok (.aload_n 0, 1) := by decide +kernel
theorem dX10_goEarly_76 : decode cX10_goEarly 76 = .ok (.iload 4, 2) := by decide +kernel
theorem dX10_goEarly_78 : decode cX10_goEarly 78 = .ok (.iload 5, 2) := by decide +kernel
theorem dX10_goEarly_80 : decode cX10_goEarly 80 = .ok (.invokevirtual 243, 3) := by decide +kernel
theorem dX10_goEarly_83 : decode cX10_goEarly 83 = .ok (.istore 6, 2) := by decide +kernel
theorem dX10_goEarly_85 : decode cX10_goEarly 85 = .ok (.iload 6, 2) := by decide +kernel
theorem dX10_goEarly_87 : decode cX10_goEarly 87 = .ok (.iconst (-1), 1) := by decide +kernel
theorem dX10_goEarly_88 : decode cX10_goEarly 88 = .ok (.if_icmp .ne 8, 3) := by decide +kernel
theorem dX10_goEarly_91 : decode cX10_goEarly 91 = .ok (.ldc 156, 2) := by decide +kernel
theorem dX10_goEarly_93 : decode cX10_goEarly 93 = .ok (.goto 23, 3) := by decide +kernel
theorem dX10_goEarly_96 : decode cX10_goEarly 96 = .ok (.aload_n 0, 1) := by decide +kernel
theorem dX10_goEarly_97 : decode cX10_goEarly 97 = .ok (.iload 4, 2) := by decide +kernel
theorem dX10_goEarly_99 : decode cX10_goEarly 99 = .ok (.iload 5, 2) := by decide +kernel
theorem dX10_goEarly_101 : decode cX10_goEarly 101 = .ok (.aload_n 0, 1) := by decide +kernel
theorem dX10_goEarly_102 : decode cX10_goEarly 102 = .ok (.getfield 69, 3) := by decide +kernel
theorem dX10_goEarly_105 : decode cX10_goEarly 105 = .ok (.bipush 32, 2) := by decide +kernel
theorem dX10_goEarly_107 : decode cX10_goEarly 107 = .ok (.iload_n 3, 1) := by decide +kernel
theorem dX10_goEarly_108 : decode cX10_goEarly 108 = .ok (.imul, 1) := by decide +kernel
theorem dX10_goEarly_109 : decode cX10_goEarly 109 = .ok (.iload 4, 2) := by decide +kernel
theorem dX10_goEarly_111 : decode cX10_goEarly 111 = .ok (.iadd, 1) := by decide +kernel
theorem dX10_goEarly_112 : decode cX10_goEarly 112 = .ok (.iaload, 1) := by decide +kernel
theorem dX10_goEarly_113 : decode cX10_goEarly 113 = .ok (.invokevirtual 247, 3) := by decide +kernel
theorem dX10_goEarly_116 : decode cX10_goEarly 116 = .ok (.istore 7, 2) := by decide +kernel
theorem dX10_goEarly_118 : decode cX10_goEarly 118 = .ok (.iload 7, 2) := by decide +kernel
theorem dX10_goEarly_120 : decode cX10_goEarly 120 = .ok (.bipush 120, 2) := by decide +kernel
theorem dX10_goEarly_122 : decode cX10_goEarly 122 = .ok (.if_icmp .gt 40, 3) := by decide +kernel
theorem dX10_goEarly_125 : decode cX10_goEarly 125 = .ok (.iload 7, 2) := by decide +kernel
theorem dX10_goEarly_127 : decode cX10_goEarly 127 = .ok (.aload_n 0, 1) := by decide +kernel
theorem dX10_goEarly_128 : decode cX10_goEarly 128 = .ok (.getfield 69, 3) := by decide +kernel
theorem dX10_goEarly_131 : decode cX10_goEarly 131 = .ok (.bipush 32, 2) := by decide +kernel
theorem dX10_goEarly_133 : decode cX10_goEarly 133 = .ok (.iload_n 3, 1) := by decide +kernel
theorem dX10_goEarly_134 : decode cX10_goEarly 134 = .ok (.imul, 1) := by decide +kernel
theorem dX10_goEarly_135 : decode cX10_goEarly 135 = .ok (.bipush 32, 2) := by decide +kernel
theorem dX10_goEarly_137 : decode cX10_goEarly 137 = .ok (.iadd, 1) := by decide +kernel
theorem dX10_goEarly_138 : decode cX10_goEarly 138 = .ok (.iload 6, 2) := by decide +kernel
theorem dX10_goEarly_140 : decode cX10_goEarly 140 = .ok (.iadd, 1) := by decide +kernel
theorem dX10_goEarly_141 : decode cX10_goEarly 141 = .ok (.iaload, 1) := by decide +kernel
theorem dX10_goEarly_142 : decode cX10_goEarly 142 = .ok (.if_icmp .ge 20, 3) := by decide +kernel
theorem dX10_goEarly_145 : decode cX10_goEarly 145 = .ok (.aload_n 0, 1) := by decide +kernel
theorem dX10_goEarly_146 : decode cX10_goEarly 146 = .ok (.getfield 69, 3) := by decide +kernel
theorem dX10_goEarly_149 : decode cX10_goEarly 149 = .ok (.bipush 32, 2) := by decide +kernel
theorem dX10_goEarly_151 : decode cX10_goEarly 151 = .ok (.iload_n 3, 1) := by decide +kernel
theorem dX10_goEarly_152 : decode cX10_goEarly 152 = .ok (.imul, 1) := by decide +kernel
theorem dX10_goEarly_153 : decode cX10_goEarly 153 = .ok (.bipush 32, 2) := by decide +kernel
theorem dX10_goEarly_155 : decode cX10_goEarly 155 = .ok (.iadd, 1) := by decide +kernel
theorem dX10_goEarly_156 : decode cX10_goEarly 156 = .ok (.iload 6, 2) := by decide +kernel
theorem dX10_goEarly_158 : decode cX10_goEarly 158 = .ok (.iadd, 1) := by decide +kernel
theorem dX10_goEarly_159 : decode cX10_goEarly 159 = .ok (.iload 7, 2) := by decide +kernel
theorem dX10_goEarly_161 : decode cX10_goEarly 161 = .ok (.iastore, 1) := by decide +kernel
theorem dX10_goEarly_162 : decode cX10_goEarly 162 = .ok (.iinc 5 1, 3) := by decide +kernel
theorem dX10_goEarly_165 : decode cX10_goEarly 165 = .ok (.goto (-114), 3) := by decide +kernel
theorem dX10_goEarly_168 : decode cX10_goEarly 168 = .ok (.iinc 4 1, 3) := by decide +kernel
theorem dX10_goEarly_171 : decode cX10_goEarly 171 = .ok (.goto (-130), 3) := by decide +kernel
theorem dX10_goEarly_174 : decode cX10_goEarly 174 = .ok (.iinc 3 1, 3) := by decide +kernel
theorem dX10_goEarly_177 : decode cX10_goEarly 177 = .ok (.goto (-145), 3) := by decide +kernel
theorem dX10_goEarly_180 : decode cX10_goEarly 180 = .ok (.return_, 1) := by decide +kernel
set_option maxRecDepth 20000 in
theorem ggX10_goLate_X10_stateBehind : GoodIn wsX10_goLate wsX10_stateBehind := goodIn_r _ [6, 7, 8, 9, 18, 19, 20, 21, 22, 23, 24, 25, 26, 27, 28, 29, 30, 31, 32, 33, 34, 35, 36, 37, 38, 39, 40, 41, 42, 43, 44, 45, 46, 47, 48, 49, 50, 51, 52, 53, 54, 55, 56, 57, 58, 59, 60, 61, 62, 63, 64, 65, 66, 67, 68] (by decide +kernel) (by decide +kernel)
set_option maxRecDepth 20000 in
theorem gX10_goLate_X10_stateBehind : GoodIn wsX10_goLate (wsV RX10 243 RX10 yX10_stateBehind wsX10_stateBehind) := goodIn_app (goodIn_of _ (by decide +kernel)) ggX10_goLate_X10_stateBehind
set_option maxRecDepth 20000 in
theorem ggX10_goLate_X10_leavesBy : GoodIn wsX10_goLate wsX10_leavesBy := goodIn_r _ [13, 14, 15, 16, 17, 18, 19, 20, 21, 22, 23, 24, 25, 26, 27, 28, 29, 30, 31, 32, 33, 34, 35, 36, 37, 38, 39, 40, 41, 42, 43, 44, 45, 46, 47, 48, 49, 50, 51, 52, 53, 54, 55, 56, 57, 58, 59, 60, 61, 62, 63, 64, 65, 66, 67, 68] (by decide +kernel) (by decide +kernel)
set_option maxRecDepth 20000 in
theorem gX10_goLate_X10_leavesBy : GoodIn wsX10_goLate (wsV RX10 251 RX10 yX10_leavesBy wsX10_leavesBy) := goodIn_app (goodIn_of _ (by decide +kernel)) ggX10_goLate_X10_leavesBy
theorem dX10_goLate_0 : decode cX10_goLate 0 = .ok (.iconst 0, 1) := by decide +kernel
theorem dX10_goLate_1 : decode cX10_goLate 1 = .ok (.istore 4, 2) := by decide +kernel
theorem dX10_goLate_3 : decode cX10_goLate 3 = .ok (.iload 4, 2) := by decide +kernel
theorem dX10_goLate_5 : decode cX10_goLate 5 = .ok (.bipush 32, 2) := by decide +kernel
theorem dX10_goLate_7 : decode cX10_goLate 7 = .ok (.if_icmp .ge 30, 3) := by decide +kernel
theorem dX10_goLate_10 : decode cX10_goLate 10 = .ok (.aload_n 0, 1) := by decide +kernel
theorem dX10_goLate_11 : decode cX10_goLate 11 = .ok (.getfield 72, 3) := by decide +kernel
theorem dX10_goLate_14 : decode cX10_goLate 14 = .ok (.iload 4, 2) := by decide +kernel
theorem dX10_goLate_16 : decode cX10_goLate 16 = .ok (.iload 4, 2) := by decide +kernel
theorem dX10_goLate_18 : decode cX10_goLate 18 = .ok (.bipush 16, 2) := by decide +kernel
theorem dX10_goLate_20 : decode cX10_goLate 20 = .ok (.irem, 1) := by decide +kernel
theorem dX10_goLate_21 : decode cX10_goLate 21 = .ok (.iload_n 1, 1) := by decide +kernel
theorem dX10_goLate_22 : decode cX10_goLate 22 = .ok (.if_icmp .ne 7, 3) := by decide +kernel
theorem dX10_goLate_25 : decode cX10_goLate 25 = .ok (.iload_n 2, 1) := by decide +kernel
theorem dX10_goLate_26 : decode cX10_goLate 26 = .ok (.goto 4, 3) := by decide +kernel
theorem dX10_goLate_29 : decode cX10_goLate 29 = .ok (.iconst (-1), 1) := by decide +kernel
theorem dX10_goLate_30 : decode cX10_goLate 30 = .ok (.iastore, 1) := by decide +kernel
theorem dX10_goLate_31 : decode cX10_goLate 31 = .ok (.iinc 4 1, 3) := by decide +kernel
theorem dX10_goLate_34 : decode cX10_goLate 34 = .ok (.goto (-31), 3) := by decide +kernel
theorem dX10_goLate_37 : decode cX10_goLate 37 = .ok (.iconst 1, 1) := by decide +kernel
theorem dX10_goLate_38 : decode cX10_goLate 38 = .ok (.istore 4, 2) := by decide +kernel
theorem dX10_goLate_40 : decode cX10_goLate 40 = .ok (.iload 4, 2) := by decide +kernel
theorem dX10_goLate_42 : decode cX10_goLate 42 = .ok (.iload_n 3, 1) := by decide +kernel
theorem dX10_goLate_43 : decode cX10_goLate 43 = .ok (.if_icmp .gt 163, 3) := by decide +kernel
theorem dX10_goLate_46 : decode cX10_goLate 46 = .ok (.iconst 0, 1) := by decide +kernel
theorem dX10_goLate_47 : decode cX10_goLate 47 = .ok (.istore 5, 2) := by decide +kernel
theorem dX10_goLate_49 : decode cX10_goLate 49 = .ok (.iload 5, 2) := by decide +kernel
theorem dX10_goLate_51 : decode cX10_goLate 51 = .ok (.bipush 32, 2) := by decide +kernel
theorem dX10_goLate_53 : decode cX10_goLate 53 = .ok (.if_icmp .ge 147, 3) := by decide +kernel
theorem dX10_goLate_56 : decode cX10_goLate 56 = .ok (.aload_n 0, 1) := by decide +kernel
theorem dX10_goLate_57 : decode cX10_goLate 57 = .ok (.getfield 72, 3) := by decide +kernel
theorem dX10_goLate_60 : decode cX10_goLate 60 = .ok (.bipush 32, 2) := by decide +kernel
theorem dX10_goLate_62 : decode cX10_goLate 62 = .ok (.iload 4, 2) := by decide +kernel
theorem dX10_goLate_64 : decode cX10_goLate 64 = .ok (.imul, 1) := by decide +kernel
theorem dX10_goLate_65 : decode cX10_goLate 65 = .ok (.iload 5, 2) := by decide +kernel
theorem dX10_goLate_67 : decode cX10_goLate 67 = .ok (.iadd, 1) := by decide +kernel
theorem dX10_goLate_68 : decode cX10_goLate 68 = .ok (.iconst (-1), 1) := by decide +kernel
theorem dX10_goLate_69 : decode cX10_goLate 69 = .ok (.iastore, 1) := by decide +kernel
theorem dX10_goLate_70 : decode cX10_goLate 70 = .ok (.iconst 0, 1) := by decide +kernel
theorem dX10_goLate_71 : decode cX10_goLate 71 = .ok (.istore 6, 2) := by decide +kernel
theorem dX10_goLate_73 : decode cX10_goLate 73 = .ok (.iload 6, 2) := by decide +kernel
theorem dX10_goLate_75 : decode cX10_goLate 75 = .ok (.bipush 30, 2) := by decide +kernel
theorem dX10_goLate_77 : decode cX10_goLate 77 = .ok (.if_icmp .gt 117, 3) := by decide +kernel
theorem dX10_goLate_80 : decode cX10_goLate 80 = .ok (.aload_n 0, 1) := by decide +kernel
theorem dX10_goLate_81 : decode cX10_goLate 81 = .ok (.iload 5, 2) := by decide +kernel
theorem dX10_goLate_83 : decode cX10_goLate 83 = .ok (.iload 6, 2) := by decide +kernel
theorem dX10_goLate_85 : decode cX10_goLate 85 = .ok (.invokevirtual 243, 3) := by decide +kernel
theorem dX10_goLate_88 : decode cX10_goLate 88 = .ok (.istore 7, 2) := by decide +kernel
theorem dX10_goLate_90 : decode cX10_goLate 90 = .ok (.iload 7, 2) := by decide +kernel
theorem dX10_goLate_92 : decode cX10_goLate 92 = .ok (.iconst (-1), 1) := by decide +kernel
theorem dX10_goLate_93 : decode cX10_goLate 93 = .ok (.if_icmp .ne 7, 3) := by decide +kernel
theorem dX10_goLate_96 : decode cX10_goLate 96 = .ok (.iconst (-1), 1) := by decide +kernel
theorem dX10_goLate_97 : decode cX10_goLate 97 = .ok (.goto 19, 3) := by decide +kernel
theorem dX10_goLate_100 : decode cX10_goLate 100 = .ok (.aload_n 0, 1) := by decide +kernel
theorem dX10_goLate_101 : decode cX10_goLate 101 = .ok (.getfield 72, 3) := by decide +kernel
theorem dX10_goLate_104 : decode cX10_goLate 104 = .ok (.bipush 32, 2) := by decide +kernel
theorem dX10_goLate_106 : decode cX10_goLate 106 = .ok (.iload 4, 2) := by decide +kernel
theorem dX10_goLate_108 : decode cX10_goLate 108 = .ok (.imul, 1) := by decide +kernel
theorem dX10_goLate_109 : decode cX10_goLate 109 = .ok (.bipush 32, 2) := by decide +kernel
theorem dX10_goLate_111 : decode cX10_goLate 111 = .ok (.isub, 1) := by decide +kernel
theorem dX10_goLate_112 : decode cX10_goLate 112 = .ok (.iload 7, 2) := by decide +kernel
theorem dX10_goLate_114 : decode cX10_goLate 114 = .ok (.iadd, 1) := by decide +kernel
theorem dX10_goLate_115 : decode cX10_goLate 115 = .ok (.iaload, 1) := by decide +kernel
theorem dX10_goLate_116 : decode cX10_goLate 116 = .ok (.istore 8, 2) := by decide +kernel
theorem dX10_goLate_118 : decode cX10_goLate 118 = .ok (.iload 8, 2) := by decide +kernel
theorem dX10_goLate_120 : decode cX10_goLate 120 = .ok (.ifCond .ge 7, 3) := by decide +kernel
theorem dX10_goLate_123 : decode cX10_goLate 123 = .ok (.iconst (-1), 1) := by decide +kernel
theorem dX10_goLate_124 : decode cX10_goLate 124 = .ok (.goto 13, 3) := by decide +kernel
theorem dX10_goLate_127 : decode cX10_goLate 127 = .ok (.aload_n 0, 1) := by decide +kernel
theorem dX10_goLate_128 : decode cX10_goLate 128 = .ok (.iload 5, 2) := by decide +kernel
theorem dX10_goLate_130 : decode cX10_goLate 130 = .ok (.iload 6, 2) := by decide +kernel
theorem dX10_goLate_132 : decode cX10_goLate 132 = .ok (.iload 8, 2) := by decide +kernel
theorem dX10_goLate_134 : decode cX10_goLate 134 = .ok (.invokevirtual 251, 3) := by decide +kernel
theorem dX10_goLate_137 : decode cX10_goLate 137 = .ok (.istore 9, 2) := by decide +kernel
theorem dX10_goLate_139 : decode cX10_goLate 139 = .ok (.aload_n 0, 1) := by decide +kernel
theorem dX10_goLate_140 : decode cX10_goLate 140 = .ok (.getfield 72, 3) := by decide +kernel
theorem dX10_goLate_143 : decode cX10_goLate 143 = .ok (.bipush 32, 2) := by decide +kernel
theorem dX10_goLate_145 : decode cX10_goLate 145 = .ok (.iload 4, 2) := by decide +kernel
theorem dX10_goLate_147 : decode cX10_goLate 147 = .ok (.imul, 1) := by decide +kernel
theorem dX10_goLate_148 : decode cX10_goLate 148 = .ok (.iload 5, 2) := by decide +kernel
theorem dX10_goLate_150 : decode cX10_goLate 150 = .ok (.iadd, 1) := by decide +kernel
theorem dX10_goLate_151 : decode cX10_goLate 151 = .ok (.iload 9, 2) := by decide +kernel
theorem dX10_goLate_153 : decode cX10_goLate 153 = .ok (.aload_n 0, 1) := by decide +kernel
theorem dX10_goLate_154 : decode cX10_goLate 154 = .ok (.getfield 72, 3) := by decide +kernel
theorem dX10_goLate_157 : decode cX10_goLate 157 = .ok (.bipush 32, 2) := by decide +kernel
theorem dX10_goLate_159 : decode cX10_goLate 159 = .ok (.iload 4, 2) := by decide +kernel
theorem dX10_goLate_161 : decode cX10_goLate 161 = .ok (.imul, 1) := by decide +kernel
theorem dX10_goLate_162 : decode cX10_goLate 162 = .ok (.iload 5, 2) := by decide +kernel
theorem dX10_goLate_164 : decode cX10_goLate 164 = .ok (.iadd, 1) := by decide +kernel
theorem dX10_goLate_165 : decode cX10_goLate 165 = .ok (.iaload, 1) := by decide +kernel
theorem dX10_goLate_166 : decode cX10_goLate 166 = .ok (.if_icmp .le 8, 3) := by decide +kernel
theorem dX10_goLate_169 : decode cX10_goLate 169 = .ok (.iload 9, 2) := by decide +kernel
theorem dX10_goLate_171 : decode cX10_goLate 171 = .ok (.goto 16, 3) := by decide +kernel
theorem dX10_goLate_174 : decode cX10_goLate 174 = .ok (.aload_n 0, 1) := by decide +kernel
theorem dX10_goLate_175 : decode cX10_goLate 175 = .ok (.getfield 72, 3) := by decide +kernel
theorem dX10_goLate_178 : decode cX10_goLate 178 = .ok (.bipush 32, 2) := by decide +kernel
theorem dX10_goLate_180 : decode cX10_goLate 180 = .ok (.iload 4, 2) := by decide +kernel
theorem dX10_goLate_182 : decode cX10_goLate 182 = .ok (.imul, 1) := by decide +kernel
theorem dX10_goLate_183 : decode cX10_goLate 183 = .ok (.iload 5, 2) := by decide +kernel
theorem dX10_goLate_185 : decode cX10_goLate 185 = .ok (.iadd, 1) := by decide +kernel
theorem dX10_goLate_186 : decode cX10_goLate 186 = .ok (.iaload, 1) := by decide +kernel
theorem dX10_goLate_187 : decode cX10_goLate 187 = .ok (.iastore, 1) := by decide +kernel
theorem dX10_goLate_188 : decode cX10_goLate 188 = .ok (.iinc 6 1, 3) := by decide +kernel
theorem dX10_goLate_191 : decode cX10_goLate 191 = .ok (.goto (-118), 3) := by decide +kernel
theorem dX10_goLate_194 : decode cX10_goLate 194 = .ok (.iinc 5 1, 3) := by decide +kernel
theorem dX10_goLate_197 : decode cX10_goLate 197 = .ok (.goto (-148), 3) := by decide +kernel
theorem dX10_goLate_200 : decode cX10_goLate 200 = .ok (.iinc 4 1, 3) := by decide +kernel
theorem dX10_goLate_203 : decode cX10_goLate 203 = .ok (.goto (-163), 3) := by decide +kernel
theorem dX10_goLate_206 : decode cX10_goLate 206 = .ok (.return_, 1) := by decide +kernel
set_option maxRecDepth 20000 in
theorem ggX10_way_X10_isPlace : GoodIn wsX10_way wsX10_isPlace := goodIn_r _ [10, 11, 12, 13, 9, 14] (by decide +kernel) (by decide +kernel)
set_option maxRecDepth 20000 in
theorem gX10_way_X10_isPlace : GoodIn wsX10_way (va_wsS RX10 140 yX10_isPlace wsX10_isPlace) := goodIn_app (goodIn_of _ (by decide +kernel)) ggX10_way_X10_isPlace
set_option maxRecDepth 20000 in
theorem ggX10_way_X10_isHour : GoodIn wsX10_way wsX10_isHour := goodIn_r _ [17, 18, 12, 13, 9, 14] (by decide +kernel) (by decide +kernel)
set_option maxRecDepth 20000 in
theorem gX10_way_X10_isHour : GoodIn wsX10_way (va_wsS RX10 237 yX10_isHour wsX10_isHour) := goodIn_app (goodIn_of _ (by decide +kernel)) ggX10_way_X10_isHour
set_option maxRecDepth 20000 in
theorem ggX10_way_X10_told : GoodIn wsX10_way wsX10_told := goodIn_r _ [22, 23, 65, 66, 67, 68, 69, 70, 71, 72, 73, 74, 75, 76, 77, 78, 79, 80, 81, 82, 83, 84, 85, 86, 87, 88, 89, 90, 91, 92, 93, 94, 95, 96, 97, 98, 99, 100, 101, 102, 103, 104, 105, 106, 107, 108, 109, 110, 111, 112, 113, 114, 115] (by decide +kernel) (by decide +kernel)
set_option maxRecDepth 20000 in
theorem gX10_way_X10_told : GoodIn wsX10_way (wsV RX10 148 RX10 yX10_told wsX10_told) := goodIn_app (goodIn_of _ (by decide +kernel)) ggX10_way_X10_told
set_option maxRecDepth 20000 in
theorem ggX10_way_X10_reckon : GoodIn wsX10_way wsX10_reckon := goodIn_r _ [27, 28, 2, 29, 30, 31, 32, 33, 34, 35, 36, 37, 38, 39, 65, 66, 67, 68, 69, 70, 71, 72, 73, 74, 75, 76, 77, 78, 79, 80, 81, 82, 83, 84, 85, 86, 87, 88, 89, 90, 91, 92, 93, 94, 95, 96, 97, 98, 99, 100, 101, 102, 103, 104, 105, 106, 107, 108, 109, 110, 111, 112, 113, 114, 115] (by decide +kernel) (by decide +kernel)
set_option maxRecDepth 20000 in
theorem gX10_way_X10_reckon : GoodIn wsX10_way (wsV RX10 234 RX10 yX10_reckon wsX10_reckon) := goodIn_app (goodIn_of _ (by decide +kernel)) ggX10_way_X10_reckon
set_option maxRecDepth 20000 in
theorem ggX10_way_X10_goEarly : GoodIn wsX10_way wsX10_goEarly := goodIn_r _ [43, 3, 2, 44, 45, 46, 9, 47, 48, 49, 50, 51, 52, 53, 54, 55, 56, 28, 29, 65, 66, 67, 68, 69, 70, 71, 72, 73, 74, 75, 76, 77, 78, 79, 80, 81, 82, 83, 84, 85, 86, 87, 88, 89, 90, 91, 92, 93, 94, 95, 96, 97, 98, 99, 100, 101, 102, 103, 104, 105, 106, 107, 108, 109, 110, 111, 112, 113, 114, 115] (by decide +kernel) (by decide +kernel)
set_option maxRecDepth 20000 in
theorem gX10_way_X10_goEarly : GoodIn wsX10_way (wsV RX10 254 RX10 yX10_goEarly wsX10_goEarly) := goodIn_app (goodIn_of _ (by decide +kernel)) ggX10_way_X10_goEarly
set_option maxRecDepth 20000 in
theorem ggX10_way_X10_goLate : GoodIn wsX10_way wsX10_goLate := goodIn_r _ [60, 4, 44, 45, 46, 9, 47, 48, 49, 50, 61, 62, 63, 64, 55, 28, 56, 29, 65, 66, 67, 68, 69, 70, 71, 72, 73, 74, 75, 76, 77, 78, 79, 80, 81, 82, 83, 84, 85, 86, 87, 88, 89, 90, 91, 92, 93, 94, 95, 96, 97, 98, 99, 100, 101, 102, 103, 104, 105, 106, 107, 108, 109, 110, 111, 112, 113, 114, 115] (by decide +kernel) (by decide +kernel)
set_option maxRecDepth 20000 in
theorem gX10_way_X10_goLate : GoodIn wsX10_way (wsV RX10 258 RX10 yX10_goLate wsX10_goLate) := goodIn_app (goodIn_of _ (by decide +kernel)) ggX10_way_X10_goLate
set_option maxRecDepth 20000 in
theorem ggX10_way_X10_stateBehind : GoodIn wsX10_way wsX10_stateBehind := goodIn_r _ [47, 48, 49, 50, 65, 66, 67, 68, 69, 70, 71, 72, 73, 74, 75, 76, 77, 78, 79, 80, 81, 82, 83, 84, 85, 86, 87, 88, 89, 90, 91, 92, 93, 94, 95, 96, 97, 98, 99, 100, 101, 102, 103, 104, 105, 106, 107, 108, 109, 110, 111, 112, 113, 114, 115] (by decide +kernel) (by decide +kernel)
set_option maxRecDepth 20000 in
theorem gX10_way_X10_stateBehind : GoodIn wsX10_way (wsV RX10 243 RX10 yX10_stateBehind wsX10_stateBehind) := goodIn_app (goodIn_of _ (by decide +kernel)) ggX10_way_X10_stateBehind
set_option maxRecDepth 20000 in
theorem ggX10_way_X10_comesBy : GoodIn wsX10_way wsX10_comesBy := goodIn_r _ [54, 55, 56, 28, 2, 29, 65, 66, 67, 68, 69, 70, 71, 72, 73, 74, 75, 76, 77, 78, 79, 80, 81, 82, 83, 84, 85, 86, 87, 88, 89, 90, 91, 92, 93, 94, 95, 96, 97, 98, 99, 100, 101, 102, 103, 104, 105, 106, 107, 108, 109, 110, 111, 112, 113, 114, 115] (by decide +kernel) (by decide +kernel)
set_option maxRecDepth 20000 in
theorem gX10_way_X10_comesBy : GoodIn wsX10_way (wsV RX10 247 RX10 yX10_comesBy wsX10_comesBy) := goodIn_app (goodIn_of _ (by decide +kernel)) ggX10_way_X10_comesBy
theorem dX10_way_0 : decode cX10_way 0 = .ok (.aload_n 0, 1) := by decide +kernel
theorem dX10_way_1 : decode cX10_way 1 = .ok (.iconst 0, 1) := by decide +kernel
theorem dX10_way_2 : decode cX10_way 2 = .ok (.putfield 123, 3) := by decide +kernel
theorem dX10_way_5 : decode cX10_way 5 = .ok (.iload_n 1, 1) := by decide +kernel
theorem dX10_way_6 : decode cX10_way 6 = .ok (.invokestatic 140, 3) := by decide +kernel
theorem dX10_way_9 : decode cX10_way 9 = .ok (.ifCond .eq 18, 3) := by decide +kernel
theorem dX10_way_12 : decode cX10_way 12 = .ok (.iload 4, 2) := by decide +kernel
theorem dX10_way_14 : decode cX10_way 14 = .ok (.invokestatic 140, 3) := by decide +kernel
theorem dX10_way_17 : decode cX10_way 17 = .ok (.ifCond .eq 10, 3) := by decide +kernel
theorem dX10_way_20 : decode cX10_way 20 = .ok (.iload_n 2, 1) := by decide +kernel
theorem dX10_way_21 : decode cX10_way 21 = .ok (.invokestatic 237, 3) := by decide +kernel
theorem dX10_way_24 : decode cX10_way 24 = .ok (.ifCond .ne 9, 3) := by decide +kernel
theorem dX10_way_27 : decode cX10_way 27 = .ok (.aload_n 0, 1) := by decide +kernel
theorem dX10_way_28 : decode cX10_way 28 = .ok (.iconst (-1), 1) := by decide +kernel
theorem dX10_way_29 : decode cX10_way 29 = .ok (.invokevirtual 148, 3) := by decide +kernel
theorem dX10_way_32 : decode cX10_way 32 = .ok (.ireturn, 1) := by decide +kernel
theorem dX10_way_33 : decode cX10_way 33 = .ok (.aload_n 0, 1) := by decide +kernel
theorem dX10_way_34 : decode cX10_way 34 = .ok (.invokevirtual 234, 3) := by decide +kernel
theorem dX10_way_37 : decode cX10_way 37 = .ok (.iload_n 1, 1) := by decide +kernel
theorem dX10_way_38 : decode cX10_way 38 = .ok (.iload_n 3, 1) := by decide +kernel
theorem dX10_way_39 : decode cX10_way 39 = .ok (.ifCond .eq 8, 3) := by decide +kernel
theorem dX10_way_42 : decode cX10_way 42 = .ok (.bipush 16, 2) := by decide +kernel
theorem dX10_way_44 : decode cX10_way 44 = .ok (.goto 4, 3) := by decide +kernel
theorem dX10_way_47 : decode cX10_way 47 = .ok (.iconst 0, 1) := by decide +kernel
theorem dX10_way_48 : decode cX10_way 48 = .ok (.iadd, 1) := by decide +kernel
theorem dX10_way_49 : decode cX10_way 49 = .ok (.istore 5, 2) := by decide +kernel
theorem dX10_way_51 : decode cX10_way 51 = .ok (.aload_n 0, 1) := by decide +kernel
theorem dX10_way_52 : decode cX10_way 52 = .ok (.iload 5, 2) := by decide +kernel
theorem dX10_way_54 : decode cX10_way 54 = .ok (.iload_n 2, 1) := by decide +kernel
theorem dX10_way_55 : decode cX10_way 55 = .ok (.invokevirtual 254, 3) := by decide +kernel
theorem dX10_way_58 : decode cX10_way 58 = .ok (.ldc 156, 2) := by decide +kernel
theorem dX10_way_60 : decode cX10_way 60 = .ok (.istore 6, 2) := by decide +kernel
theorem dX10_way_62 : decode cX10_way 62 = .ok (.iconst 0, 1) := by decide +kernel
theorem dX10_way_63 : decode cX10_way 63 = .ok (.istore 7, 2) := by decide +kernel
theorem dX10_way_65 : decode cX10_way 65 = .ok (.iconst 0, 1) := by decide +kernel
theorem dX10_way_66 : decode cX10_way 66 = .ok (.istore 8, 2) := by decide +kernel
theorem dX10_way_68 : decode cX10_way 68 = .ok (.iload 8, 2) := by decide +kernel
theorem dX10_way_70 : decode cX10_way 70 = .ok (.bipush 32, 2) := by decide +kernel
theorem dX10_way_72 : decode cX10_way 72 = .ok (.if_icmp .gt 63, 3) := by decide +kernel
theorem dX10_way_75 : decode cX10_way 75 = .ok (.iload 4, 2) := by decide +kernel
theorem dX10_way_77 : decode cX10_way 77 = .ok (.istore 9, 2) := by decide +kernel
theorem dX10_way_79 : decode cX10_way 79 = .ok (.iload 9, 2) := by decide +kernel
theorem dX10_way_81 : decode cX10_way 81 = .ok (.bipush 32, 2) := by decide +kernel
theorem dX10_way_83 : decode cX10_way 83 = .ok (.if_icmp .ge 46, 3) := by decide +kernel
theorem dX10_way_86 : decode cX10_way 86 = .ok (.aload_n 0, 1) := by decide +kernel
theorem dX10_way_87 : decode cX10_way 87 = .ok (.getfield 69, 3) := by decide +kernel
theorem dX10_way_90 : decode cX10_way 90 = .ok (.bipush 32, 2) := by decide +kernel
theorem dX10_way_92 : decode cX10_way 92 = .ok (.iload 8, 2) := by decide +kernel
theorem dX10_way_94 : decode cX10_way 94 = .ok (.imul, 1) := by decide +kernel
theorem dX10_way_95 : decode cX10_way 95 = .ok (.iload 9, 2) := by decide +kernel
theorem dX10_way_97 : decode cX10_way 97 = .ok (.iadd, 1) := by decide +kernel
theorem dX10_way_98 : decode cX10_way 98 = .ok (.iaload, 1) := by decide +kernel
theorem dX10_way_99 : decode cX10_way 99 = .ok (.iload 6, 2) := by decide +kernel
theorem dX10_way_101 : decode cX10_way 101 = .ok (.if_icmp .ge 22, 3) := by decide +kernel
theorem dX10_way_104 : decode cX10_way 104 = .ok (.aload_n 0, 1) := by decide +kernel
theorem dX10_way_105 : decode cX10_way 105 = .ok (.getfield 69, 3) := by decide +kernel
theorem dX10_way_108 : decode cX10_way 108 = .ok (.bipush 32, 2) := by decide +kernel
theorem dX10_way_110 : decode cX10_way 110 = .ok (.iload 8, 2) := by decide +kernel
theorem dX10_way_112 : decode cX10_way 112 = .ok (.imul, 1) := by decide +kernel
theorem dX10_way_113 : decode cX10_way 113 = .ok (.iload 9, 2) := by decide +kernel
theorem dX10_way_115 : decode cX10_way 115 = .ok (.iadd, 1) := by decide +kernel
theorem dX10_way_116 : decode cX10_way 116 = .ok (.iaload, 1) := by decide +kernel
theorem dX10_way_117 : decode cX10_way 117 = .ok (.istore 6, 2) := by decide +kernel
theorem dX10_way_119 : decode cX10_way 119 = .ok (.iload 8, 2) := by decide +kernel
theorem dX10_way_121 : decode cX10_way 121 = .ok (.istore 7, 2) := by decide +kernel
theorem dX10_way_123 : decode cX10_way 123 = .ok (.iinc 9 16, 3) := by decide +kernel
theorem dX10_way_126 : decode cX10_way 126 = .ok (.goto (-47), 3) := by decide +kernel
theorem dX10_way_129 : decode cX10_way 129 = .ok (.iinc 8 1, 3) := by decide +kernel
theorem dX10_way_132 : decode cX10_way 132 = .ok (.goto (-64), 3) := by decide +kernel
theorem dX10_way_135 : decode cX10_way 135 = .ok (.iload 6, 2) := by decide +kernel
theorem dX10_way_137 : decode cX10_way 137 = .ok (.bipush 120, 2) := by decide +kernel
theorem dX10_way_139 : decode cX10_way 139 = .ok (.if_icmp .le 10, 3) := by decide +kernel
theorem dX10_way_142 : decode cX10_way 142 = .ok (.aload_n 0, 1) := by decide +kernel
theorem dX10_way_143 : decode cX10_way 143 = .ok (.bipush (-6), 2) := by decide +kernel
theorem dX10_way_145 : decode cX10_way 145 = .ok (.invokevirtual 148, 3) := by decide +kernel
theorem dX10_way_148 : decode cX10_way 148 = .ok (.ireturn, 1) := by decide +kernel
theorem dX10_way_149 : decode cX10_way 149 = .ok (.aload_n 0, 1) := by decide +kernel
theorem dX10_way_150 : decode cX10_way 150 = .ok (.iload 4, 2) := by decide +kernel
theorem dX10_way_152 : decode cX10_way 152 = .ok (.iload 6, 2) := by decide +kernel
theorem dX10_way_154 : decode cX10_way 154 = .ok (.iload 7, 2) := by decide +kernel
theorem dX10_way_156 : decode cX10_way 156 = .ok (.invokevirtual 258, 3) := by decide +kernel
theorem dX10_way_159 : decode cX10_way 159 = .ok (.iload_n 2, 1) := by decide +kernel
theorem dX10_way_160 : decode cX10_way 160 = .ok (.istore 8, 2) := by decide +kernel
theorem dX10_way_162 : decode cX10_way 162 = .ok (.iconst 0, 1) := by decide +kernel
theorem dX10_way_163 : decode cX10_way 163 = .ok (.istore 9, 2) := by decide +kernel
theorem dX10_way_165 : decode cX10_way 165 = .ok (.iload 9, 2) := by decide +kernel
theorem dX10_way_167 : decode cX10_way 167 = .ok (.iload 7, 2) := by decide +kernel
theorem dX10_way_169 : decode cX10_way 169 = .ok (.if_icmp .ge 120, 3) := by decide +kernel
theorem dX10_way_172 : decode cX10_way 172 = .ok (.iconst 0, 1) := by decide +kernel
theorem dX10_way_173 : decode cX10_way 173 = .ok (.istore 10, 2) := by decide +kernel
theorem dX10_way_175 : decode cX10_way 175 = .ok (.iconst 0, 1) := by decide +kernel
theorem dX10_way_176 : decode cX10_way 176 = .ok (.istore 11, 2) := by decide +kernel
theorem dX10_way_178 : decode cX10_way 178 = .ok (.iload 11, 2) := by decide +kernel
theorem dX10_way_180 : decode cX10_way 180 = .ok (.ifCond .ne 103, 3) := by decide +kernel
theorem dX10_way_183 : decode cX10_way 183 = .ok (.aload_n 0, 1) := by decide +kernel
theorem dX10_way_184 : decode cX10_way 184 = .ok (.iload 5, 2) := by decide +kernel
theorem dX10_way_186 : decode cX10_way 186 = .ok (.iload 10, 2) := by decide +kernel
theorem dX10_way_188 : decode cX10_way 188 = .ok (.invokevirtual 243, 3) := by decide +kernel
theorem dX10_way_191 : decode cX10_way 191 = .ok (.istore 12, 2) := by decide +kernel
theorem dX10_way_193 : decode cX10_way 193 = .ok (.iload 12, 2) := by decide +kernel
theorem dX10_way_195 : decode cX10_way 195 = .ok (.iconst (-1), 1) := by decide +kernel
theorem dX10_way_196 : decode cX10_way 196 = .ok (.if_icmp .ne 8, 3) := by decide +kernel
theorem dX10_way_199 : decode cX10_way 199 = .ok (.ldc 156, 2) := by decide +kernel
theorem dX10_way_201 : decode cX10_way 201 = .ok (.goto 13, 3) := by decide +kernel
theorem dX10_way_204 : decode cX10_way 204 = .ok (.aload_n 0, 1) := by decide +kernel
theorem dX10_way_205 : decode cX10_way 205 = .ok (.iload 5, 2) := by decide +kernel
theorem dX10_way_207 : decode cX10_way 207 = .ok (.iload 10, 2) := by decide +kernel
theorem dX10_way_209 : decode cX10_way 209 = .ok (.iload 8, 2) := by decide +kernel
theorem dX10_way_211 : decode cX10_way 211 = .ok (.invokevirtual 247, 3) := by decide +kernel
theorem dX10_way_214 : decode cX10_way 214 = .ok (.istore 13, 2) := by decide +kernel
theorem dX10_way_216 : decode cX10_way 216 = .ok (.iload 12, 2) := by decide +kernel
theorem dX10_way_218 : decode cX10_way 218 = .ok (.iconst (-1), 1) := by decide +kernel
theorem dX10_way_219 : decode cX10_way 219 = .ok (.if_icmp .eq 30, 3) := by decide +kernel
theorem dX10_way_222 : decode cX10_way 222 = .ok (.iload 13, 2) := by decide +kernel
theorem dX10_way_224 : decode cX10_way 224 = .ok (.aload_n 0, 1) := by decide +kernel
theorem dX10_way_225 : decode cX10_way 225 = .ok (.getfield 72, 3) := by decide +kernel
theorem dX10_way_228 : decode cX10_way 228 = .ok (.bipush 32, 2) := by decide +kernel
theorem dX10_way_230 : decode cX10_way 230 = .ok (.iload 7, 2) := by decide +kernel
theorem dX10_way_232 : decode cX10_way 232 = .ok (.iload 9, 2) := by decide +kernel
theorem dX10_way_234 : decode cX10_way 234 = .ok (.isub, 1) := by decide +kernel
theorem dX10_way_235 : decode cX10_way 235 = .ok (.iconst 1, 1) := by decide +kernel
theorem dX10_way_236 : decode cX10_way 236 = .ok (.isub, 1) := by decide +kernel
theorem dX10_way_237 : decode cX10_way 237 = .ok (.imul, 1) := by decide +kernel
theorem dX10_way_238 : decode cX10_way 238 = .ok (.iload 12, 2) := by decide +kernel
theorem dX10_way_240 : decode cX10_way 240 = .ok (.iadd, 1) := by decide +kernel
theorem dX10_way_241 : decode cX10_way 241 = .ok (.iaload, 1) := by decide +kernel
theorem dX10_way_242 : decode cX10_way 242 = .ok (.if_icmp .gt 7, 3) := by decide +kernel
theorem dX10_way_245 : decode cX10_way 245 = .ok (.iconst 1, 1) := by decide +kernel
theorem dX10_way_246 : decode cX10_way 246 = .ok (.goto 4, 3) := by decide +kernel
theorem dX10_way_249 : decode cX10_way 249 = .ok (.iconst 0, 1) := by decide +kernel
theorem dX10_way_250 : decode cX10_way 250 = .ok (.istore 11, 2) := by decide +kernel
theorem dX10_way_252 : decode cX10_way 252 = .ok (.iload 11, 2) := by decide +kernel
theorem dX10_way_254 : decode cX10_way 254 = .ok (.ifCond .eq 23, 3) := by decide +kernel
theorem dX10_way_257 : decode cX10_way 257 = .ok (.aload_n 0, 1) := by decide +kernel
theorem dX10_way_258 : decode cX10_way 258 = .ok (.getfield 75, 3) := by decide +kernel
theorem dX10_way_261 : decode cX10_way 261 = .ok (.iload 9, 2) := by decide +kernel
theorem dX10_way_263 : decode cX10_way 263 = .ok (.iload 10, 2) := by decide +kernel
theorem dX10_way_265 : decode cX10_way 265 = .ok (.iastore, 1) := by decide +kernel
theorem dX10_way_266 : decode cX10_way 266 = .ok (.iload 12, 2) := by decide +kernel
theorem dX10_way_268 : decode cX10_way 268 = .ok (.istore 5, 2) := by decide +kernel
theorem dX10_way_270 : decode cX10_way 270 = .ok (.iload 13, 2) := by decide +kernel
theorem dX10_way_272 : decode cX10_way 272 = .ok (.istore 8, 2) := by decide +kernel
theorem dX10_way_274 : decode cX10_way 274 = .ok (.goto 6, 3) := by decide +kernel
theorem dX10_way_277 : decode cX10_way 277 = .ok (.iinc 10 1, 3) := by decide +kernel
theorem dX10_way_280 : decode cX10_way 280 = .ok (.goto (-102), 3) := by decide +kernel
theorem dX10_way_283 : decode cX10_way 283 = .ok (.iinc 9 1, 3) := by decide +kernel
theorem dX10_way_286 : decode cX10_way 286 = .ok (.goto (-121), 3) := by decide +kernel
theorem dX10_way_289 : decode cX10_way 289 = .ok (.aload_n 0, 1) := by decide +kernel
theorem dX10_way_290 : decode cX10_way 290 = .ok (.iload 7, 2) := by decide +kernel
theorem dX10_way_292 : decode cX10_way 292 = .ok (.putfield 78, 3) := by decide +kernel
theorem dX10_way_295 : decode cX10_way 295 = .ok (.aload_n 0, 1) := by decide +kernel
theorem dX10_way_296 : decode cX10_way 296 = .ok (.iload 6, 2) := by decide +kernel
theorem dX10_way_298 : decode cX10_way 298 = .ok (.invokevirtual 148, 3) := by decide +kernel
theorem dX10_way_301 : decode cX10_way 301 = .ok (.ireturn, 1) := by decide +kernel
set_option maxRecDepth 20000 in
theorem ggX10_step_X10_in : GoodIn wsX10_step wsX10_in := goodIn_r _ [7] (by decide +kernel) (by decide +kernel)
set_option maxRecDepth 20000 in
theorem gX10_step_X10_in : GoodIn wsX10_step (va_wsS RX10 131 yX10_in wsX10_in) := goodIn_app (goodIn_of _ (by decide +kernel)) ggX10_step_X10_in
theorem dX10_step_0 : decode cX10_step 0 = .ok (.aload_n 0, 1) := by decide +kernel
theorem dX10_step_1 : decode cX10_step 1 = .ok (.iconst 0, 1) := by decide +kernel
theorem dX10_step_2 : decode cX10_step 2 = .ok (.putfield 123, 3) := by decide +kernel
theorem dX10_step_5 : decode cX10_step 5 = .ok (.aload_n 0, 1) := by decide +kernel
theorem dX10_step_6 : decode cX10_step 6 = .ok (.getfield 78, 3) := by decide +kernel
theorem dX10_step_9 : decode cX10_step 9 = .ok (.ifCond .ge 7, 3) := by decide +kernel
theorem dX10_step_12 : decode cX10_step 12 = .ok (.iconst (-1), 1) := by decide +kernel
theorem dX10_step_13 : decode cX10_step 13 = .ok (.goto 41, 3) := by decide +kernel
theorem dX10_step_16 : decode cX10_step 16 = .ok (.iload_n 1, 1) := by decide +kernel
theorem dX10_step_17 : decode cX10_step 17 = .ok (.iconst (-1), 1) := by decide +kernel
theorem dX10_step_18 : decode cX10_step 18 = .ok (.if_icmp .ne 10, 3) := by decide +kernel
theorem dX10_step_21 : decode cX10_step 21 = .ok (.aload_n 0, 1) := by decide +kernel
theorem dX10_step_22 : decode cX10_step 22 = .ok (.getfield 78, 3) := by decide +kernel
theorem dX10_step_25 : decode cX10_step 25 = .ok (.goto 29, 3) := by decide +kernel
theorem dX10_step_28 : decode cX10_step 28 = .ok (.iload_n 1, 1) := by decide +kernel
theorem dX10_step_29 : decode cX10_step 29 = .ok (.i2l, 1) := by decide +kernel
theorem dX10_step_30 : decode cX10_step 30 = .ok (.lconst 0, 1) := by decide +kernel
theorem dX10_step_31 : decode cX10_step 31 = .ok (.aload_n 0, 1) := by decide +kernel
theorem dX10_step_32 : decode cX10_step 32 = .ok (.getfield 78, 3) := by decide +kernel
theorem dX10_step_35 : decode cX10_step 35 = .ok (.i2l, 1) := by decide +kernel
theorem dX10_step_36 : decode cX10_step 36 = .ok (.lconst 1, 1) := by decide +kernel
theorem dX10_step_37 : decode cX10_step 37 = .ok (.lsub, 1) := by decide +kernel
theorem dX10_step_38 : decode cX10_step 38 = .ok (.invokestatic 131, 3) := by decide +kernel
theorem dX10_step_41 : decode cX10_step 41 = .ok (.ifCond .eq 12, 3) := by decide +kernel
theorem dX10_step_44 : decode cX10_step 44 = .ok (.aload_n 0, 1) := by decide +kernel
theorem dX10_step_45 : decode cX10_step 45 = .ok (.getfield 75, 3) := by decide +kernel
theorem dX10_step_48 : decode cX10_step 48 = .ok (.iload_n 1, 1) := by decide +kernel
theorem dX10_step_49 : decode cX10_step 49 = .ok (.iaload, 1) := by decide +kernel
theorem dX10_step_50 : decode cX10_step 50 = .ok (.goto 4, 3) := by decide +kernel
theorem dX10_step_53 : decode cX10_step 53 = .ok (.iconst (-1), 1) := by decide +kernel
theorem dX10_step_54 : decode cX10_step 54 = .ok (.ireturn, 1) := by decide +kernel
set_option maxRecDepth 20000 in
theorem ggX10_shop_X10_isPlace : GoodIn wsX10_shop wsX10_isPlace := goodIn_r _ [7, 8, 9, 10, 6, 11] (by decide +kernel) (by decide +kernel)
set_option maxRecDepth 20000 in
theorem gX10_shop_X10_isPlace : GoodIn wsX10_shop (va_wsS RX10 140 yX10_isPlace wsX10_isPlace) := goodIn_app (goodIn_of _ (by decide +kernel)) ggX10_shop_X10_isPlace
set_option maxRecDepth 20000 in
theorem ggX10_shop_X10_in : GoodIn wsX10_shop wsX10_in := goodIn_r _ [11] (by decide +kernel) (by decide +kernel)
set_option maxRecDepth 20000 in
theorem gX10_shop_X10_in : GoodIn wsX10_shop (va_wsS RX10 131 yX10_in wsX10_in) := goodIn_app (goodIn_of _ (by decide +kernel)) ggX10_shop_X10_in
set_option maxRecDepth 20000 in
theorem ggX10_shop_X10_told : GoodIn wsX10_shop wsX10_told := goodIn_r _ [15, 16, 17, 18, 19, 20, 21, 22, 23, 24, 25, 26, 27, 28, 29, 30, 31, 32, 33, 34, 35, 36, 37, 38, 39, 40, 41, 42, 43, 44, 45, 46, 47, 48, 49, 50, 51, 52, 53, 54, 55, 56, 57, 58, 59, 60, 61, 62, 63, 64, 65, 66, 67] (by decide +kernel) (by decide +kernel)
set_option maxRecDepth 20000 in
theorem gX10_shop_X10_told : GoodIn wsX10_shop (wsV RX10 148 RX10 yX10_told wsX10_told) := goodIn_app (goodIn_of _ (by decide +kernel)) ggX10_shop_X10_told
