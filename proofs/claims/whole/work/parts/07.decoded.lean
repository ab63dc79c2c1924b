theorem dX10_shop_0 : decode cX10_shop 0 = .ok (.aload_n 0, 1) := by decide +kernel
theorem dX10_shop_1 : decode cX10_shop 1 = .ok (.iconst 0, 1) := by decide +kernel
theorem dX10_shop_2 : decode cX10_shop 2 = .ok (.putfield 123, 3) := by decide +kernel
theorem dX10_shop_5 : decode cX10_shop 5 = .ok (.iload_n 1, 1) := by decide +kernel
theorem dX10_shop_6 : decode cX10_shop 6 = .ok (.invokestatic 140, 3) := by decide +kernel
theorem dX10_shop_9 : decode cX10_shop 9 = .ok (.ifCond .eq 15, 3) := by decide +kernel
theorem dX10_shop_12 : decode cX10_shop 12 = .ok (.iload_n 2, 1) := by decide +kernel
theorem dX10_shop_13 : decode cX10_shop 13 = .ok (.i2l, 1) := by decide +kernel
theorem dX10_shop_14 : decode cX10_shop 14 = .ok (.lconst 0, 1) := by decide +kernel
theorem dX10_shop_15 : decode cX10_shop 15 = .ok (.ldc2_w 262, 3) := by decide +kernel
theorem dX10_shop_18 : decode cX10_shop 18 = .ok (.invokestatic 131, 3) := by decide +kernel
theorem dX10_shop_21 : decode cX10_shop 21 = .ok (.ifCond .ne 9, 3) := by decide +kernel
theorem dX10_shop_24 : decode cX10_shop 24 = .ok (.aload_n 0, 1) := by decide +kernel
theorem dX10_shop_25 : decode cX10_shop 25 = .ok (.iconst (-1), 1) := by decide +kernel
theorem dX10_shop_26 : decode cX10_shop 26 = .ok (.invokevirtual 148, 3) := by decide +kernel
theorem dX10_shop_29 : decode cX10_shop 29 = .ok (.ireturn, 1) := by decide +kernel
theorem dX10_shop_30 : decode cX10_shop 30 = .ok (.aload_n 0, 1) := by decide +kernel
theorem dX10_shop_31 : decode cX10_shop 31 = .ok (.getfield 81, 3) := by decide +kernel
theorem dX10_shop_34 : decode cX10_shop 34 = .ok (.iload_n 1, 1) := by decide +kernel
theorem dX10_shop_35 : decode cX10_shop 35 = .ok (.iaload, 1) := by decide +kernel
theorem dX10_shop_36 : decode cX10_shop 36 = .ok (.istore_n 3, 1) := by decide +kernel
theorem dX10_shop_37 : decode cX10_shop 37 = .ok (.aload_n 0, 1) := by decide +kernel
theorem dX10_shop_38 : decode cX10_shop 38 = .ok (.getfield 81, 3) := by decide +kernel
theorem dX10_shop_41 : decode cX10_shop 41 = .ok (.iload_n 1, 1) := by decide +kernel
theorem dX10_shop_42 : decode cX10_shop 42 = .ok (.iload_n 2, 1) := by decide +kernel
theorem dX10_shop_43 : decode cX10_shop 43 = .ok (.iastore, 1) := by decide +kernel
theorem dX10_shop_44 : decode cX10_shop 44 = .ok (.aload_n 0, 1) := by decide +kernel
theorem dX10_shop_45 : decode cX10_shop 45 = .ok (.iload_n 3, 1) := by decide +kernel
theorem dX10_shop_46 : decode cX10_shop 46 = .ok (.invokevirtual 148, 3) := by decide +kernel
theorem dX10_shop_49 : decode cX10_shop 49 = .ok (.ireturn, 1) := by decide +kernel
set_option maxRecDepth 20000 in
theorem ggX10_car_X10_isPlace : GoodIn wsX10_car wsX10_isPlace := goodIn_r _ [9, 10, 11, 12, 8, 13] (by decide +kernel) (by decide +kernel)
set_option maxRecDepth 20000 in
theorem gX10_car_X10_isPlace : GoodIn wsX10_car (va_wsS RX10 140 yX10_isPlace wsX10_isPlace) := goodIn_app (goodIn_of _ (by decide +kernel)) ggX10_car_X10_isPlace
set_option maxRecDepth 20000 in
theorem ggX10_car_X10_isHour : GoodIn wsX10_car wsX10_isHour := goodIn_r _ [16, 17, 11, 12, 8, 13] (by decide +kernel) (by decide +kernel)
set_option maxRecDepth 20000 in
theorem gX10_car_X10_isHour : GoodIn wsX10_car (va_wsS RX10 237 yX10_isHour wsX10_isHour) := goodIn_app (goodIn_of _ (by decide +kernel)) ggX10_car_X10_isHour
set_option maxRecDepth 20000 in
theorem ggX10_car_X10_told : GoodIn wsX10_car wsX10_told := goodIn_r _ [21, 22, 23, 24, 25, 26, 27, 28, 29, 30, 31, 32, 33, 34, 35, 36, 37, 38, 39, 40, 41, 42, 43, 44, 45, 46, 47, 48, 49, 50, 51, 52, 53, 54, 55, 56, 57, 58, 59, 60, 61, 62, 63, 64, 65, 66, 67, 68, 69, 70, 71, 72, 73] (by decide +kernel) (by decide +kernel)
set_option maxRecDepth 20000 in
theorem gX10_car_X10_told : GoodIn wsX10_car (wsV RX10 148 RX10 yX10_told wsX10_told) := goodIn_app (goodIn_of _ (by decide +kernel)) ggX10_car_X10_told
theorem dX10_car_0 : decode cX10_car 0 = .ok (.aload_n 0, 1) := by decide +kernel
theorem dX10_car_1 : decode cX10_car 1 = .ok (.iconst 0, 1) := by decide +kernel
theorem dX10_car_2 : decode cX10_car 2 = .ok (.putfield 123, 3) := by decide +kernel
theorem dX10_car_5 : decode cX10_car 5 = .ok (.iload_n 1, 1) := by decide +kernel
theorem dX10_car_6 : decode cX10_car 6 = .ok (.invokestatic 140, 3) := by decide +kernel
theorem dX10_car_9 : decode cX10_car 9 = .ok (.ifCond .eq 10, 3) := by decide +kernel
theorem dX10_car_12 : decode cX10_car 12 = .ok (.iload_n 2, 1) := by decide +kernel
theorem dX10_car_13 : decode cX10_car 13 = .ok (.invokestatic 237, 3) := by decide +kernel
theorem dX10_car_16 : decode cX10_car 16 = .ok (.ifCond .ne 9, 3) := by decide +kernel
theorem dX10_car_19 : decode cX10_car 19 = .ok (.aload_n 0, 1) := by decide +kernel
theorem dX10_car_20 : decode cX10_car 20 = .ok (.iconst (-1), 1) := by decide +kernel
theorem dX10_car_21 : decode cX10_car 21 = .ok (.invokevirtual 148, 3) := by decide +kernel
theorem dX10_car_24 : decode cX10_car 24 = .ok (.ireturn, 1) := by decide +kernel
theorem dX10_car_25 : decode cX10_car 25 = .ok (.aload_n 0, 1) := by decide +kernel
theorem dX10_car_26 : decode cX10_car 26 = .ok (.getfield 264, 3) := by decide +kernel
theorem dX10_car_29 : decode cX10_car 29 = .ok (.bipush 30, 2) := by decide +kernel
theorem dX10_car_31 : decode cX10_car 31 = .ok (.if_icmp .ne 10, 3) := by decide +kernel
theorem dX10_car_34 : decode cX10_car 34 = .ok (.aload_n 0, 1) := by decide +kernel
theorem dX10_car_35 : decode cX10_car 35 = .ok (.bipush (-5), 2) := by decide +kernel
theorem dX10_car_37 : decode cX10_car 37 = .ok (.invokevirtual 148, 3) := by decide +kernel
theorem dX10_car_40 : decode cX10_car 40 = .ok (.ireturn, 1) := by decide +kernel
theorem dX10_car_41 : decode cX10_car 41 = .ok (.aload_n 0, 1) := by decide +kernel
theorem dX10_car_42 : decode cX10_car 42 = .ok (.getfield 84, 3) := by decide +kernel
theorem dX10_car_45 : decode cX10_car 45 = .ok (.aload_n 0, 1) := by decide +kernel
theorem dX10_car_46 : decode cX10_car 46 = .ok (.getfield 264, 3) := by decide +kernel
theorem dX10_car_49 : decode cX10_car 49 = .ok (.iload_n 1, 1) := by decide +kernel
theorem dX10_car_50 : decode cX10_car 50 = .ok (.iastore, 1) := by decide +kernel
theorem dX10_car_51 : decode cX10_car 51 = .ok (.aload_n 0, 1) := by decide +kernel
theorem dX10_car_52 : decode cX10_car 52 = .ok (.getfield 87, 3) := by decide +kernel
theorem dX10_car_55 : decode cX10_car 55 = .ok (.aload_n 0, 1) := by decide +kernel
theorem dX10_car_56 : decode cX10_car 56 = .ok (.getfield 264, 3) := by decide +kernel
theorem dX10_car_59 : decode cX10_car 59 = .ok (.iload_n 2, 1) := by decide +kernel
theorem dX10_car_60 : decode cX10_car 60 = .ok (.iastore, 1) := by decide +kernel
theorem dX10_car_61 : decode cX10_car 61 = .ok (.aload_n 0, 1) := by decide +kernel
theorem dX10_car_62 : decode cX10_car 62 = .ok (.getfield 93, 3) := by decide +kernel
theorem dX10_car_65 : decode cX10_car 65 = .ok (.aload_n 0, 1) := by decide +kernel
theorem dX10_car_66 : decode cX10_car 66 = .ok (.getfield 264, 3) := by decide +kernel
theorem dX10_car_69 : decode cX10_car 69 = .ok (.iconst (-1), 1) := by decide +kernel
theorem dX10_car_70 : decode cX10_car 70 = .ok (.iastore, 1) := by decide +kernel
theorem dX10_car_71 : decode cX10_car 71 = .ok (.aload_n 0, 1) := by decide +kernel
theorem dX10_car_72 : decode cX10_car 72 = .ok (.dup, 1) := by decide +kernel
theorem dX10_car_73 : decode cX10_car 73 = .ok (.getfield 264, 3) := by decide +kernel
theorem dX10_car_76 : decode cX10_car 76 = .ok (.iconst 1, 1) := by decide +kernel
theorem dX10_car_77 : decode cX10_car 77 = .ok (.iadd, 1) := by decide +kernel
theorem dX10_car_78 : decode cX10_car 78 = .ok (.putfield 264, 3) := by decide +kernel
theorem dX10_car_81 : decode cX10_car 81 = .ok (.aload_n 0, 1) := by decide +kernel
theorem dX10_car_82 : decode cX10_car 82 = .ok (.aload_n 0, 1) := by decide +kernel
theorem dX10_car_83 : decode cX10_car 83 = .ok (.getfield 264, 3) := by decide +kernel
theorem dX10_car_86 : decode cX10_car 86 = .ok (.iconst 1, 1) := by decide +kernel
theorem dX10_car_87 : decode cX10_car 87 = .ok (.isub, 1) := by decide +kernel
theorem dX10_car_88 : decode cX10_car 88 = .ok (.invokevirtual 148, 3) := by decide +kernel
theorem dX10_car_91 : decode cX10_car 91 = .ok (.ireturn, 1) := by decide +kernel
set_option maxRecDepth 20000 in
theorem ggX10_findComing_X10_pass : GoodIn wsX10_findComing wsX10_pass := goodIn_r _ [12, 1, 13, 14, 15, 16, 17, 18, 19, 20, 21, 22, 23, 24, 25, 26, 27, 28, 29, 30, 31, 32, 33, 34, 35, 36, 37, 38, 39, 40, 41, 42, 43, 44, 45, 46, 47, 48, 49, 50, 51, 52, 53, 54, 55, 56, 57, 58, 59, 60, 61, 62, 63, 64, 65] (by decide +kernel) (by decide +kernel)
set_option maxRecDepth 20000 in
theorem gX10_findComing_X10_pass : GoodIn wsX10_findComing (wsV RX10 267 RX10 yX10_pass wsX10_pass) := goodIn_app (goodIn_of _ (by decide +kernel)) ggX10_findComing_X10_pass
theorem dX10_findComing_0 : decode cX10_findComing 0 = .ok (.iconst 0, 1) := by decide +kernel
theorem dX10_findComing_1 : decode cX10_findComing 1 = .ok (.istore_n 2, 1) := by decide +kernel
theorem dX10_findComing_2 : decode cX10_findComing 2 = .ok (.iload_n 2, 1) := by decide +kernel
theorem dX10_findComing_3 : decode cX10_findComing 3 = .ok (.bipush 16, 2) := by decide +kernel
theorem dX10_findComing_5 : decode cX10_findComing 5 = .ok (.if_icmp .ge 22, 3) := by decide +kernel
theorem dX10_findComing_8 : decode cX10_findComing 8 = .ok (.aload_n 0, 1) := by decide +kernel
theorem dX10_findComing_9 : decode cX10_findComing 9 = .ok (.getfield 90, 3) := by decide +kernel
theorem dX10_findComing_12 : decode cX10_findComing 12 = .ok (.bipush 16, 2) := by decide +kernel
theorem dX10_findComing_14 : decode cX10_findComing 14 = .ok (.iload_n 1, 1) := by decide +kernel
theorem dX10_findComing_15 : decode cX10_findComing 15 = .ok (.imul, 1) := by decide +kernel
theorem dX10_findComing_16 : decode cX10_findComing 16 = .ok (.iload_n 2, 1) := by decide +kernel
theorem dX10_findComing_17 : decode cX10_findComing 17 = .ok (.iadd, 1) := by decide +kernel
theorem dX10_findComing_18 : decode cX10_findComing 18 = .ok (.ldc 156, 2) := by decide +kernel
theorem dX10_findComing_20 : decode cX10_findComing 20 = .ok (.iastore, 1) := by decide +kernel
theorem dX10_findComing_21 : decode cX10_findComing 21 = .ok (.iinc 2 1, 3) := by decide +kernel
theorem dX10_findComing_24 : decode cX10_findComing 24 = .ok (.goto (-22), 3) := by decide +kernel
theorem dX10_findComing_27 : decode cX10_findComing 27 = .ok (.aload_n 0, 1) := by decide +kernel
theorem dX10_findComing_28 : decode cX10_findComing 28 = .ok (.getfield 90, 3) := by decide +kernel
theorem dX10_findComing_31 : decode cX10_findComing 31 = .ok (.bipush 16, 2) := by decide +kernel
theorem dX10_findComing_33 : decode cX10_findComing 33 = .ok (.iload_n 1, 1) := by decide +kernel
theorem dX10_findComing_34 : decode cX10_findComing 34 = .ok (.imul, 1) := by decide +kernel
theorem dX10_findComing_35 : decode cX10_findComing 35 = .ok (.aload_n 0, 1) := by decide +kernel
theorem dX10_findComing_36 : decode cX10_findComing 36 = .ok (.getfield 84, 3) := by decide +kernel
theorem dX10_findComing_39 : decode cX10_findComing 39 = .ok (.iload_n 1, 1) := by decide +kernel
theorem dX10_findComing_40 : decode cX10_findComing 40 = .ok (.iaload, 1) := by decide +kernel
theorem dX10_findComing_41 : decode cX10_findComing 41 = .ok (.iadd, 1) := by decide +kernel
theorem dX10_findComing_42 : decode cX10_findComing 42 = .ok (.aload_n 0, 1) := by decide +kernel
theorem dX10_findComing_43 : decode cX10_findComing 43 = .ok (.getfield 87, 3) := by decide +kernel
theorem dX10_findComing_46 : decode cX10_findComing 46 = .ok (.iload_n 1, 1) := by decide +kernel
theorem dX10_findComing_47 : decode cX10_findComing 47 = .ok (.iaload, 1) := by decide +kernel
theorem dX10_findComing_48 : decode cX10_findComing 48 = .ok (.iastore, 1) := by decide +kernel
theorem dX10_findComing_49 : decode cX10_findComing 49 = .ok (.iconst 1, 1) := by decide +kernel
theorem dX10_findComing_50 : decode cX10_findComing 50 = .ok (.istore_n 2, 1) := by decide +kernel
theorem dX10_findComing_51 : decode cX10_findComing 51 = .ok (.iload_n 2, 1) := by decide +kernel
theorem dX10_findComing_52 : decode cX10_findComing 52 = .ok (.ifCond .eq 86, 3) := by decide +kernel
theorem dX10_findComing_55 : decode cX10_findComing 55 = .ok (.iconst 0, 1) := by decide +kernel
theorem dX10_findComing_56 : decode cX10_findComing 56 = .ok (.istore_n 2, 1) := by decide +kernel
theorem dX10_findComing_57 : decode cX10_findComing 57 = .ok (.iconst 0, 1) := by decide +kernel
theorem dX10_findComing_58 : decode cX10_findComing 58 = .ok (.istore_n 3, 1) := by decide +kernel
theorem dX10_findComing_59 : decode cX10_findComing 59 = .ok (.iload_n 3, 1) := by decide +kernel
theorem dX10_findComing_60 : decode cX10_findComing 60 = .ok (.aload_n 0, 1) := by decide +kernel
theorem dX10_findComing_61 : decode cX10_findComing 61 = .ok (.getfield 137, 3) := by decide +kernel
theorem dX10_findComing_64 : decode cX10_findComing 64 = .ok (.if_icmp .ge 71, 3) := by decide +kernel
theorem dX10_findComing_67 : decode cX10_findComing 67 = .ok (.aload_n 0, 1) := by decide +kernel
theorem dX10_findComing_68 : decode cX10_findComing 68 = .ok (.iload_n 1, 1) := by decide +kernel
theorem dX10_findComing_69 : decode cX10_findComing 69 = .ok (.iload_n 3, 1) := by decide +kernel
theorem dX10_findComing_70 : decode cX10_findComing 70 = .ok (.aload_n 0, 1) := by decide +kernel
theorem dX10_findComing_71 : decode cX10_findComing 71 = .ok (.getfield 7, 3) := by decide +kernel
theorem dX10_findComing_74 : decode cX10_findComing 74 = .ok (.iload_n 3, 1) := by decide +kernel
theorem dX10_findComing_75 : decode cX10_findComing 75 = .ok (.iaload, 1) := by decide +kernel
theorem dX10_findComing_76 : decode cX10_findComing 76 = .ok (.aload_n 0, 1) := by decide +kernel
theorem dX10_findComing_77 : decode cX10_findComing 77 = .ok (.getfield 13, 3) := by decide +kernel
theorem dX10_findComing_80 : decode cX10_findComing 80 = .ok (.iload_n 3, 1) := by decide +kernel
theorem dX10_findComing_81 : decode cX10_findComing 81 = .ok (.iaload, 1) := by decide +kernel
theorem dX10_findComing_82 : decode cX10_findComing 82 = .ok (.invokevirtual 267, 3) := by decide +kernel
theorem dX10_findComing_85 : decode cX10_findComing 85 = .ok (.ifCond .ne 7, 3) := by decide +kernel
theorem dX10_findComing_88 : decode cX10_findComing 88 = .ok (.iload_n 2, 1) := by decide +kernel
theorem dX10_findComing_89 : decode cX10_findComing 89 = .ok (.ifCond .eq 7, 3) := by decide +kernel
theorem dX10_findComing_92 : decode cX10_findComing 92 = .ok (.iconst 1, 1) := by decide +kernel
theorem dX10_findComing_93 : decode cX10_findComing 93 = .ok (.goto 4, 3) := by decide +kernel
theorem dX10_findComing_96 : decode cX10_findComing 96 = .ok (.iconst 0, 1) := by decide +kernel
theorem dX10_findComing_97 : decode cX10_findComing 97 = .ok (.istore_n 2, 1) := by decide +kernel
theorem dX10_findComing_98 : decode cX10_findComing 98 = .ok (.aload_n 0, 1) := by decide +kernel
theorem dX10_findComing_99 : decode cX10_findComing 99 = .ok (.iload_n 1, 1) := by decide +kernel
theorem dX10_findComing_100 : decode cX10_findComing 100 = .ok (.iload_n 3, 1) := by decide +kernel
theorem dX10_findComing_101 : decode cX10_findComing 101 = .ok (.aload_n 0, 1) := by decide +kernel
theorem dX10_findComing_102 : decode cX10_findComing 102 = .ok (.getfield 13, 3) := by decide +kernel
theorem dX10_findComing_105 : decode cX10_findComing 105 = .ok (.iload_n 3, 1) := by decide +kernel
theorem dX10_findComing_106 : decode cX10_findComing 106 = .ok (.iaload, 1) := by decide +kernel
theorem dX10_findComing_107 : decode cX10_findComing 107 = .ok (.aload_n 0, 1) := by decide +kernel
theorem dX10_findComing_108 : decode cX10_findComing 108 = .ok (.getfield 7, 3) := by decide +kernel
theorem dX10_findComing_111 : decode cX10_findComing 111 = .ok (.iload_n 3, 1) := by decide +kernel
theorem dX10_findComing_112 : decode cX10_findComing 112 = .ok (.iaload, 1) := by decide +kernel
theorem dX10_findComing_113 : decode cX10_findComing 113 = .ok (.invokevirtual 267, 3) := by decide +kernel
theorem dX10_findComing_116 : decode cX10_findComing 116 = .ok (.ifCond .ne 7, 3) := by decide +kernel
theorem dX10_findComing_119 : decode cX10_findComing 119 = .ok (.iload_n 2, 1) := by decide +kernel
theorem dX10_findComing_120 : decode cX10_findComing 120 = .ok (.ifCond .eq 7, 3) := by decide +kernel
theorem dX10_findComing_123 : decode cX10_findComing 123 = .ok (.iconst 1, 1) := by decide +kernel
theorem dX10_findComing_124 : decode cX10_findComing 124 = .ok (.goto 4, 3) := by decide +kernel
theorem dX10_findComing_127 : decode cX10_findComing 127 = .ok (.iconst 0, 1) := by decide +kernel
theorem dX10_findComing_128 : decode cX10_findComing 128 = .ok (.istore_n 2, 1) := by decide +kernel
theorem dX10_findComing_129 : decode cX10_findComing 129 = .ok (.iinc 3 1, 3) := by decide +kernel
theorem dX10_findComing_132 : decode cX10_findComing 132 = .ok (.goto (-73), 3) := by decide +kernel
theorem dX10_findComing_135 : decode cX10_findComing 135 = .ok (.goto (-84), 3) := by decide +kernel
theorem dX10_findComing_138 : decode cX10_findComing 138 = .ok (.return_, 1) := by decide +kernel
theorem dX10_pass_0 : decode cX10_pass 0 = .ok (.aload_n 0, 1) := by decide +kernel
theorem dX10_pass_1 : decode cX10_pass 1 = .ok (.getfield 90, 3) := by decide +kernel
theorem dX10_pass_4 : decode cX10_pass 4 = .ok (.bipush 16, 2) := by decide +kernel
theorem dX10_pass_6 : decode cX10_pass 6 = .ok (.iload_n 1, 1) := by decide +kernel
theorem dX10_pass_7 : decode cX10_pass 7 = .ok (.imul, 1) := by decide +kernel
theorem dX10_pass_8 : decode cX10_pass 8 = .ok (.iload_n 3, 1) := by decide +kernel
theorem dX10_pass_9 : decode cX10_pass 9 = .ok (.iadd, 1) := by decide +kernel
theorem dX10_pass_10 : decode cX10_pass 10 = .ok (.iaload, 1) := by decide +kernel
theorem dX10_pass_11 : decode cX10_pass 11 = .ok (.aload_n 0, 1) := by decide +kernel
theorem dX10_pass_12 : decode cX10_pass 12 = .ok (.getfield 19, 3) := by decide +kernel
theorem dX10_pass_15 : decode cX10_pass 15 = .ok (.iload_n 2, 1) := by decide +kernel
theorem dX10_pass_16 : decode cX10_pass 16 = .ok (.iaload, 1) := by decide +kernel
theorem dX10_pass_17 : decode cX10_pass 17 = .ok (.iadd, 1) := by decide +kernel
theorem dX10_pass_18 : decode cX10_pass 18 = .ok (.istore 5, 2) := by decide +kernel
theorem dX10_pass_20 : decode cX10_pass 20 = .ok (.iload 5, 2) := by decide +kernel
theorem dX10_pass_22 : decode cX10_pass 22 = .ok (.aload_n 0, 1) := by decide +kernel
theorem dX10_pass_23 : decode cX10_pass 23 = .ok (.getfield 54, 3) := by decide +kernel
theorem dX10_pass_26 : decode cX10_pass 26 = .ok (.iload_n 2, 1) := by decide +kernel
theorem dX10_pass_27 : decode cX10_pass 27 = .ok (.iaload, 1) := by decide +kernel
theorem dX10_pass_28 : decode cX10_pass 28 = .ok (.if_icmp .gt 27, 3) := by decide +kernel
theorem dX10_pass_31 : decode cX10_pass 31 = .ok (.iload 5, 2) := by decide +kernel
theorem dX10_pass_33 : decode cX10_pass 33 = .ok (.bipush 120, 2) := by decide +kernel
theorem dX10_pass_35 : decode cX10_pass 35 = .ok (.if_icmp .gt 20, 3) := by decide +kernel
theorem dX10_pass_38 : decode cX10_pass 38 = .ok (.iload 5, 2) := by decide +kernel
theorem dX10_pass_40 : decode cX10_pass 40 = .ok (.aload_n 0, 1) := by decide +kernel
theorem dX10_pass_41 : decode cX10_pass 41 = .ok (.getfield 90, 3) := by decide +kernel
theorem dX10_pass_44 : decode cX10_pass 44 = .ok (.bipush 16, 2) := by decide +kernel
theorem dX10_pass_46 : decode cX10_pass 46 = .ok (.iload_n 1, 1) := by decide +kernel
theorem dX10_pass_47 : decode cX10_pass 47 = .ok (.imul, 1) := by decide +kernel
theorem dX10_pass_48 : decode cX10_pass 48 = .ok (.iload 4, 2) := by decide +kernel
theorem dX10_pass_50 : decode cX10_pass 50 = .ok (.iadd, 1) := by decide +kernel
theorem dX10_pass_51 : decode cX10_pass 51 = .ok (.iaload, 1) := by decide +kernel
theorem dX10_pass_52 : decode cX10_pass 52 = .ok (.if_icmp .lt 5, 3) := by decide +kernel
theorem dX10_pass_55 : decode cX10_pass 55 = .ok (.iconst 0, 1) := by decide +kernel
theorem dX10_pass_56 : decode cX10_pass 56 = .ok (.ireturn, 1) := by decide +kernel
theorem dX10_pass_57 : decode cX10_pass 57 = .ok (.aload_n 0, 1) := by decide +kernel
theorem dX10_pass_58 : decode cX10_pass 58 = .ok (.getfield 90, 3) := by decide +kernel
theorem dX10_pass_61 : decode cX10_pass 61 = .ok (.bipush 16, 2) := by decide +kernel
theorem dX10_pass_63 : decode cX10_pass 63 = .ok (.iload_n 1, 1) := by decide +kernel
theorem dX10_pass_64 : decode cX10_pass 64 = .ok (.imul, 1) := by decide +kernel
theorem dX10_pass_65 : decode cX10_pass 65 = .ok (.iload 4, 2) := by decide +kernel
theorem dX10_pass_67 : decode cX10_pass 67 = .ok (.iadd, 1) := by decide +kernel
theorem dX10_pass_68 : decode cX10_pass 68 = .ok (.iload 5, 2) := by decide +kernel
theorem dX10_pass_70 : decode cX10_pass 70 = .ok (.iastore, 1) := by decide +kernel
theorem dX10_pass_71 : decode cX10_pass 71 = .ok (.iconst 1, 1) := by decide +kernel
theorem dX10_pass_72 : decode cX10_pass 72 = .ok (.ireturn, 1) := by decide +kernel
set_option maxRecDepth 20000 in
theorem ggX10_comes_X10_in : GoodIn wsX10_comes wsX10_in := goodIn_r _ [7] (by decide +kernel) (by decide +kernel)
set_option maxRecDepth 20000 in
theorem gX10_comes_X10_in : GoodIn wsX10_comes (va_wsS RX10 131 yX10_in wsX10_in) := goodIn_app (goodIn_of _ (by decide +kernel)) ggX10_comes_X10_in
set_option maxRecDepth 20000 in
theorem ggX10_comes_X10_isPlace : GoodIn wsX10_comes wsX10_isPlace := goodIn_r _ [10, 11, 4, 5, 6, 7] (by decide +kernel) (by decide +kernel)
set_option maxRecDepth 20000 in
theorem gX10_comes_X10_isPlace : GoodIn wsX10_comes (va_wsS RX10 140 yX10_isPlace wsX10_isPlace) := goodIn_app (goodIn_of _ (by decide +kernel)) ggX10_comes_X10_isPlace
set_option maxRecDepth 20000 in
theorem ggX10_comes_X10_reckon : GoodIn wsX10_comes wsX10_reckon := goodIn_r _ [15, 16, 17, 18, 19, 20, 21, 22, 23, 24, 25, 26, 27, 28, 43, 44, 45, 46, 47, 48, 49, 50, 51, 52, 53, 54, 55, 56, 57, 58, 59, 60, 61, 62, 63, 64, 65, 66, 67, 68, 69, 70, 71, 72, 73, 74, 75, 76, 77, 78, 79, 80, 81, 82, 83, 84, 85, 86, 87, 88, 89, 90, 91, 92, 93] (by decide +kernel) (by decide +kernel)
set_option maxRecDepth 20000 in
theorem gX10_comes_X10_reckon : GoodIn wsX10_comes (wsV RX10 234 RX10 yX10_reckon wsX10_reckon) := goodIn_app (goodIn_of _ (by decide +kernel)) ggX10_comes_X10_reckon
set_option maxRecDepth 20000 in
theorem ggX10_comes_X10_findComing : GoodIn wsX10_comes wsX10_findComing := goodIn_r _ [32, 3, 17, 33, 34, 35, 36, 37, 38, 39, 40, 6, 41, 42, 16, 43, 44, 45, 46, 47, 48, 49, 50, 51, 52, 53, 54, 55, 56, 57, 58, 59, 60, 61, 62, 63, 64, 65, 66, 67, 68, 69, 70, 71, 72, 73, 74, 75, 76, 77, 78, 79, 80, 81, 82, 83, 84, 85, 86, 87, 88, 89, 90, 91, 92, 93] (by decide +kernel) (by decide +kernel)
set_option maxRecDepth 20000 in
theorem gX10_comes_X10_findComing : GoodIn wsX10_comes (wsV RX10 271 RX10 yX10_findComing wsX10_findComing) := goodIn_app (goodIn_of _ (by decide +kernel)) ggX10_comes_X10_findComing
theorem dX10_comes_0 : decode cX10_comes 0 = .ok (.aload_n 0, 1) := by decide +kernel
theorem dX10_comes_1 : decode cX10_comes 1 = .ok (.iconst 0, 1) := by decide +kernel
theorem dX10_comes_2 : decode cX10_comes 2 = .ok (.putfield 123, 3) := by decide +kernel
theorem dX10_comes_5 : decode cX10_comes 5 = .ok (.iload_n 1, 1) := by decide +kernel
theorem dX10_comes_6 : decode cX10_comes 6 = .ok (.i2l, 1) := by decide +kernel
theorem dX10_comes_7 : decode cX10_comes 7 = .ok (.lconst 0, 1) := by decide +kernel
theorem dX10_comes_8 : decode cX10_comes 8 = .ok (.aload_n 0, 1) := by decide +kernel
theorem dX10_comes_9 : decode cX10_comes 9 = .ok (.getfield 264, 3) := by decide +kernel
theorem dX10_comes_12 : decode cX10_comes 12 = .ok (.i2l, 1) := by decide +kernel
theorem dX10_comes_13 : decode cX10_comes 13 = .ok (.lconst 1, 1) := by decide +kernel
theorem dX10_comes_14 : decode cX10_comes 14 = .ok (.lsub, 1) := by decide +kernel
theorem dX10_comes_15 : decode cX10_comes 15 = .ok (.invokestatic 131, 3) := by decide +kernel
theorem dX10_comes_18 : decode cX10_comes 18 = .ok (.ifCond .eq 10, 3) := by decide +kernel
theorem dX10_comes_21 : decode cX10_comes 21 = .ok (.iload_n 2, 1) := by decide +kernel
theorem dX10_comes_22 : decode cX10_comes 22 = .ok (.invokestatic 140, 3) := by decide +kernel
theorem dX10_comes_25 : decode cX10_comes 25 = .ok (.ifCond .ne 5, 3) := by decide +kernel
theorem dX10_comes_28 : decode cX10_comes 28 = .ok (.iconst (-1), 1) := by decide +kernel
theorem dX10_comes_29 : decode cX10_comes 29 = .ok (.ireturn, 1) := by decide +kernel
theorem dX10_comes_30 : decode cX10_comes 30 = .ok (.aload_n 0, 1) := by decide +kernel
theorem dX10_comes_31 : decode cX10_comes 31 = .ok (.invokevirtual 234, 3) := by decide +kernel
theorem dX10_comes_34 : decode cX10_comes 34 = .ok (.aload_n 0, 1) := by decide +kernel
theorem dX10_comes_35 : decode cX10_comes 35 = .ok (.iload_n 1, 1) := by decide +kernel
theorem dX10_comes_36 : decode cX10_comes 36 = .ok (.invokevirtual 271, 3) := by decide +kernel
theorem dX10_comes_39 : decode cX10_comes 39 = .ok (.aload_n 0, 1) := by decide +kernel
theorem dX10_comes_40 : decode cX10_comes 40 = .ok (.getfield 90, 3) := by decide +kernel
theorem dX10_comes_43 : decode cX10_comes 43 = .ok (.bipush 16, 2) := by decide +kernel
theorem dX10_comes_45 : decode cX10_comes 45 = .ok (.iload_n 1, 1) := by decide +kernel
theorem dX10_comes_46 : decode cX10_comes 46 = .ok (.imul, 1) := by decide +kernel
theorem dX10_comes_47 : decode cX10_comes 47 = .ok (.iload_n 2, 1) := by decide +kernel
theorem dX10_comes_48 : decode cX10_comes 48 = .ok (.iadd, 1) := by decide +kernel
theorem dX10_comes_49 : decode cX10_comes 49 = .ok (.iaload, 1) := by decide +kernel
theorem dX10_comes_50 : decode cX10_comes 50 = .ok (.istore_n 3, 1) := by decide +kernel
theorem dX10_comes_51 : decode cX10_comes 51 = .ok (.iload_n 3, 1) := by decide +kernel
theorem dX10_comes_52 : decode cX10_comes 52 = .ok (.bipush 120, 2) := by decide +kernel
theorem dX10_comes_54 : decode cX10_comes 54 = .ok (.if_icmp .le 7, 3) := by decide +kernel
theorem dX10_comes_57 : decode cX10_comes 57 = .ok (.iconst (-1), 1) := by decide +kernel
theorem dX10_comes_58 : decode cX10_comes 58 = .ok (.goto 4, 3) := by decide +kernel
theorem dX10_comes_61 : decode cX10_comes 61 = .ok (.iload_n 3, 1) := by decide +kernel
theorem dX10_comes_62 : decode cX10_comes 62 = .ok (.ireturn, 1) := by decide +kernel
set_option maxRecDepth 20000 in
theorem ggX10_place_X10_turn : GoodIn wsX10_place wsX10_turn := goodIn_r _ [12, 1, 7, 13, 14, 15, 16, 17, 18, 19, 20, 21, 22, 23, 24, 25, 26, 27, 28, 29, 30, 31, 32, 33, 34, 35, 36, 37, 38, 39, 40, 41, 42, 43, 44, 45, 46, 47, 48, 49, 50, 51, 52, 53, 54, 55, 56, 57, 58, 59, 60, 61, 62, 63] (by decide +kernel) (by decide +kernel)
set_option maxRecDepth 20000 in
theorem gX10_place_X10_turn : GoodIn wsX10_place (wsV RX10 274 RX10 yX10_turn wsX10_turn) := goodIn_app (goodIn_of _ (by decide +kernel)) ggX10_place_X10_turn
theorem dX10_place_0 : decode cX10_place 0 = .ok (.iconst 0, 1) := by decide +kernel
theorem dX10_place_1 : decode cX10_place 1 = .ok (.istore_n 3, 1) := by decide +kernel
theorem dX10_place_2 : decode cX10_place 2 = .ok (.iload_n 3, 1) := by decide +kernel
theorem dX10_place_3 : decode cX10_place 3 = .ok (.sipush 1920, 3) := by decide +kernel
theorem dX10_place_6 : decode cX10_place 6 = .ok (.if_icmp .ge 16, 3) := by decide +kernel
theorem dX10_place_9 : decode cX10_place 9 = .ok (.aload_n 0, 1) := by decide +kernel
theorem dX10_place_10 : decode cX10_place 10 = .ok (.getfield 99, 3) := by decide +kernel
theorem dX10_place_13 : decode cX10_place 13 = .ok (.iload_n 3, 1) := by decide +kernel
theorem dX10_place_14 : decode cX10_place 14 = .ok (.iconst (-1), 1) := by decide +kernel
theorem dX10_place_15 : decode cX10_place 15 = .ok (.iastore, 1) := by decide +kernel
theorem dX10_place_16 : decode cX10_place 16 = .ok (.iinc 3 1, 3) := by decide +kernel
theorem dX10_place_19 : decode cX10_place 19 = .ok (.goto (-17), 3) := by decide +kernel
theorem dX10_place_22 : decode cX10_place 22 = .ok (.iconst 0, 1) := by decide +kernel
theorem dX10_place_23 : decode cX10_place 23 = .ok (.istore_n 3, 1) := by decide +kernel
theorem dX10_place_24 : decode cX10_place 24 = .ok (.iconst 1, 1) := by decide +kernel
theorem dX10_place_25 : decode cX10_place 25 = .ok (.istore 4, 2) := by decide +kernel
theorem dX10_place_27 : decode cX10_place 27 = .ok (.aload_n 0, 1) := by decide +kernel
theorem dX10_place_28 : decode cX10_place 28 = .ok (.getfield 102, 3) := by decide +kernel
theorem dX10_place_31 : decode cX10_place 31 = .ok (.iconst 0, 1) := by decide +kernel
theorem dX10_place_32 : decode cX10_place 32 = .ok (.iload_n 1, 1) := by decide +kernel
theorem dX10_place_33 : decode cX10_place 33 = .ok (.iastore, 1) := by decide +kernel
theorem dX10_place_34 : decode cX10_place 34 = .ok (.iload_n 3, 1) := by decide +kernel
theorem dX10_place_35 : decode cX10_place 35 = .ok (.iload 4, 2) := by decide +kernel
theorem dX10_place_37 : decode cX10_place 37 = .ok (.if_icmp .ge 182, 3) := by decide +kernel
theorem dX10_place_40 : decode cX10_place 40 = .ok (.aload_n 0, 1) := by decide +kernel
theorem dX10_place_41 : decode cX10_place 41 = .ok (.getfield 102, 3) := by decide +kernel
theorem dX10_place_44 : decode cX10_place 44 = .ok (.iload_n 3, 1) := by decide +kernel
theorem dX10_place_45 : decode cX10_place 45 = .ok (.iaload, 1) := by decide +kernel
theorem dX10_place_46 : decode cX10_place 46 = .ok (.istore 5, 2) := by decide +kernel
theorem dX10_place_48 : decode cX10_place 48 = .ok (.iinc 3 1, 3) := by decide +kernel
theorem dX10_place_51 : decode cX10_place 51 = .ok (.iconst 0, 1) := by decide +kernel
theorem dX10_place_52 : decode cX10_place 52 = .ok (.istore 6, 2) := by decide +kernel
theorem dX10_place_54 : decode cX10_place 54 = .ok (.iload 6, 2) := by decide +kernel
theorem dX10_place_56 : decode cX10_place 56 = .ok (.bipush 16, 2) := by decide +kernel
theorem dX10_place_58 : decode cX10_place 58 = .ok (.if_icmp .ge 158, 3) := by decide +kernel
theorem dX10_place_61 : decode cX10_place 61 = .ok (.aload_n 0, 1) := by decide +kernel
theorem dX10_place_62 : decode cX10_place 62 = .ok (.getfield 90, 3) := by decide +kernel
theorem dX10_place_65 : decode cX10_place 65 = .ok (.bipush 16, 2) := by decide +kernel
theorem dX10_place_67 : decode cX10_place 67 = .ok (.iload 5, 2) := by decide +kernel
theorem dX10_place_69 : decode cX10_place 69 = .ok (.imul, 1) := by decide +kernel
theorem dX10_place_70 : decode cX10_place 70 = .ok (.iload 6, 2) := by decide +kernel
theorem dX10_place_72 : decode cX10_place 72 = .ok (.iadd, 1) := by decide +kernel
theorem dX10_place_73 : decode cX10_place 73 = .ok (.iaload, 1) := by decide +kernel
theorem dX10_place_74 : decode cX10_place 74 = .ok (.istore 7, 2) := by decide +kernel
theorem dX10_place_76 : decode cX10_place 76 = .ok (.iload 7, 2) := by decide +kernel
theorem dX10_place_78 : decode cX10_place 78 = .ok (.iload_n 2, 1) := by decide +kernel
theorem dX10_place_79 : decode cX10_place 79 = .ok (.if_icmp .ge 131, 3) := by decide +kernel
theorem dX10_place_82 : decode cX10_place 82 = .ok (.aload_n 0, 1) := by decide +kernel
theorem dX10_place_83 : decode cX10_place 83 = .ok (.getfield 81, 3) := by decide +kernel
theorem dX10_place_86 : decode cX10_place 86 = .ok (.iload 6, 2) := by decide +kernel
theorem dX10_place_88 : decode cX10_place 88 = .ok (.iaload, 1) := by decide +kernel
theorem dX10_place_89 : decode cX10_place 89 = .ok (.ifCond .le 121, 3) := by decide +kernel
theorem dX10_place_92 : decode cX10_place 92 = .ok (.bipush 120, 2) := by decide +kernel
theorem dX10_place_94 : decode cX10_place 94 = .ok (.iload 6, 2) := by decide +kernel
theorem dX10_place_96 : decode cX10_place 96 = .ok (.imul, 1) := by decide +kernel
theorem dX10_place_97 : decode cX10_place 97 = .ok (.iload 7, 2) := by decide +kernel
theorem dX10_place_99 : decode cX10_place 99 = .ok (.iadd, 1) := by decide +kernel
theorem dX10_place_100 : decode cX10_place 100 = .ok (.istore 8, 2) := by decide +kernel
theorem dX10_place_102 : decode cX10_place 102 = .ok (.aload_n 0, 1) := by decide +kernel
theorem dX10_place_103 : decode cX10_place 103 = .ok (.getfield 99, 3) := by decide +kernel
theorem dX10_place_106 : decode cX10_place 106 = .ok (.iload 8, 2) := by decide +kernel
theorem dX10_place_108 : decode cX10_place 108 = .ok (.iaload, 1) := by decide +kernel
theorem dX10_place_109 : decode cX10_place 109 = .ok (.iconst (-1), 1) := by decide +kernel
theorem dX10_place_110 : decode cX10_place 110 = .ok (.if_icmp .eq 6, 3) := by decide +kernel
theorem dX10_place_113 : decode cX10_place 113 = .ok (.goto 91, 3) := by decide +kernel
theorem dX10_place_116 : decode cX10_place 116 = .ok (.aload_n 0, 1) := by decide +kernel
theorem dX10_place_117 : decode cX10_place 117 = .ok (.getfield 99, 3) := by decide +kernel
theorem dX10_place_120 : decode cX10_place 120 = .ok (.iload 8, 2) := by decide +kernel
theorem dX10_place_122 : decode cX10_place 122 = .ok (.iload 5, 2) := by decide +kernel
theorem dX10_place_124 : decode cX10_place 124 = .ok (.iastore, 1) := by decide +kernel
theorem dX10_place_125 : decode cX10_place 125 = .ok (.aload_n 0, 1) := by decide +kernel
theorem dX10_place_126 : decode cX10_place 126 = .ok (.getfield 96, 3) := by decide +kernel
theorem dX10_place_129 : decode cX10_place 129 = .ok (.iload 8, 2) := by decide +kernel
theorem dX10_place_131 : decode cX10_place 131 = .ok (.iaload, 1) := by decide +kernel
theorem dX10_place_132 : decode cX10_place 132 = .ok (.aload_n 0, 1) := by decide +kernel
theorem dX10_place_133 : decode cX10_place 133 = .ok (.getfield 81, 3) := by decide +kernel
theorem dX10_place_136 : decode cX10_place 136 = .ok (.iload 6, 2) := by decide +kernel
theorem dX10_place_138 : decode cX10_place 138 = .ok (.iaload, 1) := by decide +kernel
theorem dX10_place_139 : decode cX10_place 139 = .ok (.if_icmp .ge 23, 3) := by decide +kernel
theorem dX10_place_142 : decode cX10_place 142 = .ok (.aload_n 0, 1) := by decide +kernel
theorem dX10_place_143 : decode cX10_place 143 = .ok (.getfield 96, 3) := by decide +kernel
theorem dX10_place_146 : decode cX10_place 146 = .ok (.iload 8, 2) := by decide +kernel
theorem dX10_place_148 : decode cX10_place 148 = .ok (.dup2, 1) := by decide +kernel
theorem dX10_place_149 : decode cX10_place 149 = .ok (.iaload, 1) := by decide +kernel
theorem dX10_place_150 : decode cX10_place 150 = .ok (.iconst 1, 1) := by decide +kernel
theorem dX10_place_151 : decode cX10_place 151 = .ok (.iadd, 1) := by decide +kernel
theorem dX10_place_152 : decode cX10_place 152 = .ok (.iastore, 1) := by decide +kernel
theorem dX10_place_153 : decode cX10_place 153 = .ok (.aload_n 0, 1) := by decide +kernel
theorem dX10_place_154 : decode cX10_place 154 = .ok (.iload 8, 2) := by decide +kernel
theorem dX10_place_156 : decode cX10_place 156 = .ok (.iload_n 1, 1) := by decide +kernel
theorem dX10_place_157 : decode cX10_place 157 = .ok (.invokevirtual 274, 3) := by decide +kernel
theorem dX10_place_160 : decode cX10_place 160 = .ok (.iconst 1, 1) := by decide +kernel
theorem dX10_place_161 : decode cX10_place 161 = .ok (.ireturn, 1) := by decide +kernel
theorem dX10_place_162 : decode cX10_place 162 = .ok (.iconst 0, 1) := by decide +kernel
theorem dX10_place_163 : decode cX10_place 163 = .ok (.istore 9, 2) := by decide +kernel
theorem dX10_place_165 : decode cX10_place 165 = .ok (.iload 9, 2) := by decide +kernel
theorem dX10_place_167 : decode cX10_place 167 = .ok (.aload_n 0, 1) := by decide +kernel
theorem dX10_place_168 : decode cX10_place 168 = .ok (.getfield 264, 3) := by decide +kernel
theorem dX10_place_171 : decode cX10_place 171 = .ok (.if_icmp .ge 33, 3) := by decide +kernel
theorem dX10_place_174 : decode cX10_place 174 = .ok (.aload_n 0, 1) := by decide +kernel
theorem dX10_place_175 : decode cX10_place 175 = .ok (.getfield 93, 3) := by decide +kernel
theorem dX10_place_178 : decode cX10_place 178 = .ok (.iload 9, 2) := by decide +kernel
theorem dX10_place_180 : decode cX10_place 180 = .ok (.iaload, 1) := by decide +kernel
theorem dX10_place_181 : decode cX10_place 181 = .ok (.iload 8, 2) := by decide +kernel
theorem dX10_place_183 : decode cX10_place 183 = .ok (.if_icmp .ne 15, 3) := by decide +kernel
theorem dX10_place_186 : decode cX10_place 186 = .ok (.aload_n 0, 1) := by decide +kernel
theorem dX10_place_187 : decode cX10_place 187 = .ok (.getfield 102, 3) := by decide +kernel
theorem dX10_place_190 : decode cX10_place 190 = .ok (.iload 4, 2) := by decide +kernel
theorem dX10_place_192 : decode cX10_place 192 = .ok (.iload 9, 2) := by decide +kernel
theorem dX10_place_194 : decode cX10_place 194 = .ok (.iastore, 1) := by decide +kernel
theorem dX10_place_195 : decode cX10_place 195 = .ok (.iinc 4 1, 3) := by decide +kernel
theorem dX10_place_198 : decode cX10_place 198 = .ok (.iinc 9 1, 3) := by decide +kernel
theorem dX10_place_201 : decode cX10_place 201 = .ok (.goto (-36), 3) := by decide +kernel
theorem dX10_place_204 : decode cX10_place 204 = .ok (.iinc 7 1, 3) := by decide +kernel
theorem dX10_place_207 : decode cX10_place 207 = .ok (.goto (-131), 3) := by decide +kernel
theorem dX10_place_210 : decode cX10_place 210 = .ok (.iinc 6 1, 3) := by decide +kernel
theorem dX10_place_213 : decode cX10_place 213 = .ok (.goto (-159), 3) := by decide +kernel
theorem dX10_place_216 : decode cX10_place 216 = .ok (.goto (-182), 3) := by decide +kernel
theorem dX10_place_219 : decode cX10_place 219 = .ok (.iconst 0, 1) := by decide +kernel
theorem dX10_place_220 : decode cX10_place 220 = .ok (.ireturn, 1) := by decide +kernel
theorem dX10_turn_0 : decode cX10_turn 0 = .ok (.iload_n 1, 1) := by decide +kernel
theorem dX10_turn_1 : decode cX10_turn 1 = .ok (.istore_n 3, 1) := by decide +kernel
theorem dX10_turn_2 : decode cX10_turn 2 = .ok (.aload_n 0, 1) := by decide +kernel
theorem dX10_turn_3 : decode cX10_turn 3 = .ok (.getfield 99, 3) := by decide +kernel
theorem dX10_turn_6 : decode cX10_turn 6 = .ok (.iload_n 3, 1) := by decide +kernel
theorem dX10_turn_7 : decode cX10_turn 7 = .ok (.iaload, 1) := by decide +kernel
theorem dX10_turn_8 : decode cX10_turn 8 = .ok (.istore 4, 2) := by decide +kernel
theorem dX10_turn_10 : decode cX10_turn 10 = .ok (.iload 4, 2) := by decide +kernel
theorem dX10_turn_12 : decode cX10_turn 12 = .ok (.iload_n 2, 1) := by decide +kernel
theorem dX10_turn_13 : decode cX10_turn 13 = .ok (.if_icmp .eq 34, 3) := by decide +kernel
theorem dX10_turn_16 : decode cX10_turn 16 = .ok (.aload_n 0, 1) := by decide +kernel
theorem dX10_turn_17 : decode cX10_turn 17 = .ok (.getfield 93, 3) := by decide +kernel
theorem dX10_turn_20 : decode cX10_turn 20 = .ok (.iload 4, 2) := by decide +kernel
theorem dX10_turn_22 : decode cX10_turn 22 = .ok (.iaload, 1) := by decide +kernel
theorem dX10_turn_23 : decode cX10_turn 23 = .ok (.istore 5, 2) := by decide +kernel
theorem dX10_turn_25 : decode cX10_turn 25 = .ok (.aload_n 0, 1) := by decide +kernel
theorem dX10_turn_26 : decode cX10_turn 26 = .ok (.getfield 93, 3) := by decide +kernel
theorem dX10_turn_29 : decode cX10_turn 29 = .ok (.iload 4, 2) := by decide +kernel
theorem dX10_turn_31 : decode cX10_turn 31 = .ok (.iload_n 3, 1) := by decide +kernel
theorem dX10_turn_32 : decode cX10_turn 32 = .ok (.iastore, 1) := by decide +kernel
theorem dX10_turn_33 : decode cX10_turn 33 = .ok (.iload 5, 2) := by decide +kernel
theorem dX10_turn_35 : decode cX10_turn 35 = .ok (.istore_n 3, 1) := by decide +kernel
theorem dX10_turn_36 : decode cX10_turn 36 = .ok (.aload_n 0, 1) := by decide +kernel
theorem dX10_turn_37 : decode cX10_turn 37 = .ok (.getfield 99, 3) := by decide +kernel
theorem dX10_turn_40 : decode cX10_turn 40 = .ok (.iload_n 3, 1) := by decide +kernel
theorem dX10_turn_41 : decode cX10_turn 41 = .ok (.iaload, 1) := by decide +kernel
theorem dX10_turn_42 : decode cX10_turn 42 = .ok (.istore 4, 2) := by decide +kernel
theorem dX10_turn_44 : decode cX10_turn 44 = .ok (.goto (-34), 3) := by decide +kernel
theorem dX10_turn_47 : decode cX10_turn 47 = .ok (.aload_n 0, 1) := by decide +kernel
theorem dX10_turn_48 : decode cX10_turn 48 = .ok (.getfield 93, 3) := by decide +kernel
theorem dX10_turn_51 : decode cX10_turn 51 = .ok (.iload 4, 2) := by decide +kernel
theorem dX10_turn_53 : decode cX10_turn 53 = .ok (.iload_n 3, 1) := by decide +kernel
theorem dX10_turn_54 : decode cX10_turn 54 = .ok (.iastore, 1) := by decide +kernel
theorem dX10_turn_55 : decode cX10_turn 55 = .ok (.return_, 1) := by decide +kernel
set_option maxRecDepth 20000 in
theorem ggX10_pushed_X10_isHour : GoodIn wsX10_pushed wsX10_isHour := goodIn_r _ [9, 10, 11, 12, 8, 13] (by decide +kernel) (by decide +kernel)
set_option maxRecDepth 20000 in
theorem gX10_pushed_X10_isHour : GoodIn wsX10_pushed (va_wsS RX10 237 yX10_isHour wsX10_isHour) := goodIn_app (goodIn_of _ (by decide +kernel)) ggX10_pushed_X10_isHour
set_option maxRecDepth 20000 in
theorem ggX10_pushed_X10_told : GoodIn wsX10_pushed wsX10_told := goodIn_r _ [17, 18, 62, 63, 64, 65, 66, 67, 68, 69, 70, 71, 72, 73, 74, 75, 76, 77, 78, 79, 80, 81, 82, 83, 84, 85, 86, 87, 88, 89, 90, 91, 92, 93, 94, 95, 96, 97, 98, 99, 100, 101, 102, 103, 104, 105, 106, 107, 108, 109, 110, 111, 112] (by decide +kernel) (by decide +kernel)
set_option maxRecDepth 20000 in
theorem gX10_pushed_X10_told : GoodIn wsX10_pushed (wsV RX10 148 RX10 yX10_told wsX10_told) := goodIn_app (goodIn_of _ (by decide +kernel)) ggX10_pushed_X10_told
set_option maxRecDepth 20000 in
theorem ggX10_pushed_X10_reckon : GoodIn wsX10_pushed wsX10_reckon := goodIn_r _ [22, 23, 24, 25, 26, 27, 28, 29, 30, 31, 32, 33, 34, 35, 62, 63, 64, 65, 66, 67, 68, 69, 70, 71, 72, 73, 74, 75, 76, 77, 78, 79, 80, 81, 82, 83, 84, 85, 86, 87, 88, 89, 90, 91, 92, 93, 94, 95, 96, 97, 98, 99, 100, 101, 102, 103, 104, 105, 106, 107, 108, 109, 110, 111, 112] (by decide +kernel) (by decide +kernel)
set_option maxRecDepth 20000 in
theorem gX10_pushed_X10_reckon : GoodIn wsX10_pushed (wsV RX10 234 RX10 yX10_reckon wsX10_reckon) := goodIn_app (goodIn_of _ (by decide +kernel)) ggX10_pushed_X10_reckon
set_option maxRecDepth 20000 in
theorem ggX10_pushed_X10_findComing : GoodIn wsX10_pushed wsX10_findComing := goodIn_r _ [39, 40, 24, 41, 42, 43, 44, 45, 46, 47, 48, 8, 49, 50, 23, 62, 63, 64, 65, 66, 67, 68, 69, 70, 71, 72, 73, 74, 75, 76, 77, 78, 79, 80, 81, 82, 83, 84, 85, 86, 87, 88, 89, 90, 91, 92, 93, 94, 95, 96, 97, 98, 99, 100, 101, 102, 103, 104, 105, 106, 107, 108, 109, 110, 111, 112] (by decide +kernel) (by decide +kernel)
set_option maxRecDepth 20000 in
theorem gX10_pushed_X10_findComing : GoodIn wsX10_pushed (wsV RX10 271 RX10 yX10_findComing wsX10_findComing) := goodIn_app (goodIn_of _ (by decide +kernel)) ggX10_pushed_X10_findComing
set_option maxRecDepth 20000 in
theorem ggX10_pushed_X10_place : GoodIn wsX10_pushed wsX10_place := goodIn_r _ [54, 55, 56, 40, 57, 2, 3, 4, 58, 59, 60, 8, 61, 62, 63, 64, 65, 66, 67, 68, 69, 70, 71, 72, 73, 74, 75, 76, 77, 78, 79, 80, 81, 82, 83, 84, 85, 86, 87, 88, 89, 90, 91, 92, 93, 94, 95, 96, 97, 98, 99, 100, 101, 102, 103, 104, 105, 106, 107, 108, 109, 110, 111, 112] (by decide +kernel) (by decide +kernel)
set_option maxRecDepth 20000 in
theorem gX10_pushed_X10_place : GoodIn wsX10_pushed (wsV RX10 277 RX10 yX10_place wsX10_place) := goodIn_app (goodIn_of _ (by decide +kernel)) ggX10_pushed_X10_place
theorem dX10_pushed_0 : decode cX10_pushed 0 = .ok (.aload_n 0, 1) := by decide +kernel
theorem dX10_pushed_1 : decode cX10_pushed 1 = .ok (.iconst 0, 1) := by decide +kernel
theorem dX10_pushed_2 : decode cX10_pushed 2 = .ok (.putfield 123, 3) := by decide +kernel
theorem dX10_pushed_5 : decode cX10_pushed 5 = .ok (.iload_n 1, 1) := by decide +kernel
theorem dX10_pushed_6 : decode cX10_pushed 6 = .ok (.invokestatic 237, 3) := by decide +kernel
theorem dX10_pushed_9 : decode cX10_pushed 9 = .ok (.ifCond .ne 9, 3) := by decide +kernel
theorem dX10_pushed_12 : decode cX10_pushed 12 = .ok (.aload_n 0, 1) := by decide +kernel
theorem dX10_pushed_13 : decode cX10_pushed 13 = .ok (.iconst (-1), 1) := by decide +kernel
theorem dX10_pushed_14 : decode cX10_pushed 14 = .ok (.invokevirtual 148, 3) := by decide +kernel
theorem dX10_pushed_17 : decode cX10_pushed 17 = .ok (.ireturn, 1) := by decide +kernel
theorem dX10_pushed_18 : decode cX10_pushed 18 = .ok (.aload_n 0, 1) := by decide +kernel
theorem dX10_pushed_19 : decode cX10_pushed 19 = .ok (.invokevirtual 234, 3) := by decide +kernel
theorem dX10_pushed_22 : decode cX10_pushed 22 = .ok (.iconst 0, 1) := by decide +kernel
theorem dX10_pushed_23 : decode cX10_pushed 23 = .ok (.istore_n 2, 1) := by decide +kernel
theorem dX10_pushed_24 : decode cX10_pushed 24 = .ok (.iload_n 2, 1) := by decide +kernel
theorem dX10_pushed_25 : decode cX10_pushed 25 = .ok (.sipush 1920, 3) := by decide +kernel
theorem dX10_pushed_28 : decode cX10_pushed 28 = .ok (.if_icmp .ge 16, 3) := by decide +kernel
theorem dX10_pushed_31 : decode cX10_pushed 31 = .ok (.aload_n 0, 1) := by decide +kernel
theorem dX10_pushed_32 : decode cX10_pushed 32 = .ok (.getfield 96, 3) := by decide +kernel
theorem dX10_pushed_35 : decode cX10_pushed 35 = .ok (.iload_n 2, 1) := by decide +kernel
theorem dX10_pushed_36 : decode cX10_pushed 36 = .ok (.iconst 0, 1) := by decide +kernel
theorem dX10_pushed_37 : decode cX10_pushed 37 = .ok (.iastore, 1) := by decide +kernel
theorem dX10_pushed_38 : decode cX10_pushed 38 = .ok (.iinc 2 1, 3) := by decide +kernel
theorem dX10_pushed_41 : decode cX10_pushed 41 = .ok (.goto (-17), 3) := by decide +kernel
theorem dX10_pushed_44 : decode cX10_pushed 44 = .ok (.iconst 0, 1) := by decide +kernel
theorem dX10_pushed_45 : decode cX10_pushed 45 = .ok (.istore_n 2, 1) := by decide +kernel
theorem dX10_pushed_46 : decode cX10_pushed 46 = .ok (.iload_n 2, 1) := by decide +kernel
theorem dX10_pushed_47 : decode cX10_pushed 47 = .ok (.aload_n 0, 1) := by decide +kernel
theorem dX10_pushed_48 : decode cX10_pushed 48 = .ok (.getfield 264, 3) := by decide +kernel
theorem dX10_pushed_51 : decode cX10_pushed 51 = .ok (.if_icmp .ge 21, 3) := by decide +kernel
theorem dX10_pushed_54 : decode cX10_pushed 54 = .ok (.aload_n 0, 1) := by decide +kernel
theorem dX10_pushed_55 : decode cX10_pushed 55 = .ok (.getfield 93, 3) := by decide +kernel
theorem dX10_pushed_58 : decode cX10_pushed 58 = .ok (.iload_n 2, 1) := by decide +kernel
theorem dX10_pushed_59 : decode cX10_pushed 59 = .ok (.iconst (-1), 1) := by decide +kernel
theorem dX10_pushed_60 : decode cX10_pushed 60 = .ok (.iastore, 1) := by decide +kernel
theorem dX10_pushed_61 : decode cX10_pushed 61 = .ok (.aload_n 0, 1) := by decide +kernel
theorem dX10_pushed_62 : decode cX10_pushed 62 = .ok (.iload_n 2, 1) := by decide +kernel
theorem dX10_pushed_63 : decode cX10_pushed 63 = .ok (.invokevirtual 271, 3) := by decide +kernel
theorem dX10_pushed_66 : decode cX10_pushed 66 = .ok (.iinc 2 1, 3) := by decide +kernel
theorem dX10_pushed_69 : decode cX10_pushed 69 = .ok (.goto (-23), 3) := by decide +kernel
theorem dX10_pushed_72 : decode cX10_pushed 72 = .ok (.iconst 0, 1) := by decide +kernel
theorem dX10_pushed_73 : decode cX10_pushed 73 = .ok (.istore_n 2, 1) := by decide +kernel
theorem dX10_pushed_74 : decode cX10_pushed 74 = .ok (.iconst 0, 1) := by decide +kernel
theorem dX10_pushed_75 : decode cX10_pushed 75 = .ok (.istore_n 3, 1) := by decide +kernel
theorem dX10_pushed_76 : decode cX10_pushed 76 = .ok (.iload_n 3, 1) := by decide +kernel
theorem dX10_pushed_77 : decode cX10_pushed 77 = .ok (.aload_n 0, 1) := by decide +kernel
theorem dX10_pushed_78 : decode cX10_pushed 78 = .ok (.getfield 264, 3) := by decide +kernel
theorem dX10_pushed_81 : decode cX10_pushed 81 = .ok (.if_icmp .ge 26, 3) := by decide +kernel
theorem dX10_pushed_84 : decode cX10_pushed 84 = .ok (.iload_n 2, 1) := by decide +kernel
theorem dX10_pushed_85 : decode cX10_pushed 85 = .ok (.aload_n 0, 1) := by decide +kernel
theorem dX10_pushed_86 : decode cX10_pushed 86 = .ok (.iload_n 3, 1) := by decide +kernel
theorem dX10_pushed_87 : decode cX10_pushed 87 = .ok (.iload_n 1, 1) := by decide +kernel
theorem dX10_pushed_88 : decode cX10_pushed 88 = .ok (.invokevirtual 277, 3) := by decide +kernel
theorem dX10_pushed_91 : decode cX10_pushed 91 = .ok (.ifCond .eq 7, 3) := by decide +kernel
theorem dX10_pushed_94 : decode cX10_pushed 94 = .ok (.iconst 1, 1) := by decide +kernel
theorem dX10_pushed_95 : decode cX10_pushed 95 = .ok (.goto 4, 3) := by decide +kernel
theorem dX10_pushed_98 : decode cX10_pushed 98 = .ok (.iconst 0, 1) := by decide +kernel
theorem dX10_pushed_99 : decode cX10_pushed 99 = .ok (.iadd, 1) := by decide +kernel
theorem dX10_pushed_100 : decode cX10_pushed 100 = .ok (.istore_n 2, 1) := by decide +kernel
theorem dX10_pushed_101 : decode cX10_pushed 101 = .ok (.iinc 3 1, 3) := by decide +kernel
theorem dX10_pushed_104 : decode cX10_pushed 104 = .ok (.goto (-28), 3) := by decide +kernel
theorem dX10_pushed_107 : decode cX10_pushed 107 = .ok (.aload_n 0, 1) := by decide +kernel
theorem dX10_pushed_108 : decode cX10_pushed 108 = .ok (.aload_n 0, 1) := by decide +kernel
theorem dX10_pushed_109 : decode cX10_pushed 109 = .ok (.getfield 264, 3) := by decide +kernel
theorem dX10_pushed_112 : decode cX10_pushed 112 = .ok (.putfield 105, 3) := by decide +kernel
theorem dX10_pushed_115 : decode cX10_pushed 115 = .ok (.aload_n 0, 1) := by decide +kernel
theorem dX10_pushed_116 : decode cX10_pushed 116 = .ok (.iload_n 2, 1) := by decide +kernel
theorem dX10_pushed_117 : decode cX10_pushed 117 = .ok (.invokevirtual 148, 3) := by decide +kernel
theorem dX10_pushed_120 : decode cX10_pushed 120 = .ok (.ireturn, 1) := by decide +kernel
set_option maxRecDepth 20000 in
theorem ggX10_has_X10_in : GoodIn wsX10_has wsX10_in := goodIn_r _ [8] (by decide +kernel) (by decide +kernel)
set_option maxRecDepth 20000 in
theorem gX10_has_X10_in : GoodIn wsX10_has (va_wsS RX10 131 yX10_in wsX10_in) := goodIn_app (goodIn_of _ (by decide +kernel)) ggX10_has_X10_in
theorem dX10_has_0 : decode cX10_has 0 = .ok (.aload_n 0, 1) := by decide +kernel
theorem dX10_has_1 : decode cX10_has 1 = .ok (.iconst 0, 1) := by decide +kernel
theorem dX10_has_2 : decode cX10_has 2 = .ok (.putfield 123, 3) := by decide +kernel
theorem dX10_has_5 : decode cX10_has 5 = .ok (.aload_n 0, 1) := by decide +kernel
theorem dX10_has_6 : decode cX10_has 6 = .ok (.getfield 105, 3) := by decide +kernel
theorem dX10_has_9 : decode cX10_has 9 = .ok (.ifCond .lt 19, 3) := by decide +kernel
theorem dX10_has_12 : decode cX10_has 12 = .ok (.iload_n 1, 1) := by decide +kernel
theorem dX10_has_13 : decode cX10_has 13 = .ok (.i2l, 1) := by decide +kernel
theorem dX10_has_14 : decode cX10_has 14 = .ok (.lconst 0, 1) := by decide +kernel
theorem dX10_has_15 : decode cX10_has 15 = .ok (.aload_n 0, 1) := by decide +kernel
theorem dX10_has_16 : decode cX10_has 16 = .ok (.getfield 264, 3) := by decide +kernel
theorem dX10_has_19 : decode cX10_has 19 = .ok (.i2l, 1) := by decide +kernel
theorem dX10_has_20 : decode cX10_has 20 = .ok (.lconst 1, 1) := by decide +kernel
theorem dX10_has_21 : decode cX10_has 21 = .ok (.lsub, 1) := by decide +kernel
theorem dX10_has_22 : decode cX10_has 22 = .ok (.invokestatic 131, 3) := by decide +kernel
theorem dX10_has_25 : decode cX10_has 25 = .ok (.ifCond .ne 5, 3) := by decide +kernel
theorem dX10_has_28 : decode cX10_has 28 = .ok (.iconst (-1), 1) := by decide +kernel
theorem dX10_has_29 : decode cX10_has 29 = .ok (.ireturn, 1) := by decide +kernel
theorem dX10_has_30 : decode cX10_has 30 = .ok (.iload_n 1, 1) := by decide +kernel
theorem dX10_has_31 : decode cX10_has 31 = .ok (.aload_n 0, 1) := by decide +kernel
theorem dX10_has_32 : decode cX10_has 32 = .ok (.getfield 105, 3) := by decide +kernel
theorem dX10_has_35 : decode cX10_has 35 = .ok (.if_icmp .ge 17, 3) := by decide +kernel
theorem dX10_has_38 : decode cX10_has 38 = .ok (.aload_n 0, 1) := by decide +kernel
theorem dX10_has_39 : decode cX10_has 39 = .ok (.getfield 93, 3) := by decide +kernel
theorem dX10_has_42 : decode cX10_has 42 = .ok (.iload_n 1, 1) := by decide +kernel
theorem dX10_has_43 : decode cX10_has 43 = .ok (.iaload, 1) := by decide +kernel
theorem dX10_has_44 : decode cX10_has 44 = .ok (.iconst (-1), 1) := by decide +kernel
theorem dX10_has_45 : decode cX10_has 45 = .ok (.if_icmp .eq 7, 3) := by decide +kernel
theorem dX10_has_48 : decode cX10_has 48 = .ok (.iconst 1, 1) := by decide +kernel
theorem dX10_has_49 : decode cX10_has 49 = .ok (.goto 4, 3) := by decide +kernel
theorem dX10_has_52 : decode cX10_has 52 = .ok (.iconst 0, 1) := by decide +kernel
theorem dX10_has_53 : decode cX10_has 53 = .ok (.ireturn, 1) := by decide +kernel
set_option maxRecDepth 20000 in
theorem ggX10_wheel_X10_in : GoodIn wsX10_wheel wsX10_in := goodIn_r _ [8] (by decide +kernel) (by decide +kernel)
set_option maxRecDepth 20000 in
theorem gX10_wheel_X10_in : GoodIn wsX10_wheel (va_wsS RX10 131 yX10_in wsX10_in) := goodIn_app (goodIn_of _ (by decide +kernel)) ggX10_wheel_X10_in
set_option maxRecDepth 20000 in
theorem ggX10_wheel_X10_told : GoodIn wsX10_wheel wsX10_told := goodIn_r _ [12, 13, 14, 15, 16, 17, 18, 19, 20, 21, 22, 23, 24, 25, 26, 27, 28, 29, 30, 31, 32, 33, 34, 35, 36, 37, 38, 39, 40, 41, 42, 43, 44, 45, 46, 47, 48, 49, 50, 51, 52, 53, 54, 55, 56, 57, 58, 59, 60, 61, 62, 63, 64] (by decide +kernel) (by decide +kernel)
set_option maxRecDepth 20000 in
theorem gX10_wheel_X10_told : GoodIn wsX10_wheel (wsV RX10 148 RX10 yX10_told wsX10_told) := goodIn_app (goodIn_of _ (by decide +kernel)) ggX10_wheel_X10_told
theorem dX10_wheel_0 : decode cX10_wheel 0 = .ok (.aload_n 0, 1) := by decide +kernel
theorem dX10_wheel_1 : decode cX10_wheel 1 = .ok (.iconst 0, 1) := by decide +kernel
theorem dX10_wheel_2 : decode cX10_wheel 2 = .ok (.putfield 123, 3) := by decide +kernel
theorem dX10_wheel_5 : decode cX10_wheel 5 = .ok (.iload_n 1, 1) := by decide +kernel
theorem dX10_wheel_6 : decode cX10_wheel 6 = .ok (.i2l, 1) := by decide +kernel
theorem dX10_wheel_7 : decode cX10_wheel 7 = .ok (.lconst 0, 1) := by decide +kernel
theorem dX10_wheel_8 : decode cX10_wheel 8 = .ok (.aload_n 0, 1) := by decide +kernel
theorem dX10_wheel_9 : decode cX10_wheel 9 = .ok (.getfield 264, 3) := by decide +kernel
theorem dX10_wheel_12 : decode cX10_wheel 12 = .ok (.i2l, 1) := by decide +kernel
theorem dX10_wheel_13 : decode cX10_wheel 13 = .ok (.lconst 1, 1) := by decide +kernel
theorem dX10_wheel_14 : decode cX10_wheel 14 = .ok (.lsub, 1) := by decide +kernel
theorem dX10_wheel_15 : decode cX10_wheel 15 = .ok (.invokestatic 131, 3) := by decide +kernel
theorem dX10_wheel_18 : decode cX10_wheel 18 = .ok (.ifCond .ne 10, 3) := by decide +kernel
theorem dX10_wheel_21 : decode cX10_wheel 21 = .ok (.aload_n 0, 1) := by decide +kernel
theorem dX10_wheel_22 : decode cX10_wheel 22 = .ok (.bipush (-2), 2) := by decide +kernel
theorem dX10_wheel_24 : decode cX10_wheel 24 = .ok (.invokevirtual 148, 3) := by decide +kernel
theorem dX10_wheel_27 : decode cX10_wheel 27 = .ok (.ireturn, 1) := by decide +kernel
theorem dX10_wheel_28 : decode cX10_wheel 28 = .ok (.aload_n 0, 1) := by decide +kernel
theorem dX10_wheel_29 : decode cX10_wheel 29 = .ok (.getfield 281, 3) := by decide +kernel
theorem dX10_wheel_32 : decode cX10_wheel 32 = .ok (.bipush 60, 2) := by decide +kernel
theorem dX10_wheel_34 : decode cX10_wheel 34 = .ok (.if_icmp .ne 10, 3) := by decide +kernel
theorem dX10_wheel_37 : decode cX10_wheel 37 = .ok (.aload_n 0, 1) := by decide +kernel
theorem dX10_wheel_38 : decode cX10_wheel 38 = .ok (.bipush (-5), 2) := by decide +kernel
theorem dX10_wheel_40 : decode cX10_wheel 40 = .ok (.invokevirtual 148, 3) := by decide +kernel
theorem dX10_wheel_43 : decode cX10_wheel 43 = .ok (.ireturn, 1) := by decide +kernel
theorem dX10_wheel_44 : decode cX10_wheel 44 = .ok (.aload_n 0, 1) := by decide +kernel
theorem dX10_wheel_45 : decode cX10_wheel 45 = .ok (.getfield 108, 3) := by decide +kernel
theorem dX10_wheel_48 : decode cX10_wheel 48 = .ok (.aload_n 0, 1) := by decide +kernel
theorem dX10_wheel_49 : decode cX10_wheel 49 = .ok (.getfield 281, 3) := by decide +kernel
theorem dX10_wheel_52 : decode cX10_wheel 52 = .ok (.iload_n 1, 1) := by decide +kernel
theorem dX10_wheel_53 : decode cX10_wheel 53 = .ok (.iastore, 1) := by decide +kernel
theorem dX10_wheel_54 : decode cX10_wheel 54 = .ok (.aload_n 0, 1) := by decide +kernel
theorem dX10_wheel_55 : decode cX10_wheel 55 = .ok (.dup, 1) := by decide +kernel
theorem dX10_wheel_56 : decode cX10_wheel 56 = .ok (.getfield 281, 3) := by decide +kernel
theorem dX10_wheel_59 : decode cX10_wheel 59 = .ok (.iconst 1, 1) := by decide +kernel
theorem dX10_wheel_60 : decode cX10_wheel 60 = .ok (.iadd, 1) := by decide +kernel
theorem dX10_wheel_61 : decode cX10_wheel 61 = .ok (.putfield 281, 3) := by decide +kernel
theorem dX10_wheel_64 : decode cX10_wheel 64 = .ok (.aload_n 0, 1) := by decide +kernel
theorem dX10_wheel_65 : decode cX10_wheel 65 = .ok (.aload_n 0, 1) := by decide +kernel
theorem dX10_wheel_66 : decode cX10_wheel 66 = .ok (.getfield 281, 3) := by decide +kernel
theorem dX10_wheel_69 : decode cX10_wheel 69 = .ok (.iconst 1, 1) := by decide +kernel
theorem dX10_wheel_70 : decode cX10_wheel 70 = .ok (.isub, 1) := by decide +kernel
theorem dX10_wheel_71 : decode cX10_wheel 71 = .ok (.invokevirtual 148, 3) := by decide +kernel
theorem dX10_wheel_74 : decode cX10_wheel 74 = .ok (.ireturn, 1) := by decide +kernel
set_option maxRecDepth 20000 in
theorem ggX10_see_X10_isHour : GoodIn wsX10_see wsX10_isHour := goodIn_r _ [13, 14, 15, 16, 12, 17] (by decide +kernel) (by decide +kernel)
set_option maxRecDepth 20000 in
theorem gX10_see_X10_isHour : GoodIn wsX10_see (va_wsS RX10 237 yX10_isHour wsX10_isHour) := goodIn_app (goodIn_of _ (by decide +kernel)) ggX10_see_X10_isHour
set_option maxRecDepth 20000 in
theorem ggX10_see_X10_in : GoodIn wsX10_see wsX10_in := goodIn_r _ [17] (by decide +kernel) (by decide +kernel)
set_option maxRecDepth 20000 in
theorem gX10_see_X10_in : GoodIn wsX10_see (va_wsS RX10 131 yX10_in wsX10_in) := goodIn_app (goodIn_of _ (by decide +kernel)) ggX10_see_X10_in
set_option maxRecDepth 20000 in
theorem ggX10_see_X10_told : GoodIn wsX10_see wsX10_told := goodIn_r _ [21, 22, 23, 24, 25, 26, 27, 28, 29, 30, 31, 32, 33, 34, 35, 36, 37, 38, 39, 40, 41, 42, 43, 44, 45, 46, 47, 48, 49, 50, 51, 52, 53, 54, 55, 56, 57, 58, 59, 60, 61, 62, 63, 64, 65, 66, 67, 68, 69, 70, 71, 72, 73] (by decide +kernel) (by decide +kernel)
set_option maxRecDepth 20000 in
theorem gX10_see_X10_told : GoodIn wsX10_see (wsV RX10 148 RX10 yX10_told wsX10_told) := goodIn_app (goodIn_of _ (by decide +kernel)) ggX10_see_X10_told
theorem dX10_see_0 : decode cX10_see 0 = .ok (.aload_n 0, 1) := by decide +kernel
theorem dX10_see_1 : decode cX10_see 1 = .ok (.iconst 0, 1) := by decide +kernel
theorem dX10_see_2 : decode cX10_see 2 = .ok (.putfield 123, 3) := by decide +kernel
theorem dX10_see_5 : decode cX10_see 5 = .ok (.iload_n 3, 1) := by decide +kernel
theorem dX10_see_6 : decode cX10_see 6 = .ok (.invokestatic 237, 3) := by decide +kernel
theorem dX10_see_9 : decode cX10_see 9 = .ok (.ifCond .eq 16, 3) := by decide +kernel
theorem dX10_see_12 : decode cX10_see 12 = .ok (.iload 4, 2) := by decide +kernel
theorem dX10_see_14 : decode cX10_see 14 = .ok (.i2l, 1) := by decide +kernel
theorem dX10_see_15 : decode cX10_see 15 = .ok (.lconst 0, 1) := by decide +kernel
theorem dX10_see_16 : decode cX10_see 16 = .ok (.ldc2_w 192, 3) := by decide +kernel
theorem dX10_see_19 : decode cX10_see 19 = .ok (.invokestatic 131, 3) := by decide +kernel
theorem dX10_see_22 : decode cX10_see 22 = .ok (.ifCond .ne 9, 3) := by decide +kernel
theorem dX10_see_25 : decode cX10_see 25 = .ok (.aload_n 0, 1) := by decide +kernel
theorem dX10_see_26 : decode cX10_see 26 = .ok (.iconst (-1), 1) := by decide +kernel
theorem dX10_see_27 : decode cX10_see 27 = .ok (.invokevirtual 148, 3) := by decide +kernel
theorem dX10_see_30 : decode cX10_see 30 = .ok (.ireturn, 1) := by decide +kernel
theorem dX10_see_31 : decode cX10_see 31 = .ok (.iload_n 1, 1) := by decide +kernel
theorem dX10_see_32 : decode cX10_see 32 = .ok (.i2l, 1) := by decide +kernel
theorem dX10_see_33 : decode cX10_see 33 = .ok (.lconst 0, 1) := by decide +kernel
theorem dX10_see_34 : decode cX10_see 34 = .ok (.aload_n 0, 1) := by decide +kernel
theorem dX10_see_35 : decode cX10_see 35 = .ok (.getfield 281, 3) := by decide +kernel
theorem dX10_see_38 : decode cX10_see 38 = .ok (.i2l, 1) := by decide +kernel
theorem dX10_see_39 : decode cX10_see 39 = .ok (.lconst 1, 1) := by decide +kernel
theorem dX10_see_40 : decode cX10_see 40 = .ok (.lsub, 1) := by decide +kernel
theorem dX10_see_41 : decode cX10_see 41 = .ok (.invokestatic 131, 3) := by decide +kernel
theorem dX10_see_44 : decode cX10_see 44 = .ok (.ifCond .eq 19, 3) := by decide +kernel
theorem dX10_see_47 : decode cX10_see 47 = .ok (.iload_n 2, 1) := by decide +kernel
theorem dX10_see_48 : decode cX10_see 48 = .ok (.i2l, 1) := by decide +kernel
theorem dX10_see_49 : decode cX10_see 49 = .ok (.lconst 0, 1) := by decide +kernel
theorem dX10_see_50 : decode cX10_see 50 = .ok (.aload_n 0, 1) := by decide +kernel
theorem dX10_see_51 : decode cX10_see 51 = .ok (.getfield 264, 3) := by decide +kernel
theorem dX10_see_54 : decode cX10_see 54 = .ok (.i2l, 1) := by decide +kernel
theorem dX10_see_55 : decode cX10_see 55 = .ok (.lconst 1, 1) := by decide +kernel
theorem dX10_see_56 : decode cX10_see 56 = .ok (.lsub, 1) := by decide +kernel
theorem dX10_see_57 : decode cX10_see 57 = .ok (.invokestatic 131, 3) := by decide +kernel
theorem dX10_see_60 : decode cX10_see 60 = .ok (.ifCond .ne 10, 3) := by decide +kernel
theorem dX10_see_63 : decode cX10_see 63 = .ok (.aload_n 0, 1) := by decide +kernel
theorem dX10_see_64 : decode cX10_see 64 = .ok (.bipush (-2), 2) := by decide +kernel
theorem dX10_see_66 : decode cX10_see 66 = .ok (.invokevirtual 148, 3) := by decide +kernel
theorem dX10_see_69 : decode cX10_see 69 = .ok (.ireturn, 1) := by decide +kernel
theorem dX10_see_70 : decode cX10_see 70 = .ok (.aload_n 0, 1) := by decide +kernel
theorem dX10_see_71 : decode cX10_see 71 = .ok (.getfield 284, 3) := by decide +kernel
theorem dX10_see_74 : decode cX10_see 74 = .ok (.sipush 200, 3) := by decide +kernel
theorem dX10_see_77 : decode cX10_see 77 = .ok (.if_icmp .ne 10, 3) := by decide +kernel
theorem dX10_see_80 : decode cX10_see 80 = .ok (.aload_n 0, 1) := by decide +kernel
theorem dX10_see_81 : decode cX10_see 81 = .ok (.bipush (-5), 2) := by decide +kernel
theorem dX10_see_83 : decode cX10_see 83 = .ok (.invokevirtual 148, 3) := by decide +kernel
theorem dX10_see_86 : decode cX10_see 86 = .ok (.ireturn, 1) := by decide +kernel
theorem dX10_see_87 : decode cX10_see 87 = .ok (.aload_n 0, 1) := by decide +kernel
theorem dX10_see_88 : decode cX10_see 88 = .ok (.getfield 111, 3) := by decide +kernel
theorem dX10_see_91 : decode cX10_see 91 = .ok (.aload_n 0, 1) := by decide +kernel
theorem dX10_see_92 : decode cX10_see 92 = .ok (.getfield 284, 3) := by decide +kernel
theorem dX10_see_95 : decode cX10_see 95 = .ok (.iload_n 1, 1) := by decide +kernel
theorem dX10_see_96 : decode cX10_see 96 = .ok (.iastore, 1) := by decide +kernel
theorem dX10_see_97 : decode cX10_see 97 = .ok (.aload_n 0, 1) := by decide +kernel
theorem dX10_see_98 : decode cX10_see 98 = .ok (.getfield 114, 3) := by decide +kernel
theorem dX10_see_101 : decode cX10_see 101 = .ok (.aload_n 0, 1) := by decide +kernel
theorem dX10_see_102 : decode cX10_see 102 = .ok (.getfield 284, 3) := by decide +kernel
theorem dX10_see_105 : decode cX10_see 105 = .ok (.iload_n 2, 1) := by decide +kernel
theorem dX10_see_106 : decode cX10_see 106 = .ok (.iastore, 1) := by decide +kernel
theorem dX10_see_107 : decode cX10_see 107 = .ok (.aload_n 0, 1) := by decide +kernel
theorem dX10_see_108 : decode cX10_see 108 = .ok (.getfield 117, 3) := by decide +kernel
theorem dX10_see_111 : decode cX10_see 111 = .ok (.aload_n 0, 1) := by decide +kernel
theorem dX10_see_112 : decode cX10_see 112 = .ok (.getfield 284, 3) := by decide +kernel
theorem dX10_see_115 : decode cX10_see 115 = .ok (.iload_n 3, 1) := by decide +kernel
theorem dX10_see_116 : decode cX10_see 116 = .ok (.iastore, 1) := by decide +kernel
theorem dX10_see_117 : decode cX10_see 117 = .ok (.aload_n 0, 1) := by decide +kernel
theorem dX10_see_118 : decode cX10_see 118 = .ok (.getfield 120, 3) := by decide +kernel
theorem dX10_see_121 : decode cX10_see 121 = .ok (.aload_n 0, 1) := by decide +kernel
theorem dX10_see_122 : decode cX10_see 122 = .ok (.getfield 284, 3) := by decide +kernel
theorem dX10_see_125 : decode cX10_see 125 = .ok (.iload 4, 2) := by decide +kernel
theorem dX10_see_127 : decode cX10_see 127 = .ok (.iastore, 1) := by decide +kernel
theorem dX10_see_128 : decode cX10_see 128 = .ok (.aload_n 0, 1) := by decide +kernel
theorem dX10_see_129 : decode cX10_see 129 = .ok (.dup, 1) := by decide +kernel
theorem dX10_see_130 : decode cX10_see 130 = .ok (.getfield 284, 3) := by decide +kernel
theorem dX10_see_133 : decode cX10_see 133 = .ok (.iconst 1, 1) := by decide +kernel
theorem dX10_see_134 : decode cX10_see 134 = .ok (.iadd, 1) := by decide +kernel
theorem dX10_see_135 : decode cX10_see 135 = .ok (.putfield 284, 3) := by decide +kernel
theorem dX10_see_138 : decode cX10_see 138 = .ok (.aload_n 0, 1) := by decide +kernel
theorem dX10_see_139 : decode cX10_see 139 = .ok (.aload_n 0, 1) := by decide +kernel
theorem dX10_see_140 : decode cX10_see 140 = .ok (.getfield 284, 3) := by decide +kernel
theorem dX10_see_143 : decode cX10_see 143 = .ok (.invokevirtual 148, 3) := by decide +kernel
theorem dX10_see_146 : decode cX10_see 146 = .ok (.ireturn, 1) := by decide +kernel
set_option maxRecDepth 20000 in
theorem ggX10_under_X10_in : GoodIn wsX10_under wsX10_in := goodIn_r _ [13] (by decide +kernel) (by decide +kernel)
set_option maxRecDepth 20000 in
theorem gX10_under_X10_in : GoodIn wsX10_under (va_wsS RX10 131 yX10_in wsX10_in) := goodIn_app (goodIn_of _ (by decide +kernel)) ggX10_under_X10_in
set_option maxRecDepth 20000 in
theorem ggX10_under_X10_isHour : GoodIn wsX10_under wsX10_isHour := goodIn_r _ [16, 17, 10, 11, 12, 13] (by decide +kernel) (by decide +kernel)
set_option maxRecDepth 20000 in
theorem gX10_under_X10_isHour : GoodIn wsX10_under (va_wsS RX10 237 yX10_isHour wsX10_isHour) := goodIn_app (goodIn_of _ (by decide +kernel)) ggX10_under_X10_isHour
theorem dX10_under_0 : decode cX10_under 0 = .ok (.aload_n 0, 1) := by decide +kernel
theorem dX10_under_1 : decode cX10_under 1 = .ok (.iconst 0, 1) := by decide +kernel
theorem dX10_under_2 : decode cX10_under 2 = .ok (.putfield 123, 3) := by decide +kernel
theorem dX10_under_5 : decode cX10_under 5 = .ok (.iload_n 1, 1) := by decide +kernel
theorem dX10_under_6 : decode cX10_under 6 = .ok (.i2l, 1) := by decide +kernel
theorem dX10_under_7 : decode cX10_under 7 = .ok (.lconst 0, 1) := by decide +kernel
theorem dX10_under_8 : decode cX10_under 8 = .ok (.aload_n 0, 1) := by decide +kernel
theorem dX10_under_9 : decode cX10_under 9 = .ok (.getfield 281, 3) := by decide +kernel
theorem dX10_under_12 : decode cX10_under 12 = .ok (.i2l, 1) := by decide +kernel
theorem dX10_under_13 : decode cX10_under 13 = .ok (.lconst 1, 1) := by decide +kernel
theorem dX10_under_14 : decode cX10_under 14 = .ok (.lsub, 1) := by decide +kernel
theorem dX10_under_15 : decode cX10_under 15 = .ok (.invokestatic 131, 3) := by decide +kernel
theorem dX10_under_18 : decode cX10_under 18 = .ok (.ifCond .eq 22, 3) := by decide +kernel
theorem dX10_under_21 : decode cX10_under 21 = .ok (.iload_n 2, 1) := by decide +kernel
theorem dX10_under_22 : decode cX10_under 22 = .ok (.invokestatic 237, 3) := by decide +kernel
theorem dX10_under_25 : decode cX10_under 25 = .ok (.ifCond .eq 15, 3) := by decide +kernel
theorem dX10_under_28 : decode cX10_under 28 = .ok (.iload_n 3, 1) := by decide +kernel
theorem dX10_under_29 : decode cX10_under 29 = .ok (.i2l, 1) := by decide +kernel
theorem dX10_under_30 : decode cX10_under 30 = .ok (.lconst 0, 1) := by decide +kernel
theorem dX10_under_31 : decode cX10_under 31 = .ok (.ldc2_w 192, 3) := by decide +kernel
theorem dX10_under_34 : decode cX10_under 34 = .ok (.invokestatic 131, 3) := by decide +kernel
theorem dX10_under_37 : decode cX10_under 37 = .ok (.ifCond .ne 5, 3) := by decide +kernel
theorem dX10_under_40 : decode cX10_under 40 = .ok (.iconst (-1), 1) := by decide +kernel
theorem dX10_under_41 : decode cX10_under 41 = .ok (.ireturn, 1) := by decide +kernel
theorem dX10_under_42 : decode cX10_under 42 = .ok (.iconst (-1), 1) := by decide +kernel
theorem dX10_under_43 : decode cX10_under 43 = .ok (.istore 4, 2) := by decide +kernel
theorem dX10_under_45 : decode cX10_under 45 = .ok (.iconst 0, 1) := by decide +kernel
theorem dX10_under_46 : decode cX10_under 46 = .ok (.istore 5, 2) := by decide +kernel
theorem dX10_under_48 : decode cX10_under 48 = .ok (.iload 5, 2) := by decide +kernel
theorem dX10_under_50 : decode cX10_under 50 = .ok (.aload_n 0, 1) := by decide +kernel
theorem dX10_under_51 : decode cX10_under 51 = .ok (.getfield 284, 3) := by decide +kernel
theorem dX10_under_54 : decode cX10_under 54 = .ok (.if_icmp .ge 85, 3) := by decide +kernel
theorem dX10_under_57 : decode cX10_under 57 = .ok (.aload_n 0, 1) := by decide +kernel
theorem dX10_under_58 : decode cX10_under 58 = .ok (.getfield 111, 3) := by decide +kernel
theorem dX10_under_61 : decode cX10_under 61 = .ok (.iload 5, 2) := by decide +kernel
theorem dX10_under_63 : decode cX10_under 63 = .ok (.iaload, 1) := by decide +kernel
theorem dX10_under_64 : decode cX10_under 64 = .ok (.iload_n 1, 1) := by decide +kernel
theorem dX10_under_65 : decode cX10_under 65 = .ok (.if_icmp .ne 29, 3) := by decide +kernel
theorem dX10_under_68 : decode cX10_under 68 = .ok (.aload_n 0, 1) := by decide +kernel
theorem dX10_under_69 : decode cX10_under 69 = .ok (.getfield 117, 3) := by decide +kernel
theorem dX10_under_72 : decode cX10_under 72 = .ok (.iload 5, 2) := by decide +kernel
theorem dX10_under_74 : decode cX10_under 74 = .ok (.iaload, 1) := by decide +kernel
theorem dX10_under_75 : decode cX10_under 75 = .ok (.iload_n 2, 1) := by decide +kernel
theorem dX10_under_76 : decode cX10_under 76 = .ok (.if_icmp .gt 18, 3) := by decide +kernel
theorem dX10_under_79 : decode cX10_under 79 = .ok (.aload_n 0, 1) := by decide +kernel
theorem dX10_under_80 : decode cX10_under 80 = .ok (.getfield 120, 3) := by decide +kernel
theorem dX10_under_83 : decode cX10_under 83 = .ok (.iload 5, 2) := by decide +kernel
theorem dX10_under_85 : decode cX10_under 85 = .ok (.iaload, 1) := by decide +kernel
theorem dX10_under_86 : decode cX10_under 86 = .ok (.iload_n 3, 1) := by decide +kernel
theorem dX10_under_87 : decode cX10_under 87 = .ok (.if_icmp .gt 7, 3) := by decide +kernel
theorem dX10_under_90 : decode cX10_under 90 = .ok (.iconst 1, 1) := by decide +kernel
theorem dX10_under_91 : decode cX10_under 91 = .ok (.goto 4, 3) := by decide +kernel
theorem dX10_under_94 : decode cX10_under 94 = .ok (.iconst 0, 1) := by decide +kernel
theorem dX10_under_95 : decode cX10_under 95 = .ok (.istore 6, 2) := by decide +kernel
theorem dX10_under_97 : decode cX10_under 97 = .ok (.iload 6, 2) := by decide +kernel
theorem dX10_under_99 : decode cX10_under 99 = .ok (.ifCond .eq 30, 3) := by decide +kernel
theorem dX10_under_102 : decode cX10_under 102 = .ok (.iload 4, 2) := by decide +kernel
theorem dX10_under_104 : decode cX10_under 104 = .ok (.ifCond .lt 20, 3) := by decide +kernel
theorem dX10_under_107 : decode cX10_under 107 = .ok (.aload_n 0, 1) := by decide +kernel
theorem dX10_under_108 : decode cX10_under 108 = .ok (.getfield 117, 3) := by decide +kernel
theorem dX10_under_111 : decode cX10_under 111 = .ok (.iload 5, 2) := by decide +kernel
theorem dX10_under_113 : decode cX10_under 113 = .ok (.iaload, 1) := by decide +kernel
theorem dX10_under_114 : decode cX10_under 114 = .ok (.aload_n 0, 1) := by decide +kernel
theorem dX10_under_115 : decode cX10_under 115 = .ok (.getfield 117, 3) := by decide +kernel
theorem dX10_under_118 : decode cX10_under 118 = .ok (.iload 4, 2) := by decide +kernel
theorem dX10_under_120 : decode cX10_under 120 = .ok (.iaload, 1) := by decide +kernel
theorem dX10_under_121 : decode cX10_under 121 = .ok (.if_icmp .lt 8, 3) := by decide +kernel
theorem dX10_under_124 : decode cX10_under 124 = .ok (.iload 5, 2) := by decide +kernel
theorem dX10_under_126 : decode cX10_under 126 = .ok (.goto 5, 3) := by decide +kernel
theorem dX10_under_129 : decode cX10_under 129 = .ok (.iload 4, 2) := by decide +kernel
theorem dX10_under_131 : decode cX10_under 131 = .ok (.istore 4, 2) := by decide +kernel
theorem dX10_under_133 : decode cX10_under 133 = .ok (.iinc 5 1, 3) := by decide +kernel
theorem dX10_under_136 : decode cX10_under 136 = .ok (.goto (-88), 3) := by decide +kernel
theorem dX10_under_139 : decode cX10_under 139 = .ok (.iload 4, 2) := by decide +kernel
theorem dX10_under_141 : decode cX10_under 141 = .ok (.ifCond .ge 12, 3) := by decide +kernel
theorem dX10_under_144 : decode cX10_under 144 = .ok (.aload_n 0, 1) := by decide +kernel
theorem dX10_under_145 : decode cX10_under 145 = .ok (.getfield 108, 3) := by decide +kernel
theorem dX10_under_148 : decode cX10_under 148 = .ok (.iload_n 1, 1) := by decide +kernel
theorem dX10_under_149 : decode cX10_under 149 = .ok (.iaload, 1) := by decide +kernel
theorem dX10_under_150 : decode cX10_under 150 = .ok (.goto 10, 3) := by decide +kernel
theorem dX10_under_153 : decode cX10_under 153 = .ok (.aload_n 0, 1) := by decide +kernel
theorem dX10_under_154 : decode cX10_under 154 = .ok (.getfield 114, 3) := by decide +kernel
theorem dX10_under_157 : decode cX10_under 157 = .ok (.iload 4, 2) := by decide +kernel
theorem dX10_under_159 : decode cX10_under 159 = .ok (.iaload, 1) := by decide +kernel
theorem dX10_under_160 : decode cX10_under 160 = .ok (.ireturn, 1) := by decide +kernel
set_option maxRecDepth 20000 in
theorem ggX10_count_X10_reckon : GoodIn wsX10_count wsX10_reckon := goodIn_r _ [14, 15, 16, 9, 8, 3, 17, 18, 19, 20, 21, 22, 23, 24, 25, 26, 27, 28, 29, 30, 31, 32, 33, 34, 35, 36, 37, 38, 39, 40, 41, 42, 43, 44, 45, 46, 47, 48, 49, 50, 51, 52, 53, 54, 55, 56, 57, 58, 59, 60, 61, 62, 63, 64, 65, 66, 67, 68, 69, 70, 71, 72, 73, 74, 75] (by decide +kernel) (by decide +kernel)
set_option maxRecDepth 20000 in
theorem gX10_count_X10_reckon : GoodIn wsX10_count (wsV RX10 234 RX10 yX10_reckon wsX10_reckon) := goodIn_app (goodIn_of _ (by decide +kernel)) ggX10_count_X10_reckon
theorem dX10_count_0 : decode cX10_count 0 = .ok (.aload_n 0, 1) := by decide +kernel
theorem dX10_count_1 : decode cX10_count 1 = .ok (.iconst 0, 1) := by decide +kernel
theorem dX10_count_2 : decode cX10_count 2 = .ok (.putfield 123, 3) := by decide +kernel
theorem dX10_count_5 : decode cX10_count 5 = .ok (.iload_n 1, 1) := by decide +kernel
theorem dX10_count_6 : decode cX10_count 6 = .ok (.tableswitch 126 0 6 #[42, 47, 52, 57, 62, 67, 72], 42) := by decide +kernel
theorem dX10_count_48 : decode cX10_count 48 = .ok (.aload_n 0, 1) := by decide +kernel
theorem dX10_count_49 : decode cX10_count 49 = .ok (.getfield 137, 3) := by decide +kernel
theorem dX10_count_52 : decode cX10_count 52 = .ok (.ireturn, 1) := by decide +kernel
theorem dX10_count_53 : decode cX10_count 53 = .ok (.aload_n 0, 1) := by decide +kernel
theorem dX10_count_54 : decode cX10_count 54 = .ok (.getfield 157, 3) := by decide +kernel
theorem dX10_count_57 : decode cX10_count 57 = .ok (.ireturn, 1) := by decide +kernel
theorem dX10_count_58 : decode cX10_count 58 = .ok (.aload_n 0, 1) := by decide +kernel
theorem dX10_count_59 : decode cX10_count 59 = .ok (.getfield 264, 3) := by decide +kernel
theorem dX10_count_62 : decode cX10_count 62 = .ok (.ireturn, 1) := by decide +kernel
theorem dX10_count_63 : decode cX10_count 63 = .ok (.aload_n 0, 1) := by decide +kernel
theorem dX10_count_64 : decode cX10_count 64 = .ok (.getfield 281, 3) := by decide +kernel
theorem dX10_count_67 : decode cX10_count 67 = .ok (.ireturn, 1) := by decide +kernel
theorem dX10_count_68 : decode cX10_count 68 = .ok (.aload_n 0, 1) := by decide +kernel
theorem dX10_count_69 : decode cX10_count 69 = .ok (.getfield 284, 3) := by decide +kernel
theorem dX10_count_72 : decode cX10_count 72 = .ok (.ireturn, 1) := by decide +kernel
theorem dX10_count_73 : decode cX10_count 73 = .ok (.aload_n 0, 1) := by decide +kernel
theorem dX10_count_74 : decode cX10_count 74 = .ok (.getfield 160, 3) := by decide +kernel
theorem dX10_count_77 : decode cX10_count 77 = .ok (.ireturn, 1) := by decide +kernel
theorem dX10_count_78 : decode cX10_count 78 = .ok (.aload_n 0, 1) := by decide +kernel
theorem dX10_count_79 : decode cX10_count 79 = .ok (.invokevirtual 234, 3) := by decide +kernel
theorem dX10_count_82 : decode cX10_count 82 = .ok (.iconst 0, 1) := by decide +kernel
theorem dX10_count_83 : decode cX10_count 83 = .ok (.istore_n 2, 1) := by decide +kernel
theorem dX10_count_84 : decode cX10_count 84 = .ok (.iconst 0, 1) := by decide +kernel
theorem dX10_count_85 : decode cX10_count 85 = .ok (.istore_n 3, 1) := by decide +kernel
theorem dX10_count_86 : decode cX10_count 86 = .ok (.iload_n 3, 1) := by decide +kernel
theorem dX10_count_87 : decode cX10_count 87 = .ok (.aload_n 0, 1) := by decide +kernel
theorem dX10_count_88 : decode cX10_count 88 = .ok (.getfield 137, 3) := by decide +kernel
theorem dX10_count_91 : decode cX10_count 91 = .ok (.if_icmp .ge 39, 3) := by decide +kernel
theorem dX10_count_94 : decode cX10_count 94 = .ok (.aload_n 0, 1) := by decide +kernel
theorem dX10_count_95 : decode cX10_count 95 = .ok (.getfield 60, 3) := by decide +kernel
theorem dX10_count_98 : decode cX10_count 98 = .ok (.iload_n 3, 1) := by decide +kernel
theorem dX10_count_99 : decode cX10_count 99 = .ok (.iaload, 1) := by decide +kernel
theorem dX10_count_100 : decode cX10_count 100 = .ok (.ifCond .le 22, 3) := by decide +kernel
theorem dX10_count_103 : decode cX10_count 103 = .ok (.aload_n 0, 1) := by decide +kernel
theorem dX10_count_104 : decode cX10_count 104 = .ok (.getfield 57, 3) := by decide +kernel
theorem dX10_count_107 : decode cX10_count 107 = .ok (.iload_n 3, 1) := by decide +kernel
theorem dX10_count_108 : decode cX10_count 108 = .ok (.iaload, 1) := by decide +kernel
theorem dX10_count_109 : decode cX10_count 109 = .ok (.iload_n 2, 1) := by decide +kernel
theorem dX10_count_110 : decode cX10_count 110 = .ok (.if_icmp .le 12, 3) := by decide +kernel
theorem dX10_count_113 : decode cX10_count 113 = .ok (.aload_n 0, 1) := by decide +kernel
theorem dX10_count_114 : decode cX10_count 114 = .ok (.getfield 57, 3) := by decide +kernel
theorem dX10_count_117 : decode cX10_count 117 = .ok (.iload_n 3, 1) := by decide +kernel
theorem dX10_count_118 : decode cX10_count 118 = .ok (.iaload, 1) := by decide +kernel
theorem dX10_count_119 : decode cX10_count 119 = .ok (.goto 4, 3) := by decide +kernel
theorem dX10_count_122 : decode cX10_count 122 = .ok (.iload_n 2, 1) := by decide +kernel
theorem dX10_count_123 : decode cX10_count 123 = .ok (.istore_n 2, 1) := by decide +kernel
theorem dX10_count_124 : decode cX10_count 124 = .ok (.iinc 3 1, 3) := by decide +kernel
theorem dX10_count_127 : decode cX10_count 127 = .ok (.goto (-41), 3) := by decide +kernel
theorem dX10_count_130 : decode cX10_count 130 = .ok (.iload_n 2, 1) := by decide +kernel
theorem dX10_count_131 : decode cX10_count 131 = .ok (.ireturn, 1) := by decide +kernel
theorem dX10_count_132 : decode cX10_count 132 = .ok (.iconst (-1), 1) := by decide +kernel
theorem dX10_count_133 : decode cX10_count 133 = .ok (.ireturn, 1) := by decide +kernel
theorem dX10_status_0 : decode cX10_status 0 = .ok (.aload_n 0, 1) := by decide +kernel
theorem dX10_status_1 : decode cX10_status 1 = .ok (.iconst 0, 1) := by decide +kernel
theorem dX10_status_2 : decode cX10_status 2 = .ok (.putfield 123, 3) := by decide +kernel
theorem dX10_status_5 : decode cX10_status 5 = .ok (.aload_n 0, 1) := by decide +kernel
theorem dX10_status_6 : decode cX10_status 6 = .ok (.getfield 126, 3) := by decide +kernel
theorem dX10_status_9 : decode cX10_status 9 = .ok (.ireturn, 1) := by decide +kernel
theorem dJ9_max_7cf53_0 : decode cJ9_max_7cf53 0 = .ok (.iload_n 0, 1) := by decide +kernel
theorem dJ9_max_7cf53_1 : decode cJ9_max_7cf53 1 = .ok (.iload_n 1, 1) := by decide +kernel
theorem dJ9_max_7cf53_2 : decode cJ9_max_7cf53 2 = .ok (.if_icmp .lt 7, 3) := by decide +kernel
theorem dJ9_max_7cf53_5 : decode cJ9_max_7cf53 5 = .ok (.iload_n 0, 1) := by decide +kernel
theorem dJ9_max_7cf53_6 : decode cJ9_max_7cf53 6 = .ok (.goto 4, 3) := by decide +kernel
theorem dJ9_max_7cf53_9 : decode cJ9_max_7cf53 9 = .ok (.iload_n 1, 1) := by decide +kernel
theorem dJ9_max_7cf53_10 : decode cJ9_max_7cf53 10 = .ok (.ireturn, 1) := by decide +kernel
theorem dJ9_min_7cf53_0 : decode cJ9_min_7cf53 0 = .ok (.iload_n 0, 1) := by decide +kernel
theorem dJ9_min_7cf53_1 : decode cJ9_min_7cf53 1 = .ok (.iload_n 1, 1) := by decide +kernel
theorem dJ9_min_7cf53_2 : decode cJ9_min_7cf53 2 = .ok (.if_icmp .gt 7, 3) := by decide +kernel
theorem dJ9_min_7cf53_5 : decode cJ9_min_7cf53 5 = .ok (.iload_n 0, 1) := by decide +kernel
theorem dJ9_min_7cf53_6 : decode cJ9_min_7cf53 6 = .ok (.goto 4, 3) := by decide +kernel
theorem dJ9_min_7cf53_9 : decode cJ9_min_7cf53 9 = .ok (.iload_n 1, 1) := by decide +kernel
theorem dJ9_min_7cf53_10 : decode cJ9_min_7cf53 10 = .ok (.ireturn, 1) := by decide +kernel
set_option maxRecDepth 20000 in
theorem ggJ0_length_8abf5_J0_coder_7d493 : GoodIn wsJ0_length_8abf5 wsJ0_coder_7d493 := goodIn_r _ [6, 7, 8] (by decide +kernel) (by decide +kernel)
set_option maxRecDepth 20000 in
theorem gJ0_length_8abf5_J0_coder_7d493 : GoodIn wsJ0_length_8abf5 (wsV RJ0 335 RJ0 yJ0_coder_7d493 wsJ0_coder_7d493) := goodIn_app (goodIn_of _ (by decide +kernel)) ggJ0_length_8abf5_J0_coder_7d493
theorem dJ0_length_8abf5_0 : decode cJ0_length_8abf5 0 = .ok (.aload_n 0, 1) := by decide +kernel
theorem dJ0_length_8abf5_1 : decode cJ0_length_8abf5 1 = .ok (.getfield 9, 3) := by decide +kernel
theorem dJ0_length_8abf5_4 : decode cJ0_length_8abf5 4 = .ok (.arraylength, 1) := by decide +kernel
theorem dJ0_length_8abf5_5 : decode cJ0_length_8abf5 5 = .ok (.aload_n 0, 1) := by decide +kernel
theorem dJ0_length_8abf5_6 : decode cJ0_length_8abf5 6 = .ok (.invokevirtual 335, 3) := by decide +kernel
theorem dJ0_length_8abf5_9 : decode cJ0_length_8abf5 9 = .ok (.ishr, 1) := by decide +kernel
theorem dJ0_length_8abf5_10 : decode cJ0_length_8abf5 10 = .ok (.ireturn, 1) := by decide +kernel
set_option maxRecDepth 20000 in
theorem ggJ0_charAt_5068e_J0_isLatin1_aae02 : GoodIn wsJ0_charAt_5068e wsJ0_isLatin1_aae02 := goodIn_r _ [6, 7, 8] (by decide +kernel) (by decide +kernel)
set_option maxRecDepth 20000 in
theorem gJ0_charAt_5068e_J0_isLatin1_aae02 : GoodIn wsJ0_charAt_5068e (wsV RJ0 492 RJ0 yJ0_isLatin1_aae02 wsJ0_isLatin1_aae02) := goodIn_app (goodIn_of _ (by decide +kernel)) ggJ0_charAt_5068e_J0_isLatin1_aae02
set_option maxRecDepth 20000 in
theorem ggJ0_charAt_5068e_J1_charAt_3b067 : GoodIn wsJ0_charAt_5068e wsJ1_charAt_3b067 := goodIn_r _ [12, 13, 14, 5, 15, 16, 17, 18, 19, 20] (by decide +kernel) (by decide +kernel)
set_option maxRecDepth 20000 in
theorem gJ0_charAt_5068e_J1_charAt_3b067 : GoodIn wsJ0_charAt_5068e (va_wsS RJ0 495 yJ1_charAt_3b067 wsJ1_charAt_3b067) := goodIn_app (goodIn_of _ (by decide +kernel)) ggJ0_charAt_5068e_J1_charAt_3b067
set_option maxRecDepth 20000 in
theorem ggJ0_charAt_5068e_J2_charAt_3b067 : GoodIn wsJ0_charAt_5068e wsJ2_charAt_3b067 := goodIn_r _ [24, 25, 26, 23, 27, 28, 29, 30, 31, 14, 5, 15, 16, 17, 18, 19, 20, 32, 33, 34, 35, 36, 37] (by decide +kernel) (by decide +kernel)
set_option maxRecDepth 20000 in
theorem gJ0_charAt_5068e_J2_charAt_3b067 : GoodIn wsJ0_charAt_5068e (va_wsS RJ0 498 yJ2_charAt_3b067 wsJ2_charAt_3b067) := goodIn_app (goodIn_of _ (by decide +kernel)) ggJ0_charAt_5068e_J2_charAt_3b067
theorem dJ0_charAt_5068e_0 : decode cJ0_charAt_5068e 0 = .ok (.aload_n 0, 1) := by decide +kernel
theorem dJ0_charAt_5068e_1 : decode cJ0_charAt_5068e 1 = .ok (.invokevirtual 492, 3) := by decide +kernel
theorem dJ0_charAt_5068e_4 : decode cJ0_charAt_5068e 4 = .ok (.ifCond .eq 12, 3) := by decide +kernel
theorem dJ0_charAt_5068e_7 : decode cJ0_charAt_5068e 7 = .ok (.aload_n 0, 1) := by decide +kernel
theorem dJ0_charAt_5068e_8 : decode cJ0_charAt_5068e 8 = .ok (.getfield 9, 3) := by decide +kernel
theorem dJ0_charAt_5068e_11 : decode cJ0_charAt_5068e 11 = .ok (.iload_n 1, 1) := by decide +kernel
theorem dJ0_charAt_5068e_12 : decode cJ0_charAt_5068e 12 = .ok (.invokestatic 495, 3) := by decide +kernel
theorem dJ0_charAt_5068e_15 : decode cJ0_charAt_5068e 15 = .ok (.ireturn, 1) := by decide +kernel
theorem dJ0_charAt_5068e_16 : decode cJ0_charAt_5068e 16 = .ok (.aload_n 0, 1) := by decide +kernel
theorem dJ0_charAt_5068e_17 : decode cJ0_charAt_5068e 17 = .ok (.getfield 9, 3) := by decide +kernel
theorem dJ0_charAt_5068e_20 : decode cJ0_charAt_5068e 20 = .ok (.iload_n 1, 1) := by decide +kernel
theorem dJ0_charAt_5068e_21 : decode cJ0_charAt_5068e 21 = .ok (.invokestatic 498, 3) := by decide +kernel
theorem dJ0_charAt_5068e_24 : decode cJ0_charAt_5068e 24 = .ok (.ireturn, 1) := by decide +kernel
theorem dJ0_coder_7d493_0 : decode cJ0_coder_7d493 0 = .ok (.getstatic 38, 3) := by decide +kernel
theorem dJ0_coder_7d493_3 : decode cJ0_coder_7d493 3 = .ok (.ifCond .eq 10, 3) := by decide +kernel
theorem dJ0_coder_7d493_6 : decode cJ0_coder_7d493 6 = .ok (.aload_n 0, 1) := by decide +kernel
theorem dJ0_coder_7d493_7 : decode cJ0_coder_7d493 7 = .ok (.getfield 15, 3) := by decide +kernel
theorem dJ0_coder_7d493_10 : decode cJ0_coder_7d493 10 = .ok (.goto 4, 3) := by decide +kernel
theorem dJ0_coder_7d493_13 : decode cJ0_coder_7d493 13 = .ok (.iconst 1, 1) := by decide +kernel
theorem dJ0_coder_7d493_14 : decode cJ0_coder_7d493 14 = .ok (.ireturn, 1) := by decide +kernel
theorem dJ0_isLatin1_aae02_0 : decode cJ0_isLatin1_aae02 0 = .ok (.getstatic 38, 3) := by decide +kernel
theorem dJ0_isLatin1_aae02_3 : decode cJ0_isLatin1_aae02 3 = .ok (.ifCond .eq 14, 3) := by decide +kernel
theorem dJ0_isLatin1_aae02_6 : decode cJ0_isLatin1_aae02 6 = .ok (.aload_n 0, 1) := by decide +kernel
theorem dJ0_isLatin1_aae02_7 : decode cJ0_isLatin1_aae02 7 = .ok (.getfield 15, 3) := by decide +kernel
theorem dJ0_isLatin1_aae02_10 : decode cJ0_isLatin1_aae02 10 = .ok (.ifCond .ne 7, 3) := by decide +kernel
theorem dJ0_isLatin1_aae02_13 : decode cJ0_isLatin1_aae02 13 = .ok (.iconst 1, 1) := by decide +kernel
theorem dJ0_isLatin1_aae02_14 : decode cJ0_isLatin1_aae02 14 = .ok (.goto 4, 3) := by decide +kernel
theorem dJ0_isLatin1_aae02_17 : decode cJ0_isLatin1_aae02 17 = .ok (.iconst 0, 1) := by decide +kernel
theorem dJ0_isLatin1_aae02_18 : decode cJ0_isLatin1_aae02 18 = .ok (.ireturn, 1) := by decide +kernel
set_option maxRecDepth 20000 in
theorem ggJ0_checkIndex_df160_J3_checkIndex_8e157 : GoodIn wsJ0_checkIndex_df160 wsJ3_checkIndex_8e157 := goodIn_r _ [5] (by decide +kernel) (by decide +kernel)
set_option maxRecDepth 20000 in
theorem gJ0_checkIndex_df160_J3_checkIndex_8e157 : GoodIn wsJ0_checkIndex_df160 (va_wsS RJ0 1059 yJ3_checkIndex_8e157 wsJ3_checkIndex_8e157) := goodIn_app (goodIn_of _ (by decide +kernel)) ggJ0_checkIndex_df160_J3_checkIndex_8e157
theorem dJ0_checkIndex_df160_0 : decode cJ0_checkIndex_df160 0 = .ok (.iload_n 0, 1) := by decide +kernel
theorem dJ0_checkIndex_df160_1 : decode cJ0_checkIndex_df160 1 = .ok (.iload_n 1, 1) := by decide +kernel
theorem dJ0_checkIndex_df160_2 : decode cJ0_checkIndex_df160 2 = .ok (.getstatic 1053, 3) := by decide +kernel
theorem dJ0_checkIndex_df160_5 : decode cJ0_checkIndex_df160 5 = .ok (.invokestatic 1059, 3) := by decide +kernel
theorem dJ0_checkIndex_df160_8 : decode cJ0_checkIndex_df160 8 = .ok (.pop, 1) := by decide +kernel
theorem dJ0_checkIndex_df160_9 : decode cJ0_checkIndex_df160 9 = .ok (.return_, 1) := by decide +kernel
set_option maxRecDepth 20000 in
theorem ggJ1_charAt_3b067_J0_checkIndex_df160 : GoodIn wsJ1_charAt_3b067 wsJ0_checkIndex_df160 := goodIn_r _ [4, 5, 6, 7, 8, 9] (by decide +kernel) (by decide +kernel)
set_option maxRecDepth 20000 in
theorem gJ1_charAt_3b067_J0_checkIndex_df160 : GoodIn wsJ1_charAt_3b067 (va_wsS RJ1 9 yJ0_checkIndex_df160 wsJ0_checkIndex_df160) := goodIn_app (goodIn_of _ (by decide +kernel)) ggJ1_charAt_3b067_J0_checkIndex_df160
theorem dJ1_charAt_3b067_0 : decode cJ1_charAt_3b067 0 = .ok (.iload_n 1, 1) := by decide +kernel
theorem dJ1_charAt_3b067_1 : decode cJ1_charAt_3b067 1 = .ok (.aload_n 0, 1) := by decide +kernel
theorem dJ1_charAt_3b067_2 : decode cJ1_charAt_3b067 2 = .ok (.arraylength, 1) := by decide +kernel
theorem dJ1_charAt_3b067_3 : decode cJ1_charAt_3b067 3 = .ok (.invokestatic 9, 3) := by decide +kernel
theorem dJ1_charAt_3b067_6 : decode cJ1_charAt_3b067 6 = .ok (.aload_n 0, 1) := by decide +kernel
theorem dJ1_charAt_3b067_7 : decode cJ1_charAt_3b067 7 = .ok (.iload_n 1, 1) := by decide +kernel
theorem dJ1_charAt_3b067_8 : decode cJ1_charAt_3b067 8 = .ok (.baload, 1) := by decide +kernel
theorem dJ1_charAt_3b067_9 : decode cJ1_charAt_3b067 9 = .ok (.sipush 255, 3) := by decide +kernel
theorem dJ1_charAt_3b067_12 : decode cJ1_charAt_3b067 12 = .ok (.iand, 1) := by decide +kernel
theorem dJ1_charAt_3b067_13 : decode cJ1_charAt_3b067 13 = .ok (.i2c, 1) := by decide +kernel
theorem dJ1_charAt_3b067_14 : decode cJ1_charAt_3b067 14 = .ok (.ireturn, 1) := by decide +kernel
set_option maxRecDepth 20000 in
theorem ggJ2_getChar_3b067_J2_length_9d52b : GoodIn wsJ2_getChar_3b067 wsJ2_length_9d52b := goodIn_r _ [7] (by decide +kernel) (by decide +kernel)
set_option maxRecDepth 20000 in
theorem gJ2_getChar_3b067_J2_length_9d52b : GoodIn wsJ2_getChar_3b067 (va_wsS RJ2 48 yJ2_length_9d52b wsJ2_length_9d52b) := goodIn_app (goodIn_of _ (by decide +kernel)) ggJ2_getChar_3b067_J2_length_9d52b
theorem dJ2_getChar_3b067_0 : decode cJ2_getChar_3b067 0 = .ok (.getstatic 44, 3) := by decide +kernel
theorem dJ2_getChar_3b067_3 : decode cJ2_getChar_3b067 3 = .ok (.ifCond .ne 25, 3) := by decide +kernel
theorem dJ2_getChar_3b067_6 : decode cJ2_getChar_3b067 6 = .ok (.iload_n 1, 1) := by decide +kernel
theorem dJ2_getChar_3b067_7 : decode cJ2_getChar_3b067 7 = .ok (.ifCond .lt 11, 3) := by decide +kernel
theorem dJ2_getChar_3b067_10 : decode cJ2_getChar_3b067 10 = .ok (.iload_n 1, 1) := by decide +kernel
theorem dJ2_getChar_3b067_11 : decode cJ2_getChar_3b067 11 = .ok (.aload_n 0, 1) := by decide +kernel
theorem dJ2_getChar_3b067_12 : decode cJ2_getChar_3b067 12 = .ok (.invokestatic 48, 3) := by decide +kernel
theorem dJ2_getChar_3b067_15 : decode cJ2_getChar_3b067 15 = .ok (.if_icmp .lt 13, 3) := by decide +kernel
theorem dJ2_getChar_3b067_18 : decode cJ2_getChar_3b067 18 = .ok (.new 52, 3) := by decide +kernel
theorem dJ2_getChar_3b067_21 : decode cJ2_getChar_3b067 21 = .ok (.dup, 1) := by decide +kernel
theorem dJ2_getChar_3b067_22 : decode cJ2_getChar_3b067 22 = .ok (.ldc 54, 2) := by decide +kernel
theorem dJ2_getChar_3b067_24 : decode cJ2_getChar_3b067 24 = .ok (.invokespecial 56, 3) := by decide +kernel
theorem dJ2_getChar_3b067_27 : decode cJ2_getChar_3b067 27 = .ok (.athrow, 1) := by decide +kernel
theorem dJ2_getChar_3b067_28 : decode cJ2_getChar_3b067 28 = .ok (.iload_n 1, 1) := by decide +kernel
theorem dJ2_getChar_3b067_29 : decode cJ2_getChar_3b067 29 = .ok (.iconst 1, 1) := by decide +kernel
theorem dJ2_getChar_3b067_30 : decode cJ2_getChar_3b067 30 = .ok (.ishl, 1) := by decide +kernel
theorem dJ2_getChar_3b067_31 : decode cJ2_getChar_3b067 31 = .ok (.istore_n 1, 1) := by decide +kernel
theorem dJ2_getChar_3b067_32 : decode cJ2_getChar_3b067 32 = .ok (.aload_n 0, 1) := by decide +kernel
theorem dJ2_getChar_3b067_33 : decode cJ2_getChar_3b067 33 = .ok (.iload_n 1, 1) := by decide +kernel
theorem dJ2_getChar_3b067_34 : decode cJ2_getChar_3b067 34 = .ok (.iinc 1 1, 3) := by decide +kernel
theorem dJ2_getChar_3b067_37 : decode cJ2_getChar_3b067 37 = .ok (.baload, 1) := by decide +kernel
theorem dJ2_getChar_3b067_38 : decode cJ2_getChar_3b067 38 = .ok (.sipush 255, 3) := by decide +kernel
theorem dJ2_getChar_3b067_41 : decode cJ2_getChar_3b067 41 = .ok (.iand, 1) := by decide +kernel
theorem dJ2_getChar_3b067_42 : decode cJ2_getChar_3b067 42 = .ok (.getstatic 59, 3) := by decide +kernel
theorem dJ2_getChar_3b067_45 : decode cJ2_getChar_3b067 45 = .ok (.ishl, 1) := by decide +kernel
theorem dJ2_getChar_3b067_46 : decode cJ2_getChar_3b067 46 = .ok (.aload_n 0, 1) := by decide +kernel
theorem dJ2_getChar_3b067_47 : decode cJ2_getChar_3b067 47 = .ok (.iload_n 1, 1) := by decide +kernel
theorem dJ2_getChar_3b067_48 : decode cJ2_getChar_3b067 48 = .ok (.baload, 1) := by decide +kernel
theorem dJ2_getChar_3b067_49 : decode cJ2_getChar_3b067 49 = .ok (.sipush 255, 3) := by decide +kernel
theorem dJ2_getChar_3b067_52 : decode cJ2_getChar_3b067 52 = .ok (.iand, 1) := by decide +kernel
theorem dJ2_getChar_3b067_53 : decode cJ2_getChar_3b067 53 = .ok (.getstatic 63, 3) := by decide +kernel
theorem dJ2_getChar_3b067_56 : decode cJ2_getChar_3b067 56 = .ok (.ishl, 1) := by decide +kernel
theorem dJ2_getChar_3b067_57 : decode cJ2_getChar_3b067 57 = .ok (.ior, 1) := by decide +kernel
theorem dJ2_getChar_3b067_58 : decode cJ2_getChar_3b067 58 = .ok (.i2c, 1) := by decide +kernel
theorem dJ2_getChar_3b067_59 : decode cJ2_getChar_3b067 59 = .ok (.ireturn, 1) := by decide +kernel
theorem dJ2_length_9d52b_0 : decode cJ2_length_9d52b 0 = .ok (.aload_n 0, 1) := by decide +kernel
theorem dJ2_length_9d52b_1 : decode cJ2_length_9d52b 1 = .ok (.arraylength, 1) := by decide +kernel
theorem dJ2_length_9d52b_2 : decode cJ2_length_9d52b 2 = .ok (.iconst 1, 1) := by decide +kernel
theorem dJ2_length_9d52b_3 : decode cJ2_length_9d52b 3 = .ok (.ishr, 1) := by decide +kernel
theorem dJ2_length_9d52b_4 : decode cJ2_length_9d52b 4 = .ok (.ireturn, 1) := by decide +kernel
set_option maxRecDepth 20000 in
theorem ggJ2_charAt_3b067_J2_checkIndex_2214a : GoodIn wsJ2_charAt_3b067 wsJ2_checkIndex_2214a := goodIn_r _ [4, 5, 6, 3, 7, 8, 9, 10, 11, 12, 13, 14, 15, 16] (by decide +kernel) (by decide +kernel)
set_option maxRecDepth 20000 in
theorem gJ2_charAt_3b067_J2_checkIndex_2214a : GoodIn wsJ2_charAt_3b067 (va_wsS RJ2 67 yJ2_checkIndex_2214a wsJ2_checkIndex_2214a) := goodIn_app (goodIn_of _ (by decide +kernel)) ggJ2_charAt_3b067_J2_checkIndex_2214a
set_option maxRecDepth 20000 in
theorem ggJ2_charAt_3b067_J2_getChar_3b067 : GoodIn wsJ2_charAt_3b067 wsJ2_getChar_3b067 := goodIn_r _ [19, 20, 21, 22, 5, 6, 3, 7] (by decide +kernel) (by decide +kernel)
set_option maxRecDepth 20000 in
theorem gJ2_charAt_3b067_J2_getChar_3b067 : GoodIn wsJ2_charAt_3b067 (va_wsS RJ2 71 yJ2_getChar_3b067 wsJ2_getChar_3b067) := goodIn_app (goodIn_of _ (by decide +kernel)) ggJ2_charAt_3b067_J2_getChar_3b067
theorem dJ2_charAt_3b067_0 : decode cJ2_charAt_3b067 0 = .ok (.iload_n 1, 1) := by decide +kernel
theorem dJ2_charAt_3b067_1 : decode cJ2_charAt_3b067 1 = .ok (.aload_n 0, 1) := by decide +kernel
theorem dJ2_charAt_3b067_2 : decode cJ2_charAt_3b067 2 = .ok (.invokestatic 67, 3) := by decide +kernel
theorem dJ2_charAt_3b067_5 : decode cJ2_charAt_3b067 5 = .ok (.aload_n 0, 1) := by decide +kernel
theorem dJ2_charAt_3b067_6 : decode cJ2_charAt_3b067 6 = .ok (.iload_n 1, 1) := by decide +kernel
theorem dJ2_charAt_3b067_7 : decode cJ2_charAt_3b067 7 = .ok (.invokestatic 71, 3) := by decide +kernel
theorem dJ2_charAt_3b067_10 : decode cJ2_charAt_3b067 10 = .ok (.ireturn, 1) := by decide +kernel
set_option maxRecDepth 20000 in
theorem ggJ2_checkIndex_2214a_J2_length_9d52b : GoodIn wsJ2_checkIndex_2214a wsJ2_length_9d52b := goodIn_r _ [4] (by decide +kernel) (by decide +kernel)
set_option maxRecDepth 20000 in
theorem gJ2_checkIndex_2214a_J2_length_9d52b : GoodIn wsJ2_checkIndex_2214a (va_wsS RJ2 48 yJ2_length_9d52b wsJ2_length_9d52b) := goodIn_app (goodIn_of _ (by decide +kernel)) ggJ2_checkIndex_2214a_J2_length_9d52b
set_option maxRecDepth 20000 in
theorem ggJ2_checkIndex_2214a_J0_checkIndex_df160 : GoodIn wsJ2_checkIndex_2214a wsJ0_checkIndex_df160 := goodIn_r _ [8, 9, 10, 11, 12, 13] (by decide +kernel) (by decide +kernel)
set_option maxRecDepth 20000 in
theorem gJ2_checkIndex_2214a_J0_checkIndex_df160 : GoodIn wsJ2_checkIndex_2214a (va_wsS RJ2 414 yJ0_checkIndex_df160 wsJ0_checkIndex_df160) := goodIn_app (goodIn_of _ (by decide +kernel)) ggJ2_checkIndex_2214a_J0_checkIndex_df160
theorem dJ2_checkIndex_2214a_0 : decode cJ2_checkIndex_2214a 0 = .ok (.iload_n 0, 1) := by decide +kernel
theorem dJ2_checkIndex_2214a_1 : decode cJ2_checkIndex_2214a 1 = .ok (.aload_n 1, 1) := by decide +kernel
theorem dJ2_checkIndex_2214a_2 : decode cJ2_checkIndex_2214a 2 = .ok (.invokestatic 48, 3) := by decide +kernel
theorem dJ2_checkIndex_2214a_5 : decode cJ2_checkIndex_2214a 5 = .ok (.invokestatic 414, 3) := by decide +kernel
theorem dJ2_checkIndex_2214a_8 : decode cJ2_checkIndex_2214a 8 = .ok (.return_, 1) := by decide +kernel
theorem dJ7_fill_53178_0 : decode cJ7_fill_53178 0 = .ok (.iconst 0, 1) := by decide +kernel
theorem dJ7_fill_53178_1 : decode cJ7_fill_53178 1 = .ok (.istore_n 2, 1) := by decide +kernel
theorem dJ7_fill_53178_2 : decode cJ7_fill_53178 2 = .ok (.aload_n 0, 1) := by decide +kernel
theorem dJ7_fill_53178_3 : decode cJ7_fill_53178 3 = .ok (.arraylength, 1) := by decide +kernel
theorem dJ7_fill_53178_4 : decode cJ7_fill_53178 4 = .ok (.istore_n 3, 1) := by decide +kernel
theorem dJ7_fill_53178_5 : decode cJ7_fill_53178 5 = .ok (.iload_n 2, 1) := by decide +kernel
theorem dJ7_fill_53178_6 : decode cJ7_fill_53178 6 = .ok (.iload_n 3, 1) := by decide +kernel
theorem dJ7_fill_53178_7 : decode cJ7_fill_53178 7 = .ok (.if_icmp .ge 13, 3) := by decide +kernel
theorem dJ7_fill_53178_10 : decode cJ7_fill_53178 10 = .ok (.aload_n 0, 1) := by decide +kernel
theorem dJ7_fill_53178_11 : decode cJ7_fill_53178 11 = .ok (.iload_n 2, 1) := by decide +kernel
theorem dJ7_fill_53178_12 : decode cJ7_fill_53178 12 = .ok (.iload_n 1, 1) := by decide +kernel
theorem dJ7_fill_53178_13 : decode cJ7_fill_53178 13 = .ok (.iastore, 1) := by decide +kernel
theorem dJ7_fill_53178_14 : decode cJ7_fill_53178 14 = .ok (.iinc 2 1, 3) := by decide +kernel
theorem dJ7_fill_53178_17 : decode cJ7_fill_53178 17 = .ok (.goto (-12), 3) := by decide +kernel
theorem dJ7_fill_53178_20 : decode cJ7_fill_53178 20 = .ok (.return_, 1) := by decide +kernel
theorem dJ3_checkIndex_8e157_0 : decode cJ3_checkIndex_8e157 0 = .ok (.iload_n 0, 1) := by decide +kernel
theorem dJ3_checkIndex_8e157_1 : decode cJ3_checkIndex_8e157 1 = .ok (.ifCond .lt 8, 3) := by decide +kernel
theorem dJ3_checkIndex_8e157_4 : decode cJ3_checkIndex_8e157 4 = .ok (.iload_n 0, 1) := by decide +kernel
theorem dJ3_checkIndex_8e157_5 : decode cJ3_checkIndex_8e157 5 = .ok (.iload_n 1, 1) := by decide +kernel
theorem dJ3_checkIndex_8e157_6 : decode cJ3_checkIndex_8e157 6 = .ok (.if_icmp .lt 10, 3) := by decide +kernel
theorem dJ3_checkIndex_8e157_9 : decode cJ3_checkIndex_8e157 9 = .ok (.aload_n 2, 1) := by decide +kernel
theorem dJ3_checkIndex_8e157_10 : decode cJ3_checkIndex_8e157 10 = .ok (.iload_n 0, 1) := by decide +kernel
theorem dJ3_checkIndex_8e157_11 : decode cJ3_checkIndex_8e157 11 = .ok (.iload_n 1, 1) := by decide +kernel
theorem dJ3_checkIndex_8e157_12 : decode cJ3_checkIndex_8e157 12 = .ok (.invokestatic 95, 3) := by decide +kernel
theorem dJ3_checkIndex_8e157_15 : decode cJ3_checkIndex_8e157 15 = .ok (.athrow, 1) := by decide +kernel
theorem dJ3_checkIndex_8e157_16 : decode cJ3_checkIndex_8e157 16 = .ok (.iload_n 0, 1) := by decide +kernel
theorem dJ3_checkIndex_8e157_17 : decode cJ3_checkIndex_8e157 17 = .ok (.ireturn, 1) := by decide +kernel
set_option maxRecDepth 20000 in
theorem ggL_law_X9_init : GoodIn wsL_law wsX9_init := goodIn_r _ [8, 9, 10, 11, 12, 13, 14, 15, 16, 17, 18, 19, 20, 21, 22, 23, 24, 25, 26, 27, 28, 29, 30, 31, 32, 33, 34, 35, 36, 37, 38, 39, 40, 41, 42, 43, 44, 45, 46, 47, 48, 49, 50, 51, 52, 53, 54, 55, 56, 57, 58, 59, 60, 61, 62, 63, 64, 65, 66, 67, 68, 69, 70, 71, 72, 73, 74, 75, 76, 77, 78, 79, 80, 81, 82, 83, 84, 85, 86, 87, 88, 89, 90, 91, 92, 93, 94, 95, 96, 97, 98, 99, 100, 101, 102, 103, 104, 105, 106, 107, 108, 109, 110, 111, 112, 113, 114, 115, 116, 117, 118, 119, 120, 121, 122, 123, 124, 125, 126, 127, 128, 129, 130, 131, 132, 133, 134, 135, 953, 954, 955, 892, 893, 894, 895, 896, 897, 898, 899, 900, 901, 956, 957, 958, 959, 960, 961, 962, 963, 964, 965, 966, 967, 968, 969, 970, 971, 972, 973, 974, 975, 976, 977, 978, 979, 980, 981, 982, 983, 984, 985, 986, 987, 988, 989, 990, 991, 992, 993, 994, 995, 996, 997, 998, 999, 1000, 1001, 1002, 1003, 1004] (by decide +kernel) (by decide +kernel)
set_option maxRecDepth 20000 in
theorem gL_law_X9_init : GoodIn wsL_law (wsX9_init) := ggL_law_X9_init
set_option maxRecDepth 20000 in
theorem ggL_law_X10_init : GoodIn wsL_law wsX10_init := goodIn_r _ [138, 139, 10, 11, 58, 140, 141, 142, 143, 144, 145, 146, 147, 148, 149, 150, 151, 152, 153, 154, 155, 156, 157, 158, 159, 160, 161, 162, 163, 164, 165, 166, 167, 168, 169, 170, 171, 172, 173, 174, 175, 176, 177, 902, 903, 904, 905, 906, 907, 908, 909, 910, 911, 912, 913, 914, 915, 916, 917, 918, 919, 920, 921, 922, 923, 924, 925, 926, 927, 928, 929, 930, 931, 932, 933, 934, 935, 936, 937, 938, 939, 940, 941, 942, 943, 944, 945, 946, 947, 948, 949, 950, 951, 952] (by decide +kernel) (by decide +kernel)
set_option maxRecDepth 20000 in
theorem gL_law_X10_init : GoodIn wsL_law (wsX10_init) := ggL_law_X10_init
set_option maxRecDepth 20000 in
theorem ggL_law_X9_line : GoodIn wsL_law wsX9_line := goodIn_r _ [181, 15, 182, 183, 184, 48, 185, 64, 59, 60, 61, 62, 63, 186, 2, 187, 188, 189, 190, 191, 192, 193, 194, 195, 196, 197, 198, 199, 200, 42, 892, 893, 894, 895, 896, 897, 898, 899, 900, 901, 953, 954, 955, 990, 991, 992, 993, 994, 995, 996, 997] (by decide +kernel) (by decide +kernel)
set_option maxRecDepth 20000 in
theorem gL_law_X9_line : GoodIn wsL_law (wsV RL 13 RX9 yX9_line wsX9_line) := goodIn_app (goodIn_of _ (by decide +kernel)) ggL_law_X9_line
set_option maxRecDepth 20000 in
theorem ggL_law_X10_line : GoodIn wsL_law wsX10_line := goodIn_r _ [204, 205, 206, 207, 208, 140, 141, 142, 143, 145, 209, 210, 5, 211, 212, 213, 214, 215, 216, 217, 218, 219, 220, 902, 903, 904, 905, 906, 907, 908, 909, 910, 911, 912, 913, 914, 915, 916, 917, 918, 919, 920, 921, 922, 923, 924, 925, 926, 927, 928, 929, 930, 931, 932, 933, 934, 935, 936, 937, 938, 939, 940, 941, 942, 943, 944, 945, 946, 947, 948, 949, 950, 951, 952] (by decide +kernel) (by decide +kernel)
set_option maxRecDepth 20000 in
theorem gL_law_X10_line : GoodIn wsL_law (wsV RL 17 RX10 yX10_line wsX10_line) := goodIn_app (goodIn_of _ (by decide +kernel)) ggL_law_X10_line
set_option maxRecDepth 20000 in
theorem ggL_law_X9_rates : GoodIn wsL_law wsX9_rates := goodIn_r _ [224, 15, 225, 226, 227, 14, 228, 49, 53, 229, 230, 231, 48, 232, 65, 66, 189, 2, 190, 233, 234, 235, 52, 236, 77, 71, 72, 73, 76, 75, 74, 237, 238, 191, 192, 239, 240, 241, 242, 63, 61, 193, 194, 195, 196, 197, 198, 199, 200, 42, 892, 893, 894, 895, 896, 897, 898, 899, 900, 901, 953, 954, 955, 990, 991, 992, 993, 994, 995, 996, 997, 998, 999, 1000, 1001, 1002, 1003, 1004] (by decide +kernel) (by decide +kernel)
set_option maxRecDepth 20000 in
theorem gL_law_X9_rates : GoodIn wsL_law (wsV RL 18 RX9 yX9_rates wsX9_rates) := goodIn_app (goodIn_of _ (by decide +kernel)) ggL_law_X9_rates
set_option maxRecDepth 20000 in
theorem ggL_law_X10_rates : GoodIn wsL_law wsX10_rates := goodIn_r _ [246, 205, 247, 146, 147, 213, 214, 5, 215, 216, 217, 218, 219, 220, 902, 903, 904, 905, 906, 907, 908, 909, 910, 911, 912, 913, 914, 915, 916, 917, 918, 919, 920, 921, 922, 923, 924, 925, 926, 927, 928, 929, 930, 931, 932, 933, 934, 935, 936, 937, 938, 939, 940, 941, 942, 943, 944, 945, 946, 947, 948, 949, 950, 951, 952] (by decide +kernel) (by decide +kernel)
set_option maxRecDepth 20000 in
theorem gL_law_X10_rates : GoodIn wsL_law (wsV RL 22 RX10 yX10_rates wsX10_rates) := goodIn_app (goodIn_of _ (by decide +kernel)) ggL_law_X10_rates
set_option maxRecDepth 20000 in
theorem ggL_law_X9_gangs : GoodIn wsL_law wsX9_gangs := goodIn_r _ [251, 40, 188, 189, 2, 190, 193, 194, 195, 196, 197, 198, 199, 200, 42, 892, 893, 894, 895, 896, 897, 898, 899, 900, 901] (by decide +kernel) (by decide +kernel)
set_option maxRecDepth 20000 in
theorem gL_law_X9_gangs : GoodIn wsL_law (wsV RL 23 RX9 yX9_gangs wsX9_gangs) := goodIn_app (goodIn_of _ (by decide +kernel)) ggL_law_X9_gangs
set_option maxRecDepth 20000 in
theorem ggL_law_X10_gangs : GoodIn wsL_law wsX10_gangs := goodIn_r _ [255, 205, 256, 148, 213, 214, 5, 215, 216, 217, 218, 219, 220, 902, 903, 904, 905, 906, 907, 908, 909, 910, 911, 912, 913, 914, 915, 916, 917, 918, 919, 920, 921, 922, 923, 924, 925, 926, 927, 928, 929, 930, 931, 932, 933, 934, 935, 936, 937, 938, 939, 940, 941, 942, 943, 944, 945, 946, 947, 948, 949, 950, 951, 952] (by decide +kernel) (by decide +kernel)
set_option maxRecDepth 20000 in
theorem gL_law_X10_gangs : GoodIn wsL_law (wsV RL 27 RX10 yX10_gangs wsX10_gangs) := goodIn_app (goodIn_of _ (by decide +kernel)) ggL_law_X10_gangs
set_option maxRecDepth 20000 in
theorem ggL_law_X9_transfer : GoodIn wsL_law wsX9_transfer := goodIn_r _ [260, 27, 261, 262, 263, 26, 264, 105, 189, 2, 190, 193, 194, 195, 196, 197, 198, 199, 200, 42, 892, 893, 894, 895, 896, 897, 898, 899, 900, 901, 964, 965, 966, 967, 968, 969, 970] (by decide +kernel) (by decide +kernel)
set_option maxRecDepth 20000 in
theorem gL_law_X9_transfer : GoodIn wsL_law (wsV RL 28 RX9 yX9_transfer wsX9_transfer) := goodIn_app (goodIn_of _ (by decide +kernel)) ggL_law_X9_transfer
set_option maxRecDepth 20000 in
theorem ggL_law_X10_transfer : GoodIn wsL_law wsX10_transfer := goodIn_r _ [268, 205, 207, 149, 213, 214, 5, 215, 216, 217, 218, 219, 220, 902, 903, 904, 905, 906, 907, 908, 909, 910, 911, 912, 913, 914, 915, 916, 917, 918, 919, 920, 921, 922, 923, 924, 925, 926, 927, 928, 929, 930, 931, 932, 933, 934, 935, 936, 937, 938, 939, 940, 941, 942, 943, 944, 945, 946, 947, 948, 949, 950, 951, 952] (by decide +kernel) (by decide +kernel)
set_option maxRecDepth 20000 in
theorem gL_law_X10_transfer : GoodIn wsL_law (wsV RL 31 RX10 yX10_transfer wsX10_transfer) := goodIn_app (goodIn_of _ (by decide +kernel)) ggL_law_X10_transfer
set_option maxRecDepth 20000 in
theorem ggL_law_X9_feed : GoodIn wsL_law wsX9_feed := goodIn_r _ [272, 19, 273, 274, 275, 18, 276, 87, 277, 278, 279, 280, 86, 191, 2, 192, 892, 893, 894, 895, 896, 897, 898, 899, 900, 901, 956, 957, 958, 959] (by decide +kernel) (by decide +kernel)
set_option maxRecDepth 20000 in
theorem gL_law_X9_feed : GoodIn wsL_law (wsV RL 32 RX9 yX9_feed wsX9_feed) := goodIn_app (goodIn_of _ (by decide +kernel)) ggL_law_X9_feed
set_option maxRecDepth 20000 in
theorem ggL_law_X10_feed : GoodIn wsL_law wsX10_feed := goodIn_r _ [284, 205, 285, 286, 287, 288, 5, 289, 158, 902, 903, 904, 905, 906, 907, 908, 909, 910, 911, 912, 913, 914, 915, 916, 917, 918, 919, 920, 921, 922, 923, 924, 925, 926, 927, 928, 929, 930, 931, 932, 933, 934, 935, 936, 937, 938, 939, 940, 941, 942, 943, 944, 945, 946, 947, 948, 949, 950, 951, 952] (by decide +kernel) (by decide +kernel)
set_option maxRecDepth 20000 in
theorem gL_law_X10_feed : GoodIn wsL_law (wsV RL 36 RX10 yX10_feed wsX10_feed) := goodIn_app (goodIn_of _ (by decide +kernel)) ggL_law_X10_feed
set_option maxRecDepth 20000 in
theorem ggL_law_X9_end : GoodIn wsL_law wsX9_end := goodIn_r _ [293, 19, 294, 295, 296, 18, 297, 87, 892, 893, 894, 895, 896, 897, 898, 899, 900, 901, 956, 957, 958, 959] (by decide +kernel) (by decide +kernel)
set_option maxRecDepth 20000 in
theorem gL_law_X9_end : GoodIn wsL_law (wsV RL 37 RX9 yX9_end wsX9_end) := goodIn_app (goodIn_of _ (by decide +kernel)) ggL_law_X9_end
set_option maxRecDepth 20000 in
theorem ggL_law_X10_end : GoodIn wsL_law wsX10_end := goodIn_r _ [301, 205, 285, 902, 903, 904, 905, 906, 907, 908, 909, 910, 911, 912, 913, 914, 915, 916, 917, 918, 919, 920, 921, 922, 923, 924, 925, 926, 927, 928, 929, 930, 931, 932, 933, 934, 935, 936, 937, 938, 939, 940, 941, 942, 943, 944, 945, 946, 947, 948, 949, 950, 951, 952] (by decide +kernel) (by decide +kernel)
set_option maxRecDepth 20000 in
theorem gL_law_X10_end : GoodIn wsL_law (wsV RL 40 RX10 yX10_end wsX10_end) := goodIn_app (goodIn_of _ (by decide +kernel)) ggL_law_X10_end
set_option maxRecDepth 20000 in
theorem ggL_law_X9_orders : GoodIn wsL_law wsX9_orders := goodIn_r _ [305, 23, 19, 15, 41, 306, 307, 308, 22, 309, 93, 94, 95, 96, 310, 311, 312, 52, 313, 74, 75, 78, 76, 77, 79, 80, 81, 82, 314, 315, 316, 18, 317, 89, 318, 319, 320, 321, 88, 87, 86, 322, 198, 199, 200, 237, 2, 238, 323, 324, 325, 326, 327, 328, 329, 330, 331, 332, 333, 334, 335, 336, 337, 338, 339, 340, 341, 342, 343, 344, 345, 346, 347, 348, 349, 350, 351, 352, 353, 354, 355, 356, 357, 358, 359, 360, 361, 362, 363, 364, 365, 366, 367, 368, 369, 370, 371, 372, 373, 374, 375, 376, 377, 378, 379, 380, 381, 382, 383, 384, 385, 386, 387, 388, 389, 390, 391, 392, 393, 394, 395, 396, 397, 398, 48, 399, 64, 400, 401, 402, 403, 404, 405, 406, 407, 408, 409, 410, 411, 412, 413, 189, 190, 414, 415, 416, 417, 418, 419, 420, 421, 422, 423, 424, 425, 71, 72, 73, 191, 192, 294, 295, 296, 297, 193, 194, 195, 196, 197, 42, 426, 427, 428, 14, 429, 53, 54, 49, 233, 234, 235, 236, 239, 240, 241, 242, 63, 65, 66, 61, 892, 893, 894, 895, 896, 897, 898, 899, 900, 901, 953, 954, 955, 956, 957, 958, 959, 998, 999, 1000, 1001, 1002, 1003, 1004, 960, 961, 962, 963, 990, 991, 992, 993, 994, 995, 996, 997] (by decide +kernel) (by decide +kernel)
set_option maxRecDepth 20000 in
theorem gL_law_X9_orders : GoodIn wsL_law (wsV RL 41 RX9 yX9_orders wsX9_orders) := goodIn_app (goodIn_of _ (by decide +kernel)) ggL_law_X9_orders
set_option maxRecDepth 20000 in
theorem ggL_law_X10_orders : GoodIn wsL_law wsX10_orders := goodIn_r _ [433, 205, 434, 435, 159, 436, 437, 438, 439, 285, 440, 150, 154, 151, 152, 153, 441, 442, 443, 5, 444, 445, 158, 446, 447, 448, 449, 450, 451, 452, 453, 454, 455, 456, 457, 458, 459, 460, 461, 208, 462, 256, 463, 464, 465, 466, 467, 468, 469, 470, 471, 472, 473, 474, 475, 476, 477, 478, 213, 214, 215, 216, 217, 218, 219, 220, 902, 903, 904, 905, 906, 907, 908, 909, 910, 911, 912, 913, 914, 915, 916, 917, 918, 919, 920, 921, 922, 923, 924, 925, 926, 927, 928, 929, 930, 931, 932, 933, 934, 935, 936, 937, 938, 939, 940, 941, 942, 943, 944, 945, 946, 947, 948, 949, 950, 951, 952] (by decide +kernel) (by decide +kernel)
set_option maxRecDepth 20000 in
theorem gL_law_X10_orders : GoodIn wsL_law (wsV RL 45 RX10 yX10_orders wsX10_orders) := goodIn_app (goodIn_of _ (by decide +kernel)) ggL_law_X10_orders
set_option maxRecDepth 20000 in
theorem ggL_law_X9_fault : GoodIn wsL_law wsX9_fault := goodIn_r _ [482, 41, 892, 893, 894, 895, 896, 897, 898, 899, 900, 901] (by decide +kernel) (by decide +kernel)
set_option maxRecDepth 20000 in
theorem gL_law_X9_fault : GoodIn wsL_law (wsV RL 46 RX9 yX9_fault wsX9_fault) := goodIn_app (goodIn_of _ (by decide +kernel)) ggL_law_X9_fault
set_option maxRecDepth 20000 in
theorem ggL_law_X10_fault : GoodIn wsL_law wsX10_fault := goodIn_r _ [486, 205, 159, 902, 903, 904, 905, 906, 907, 908, 909, 910, 911, 912, 913, 914, 915, 916, 917, 918, 919, 920, 921, 922, 923, 924, 925, 926, 927, 928, 929, 930, 931, 932, 933, 934, 935, 936, 937, 938, 939, 940, 941, 942, 943, 944, 945, 946, 947, 948, 949, 950, 951, 952] (by decide +kernel) (by decide +kernel)
set_option maxRecDepth 20000 in
theorem gL_law_X10_fault : GoodIn wsL_law (wsV RL 49 RX10 yX10_fault wsX10_fault) := goodIn_app (goodIn_of _ (by decide +kernel)) ggL_law_X10_fault
set_option maxRecDepth 20000 in
theorem ggL_law_X9_of : GoodIn wsL_law wsX9_of := goodIn_r _ [490, 15, 491, 397, 398, 48, 399, 64, 492, 493, 494, 52, 495, 75, 496, 401, 402, 403, 74, 237, 2, 238, 497, 498, 499, 500, 76, 501, 502, 503, 504, 892, 893, 894, 895, 896, 897, 898, 899, 900, 901, 953, 954, 955, 990, 991, 992, 993, 994, 995, 996, 997, 998, 999, 1000, 1001, 1002, 1003, 1004] (by decide +kernel) (by decide +kernel)
set_option maxRecDepth 20000 in
theorem gL_law_X9_of : GoodIn wsL_law (wsV RL 50 RX9 yX9_of wsX9_of) := goodIn_app (goodIn_of _ (by decide +kernel)) ggL_law_X9_of
set_option maxRecDepth 20000 in
theorem ggL_law_X10_of : GoodIn wsL_law wsX10_of := goodIn_r _ [508, 205, 157, 155, 156, 509, 510, 511, 5, 512, 208, 213, 214, 215, 513, 514, 515, 516, 517, 440, 150, 153, 145, 146, 147, 152, 151, 142, 902, 903, 904, 905, 906, 907, 908, 909, 910, 911, 912, 913, 914, 915, 916, 917, 918, 919, 920, 921, 922, 923, 924, 925, 926, 927, 928, 929, 930, 931, 932, 933, 934, 935, 936, 937, 938, 939, 940, 941, 942, 943, 944, 945, 946, 947, 948, 949, 950, 951, 952] (by decide +kernel) (by decide +kernel)
set_option maxRecDepth 20000 in
theorem gL_law_X10_of : GoodIn wsL_law (wsV RL 53 RX10 yX10_of wsX10_of) := goodIn_app (goodIn_of _ (by decide +kernel)) ggL_law_X10_of
set_option maxRecDepth 20000 in
theorem ggL_law_X9_is : GoodIn wsL_law wsX9_is := goodIn_r _ [521, 15, 491, 397, 398, 48, 399, 64, 522, 523, 2, 524, 188, 189, 190, 525, 526, 527, 52, 528, 75, 76, 237, 238, 892, 893, 894, 895, 896, 897, 898, 899, 900, 901, 953, 954, 955, 990, 991, 992, 993, 994, 995, 996, 997, 998, 999, 1000, 1001, 1002, 1003, 1004] (by decide +kernel) (by decide +kernel)
set_option maxRecDepth 20000 in
theorem gL_law_X9_is : GoodIn wsL_law (wsV RL 54 RX9 yX9_is wsX9_is) := goodIn_app (goodIn_of _ (by decide +kernel)) ggL_law_X9_is
set_option maxRecDepth 20000 in
theorem ggL_law_X10_is : GoodIn wsL_law wsX10_is := goodIn_r _ [532, 205, 155, 156, 509, 510, 511, 5, 512, 208, 213, 214, 215, 533, 534, 535, 536, 513, 514, 515, 516, 517, 157, 440, 150, 153, 145, 146, 147, 152, 151, 142, 902, 903, 904, 905, 906, 907, 908, 909, 910, 911, 912, 913, 914, 915, 916, 917, 918, 919, 920, 921, 922, 923, 924, 925, 926, 927, 928, 929, 930, 931, 932, 933, 934, 935, 936, 937, 938, 939, 940, 941, 942, 943, 944, 945, 946, 947, 948, 949, 950, 951, 952] (by decide +kernel) (by decide +kernel)
set_option maxRecDepth 20000 in
theorem gL_law_X10_is : GoodIn wsL_law (wsV RL 57 RX10 yX10_is wsX10_is) := goodIn_app (goodIn_of _ (by decide +kernel)) ggL_law_X10_is
set_option maxRecDepth 20000 in
theorem ggL_law_X9_busy : GoodIn wsL_law wsX9_busy := goodIn_r _ [540, 15, 522, 523, 2, 524, 188, 189, 190, 541, 542, 543, 52, 544, 77, 71, 237, 238, 545, 526, 527, 528, 75, 76, 546, 502, 503, 504, 74, 892, 893, 894, 895, 896, 897, 898, 899, 900, 901, 953, 954, 955, 998, 999, 1000, 1001, 1002, 1003, 1004] (by decide +kernel) (by decide +kernel)
set_option maxRecDepth 20000 in
theorem gL_law_X9_busy : GoodIn wsL_law (wsV RL 58 RX9 yX9_busy wsX9_busy) := goodIn_app (goodIn_of _ (by decide +kernel)) ggL_law_X9_busy
set_option maxRecDepth 20000 in
theorem ggL_law_X10_busy : GoodIn wsL_law wsX10_busy := goodIn_r _ [550, 205, 533, 534, 5, 535, 536, 213, 214, 215, 513, 514, 515, 516, 155, 517, 156, 157, 440, 150, 153, 145, 146, 147, 152, 151, 142, 551, 552, 553, 554, 208, 902, 903, 904, 905, 906, 907, 908, 909, 910, 911, 912, 913, 914, 915, 916, 917, 918, 919, 920, 921, 922, 923, 924, 925, 926, 927, 928, 929, 930, 931, 932, 933, 934, 935, 936, 937, 938, 939, 940, 941, 942, 943, 944, 945, 946, 947, 948, 949, 950, 951, 952] (by decide +kernel) (by decide +kernel)
set_option maxRecDepth 20000 in
theorem gL_law_X10_busy : GoodIn wsL_law (wsV RL 61 RX10 yX10_busy wsX10_busy) := goodIn_app (goodIn_of _ (by decide +kernel)) ggL_law_X10_busy
set_option maxRecDepth 20000 in
theorem ggL_law_X9_lack : GoodIn wsL_law wsX9_lack := goodIn_r _ [558, 15, 40, 541, 542, 543, 52, 544, 77, 71, 237, 2, 238, 545, 526, 527, 528, 75, 76, 546, 502, 503, 504, 74, 892, 893, 894, 895, 896, 897, 898, 899, 900, 901, 953, 954, 955, 998, 999, 1000, 1001, 1002, 1003, 1004] (by decide +kernel) (by decide +kernel)
set_option maxRecDepth 20000 in
theorem gL_law_X9_lack : GoodIn wsL_law (wsV RL 62 RX9 yX9_lack wsX9_lack) := goodIn_app (goodIn_of _ (by decide +kernel)) ggL_law_X9_lack
set_option maxRecDepth 20000 in
theorem ggL_law_X10_lack : GoodIn wsL_law wsX10_lack := goodIn_r _ [562, 205, 148, 513, 514, 515, 5, 516, 155, 517, 156, 157, 440, 150, 153, 145, 146, 147, 152, 151, 142, 551, 552, 553, 554, 208, 902, 903, 904, 905, 906, 907, 908, 909, 910, 911, 912, 913, 914, 915, 916, 917, 918, 919, 920, 921, 922, 923, 924, 925, 926, 927, 928, 929, 930, 931, 932, 933, 934, 935, 936, 937, 938, 939, 940, 941, 942, 943, 944, 945, 946, 947, 948, 949, 950, 951, 952] (by decide +kernel) (by decide +kernel)
set_option maxRecDepth 20000 in
theorem gL_law_X10_lack : GoodIn wsL_law (wsV RL 65 RX10 yX10_lack wsX10_lack) := goodIn_app (goodIn_of _ (by decide +kernel)) ggL_law_X10_lack
set_option maxRecDepth 20000 in
theorem ggL_law_X9_way : GoodIn wsL_law wsX9_way := goodIn_r _ [566, 27, 15, 567, 568, 569, 26, 570, 107, 186, 2, 187, 188, 189, 190, 523, 524, 571, 572, 573, 574, 100, 106, 575, 80, 81, 82, 191, 192, 576, 577, 578, 579, 580, 198, 199, 200, 237, 238, 581, 582, 583, 584, 101, 585, 586, 587, 588, 105, 589, 590, 591, 592, 593, 594, 595, 596, 597, 598, 48, 599, 59, 600, 601, 602, 603, 60, 604, 605, 606, 607, 608, 609, 610, 611, 612, 613, 14, 614, 53, 615, 616, 617, 49, 618, 619, 620, 621, 622, 623, 102, 624, 625, 626, 627, 628, 629, 630, 631, 632, 633, 634, 635, 636, 637, 638, 639, 640, 641, 642, 643, 644, 645, 646, 647, 103, 104, 648, 649, 650, 651, 652, 653, 654, 655, 656, 657, 658, 193, 194, 195, 196, 197, 42, 892, 893, 894, 895, 896, 897, 898, 899, 900, 901, 964, 965, 966, 967, 968, 969, 970, 953, 954, 955, 990, 991, 992, 993, 994, 995, 996, 997, 998, 999, 1000, 1001, 1002, 1003, 1004] (by decide +kernel) (by decide +kernel)
set_option maxRecDepth 20000 in
theorem gL_law_X9_way : GoodIn wsL_law (wsV RL 66 RX9 yX9_way wsX9_way) := goodIn_app (goodIn_of _ (by decide +kernel)) ggL_law_X9_way
set_option maxRecDepth 20000 in
theorem ggL_law_X10_way : GoodIn wsL_law wsX10_way := goodIn_r _ [662, 205, 517, 160, 161, 162, 163, 209, 210, 5, 211, 212, 213, 214, 215, 533, 534, 535, 536, 216, 217, 218, 219, 220, 513, 514, 515, 516, 155, 156, 157, 440, 150, 153, 145, 146, 147, 152, 151, 142, 663, 664, 665, 666, 667, 668, 669, 670, 208, 140, 141, 671, 672, 673, 674, 149, 143, 675, 676, 677, 678, 679, 680, 681, 682, 902, 903, 904, 905, 906, 907, 908, 909, 910, 911, 912, 913, 914, 915, 916, 917, 918, 919, 920, 921, 922, 923, 924, 925, 926, 927, 928, 929, 930, 931, 932, 933, 934, 935, 936, 937, 938, 939, 940, 941, 942, 943, 944, 945, 946, 947, 948, 949, 950, 951, 952] (by decide +kernel) (by decide +kernel)
set_option maxRecDepth 20000 in
theorem gL_law_X10_way : GoodIn wsL_law (wsV RL 70 RX10 yX10_way wsX10_way) := goodIn_app (goodIn_of _ (by decide +kernel)) ggL_law_X10_way
set_option maxRecDepth 20000 in
theorem ggL_law_X9_step : GoodIn wsL_law wsX9_step := goodIn_r _ [686, 27, 687, 688, 689, 26, 690, 104, 103, 237, 2, 238, 892, 893, 894, 895, 896, 897, 898, 899, 900, 901, 964, 965, 966, 967, 968, 969, 970] (by decide +kernel) (by decide +kernel)
set_option maxRecDepth 20000 in
theorem gL_law_X9_step : GoodIn wsL_law (wsV RL 71 RX9 yX9_step wsX9_step) := goodIn_app (goodIn_of _ (by decide +kernel)) ggL_law_X9_step
set_option maxRecDepth 20000 in
theorem ggL_law_X10_step : GoodIn wsL_law wsX10_step := goodIn_r _ [694, 205, 163, 162, 213, 214, 5, 215, 902, 903, 904, 905, 906, 907, 908, 909, 910, 911, 912, 913, 914, 915, 916, 917, 918, 919, 920, 921, 922, 923, 924, 925, 926, 927, 928, 929, 930, 931, 932, 933, 934, 935, 936, 937, 938, 939, 940, 941, 942, 943, 944, 945, 946, 947, 948, 949, 950, 951, 952] (by decide +kernel) (by decide +kernel)
set_option maxRecDepth 20000 in
theorem gL_law_X10_step : GoodIn wsL_law (wsV RL 74 RX10 yX10_step wsX10_step) := goodIn_app (goodIn_of _ (by decide +kernel)) ggL_law_X10_step
set_option maxRecDepth 20000 in
theorem ggL_law_X9_shop : GoodIn wsL_law wsX9_shop := goodIn_r _ [698, 35, 699, 700, 701, 34, 702, 118, 186, 2, 187, 188, 189, 190, 237, 238, 191, 192, 193, 194, 195, 196, 197, 198, 199, 200, 42, 892, 893, 894, 895, 896, 897, 898, 899, 900, 901, 975, 976, 977, 978, 979, 980, 981, 982] (by decide +kernel) (by decide +kernel)
set_option maxRecDepth 20000 in
theorem gL_law_X9_shop : GoodIn wsL_law (wsV RL 75 RX9 yX9_shop wsX9_shop) := goodIn_app (goodIn_of _ (by decide +kernel)) ggL_law_X9_shop
set_option maxRecDepth 20000 in
theorem ggL_law_X10_shop : GoodIn wsL_law wsX10_shop := goodIn_r _ [706, 205, 707, 164, 209, 210, 5, 211, 212, 213, 214, 215, 216, 217, 218, 219, 220, 902, 903, 904, 905, 906, 907, 908, 909, 910, 911, 912, 913, 914, 915, 916, 917, 918, 919, 920, 921, 922, 923, 924, 925, 926, 927, 928, 929, 930, 931, 932, 933, 934, 935, 936, 937, 938, 939, 940, 941, 942, 943, 944, 945, 946, 947, 948, 949, 950, 951, 952] (by decide +kernel) (by decide +kernel)
set_option maxRecDepth 20000 in
theorem gL_law_X10_shop : GoodIn wsL_law (wsV RL 78 RX10 yX10_shop wsX10_shop) := goodIn_app (goodIn_of _ (by decide +kernel)) ggL_law_X10_shop
set_option maxRecDepth 20000 in
theorem ggL_law_X9_car : GoodIn wsL_law wsX9_car := goodIn_r _ [711, 31, 712, 713, 714, 30, 715, 114, 111, 112, 186, 2, 187, 188, 189, 190, 523, 524, 191, 192, 193, 194, 195, 196, 197, 198, 199, 200, 42, 892, 893, 894, 895, 896, 897, 898, 899, 900, 901, 971, 972, 973, 974] (by decide +kernel) (by decide +kernel)
set_option maxRecDepth 20000 in
theorem gL_law_X9_car : GoodIn wsL_law (wsV RL 79 RX9 yX9_car wsX9_car) := goodIn_app (goodIn_of _ (by decide +kernel)) ggL_law_X9_car
set_option maxRecDepth 20000 in
theorem ggL_law_X10_car : GoodIn wsL_law wsX10_car := goodIn_r _ [719, 205, 720, 165, 166, 168, 209, 210, 5, 211, 212, 213, 214, 215, 533, 534, 535, 536, 216, 217, 218, 219, 220, 902, 903, 904, 905, 906, 907, 908, 909, 910, 911, 912, 913, 914, 915, 916, 917, 918, 919, 920, 921, 922, 923, 924, 925, 926, 927, 928, 929, 930, 931, 932, 933, 934, 935, 936, 937, 938, 939, 940, 941, 942, 943, 944, 945, 946, 947, 948, 949, 950, 951, 952] (by decide +kernel) (by decide +kernel)
set_option maxRecDepth 20000 in
theorem gL_law_X10_car : GoodIn wsL_law (wsV RL 82 RX10 yX10_car wsX10_car) := goodIn_app (goodIn_of _ (by decide +kernel)) ggL_law_X10_car
set_option maxRecDepth 20000 in
theorem ggL_law_X9_comes : GoodIn wsL_law wsX9_comes := goodIn_r _ [724, 31, 15, 725, 726, 727, 30, 728, 729, 730, 731, 732, 733, 114, 186, 2, 187, 188, 189, 190, 734, 735, 736, 737, 113, 111, 112, 738, 80, 81, 82, 237, 238, 191, 192, 739, 597, 598, 48, 599, 59, 740, 601, 602, 603, 60, 741, 742, 743, 744, 745, 746, 747, 748, 749, 612, 613, 14, 614, 53, 615, 616, 199, 617, 49, 618, 198, 200, 619, 892, 893, 894, 895, 896, 897, 898, 899, 900, 901, 971, 972, 973, 974, 953, 954, 955, 990, 991, 992, 993, 994, 995, 996, 997, 998, 999, 1000, 1001, 1002, 1003, 1004] (by decide +kernel) (by decide +kernel)
set_option maxRecDepth 20000 in
theorem gL_law_X9_comes : GoodIn wsL_law (wsV RL 83 RX9 yX9_comes wsX9_comes) := goodIn_app (goodIn_of _ (by decide +kernel)) ggL_law_X9_comes
set_option maxRecDepth 20000 in
theorem ggL_law_X10_comes : GoodIn wsL_law wsX10_comes := goodIn_r _ [753, 205, 720, 167, 213, 214, 5, 215, 209, 210, 211, 212, 513, 514, 515, 516, 155, 517, 156, 157, 440, 150, 153, 145, 146, 147, 152, 151, 142, 754, 755, 756, 757, 165, 166, 208, 140, 141, 758, 759, 760, 761, 143, 902, 903, 904, 905, 906, 907, 908, 909, 910, 911, 912, 913, 914, 915, 916, 917, 918, 919, 920, 921, 922, 923, 924, 925, 926, 927, 928, 929, 930, 931, 932, 933, 934, 935, 936, 937, 938, 939, 940, 941, 942, 943, 944, 945, 946, 947, 948, 949, 950, 951, 952] (by decide +kernel) (by decide +kernel)
set_option maxRecDepth 20000 in
theorem gL_law_X10_comes : GoodIn wsL_law (wsV RL 86 RX10 yX10_comes wsX10_comes) := goodIn_app (goodIn_of _ (by decide +kernel)) ggL_law_X10_comes
set_option maxRecDepth 20000 in
theorem ggL_law_X9_pushed : GoodIn wsL_law wsX9_pushed := goodIn_r _ [765, 35, 15, 31, 766, 767, 768, 34, 769, 125, 120, 523, 2, 524, 188, 189, 190, 770, 80, 81, 82, 771, 735, 736, 30, 737, 113, 729, 111, 112, 738, 237, 238, 191, 192, 739, 597, 598, 48, 599, 59, 740, 601, 602, 603, 60, 741, 742, 743, 744, 745, 746, 747, 748, 749, 612, 613, 14, 614, 53, 615, 616, 199, 617, 49, 618, 198, 200, 619, 772, 773, 774, 775, 776, 119, 118, 777, 778, 779, 780, 781, 123, 124, 122, 782, 783, 784, 785, 121, 786, 787, 788, 789, 790, 791, 792, 793, 794, 795, 796, 797, 798, 799, 800, 801, 193, 194, 195, 196, 197, 42, 892, 893, 894, 895, 896, 897, 898, 899, 900, 901, 975, 976, 977, 978, 979, 980, 981, 982, 971, 972, 973, 974, 953, 954, 955, 990, 991, 992, 993, 994, 995, 996, 997, 998, 999, 1000, 1001, 1002, 1003, 1004] (by decide +kernel) (by decide +kernel)
set_option maxRecDepth 20000 in
theorem gL_law_X9_pushed : GoodIn wsL_law (wsV RL 87 RX9 yX9_pushed wsX9_pushed) := goodIn_app (goodIn_of _ (by decide +kernel)) ggL_law_X9_pushed
set_option maxRecDepth 20000 in
theorem ggL_law_X10_pushed : GoodIn wsL_law wsX10_pushed := goodIn_r _ [805, 205, 169, 720, 168, 172, 533, 534, 5, 535, 536, 213, 214, 215, 216, 217, 218, 219, 220, 513, 514, 515, 516, 155, 517, 156, 157, 440, 150, 153, 145, 146, 147, 152, 151, 142, 754, 755, 756, 757, 167, 165, 166, 208, 140, 141, 758, 759, 760, 761, 143, 806, 807, 808, 809, 170, 171, 164, 810, 811, 812, 813, 902, 903, 904, 905, 906, 907, 908, 909, 910, 911, 912, 913, 914, 915, 916, 917, 918, 919, 920, 921, 922, 923, 924, 925, 926, 927, 928, 929, 930, 931, 932, 933, 934, 935, 936, 937, 938, 939, 940, 941, 942, 943, 944, 945, 946, 947, 948, 949, 950, 951, 952] (by decide +kernel) (by decide +kernel)
set_option maxRecDepth 20000 in
theorem gL_law_X10_pushed : GoodIn wsL_law (wsV RL 90 RX10 yX10_pushed wsX10_pushed) := goodIn_app (goodIn_of _ (by decide +kernel)) ggL_law_X10_pushed
set_option maxRecDepth 20000 in
theorem ggL_law_X9_has : GoodIn wsL_law wsX9_has := goodIn_r _ [817, 31, 35, 818, 731, 732, 30, 733, 114, 819, 820, 821, 34, 822, 125, 120, 237, 2, 238, 892, 893, 894, 895, 896, 897, 898, 899, 900, 901, 971, 972, 973, 974, 975, 976, 977, 978, 979, 980, 981, 982] (by decide +kernel) (by decide +kernel)
set_option maxRecDepth 20000 in
theorem gL_law_X9_has : GoodIn wsL_law (wsV RL 91 RX9 yX9_has wsX9_has) := goodIn_app (goodIn_of _ (by decide +kernel)) ggL_law_X9_has
set_option maxRecDepth 20000 in
theorem ggL_law_X10_has : GoodIn wsL_law wsX10_has := goodIn_r _ [826, 205, 172, 720, 168, 213, 214, 5, 215, 902, 903, 904, 905, 906, 907, 908, 909, 910, 911, 912, 913, 914, 915, 916, 917, 918, 919, 920, 921, 922, 923, 924, 925, 926, 927, 928, 929, 930, 931, 932, 933, 934, 935, 936, 937, 938, 939, 940, 941, 942, 943, 944, 945, 946, 947, 948, 949, 950, 951, 952] (by decide +kernel) (by decide +kernel)
set_option maxRecDepth 20000 in
theorem gL_law_X10_has : GoodIn wsL_law (wsV RL 94 RX10 yX10_has wsX10_has) := goodIn_app (goodIn_of _ (by decide +kernel)) ggL_law_X10_has
set_option maxRecDepth 20000 in
theorem ggL_law_X9_wheel : GoodIn wsL_law wsX9_wheel := goodIn_r _ [830, 39, 31, 831, 832, 833, 38, 834, 134, 129, 835, 731, 732, 30, 733, 114, 191, 2, 192, 193, 194, 195, 196, 197, 198, 199, 200, 42, 892, 893, 894, 895, 896, 897, 898, 899, 900, 901, 983, 984, 985, 986, 987, 988, 989, 971, 972, 973, 974] (by decide +kernel) (by decide +kernel)
set_option maxRecDepth 20000 in
theorem gL_law_X9_wheel : GoodIn wsL_law (wsV RL 95 RX9 yX9_wheel wsX9_wheel) := goodIn_app (goodIn_of _ (by decide +kernel)) ggL_law_X9_wheel
set_option maxRecDepth 20000 in
theorem ggL_law_X10_wheel : GoodIn wsL_law wsX10_wheel := goodIn_r _ [839, 205, 720, 840, 173, 213, 214, 5, 215, 216, 217, 218, 219, 220, 902, 903, 904, 905, 906, 907, 908, 909, 910, 911, 912, 913, 914, 915, 916, 917, 918, 919, 920, 921, 922, 923, 924, 925, 926, 927, 928, 929, 930, 931, 932, 933, 934, 935, 936, 937, 938, 939, 940, 941, 942, 943, 944, 945, 946, 947, 948, 949, 950, 951, 952] (by decide +kernel) (by decide +kernel)
set_option maxRecDepth 20000 in
theorem gL_law_X10_wheel : GoodIn wsL_law (wsV RL 98 RX10 yX10_wheel wsX10_wheel) := goodIn_app (goodIn_of _ (by decide +kernel)) ggL_law_X10_wheel
set_option maxRecDepth 20000 in
theorem ggL_law_X9_see : GoodIn wsL_law wsX9_see := goodIn_r _ [844, 39, 31, 845, 846, 847, 38, 848, 135, 130, 131, 132, 133, 523, 2, 524, 188, 189, 190, 849, 850, 851, 852, 134, 835, 731, 732, 30, 733, 114, 191, 192, 193, 194, 195, 196, 197, 198, 199, 200, 42, 892, 893, 894, 895, 896, 897, 898, 899, 900, 901, 983, 984, 985, 986, 987, 988, 989, 971, 972, 973, 974] (by decide +kernel) (by decide +kernel)
set_option maxRecDepth 20000 in
theorem gL_law_X9_see : GoodIn wsL_law (wsV RL 99 RX9 yX9_see wsX9_see) := goodIn_app (goodIn_of _ (by decide +kernel)) ggL_law_X9_see
set_option maxRecDepth 20000 in
theorem ggL_law_X10_see : GoodIn wsL_law wsX10_see := goodIn_r _ [856, 205, 449, 840, 720, 857, 174, 175, 176, 177, 533, 534, 5, 535, 536, 213, 214, 215, 216, 217, 218, 219, 220, 902, 903, 904, 905, 906, 907, 908, 909, 910, 911, 912, 913, 914, 915, 916, 917, 918, 919, 920, 921, 922, 923, 924, 925, 926, 927, 928, 929, 930, 931, 932, 933, 934, 935, 936, 937, 938, 939, 940, 941, 942, 943, 944, 945, 946, 947, 948, 949, 950, 951, 952] (by decide +kernel) (by decide +kernel)
set_option maxRecDepth 20000 in
theorem gL_law_X10_see : GoodIn wsL_law (wsV RL 103 RX10 yX10_see wsX10_see) := goodIn_app (goodIn_of _ (by decide +kernel)) ggL_law_X10_see
set_option maxRecDepth 20000 in
theorem ggL_law_X9_under : GoodIn wsL_law wsX9_under := goodIn_r _ [861, 39, 862, 863, 864, 38, 865, 129, 135, 130, 133, 132, 131, 849, 850, 851, 852, 134, 523, 2, 524, 188, 189, 190, 237, 238, 892, 893, 894, 895, 896, 897, 898, 899, 900, 901, 983, 984, 985, 986, 987, 988, 989] (by decide +kernel) (by decide +kernel)
set_option maxRecDepth 20000 in
theorem gL_law_X9_under : GoodIn wsL_law (wsV RL 104 RX9 yX9_under wsX9_under) := goodIn_app (goodIn_of _ (by decide +kernel)) ggL_law_X9_under
set_option maxRecDepth 20000 in
theorem ggL_law_X10_under : GoodIn wsL_law wsX10_under := goodIn_r _ [869, 205, 840, 449, 857, 174, 176, 177, 173, 175, 213, 214, 5, 215, 533, 534, 535, 536, 902, 903, 904, 905, 906, 907, 908, 909, 910, 911, 912, 913, 914, 915, 916, 917, 918, 919, 920, 921, 922, 923, 924, 925, 926, 927, 928, 929, 930, 931, 932, 933, 934, 935, 936, 937, 938, 939, 940, 941, 942, 943, 944, 945, 946, 947, 948, 949, 950, 951, 952] (by decide +kernel) (by decide +kernel)
set_option maxRecDepth 20000 in
theorem gL_law_X10_under : GoodIn wsL_law (wsV RL 108 RX10 yX10_under wsX10_under) := goodIn_app (goodIn_of _ (by decide +kernel)) ggL_law_X10_under
set_option maxRecDepth 20000 in
theorem ggL_law_X9_count : GoodIn wsL_law wsX9_count := goodIn_r _ [873, 15, 31, 39, 19, 874, 875, 876, 52, 877, 77, 71, 878, 616, 199, 617, 237, 2, 238, 879, 498, 499, 500, 76, 496, 401, 402, 403, 74, 892, 893, 894, 895, 896, 897, 898, 899, 900, 901, 953, 954, 955, 990, 991, 992, 993, 994, 995, 996, 997, 998, 999, 1000, 1001, 1002, 1003, 1004, 971, 972, 973, 974, 983, 984, 985, 986, 987, 988, 989, 956, 957, 958, 959] (by decide +kernel) (by decide +kernel)
set_option maxRecDepth 20000 in
theorem gL_law_X9_count : GoodIn wsL_law (wsV RL 109 RX9 yX9_count wsX9_count) := goodIn_app (goodIn_of _ (by decide +kernel)) ggL_law_X9_count
set_option maxRecDepth 20000 in
theorem ggL_law_X10_count : GoodIn wsL_law wsX10_count := goodIn_r _ [883, 205, 208, 440, 720, 840, 857, 285, 157, 156, 513, 514, 515, 5, 516, 155, 517, 150, 153, 145, 146, 147, 152, 151, 142, 902, 903, 904, 905, 906, 907, 908, 909, 910, 911, 912, 913, 914, 915, 916, 917, 918, 919, 920, 921, 922, 923, 924, 925, 926, 927, 928, 929, 930, 931, 932, 933, 934, 935, 936, 937, 938, 939, 940, 941, 942, 943, 944, 945, 946, 947, 948, 949, 950, 951, 952] (by decide +kernel) (by decide +kernel)
set_option maxRecDepth 20000 in
theorem gL_law_X10_count : GoodIn wsL_law (wsV RL 112 RX10 yX10_count wsX10_count) := goodIn_app (goodIn_of _ (by decide +kernel)) ggL_law_X10_count
set_option maxRecDepth 20000 in
theorem ggL_law_X9_status : GoodIn wsL_law wsX9_status := goodIn_r _ [887, 42, 892, 893, 894, 895, 896, 897, 898, 899, 900, 901] (by decide +kernel) (by decide +kernel)
set_option maxRecDepth 20000 in
theorem gL_law_X9_status : GoodIn wsL_law (wsV RL 113 RX9 yX9_status wsX9_status) := goodIn_app (goodIn_of _ (by decide +kernel)) ggL_law_X9_status
set_option maxRecDepth 20000 in
theorem ggL_law_X10_status : GoodIn wsL_law wsX10_status := goodIn_r _ [891, 205, 220, 902, 903, 904, 905, 906, 907, 908, 909, 910, 911, 912, 913, 914, 915, 916, 917, 918, 919, 920, 921, 922, 923, 924, 925, 926, 927, 928, 929, 930, 931, 932, 933, 934, 935, 936, 937, 938, 939, 940, 941, 942, 943, 944, 945, 946, 947, 948, 949, 950, 951, 952] (by decide +kernel) (by decide +kernel)
set_option maxRecDepth 20000 in
theorem gL_law_X10_status : GoodIn wsL_law (wsV RL 116 RX10 yX10_status wsX10_status) := goodIn_app (goodIn_of _ (by decide +kernel)) ggL_law_X10_status
theorem dL_law_0 : decode cL_law 0 = .ok (.new 7, 3) := by decide +kernel
theorem dL_law_3 : decode cL_law 3 = .ok (.dup, 1) := by decide +kernel
theorem dL_law_4 : decode cL_law 4 = .ok (.invokespecial 9, 3) := by decide +kernel
theorem dL_law_7 : decode cL_law 7 = .ok (.astore_n 1, 1) := by decide +kernel
theorem dL_law_8 : decode cL_law 8 = .ok (.new 10, 3) := by decide +kernel
theorem dL_law_11 : decode cL_law 11 = .ok (.dup, 1) := by decide +kernel
theorem dL_law_12 : decode cL_law 12 = .ok (.invokespecial 12, 3) := by decide +kernel
theorem dL_law_15 : decode cL_law 15 = .ok (.astore_n 2, 1) := by decide +kernel
theorem dL_law_16 : decode cL_law 16 = .ok (.iconst 0, 1) := by decide +kernel
theorem dL_law_17 : decode cL_law 17 = .ok (.istore_n 3, 1) := by decide +kernel
theorem dL_law_18 : decode cL_law 18 = .ok (.iload_n 3, 1) := by decide +kernel
theorem dL_law_19 : decode cL_law 19 = .ok (.aload_n 0, 1) := by decide +kernel
theorem dL_law_20 : decode cL_law 20 = .ok (.arraylength, 1) := by decide +kernel
theorem dL_law_21 : decode cL_law 21 = .ok (.bipush 6, 2) := by decide +kernel
theorem dL_law_23 : decode cL_law 23 = .ok (.isub, 1) := by decide +kernel
theorem dL_law_24 : decode cL_law 24 = .ok (.if_icmp .gt 890, 3) := by decide +kernel
theorem dL_law_27 : decode cL_law 27 = .ok (.aload_n 0, 1) := by decide +kernel
theorem dL_law_28 : decode cL_law 28 = .ok (.iload_n 3, 1) := by decide +kernel
theorem dL_law_29 : decode cL_law 29 = .ok (.iaload, 1) := by decide +kernel
theorem dL_law_30 : decode cL_law 30 = .ok (.bipush 31, 2) := by decide +kernel
theorem dL_law_32 : decode cL_law 32 = .ok (.iand, 1) := by decide +kernel
theorem dL_law_33 : decode cL_law 33 = .ok (.tableswitch 875 0 23 #[111, 190, 223, 246, 269, 332, 355, 368, 381, 414, 447, 470, 483, 552, 575, 608, 641, 674, 697, 720, 743, 796, 839, 862], 111) := by decide +kernel
theorem dL_law_144 : decode cL_law 144 = .ok (.aload_n 1, 1) := by decide +kernel
theorem dL_law_145 : decode cL_law 145 = .ok (.aload_n 0, 1) := by decide +kernel
theorem dL_law_146 : decode cL_law 146 = .ok (.iload_n 3, 1) := by decide +kernel
theorem dL_law_147 : decode cL_law 147 = .ok (.iconst 1, 1) := by decide +kernel
theorem dL_law_148 : decode cL_law 148 = .ok (.iadd, 1) := by decide +kernel
theorem dL_law_149 : decode cL_law 149 = .ok (.iaload, 1) := by decide +kernel
theorem dL_law_150 : decode cL_law 150 = .ok (.aload_n 0, 1) := by decide +kernel
theorem dL_law_151 : decode cL_law 151 = .ok (.iload_n 3, 1) := by decide +kernel
theorem dL_law_152 : decode cL_law 152 = .ok (.iconst 2, 1) := by decide +kernel
theorem dL_law_153 : decode cL_law 153 = .ok (.iadd, 1) := by decide +kernel
theorem dL_law_154 : decode cL_law 154 = .ok (.iaload, 1) := by decide +kernel
theorem dL_law_155 : decode cL_law 155 = .ok (.aload_n 0, 1) := by decide +kernel
theorem dL_law_156 : decode cL_law 156 = .ok (.iload_n 3, 1) := by decide +kernel
theorem dL_law_157 : decode cL_law 157 = .ok (.iconst 3, 1) := by decide +kernel
theorem dL_law_158 : decode cL_law 158 = .ok (.iadd, 1) := by decide +kernel
theorem dL_law_159 : decode cL_law 159 = .ok (.iaload, 1) := by decide +kernel
theorem dL_law_160 : decode cL_law 160 = .ok (.aload_n 0, 1) := by decide +kernel
theorem dL_law_161 : decode cL_law 161 = .ok (.iload_n 3, 1) := by decide +kernel
theorem dL_law_162 : decode cL_law 162 = .ok (.iconst 4, 1) := by decide +kernel
theorem dL_law_163 : decode cL_law 163 = .ok (.iadd, 1) := by decide +kernel
theorem dL_law_164 : decode cL_law 164 = .ok (.iaload, 1) := by decide +kernel
theorem dL_law_165 : decode cL_law 165 = .ok (.aload_n 0, 1) := by decide +kernel
theorem dL_law_166 : decode cL_law 166 = .ok (.iload_n 3, 1) := by decide +kernel
theorem dL_law_167 : decode cL_law 167 = .ok (.iconst 5, 1) := by decide +kernel
theorem dL_law_168 : decode cL_law 168 = .ok (.iadd, 1) := by decide +kernel
theorem dL_law_169 : decode cL_law 169 = .ok (.iaload, 1) := by decide +kernel
theorem dL_law_170 : decode cL_law 170 = .ok (.ifCond .eq 7, 3) := by decide +kernel
theorem dL_law_173 : decode cL_law 173 = .ok (.iconst 1, 1) := by decide +kernel
theorem dL_law_174 : decode cL_law 174 = .ok (.goto 4, 3) := by decide +kernel
theorem dL_law_177 : decode cL_law 177 = .ok (.iconst 0, 1) := by decide +kernel
theorem dL_law_178 : decode cL_law 178 = .ok (.invokevirtual 13, 3) := by decide +kernel
theorem dL_law_181 : decode cL_law 181 = .ok (.aload_n 2, 1) := by decide +kernel
theorem dL_law_182 : decode cL_law 182 = .ok (.aload_n 0, 1) := by decide +kernel
theorem dL_law_183 : decode cL_law 183 = .ok (.iload_n 3, 1) := by decide +kernel
theorem dL_law_184 : decode cL_law 184 = .ok (.iconst 1, 1) := by decide +kernel
theorem dL_law_185 : decode cL_law 185 = .ok (.iadd, 1) := by decide +kernel
theorem dL_law_186 : decode cL_law 186 = .ok (.iaload, 1) := by decide +kernel
theorem dL_law_187 : decode cL_law 187 = .ok (.aload_n 0, 1) := by decide +kernel
theorem dL_law_188 : decode cL_law 188 = .ok (.iload_n 3, 1) := by decide +kernel
theorem dL_law_189 : decode cL_law 189 = .ok (.iconst 2, 1) := by decide +kernel
theorem dL_law_190 : decode cL_law 190 = .ok (.iadd, 1) := by decide +kernel
theorem dL_law_191 : decode cL_law 191 = .ok (.iaload, 1) := by decide +kernel
theorem dL_law_192 : decode cL_law 192 = .ok (.aload_n 0, 1) := by decide +kernel
theorem dL_law_193 : decode cL_law 193 = .ok (.iload_n 3, 1) := by decide +kernel
theorem dL_law_194 : decode cL_law 194 = .ok (.iconst 3, 1) := by decide +kernel
theorem dL_law_195 : decode cL_law 195 = .ok (.iadd, 1) := by decide +kernel
theorem dL_law_196 : decode cL_law 196 = .ok (.iaload, 1) := by decide +kernel
theorem dL_law_197 : decode cL_law 197 = .ok (.aload_n 0, 1) := by decide +kernel
theorem dL_law_198 : decode cL_law 198 = .ok (.iload_n 3, 1) := by decide +kernel
theorem dL_law_199 : decode cL_law 199 = .ok (.iconst 4, 1) := by decide +kernel
theorem dL_law_200 : decode cL_law 200 = .ok (.iadd, 1) := by decide +kernel
theorem dL_law_201 : decode cL_law 201 = .ok (.iaload, 1) := by decide +kernel
theorem dL_law_202 : decode cL_law 202 = .ok (.aload_n 0, 1) := by decide +kernel
theorem dL_law_203 : decode cL_law 203 = .ok (.iload_n 3, 1) := by decide +kernel
theorem dL_law_204 : decode cL_law 204 = .ok (.iconst 5, 1) := by decide +kernel
theorem dL_law_205 : decode cL_law 205 = .ok (.iadd, 1) := by decide +kernel
theorem dL_law_206 : decode cL_law 206 = .ok (.iaload, 1) := by decide +kernel
theorem dL_law_207 : decode cL_law 207 = .ok (.ifCond .eq 7, 3) := by decide +kernel
theorem dL_law_210 : decode cL_law 210 = .ok (.iconst 1, 1) := by decide +kernel
theorem dL_law_211 : decode cL_law 211 = .ok (.goto 4, 3) := by decide +kernel
theorem dL_law_214 : decode cL_law 214 = .ok (.iconst 0, 1) := by decide +kernel
theorem dL_law_215 : decode cL_law 215 = .ok (.invokevirtual 17, 3) := by decide +kernel
theorem dL_law_218 : decode cL_law 218 = .ok (.if_icmp .eq 690, 3) := by decide +kernel
theorem dL_law_221 : decode cL_law 221 = .ok (.iconst 0, 1) := by decide +kernel
theorem dL_law_222 : decode cL_law 222 = .ok (.ireturn, 1) := by decide +kernel
theorem dL_law_223 : decode cL_law 223 = .ok (.aload_n 1, 1) := by decide +kernel
theorem dL_law_224 : decode cL_law 224 = .ok (.aload_n 0, 1) := by decide +kernel
theorem dL_law_225 : decode cL_law 225 = .ok (.iload_n 3, 1) := by decide +kernel
theorem dL_law_226 : decode cL_law 226 = .ok (.iconst 1, 1) := by decide +kernel
theorem dL_law_227 : decode cL_law 227 = .ok (.iadd, 1) := by decide +kernel
theorem dL_law_228 : decode cL_law 228 = .ok (.iaload, 1) := by decide +kernel
theorem dL_law_229 : decode cL_law 229 = .ok (.aload_n 0, 1) := by decide +kernel
theorem dL_law_230 : decode cL_law 230 = .ok (.iload_n 3, 1) := by decide +kernel
theorem dL_law_231 : decode cL_law 231 = .ok (.iconst 2, 1) := by decide +kernel
theorem dL_law_232 : decode cL_law 232 = .ok (.iadd, 1) := by decide +kernel
theorem dL_law_233 : decode cL_law 233 = .ok (.iaload, 1) := by decide +kernel
theorem dL_law_234 : decode cL_law 234 = .ok (.invokevirtual 18, 3) := by decide +kernel
theorem dL_law_237 : decode cL_law 237 = .ok (.aload_n 2, 1) := by decide +kernel
theorem dL_law_238 : decode cL_law 238 = .ok (.aload_n 0, 1) := by decide +kernel
theorem dL_law_239 : decode cL_law 239 = .ok (.iload_n 3, 1) := by decide +kernel
theorem dL_law_240 : decode cL_law 240 = .ok (.iconst 1, 1) := by decide +kernel
theorem dL_law_241 : decode cL_law 241 = .ok (.iadd, 1) := by decide +kernel
theorem dL_law_242 : decode cL_law 242 = .ok (.iaload, 1) := by decide +kernel
theorem dL_law_243 : decode cL_law 243 = .ok (.aload_n 0, 1) := by decide +kernel
theorem dL_law_244 : decode cL_law 244 = .ok (.iload_n 3, 1) := by decide +kernel
theorem dL_law_245 : decode cL_law 245 = .ok (.iconst 2, 1) := by decide +kernel
theorem dL_law_246 : decode cL_law 246 = .ok (.iadd, 1) := by decide +kernel
theorem dL_law_247 : decode cL_law 247 = .ok (.iaload, 1) := by decide +kernel
theorem dL_law_248 : decode cL_law 248 = .ok (.invokevirtual 22, 3) := by decide +kernel
theorem dL_law_251 : decode cL_law 251 = .ok (.if_icmp .eq 657, 3) := by decide +kernel
theorem dL_law_254 : decode cL_law 254 = .ok (.iconst 0, 1) := by decide +kernel
theorem dL_law_255 : decode cL_law 255 = .ok (.ireturn, 1) := by decide +kernel
theorem dL_law_256 : decode cL_law 256 = .ok (.aload_n 1, 1) := by decide +kernel
theorem dL_law_257 : decode cL_law 257 = .ok (.aload_n 0, 1) := by decide +kernel
theorem dL_law_258 : decode cL_law 258 = .ok (.iload_n 3, 1) := by decide +kernel
theorem dL_law_259 : decode cL_law 259 = .ok (.iconst 1, 1) := by decide +kernel
theorem dL_law_260 : decode cL_law 260 = .ok (.iadd, 1) := by decide +kernel
theorem dL_law_261 : decode cL_law 261 = .ok (.iaload, 1) := by decide +kernel
theorem dL_law_262 : decode cL_law 262 = .ok (.invokevirtual 23, 3) := by decide +kernel
theorem dL_law_265 : decode cL_law 265 = .ok (.aload_n 2, 1) := by decide +kernel
theorem dL_law_266 : decode cL_law 266 = .ok (.aload_n 0, 1) := by decide +kernel
theorem dL_law_267 : decode cL_law 267 = .ok (.iload_n 3, 1) := by decide +kernel
theorem dL_law_268 : decode cL_law 268 = .ok (.iconst 1, 1) := by decide +kernel
theorem dL_law_269 : decode cL_law 269 = .ok (.iadd, 1) := by decide +kernel
theorem dL_law_270 : decode cL_law 270 = .ok (.iaload, 1) := by decide +kernel
theorem dL_law_271 : decode cL_law 271 = .ok (.invokevirtual 27, 3) := by decide +kernel
theorem dL_law_274 : decode cL_law 274 = .ok (.if_icmp .eq 634, 3) := by decide +kernel
theorem dL_law_277 : decode cL_law 277 = .ok (.iconst 0, 1) := by decide +kernel
theorem dL_law_278 : decode cL_law 278 = .ok (.ireturn, 1) := by decide +kernel
theorem dL_law_279 : decode cL_law 279 = .ok (.aload_n 1, 1) := by decide +kernel
theorem dL_law_280 : decode cL_law 280 = .ok (.aload_n 0, 1) := by decide +kernel
theorem dL_law_281 : decode cL_law 281 = .ok (.iload_n 3, 1) := by decide +kernel
theorem dL_law_282 : decode cL_law 282 = .ok (.iconst 1, 1) := by decide +kernel
theorem dL_law_283 : decode cL_law 283 = .ok (.iadd, 1) := by decide +kernel
theorem dL_law_284 : decode cL_law 284 = .ok (.iaload, 1) := by decide +kernel
theorem dL_law_285 : decode cL_law 285 = .ok (.invokevirtual 28, 3) := by decide +kernel
theorem dL_law_288 : decode cL_law 288 = .ok (.aload_n 2, 1) := by decide +kernel
theorem dL_law_289 : decode cL_law 289 = .ok (.aload_n 0, 1) := by decide +kernel
theorem dL_law_290 : decode cL_law 290 = .ok (.iload_n 3, 1) := by decide +kernel
theorem dL_law_291 : decode cL_law 291 = .ok (.iconst 1, 1) := by decide +kernel
theorem dL_law_292 : decode cL_law 292 = .ok (.iadd, 1) := by decide +kernel
theorem dL_law_293 : decode cL_law 293 = .ok (.iaload, 1) := by decide +kernel
theorem dL_law_294 : decode cL_law 294 = .ok (.invokevirtual 31, 3) := by decide +kernel
theorem dL_law_297 : decode cL_law 297 = .ok (.if_icmp .eq 611, 3) := by decide +kernel
theorem dL_law_300 : decode cL_law 300 = .ok (.iconst 0, 1) := by decide +kernel
theorem dL_law_301 : decode cL_law 301 = .ok (.ireturn, 1) := by decide +kernel
theorem dL_law_302 : decode cL_law 302 = .ok (.aload_n 1, 1) := by decide +kernel
theorem dL_law_303 : decode cL_law 303 = .ok (.aload_n 0, 1) := by decide +kernel
theorem dL_law_304 : decode cL_law 304 = .ok (.iload_n 3, 1) := by decide +kernel
theorem dL_law_305 : decode cL_law 305 = .ok (.iconst 1, 1) := by decide +kernel
theorem dL_law_306 : decode cL_law 306 = .ok (.iadd, 1) := by decide +kernel
theorem dL_law_307 : decode cL_law 307 = .ok (.iaload, 1) := by decide +kernel
theorem dL_law_308 : decode cL_law 308 = .ok (.aload_n 0, 1) := by decide +kernel
theorem dL_law_309 : decode cL_law 309 = .ok (.iload_n 3, 1) := by decide +kernel
theorem dL_law_310 : decode cL_law 310 = .ok (.iconst 2, 1) := by decide +kernel
theorem dL_law_311 : decode cL_law 311 = .ok (.iadd, 1) := by decide +kernel
theorem dL_law_312 : decode cL_law 312 = .ok (.iaload, 1) := by decide +kernel
theorem dL_law_313 : decode cL_law 313 = .ok (.aload_n 0, 1) := by decide +kernel
theorem dL_law_314 : decode cL_law 314 = .ok (.iload_n 3, 1) := by decide +kernel
theorem dL_law_315 : decode cL_law 315 = .ok (.iconst 3, 1) := by decide +kernel
theorem dL_law_316 : decode cL_law 316 = .ok (.iadd, 1) := by decide +kernel
theorem dL_law_317 : decode cL_law 317 = .ok (.iaload, 1) := by decide +kernel
theorem dL_law_318 : decode cL_law 318 = .ok (.aload_n 0, 1) := by decide +kernel
theorem dL_law_319 : decode cL_law 319 = .ok (.iload_n 3, 1) := by decide +kernel
theorem dL_law_320 : decode cL_law 320 = .ok (.iconst 4, 1) := by decide +kernel
theorem dL_law_321 : decode cL_law 321 = .ok (.iadd, 1) := by decide +kernel
theorem dL_law_322 : decode cL_law 322 = .ok (.iaload, 1) := by decide +kernel
theorem dL_law_323 : decode cL_law 323 = .ok (.aload_n 0, 1) := by decide +kernel
theorem dL_law_324 : decode cL_law 324 = .ok (.iload_n 3, 1) := by decide +kernel
theorem dL_law_325 : decode cL_law 325 = .ok (.iconst 5, 1) := by decide +kernel
theorem dL_law_326 : decode cL_law 326 = .ok (.iadd, 1) := by decide +kernel
theorem dL_law_327 : decode cL_law 327 = .ok (.iaload, 1) := by decide +kernel
theorem dL_law_328 : decode cL_law 328 = .ok (.invokevirtual 32, 3) := by decide +kernel
theorem dL_law_331 : decode cL_law 331 = .ok (.aload_n 2, 1) := by decide +kernel
theorem dL_law_332 : decode cL_law 332 = .ok (.aload_n 0, 1) := by decide +kernel
theorem dL_law_333 : decode cL_law 333 = .ok (.iload_n 3, 1) := by decide +kernel
theorem dL_law_334 : decode cL_law 334 = .ok (.iconst 1, 1) := by decide +kernel
theorem dL_law_335 : decode cL_law 335 = .ok (.iadd, 1) := by decide +kernel
theorem dL_law_336 : decode cL_law 336 = .ok (.iaload, 1) := by decide +kernel
theorem dL_law_337 : decode cL_law 337 = .ok (.aload_n 0, 1) := by decide +kernel
theorem dL_law_338 : decode cL_law 338 = .ok (.iload_n 3, 1) := by decide +kernel
theorem dL_law_339 : decode cL_law 339 = .ok (.iconst 2, 1) := by decide +kernel
theorem dL_law_340 : decode cL_law 340 = .ok (.iadd, 1) := by decide +kernel
theorem dL_law_341 : decode cL_law 341 = .ok (.iaload, 1) := by decide +kernel
theorem dL_law_342 : decode cL_law 342 = .ok (.aload_n 0, 1) := by decide +kernel
theorem dL_law_343 : decode cL_law 343 = .ok (.iload_n 3, 1) := by decide +kernel
theorem dL_law_344 : decode cL_law 344 = .ok (.iconst 3, 1) := by decide +kernel
theorem dL_law_345 : decode cL_law 345 = .ok (.iadd, 1) := by decide +kernel
theorem dL_law_346 : decode cL_law 346 = .ok (.iaload, 1) := by decide +kernel
theorem dL_law_347 : decode cL_law 347 = .ok (.aload_n 0, 1) := by decide +kernel
theorem dL_law_348 : decode cL_law 348 = .ok (.iload_n 3, 1) := by decide +kernel
theorem dL_law_349 : decode cL_law 349 = .ok (.iconst 4, 1) := by decide +kernel
theorem dL_law_350 : decode cL_law 350 = .ok (.iadd, 1) := by decide +kernel
theorem dL_law_351 : decode cL_law 351 = .ok (.iaload, 1) := by decide +kernel
theorem dL_law_352 : decode cL_law 352 = .ok (.aload_n 0, 1) := by decide +kernel
theorem dL_law_353 : decode cL_law 353 = .ok (.iload_n 3, 1) := by decide +kernel
theorem dL_law_354 : decode cL_law 354 = .ok (.iconst 5, 1) := by decide +kernel
theorem dL_law_355 : decode cL_law 355 = .ok (.iadd, 1) := by decide +kernel
theorem dL_law_356 : decode cL_law 356 = .ok (.iaload, 1) := by decide +kernel
theorem dL_law_357 : decode cL_law 357 = .ok (.invokevirtual 36, 3) := by decide +kernel
theorem dL_law_360 : decode cL_law 360 = .ok (.if_icmp .eq 548, 3) := by decide +kernel
theorem dL_law_363 : decode cL_law 363 = .ok (.iconst 0, 1) := by decide +kernel
theorem dL_law_364 : decode cL_law 364 = .ok (.ireturn, 1) := by decide +kernel
theorem dL_law_365 : decode cL_law 365 = .ok (.aload_n 1, 1) := by decide +kernel
theorem dL_law_366 : decode cL_law 366 = .ok (.aload_n 0, 1) := by decide +kernel
theorem dL_law_367 : decode cL_law 367 = .ok (.iload_n 3, 1) := by decide +kernel
theorem dL_law_368 : decode cL_law 368 = .ok (.iconst 1, 1) := by decide +kernel
theorem dL_law_369 : decode cL_law 369 = .ok (.iadd, 1) := by decide +kernel
theorem dL_law_370 : decode cL_law 370 = .ok (.iaload, 1) := by decide +kernel
theorem dL_law_371 : decode cL_law 371 = .ok (.invokevirtual 37, 3) := by decide +kernel
theorem dL_law_374 : decode cL_law 374 = .ok (.aload_n 2, 1) := by decide +kernel
theorem dL_law_375 : decode cL_law 375 = .ok (.aload_n 0, 1) := by decide +kernel
theorem dL_law_376 : decode cL_law 376 = .ok (.iload_n 3, 1) := by decide +kernel
theorem dL_law_377 : decode cL_law 377 = .ok (.iconst 1, 1) := by decide +kernel
theorem dL_law_378 : decode cL_law 378 = .ok (.iadd, 1) := by decide +kernel
theorem dL_law_379 : decode cL_law 379 = .ok (.iaload, 1) := by decide +kernel
theorem dL_law_380 : decode cL_law 380 = .ok (.invokevirtual 40, 3) := by decide +kernel
theorem dL_law_383 : decode cL_law 383 = .ok (.if_icmp .eq 525, 3) := by decide +kernel
theorem dL_law_386 : decode cL_law 386 = .ok (.iconst 0, 1) := by decide +kernel
theorem dL_law_387 : decode cL_law 387 = .ok (.ireturn, 1) := by decide +kernel
theorem dL_law_388 : decode cL_law 388 = .ok (.aload_n 1, 1) := by decide +kernel
theorem dL_law_389 : decode cL_law 389 = .ok (.invokevirtual 41, 3) := by decide +kernel
theorem dL_law_392 : decode cL_law 392 = .ok (.aload_n 2, 1) := by decide +kernel
theorem dL_law_393 : decode cL_law 393 = .ok (.invokevirtual 45, 3) := by decide +kernel
theorem dL_law_396 : decode cL_law 396 = .ok (.if_icmp .eq 512, 3) := by decide +kernel
theorem dL_law_399 : decode cL_law 399 = .ok (.iconst 0, 1) := by decide +kernel
theorem dL_law_400 : decode cL_law 400 = .ok (.ireturn, 1) := by decide +kernel
theorem dL_law_401 : decode cL_law 401 = .ok (.aload_n 1, 1) := by decide +kernel
theorem dL_law_402 : decode cL_law 402 = .ok (.invokevirtual 46, 3) := by decide +kernel
theorem dL_law_405 : decode cL_law 405 = .ok (.aload_n 2, 1) := by decide +kernel
theorem dL_law_406 : decode cL_law 406 = .ok (.invokevirtual 49, 3) := by decide +kernel
theorem dL_law_409 : decode cL_law 409 = .ok (.if_icmp .eq 499, 3) := by decide +kernel
theorem dL_law_412 : decode cL_law 412 = .ok (.iconst 0, 1) := by decide +kernel
theorem dL_law_413 : decode cL_law 413 = .ok (.ireturn, 1) := by decide +kernel
theorem dL_law_414 : decode cL_law 414 = .ok (.aload_n 1, 1) := by decide +kernel
theorem dL_law_415 : decode cL_law 415 = .ok (.aload_n 0, 1) := by decide +kernel
theorem dL_law_416 : decode cL_law 416 = .ok (.iload_n 3, 1) := by decide +kernel
theorem dL_law_417 : decode cL_law 417 = .ok (.iconst 1, 1) := by decide +kernel
theorem dL_law_418 : decode cL_law 418 = .ok (.iadd, 1) := by decide +kernel
theorem dL_law_419 : decode cL_law 419 = .ok (.iaload, 1) := by decide +kernel
theorem dL_law_420 : decode cL_law 420 = .ok (.aload_n 0, 1) := by decide +kernel
theorem dL_law_421 : decode cL_law 421 = .ok (.iload_n 3, 1) := by decide +kernel
theorem dL_law_422 : decode cL_law 422 = .ok (.iconst 2, 1) := by decide +kernel
theorem dL_law_423 : decode cL_law 423 = .ok (.iadd, 1) := by decide +kernel
theorem dL_law_424 : decode cL_law 424 = .ok (.iaload, 1) := by decide +kernel
theorem dL_law_425 : decode cL_law 425 = .ok (.invokevirtual 50, 3) := by decide +kernel
theorem dL_law_428 : decode cL_law 428 = .ok (.aload_n 2, 1) := by decide +kernel
theorem dL_law_429 : decode cL_law 429 = .ok (.aload_n 0, 1) := by decide +kernel
theorem dL_law_430 : decode cL_law 430 = .ok (.iload_n 3, 1) := by decide +kernel
theorem dL_law_431 : decode cL_law 431 = .ok (.iconst 1, 1) := by decide +kernel
theorem dL_law_432 : decode cL_law 432 = .ok (.iadd, 1) := by decide +kernel
theorem dL_law_433 : decode cL_law 433 = .ok (.iaload, 1) := by decide +kernel
theorem dL_law_434 : decode cL_law 434 = .ok (.aload_n 0, 1) := by decide +kernel
theorem dL_law_435 : decode cL_law 435 = .ok (.iload_n 3, 1) := by decide +kernel
theorem dL_law_436 : decode cL_law 436 = .ok (.iconst 2, 1) := by decide +kernel
theorem dL_law_437 : decode cL_law 437 = .ok (.iadd, 1) := by decide +kernel
theorem dL_law_438 : decode cL_law 438 = .ok (.iaload, 1) := by decide +kernel
theorem dL_law_439 : decode cL_law 439 = .ok (.invokevirtual 53, 3) := by decide +kernel
theorem dL_law_442 : decode cL_law 442 = .ok (.if_icmp .eq 466, 3) := by decide +kernel
theorem dL_law_445 : decode cL_law 445 = .ok (.iconst 0, 1) := by decide +kernel
theorem dL_law_446 : decode cL_law 446 = .ok (.ireturn, 1) := by decide +kernel
theorem dL_law_447 : decode cL_law 447 = .ok (.aload_n 1, 1) := by decide +kernel
theorem dL_law_448 : decode cL_law 448 = .ok (.aload_n 0, 1) := by decide +kernel
theorem dL_law_449 : decode cL_law 449 = .ok (.iload_n 3, 1) := by decide +kernel
theorem dL_law_450 : decode cL_law 450 = .ok (.iconst 1, 1) := by decide +kernel
theorem dL_law_451 : decode cL_law 451 = .ok (.iadd, 1) := by decide +kernel
theorem dL_law_452 : decode cL_law 452 = .ok (.iaload, 1) := by decide +kernel
theorem dL_law_453 : decode cL_law 453 = .ok (.aload_n 0, 1) := by decide +kernel
theorem dL_law_454 : decode cL_law 454 = .ok (.iload_n 3, 1) := by decide +kernel
theorem dL_law_455 : decode cL_law 455 = .ok (.iconst 2, 1) := by decide +kernel
theorem dL_law_456 : decode cL_law 456 = .ok (.iadd, 1) := by decide +kernel
theorem dL_law_457 : decode cL_law 457 = .ok (.iaload, 1) := by decide +kernel
theorem dL_law_458 : decode cL_law 458 = .ok (.invokevirtual 54, 3) := by decide +kernel
theorem dL_law_461 : decode cL_law 461 = .ok (.aload_n 2, 1) := by decide +kernel
theorem dL_law_462 : decode cL_law 462 = .ok (.aload_n 0, 1) := by decide +kernel
theorem dL_law_463 : decode cL_law 463 = .ok (.iload_n 3, 1) := by decide +kernel
theorem dL_law_464 : decode cL_law 464 = .ok (.iconst 1, 1) := by decide +kernel
theorem dL_law_465 : decode cL_law 465 = .ok (.iadd, 1) := by decide +kernel
theorem dL_law_466 : decode cL_law 466 = .ok (.iaload, 1) := by decide +kernel
theorem dL_law_467 : decode cL_law 467 = .ok (.aload_n 0, 1) := by decide +kernel
theorem dL_law_468 : decode cL_law 468 = .ok (.iload_n 3, 1) := by decide +kernel
theorem dL_law_469 : decode cL_law 469 = .ok (.iconst 2, 1) := by decide +kernel
theorem dL_law_470 : decode cL_law 470 = .ok (.iadd, 1) := by decide +kernel
theorem dL_law_471 : decode cL_law 471 = .ok (.iaload, 1) := by decide +kernel
theorem dL_law_472 : decode cL_law 472 = .ok (.invokevirtual 57, 3) := by decide +kernel
theorem dL_law_475 : decode cL_law 475 = .ok (.if_icmp .eq 433, 3) := by decide +kernel
theorem dL_law_478 : decode cL_law 478 = .ok (.iconst 0, 1) := by decide +kernel
theorem dL_law_479 : decode cL_law 479 = .ok (.ireturn, 1) := by decide +kernel
theorem dL_law_480 : decode cL_law 480 = .ok (.aload_n 1, 1) := by decide +kernel
theorem dL_law_481 : decode cL_law 481 = .ok (.aload_n 0, 1) := by decide +kernel
theorem dL_law_482 : decode cL_law 482 = .ok (.iload_n 3, 1) := by decide +kernel
theorem dL_law_483 : decode cL_law 483 = .ok (.iconst 1, 1) := by decide +kernel
theorem dL_law_484 : decode cL_law 484 = .ok (.iadd, 1) := by decide +kernel
theorem dL_law_485 : decode cL_law 485 = .ok (.iaload, 1) := by decide +kernel
theorem dL_law_486 : decode cL_law 486 = .ok (.invokevirtual 58, 3) := by decide +kernel
theorem dL_law_489 : decode cL_law 489 = .ok (.aload_n 2, 1) := by decide +kernel
theorem dL_law_490 : decode cL_law 490 = .ok (.aload_n 0, 1) := by decide +kernel
theorem dL_law_491 : decode cL_law 491 = .ok (.iload_n 3, 1) := by decide +kernel
theorem dL_law_492 : decode cL_law 492 = .ok (.iconst 1, 1) := by decide +kernel
theorem dL_law_493 : decode cL_law 493 = .ok (.iadd, 1) := by decide +kernel
theorem dL_law_494 : decode cL_law 494 = .ok (.iaload, 1) := by decide +kernel
theorem dL_law_495 : decode cL_law 495 = .ok (.invokevirtual 61, 3) := by decide +kernel
theorem dL_law_498 : decode cL_law 498 = .ok (.if_icmp .eq 410, 3) := by decide +kernel
theorem dL_law_501 : decode cL_law 501 = .ok (.iconst 0, 1) := by decide +kernel
theorem dL_law_502 : decode cL_law 502 = .ok (.ireturn, 1) := by decide +kernel
theorem dL_law_503 : decode cL_law 503 = .ok (.aload_n 1, 1) := by decide +kernel
theorem dL_law_504 : decode cL_law 504 = .ok (.invokevirtual 62, 3) := by decide +kernel
theorem dL_law_507 : decode cL_law 507 = .ok (.aload_n 2, 1) := by decide +kernel
theorem dL_law_508 : decode cL_law 508 = .ok (.invokevirtual 65, 3) := by decide +kernel
theorem dL_law_511 : decode cL_law 511 = .ok (.if_icmp .eq 397, 3) := by decide +kernel
theorem dL_law_514 : decode cL_law 514 = .ok (.iconst 0, 1) := by decide +kernel
theorem dL_law_515 : decode cL_law 515 = .ok (.ireturn, 1) := by decide +kernel
theorem dL_law_516 : decode cL_law 516 = .ok (.aload_n 1, 1) := by decide +kernel
theorem dL_law_517 : decode cL_law 517 = .ok (.aload_n 0, 1) := by decide +kernel
theorem dL_law_518 : decode cL_law 518 = .ok (.iload_n 3, 1) := by decide +kernel
theorem dL_law_519 : decode cL_law 519 = .ok (.iconst 1, 1) := by decide +kernel
theorem dL_law_520 : decode cL_law 520 = .ok (.iadd, 1) := by decide +kernel
theorem dL_law_521 : decode cL_law 521 = .ok (.iaload, 1) := by decide +kernel
theorem dL_law_522 : decode cL_law 522 = .ok (.aload_n 0, 1) := by decide +kernel
theorem dL_law_523 : decode cL_law 523 = .ok (.iload_n 3, 1) := by decide +kernel
theorem dL_law_524 : decode cL_law 524 = .ok (.iconst 2, 1) := by decide +kernel
theorem dL_law_525 : decode cL_law 525 = .ok (.iadd, 1) := by decide +kernel
theorem dL_law_526 : decode cL_law 526 = .ok (.iaload, 1) := by decide +kernel
theorem dL_law_527 : decode cL_law 527 = .ok (.aload_n 0, 1) := by decide +kernel
theorem dL_law_528 : decode cL_law 528 = .ok (.iload_n 3, 1) := by decide +kernel
theorem dL_law_529 : decode cL_law 529 = .ok (.iconst 3, 1) := by decide +kernel
theorem dL_law_530 : decode cL_law 530 = .ok (.iadd, 1) := by decide +kernel
theorem dL_law_531 : decode cL_law 531 = .ok (.iaload, 1) := by decide +kernel
theorem dL_law_532 : decode cL_law 532 = .ok (.ifCond .eq 7, 3) := by decide +kernel
theorem dL_law_535 : decode cL_law 535 = .ok (.iconst 1, 1) := by decide +kernel
theorem dL_law_536 : decode cL_law 536 = .ok (.goto 4, 3) := by decide +kernel
theorem dL_law_539 : decode cL_law 539 = .ok (.iconst 0, 1) := by decide +kernel
theorem dL_law_540 : decode cL_law 540 = .ok (.aload_n 0, 1) := by decide +kernel
theorem dL_law_541 : decode cL_law 541 = .ok (.iload_n 3, 1) := by decide +kernel
theorem dL_law_542 : decode cL_law 542 = .ok (.iconst 4, 1) := by decide +kernel
theorem dL_law_543 : decode cL_law 543 = .ok (.iadd, 1) := by decide +kernel
theorem dL_law_544 : decode cL_law 544 = .ok (.iaload, 1) := by decide +kernel
theorem dL_law_545 : decode cL_law 545 = .ok (.invokevirtual 66, 3) := by decide +kernel
theorem dL_law_548 : decode cL_law 548 = .ok (.aload_n 2, 1) := by decide +kernel
theorem dL_law_549 : decode cL_law 549 = .ok (.aload_n 0, 1) := by decide +kernel
theorem dL_law_550 : decode cL_law 550 = .ok (.iload_n 3, 1) := by decide +kernel
theorem dL_law_551 : decode cL_law 551 = .ok (.iconst 1, 1) := by decide +kernel
theorem dL_law_552 : decode cL_law 552 = .ok (.iadd, 1) := by decide +kernel
theorem dL_law_553 : decode cL_law 553 = .ok (.iaload, 1) := by decide +kernel
theorem dL_law_554 : decode cL_law 554 = .ok (.aload_n 0, 1) := by decide +kernel
theorem dL_law_555 : decode cL_law 555 = .ok (.iload_n 3, 1) := by decide +kernel
theorem dL_law_556 : decode cL_law 556 = .ok (.iconst 2, 1) := by decide +kernel
theorem dL_law_557 : decode cL_law 557 = .ok (.iadd, 1) := by decide +kernel
theorem dL_law_558 : decode cL_law 558 = .ok (.iaload, 1) := by decide +kernel
theorem dL_law_559 : decode cL_law 559 = .ok (.aload_n 0, 1) := by decide +kernel
theorem dL_law_560 : decode cL_law 560 = .ok (.iload_n 3, 1) := by decide +kernel
theorem dL_law_561 : decode cL_law 561 = .ok (.iconst 3, 1) := by decide +kernel
theorem dL_law_562 : decode cL_law 562 = .ok (.iadd, 1) := by decide +kernel
theorem dL_law_563 : decode cL_law 563 = .ok (.iaload, 1) := by decide +kernel
theorem dL_law_564 : decode cL_law 564 = .ok (.ifCond .eq 7, 3) := by decide +kernel
theorem dL_law_567 : decode cL_law 567 = .ok (.iconst 1, 1) := by decide +kernel
theorem dL_law_568 : decode cL_law 568 = .ok (.goto 4, 3) := by decide +kernel
theorem dL_law_571 : decode cL_law 571 = .ok (.iconst 0, 1) := by decide +kernel
theorem dL_law_572 : decode cL_law 572 = .ok (.aload_n 0, 1) := by decide +kernel
theorem dL_law_573 : decode cL_law 573 = .ok (.iload_n 3, 1) := by decide +kernel
theorem dL_law_574 : decode cL_law 574 = .ok (.iconst 4, 1) := by decide +kernel
theorem dL_law_575 : decode cL_law 575 = .ok (.iadd, 1) := by decide +kernel
theorem dL_law_576 : decode cL_law 576 = .ok (.iaload, 1) := by decide +kernel
theorem dL_law_577 : decode cL_law 577 = .ok (.invokevirtual 70, 3) := by decide +kernel
theorem dL_law_580 : decode cL_law 580 = .ok (.if_icmp .eq 328, 3) := by decide +kernel
theorem dL_law_583 : decode cL_law 583 = .ok (.iconst 0, 1) := by decide +kernel
theorem dL_law_584 : decode cL_law 584 = .ok (.ireturn, 1) := by decide +kernel
theorem dL_law_585 : decode cL_law 585 = .ok (.aload_n 1, 1) := by decide +kernel
theorem dL_law_586 : decode cL_law 586 = .ok (.aload_n 0, 1) := by decide +kernel
theorem dL_law_587 : decode cL_law 587 = .ok (.iload_n 3, 1) := by decide +kernel
theorem dL_law_588 : decode cL_law 588 = .ok (.iconst 1, 1) := by decide +kernel
theorem dL_law_589 : decode cL_law 589 = .ok (.iadd, 1) := by decide +kernel
theorem dL_law_590 : decode cL_law 590 = .ok (.iaload, 1) := by decide +kernel
theorem dL_law_591 : decode cL_law 591 = .ok (.invokevirtual 71, 3) := by decide +kernel
theorem dL_law_594 : decode cL_law 594 = .ok (.aload_n 2, 1) := by decide +kernel
theorem dL_law_595 : decode cL_law 595 = .ok (.aload_n 0, 1) := by decide +kernel
theorem dL_law_596 : decode cL_law 596 = .ok (.iload_n 3, 1) := by decide +kernel
theorem dL_law_597 : decode cL_law 597 = .ok (.iconst 1, 1) := by decide +kernel
theorem dL_law_598 : decode cL_law 598 = .ok (.iadd, 1) := by decide +kernel
theorem dL_law_599 : decode cL_law 599 = .ok (.iaload, 1) := by decide +kernel
theorem dL_law_600 : decode cL_law 600 = .ok (.invokevirtual 74, 3) := by decide +kernel
theorem dL_law_603 : decode cL_law 603 = .ok (.if_icmp .eq 305, 3) := by decide +kernel
theorem dL_law_606 : decode cL_law 606 = .ok (.iconst 0, 1) := by decide +kernel
theorem dL_law_607 : decode cL_law 607 = .ok (.ireturn, 1) := by decide +kernel
theorem dL_law_608 : decode cL_law 608 = .ok (.aload_n 1, 1) := by decide +kernel
theorem dL_law_609 : decode cL_law 609 = .ok (.aload_n 0, 1) := by decide +kernel
theorem dL_law_610 : decode cL_law 610 = .ok (.iload_n 3, 1) := by decide +kernel
theorem dL_law_611 : decode cL_law 611 = .ok (.iconst 1, 1) := by decide +kernel
theorem dL_law_612 : decode cL_law 612 = .ok (.iadd, 1) := by decide +kernel
theorem dL_law_613 : decode cL_law 613 = .ok (.iaload, 1) := by decide +kernel
theorem dL_law_614 : decode cL_law 614 = .ok (.aload_n 0, 1) := by decide +kernel
theorem dL_law_615 : decode cL_law 615 = .ok (.iload_n 3, 1) := by decide +kernel
theorem dL_law_616 : decode cL_law 616 = .ok (.iconst 2, 1) := by decide +kernel
theorem dL_law_617 : decode cL_law 617 = .ok (.iadd, 1) := by decide +kernel
theorem dL_law_618 : decode cL_law 618 = .ok (.iaload, 1) := by decide +kernel
theorem dL_law_619 : decode cL_law 619 = .ok (.invokevirtual 75, 3) := by decide +kernel
theorem dL_law_622 : decode cL_law 622 = .ok (.aload_n 2, 1) := by decide +kernel
theorem dL_law_623 : decode cL_law 623 = .ok (.aload_n 0, 1) := by decide +kernel
theorem dL_law_624 : decode cL_law 624 = .ok (.iload_n 3, 1) := by decide +kernel
theorem dL_law_625 : decode cL_law 625 = .ok (.iconst 1, 1) := by decide +kernel
theorem dL_law_626 : decode cL_law 626 = .ok (.iadd, 1) := by decide +kernel
theorem dL_law_627 : decode cL_law 627 = .ok (.iaload, 1) := by decide +kernel
theorem dL_law_628 : decode cL_law 628 = .ok (.aload_n 0, 1) := by decide +kernel
theorem dL_law_629 : decode cL_law 629 = .ok (.iload_n 3, 1) := by decide +kernel
theorem dL_law_630 : decode cL_law 630 = .ok (.iconst 2, 1) := by decide +kernel
theorem dL_law_631 : decode cL_law 631 = .ok (.iadd, 1) := by decide +kernel
theorem dL_law_632 : decode cL_law 632 = .ok (.iaload, 1) := by decide +kernel
theorem dL_law_633 : decode cL_law 633 = .ok (.invokevirtual 78, 3) := by decide +kernel
theorem dL_law_636 : decode cL_law 636 = .ok (.if_icmp .eq 272, 3) := by decide +kernel
theorem dL_law_639 : decode cL_law 639 = .ok (.iconst 0, 1) := by decide +kernel
theorem dL_law_640 : decode cL_law 640 = .ok (.ireturn, 1) := by decide +kernel
theorem dL_law_641 : decode cL_law 641 = .ok (.aload_n 1, 1) := by decide +kernel
theorem dL_law_642 : decode cL_law 642 = .ok (.aload_n 0, 1) := by decide +kernel
theorem dL_law_643 : decode cL_law 643 = .ok (.iload_n 3, 1) := by decide +kernel
theorem dL_law_644 : decode cL_law 644 = .ok (.iconst 1, 1) := by decide +kernel
theorem dL_law_645 : decode cL_law 645 = .ok (.iadd, 1) := by decide +kernel
theorem dL_law_646 : decode cL_law 646 = .ok (.iaload, 1) := by decide +kernel
theorem dL_law_647 : decode cL_law 647 = .ok (.aload_n 0, 1) := by decide +kernel
theorem dL_law_648 : decode cL_law 648 = .ok (.iload_n 3, 1) := by decide +kernel
theorem dL_law_649 : decode cL_law 649 = .ok (.iconst 2, 1) := by decide +kernel
theorem dL_law_650 : decode cL_law 650 = .ok (.iadd, 1) := by decide +kernel
theorem dL_law_651 : decode cL_law 651 = .ok (.iaload, 1) := by decide +kernel
theorem dL_law_652 : decode cL_law 652 = .ok (.invokevirtual 79, 3) := by decide +kernel
theorem dL_law_655 : decode cL_law 655 = .ok (.aload_n 2, 1) := by decide +kernel
theorem dL_law_656 : decode cL_law 656 = .ok (.aload_n 0, 1) := by decide +kernel
theorem dL_law_657 : decode cL_law 657 = .ok (.iload_n 3, 1) := by decide +kernel
theorem dL_law_658 : decode cL_law 658 = .ok (.iconst 1, 1) := by decide +kernel
theorem dL_law_659 : decode cL_law 659 = .ok (.iadd, 1) := by decide +kernel
theorem dL_law_660 : decode cL_law 660 = .ok (.iaload, 1) := by decide +kernel
theorem dL_law_661 : decode cL_law 661 = .ok (.aload_n 0, 1) := by decide +kernel
theorem dL_law_662 : decode cL_law 662 = .ok (.iload_n 3, 1) := by decide +kernel
theorem dL_law_663 : decode cL_law 663 = .ok (.iconst 2, 1) := by decide +kernel
theorem dL_law_664 : decode cL_law 664 = .ok (.iadd, 1) := by decide +kernel
theorem dL_law_665 : decode cL_law 665 = .ok (.iaload, 1) := by decide +kernel
theorem dL_law_666 : decode cL_law 666 = .ok (.invokevirtual 82, 3) := by decide +kernel
theorem dL_law_669 : decode cL_law 669 = .ok (.if_icmp .eq 239, 3) := by decide +kernel
theorem dL_law_672 : decode cL_law 672 = .ok (.iconst 0, 1) := by decide +kernel
theorem dL_law_673 : decode cL_law 673 = .ok (.ireturn, 1) := by decide +kernel
theorem dL_law_674 : decode cL_law 674 = .ok (.aload_n 1, 1) := by decide +kernel
theorem dL_law_675 : decode cL_law 675 = .ok (.aload_n 0, 1) := by decide +kernel
theorem dL_law_676 : decode cL_law 676 = .ok (.iload_n 3, 1) := by decide +kernel
theorem dL_law_677 : decode cL_law 677 = .ok (.iconst 1, 1) := by decide +kernel
theorem dL_law_678 : decode cL_law 678 = .ok (.iadd, 1) := by decide +kernel
theorem dL_law_679 : decode cL_law 679 = .ok (.iaload, 1) := by decide +kernel
theorem dL_law_680 : decode cL_law 680 = .ok (.aload_n 0, 1) := by decide +kernel
theorem dL_law_681 : decode cL_law 681 = .ok (.iload_n 3, 1) := by decide +kernel
theorem dL_law_682 : decode cL_law 682 = .ok (.iconst 2, 1) := by decide +kernel
theorem dL_law_683 : decode cL_law 683 = .ok (.iadd, 1) := by decide +kernel
theorem dL_law_684 : decode cL_law 684 = .ok (.iaload, 1) := by decide +kernel
theorem dL_law_685 : decode cL_law 685 = .ok (.invokevirtual 83, 3) := by decide +kernel
theorem dL_law_688 : decode cL_law 688 = .ok (.aload_n 2, 1) := by decide +kernel
theorem dL_law_689 : decode cL_law 689 = .ok (.aload_n 0, 1) := by decide +kernel
theorem dL_law_690 : decode cL_law 690 = .ok (.iload_n 3, 1) := by decide +kernel
theorem dL_law_691 : decode cL_law 691 = .ok (.iconst 1, 1) := by decide +kernel
theorem dL_law_692 : decode cL_law 692 = .ok (.iadd, 1) := by decide +kernel
theorem dL_law_693 : decode cL_law 693 = .ok (.iaload, 1) := by decide +kernel
theorem dL_law_694 : decode cL_law 694 = .ok (.aload_n 0, 1) := by decide +kernel
theorem dL_law_695 : decode cL_law 695 = .ok (.iload_n 3, 1) := by decide +kernel
theorem dL_law_696 : decode cL_law 696 = .ok (.iconst 2, 1) := by decide +kernel
theorem dL_law_697 : decode cL_law 697 = .ok (.iadd, 1) := by decide +kernel
theorem dL_law_698 : decode cL_law 698 = .ok (.iaload, 1) := by decide +kernel
theorem dL_law_699 : decode cL_law 699 = .ok (.invokevirtual 86, 3) := by decide +kernel
theorem dL_law_702 : decode cL_law 702 = .ok (.if_icmp .eq 206, 3) := by decide +kernel
theorem dL_law_705 : decode cL_law 705 = .ok (.iconst 0, 1) := by decide +kernel
theorem dL_law_706 : decode cL_law 706 = .ok (.ireturn, 1) := by decide +kernel
theorem dL_law_707 : decode cL_law 707 = .ok (.aload_n 1, 1) := by decide +kernel
theorem dL_law_708 : decode cL_law 708 = .ok (.aload_n 0, 1) := by decide +kernel
theorem dL_law_709 : decode cL_law 709 = .ok (.iload_n 3, 1) := by decide +kernel
theorem dL_law_710 : decode cL_law 710 = .ok (.iconst 1, 1) := by decide +kernel
theorem dL_law_711 : decode cL_law 711 = .ok (.iadd, 1) := by decide +kernel
theorem dL_law_712 : decode cL_law 712 = .ok (.iaload, 1) := by decide +kernel
theorem dL_law_713 : decode cL_law 713 = .ok (.invokevirtual 87, 3) := by decide +kernel
theorem dL_law_716 : decode cL_law 716 = .ok (.aload_n 2, 1) := by decide +kernel
theorem dL_law_717 : decode cL_law 717 = .ok (.aload_n 0, 1) := by decide +kernel
theorem dL_law_718 : decode cL_law 718 = .ok (.iload_n 3, 1) := by decide +kernel
theorem dL_law_719 : decode cL_law 719 = .ok (.iconst 1, 1) := by decide +kernel
theorem dL_law_720 : decode cL_law 720 = .ok (.iadd, 1) := by decide +kernel
theorem dL_law_721 : decode cL_law 721 = .ok (.iaload, 1) := by decide +kernel
theorem dL_law_722 : decode cL_law 722 = .ok (.invokevirtual 90, 3) := by decide +kernel
theorem dL_law_725 : decode cL_law 725 = .ok (.if_icmp .eq 183, 3) := by decide +kernel
theorem dL_law_728 : decode cL_law 728 = .ok (.iconst 0, 1) := by decide +kernel
theorem dL_law_729 : decode cL_law 729 = .ok (.ireturn, 1) := by decide +kernel
theorem dL_law_730 : decode cL_law 730 = .ok (.aload_n 1, 1) := by decide +kernel
theorem dL_law_731 : decode cL_law 731 = .ok (.aload_n 0, 1) := by decide +kernel
theorem dL_law_732 : decode cL_law 732 = .ok (.iload_n 3, 1) := by decide +kernel
theorem dL_law_733 : decode cL_law 733 = .ok (.iconst 1, 1) := by decide +kernel
theorem dL_law_734 : decode cL_law 734 = .ok (.iadd, 1) := by decide +kernel
theorem dL_law_735 : decode cL_law 735 = .ok (.iaload, 1) := by decide +kernel
theorem dL_law_736 : decode cL_law 736 = .ok (.invokevirtual 91, 3) := by decide +kernel
theorem dL_law_739 : decode cL_law 739 = .ok (.aload_n 2, 1) := by decide +kernel
theorem dL_law_740 : decode cL_law 740 = .ok (.aload_n 0, 1) := by decide +kernel
theorem dL_law_741 : decode cL_law 741 = .ok (.iload_n 3, 1) := by decide +kernel
theorem dL_law_742 : decode cL_law 742 = .ok (.iconst 1, 1) := by decide +kernel
theorem dL_law_743 : decode cL_law 743 = .ok (.iadd, 1) := by decide +kernel
theorem dL_law_744 : decode cL_law 744 = .ok (.iaload, 1) := by decide +kernel
theorem dL_law_745 : decode cL_law 745 = .ok (.invokevirtual 94, 3) := by decide +kernel
theorem dL_law_748 : decode cL_law 748 = .ok (.if_icmp .eq 160, 3) := by decide +kernel
theorem dL_law_751 : decode cL_law 751 = .ok (.iconst 0, 1) := by decide +kernel
theorem dL_law_752 : decode cL_law 752 = .ok (.ireturn, 1) := by decide +kernel
theorem dL_law_753 : decode cL_law 753 = .ok (.aload_n 1, 1) := by decide +kernel
theorem dL_law_754 : decode cL_law 754 = .ok (.aload_n 0, 1) := by decide +kernel
theorem dL_law_755 : decode cL_law 755 = .ok (.iload_n 3, 1) := by decide +kernel
theorem dL_law_756 : decode cL_law 756 = .ok (.iconst 1, 1) := by decide +kernel
theorem dL_law_757 : decode cL_law 757 = .ok (.iadd, 1) := by decide +kernel
theorem dL_law_758 : decode cL_law 758 = .ok (.iaload, 1) := by decide +kernel
theorem dL_law_759 : decode cL_law 759 = .ok (.invokevirtual 95, 3) := by decide +kernel
theorem dL_law_762 : decode cL_law 762 = .ok (.aload_n 2, 1) := by decide +kernel
theorem dL_law_763 : decode cL_law 763 = .ok (.aload_n 0, 1) := by decide +kernel
theorem dL_law_764 : decode cL_law 764 = .ok (.iload_n 3, 1) := by decide +kernel
theorem dL_law_765 : decode cL_law 765 = .ok (.iconst 1, 1) := by decide +kernel
theorem dL_law_766 : decode cL_law 766 = .ok (.iadd, 1) := by decide +kernel
theorem dL_law_767 : decode cL_law 767 = .ok (.iaload, 1) := by decide +kernel
theorem dL_law_768 : decode cL_law 768 = .ok (.invokevirtual 98, 3) := by decide +kernel
theorem dL_law_771 : decode cL_law 771 = .ok (.if_icmp .eq 137, 3) := by decide +kernel
theorem dL_law_774 : decode cL_law 774 = .ok (.iconst 0, 1) := by decide +kernel
theorem dL_law_775 : decode cL_law 775 = .ok (.ireturn, 1) := by decide +kernel
theorem dL_law_776 : decode cL_law 776 = .ok (.aload_n 1, 1) := by decide +kernel
theorem dL_law_777 : decode cL_law 777 = .ok (.aload_n 0, 1) := by decide +kernel
theorem dL_law_778 : decode cL_law 778 = .ok (.iload_n 3, 1) := by decide +kernel
theorem dL_law_779 : decode cL_law 779 = .ok (.iconst 1, 1) := by decide +kernel
theorem dL_law_780 : decode cL_law 780 = .ok (.iadd, 1) := by decide +kernel
theorem dL_law_781 : decode cL_law 781 = .ok (.iaload, 1) := by decide +kernel
theorem dL_law_782 : decode cL_law 782 = .ok (.aload_n 0, 1) := by decide +kernel
theorem dL_law_783 : decode cL_law 783 = .ok (.iload_n 3, 1) := by decide +kernel
theorem dL_law_784 : decode cL_law 784 = .ok (.iconst 2, 1) := by decide +kernel
theorem dL_law_785 : decode cL_law 785 = .ok (.iadd, 1) := by decide +kernel
theorem dL_law_786 : decode cL_law 786 = .ok (.iaload, 1) := by decide +kernel
theorem dL_law_787 : decode cL_law 787 = .ok (.aload_n 0, 1) := by decide +kernel
theorem dL_law_788 : decode cL_law 788 = .ok (.iload_n 3, 1) := by decide +kernel
theorem dL_law_789 : decode cL_law 789 = .ok (.iconst 3, 1) := by decide +kernel
theorem dL_law_790 : decode cL_law 790 = .ok (.iadd, 1) := by decide +kernel
theorem dL_law_791 : decode cL_law 791 = .ok (.iaload, 1) := by decide +kernel
theorem dL_law_792 : decode cL_law 792 = .ok (.aload_n 0, 1) := by decide +kernel
theorem dL_law_793 : decode cL_law 793 = .ok (.iload_n 3, 1) := by decide +kernel
theorem dL_law_794 : decode cL_law 794 = .ok (.iconst 4, 1) := by decide +kernel
theorem dL_law_795 : decode cL_law 795 = .ok (.iadd, 1) := by decide +kernel
theorem dL_law_796 : decode cL_law 796 = .ok (.iaload, 1) := by decide +kernel
theorem dL_law_797 : decode cL_law 797 = .ok (.invokevirtual 99, 3) := by decide +kernel
theorem dL_law_800 : decode cL_law 800 = .ok (.aload_n 2, 1) := by decide +kernel
theorem dL_law_801 : decode cL_law 801 = .ok (.aload_n 0, 1) := by decide +kernel
theorem dL_law_802 : decode cL_law 802 = .ok (.iload_n 3, 1) := by decide +kernel
theorem dL_law_803 : decode cL_law 803 = .ok (.iconst 1, 1) := by decide +kernel
theorem dL_law_804 : decode cL_law 804 = .ok (.iadd, 1) := by decide +kernel
theorem dL_law_805 : decode cL_law 805 = .ok (.iaload, 1) := by decide +kernel
theorem dL_law_806 : decode cL_law 806 = .ok (.aload_n 0, 1) := by decide +kernel
theorem dL_law_807 : decode cL_law 807 = .ok (.iload_n 3, 1) := by decide +kernel
theorem dL_law_808 : decode cL_law 808 = .ok (.iconst 2, 1) := by decide +kernel
theorem dL_law_809 : decode cL_law 809 = .ok (.iadd, 1) := by decide +kernel
theorem dL_law_810 : decode cL_law 810 = .ok (.iaload, 1) := by decide +kernel
theorem dL_law_811 : decode cL_law 811 = .ok (.aload_n 0, 1) := by decide +kernel
theorem dL_law_812 : decode cL_law 812 = .ok (.iload_n 3, 1) := by decide +kernel
theorem dL_law_813 : decode cL_law 813 = .ok (.iconst 3, 1) := by decide +kernel
theorem dL_law_814 : decode cL_law 814 = .ok (.iadd, 1) := by decide +kernel
theorem dL_law_815 : decode cL_law 815 = .ok (.iaload, 1) := by decide +kernel
theorem dL_law_816 : decode cL_law 816 = .ok (.aload_n 0, 1) := by decide +kernel
theorem dL_law_817 : decode cL_law 817 = .ok (.iload_n 3, 1) := by decide +kernel
theorem dL_law_818 : decode cL_law 818 = .ok (.iconst 4, 1) := by decide +kernel
theorem dL_law_819 : decode cL_law 819 = .ok (.iadd, 1) := by decide +kernel
theorem dL_law_820 : decode cL_law 820 = .ok (.iaload, 1) := by decide +kernel
theorem dL_law_821 : decode cL_law 821 = .ok (.invokevirtual 103, 3) := by decide +kernel
theorem dL_law_824 : decode cL_law 824 = .ok (.if_icmp .eq 84, 3) := by decide +kernel
theorem dL_law_827 : decode cL_law 827 = .ok (.iconst 0, 1) := by decide +kernel
theorem dL_law_828 : decode cL_law 828 = .ok (.ireturn, 1) := by decide +kernel
theorem dL_law_829 : decode cL_law 829 = .ok (.aload_n 1, 1) := by decide +kernel
theorem dL_law_830 : decode cL_law 830 = .ok (.aload_n 0, 1) := by decide +kernel
theorem dL_law_831 : decode cL_law 831 = .ok (.iload_n 3, 1) := by decide +kernel
theorem dL_law_832 : decode cL_law 832 = .ok (.iconst 1, 1) := by decide +kernel
theorem dL_law_833 : decode cL_law 833 = .ok (.iadd, 1) := by decide +kernel
theorem dL_law_834 : decode cL_law 834 = .ok (.iaload, 1) := by decide +kernel
theorem dL_law_835 : decode cL_law 835 = .ok (.aload_n 0, 1) := by decide +kernel
theorem dL_law_836 : decode cL_law 836 = .ok (.iload_n 3, 1) := by decide +kernel
theorem dL_law_837 : decode cL_law 837 = .ok (.iconst 2, 1) := by decide +kernel
theorem dL_law_838 : decode cL_law 838 = .ok (.iadd, 1) := by decide +kernel
theorem dL_law_839 : decode cL_law 839 = .ok (.iaload, 1) := by decide +kernel
theorem dL_law_840 : decode cL_law 840 = .ok (.aload_n 0, 1) := by decide +kernel
theorem dL_law_841 : decode cL_law 841 = .ok (.iload_n 3, 1) := by decide +kernel
theorem dL_law_842 : decode cL_law 842 = .ok (.iconst 3, 1) := by decide +kernel
theorem dL_law_843 : decode cL_law 843 = .ok (.iadd, 1) := by decide +kernel
theorem dL_law_844 : decode cL_law 844 = .ok (.iaload, 1) := by decide +kernel
theorem dL_law_845 : decode cL_law 845 = .ok (.invokevirtual 104, 3) := by decide +kernel
theorem dL_law_848 : decode cL_law 848 = .ok (.aload_n 2, 1) := by decide +kernel
theorem dL_law_849 : decode cL_law 849 = .ok (.aload_n 0, 1) := by decide +kernel
theorem dL_law_850 : decode cL_law 850 = .ok (.iload_n 3, 1) := by decide +kernel
theorem dL_law_851 : decode cL_law 851 = .ok (.iconst 1, 1) := by decide +kernel
theorem dL_law_852 : decode cL_law 852 = .ok (.iadd, 1) := by decide +kernel
theorem dL_law_853 : decode cL_law 853 = .ok (.iaload, 1) := by decide +kernel
theorem dL_law_854 : decode cL_law 854 = .ok (.aload_n 0, 1) := by decide +kernel
theorem dL_law_855 : decode cL_law 855 = .ok (.iload_n 3, 1) := by decide +kernel
theorem dL_law_856 : decode cL_law 856 = .ok (.iconst 2, 1) := by decide +kernel
theorem dL_law_857 : decode cL_law 857 = .ok (.iadd, 1) := by decide +kernel
theorem dL_law_858 : decode cL_law 858 = .ok (.iaload, 1) := by decide +kernel
theorem dL_law_859 : decode cL_law 859 = .ok (.aload_n 0, 1) := by decide +kernel
theorem dL_law_860 : decode cL_law 860 = .ok (.iload_n 3, 1) := by decide +kernel
theorem dL_law_861 : decode cL_law 861 = .ok (.iconst 3, 1) := by decide +kernel
theorem dL_law_862 : decode cL_law 862 = .ok (.iadd, 1) := by decide +kernel
theorem dL_law_863 : decode cL_law 863 = .ok (.iaload, 1) := by decide +kernel
theorem dL_law_864 : decode cL_law 864 = .ok (.invokevirtual 108, 3) := by decide +kernel
theorem dL_law_867 : decode cL_law 867 = .ok (.if_icmp .eq 41, 3) := by decide +kernel
theorem dL_law_870 : decode cL_law 870 = .ok (.iconst 0, 1) := by decide +kernel
theorem dL_law_871 : decode cL_law 871 = .ok (.ireturn, 1) := by decide +kernel
theorem dL_law_872 : decode cL_law 872 = .ok (.aload_n 1, 1) := by decide +kernel
theorem dL_law_873 : decode cL_law 873 = .ok (.aload_n 0, 1) := by decide +kernel
theorem dL_law_874 : decode cL_law 874 = .ok (.iload_n 3, 1) := by decide +kernel
theorem dL_law_875 : decode cL_law 875 = .ok (.iconst 1, 1) := by decide +kernel
theorem dL_law_876 : decode cL_law 876 = .ok (.iadd, 1) := by decide +kernel
theorem dL_law_877 : decode cL_law 877 = .ok (.iaload, 1) := by decide +kernel
theorem dL_law_878 : decode cL_law 878 = .ok (.invokevirtual 109, 3) := by decide +kernel
theorem dL_law_881 : decode cL_law 881 = .ok (.aload_n 2, 1) := by decide +kernel
theorem dL_law_882 : decode cL_law 882 = .ok (.aload_n 0, 1) := by decide +kernel
theorem dL_law_883 : decode cL_law 883 = .ok (.iload_n 3, 1) := by decide +kernel
theorem dL_law_884 : decode cL_law 884 = .ok (.iconst 1, 1) := by decide +kernel
theorem dL_law_885 : decode cL_law 885 = .ok (.iadd, 1) := by decide +kernel
theorem dL_law_886 : decode cL_law 886 = .ok (.iaload, 1) := by decide +kernel
theorem dL_law_887 : decode cL_law 887 = .ok (.invokevirtual 112, 3) := by decide +kernel
theorem dL_law_890 : decode cL_law 890 = .ok (.if_icmp .eq 18, 3) := by decide +kernel
theorem dL_law_893 : decode cL_law 893 = .ok (.iconst 0, 1) := by decide +kernel
theorem dL_law_894 : decode cL_law 894 = .ok (.ireturn, 1) := by decide +kernel
theorem dL_law_895 : decode cL_law 895 = .ok (.aload_n 1, 1) := by decide +kernel
theorem dL_law_896 : decode cL_law 896 = .ok (.invokevirtual 113, 3) := by decide +kernel
theorem dL_law_899 : decode cL_law 899 = .ok (.aload_n 2, 1) := by decide +kernel
theorem dL_law_900 : decode cL_law 900 = .ok (.invokevirtual 116, 3) := by decide +kernel
theorem dL_law_903 : decode cL_law 903 = .ok (.if_icmp .eq 5, 3) := by decide +kernel
theorem dL_law_906 : decode cL_law 906 = .ok (.iconst 0, 1) := by decide +kernel
theorem dL_law_907 : decode cL_law 907 = .ok (.ireturn, 1) := by decide +kernel
theorem dL_law_908 : decode cL_law 908 = .ok (.iinc 3 6, 3) := by decide +kernel
theorem dL_law_911 : decode cL_law 911 = .ok (.goto (-893), 3) := by decide +kernel
theorem dL_law_914 : decode cL_law 914 = .ok (.iconst 1, 1) := by decide +kernel
theorem dL_law_915 : decode cL_law 915 = .ok (.ireturn, 1) := by decide +kernel
abbrev vwCl : List vw_C := [(RX0, TX0, 4), (RX1, TX1, 8), (RX2, TX2, 7), (RX3, TX3, 3), (RX4, TX4, 4), (RX5, TX5, 8), (RX6, TX6, 4), (RX7, TX7, 7), (RX8, TX8, 7), (RX9, TX9, 10), (RX10, TX10, 51)]
