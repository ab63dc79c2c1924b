theorem dX6_take_0 : decode cX6_take 0 = .ok (.aload_n 0, 1) := by decide +kernel
theorem dX6_take_1 : decode cX6_take 1 = .ok (.aload_n 1, 1) := by decide +kernel
theorem dX6_take_2 : decode cX6_take 2 = .ok (.invokevirtual 55, 3) := by decide +kernel
theorem dX6_take_5 : decode cX6_take 5 = .ok (.ifCond .ne 5, 3) := by decide +kernel
theorem dX6_take_8 : decode cX6_take 8 = .ok (.iconst 0, 1) := by decide +kernel
theorem dX6_take_9 : decode cX6_take 9 = .ok (.ireturn, 1) := by decide +kernel
theorem dX6_take_10 : decode cX6_take 10 = .ok (.aload_n 0, 1) := by decide +kernel
theorem dX6_take_11 : decode cX6_take 11 = .ok (.invokevirtual 29, 3) := by decide +kernel
theorem dX6_take_14 : decode cX6_take 14 = .ok (.iconst 1, 1) := by decide +kernel
theorem dX6_take_15 : decode cX6_take 15 = .ok (.ireturn, 1) := by decide +kernel
set_option maxRecDepth 20000 in
theorem ggX6_number_X6_isAtEnd : GoodIn wsX6_number wsX6_isAtEnd := goodIn_r _ [12, 2, 13, 20, 21, 22, 23] (by decide +kernel) (by decide +kernel)
set_option maxRecDepth 20000 in
theorem gX6_number_X6_isAtEnd : GoodIn wsX6_number (wsV RX6 59 RX6 yX6_isAtEnd wsX6_isAtEnd) := goodIn_app (goodIn_of _ (by decide +kernel)) ggX6_number_X6_isAtEnd
set_option maxRecDepth 20000 in
theorem ggX6_number_X9_at : GoodIn wsX6_number wsX9_at := goodIn_r _ [16] (by decide +kernel) (by decide +kernel)
set_option maxRecDepth 20000 in
theorem gX6_number_X9_at_n32 : GoodIn wsX6_number (wsX9_at) := ggX6_number_X9_at
set_option maxRecDepth 20000 in
theorem ggX6_number_X6_sortOf : GoodIn wsX6_number wsX6_sortOf := goodIn_r _ [19] (by decide +kernel) (by decide +kernel)
set_option maxRecDepth 20000 in
theorem gX6_number_X6_sortOf : GoodIn wsX6_number (va_wsS RX6 36 yX6_sortOf wsX6_sortOf) := goodIn_app (goodIn_of _ (by decide +kernel)) ggX6_number_X6_sortOf
theorem dX6_number_0 : decode cX6_number 0 = .ok (.aload_n 0, 1) := by decide +kernel
theorem dX6_number_1 : decode cX6_number 1 = .ok (.invokevirtual 59, 3) := by decide +kernel
theorem dX6_number_4 : decode cX6_number 4 = .ok (.ifCond .ne 21, 3) := by decide +kernel
theorem dX6_number_7 : decode cX6_number 7 = .ok (.aload_n 0, 1) := by decide +kernel
theorem dX6_number_8 : decode cX6_number 8 = .ok (.getfield 11, 3) := by decide +kernel
theorem dX6_number_11 : decode cX6_number 11 = .ok (.aload_n 0, 1) := by decide +kernel
theorem dX6_number_12 : decode cX6_number 12 = .ok (.getfield 19, 3) := by decide +kernel
theorem dX6_number_15 : decode cX6_number 15 = .ok (.invokestatic 32, 3) := by decide +kernel
theorem dX6_number_18 : decode cX6_number 18 = .ok (.invokestatic 36, 3) := by decide +kernel
theorem dX6_number_21 : decode cX6_number 21 = .ok (.iconst 2, 1) := by decide +kernel
theorem dX6_number_22 : decode cX6_number 22 = .ok (.if_icmp .eq 5, 3) := by decide +kernel
theorem dX6_number_25 : decode cX6_number 25 = .ok (.iconst (-1), 1) := by decide +kernel
theorem dX6_number_26 : decode cX6_number 26 = .ok (.ireturn, 1) := by decide +kernel
theorem dX6_number_27 : decode cX6_number 27 = .ok (.iconst 0, 1) := by decide +kernel
theorem dX6_number_28 : decode cX6_number 28 = .ok (.istore_n 1, 1) := by decide +kernel
theorem dX6_number_29 : decode cX6_number 29 = .ok (.aload_n 0, 1) := by decide +kernel
theorem dX6_number_30 : decode cX6_number 30 = .ok (.getfield 19, 3) := by decide +kernel
theorem dX6_number_33 : decode cX6_number 33 = .ok (.istore_n 2, 1) := by decide +kernel
theorem dX6_number_34 : decode cX6_number 34 = .ok (.iload_n 2, 1) := by decide +kernel
theorem dX6_number_35 : decode cX6_number 35 = .ok (.aload_n 0, 1) := by decide +kernel
theorem dX6_number_36 : decode cX6_number 36 = .ok (.getfield 22, 3) := by decide +kernel
theorem dX6_number_39 : decode cX6_number 39 = .ok (.if_icmp .ge 32, 3) := by decide +kernel
theorem dX6_number_42 : decode cX6_number 42 = .ok (.iload_n 1, 1) := by decide +kernel
theorem dX6_number_43 : decode cX6_number 43 = .ok (.bipush 10, 2) := by decide +kernel
theorem dX6_number_45 : decode cX6_number 45 = .ok (.imul, 1) := by decide +kernel
theorem dX6_number_46 : decode cX6_number 46 = .ok (.aload_n 0, 1) := by decide +kernel
theorem dX6_number_47 : decode cX6_number 47 = .ok (.getfield 11, 3) := by decide +kernel
theorem dX6_number_50 : decode cX6_number 50 = .ok (.iload_n 2, 1) := by decide +kernel
theorem dX6_number_51 : decode cX6_number 51 = .ok (.invokestatic 32, 3) := by decide +kernel
theorem dX6_number_54 : decode cX6_number 54 = .ok (.iadd, 1) := by decide +kernel
theorem dX6_number_55 : decode cX6_number 55 = .ok (.bipush 48, 2) := by decide +kernel
theorem dX6_number_57 : decode cX6_number 57 = .ok (.isub, 1) := by decide +kernel
theorem dX6_number_58 : decode cX6_number 58 = .ok (.sipush 1000, 3) := by decide +kernel
theorem dX6_number_61 : decode cX6_number 61 = .ok (.invokestatic 40, 3) := by decide +kernel
theorem dX6_number_64 : decode cX6_number 64 = .ok (.istore_n 1, 1) := by decide +kernel
theorem dX6_number_65 : decode cX6_number 65 = .ok (.iinc 2 1, 3) := by decide +kernel
theorem dX6_number_68 : decode cX6_number 68 = .ok (.goto (-34), 3) := by decide +kernel
theorem dX6_number_71 : decode cX6_number 71 = .ok (.iload_n 1, 1) := by decide +kernel
theorem dX6_number_72 : decode cX6_number 72 = .ok (.ireturn, 1) := by decide +kernel
set_option maxRecDepth 20000 in
theorem ggX6_takeNumber_X6_number : GoodIn wsX6_takeNumber wsX6_number := goodIn_r _ [5, 6, 7, 8, 9, 10, 11, 12, 13, 14, 15, 4, 16, 17, 18, 19, 20, 21, 22, 23, 30, 31, 32, 33] (by decide +kernel) (by decide +kernel)
set_option maxRecDepth 20000 in
theorem gX6_takeNumber_X6_number : GoodIn wsX6_takeNumber (wsV RX6 63 RX6 yX6_number wsX6_number) := goodIn_app (goodIn_of _ (by decide +kernel)) ggX6_takeNumber_X6_number
set_option maxRecDepth 20000 in
theorem ggX6_takeNumber_X9_isWithin : GoodIn wsX6_takeNumber wsX9_isWithin := goodIn_r _ [25] (by decide +kernel) (by decide +kernel)
set_option maxRecDepth 20000 in
theorem gX6_takeNumber_X9_isWithin_n66 : GoodIn wsX6_takeNumber (wsX9_isWithin) := ggX6_takeNumber_X9_isWithin
set_option maxRecDepth 20000 in
theorem ggX6_takeNumber_X6_next : GoodIn wsX6_takeNumber wsX6_next := goodIn_r _ [29, 8, 7, 17, 6, 9, 10, 11, 12, 18, 19, 20, 21, 22, 4, 23, 30, 31, 32, 33] (by decide +kernel) (by decide +kernel)
set_option maxRecDepth 20000 in
theorem gX6_takeNumber_X6_next : GoodIn wsX6_takeNumber (wsV RX6 29 RX6 yX6_next wsX6_next) := goodIn_app (goodIn_of _ (by decide +kernel)) ggX6_takeNumber_X6_next
theorem dX6_takeNumber_0 : decode cX6_takeNumber 0 = .ok (.aload_n 0, 1) := by decide +kernel
theorem dX6_takeNumber_1 : decode cX6_takeNumber 1 = .ok (.invokevirtual 63, 3) := by decide +kernel
theorem dX6_takeNumber_4 : decode cX6_takeNumber 4 = .ok (.istore_n 3, 1) := by decide +kernel
theorem dX6_takeNumber_5 : decode cX6_takeNumber 5 = .ok (.iload_n 3, 1) := by decide +kernel
theorem dX6_takeNumber_6 : decode cX6_takeNumber 6 = .ok (.iload_n 1, 1) := by decide +kernel
theorem dX6_takeNumber_7 : decode cX6_takeNumber 7 = .ok (.iload_n 2, 1) := by decide +kernel
theorem dX6_takeNumber_8 : decode cX6_takeNumber 8 = .ok (.invokestatic 66, 3) := by decide +kernel
theorem dX6_takeNumber_11 : decode cX6_takeNumber 11 = .ok (.ifCond .ne 5, 3) := by decide +kernel
theorem dX6_takeNumber_14 : decode cX6_takeNumber 14 = .ok (.iconst (-1), 1) := by decide +kernel
theorem dX6_takeNumber_15 : decode cX6_takeNumber 15 = .ok (.ireturn, 1) := by decide +kernel
theorem dX6_takeNumber_16 : decode cX6_takeNumber 16 = .ok (.aload_n 0, 1) := by decide +kernel
theorem dX6_takeNumber_17 : decode cX6_takeNumber 17 = .ok (.invokevirtual 29, 3) := by decide +kernel
theorem dX6_takeNumber_20 : decode cX6_takeNumber 20 = .ok (.iload_n 3, 1) := by decide +kernel
theorem dX6_takeNumber_21 : decode cX6_takeNumber 21 = .ok (.ireturn, 1) := by decide +kernel
theorem dX6_sortOf_0 : decode cX6_sortOf 0 = .ok (.iload_n 0, 1) := by decide +kernel
theorem dX6_sortOf_1 : decode cX6_sortOf 1 = .ok (.bipush 32, 2) := by decide +kernel
theorem dX6_sortOf_3 : decode cX6_sortOf 3 = .ok (.if_icmp .ne 5, 3) := by decide +kernel
theorem dX6_sortOf_6 : decode cX6_sortOf 6 = .ok (.iconst 0, 1) := by decide +kernel
theorem dX6_sortOf_7 : decode cX6_sortOf 7 = .ok (.ireturn, 1) := by decide +kernel
theorem dX6_sortOf_8 : decode cX6_sortOf 8 = .ok (.iload_n 0, 1) := by decide +kernel
theorem dX6_sortOf_9 : decode cX6_sortOf 9 = .ok (.bipush 97, 2) := by decide +kernel
theorem dX6_sortOf_11 : decode cX6_sortOf 11 = .ok (.if_icmp .lt 11, 3) := by decide +kernel
theorem dX6_sortOf_14 : decode cX6_sortOf 14 = .ok (.iload_n 0, 1) := by decide +kernel
theorem dX6_sortOf_15 : decode cX6_sortOf 15 = .ok (.bipush 122, 2) := by decide +kernel
theorem dX6_sortOf_17 : decode cX6_sortOf 17 = .ok (.if_icmp .gt 5, 3) := by decide +kernel
theorem dX6_sortOf_20 : decode cX6_sortOf 20 = .ok (.iconst 1, 1) := by decide +kernel
theorem dX6_sortOf_21 : decode cX6_sortOf 21 = .ok (.ireturn, 1) := by decide +kernel
theorem dX6_sortOf_22 : decode cX6_sortOf 22 = .ok (.iload_n 0, 1) := by decide +kernel
theorem dX6_sortOf_23 : decode cX6_sortOf 23 = .ok (.bipush 48, 2) := by decide +kernel
theorem dX6_sortOf_25 : decode cX6_sortOf 25 = .ok (.if_icmp .lt 13, 3) := by decide +kernel
theorem dX6_sortOf_28 : decode cX6_sortOf 28 = .ok (.iload_n 0, 1) := by decide +kernel
theorem dX6_sortOf_29 : decode cX6_sortOf 29 = .ok (.bipush 57, 2) := by decide +kernel
theorem dX6_sortOf_31 : decode cX6_sortOf 31 = .ok (.if_icmp .gt 7, 3) := by decide +kernel
theorem dX6_sortOf_34 : decode cX6_sortOf 34 = .ok (.iconst 2, 1) := by decide +kernel
theorem dX6_sortOf_35 : decode cX6_sortOf 35 = .ok (.goto 4, 3) := by decide +kernel
theorem dX6_sortOf_38 : decode cX6_sortOf 38 = .ok (.iconst 3, 1) := by decide +kernel
theorem dX6_sortOf_39 : decode cX6_sortOf 39 = .ok (.ireturn, 1) := by decide +kernel
theorem dX7_init_0 : decode cX7_init 0 = .ok (.aload_n 0, 1) := by decide +kernel
theorem dX7_init_1 : decode cX7_init 1 = .ok (.invokespecial 3, 3) := by decide +kernel
theorem dX7_init_4 : decode cX7_init 4 = .ok (.aload_n 0, 1) := by decide +kernel
theorem dX7_init_5 : decode cX7_init 5 = .ok (.bipush 32, 2) := by decide +kernel
theorem dX7_init_7 : decode cX7_init 7 = .ok (.newarray .int, 2) := by decide +kernel
theorem dX7_init_9 : decode cX7_init 9 = .ok (.putfield 11, 3) := by decide +kernel
theorem dX7_init_12 : decode cX7_init 12 = .ok (.aload_n 0, 1) := by decide +kernel
theorem dX7_init_13 : decode cX7_init 13 = .ok (.bipush 32, 2) := by decide +kernel
theorem dX7_init_15 : decode cX7_init 15 = .ok (.newarray .int, 2) := by decide +kernel
theorem dX7_init_17 : decode cX7_init 17 = .ok (.putfield 15, 3) := by decide +kernel
theorem dX7_init_20 : decode cX7_init 20 = .ok (.aload_n 0, 1) := by decide +kernel
theorem dX7_init_21 : decode cX7_init 21 = .ok (.sipush 1024, 3) := by decide +kernel
theorem dX7_init_24 : decode cX7_init 24 = .ok (.newarray .int, 2) := by decide +kernel
theorem dX7_init_26 : decode cX7_init 26 = .ok (.putfield 18, 3) := by decide +kernel
theorem dX7_init_29 : decode cX7_init 29 = .ok (.aload_n 0, 1) := by decide +kernel
theorem dX7_init_30 : decode cX7_init 30 = .ok (.bipush 32, 2) := by decide +kernel
theorem dX7_init_32 : decode cX7_init 32 = .ok (.newarray .int, 2) := by decide +kernel
theorem dX7_init_34 : decode cX7_init 34 = .ok (.putfield 21, 3) := by decide +kernel
theorem dX7_init_37 : decode cX7_init 37 = .ok (.aload_n 0, 1) := by decide +kernel
theorem dX7_init_38 : decode cX7_init 38 = .ok (.iconst (-1), 1) := by decide +kernel
theorem dX7_init_39 : decode cX7_init 39 = .ok (.putfield 24, 3) := by decide +kernel
theorem dX7_init_42 : decode cX7_init 42 = .ok (.aload_n 0, 1) := by decide +kernel
theorem dX7_init_43 : decode cX7_init 43 = .ok (.iconst 3, 1) := by decide +kernel
theorem dX7_init_44 : decode cX7_init 44 = .ok (.putfield 28, 3) := by decide +kernel
theorem dX7_init_47 : decode cX7_init 47 = .ok (.aload_n 0, 1) := by decide +kernel
theorem dX7_init_48 : decode cX7_init 48 = .ok (.ldc 31, 2) := by decide +kernel
theorem dX7_init_50 : decode cX7_init 50 = .ok (.putfield 32, 3) := by decide +kernel
theorem dX7_init_53 : decode cX7_init 53 = .ok (.return_, 1) := by decide +kernel
set_option maxRecDepth 20000 in
theorem ggX7_setTransfer_X9_isWithin : GoodIn wsX7_setTransfer wsX9_isWithin := goodIn_r _ [4] (by decide +kernel) (by decide +kernel)
set_option maxRecDepth 20000 in
theorem gX7_setTransfer_X9_isWithin_n35 : GoodIn wsX7_setTransfer (wsX9_isWithin) := ggX7_setTransfer_X9_isWithin
theorem dX7_setTransfer_0 : decode cX7_setTransfer 0 = .ok (.iload_n 1, 1) := by decide +kernel
theorem dX7_setTransfer_1 : decode cX7_setTransfer 1 = .ok (.iconst 0, 1) := by decide +kernel
theorem dX7_setTransfer_2 : decode cX7_setTransfer 2 = .ok (.bipush 12, 2) := by decide +kernel
theorem dX7_setTransfer_4 : decode cX7_setTransfer 4 = .ok (.invokestatic 35, 3) := by decide +kernel
theorem dX7_setTransfer_7 : decode cX7_setTransfer 7 = .ok (.ifCond .ne 5, 3) := by decide +kernel
theorem dX7_setTransfer_10 : decode cX7_setTransfer 10 = .ok (.iconst (-1), 1) := by decide +kernel
theorem dX7_setTransfer_11 : decode cX7_setTransfer 11 = .ok (.ireturn, 1) := by decide +kernel
theorem dX7_setTransfer_12 : decode cX7_setTransfer 12 = .ok (.aload_n 0, 1) := by decide +kernel
theorem dX7_setTransfer_13 : decode cX7_setTransfer 13 = .ok (.getfield 28, 3) := by decide +kernel
theorem dX7_setTransfer_16 : decode cX7_setTransfer 16 = .ok (.istore_n 2, 1) := by decide +kernel
theorem dX7_setTransfer_17 : decode cX7_setTransfer 17 = .ok (.aload_n 0, 1) := by decide +kernel
theorem dX7_setTransfer_18 : decode cX7_setTransfer 18 = .ok (.iload_n 1, 1) := by decide +kernel
theorem dX7_setTransfer_19 : decode cX7_setTransfer 19 = .ok (.putfield 28, 3) := by decide +kernel
theorem dX7_setTransfer_22 : decode cX7_setTransfer 22 = .ok (.iload_n 2, 1) := by decide +kernel
theorem dX7_setTransfer_23 : decode cX7_setTransfer 23 = .ok (.ireturn, 1) := by decide +kernel
set_option maxRecDepth 20000 in
theorem ggX7_stepOfLatest_X9_at : GoodIn wsX7_stepOfLatest wsX9_at := goodIn_r _ [5] (by decide +kernel) (by decide +kernel)
set_option maxRecDepth 20000 in
theorem gX7_stepOfLatest_X9_at_n39 : GoodIn wsX7_stepOfLatest (wsX9_at) := ggX7_stepOfLatest_X9_at
theorem dX7_stepOfLatest_0 : decode cX7_stepOfLatest 0 = .ok (.iload_n 1, 1) := by decide +kernel
theorem dX7_stepOfLatest_1 : decode cX7_stepOfLatest 1 = .ok (.iconst (-1), 1) := by decide +kernel
theorem dX7_stepOfLatest_2 : decode cX7_stepOfLatest 2 = .ok (.if_icmp .ne 8, 3) := by decide +kernel
theorem dX7_stepOfLatest_5 : decode cX7_stepOfLatest 5 = .ok (.aload_n 0, 1) := by decide +kernel
theorem dX7_stepOfLatest_6 : decode cX7_stepOfLatest 6 = .ok (.getfield 24, 3) := by decide +kernel
theorem dX7_stepOfLatest_9 : decode cX7_stepOfLatest 9 = .ok (.ireturn, 1) := by decide +kernel
theorem dX7_stepOfLatest_10 : decode cX7_stepOfLatest 10 = .ok (.iload_n 1, 1) := by decide +kernel
theorem dX7_stepOfLatest_11 : decode cX7_stepOfLatest 11 = .ok (.ifCond .lt 22, 3) := by decide +kernel
theorem dX7_stepOfLatest_14 : decode cX7_stepOfLatest 14 = .ok (.iload_n 1, 1) := by decide +kernel
theorem dX7_stepOfLatest_15 : decode cX7_stepOfLatest 15 = .ok (.aload_n 0, 1) := by decide +kernel
theorem dX7_stepOfLatest_16 : decode cX7_stepOfLatest 16 = .ok (.getfield 24, 3) := by decide +kernel
theorem dX7_stepOfLatest_19 : decode cX7_stepOfLatest 19 = .ok (.if_icmp .ge 14, 3) := by decide +kernel
theorem dX7_stepOfLatest_22 : decode cX7_stepOfLatest 22 = .ok (.aload_n 0, 1) := by decide +kernel
theorem dX7_stepOfLatest_23 : decode cX7_stepOfLatest 23 = .ok (.getfield 21, 3) := by decide +kernel
theorem dX7_stepOfLatest_26 : decode cX7_stepOfLatest 26 = .ok (.iload_n 1, 1) := by decide +kernel
theorem dX7_stepOfLatest_27 : decode cX7_stepOfLatest 27 = .ok (.invokestatic 39, 3) := by decide +kernel
theorem dX7_stepOfLatest_30 : decode cX7_stepOfLatest 30 = .ok (.goto 4, 3) := by decide +kernel
theorem dX7_stepOfLatest_33 : decode cX7_stepOfLatest 33 = .ok (.iconst (-1), 1) := by decide +kernel
theorem dX7_stepOfLatest_34 : decode cX7_stepOfLatest 34 = .ok (.ireturn, 1) := by decide +kernel
set_option maxRecDepth 20000 in
theorem ggX7_find_X9_isPlace : GoodIn wsX7_find wsX9_isPlace := goodIn_r _ [4, 5, 6, 3, 7] (by decide +kernel) (by decide +kernel)
set_option maxRecDepth 20000 in
theorem gX7_find_X9_isPlace_n43 : GoodIn wsX7_find (wsX9_isPlace) := ggX7_find_X9_isPlace
set_option maxRecDepth 20000 in
theorem ggX7_find_X9_isHour : GoodIn wsX7_find wsX9_isHour := goodIn_r _ [9, 5, 6, 3, 7] (by decide +kernel) (by decide +kernel)
set_option maxRecDepth 20000 in
theorem gX7_find_X9_isHour_n47 : GoodIn wsX7_find (wsX9_isHour) := ggX7_find_X9_isHour
set_option maxRecDepth 20000 in
theorem ggX7_find_X7_fewestSteps : GoodIn wsX7_find wsX7_fewestSteps := goodIn_r _ [14, 15, 16, 1, 17, 18, 19, 20, 21, 3, 22, 23, 24, 25, 13, 26, 27, 28, 29, 30, 31, 32, 33, 34, 35, 36, 37, 38, 39, 40, 41, 42, 43, 44, 45, 46, 47, 48, 49, 50, 51, 52, 53, 54, 55, 56, 57, 58, 59, 60, 61, 62, 63, 64, 65, 66, 67, 68, 69, 70, 71, 72, 73, 74, 75, 76, 77, 78, 79, 122, 123, 124, 125, 126, 127, 128, 129, 130, 131, 132, 133, 134, 135, 136, 137, 138, 139, 140, 141, 142, 143, 144, 145, 146] (by decide +kernel) (by decide +kernel)
set_option maxRecDepth 20000 in
theorem gX7_find_X7_fewestSteps : GoodIn wsX7_find (wsV RX7 50 RX7 yX7_fewestSteps wsX7_fewestSteps) := goodIn_app (goodIn_of _ (by decide +kernel)) ggX7_find_X7_fewestSteps
set_option maxRecDepth 20000 in
theorem ggX7_find_X7_reckonLatest : GoodIn wsX7_find wsX7_reckonLatest := goodIn_r _ [83, 84, 1, 17, 18, 19, 20, 21, 3, 22, 85, 86, 87, 13, 88, 42, 43, 44, 45, 89, 90, 91, 92, 31, 32, 93, 94, 95, 96, 50, 51, 52, 53, 54, 55, 56, 57, 58, 59, 60, 97, 98, 99, 100, 65, 66, 67, 101, 102, 103, 71, 104, 73, 78, 28, 29, 30, 77, 122, 123, 124, 125, 126, 127, 128, 129, 130, 131, 132, 133, 134, 135, 136, 137, 138, 139, 140, 141, 142, 143, 144, 145, 146] (by decide +kernel) (by decide +kernel)
set_option maxRecDepth 20000 in
theorem gX7_find_X7_reckonLatest : GoodIn wsX7_find (wsV RX7 54 RX7 yX7_reckonLatest wsX7_reckonLatest) := goodIn_app (goodIn_of _ (by decide +kernel)) ggX7_find_X7_reckonLatest
set_option maxRecDepth 20000 in
theorem ggX7_find_X7_writeRow : GoodIn wsX7_find wsX7_writeRow := goodIn_r _ [108, 109, 42, 110, 111, 112, 113, 13, 114, 115, 116, 117, 118, 119, 120, 53, 121, 55, 60, 31, 3, 32, 89, 90, 91, 92, 84, 65, 66, 67, 68, 69, 70, 71, 72, 73, 74, 75, 29, 76, 77, 78, 28, 30, 79, 21, 22, 43, 44, 45, 122, 123, 124, 125, 126, 127, 128, 129, 130, 131, 132, 133, 134, 135, 136, 137, 138, 139, 140, 141, 142, 143, 144, 145, 146] (by decide +kernel) (by decide +kernel)
set_option maxRecDepth 20000 in
theorem gX7_find_X7_writeRow : GoodIn wsX7_find (wsV RX7 58 RX7 yX7_writeRow wsX7_writeRow) := goodIn_app (goodIn_of _ (by decide +kernel)) ggX7_find_X7_writeRow
theorem dX7_find_0 : decode cX7_find 0 = .ok (.iload_n 2, 1) := by decide +kernel
theorem dX7_find_1 : decode cX7_find 1 = .ok (.invokestatic 43, 3) := by decide +kernel
theorem dX7_find_4 : decode cX7_find 4 = .ok (.ifCond .eq 18, 3) := by decide +kernel
theorem dX7_find_7 : decode cX7_find 7 = .ok (.iload_n 3, 1) := by decide +kernel
theorem dX7_find_8 : decode cX7_find 8 = .ok (.invokestatic 47, 3) := by decide +kernel
theorem dX7_find_11 : decode cX7_find 11 = .ok (.ifCond .eq 11, 3) := by decide +kernel
theorem dX7_find_14 : decode cX7_find 14 = .ok (.iload 5, 2) := by decide +kernel
theorem dX7_find_16 : decode cX7_find 16 = .ok (.invokestatic 43, 3) := by decide +kernel
theorem dX7_find_19 : decode cX7_find 19 = .ok (.ifCond .ne 5, 3) := by decide +kernel
theorem dX7_find_22 : decode cX7_find 22 = .ok (.iconst (-1), 1) := by decide +kernel
theorem dX7_find_23 : decode cX7_find 23 = .ok (.ireturn, 1) := by decide +kernel
theorem dX7_find_24 : decode cX7_find 24 = .ok (.iconst 2, 1) := by decide +kernel
theorem dX7_find_25 : decode cX7_find 25 = .ok (.iload_n 2, 1) := by decide +kernel
theorem dX7_find_26 : decode cX7_find 26 = .ok (.imul, 1) := by decide +kernel
theorem dX7_find_27 : decode cX7_find 27 = .ok (.iload 4, 2) := by decide +kernel
theorem dX7_find_29 : decode cX7_find 29 = .ok (.ifCond .eq 7, 3) := by decide +kernel
theorem dX7_find_32 : decode cX7_find 32 = .ok (.iconst 1, 1) := by decide +kernel
theorem dX7_find_33 : decode cX7_find 33 = .ok (.goto 4, 3) := by decide +kernel
theorem dX7_find_36 : decode cX7_find 36 = .ok (.iconst 0, 1) := by decide +kernel
theorem dX7_find_37 : decode cX7_find 37 = .ok (.iadd, 1) := by decide +kernel
theorem dX7_find_38 : decode cX7_find 38 = .ok (.istore 6, 2) := by decide +kernel
theorem dX7_find_40 : decode cX7_find 40 = .ok (.aload_n 0, 1) := by decide +kernel
theorem dX7_find_41 : decode cX7_find 41 = .ok (.aload_n 1, 1) := by decide +kernel
theorem dX7_find_42 : decode cX7_find 42 = .ok (.iload 6, 2) := by decide +kernel
theorem dX7_find_44 : decode cX7_find 44 = .ok (.iload_n 3, 1) := by decide +kernel
theorem dX7_find_45 : decode cX7_find 45 = .ok (.iload 5, 2) := by decide +kernel
theorem dX7_find_47 : decode cX7_find 47 = .ok (.invokevirtual 50, 3) := by decide +kernel
theorem dX7_find_50 : decode cX7_find 50 = .ok (.istore 7, 2) := by decide +kernel
theorem dX7_find_52 : decode cX7_find 52 = .ok (.iload 7, 2) := by decide +kernel
theorem dX7_find_54 : decode cX7_find 54 = .ok (.iconst (-1), 1) := by decide +kernel
theorem dX7_find_55 : decode cX7_find 55 = .ok (.if_icmp .ne 6, 3) := by decide +kernel
theorem dX7_find_58 : decode cX7_find 58 = .ok (.bipush (-6), 2) := by decide +kernel
theorem dX7_find_60 : decode cX7_find 60 = .ok (.ireturn, 1) := by decide +kernel
theorem dX7_find_61 : decode cX7_find 61 = .ok (.aload_n 0, 1) := by decide +kernel
theorem dX7_find_62 : decode cX7_find 62 = .ok (.aload_n 1, 1) := by decide +kernel
theorem dX7_find_63 : decode cX7_find 63 = .ok (.iload 5, 2) := by decide +kernel
theorem dX7_find_65 : decode cX7_find 65 = .ok (.iload 7, 2) := by decide +kernel
theorem dX7_find_67 : decode cX7_find 67 = .ok (.invokevirtual 54, 3) := by decide +kernel
theorem dX7_find_70 : decode cX7_find 70 = .ok (.aload_n 0, 1) := by decide +kernel
theorem dX7_find_71 : decode cX7_find 71 = .ok (.aload_n 1, 1) := by decide +kernel
theorem dX7_find_72 : decode cX7_find 72 = .ok (.iload 6, 2) := by decide +kernel
theorem dX7_find_74 : decode cX7_find 74 = .ok (.iload_n 3, 1) := by decide +kernel
theorem dX7_find_75 : decode cX7_find 75 = .ok (.iload 7, 2) := by decide +kernel
theorem dX7_find_77 : decode cX7_find 77 = .ok (.invokevirtual 58, 3) := by decide +kernel
theorem dX7_find_80 : decode cX7_find 80 = .ok (.aload_n 0, 1) := by decide +kernel
theorem dX7_find_81 : decode cX7_find 81 = .ok (.getfield 32, 3) := by decide +kernel
theorem dX7_find_84 : decode cX7_find 84 = .ok (.ireturn, 1) := by decide +kernel
theorem dX7_isNewTrain_0 : decode cX7_isNewTrain 0 = .ok (.iload_n 0, 1) := by decide +kernel
theorem dX7_isNewTrain_1 : decode cX7_isNewTrain 1 = .ok (.iconst 1, 1) := by decide +kernel
theorem dX7_isNewTrain_2 : decode cX7_isNewTrain 2 = .ok (.iand, 1) := by decide +kernel
theorem dX7_isNewTrain_3 : decode cX7_isNewTrain 3 = .ok (.iconst 1, 1) := by decide +kernel
theorem dX7_isNewTrain_4 : decode cX7_isNewTrain 4 = .ok (.if_icmp .ne 7, 3) := by decide +kernel
theorem dX7_isNewTrain_7 : decode cX7_isNewTrain 7 = .ok (.iconst 1, 1) := by decide +kernel
theorem dX7_isNewTrain_8 : decode cX7_isNewTrain 8 = .ok (.goto 4, 3) := by decide +kernel
theorem dX7_isNewTrain_11 : decode cX7_isNewTrain 11 = .ok (.iconst 0, 1) := by decide +kernel
theorem dX7_isNewTrain_12 : decode cX7_isNewTrain 12 = .ok (.ireturn, 1) := by decide +kernel
theorem dX7_otherTrain_0 : decode cX7_otherTrain 0 = .ok (.iload_n 0, 1) := by decide +kernel
theorem dX7_otherTrain_1 : decode cX7_otherTrain 1 = .ok (.iconst 1, 1) := by decide +kernel
theorem dX7_otherTrain_2 : decode cX7_otherTrain 2 = .ok (.ixor, 1) := by decide +kernel
theorem dX7_otherTrain_3 : decode cX7_otherTrain 3 = .ok (.ireturn, 1) := by decide +kernel
set_option maxRecDepth 20000 in
theorem ggX7_standOver_X1_farEnd : GoodIn wsX7_standOver wsX1_farEnd := goodIn_r _ [5, 6, 7, 8, 9, 10, 14, 15, 16, 17, 18, 19, 20, 21] (by decide +kernel) (by decide +kernel)
set_option maxRecDepth 20000 in
theorem gX7_standOver_X1_farEnd : GoodIn wsX7_standOver (wsV RX7 68 RX1 yX1_farEnd wsX1_farEnd) := goodIn_app (goodIn_of _ (by decide +kernel)) ggX7_standOver_X1_farEnd
theorem dX7_standOver_0 : decode cX7_standOver 0 = .ok (.aload_n 0, 1) := by decide +kernel
theorem dX7_standOver_1 : decode cX7_standOver 1 = .ok (.getfield 62, 3) := by decide +kernel
theorem dX7_standOver_4 : decode cX7_standOver 4 = .ok (.iload_n 1, 1) := by decide +kernel
theorem dX7_standOver_5 : decode cX7_standOver 5 = .ok (.iload_n 2, 1) := by decide +kernel
theorem dX7_standOver_6 : decode cX7_standOver 6 = .ok (.iconst 1, 1) := by decide +kernel
theorem dX7_standOver_7 : decode cX7_standOver 7 = .ok (.ishr, 1) := by decide +kernel
theorem dX7_standOver_8 : decode cX7_standOver 8 = .ok (.invokevirtual 68, 3) := by decide +kernel
theorem dX7_standOver_11 : decode cX7_standOver 11 = .ok (.istore_n 3, 1) := by decide +kernel
theorem dX7_standOver_12 : decode cX7_standOver 12 = .ok (.iload_n 3, 1) := by decide +kernel
theorem dX7_standOver_13 : decode cX7_standOver 13 = .ok (.iconst (-1), 1) := by decide +kernel
theorem dX7_standOver_14 : decode cX7_standOver 14 = .ok (.if_icmp .ne 7, 3) := by decide +kernel
theorem dX7_standOver_17 : decode cX7_standOver 17 = .ok (.iconst (-1), 1) := by decide +kernel
theorem dX7_standOver_18 : decode cX7_standOver 18 = .ok (.goto 10, 3) := by decide +kernel
theorem dX7_standOver_21 : decode cX7_standOver 21 = .ok (.iconst 2, 1) := by decide +kernel
theorem dX7_standOver_22 : decode cX7_standOver 22 = .ok (.iload_n 3, 1) := by decide +kernel
theorem dX7_standOver_23 : decode cX7_standOver 23 = .ok (.imul, 1) := by decide +kernel
theorem dX7_standOver_24 : decode cX7_standOver 24 = .ok (.iload_n 2, 1) := by decide +kernel
theorem dX7_standOver_25 : decode cX7_standOver 25 = .ok (.iconst 1, 1) := by decide +kernel
theorem dX7_standOver_26 : decode cX7_standOver 26 = .ok (.iand, 1) := by decide +kernel
theorem dX7_standOver_27 : decode cX7_standOver 27 = .ok (.iadd, 1) := by decide +kernel
theorem dX7_standOver_28 : decode cX7_standOver 28 = .ok (.ireturn, 1) := by decide +kernel
set_option maxRecDepth 20000 in
theorem ggX7_fewestSteps_J7_fill_53178 : GoodIn wsX7_fewestSteps wsJ7_fill_53178 := goodIn_r _ [7] (by decide +kernel) (by decide +kernel)
set_option maxRecDepth 20000 in
theorem gX7_fewestSteps_J7_fill_53178 : GoodIn wsX7_fewestSteps (va_wsS RX7 74 yJ7_fill_53178 wsJ7_fill_53178) := goodIn_app (goodIn_of _ (by decide +kernel)) ggX7_fewestSteps_J7_fill_53178
set_option maxRecDepth 20000 in
theorem ggX7_fewestSteps_X9_put : GoodIn wsX7_fewestSteps wsX9_put := goodIn_r _ [10] (by decide +kernel) (by decide +kernel)
set_option maxRecDepth 20000 in
theorem gX7_fewestSteps_X9_put_n80 : GoodIn wsX7_fewestSteps (wsX9_put) := ggX7_fewestSteps_X9_put
set_option maxRecDepth 20000 in
theorem ggX7_fewestSteps_X7_soonestIn : GoodIn wsX7_fewestSteps wsX7_soonestIn := goodIn_r _ [15, 1, 16, 17, 18, 19, 20, 9, 21, 69, 70, 71, 72, 73, 74, 75] (by decide +kernel) (by decide +kernel)
set_option maxRecDepth 20000 in
theorem gX7_fewestSteps_X7_soonestIn : GoodIn wsX7_fewestSteps (wsV RX7 84 RX7 yX7_soonestIn wsX7_soonestIn) := goodIn_app (goodIn_of _ (by decide +kernel)) ggX7_fewestSteps_X7_soonestIn
set_option maxRecDepth 20000 in
theorem ggX7_fewestSteps_X7_allowOneStepMore : GoodIn wsX7_fewestSteps wsX7_allowOneStepMore := goodIn_r _ [25, 1, 26, 27, 28, 29, 30, 31, 32, 33, 14, 34, 20, 9, 21, 35, 36, 37, 38, 8, 10, 39, 40, 41, 42, 43, 44, 45, 46, 47, 48, 49, 50, 51, 52, 53, 54, 55, 56, 57, 58, 59, 60, 61, 62, 63, 64, 18, 65, 66, 67, 17, 19, 68, 69, 70, 71, 72, 73, 74, 75, 76, 77, 78, 79, 80, 81, 82, 83, 84, 85, 86, 87, 88, 89, 90, 91, 92, 93] (by decide +kernel) (by decide +kernel)
set_option maxRecDepth 20000 in
theorem gX7_fewestSteps_X7_allowOneStepMore : GoodIn wsX7_fewestSteps (wsV RX7 88 RX7 yX7_allowOneStepMore wsX7_allowOneStepMore) := goodIn_app (goodIn_of _ (by decide +kernel)) ggX7_fewestSteps_X7_allowOneStepMore
theorem dX7_fewestSteps_0 : decode cX7_fewestSteps 0 = .ok (.aload_n 0, 1) := by decide +kernel
theorem dX7_fewestSteps_1 : decode cX7_fewestSteps 1 = .ok (.getfield 11, 3) := by decide +kernel
theorem dX7_fewestSteps_4 : decode cX7_fewestSteps 4 = .ok (.ldc 31, 2) := by decide +kernel
theorem dX7_fewestSteps_6 : decode cX7_fewestSteps 6 = .ok (.invokestatic 74, 3) := by decide +kernel
theorem dX7_fewestSteps_9 : decode cX7_fewestSteps 9 = .ok (.aload_n 0, 1) := by decide +kernel
theorem dX7_fewestSteps_10 : decode cX7_fewestSteps 10 = .ok (.getfield 11, 3) := by decide +kernel
theorem dX7_fewestSteps_13 : decode cX7_fewestSteps 13 = .ok (.iload_n 2, 1) := by decide +kernel
theorem dX7_fewestSteps_14 : decode cX7_fewestSteps 14 = .ok (.iload_n 3, 1) := by decide +kernel
theorem dX7_fewestSteps_15 : decode cX7_fewestSteps 15 = .ok (.invokestatic 80, 3) := by decide +kernel
theorem dX7_fewestSteps_18 : decode cX7_fewestSteps 18 = .ok (.aload_n 0, 1) := by decide +kernel
theorem dX7_fewestSteps_19 : decode cX7_fewestSteps 19 = .ok (.aload_n 0, 1) := by decide +kernel
theorem dX7_fewestSteps_20 : decode cX7_fewestSteps 20 = .ok (.iload 4, 2) := by decide +kernel
theorem dX7_fewestSteps_22 : decode cX7_fewestSteps 22 = .ok (.invokevirtual 84, 3) := by decide +kernel
theorem dX7_fewestSteps_25 : decode cX7_fewestSteps 25 = .ok (.putfield 32, 3) := by decide +kernel
theorem dX7_fewestSteps_28 : decode cX7_fewestSteps 28 = .ok (.aload_n 0, 1) := by decide +kernel
theorem dX7_fewestSteps_29 : decode cX7_fewestSteps 29 = .ok (.getfield 32, 3) := by decide +kernel
theorem dX7_fewestSteps_32 : decode cX7_fewestSteps 32 = .ok (.ldc 31, 2) := by decide +kernel
theorem dX7_fewestSteps_34 : decode cX7_fewestSteps 34 = .ok (.if_icmp .ne 7, 3) := by decide +kernel
theorem dX7_fewestSteps_37 : decode cX7_fewestSteps 37 = .ok (.iconst (-1), 1) := by decide +kernel
theorem dX7_fewestSteps_38 : decode cX7_fewestSteps 38 = .ok (.goto 4, 3) := by decide +kernel
theorem dX7_fewestSteps_41 : decode cX7_fewestSteps 41 = .ok (.iconst 0, 1) := by decide +kernel
theorem dX7_fewestSteps_42 : decode cX7_fewestSteps 42 = .ok (.istore 5, 2) := by decide +kernel
theorem dX7_fewestSteps_44 : decode cX7_fewestSteps 44 = .ok (.iconst 1, 1) := by decide +kernel
theorem dX7_fewestSteps_45 : decode cX7_fewestSteps 45 = .ok (.istore 6, 2) := by decide +kernel
theorem dX7_fewestSteps_47 : decode cX7_fewestSteps 47 = .ok (.iconst 1, 1) := by decide +kernel
theorem dX7_fewestSteps_48 : decode cX7_fewestSteps 48 = .ok (.istore 7, 2) := by decide +kernel
theorem dX7_fewestSteps_50 : decode cX7_fewestSteps 50 = .ok (.iload 7, 2) := by decide +kernel
theorem dX7_fewestSteps_52 : decode cX7_fewestSteps 52 = .ok (.bipush 32, 2) := by decide +kernel
theorem dX7_fewestSteps_54 : decode cX7_fewestSteps 54 = .ok (.if_icmp .ge 48, 3) := by decide +kernel
theorem dX7_fewestSteps_57 : decode cX7_fewestSteps 57 = .ok (.iload 6, 2) := by decide +kernel
theorem dX7_fewestSteps_59 : decode cX7_fewestSteps 59 = .ok (.ifCond .eq 43, 3) := by decide +kernel
theorem dX7_fewestSteps_62 : decode cX7_fewestSteps 62 = .ok (.aload_n 0, 1) := by decide +kernel
theorem dX7_fewestSteps_63 : decode cX7_fewestSteps 63 = .ok (.aload_n 1, 1) := by decide +kernel
theorem dX7_fewestSteps_64 : decode cX7_fewestSteps 64 = .ok (.invokevirtual 88, 3) := by decide +kernel
theorem dX7_fewestSteps_67 : decode cX7_fewestSteps 67 = .ok (.istore 6, 2) := by decide +kernel
theorem dX7_fewestSteps_69 : decode cX7_fewestSteps 69 = .ok (.aload_n 0, 1) := by decide +kernel
theorem dX7_fewestSteps_70 : decode cX7_fewestSteps 70 = .ok (.iload 4, 2) := by decide +kernel
theorem dX7_fewestSteps_72 : decode cX7_fewestSteps 72 = .ok (.invokevirtual 84, 3) := by decide +kernel
theorem dX7_fewestSteps_75 : decode cX7_fewestSteps 75 = .ok (.aload_n 0, 1) := by decide +kernel
theorem dX7_fewestSteps_76 : decode cX7_fewestSteps 76 = .ok (.getfield 32, 3) := by decide +kernel
theorem dX7_fewestSteps_79 : decode cX7_fewestSteps 79 = .ok (.if_icmp .ge 17, 3) := by decide +kernel
theorem dX7_fewestSteps_82 : decode cX7_fewestSteps 82 = .ok (.aload_n 0, 1) := by decide +kernel
theorem dX7_fewestSteps_83 : decode cX7_fewestSteps 83 = .ok (.aload_n 0, 1) := by decide +kernel
theorem dX7_fewestSteps_84 : decode cX7_fewestSteps 84 = .ok (.iload 4, 2) := by decide +kernel
theorem dX7_fewestSteps_86 : decode cX7_fewestSteps 86 = .ok (.invokevirtual 84, 3) := by decide +kernel
theorem dX7_fewestSteps_89 : decode cX7_fewestSteps 89 = .ok (.putfield 32, 3) := by decide +kernel
theorem dX7_fewestSteps_92 : decode cX7_fewestSteps 92 = .ok (.iload 7, 2) := by decide +kernel
theorem dX7_fewestSteps_94 : decode cX7_fewestSteps 94 = .ok (.istore 5, 2) := by decide +kernel
theorem dX7_fewestSteps_96 : decode cX7_fewestSteps 96 = .ok (.iinc 7 1, 3) := by decide +kernel
theorem dX7_fewestSteps_99 : decode cX7_fewestSteps 99 = .ok (.goto (-49), 3) := by decide +kernel
theorem dX7_fewestSteps_102 : decode cX7_fewestSteps 102 = .ok (.iload 5, 2) := by decide +kernel
theorem dX7_fewestSteps_104 : decode cX7_fewestSteps 104 = .ok (.ireturn, 1) := by decide +kernel
set_option maxRecDepth 20000 in
theorem ggX7_soonestIn_X9_at : GoodIn wsX7_soonestIn wsX9_at := goodIn_r _ [8] (by decide +kernel) (by decide +kernel)
set_option maxRecDepth 20000 in
theorem gX7_soonestIn_X9_at_n39 : GoodIn wsX7_soonestIn (wsX9_at) := ggX7_soonestIn_X9_at
theorem dX7_soonestIn_0 : decode cX7_soonestIn 0 = .ok (.aload_n 0, 1) := by decide +kernel
theorem dX7_soonestIn_1 : decode cX7_soonestIn 1 = .ok (.getfield 11, 3) := by decide +kernel
theorem dX7_soonestIn_4 : decode cX7_soonestIn 4 = .ok (.iconst 2, 1) := by decide +kernel
theorem dX7_soonestIn_5 : decode cX7_soonestIn 5 = .ok (.iload_n 1, 1) := by decide +kernel
theorem dX7_soonestIn_6 : decode cX7_soonestIn 6 = .ok (.imul, 1) := by decide +kernel
theorem dX7_soonestIn_7 : decode cX7_soonestIn 7 = .ok (.invokestatic 39, 3) := by decide +kernel
theorem dX7_soonestIn_10 : decode cX7_soonestIn 10 = .ok (.aload_n 0, 1) := by decide +kernel
theorem dX7_soonestIn_11 : decode cX7_soonestIn 11 = .ok (.getfield 11, 3) := by decide +kernel
theorem dX7_soonestIn_14 : decode cX7_soonestIn 14 = .ok (.iconst 2, 1) := by decide +kernel
theorem dX7_soonestIn_15 : decode cX7_soonestIn 15 = .ok (.iload_n 1, 1) := by decide +kernel
theorem dX7_soonestIn_16 : decode cX7_soonestIn 16 = .ok (.imul, 1) := by decide +kernel
theorem dX7_soonestIn_17 : decode cX7_soonestIn 17 = .ok (.iconst 1, 1) := by decide +kernel
theorem dX7_soonestIn_18 : decode cX7_soonestIn 18 = .ok (.iadd, 1) := by decide +kernel
theorem dX7_soonestIn_19 : decode cX7_soonestIn 19 = .ok (.invokestatic 39, 3) := by decide +kernel
theorem dX7_soonestIn_22 : decode cX7_soonestIn 22 = .ok (.invokestatic 92, 3) := by decide +kernel
theorem dX7_soonestIn_25 : decode cX7_soonestIn 25 = .ok (.ireturn, 1) := by decide +kernel
set_option maxRecDepth 20000 in
theorem ggX7_allowOneStepMore_X7_otherTrain : GoodIn wsX7_allowOneStepMore wsX7_otherTrain := goodIn_r _ [11] (by decide +kernel) (by decide +kernel)
set_option maxRecDepth 20000 in
theorem gX7_allowOneStepMore_X7_otherTrain : GoodIn wsX7_allowOneStepMore (va_wsS RX7 103 yX7_otherTrain wsX7_otherTrain) := goodIn_app (goodIn_of _ (by decide +kernel)) ggX7_allowOneStepMore_X7_otherTrain
set_option maxRecDepth 20000 in
theorem ggX7_allowOneStepMore_X9_at : GoodIn wsX7_allowOneStepMore wsX9_at := goodIn_r _ [14] (by decide +kernel) (by decide +kernel)
set_option maxRecDepth 20000 in
theorem gX7_allowOneStepMore_X9_at_n39 : GoodIn wsX7_allowOneStepMore (wsX9_at) := ggX7_allowOneStepMore_X9_at
set_option maxRecDepth 20000 in
theorem ggX7_allowOneStepMore_X7_comeTo : GoodIn wsX7_allowOneStepMore wsX7_comeTo := goodIn_r _ [18, 2, 12, 13, 14, 19, 20, 54, 55, 56, 57, 58, 59, 60] (by decide +kernel) (by decide +kernel)
set_option maxRecDepth 20000 in
theorem gX7_allowOneStepMore_X7_comeTo : GoodIn wsX7_allowOneStepMore (wsV RX7 106 RX7 yX7_comeTo wsX7_comeTo) := goodIn_app (goodIn_of _ (by decide +kernel)) ggX7_allowOneStepMore_X7_comeTo
set_option maxRecDepth 20000 in
theorem ggX7_allowOneStepMore_X1_oneEndOf : GoodIn wsX7_allowOneStepMore wsX1_oneEndOf := goodIn_r _ [25, 26, 12, 13, 14, 64, 65, 66, 67, 68, 69, 70, 71] (by decide +kernel) (by decide +kernel)
set_option maxRecDepth 20000 in
theorem gX7_allowOneStepMore_X1_oneEndOf : GoodIn wsX7_allowOneStepMore (wsV RX7 113 RX1 yX1_oneEndOf wsX1_oneEndOf) := goodIn_app (goodIn_of _ (by decide +kernel)) ggX7_allowOneStepMore_X1_oneEndOf
set_option maxRecDepth 20000 in
theorem ggX7_allowOneStepMore_X1_otherEndOf : GoodIn wsX7_allowOneStepMore wsX1_otherEndOf := goodIn_r _ [30, 31, 12, 13, 14, 64, 65, 66, 67, 68, 69, 70, 71] (by decide +kernel) (by decide +kernel)
set_option maxRecDepth 20000 in
theorem gX7_allowOneStepMore_X1_otherEndOf : GoodIn wsX7_allowOneStepMore (wsV RX7 116 RX1 yX1_otherEndOf wsX1_otherEndOf) := goodIn_app (goodIn_of _ (by decide +kernel)) ggX7_allowOneStepMore_X1_otherEndOf
set_option maxRecDepth 20000 in
theorem ggX7_allowOneStepMore_X7_pass : GoodIn wsX7_allowOneStepMore wsX7_pass := goodIn_r _ [35, 1, 36, 37, 10, 38, 12, 13, 14, 39, 40, 41, 42, 43, 44, 45, 46, 47, 48, 49, 50, 51, 52, 53, 15, 16, 17, 18, 2, 19, 20, 54, 55, 56, 57, 58, 59, 60, 61, 62, 63, 72, 73, 74, 75, 76, 77, 78, 64, 65, 66, 67, 68, 69, 70, 71] (by decide +kernel) (by decide +kernel)
set_option maxRecDepth 20000 in
theorem gX7_allowOneStepMore_X7_pass : GoodIn wsX7_allowOneStepMore (wsV RX7 119 RX7 yX7_pass wsX7_pass) := goodIn_app (goodIn_of _ (by decide +kernel)) ggX7_allowOneStepMore_X7_pass
theorem dX7_allowOneStepMore_0 : decode cX7_allowOneStepMore 0 = .ok (.aload_n 0, 1) := by decide +kernel
theorem dX7_allowOneStepMore_1 : decode cX7_allowOneStepMore 1 = .ok (.getfield 11, 3) := by decide +kernel
theorem dX7_allowOneStepMore_4 : decode cX7_allowOneStepMore 4 = .ok (.iconst 0, 1) := by decide +kernel
theorem dX7_allowOneStepMore_5 : decode cX7_allowOneStepMore 5 = .ok (.aload_n 0, 1) := by decide +kernel
theorem dX7_allowOneStepMore_6 : decode cX7_allowOneStepMore 6 = .ok (.getfield 15, 3) := by decide +kernel
theorem dX7_allowOneStepMore_9 : decode cX7_allowOneStepMore 9 = .ok (.iconst 0, 1) := by decide +kernel
theorem dX7_allowOneStepMore_10 : decode cX7_allowOneStepMore 10 = .ok (.bipush 32, 2) := by decide +kernel
theorem dX7_allowOneStepMore_12 : decode cX7_allowOneStepMore 12 = .ok (.invokestatic 97, 3) := by decide +kernel
theorem dX7_allowOneStepMore_15 : decode cX7_allowOneStepMore 15 = .ok (.iconst 0, 1) := by decide +kernel
theorem dX7_allowOneStepMore_16 : decode cX7_allowOneStepMore 16 = .ok (.istore_n 2, 1) := by decide +kernel
theorem dX7_allowOneStepMore_17 : decode cX7_allowOneStepMore 17 = .ok (.iconst 0, 1) := by decide +kernel
theorem dX7_allowOneStepMore_18 : decode cX7_allowOneStepMore 18 = .ok (.istore_n 3, 1) := by decide +kernel
theorem dX7_allowOneStepMore_19 : decode cX7_allowOneStepMore 19 = .ok (.iload_n 3, 1) := by decide +kernel
theorem dX7_allowOneStepMore_20 : decode cX7_allowOneStepMore 20 = .ok (.bipush 32, 2) := by decide +kernel
theorem dX7_allowOneStepMore_22 : decode cX7_allowOneStepMore 22 = .ok (.if_icmp .ge 35, 3) := by decide +kernel
theorem dX7_allowOneStepMore_25 : decode cX7_allowOneStepMore 25 = .ok (.aload_n 0, 1) := by decide +kernel
theorem dX7_allowOneStepMore_26 : decode cX7_allowOneStepMore 26 = .ok (.iload_n 3, 1) := by decide +kernel
theorem dX7_allowOneStepMore_27 : decode cX7_allowOneStepMore 27 = .ok (.invokestatic 103, 3) := by decide +kernel
theorem dX7_allowOneStepMore_30 : decode cX7_allowOneStepMore 30 = .ok (.aload_n 0, 1) := by decide +kernel
theorem dX7_allowOneStepMore_31 : decode cX7_allowOneStepMore 31 = .ok (.getfield 11, 3) := by decide +kernel
theorem dX7_allowOneStepMore_34 : decode cX7_allowOneStepMore 34 = .ok (.iload_n 3, 1) := by decide +kernel
theorem dX7_allowOneStepMore_35 : decode cX7_allowOneStepMore 35 = .ok (.invokestatic 39, 3) := by decide +kernel
theorem dX7_allowOneStepMore_38 : decode cX7_allowOneStepMore 38 = .ok (.aload_n 0, 1) := by decide +kernel
theorem dX7_allowOneStepMore_39 : decode cX7_allowOneStepMore 39 = .ok (.getfield 28, 3) := by decide +kernel
theorem dX7_allowOneStepMore_42 : decode cX7_allowOneStepMore 42 = .ok (.iadd, 1) := by decide +kernel
theorem dX7_allowOneStepMore_43 : decode cX7_allowOneStepMore 43 = .ok (.invokevirtual 106, 3) := by decide +kernel
theorem dX7_allowOneStepMore_46 : decode cX7_allowOneStepMore 46 = .ok (.ifCond .eq 5, 3) := by decide +kernel
theorem dX7_allowOneStepMore_49 : decode cX7_allowOneStepMore 49 = .ok (.iconst 1, 1) := by decide +kernel
theorem dX7_allowOneStepMore_50 : decode cX7_allowOneStepMore 50 = .ok (.istore_n 2, 1) := by decide +kernel
theorem dX7_allowOneStepMore_51 : decode cX7_allowOneStepMore 51 = .ok (.iinc 3 1, 3) := by decide +kernel
theorem dX7_allowOneStepMore_54 : decode cX7_allowOneStepMore 54 = .ok (.goto (-35), 3) := by decide +kernel
theorem dX7_allowOneStepMore_57 : decode cX7_allowOneStepMore 57 = .ok (.iconst 0, 1) := by decide +kernel
theorem dX7_allowOneStepMore_58 : decode cX7_allowOneStepMore 58 = .ok (.istore_n 3, 1) := by decide +kernel
theorem dX7_allowOneStepMore_59 : decode cX7_allowOneStepMore 59 = .ok (.iload_n 3, 1) := by decide +kernel
theorem dX7_allowOneStepMore_60 : decode cX7_allowOneStepMore 60 = .ok (.aload_n 1, 1) := by decide +kernel
theorem dX7_allowOneStepMore_61 : decode cX7_allowOneStepMore 61 = .ok (.getfield 62, 3) := by decide +kernel
theorem dX7_allowOneStepMore_64 : decode cX7_allowOneStepMore 64 = .ok (.getfield 110, 3) := by decide +kernel
theorem dX7_allowOneStepMore_67 : decode cX7_allowOneStepMore 67 = .ok (.if_icmp .ge 84, 3) := by decide +kernel
theorem dX7_allowOneStepMore_70 : decode cX7_allowOneStepMore 70 = .ok (.iconst 0, 1) := by decide +kernel
theorem dX7_allowOneStepMore_71 : decode cX7_allowOneStepMore 71 = .ok (.istore 4, 2) := by decide +kernel
theorem dX7_allowOneStepMore_73 : decode cX7_allowOneStepMore 73 = .ok (.iload 4, 2) := by decide +kernel
theorem dX7_allowOneStepMore_75 : decode cX7_allowOneStepMore 75 = .ok (.iconst 2, 1) := by decide +kernel
theorem dX7_allowOneStepMore_76 : decode cX7_allowOneStepMore 76 = .ok (.if_icmp .ge 69, 3) := by decide +kernel
theorem dX7_allowOneStepMore_79 : decode cX7_allowOneStepMore 79 = .ok (.iconst 2, 1) := by decide +kernel
theorem dX7_allowOneStepMore_80 : decode cX7_allowOneStepMore 80 = .ok (.aload_n 1, 1) := by decide +kernel
theorem dX7_allowOneStepMore_81 : decode cX7_allowOneStepMore 81 = .ok (.getfield 62, 3) := by decide +kernel
theorem dX7_allowOneStepMore_84 : decode cX7_allowOneStepMore 84 = .ok (.iload_n 3, 1) := by decide +kernel
theorem dX7_allowOneStepMore_85 : decode cX7_allowOneStepMore 85 = .ok (.invokevirtual 113, 3) := by decide +kernel
theorem dX7_allowOneStepMore_88 : decode cX7_allowOneStepMore 88 = .ok (.imul, 1) := by decide +kernel
theorem dX7_allowOneStepMore_89 : decode cX7_allowOneStepMore 89 = .ok (.iload 4, 2) := by decide +kernel
theorem dX7_allowOneStepMore_91 : decode cX7_allowOneStepMore 91 = .ok (.iadd, 1) := by decide +kernel
theorem dX7_allowOneStepMore_92 : decode cX7_allowOneStepMore 92 = .ok (.istore 5, 2) := by decide +kernel
theorem dX7_allowOneStepMore_94 : decode cX7_allowOneStepMore 94 = .ok (.iconst 2, 1) := by decide +kernel
theorem dX7_allowOneStepMore_95 : decode cX7_allowOneStepMore 95 = .ok (.aload_n 1, 1) := by decide +kernel
theorem dX7_allowOneStepMore_96 : decode cX7_allowOneStepMore 96 = .ok (.getfield 62, 3) := by decide +kernel
theorem dX7_allowOneStepMore_99 : decode cX7_allowOneStepMore 99 = .ok (.iload_n 3, 1) := by decide +kernel
theorem dX7_allowOneStepMore_100 : decode cX7_allowOneStepMore 100 = .ok (.invokevirtual 116, 3) := by decide +kernel
theorem dX7_allowOneStepMore_103 : decode cX7_allowOneStepMore 103 = .ok (.imul, 1) := by decide +kernel
theorem dX7_allowOneStepMore_104 : decode cX7_allowOneStepMore 104 = .ok (.iload 4, 2) := by decide +kernel
theorem dX7_allowOneStepMore_106 : decode cX7_allowOneStepMore 106 = .ok (.iadd, 1) := by decide +kernel
theorem dX7_allowOneStepMore_107 : decode cX7_allowOneStepMore 107 = .ok (.istore 6, 2) := by decide +kernel
theorem dX7_allowOneStepMore_109 : decode cX7_allowOneStepMore 109 = .ok (.aload_n 0, 1) := by decide +kernel
theorem dX7_allowOneStepMore_110 : decode cX7_allowOneStepMore 110 = .ok (.aload_n 1, 1) := by decide +kernel
theorem dX7_allowOneStepMore_111 : decode cX7_allowOneStepMore 111 = .ok (.iload_n 3, 1) := by decide +kernel
theorem dX7_allowOneStepMore_112 : decode cX7_allowOneStepMore 112 = .ok (.iload 5, 2) := by decide +kernel
theorem dX7_allowOneStepMore_114 : decode cX7_allowOneStepMore 114 = .ok (.iload 6, 2) := by decide +kernel
theorem dX7_allowOneStepMore_116 : decode cX7_allowOneStepMore 116 = .ok (.invokevirtual 119, 3) := by decide +kernel
theorem dX7_allowOneStepMore_119 : decode cX7_allowOneStepMore 119 = .ok (.ifCond .eq 5, 3) := by decide +kernel
theorem dX7_allowOneStepMore_122 : decode cX7_allowOneStepMore 122 = .ok (.iconst 1, 1) := by decide +kernel
theorem dX7_allowOneStepMore_123 : decode cX7_allowOneStepMore 123 = .ok (.istore_n 2, 1) := by decide +kernel
theorem dX7_allowOneStepMore_124 : decode cX7_allowOneStepMore 124 = .ok (.aload_n 0, 1) := by decide +kernel
theorem dX7_allowOneStepMore_125 : decode cX7_allowOneStepMore 125 = .ok (.aload_n 1, 1) := by decide +kernel
theorem dX7_allowOneStepMore_126 : decode cX7_allowOneStepMore 126 = .ok (.iload_n 3, 1) := by decide +kernel
theorem dX7_allowOneStepMore_127 : decode cX7_allowOneStepMore 127 = .ok (.iload 6, 2) := by decide +kernel
theorem dX7_allowOneStepMore_129 : decode cX7_allowOneStepMore 129 = .ok (.iload 5, 2) := by decide +kernel
theorem dX7_allowOneStepMore_131 : decode cX7_allowOneStepMore 131 = .ok (.invokevirtual 119, 3) := by decide +kernel
theorem dX7_allowOneStepMore_134 : decode cX7_allowOneStepMore 134 = .ok (.ifCond .eq 5, 3) := by decide +kernel
theorem dX7_allowOneStepMore_137 : decode cX7_allowOneStepMore 137 = .ok (.iconst 1, 1) := by decide +kernel
theorem dX7_allowOneStepMore_138 : decode cX7_allowOneStepMore 138 = .ok (.istore_n 2, 1) := by decide +kernel
theorem dX7_allowOneStepMore_139 : decode cX7_allowOneStepMore 139 = .ok (.iinc 4 1, 3) := by decide +kernel
theorem dX7_allowOneStepMore_142 : decode cX7_allowOneStepMore 142 = .ok (.goto (-69), 3) := by decide +kernel
theorem dX7_allowOneStepMore_145 : decode cX7_allowOneStepMore 145 = .ok (.iinc 3 1, 3) := by decide +kernel
theorem dX7_allowOneStepMore_148 : decode cX7_allowOneStepMore 148 = .ok (.goto (-89), 3) := by decide +kernel
theorem dX7_allowOneStepMore_151 : decode cX7_allowOneStepMore 151 = .ok (.aload_n 0, 1) := by decide +kernel
theorem dX7_allowOneStepMore_152 : decode cX7_allowOneStepMore 152 = .ok (.getfield 15, 3) := by decide +kernel
theorem dX7_allowOneStepMore_155 : decode cX7_allowOneStepMore 155 = .ok (.iconst 0, 1) := by decide +kernel
theorem dX7_allowOneStepMore_156 : decode cX7_allowOneStepMore 156 = .ok (.aload_n 0, 1) := by decide +kernel
theorem dX7_allowOneStepMore_157 : decode cX7_allowOneStepMore 157 = .ok (.getfield 11, 3) := by decide +kernel
theorem dX7_allowOneStepMore_160 : decode cX7_allowOneStepMore 160 = .ok (.iconst 0, 1) := by decide +kernel
theorem dX7_allowOneStepMore_161 : decode cX7_allowOneStepMore 161 = .ok (.bipush 32, 2) := by decide +kernel
theorem dX7_allowOneStepMore_163 : decode cX7_allowOneStepMore 163 = .ok (.invokestatic 97, 3) := by decide +kernel
theorem dX7_allowOneStepMore_166 : decode cX7_allowOneStepMore 166 = .ok (.iload_n 2, 1) := by decide +kernel
theorem dX7_allowOneStepMore_167 : decode cX7_allowOneStepMore 167 = .ok (.ireturn, 1) := by decide +kernel
set_option maxRecDepth 20000 in
theorem ggX7_pass_X7_isNewTrain : GoodIn wsX7_pass wsX7_isNewTrain := goodIn_r _ [5] (by decide +kernel) (by decide +kernel)
set_option maxRecDepth 20000 in
theorem gX7_pass_X7_isNewTrain : GoodIn wsX7_pass (va_wsS RX7 123 yX7_isNewTrain wsX7_isNewTrain) := goodIn_app (goodIn_of _ (by decide +kernel)) ggX7_pass_X7_isNewTrain
set_option maxRecDepth 20000 in
theorem ggX7_pass_X9_at : GoodIn wsX7_pass wsX9_at := goodIn_r _ [8] (by decide +kernel) (by decide +kernel)
set_option maxRecDepth 20000 in
theorem gX7_pass_X9_at_n39 : GoodIn wsX7_pass (wsX9_at) := ggX7_pass_X9_at
set_option maxRecDepth 20000 in
theorem ggX7_pass_X3_arrival : GoodIn wsX7_pass wsX3_arrival := goodIn_r _ [13, 14, 15, 16, 17, 18, 19, 20, 21, 22, 23, 6, 7, 8, 38, 39, 40, 41, 42, 43, 44, 45, 46, 47, 48, 49, 50, 51, 52, 53, 54, 55] (by decide +kernel) (by decide +kernel)
set_option maxRecDepth 20000 in
theorem gX7_pass_X3_arrival : GoodIn wsX7_pass (wsV RX7 126 RX3 yX3_arrival wsX3_arrival) := goodIn_app (goodIn_of _ (by decide +kernel)) ggX7_pass_X3_arrival
set_option maxRecDepth 20000 in
theorem ggX7_pass_X7_comeTo : GoodIn wsX7_pass wsX7_comeTo := goodIn_r _ [27, 28, 6, 7, 8, 29, 30, 31, 32, 33, 34, 35, 36, 37] (by decide +kernel) (by decide +kernel)
set_option maxRecDepth 20000 in
theorem gX7_pass_X7_comeTo : GoodIn wsX7_pass (wsV RX7 106 RX7 yX7_comeTo wsX7_comeTo) := goodIn_app (goodIn_of _ (by decide +kernel)) ggX7_pass_X7_comeTo
theorem dX7_pass_0 : decode cX7_pass 0 = .ok (.aload_n 0, 1) := by decide +kernel
theorem dX7_pass_1 : decode cX7_pass 1 = .ok (.iload 4, 2) := by decide +kernel
theorem dX7_pass_3 : decode cX7_pass 3 = .ok (.aload_n 1, 1) := by decide +kernel
theorem dX7_pass_4 : decode cX7_pass 4 = .ok (.iload_n 2, 1) := by decide +kernel
theorem dX7_pass_5 : decode cX7_pass 5 = .ok (.iload_n 3, 1) := by decide +kernel
theorem dX7_pass_6 : decode cX7_pass 6 = .ok (.invokestatic 123, 3) := by decide +kernel
theorem dX7_pass_9 : decode cX7_pass 9 = .ok (.aload_n 0, 1) := by decide +kernel
theorem dX7_pass_10 : decode cX7_pass 10 = .ok (.getfield 11, 3) := by decide +kernel
theorem dX7_pass_13 : decode cX7_pass 13 = .ok (.iload_n 3, 1) := by decide +kernel
theorem dX7_pass_14 : decode cX7_pass 14 = .ok (.invokestatic 39, 3) := by decide +kernel
theorem dX7_pass_17 : decode cX7_pass 17 = .ok (.invokevirtual 126, 3) := by decide +kernel
theorem dX7_pass_20 : decode cX7_pass 20 = .ok (.invokevirtual 106, 3) := by decide +kernel
theorem dX7_pass_23 : decode cX7_pass 23 = .ok (.ireturn, 1) := by decide +kernel
set_option maxRecDepth 20000 in
theorem ggX7_comeTo_X9_at : GoodIn wsX7_comeTo wsX9_at := goodIn_r _ [4] (by decide +kernel) (by decide +kernel)
set_option maxRecDepth 20000 in
theorem gX7_comeTo_X9_at_n39 : GoodIn wsX7_comeTo (wsX9_at) := ggX7_comeTo_X9_at
set_option maxRecDepth 20000 in
theorem ggX7_comeTo_X9_put : GoodIn wsX7_comeTo wsX9_put := goodIn_r _ [6] (by decide +kernel) (by decide +kernel)
set_option maxRecDepth 20000 in
theorem gX7_comeTo_X9_put_n80 : GoodIn wsX7_comeTo (wsX9_put) := ggX7_comeTo_X9_put
theorem dX7_comeTo_0 : decode cX7_comeTo 0 = .ok (.iload_n 2, 1) := by decide +kernel
theorem dX7_comeTo_1 : decode cX7_comeTo 1 = .ok (.bipush 120, 2) := by decide +kernel
theorem dX7_comeTo_3 : decode cX7_comeTo 3 = .ok (.if_icmp .gt 15, 3) := by decide +kernel
theorem dX7_comeTo_6 : decode cX7_comeTo 6 = .ok (.iload_n 2, 1) := by decide +kernel
theorem dX7_comeTo_7 : decode cX7_comeTo 7 = .ok (.aload_n 0, 1) := by decide +kernel
theorem dX7_comeTo_8 : decode cX7_comeTo 8 = .ok (.getfield 15, 3) := by decide +kernel
theorem dX7_comeTo_11 : decode cX7_comeTo 11 = .ok (.iload_n 1, 1) := by decide +kernel
theorem dX7_comeTo_12 : decode cX7_comeTo 12 = .ok (.invokestatic 39, 3) := by decide +kernel
theorem dX7_comeTo_15 : decode cX7_comeTo 15 = .ok (.if_icmp .lt 5, 3) := by decide +kernel
theorem dX7_comeTo_18 : decode cX7_comeTo 18 = .ok (.iconst 0, 1) := by decide +kernel
theorem dX7_comeTo_19 : decode cX7_comeTo 19 = .ok (.ireturn, 1) := by decide +kernel
theorem dX7_comeTo_20 : decode cX7_comeTo 20 = .ok (.aload_n 0, 1) := by decide +kernel
theorem dX7_comeTo_21 : decode cX7_comeTo 21 = .ok (.getfield 15, 3) := by decide +kernel
theorem dX7_comeTo_24 : decode cX7_comeTo 24 = .ok (.iload_n 1, 1) := by decide +kernel
theorem dX7_comeTo_25 : decode cX7_comeTo 25 = .ok (.iload_n 2, 1) := by decide +kernel
theorem dX7_comeTo_26 : decode cX7_comeTo 26 = .ok (.invokestatic 80, 3) := by decide +kernel
theorem dX7_comeTo_29 : decode cX7_comeTo 29 = .ok (.iconst 1, 1) := by decide +kernel
theorem dX7_comeTo_30 : decode cX7_comeTo 30 = .ok (.ireturn, 1) := by decide +kernel
set_option maxRecDepth 20000 in
theorem ggX7_reckonLatest_J7_fill_53178 : GoodIn wsX7_reckonLatest wsJ7_fill_53178 := goodIn_r _ [6] (by decide +kernel) (by decide +kernel)
set_option maxRecDepth 20000 in
theorem gX7_reckonLatest_J7_fill_53178 : GoodIn wsX7_reckonLatest (va_wsS RX7 74 yJ7_fill_53178 wsJ7_fill_53178) := goodIn_app (goodIn_of _ (by decide +kernel)) ggX7_reckonLatest_J7_fill_53178
set_option maxRecDepth 20000 in
theorem ggX7_reckonLatest_X9_put : GoodIn wsX7_reckonLatest wsX9_put := goodIn_r _ [9] (by decide +kernel) (by decide +kernel)
set_option maxRecDepth 20000 in
theorem gX7_reckonLatest_X9_put_n80 : GoodIn wsX7_reckonLatest (wsX9_put) := ggX7_reckonLatest_X9_put
set_option maxRecDepth 20000 in
theorem ggX7_reckonLatest_X7_reckonLatestWith : GoodIn wsX7_reckonLatest wsX7_reckonLatestWith := goodIn_r _ [14, 15, 16, 17, 13, 18, 19, 20, 21, 22, 1, 23, 8, 24, 25, 26, 27, 28, 7, 9, 29, 30, 31, 32, 33, 34, 35, 36, 37, 38, 39, 40, 41, 42, 43, 44, 45, 46, 47, 48, 49, 50, 51, 52, 53, 54, 55, 56, 57, 58, 59, 60, 61, 62, 63, 64, 65, 66, 67, 68, 69, 70, 71, 72, 73, 74, 75, 76, 77, 78, 79, 80, 81, 82] (by decide +kernel) (by decide +kernel)
set_option maxRecDepth 20000 in
theorem gX7_reckonLatest_X7_reckonLatestWith : GoodIn wsX7_reckonLatest (wsV RX7 130 RX7 yX7_reckonLatestWith wsX7_reckonLatestWith) := goodIn_app (goodIn_of _ (by decide +kernel)) ggX7_reckonLatest_X7_reckonLatestWith
theorem dX7_reckonLatest_0 : decode cX7_reckonLatest 0 = .ok (.aload_n 0, 1) := by decide +kernel
theorem dX7_reckonLatest_1 : decode cX7_reckonLatest 1 = .ok (.getfield 18, 3) := by decide +kernel
theorem dX7_reckonLatest_4 : decode cX7_reckonLatest 4 = .ok (.iconst (-1), 1) := by decide +kernel
theorem dX7_reckonLatest_5 : decode cX7_reckonLatest 5 = .ok (.invokestatic 74, 3) := by decide +kernel
theorem dX7_reckonLatest_8 : decode cX7_reckonLatest 8 = .ok (.aload_n 0, 1) := by decide +kernel
theorem dX7_reckonLatest_9 : decode cX7_reckonLatest 9 = .ok (.getfield 18, 3) := by decide +kernel
theorem dX7_reckonLatest_12 : decode cX7_reckonLatest 12 = .ok (.iconst 2, 1) := by decide +kernel
theorem dX7_reckonLatest_13 : decode cX7_reckonLatest 13 = .ok (.iload_n 2, 1) := by decide +kernel
theorem dX7_reckonLatest_14 : decode cX7_reckonLatest 14 = .ok (.imul, 1) := by decide +kernel
theorem dX7_reckonLatest_15 : decode cX7_reckonLatest 15 = .ok (.aload_n 0, 1) := by decide +kernel
theorem dX7_reckonLatest_16 : decode cX7_reckonLatest 16 = .ok (.getfield 32, 3) := by decide +kernel
theorem dX7_reckonLatest_19 : decode cX7_reckonLatest 19 = .ok (.invokestatic 80, 3) := by decide +kernel
theorem dX7_reckonLatest_22 : decode cX7_reckonLatest 22 = .ok (.aload_n 0, 1) := by decide +kernel
theorem dX7_reckonLatest_23 : decode cX7_reckonLatest 23 = .ok (.getfield 18, 3) := by decide +kernel
theorem dX7_reckonLatest_26 : decode cX7_reckonLatest 26 = .ok (.iconst 2, 1) := by decide +kernel
theorem dX7_reckonLatest_27 : decode cX7_reckonLatest 27 = .ok (.iload_n 2, 1) := by decide +kernel
theorem dX7_reckonLatest_28 : decode cX7_reckonLatest 28 = .ok (.imul, 1) := by decide +kernel
theorem dX7_reckonLatest_29 : decode cX7_reckonLatest 29 = .ok (.iconst 1, 1) := by decide +kernel
theorem dX7_reckonLatest_30 : decode cX7_reckonLatest 30 = .ok (.iadd, 1) := by decide +kernel
theorem dX7_reckonLatest_31 : decode cX7_reckonLatest 31 = .ok (.aload_n 0, 1) := by decide +kernel
theorem dX7_reckonLatest_32 : decode cX7_reckonLatest 32 = .ok (.getfield 32, 3) := by decide +kernel
theorem dX7_reckonLatest_35 : decode cX7_reckonLatest 35 = .ok (.invokestatic 80, 3) := by decide +kernel
theorem dX7_reckonLatest_38 : decode cX7_reckonLatest 38 = .ok (.iconst 1, 1) := by decide +kernel
theorem dX7_reckonLatest_39 : decode cX7_reckonLatest 39 = .ok (.istore 4, 2) := by decide +kernel
theorem dX7_reckonLatest_41 : decode cX7_reckonLatest 41 = .ok (.iload 4, 2) := by decide +kernel
theorem dX7_reckonLatest_43 : decode cX7_reckonLatest 43 = .ok (.iload_n 3, 1) := by decide +kernel
theorem dX7_reckonLatest_44 : decode cX7_reckonLatest 44 = .ok (.if_icmp .ge 16, 3) := by decide +kernel
theorem dX7_reckonLatest_47 : decode cX7_reckonLatest 47 = .ok (.aload_n 0, 1) := by decide +kernel
theorem dX7_reckonLatest_48 : decode cX7_reckonLatest 48 = .ok (.aload_n 1, 1) := by decide +kernel
theorem dX7_reckonLatest_49 : decode cX7_reckonLatest 49 = .ok (.iload 4, 2) := by decide +kernel
theorem dX7_reckonLatest_51 : decode cX7_reckonLatest 51 = .ok (.invokevirtual 130, 3) := by decide +kernel
theorem dX7_reckonLatest_54 : decode cX7_reckonLatest 54 = .ok (.iinc 4 1, 3) := by decide +kernel
theorem dX7_reckonLatest_57 : decode cX7_reckonLatest 57 = .ok (.goto (-16), 3) := by decide +kernel
theorem dX7_reckonLatest_60 : decode cX7_reckonLatest 60 = .ok (.return_, 1) := by decide +kernel
set_option maxRecDepth 20000 in
theorem ggX7_reckonLatestWith_X7_otherTrain : GoodIn wsX7_reckonLatestWith wsX7_otherTrain := goodIn_r _ [5] (by decide +kernel) (by decide +kernel)
set_option maxRecDepth 20000 in
theorem gX7_reckonLatestWith_X7_otherTrain : GoodIn wsX7_reckonLatestWith (va_wsS RX7 103 yX7_otherTrain wsX7_otherTrain) := goodIn_app (goodIn_of _ (by decide +kernel)) ggX7_reckonLatestWith_X7_otherTrain
set_option maxRecDepth 20000 in
theorem ggX7_reckonLatestWith_X7_latestAt : GoodIn wsX7_reckonLatestWith wsX7_latestAt := goodIn_r _ [9, 10, 11, 12, 13, 49, 50, 51, 52, 53, 54, 55] (by decide +kernel) (by decide +kernel)
set_option maxRecDepth 20000 in
theorem gX7_reckonLatestWith_X7_latestAt : GoodIn wsX7_reckonLatestWith (wsV RX7 134 RX7 yX7_latestAt wsX7_latestAt) := goodIn_app (goodIn_of _ (by decide +kernel)) ggX7_reckonLatestWith_X7_latestAt
set_option maxRecDepth 20000 in
theorem ggX7_reckonLatestWith_X7_mayWait : GoodIn wsX7_reckonLatestWith wsX7_mayWait := goodIn_r _ [17, 10, 11, 12, 13, 18, 19, 49, 50, 51, 52, 53, 54, 55] (by decide +kernel) (by decide +kernel)
set_option maxRecDepth 20000 in
theorem gX7_reckonLatestWith_X7_mayWait : GoodIn wsX7_reckonLatestWith (wsV RX7 137 RX7 yX7_mayWait wsX7_mayWait) := goodIn_app (goodIn_of _ (by decide +kernel)) ggX7_reckonLatestWith_X7_mayWait
set_option maxRecDepth 20000 in
theorem ggX7_reckonLatestWith_X1_oneEndOf : GoodIn wsX7_reckonLatestWith wsX1_oneEndOf := goodIn_r _ [24, 25, 11, 12, 13, 59, 60, 61, 62, 63, 64, 65, 66] (by decide +kernel) (by decide +kernel)
set_option maxRecDepth 20000 in
theorem gX7_reckonLatestWith_X1_oneEndOf : GoodIn wsX7_reckonLatestWith (wsV RX7 113 RX1 yX1_oneEndOf wsX1_oneEndOf) := goodIn_app (goodIn_of _ (by decide +kernel)) ggX7_reckonLatestWith_X1_oneEndOf
set_option maxRecDepth 20000 in
theorem ggX7_reckonLatestWith_X1_otherEndOf : GoodIn wsX7_reckonLatestWith wsX1_otherEndOf := goodIn_r _ [29, 30, 11, 12, 13, 59, 60, 61, 62, 63, 64, 65, 66] (by decide +kernel) (by decide +kernel)
set_option maxRecDepth 20000 in
theorem gX7_reckonLatestWith_X1_otherEndOf : GoodIn wsX7_reckonLatestWith (wsV RX7 116 RX1 yX1_otherEndOf wsX1_otherEndOf) := goodIn_app (goodIn_of _ (by decide +kernel)) ggX7_reckonLatestWith_X1_otherEndOf
set_option maxRecDepth 20000 in
theorem ggX7_reckonLatestWith_X7_mayWaitToPass : GoodIn wsX7_reckonLatestWith wsX7_mayWaitToPass := goodIn_r _ [34, 35, 36, 4, 37, 6, 7, 8, 9, 10, 11, 12, 13, 38, 39, 40, 41, 42, 43, 44, 45, 46, 47, 48, 14, 15, 16, 17, 18, 19, 49, 50, 51, 52, 53, 54, 55, 56, 57, 58, 67, 68, 69, 70, 71, 72, 73, 59, 60, 61, 62, 63, 64, 65, 66] (by decide +kernel) (by decide +kernel)
set_option maxRecDepth 20000 in
theorem gX7_reckonLatestWith_X7_mayWaitToPass : GoodIn wsX7_reckonLatestWith (wsV RX7 141 RX7 yX7_mayWaitToPass wsX7_mayWaitToPass) := goodIn_app (goodIn_of _ (by decide +kernel)) ggX7_reckonLatestWith_X7_mayWaitToPass
theorem dX7_reckonLatestWith_0 : decode cX7_reckonLatestWith 0 = .ok (.iconst 0, 1) := by decide +kernel
theorem dX7_reckonLatestWith_1 : decode cX7_reckonLatestWith 1 = .ok (.istore_n 3, 1) := by decide +kernel
theorem dX7_reckonLatestWith_2 : decode cX7_reckonLatestWith 2 = .ok (.iload_n 3, 1) := by decide +kernel
theorem dX7_reckonLatestWith_3 : decode cX7_reckonLatestWith 3 = .ok (.bipush 32, 2) := by decide +kernel
theorem dX7_reckonLatestWith_5 : decode cX7_reckonLatestWith 5 = .ok (.if_icmp .ge 31, 3) := by decide +kernel
theorem dX7_reckonLatestWith_8 : decode cX7_reckonLatestWith 8 = .ok (.aload_n 0, 1) := by decide +kernel
theorem dX7_reckonLatestWith_9 : decode cX7_reckonLatestWith 9 = .ok (.iload_n 2, 1) := by decide +kernel
theorem dX7_reckonLatestWith_10 : decode cX7_reckonLatestWith 10 = .ok (.iload_n 3, 1) := by decide +kernel
theorem dX7_reckonLatestWith_11 : decode cX7_reckonLatestWith 11 = .ok (.aload_n 0, 1) := by decide +kernel
theorem dX7_reckonLatestWith_12 : decode cX7_reckonLatestWith 12 = .ok (.iload_n 2, 1) := by decide +kernel
theorem dX7_reckonLatestWith_13 : decode cX7_reckonLatestWith 13 = .ok (.iconst 1, 1) := by decide +kernel
theorem dX7_reckonLatestWith_14 : decode cX7_reckonLatestWith 14 = .ok (.isub, 1) := by decide +kernel
theorem dX7_reckonLatestWith_15 : decode cX7_reckonLatestWith 15 = .ok (.iload_n 3, 1) := by decide +kernel
theorem dX7_reckonLatestWith_16 : decode cX7_reckonLatestWith 16 = .ok (.invokestatic 103, 3) := by decide +kernel
theorem dX7_reckonLatestWith_19 : decode cX7_reckonLatestWith 19 = .ok (.invokevirtual 134, 3) := by decide +kernel
theorem dX7_reckonLatestWith_22 : decode cX7_reckonLatestWith 22 = .ok (.aload_n 0, 1) := by decide +kernel
theorem dX7_reckonLatestWith_23 : decode cX7_reckonLatestWith 23 = .ok (.getfield 28, 3) := by decide +kernel
theorem dX7_reckonLatestWith_26 : decode cX7_reckonLatestWith 26 = .ok (.isub, 1) := by decide +kernel
theorem dX7_reckonLatestWith_27 : decode cX7_reckonLatestWith 27 = .ok (.invokevirtual 137, 3) := by decide +kernel
theorem dX7_reckonLatestWith_30 : decode cX7_reckonLatestWith 30 = .ok (.iinc 3 1, 3) := by decide +kernel
theorem dX7_reckonLatestWith_33 : decode cX7_reckonLatestWith 33 = .ok (.goto (-31), 3) := by decide +kernel
theorem dX7_reckonLatestWith_36 : decode cX7_reckonLatestWith 36 = .ok (.iconst 0, 1) := by decide +kernel
theorem dX7_reckonLatestWith_37 : decode cX7_reckonLatestWith 37 = .ok (.istore_n 3, 1) := by decide +kernel
theorem dX7_reckonLatestWith_38 : decode cX7_reckonLatestWith 38 = .ok (.iload_n 3, 1) := by decide +kernel
theorem dX7_reckonLatestWith_39 : decode cX7_reckonLatestWith 39 = .ok (.aload_n 1, 1) := by decide +kernel
theorem dX7_reckonLatestWith_40 : decode cX7_reckonLatestWith 40 = .ok (.getfield 62, 3) := by decide +kernel
theorem dX7_reckonLatestWith_43 : decode cX7_reckonLatestWith 43 = .ok (.getfield 110, 3) := by decide +kernel
theorem dX7_reckonLatestWith_46 : decode cX7_reckonLatestWith 46 = .ok (.if_icmp .ge 76, 3) := by decide +kernel
theorem dX7_reckonLatestWith_49 : decode cX7_reckonLatestWith 49 = .ok (.iconst 0, 1) := by decide +kernel
theorem dX7_reckonLatestWith_50 : decode cX7_reckonLatestWith 50 = .ok (.istore 4, 2) := by decide +kernel
theorem dX7_reckonLatestWith_52 : decode cX7_reckonLatestWith 52 = .ok (.iload 4, 2) := by decide +kernel
theorem dX7_reckonLatestWith_54 : decode cX7_reckonLatestWith 54 = .ok (.iconst 2, 1) := by decide +kernel
theorem dX7_reckonLatestWith_55 : decode cX7_reckonLatestWith 55 = .ok (.if_icmp .ge 61, 3) := by decide +kernel
theorem dX7_reckonLatestWith_58 : decode cX7_reckonLatestWith 58 = .ok (.iconst 2, 1) := by decide +kernel
theorem dX7_reckonLatestWith_59 : decode cX7_reckonLatestWith 59 = .ok (.aload_n 1, 1) := by decide +kernel
theorem dX7_reckonLatestWith_60 : decode cX7_reckonLatestWith 60 = .ok (.getfield 62, 3) := by decide +kernel
theorem dX7_reckonLatestWith_63 : decode cX7_reckonLatestWith 63 = .ok (.iload_n 3, 1) := by decide +kernel
theorem dX7_reckonLatestWith_64 : decode cX7_reckonLatestWith 64 = .ok (.invokevirtual 113, 3) := by decide +kernel
theorem dX7_reckonLatestWith_67 : decode cX7_reckonLatestWith 67 = .ok (.imul, 1) := by decide +kernel
theorem dX7_reckonLatestWith_68 : decode cX7_reckonLatestWith 68 = .ok (.iload 4, 2) := by decide +kernel
theorem dX7_reckonLatestWith_70 : decode cX7_reckonLatestWith 70 = .ok (.iadd, 1) := by decide +kernel
theorem dX7_reckonLatestWith_71 : decode cX7_reckonLatestWith 71 = .ok (.istore 5, 2) := by decide +kernel
theorem dX7_reckonLatestWith_73 : decode cX7_reckonLatestWith 73 = .ok (.iconst 2, 1) := by decide +kernel
theorem dX7_reckonLatestWith_74 : decode cX7_reckonLatestWith 74 = .ok (.aload_n 1, 1) := by decide +kernel
theorem dX7_reckonLatestWith_75 : decode cX7_reckonLatestWith 75 = .ok (.getfield 62, 3) := by decide +kernel
theorem dX7_reckonLatestWith_78 : decode cX7_reckonLatestWith 78 = .ok (.iload_n 3, 1) := by decide +kernel
theorem dX7_reckonLatestWith_79 : decode cX7_reckonLatestWith 79 = .ok (.invokevirtual 116, 3) := by decide +kernel
theorem dX7_reckonLatestWith_82 : decode cX7_reckonLatestWith 82 = .ok (.imul, 1) := by decide +kernel
theorem dX7_reckonLatestWith_83 : decode cX7_reckonLatestWith 83 = .ok (.iload 4, 2) := by decide +kernel
theorem dX7_reckonLatestWith_85 : decode cX7_reckonLatestWith 85 = .ok (.iadd, 1) := by decide +kernel
theorem dX7_reckonLatestWith_86 : decode cX7_reckonLatestWith 86 = .ok (.istore 6, 2) := by decide +kernel
theorem dX7_reckonLatestWith_88 : decode cX7_reckonLatestWith 88 = .ok (.aload_n 0, 1) := by decide +kernel
theorem dX7_reckonLatestWith_89 : decode cX7_reckonLatestWith 89 = .ok (.aload_n 1, 1) := by decide +kernel
theorem dX7_reckonLatestWith_90 : decode cX7_reckonLatestWith 90 = .ok (.iload_n 3, 1) := by decide +kernel
theorem dX7_reckonLatestWith_91 : decode cX7_reckonLatestWith 91 = .ok (.iload_n 2, 1) := by decide +kernel
theorem dX7_reckonLatestWith_92 : decode cX7_reckonLatestWith 92 = .ok (.iload 5, 2) := by decide +kernel
theorem dX7_reckonLatestWith_94 : decode cX7_reckonLatestWith 94 = .ok (.iload 6, 2) := by decide +kernel
theorem dX7_reckonLatestWith_96 : decode cX7_reckonLatestWith 96 = .ok (.invokevirtual 141, 3) := by decide +kernel
theorem dX7_reckonLatestWith_99 : decode cX7_reckonLatestWith 99 = .ok (.aload_n 0, 1) := by decide +kernel
theorem dX7_reckonLatestWith_100 : decode cX7_reckonLatestWith 100 = .ok (.aload_n 1, 1) := by decide +kernel
theorem dX7_reckonLatestWith_101 : decode cX7_reckonLatestWith 101 = .ok (.iload_n 3, 1) := by decide +kernel
theorem dX7_reckonLatestWith_102 : decode cX7_reckonLatestWith 102 = .ok (.iload_n 2, 1) := by decide +kernel
theorem dX7_reckonLatestWith_103 : decode cX7_reckonLatestWith 103 = .ok (.iload 6, 2) := by decide +kernel
theorem dX7_reckonLatestWith_105 : decode cX7_reckonLatestWith 105 = .ok (.iload 5, 2) := by decide +kernel
theorem dX7_reckonLatestWith_107 : decode cX7_reckonLatestWith 107 = .ok (.invokevirtual 141, 3) := by decide +kernel
theorem dX7_reckonLatestWith_110 : decode cX7_reckonLatestWith 110 = .ok (.iinc 4 1, 3) := by decide +kernel
theorem dX7_reckonLatestWith_113 : decode cX7_reckonLatestWith 113 = .ok (.goto (-61), 3) := by decide +kernel
theorem dX7_reckonLatestWith_116 : decode cX7_reckonLatestWith 116 = .ok (.iinc 3 1, 3) := by decide +kernel
theorem dX7_reckonLatestWith_119 : decode cX7_reckonLatestWith 119 = .ok (.goto (-81), 3) := by decide +kernel
theorem dX7_reckonLatestWith_122 : decode cX7_reckonLatestWith 122 = .ok (.return_, 1) := by decide +kernel
set_option maxRecDepth 20000 in
theorem ggX7_mayWaitToPass_X7_isNewTrain : GoodIn wsX7_mayWaitToPass wsX7_isNewTrain := goodIn_r _ [4] (by decide +kernel) (by decide +kernel)
set_option maxRecDepth 20000 in
theorem gX7_mayWaitToPass_X7_isNewTrain : GoodIn wsX7_mayWaitToPass (va_wsS RX7 123 yX7_isNewTrain wsX7_isNewTrain) := goodIn_app (goodIn_of _ (by decide +kernel)) ggX7_mayWaitToPass_X7_isNewTrain
set_option maxRecDepth 20000 in
theorem ggX7_mayWaitToPass_X7_latestAt : GoodIn wsX7_mayWaitToPass wsX7_latestAt := goodIn_r _ [8, 9, 10, 11, 12, 30, 31, 32, 33, 34, 35, 36] (by decide +kernel) (by decide +kernel)
set_option maxRecDepth 20000 in
theorem gX7_mayWaitToPass_X7_latestAt : GoodIn wsX7_mayWaitToPass (wsV RX7 134 RX7 yX7_latestAt wsX7_latestAt) := goodIn_app (goodIn_of _ (by decide +kernel)) ggX7_mayWaitToPass_X7_latestAt
set_option maxRecDepth 20000 in
theorem ggX7_mayWaitToPass_X3_departure : GoodIn wsX7_mayWaitToPass wsX3_departure := goodIn_r _ [17, 18, 19, 20, 21, 22, 23, 10, 11, 12, 37, 38, 39, 40, 41, 42, 43, 44, 45, 46, 47, 48, 49, 50, 51, 52, 53, 54] (by decide +kernel) (by decide +kernel)
set_option maxRecDepth 20000 in
theorem gX7_mayWaitToPass_X3_departure : GoodIn wsX7_mayWaitToPass (wsV RX7 145 RX3 yX3_departure wsX3_departure) := goodIn_app (goodIn_of _ (by decide +kernel)) ggX7_mayWaitToPass_X3_departure
set_option maxRecDepth 20000 in
theorem ggX7_mayWaitToPass_X7_mayWait : GoodIn wsX7_mayWaitToPass wsX7_mayWait := goodIn_r _ [27, 9, 10, 11, 12, 28, 29, 30, 31, 32, 33, 34, 35, 36] (by decide +kernel) (by decide +kernel)
set_option maxRecDepth 20000 in
theorem gX7_mayWaitToPass_X7_mayWait : GoodIn wsX7_mayWaitToPass (wsV RX7 137 RX7 yX7_mayWait wsX7_mayWait) := goodIn_app (goodIn_of _ (by decide +kernel)) ggX7_mayWaitToPass_X7_mayWait
theorem dX7_mayWaitToPass_0 : decode cX7_mayWaitToPass 0 = .ok (.aload_n 0, 1) := by decide +kernel
theorem dX7_mayWaitToPass_1 : decode cX7_mayWaitToPass 1 = .ok (.iload_n 3, 1) := by decide +kernel
theorem dX7_mayWaitToPass_2 : decode cX7_mayWaitToPass 2 = .ok (.iload 4, 2) := by decide +kernel
theorem dX7_mayWaitToPass_4 : decode cX7_mayWaitToPass 4 = .ok (.aload_n 1, 1) := by decide +kernel
theorem dX7_mayWaitToPass_5 : decode cX7_mayWaitToPass 5 = .ok (.iload_n 2, 1) := by decide +kernel
theorem dX7_mayWaitToPass_6 : decode cX7_mayWaitToPass 6 = .ok (.iload 4, 2) := by decide +kernel
theorem dX7_mayWaitToPass_8 : decode cX7_mayWaitToPass 8 = .ok (.invokestatic 123, 3) := by decide +kernel
theorem dX7_mayWaitToPass_11 : decode cX7_mayWaitToPass 11 = .ok (.aload_n 0, 1) := by decide +kernel
theorem dX7_mayWaitToPass_12 : decode cX7_mayWaitToPass 12 = .ok (.iload_n 3, 1) := by decide +kernel
theorem dX7_mayWaitToPass_13 : decode cX7_mayWaitToPass 13 = .ok (.iconst 1, 1) := by decide +kernel
theorem dX7_mayWaitToPass_14 : decode cX7_mayWaitToPass 14 = .ok (.isub, 1) := by decide +kernel
theorem dX7_mayWaitToPass_15 : decode cX7_mayWaitToPass 15 = .ok (.iload 5, 2) := by decide +kernel
theorem dX7_mayWaitToPass_17 : decode cX7_mayWaitToPass 17 = .ok (.invokevirtual 134, 3) := by decide +kernel
theorem dX7_mayWaitToPass_20 : decode cX7_mayWaitToPass 20 = .ok (.invokevirtual 145, 3) := by decide +kernel
theorem dX7_mayWaitToPass_23 : decode cX7_mayWaitToPass 23 = .ok (.invokevirtual 137, 3) := by decide +kernel
theorem dX7_mayWaitToPass_26 : decode cX7_mayWaitToPass 26 = .ok (.return_, 1) := by decide +kernel
set_option maxRecDepth 20000 in
theorem ggX7_mayWait_X9_at : GoodIn wsX7_mayWait wsX9_at := goodIn_r _ [4] (by decide +kernel) (by decide +kernel)
set_option maxRecDepth 20000 in
theorem gX7_mayWait_X9_at_n39 : GoodIn wsX7_mayWait (wsX9_at) := ggX7_mayWait_X9_at
set_option maxRecDepth 20000 in
theorem ggX7_mayWait_X9_put : GoodIn wsX7_mayWait wsX9_put := goodIn_r _ [6] (by decide +kernel) (by decide +kernel)
set_option maxRecDepth 20000 in
theorem gX7_mayWait_X9_put_n80 : GoodIn wsX7_mayWait (wsX9_put) := ggX7_mayWait_X9_put
theorem dX7_mayWait_0 : decode cX7_mayWait 0 = .ok (.iload_n 1, 1) := by decide +kernel
theorem dX7_mayWait_1 : decode cX7_mayWait 1 = .ok (.bipush 32, 2) := by decide +kernel
theorem dX7_mayWait_3 : decode cX7_mayWait 3 = .ok (.imul, 1) := by decide +kernel
theorem dX7_mayWait_4 : decode cX7_mayWait 4 = .ok (.iload_n 2, 1) := by decide +kernel
theorem dX7_mayWait_5 : decode cX7_mayWait 5 = .ok (.iadd, 1) := by decide +kernel
theorem dX7_mayWait_6 : decode cX7_mayWait 6 = .ok (.istore 4, 2) := by decide +kernel
theorem dX7_mayWait_8 : decode cX7_mayWait 8 = .ok (.iload_n 3, 1) := by decide +kernel
theorem dX7_mayWait_9 : decode cX7_mayWait 9 = .ok (.aload_n 0, 1) := by decide +kernel
theorem dX7_mayWait_10 : decode cX7_mayWait 10 = .ok (.getfield 18, 3) := by decide +kernel
theorem dX7_mayWait_13 : decode cX7_mayWait 13 = .ok (.iload 4, 2) := by decide +kernel
theorem dX7_mayWait_15 : decode cX7_mayWait 15 = .ok (.invokestatic 39, 3) := by decide +kernel
theorem dX7_mayWait_18 : decode cX7_mayWait 18 = .ok (.if_icmp .le 13, 3) := by decide +kernel
theorem dX7_mayWait_21 : decode cX7_mayWait 21 = .ok (.aload_n 0, 1) := by decide +kernel
theorem dX7_mayWait_22 : decode cX7_mayWait 22 = .ok (.getfield 18, 3) := by decide +kernel
theorem dX7_mayWait_25 : decode cX7_mayWait 25 = .ok (.iload 4, 2) := by decide +kernel
theorem dX7_mayWait_27 : decode cX7_mayWait 27 = .ok (.iload_n 3, 1) := by decide +kernel
theorem dX7_mayWait_28 : decode cX7_mayWait 28 = .ok (.invokestatic 80, 3) := by decide +kernel
theorem dX7_mayWait_31 : decode cX7_mayWait 31 = .ok (.return_, 1) := by decide +kernel
set_option maxRecDepth 20000 in
theorem ggX7_latestAt_X9_at : GoodIn wsX7_latestAt wsX9_at := goodIn_r _ [4] (by decide +kernel) (by decide +kernel)
set_option maxRecDepth 20000 in
theorem gX7_latestAt_X9_at_n39 : GoodIn wsX7_latestAt (wsX9_at) := ggX7_latestAt_X9_at
theorem dX7_latestAt_0 : decode cX7_latestAt 0 = .ok (.iload_n 2, 1) := by decide +kernel
theorem dX7_latestAt_1 : decode cX7_latestAt 1 = .ok (.iconst (-1), 1) := by decide +kernel
theorem dX7_latestAt_2 : decode cX7_latestAt 2 = .ok (.if_icmp .ne 7, 3) := by decide +kernel
theorem dX7_latestAt_5 : decode cX7_latestAt 5 = .ok (.iconst (-1), 1) := by decide +kernel
theorem dX7_latestAt_6 : decode cX7_latestAt 6 = .ok (.goto 16, 3) := by decide +kernel
theorem dX7_latestAt_9 : decode cX7_latestAt 9 = .ok (.aload_n 0, 1) := by decide +kernel
theorem dX7_latestAt_10 : decode cX7_latestAt 10 = .ok (.getfield 18, 3) := by decide +kernel
theorem dX7_latestAt_13 : decode cX7_latestAt 13 = .ok (.iload_n 1, 1) := by decide +kernel
theorem dX7_latestAt_14 : decode cX7_latestAt 14 = .ok (.bipush 32, 2) := by decide +kernel
theorem dX7_latestAt_16 : decode cX7_latestAt 16 = .ok (.imul, 1) := by decide +kernel
theorem dX7_latestAt_17 : decode cX7_latestAt 17 = .ok (.iload_n 2, 1) := by decide +kernel
theorem dX7_latestAt_18 : decode cX7_latestAt 18 = .ok (.iadd, 1) := by decide +kernel
theorem dX7_latestAt_19 : decode cX7_latestAt 19 = .ok (.invokestatic 39, 3) := by decide +kernel
theorem dX7_latestAt_22 : decode cX7_latestAt 22 = .ok (.ireturn, 1) := by decide +kernel
set_option maxRecDepth 20000 in
theorem ggX7_writeRow_X7_firstStep : GoodIn wsX7_writeRow wsX7_firstStep := goodIn_r _ [8, 9, 10, 7, 11, 12, 13, 14, 15, 16, 17, 18, 19, 20, 21, 22, 23, 24, 25, 26, 27, 28, 29, 30, 31, 32, 33, 34, 35, 36, 37, 38, 39, 40, 41, 42, 43, 44, 57, 58, 59, 60, 61, 62, 63, 64, 65, 66, 67, 50, 51, 52, 53, 54, 55, 56, 68, 69, 70, 71, 72, 73, 74] (by decide +kernel) (by decide +kernel)
set_option maxRecDepth 20000 in
theorem gX7_writeRow_X7_firstStep : GoodIn wsX7_writeRow (wsV RX7 148 RX7 yX7_firstStep wsX7_firstStep) := goodIn_app (goodIn_of _ (by decide +kernel)) ggX7_writeRow_X7_firstStep
set_option maxRecDepth 20000 in
theorem ggX7_writeRow_X9_put : GoodIn wsX7_writeRow wsX9_put := goodIn_r _ [46] (by decide +kernel) (by decide +kernel)
set_option maxRecDepth 20000 in
theorem gX7_writeRow_X9_put_n80 : GoodIn wsX7_writeRow (wsX9_put) := ggX7_writeRow_X9_put
set_option maxRecDepth 20000 in
theorem ggX7_writeRow_X7_otherTrain : GoodIn wsX7_writeRow wsX7_otherTrain := goodIn_r _ [49] (by decide +kernel) (by decide +kernel)
set_option maxRecDepth 20000 in
theorem gX7_writeRow_X7_otherTrain : GoodIn wsX7_writeRow (va_wsS RX7 103 yX7_otherTrain wsX7_otherTrain) := goodIn_app (goodIn_of _ (by decide +kernel)) ggX7_writeRow_X7_otherTrain
set_option maxRecDepth 20000 in
theorem ggX7_writeRow_X7_isNewTrain : GoodIn wsX7_writeRow wsX7_isNewTrain := goodIn_r _ [29] (by decide +kernel) (by decide +kernel)
set_option maxRecDepth 20000 in
theorem gX7_writeRow_X7_isNewTrain : GoodIn wsX7_writeRow (va_wsS RX7 123 yX7_isNewTrain wsX7_isNewTrain) := goodIn_app (goodIn_of _ (by decide +kernel)) ggX7_writeRow_X7_isNewTrain
set_option maxRecDepth 20000 in
theorem ggX7_writeRow_X3_arrival : GoodIn wsX7_writeRow wsX3_arrival := goodIn_r _ [34, 35, 36, 37, 38, 39, 40, 41, 42, 43, 44, 19, 20, 21, 57, 58, 59, 68, 69, 70, 71, 72, 73, 74, 60, 61, 62, 63, 64, 65, 66, 67] (by decide +kernel) (by decide +kernel)
set_option maxRecDepth 20000 in
theorem gX7_writeRow_X3_arrival : GoodIn wsX7_writeRow (wsV RX7 126 RX3 yX3_arrival wsX3_arrival) := goodIn_app (goodIn_of _ (by decide +kernel)) ggX7_writeRow_X3_arrival
set_option maxRecDepth 20000 in
theorem ggX7_writeRow_X7_standOver : GoodIn wsX7_writeRow wsX7_standOver := goodIn_r _ [11, 12, 13, 14, 15, 16, 17, 18, 19, 20, 21, 57, 58, 59, 60, 61, 62, 63, 64, 65, 66, 67] (by decide +kernel) (by decide +kernel)
set_option maxRecDepth 20000 in
theorem gX7_writeRow_X7_standOver : GoodIn wsX7_writeRow (va_wsS RX7 151 yX7_standOver wsX7_standOver) := goodIn_app (goodIn_of _ (by decide +kernel)) ggX7_writeRow_X7_standOver
theorem dX7_writeRow_0 : decode cX7_writeRow 0 = .ok (.iload_n 2, 1) := by decide +kernel
theorem dX7_writeRow_1 : decode cX7_writeRow 1 = .ok (.istore 5, 2) := by decide +kernel
theorem dX7_writeRow_3 : decode cX7_writeRow 3 = .ok (.iload_n 3, 1) := by decide +kernel
theorem dX7_writeRow_4 : decode cX7_writeRow 4 = .ok (.istore 6, 2) := by decide +kernel
theorem dX7_writeRow_6 : decode cX7_writeRow 6 = .ok (.iconst 0, 1) := by decide +kernel
theorem dX7_writeRow_7 : decode cX7_writeRow 7 = .ok (.istore 7, 2) := by decide +kernel
theorem dX7_writeRow_9 : decode cX7_writeRow 9 = .ok (.iload 7, 2) := by decide +kernel
theorem dX7_writeRow_11 : decode cX7_writeRow 11 = .ok (.iload 4, 2) := by decide +kernel
theorem dX7_writeRow_13 : decode cX7_writeRow 13 = .ok (.if_icmp .ge 89, 3) := by decide +kernel
theorem dX7_writeRow_16 : decode cX7_writeRow 16 = .ok (.aload_n 0, 1) := by decide +kernel
theorem dX7_writeRow_17 : decode cX7_writeRow 17 = .ok (.aload_n 1, 1) := by decide +kernel
theorem dX7_writeRow_18 : decode cX7_writeRow 18 = .ok (.iload 5, 2) := by decide +kernel
theorem dX7_writeRow_20 : decode cX7_writeRow 20 = .ok (.iload 6, 2) := by decide +kernel
theorem dX7_writeRow_22 : decode cX7_writeRow 22 = .ok (.iload 4, 2) := by decide +kernel
theorem dX7_writeRow_24 : decode cX7_writeRow 24 = .ok (.iconst 1, 1) := by decide +kernel
theorem dX7_writeRow_25 : decode cX7_writeRow 25 = .ok (.isub, 1) := by decide +kernel
theorem dX7_writeRow_26 : decode cX7_writeRow 26 = .ok (.iload 7, 2) := by decide +kernel
theorem dX7_writeRow_28 : decode cX7_writeRow 28 = .ok (.isub, 1) := by decide +kernel
theorem dX7_writeRow_29 : decode cX7_writeRow 29 = .ok (.invokevirtual 148, 3) := by decide +kernel
theorem dX7_writeRow_32 : decode cX7_writeRow 32 = .ok (.istore 8, 2) := by decide +kernel
theorem dX7_writeRow_34 : decode cX7_writeRow 34 = .ok (.aload_n 0, 1) := by decide +kernel
theorem dX7_writeRow_35 : decode cX7_writeRow 35 = .ok (.getfield 21, 3) := by decide +kernel
theorem dX7_writeRow_38 : decode cX7_writeRow 38 = .ok (.iload 7, 2) := by decide +kernel
theorem dX7_writeRow_40 : decode cX7_writeRow 40 = .ok (.iload 8, 2) := by decide +kernel
theorem dX7_writeRow_42 : decode cX7_writeRow 42 = .ok (.invokestatic 80, 3) := by decide +kernel
theorem dX7_writeRow_45 : decode cX7_writeRow 45 = .ok (.iload 8, 2) := by decide +kernel
theorem dX7_writeRow_47 : decode cX7_writeRow 47 = .ok (.bipush 30, 2) := by decide +kernel
theorem dX7_writeRow_49 : decode cX7_writeRow 49 = .ok (.if_icmp .ne 22, 3) := by decide +kernel
theorem dX7_writeRow_52 : decode cX7_writeRow 52 = .ok (.iload 6, 2) := by decide +kernel
theorem dX7_writeRow_54 : decode cX7_writeRow 54 = .ok (.aload_n 0, 1) := by decide +kernel
theorem dX7_writeRow_55 : decode cX7_writeRow 55 = .ok (.getfield 28, 3) := by decide +kernel
theorem dX7_writeRow_58 : decode cX7_writeRow 58 = .ok (.iadd, 1) := by decide +kernel
theorem dX7_writeRow_59 : decode cX7_writeRow 59 = .ok (.istore 6, 2) := by decide +kernel
theorem dX7_writeRow_61 : decode cX7_writeRow 61 = .ok (.iload 5, 2) := by decide +kernel
theorem dX7_writeRow_63 : decode cX7_writeRow 63 = .ok (.invokestatic 103, 3) := by decide +kernel
theorem dX7_writeRow_66 : decode cX7_writeRow 66 = .ok (.istore 5, 2) := by decide +kernel
theorem dX7_writeRow_68 : decode cX7_writeRow 68 = .ok (.goto 28, 3) := by decide +kernel
theorem dX7_writeRow_71 : decode cX7_writeRow 71 = .ok (.aload_n 1, 1) := by decide +kernel
theorem dX7_writeRow_72 : decode cX7_writeRow 72 = .ok (.iload 8, 2) := by decide +kernel
theorem dX7_writeRow_74 : decode cX7_writeRow 74 = .ok (.iload 5, 2) := by decide +kernel
theorem dX7_writeRow_76 : decode cX7_writeRow 76 = .ok (.invokestatic 123, 3) := by decide +kernel
theorem dX7_writeRow_79 : decode cX7_writeRow 79 = .ok (.iload 6, 2) := by decide +kernel
theorem dX7_writeRow_81 : decode cX7_writeRow 81 = .ok (.invokevirtual 126, 3) := by decide +kernel
theorem dX7_writeRow_84 : decode cX7_writeRow 84 = .ok (.istore 6, 2) := by decide +kernel
theorem dX7_writeRow_86 : decode cX7_writeRow 86 = .ok (.aload_n 1, 1) := by decide +kernel
theorem dX7_writeRow_87 : decode cX7_writeRow 87 = .ok (.iload 8, 2) := by decide +kernel
theorem dX7_writeRow_89 : decode cX7_writeRow 89 = .ok (.iload 5, 2) := by decide +kernel
theorem dX7_writeRow_91 : decode cX7_writeRow 91 = .ok (.invokestatic 151, 3) := by decide +kernel
theorem dX7_writeRow_94 : decode cX7_writeRow 94 = .ok (.istore 5, 2) := by decide +kernel
theorem dX7_writeRow_96 : decode cX7_writeRow 96 = .ok (.iinc 7 1, 3) := by decide +kernel
theorem dX7_writeRow_99 : decode cX7_writeRow 99 = .ok (.goto (-90), 3) := by decide +kernel
theorem dX7_writeRow_102 : decode cX7_writeRow 102 = .ok (.aload_n 0, 1) := by decide +kernel
theorem dX7_writeRow_103 : decode cX7_writeRow 103 = .ok (.iload 4, 2) := by decide +kernel
theorem dX7_writeRow_105 : decode cX7_writeRow 105 = .ok (.putfield 24, 3) := by decide +kernel
theorem dX7_writeRow_108 : decode cX7_writeRow 108 = .ok (.return_, 1) := by decide +kernel
set_option maxRecDepth 20000 in
theorem ggX7_firstStep_X7_standOver : GoodIn wsX7_firstStep wsX7_standOver := goodIn_r _ [4, 5, 6, 7, 8, 9, 10, 11, 12, 13, 14, 38, 39, 40, 41, 42, 43, 44, 45, 46, 47, 48] (by decide +kernel) (by decide +kernel)
set_option maxRecDepth 20000 in
theorem gX7_firstStep_X7_standOver : GoodIn wsX7_firstStep (va_wsS RX7 151 yX7_standOver wsX7_standOver) := goodIn_app (goodIn_of _ (by decide +kernel)) ggX7_firstStep_X7_standOver
set_option maxRecDepth 20000 in
theorem ggX7_firstStep_X7_latestAt : GoodIn wsX7_firstStep wsX7_latestAt := goodIn_r _ [18, 19, 12, 13, 14, 49, 50, 51, 52, 53, 54, 55] (by decide +kernel) (by decide +kernel)
set_option maxRecDepth 20000 in
theorem gX7_firstStep_X7_latestAt : GoodIn wsX7_firstStep (wsV RX7 134 RX7 yX7_latestAt wsX7_latestAt) := goodIn_app (goodIn_of _ (by decide +kernel)) ggX7_firstStep_X7_latestAt
set_option maxRecDepth 20000 in
theorem ggX7_firstStep_X7_isNewTrain : GoodIn wsX7_firstStep wsX7_isNewTrain := goodIn_r _ [22] (by decide +kernel) (by decide +kernel)
set_option maxRecDepth 20000 in
theorem gX7_firstStep_X7_isNewTrain : GoodIn wsX7_firstStep (va_wsS RX7 123 yX7_isNewTrain wsX7_isNewTrain) := goodIn_app (goodIn_of _ (by decide +kernel)) ggX7_firstStep_X7_isNewTrain
set_option maxRecDepth 20000 in
theorem ggX7_firstStep_X3_arrival : GoodIn wsX7_firstStep wsX3_arrival := goodIn_r _ [27, 28, 29, 30, 31, 32, 33, 34, 35, 36, 37, 12, 13, 14, 38, 39, 40, 56, 57, 58, 59, 60, 61, 62, 41, 42, 43, 44, 45, 46, 47, 48] (by decide +kernel) (by decide +kernel)
set_option maxRecDepth 20000 in
theorem gX7_firstStep_X3_arrival : GoodIn wsX7_firstStep (wsV RX7 126 RX3 yX3_arrival wsX3_arrival) := goodIn_app (goodIn_of _ (by decide +kernel)) ggX7_firstStep_X3_arrival
theorem dX7_firstStep_0 : decode cX7_firstStep 0 = .ok (.iconst 0, 1) := by decide +kernel
theorem dX7_firstStep_1 : decode cX7_firstStep 1 = .ok (.istore 5, 2) := by decide +kernel
theorem dX7_firstStep_3 : decode cX7_firstStep 3 = .ok (.iload 5, 2) := by decide +kernel
theorem dX7_firstStep_5 : decode cX7_firstStep 5 = .ok (.aload_n 1, 1) := by decide +kernel
theorem dX7_firstStep_6 : decode cX7_firstStep 6 = .ok (.getfield 62, 3) := by decide +kernel
theorem dX7_firstStep_9 : decode cX7_firstStep 9 = .ok (.getfield 110, 3) := by decide +kernel
theorem dX7_firstStep_12 : decode cX7_firstStep 12 = .ok (.if_icmp .ge 43, 3) := by decide +kernel
theorem dX7_firstStep_15 : decode cX7_firstStep 15 = .ok (.aload_n 0, 1) := by decide +kernel
theorem dX7_firstStep_16 : decode cX7_firstStep 16 = .ok (.iload 4, 2) := by decide +kernel
theorem dX7_firstStep_18 : decode cX7_firstStep 18 = .ok (.aload_n 1, 1) := by decide +kernel
theorem dX7_firstStep_19 : decode cX7_firstStep 19 = .ok (.iload 5, 2) := by decide +kernel
theorem dX7_firstStep_21 : decode cX7_firstStep 21 = .ok (.iload_n 2, 1) := by decide +kernel
theorem dX7_firstStep_22 : decode cX7_firstStep 22 = .ok (.invokestatic 151, 3) := by decide +kernel
theorem dX7_firstStep_25 : decode cX7_firstStep 25 = .ok (.invokevirtual 134, 3) := by decide +kernel
theorem dX7_firstStep_28 : decode cX7_firstStep 28 = .ok (.istore 6, 2) := by decide +kernel
theorem dX7_firstStep_30 : decode cX7_firstStep 30 = .ok (.aload_n 1, 1) := by decide +kernel
theorem dX7_firstStep_31 : decode cX7_firstStep 31 = .ok (.iload 5, 2) := by decide +kernel
theorem dX7_firstStep_33 : decode cX7_firstStep 33 = .ok (.iload_n 2, 1) := by decide +kernel
theorem dX7_firstStep_34 : decode cX7_firstStep 34 = .ok (.invokestatic 123, 3) := by decide +kernel
theorem dX7_firstStep_37 : decode cX7_firstStep 37 = .ok (.iload_n 3, 1) := by decide +kernel
theorem dX7_firstStep_38 : decode cX7_firstStep 38 = .ok (.invokevirtual 126, 3) := by decide +kernel
theorem dX7_firstStep_41 : decode cX7_firstStep 41 = .ok (.iload 6, 2) := by decide +kernel
theorem dX7_firstStep_43 : decode cX7_firstStep 43 = .ok (.if_icmp .gt 6, 3) := by decide +kernel
theorem dX7_firstStep_46 : decode cX7_firstStep 46 = .ok (.iload 5, 2) := by decide +kernel
theorem dX7_firstStep_48 : decode cX7_firstStep 48 = .ok (.ireturn, 1) := by decide +kernel
theorem dX7_firstStep_49 : decode cX7_firstStep 49 = .ok (.iinc 5 1, 3) := by decide +kernel
theorem dX7_firstStep_52 : decode cX7_firstStep 52 = .ok (.goto (-49), 3) := by decide +kernel
theorem dX7_firstStep_55 : decode cX7_firstStep 55 = .ok (.bipush 30, 2) := by decide +kernel
theorem dX7_firstStep_57 : decode cX7_firstStep 57 = .ok (.ireturn, 1) := by decide +kernel
theorem dX8_init_0 : decode cX8_init 0 = .ok (.aload_n 0, 1) := by decide +kernel
theorem dX8_init_1 : decode cX8_init 1 = .ok (.invokespecial 3, 3) := by decide +kernel
theorem dX8_init_4 : decode cX8_init 4 = .ok (.aload_n 0, 1) := by decide +kernel
theorem dX8_init_5 : decode cX8_init 5 = .ok (.bipush 60, 2) := by decide +kernel
theorem dX8_init_7 : decode cX8_init 7 = .ok (.newarray .int, 2) := by decide +kernel
theorem dX8_init_9 : decode cX8_init 9 = .ok (.putfield 11, 3) := by decide +kernel
theorem dX8_init_12 : decode cX8_init 12 = .ok (.aload_n 0, 1) := by decide +kernel
theorem dX8_init_13 : decode cX8_init 13 = .ok (.sipush 200, 3) := by decide +kernel
theorem dX8_init_16 : decode cX8_init 16 = .ok (.newarray .int, 2) := by decide +kernel
theorem dX8_init_18 : decode cX8_init 18 = .ok (.putfield 15, 3) := by decide +kernel
theorem dX8_init_21 : decode cX8_init 21 = .ok (.aload_n 0, 1) := by decide +kernel
theorem dX8_init_22 : decode cX8_init 22 = .ok (.sipush 200, 3) := by decide +kernel
theorem dX8_init_25 : decode cX8_init 25 = .ok (.newarray .int, 2) := by decide +kernel
theorem dX8_init_27 : decode cX8_init 27 = .ok (.putfield 18, 3) := by decide +kernel
theorem dX8_init_30 : decode cX8_init 30 = .ok (.aload_n 0, 1) := by decide +kernel
theorem dX8_init_31 : decode cX8_init 31 = .ok (.sipush 200, 3) := by decide +kernel
theorem dX8_init_34 : decode cX8_init 34 = .ok (.newarray .int, 2) := by decide +kernel
theorem dX8_init_36 : decode cX8_init 36 = .ok (.putfield 21, 3) := by decide +kernel
theorem dX8_init_39 : decode cX8_init 39 = .ok (.aload_n 0, 1) := by decide +kernel
theorem dX8_init_40 : decode cX8_init 40 = .ok (.sipush 200, 3) := by decide +kernel
theorem dX8_init_43 : decode cX8_init 43 = .ok (.newarray .int, 2) := by decide +kernel
theorem dX8_init_45 : decode cX8_init 45 = .ok (.putfield 24, 3) := by decide +kernel
theorem dX8_init_48 : decode cX8_init 48 = .ok (.aload_n 0, 1) := by decide +kernel
theorem dX8_init_49 : decode cX8_init 49 = .ok (.iconst 0, 1) := by decide +kernel
theorem dX8_init_50 : decode cX8_init 50 = .ok (.putfield 27, 3) := by decide +kernel
theorem dX8_init_53 : decode cX8_init 53 = .ok (.aload_n 0, 1) := by decide +kernel
theorem dX8_init_54 : decode cX8_init 54 = .ok (.iconst 0, 1) := by decide +kernel
theorem dX8_init_55 : decode cX8_init 55 = .ok (.putfield 31, 3) := by decide +kernel
theorem dX8_init_58 : decode cX8_init 58 = .ok (.return_, 1) := by decide +kernel
set_option maxRecDepth 20000 in
theorem ggX8_add_X0_isThere : GoodIn wsX8_add wsX0_isThere := goodIn_r _ [7, 8, 19, 20, 21, 22] (by decide +kernel) (by decide +kernel)
set_option maxRecDepth 20000 in
theorem gX8_add_X0_isThere : GoodIn wsX8_add (wsV RX8 34 RX0 yX0_isThere wsX0_isThere) := goodIn_app (goodIn_of _ (by decide +kernel)) ggX8_add_X0_isThere
set_option maxRecDepth 20000 in
theorem ggX8_add_X9_put : GoodIn wsX8_add wsX9_put := goodIn_r _ [11] (by decide +kernel) (by decide +kernel)
set_option maxRecDepth 20000 in
theorem gX8_add_X9_put_n40 : GoodIn wsX8_add (wsX9_put) := ggX8_add_X9_put
theorem dX8_add_0 : decode cX8_add 0 = .ok (.aload_n 1, 1) := by decide +kernel
theorem dX8_add_1 : decode cX8_add 1 = .ok (.iload_n 2, 1) := by decide +kernel
theorem dX8_add_2 : decode cX8_add 2 = .ok (.invokevirtual 34, 3) := by decide +kernel
theorem dX8_add_5 : decode cX8_add 5 = .ok (.ifCond .ne 6, 3) := by decide +kernel
theorem dX8_add_8 : decode cX8_add 8 = .ok (.bipush (-2), 2) := by decide +kernel
theorem dX8_add_10 : decode cX8_add 10 = .ok (.ireturn, 1) := by decide +kernel
theorem dX8_add_11 : decode cX8_add 11 = .ok (.aload_n 0, 1) := by decide +kernel
theorem dX8_add_12 : decode cX8_add 12 = .ok (.getfield 27, 3) := by decide +kernel
theorem dX8_add_15 : decode cX8_add 15 = .ok (.bipush 60, 2) := by decide +kernel
theorem dX8_add_17 : decode cX8_add 17 = .ok (.if_icmp .lt 6, 3) := by decide +kernel
theorem dX8_add_20 : decode cX8_add 20 = .ok (.bipush (-5), 2) := by decide +kernel
theorem dX8_add_22 : decode cX8_add 22 = .ok (.ireturn, 1) := by decide +kernel
theorem dX8_add_23 : decode cX8_add 23 = .ok (.aload_n 0, 1) := by decide +kernel
theorem dX8_add_24 : decode cX8_add 24 = .ok (.getfield 11, 3) := by decide +kernel
theorem dX8_add_27 : decode cX8_add 27 = .ok (.aload_n 0, 1) := by decide +kernel
theorem dX8_add_28 : decode cX8_add 28 = .ok (.getfield 27, 3) := by decide +kernel
theorem dX8_add_31 : decode cX8_add 31 = .ok (.iload_n 2, 1) := by decide +kernel
theorem dX8_add_32 : decode cX8_add 32 = .ok (.invokestatic 40, 3) := by decide +kernel
theorem dX8_add_35 : decode cX8_add 35 = .ok (.aload_n 0, 1) := by decide +kernel
theorem dX8_add_36 : decode cX8_add 36 = .ok (.dup, 1) := by decide +kernel
theorem dX8_add_37 : decode cX8_add 37 = .ok (.getfield 27, 3) := by decide +kernel
theorem dX8_add_40 : decode cX8_add 40 = .ok (.iconst 1, 1) := by decide +kernel
theorem dX8_add_41 : decode cX8_add 41 = .ok (.iadd, 1) := by decide +kernel
theorem dX8_add_42 : decode cX8_add 42 = .ok (.putfield 27, 3) := by decide +kernel
theorem dX8_add_45 : decode cX8_add 45 = .ok (.aload_n 0, 1) := by decide +kernel
theorem dX8_add_46 : decode cX8_add 46 = .ok (.getfield 27, 3) := by decide +kernel
theorem dX8_add_49 : decode cX8_add 49 = .ok (.iconst 1, 1) := by decide +kernel
theorem dX8_add_50 : decode cX8_add 50 = .ok (.isub, 1) := by decide +kernel
theorem dX8_add_51 : decode cX8_add 51 = .ok (.ireturn, 1) := by decide +kernel
set_option maxRecDepth 20000 in
theorem ggX8_tell_X9_isHour : GoodIn wsX8_tell wsX9_isHour := goodIn_r _ [8, 9, 10, 7, 11] (by decide +kernel) (by decide +kernel)
set_option maxRecDepth 20000 in
theorem gX8_tell_X9_isHour_n44 : GoodIn wsX8_tell (wsX9_isHour) := ggX8_tell_X9_isHour
set_option maxRecDepth 20000 in
theorem ggX8_tell_X9_isWithin : GoodIn wsX8_tell wsX9_isWithin := goodIn_r _ [11] (by decide +kernel) (by decide +kernel)
set_option maxRecDepth 20000 in
theorem gX8_tell_X9_isWithin_n47 : GoodIn wsX8_tell (wsX9_isWithin) := ggX8_tell_X9_isWithin
set_option maxRecDepth 20000 in
theorem ggX8_tell_X8_isThere : GoodIn wsX8_tell wsX8_isThere := goodIn_r _ [16, 17, 26, 27, 28, 29, 30, 31, 32] (by decide +kernel) (by decide +kernel)
set_option maxRecDepth 20000 in
theorem gX8_tell_X8_isThere : GoodIn wsX8_tell (wsV RX8 51 RX8 yX8_isThere wsX8_isThere) := goodIn_app (goodIn_of _ (by decide +kernel)) ggX8_tell_X8_isThere
set_option maxRecDepth 20000 in
theorem ggX8_tell_X0_isThere : GoodIn wsX8_tell wsX0_isThere := goodIn_r _ [22, 23, 33, 34, 35, 36] (by decide +kernel) (by decide +kernel)
set_option maxRecDepth 20000 in
theorem gX8_tell_X0_isThere : GoodIn wsX8_tell (wsV RX8 34 RX0 yX0_isThere wsX0_isThere) := goodIn_app (goodIn_of _ (by decide +kernel)) ggX8_tell_X0_isThere
set_option maxRecDepth 20000 in
theorem ggX8_tell_X9_put : GoodIn wsX8_tell wsX9_put := goodIn_r _ [25] (by decide +kernel) (by decide +kernel)
set_option maxRecDepth 20000 in
theorem gX8_tell_X9_put_n40 : GoodIn wsX8_tell (wsX9_put) := ggX8_tell_X9_put
theorem dX8_tell_0 : decode cX8_tell 0 = .ok (.iload 4, 2) := by decide +kernel
theorem dX8_tell_2 : decode cX8_tell 2 = .ok (.invokestatic 44, 3) := by decide +kernel
theorem dX8_tell_5 : decode cX8_tell 5 = .ok (.ifCond .eq 15, 3) := by decide +kernel
theorem dX8_tell_8 : decode cX8_tell 8 = .ok (.iload 5, 2) := by decide +kernel
theorem dX8_tell_10 : decode cX8_tell 10 = .ok (.iconst 0, 1) := by decide +kernel
theorem dX8_tell_11 : decode cX8_tell 11 = .ok (.sipush 1000, 3) := by decide +kernel
theorem dX8_tell_14 : decode cX8_tell 14 = .ok (.invokestatic 47, 3) := by decide +kernel
theorem dX8_tell_17 : decode cX8_tell 17 = .ok (.ifCond .ne 5, 3) := by decide +kernel
theorem dX8_tell_20 : decode cX8_tell 20 = .ok (.iconst (-1), 1) := by decide +kernel
theorem dX8_tell_21 : decode cX8_tell 21 = .ok (.ireturn, 1) := by decide +kernel
theorem dX8_tell_22 : decode cX8_tell 22 = .ok (.aload_n 0, 1) := by decide +kernel
theorem dX8_tell_23 : decode cX8_tell 23 = .ok (.iload_n 2, 1) := by decide +kernel
theorem dX8_tell_24 : decode cX8_tell 24 = .ok (.invokevirtual 51, 3) := by decide +kernel
theorem dX8_tell_27 : decode cX8_tell 27 = .ok (.ifCond .eq 11, 3) := by decide +kernel
theorem dX8_tell_30 : decode cX8_tell 30 = .ok (.aload_n 1, 1) := by decide +kernel
theorem dX8_tell_31 : decode cX8_tell 31 = .ok (.iload_n 3, 1) := by decide +kernel
theorem dX8_tell_32 : decode cX8_tell 32 = .ok (.invokevirtual 34, 3) := by decide +kernel
theorem dX8_tell_35 : decode cX8_tell 35 = .ok (.ifCond .ne 6, 3) := by decide +kernel
theorem dX8_tell_38 : decode cX8_tell 38 = .ok (.bipush (-2), 2) := by decide +kernel
theorem dX8_tell_40 : decode cX8_tell 40 = .ok (.ireturn, 1) := by decide +kernel
theorem dX8_tell_41 : decode cX8_tell 41 = .ok (.aload_n 0, 1) := by decide +kernel
theorem dX8_tell_42 : decode cX8_tell 42 = .ok (.getfield 31, 3) := by decide +kernel
theorem dX8_tell_45 : decode cX8_tell 45 = .ok (.sipush 200, 3) := by decide +kernel
theorem dX8_tell_48 : decode cX8_tell 48 = .ok (.if_icmp .lt 6, 3) := by decide +kernel
theorem dX8_tell_51 : decode cX8_tell 51 = .ok (.bipush (-5), 2) := by decide +kernel
theorem dX8_tell_53 : decode cX8_tell 53 = .ok (.ireturn, 1) := by decide +kernel
theorem dX8_tell_54 : decode cX8_tell 54 = .ok (.aload_n 0, 1) := by decide +kernel
theorem dX8_tell_55 : decode cX8_tell 55 = .ok (.getfield 15, 3) := by decide +kernel
theorem dX8_tell_58 : decode cX8_tell 58 = .ok (.aload_n 0, 1) := by decide +kernel
theorem dX8_tell_59 : decode cX8_tell 59 = .ok (.getfield 31, 3) := by decide +kernel
theorem dX8_tell_62 : decode cX8_tell 62 = .ok (.iload_n 2, 1) := by decide +kernel
theorem dX8_tell_63 : decode cX8_tell 63 = .ok (.invokestatic 40, 3) := by decide +kernel
theorem dX8_tell_66 : decode cX8_tell 66 = .ok (.aload_n 0, 1) := by decide +kernel
theorem dX8_tell_67 : decode cX8_tell 67 = .ok (.getfield 18, 3) := by decide +kernel
theorem dX8_tell_70 : decode cX8_tell 70 = .ok (.aload_n 0, 1) := by decide +kernel
theorem dX8_tell_71 : decode cX8_tell 71 = .ok (.getfield 31, 3) := by decide +kernel
theorem dX8_tell_74 : decode cX8_tell 74 = .ok (.iload_n 3, 1) := by decide +kernel
theorem dX8_tell_75 : decode cX8_tell 75 = .ok (.invokestatic 40, 3) := by decide +kernel
theorem dX8_tell_78 : decode cX8_tell 78 = .ok (.aload_n 0, 1) := by decide +kernel
theorem dX8_tell_79 : decode cX8_tell 79 = .ok (.getfield 21, 3) := by decide +kernel
theorem dX8_tell_82 : decode cX8_tell 82 = .ok (.aload_n 0, 1) := by decide +kernel
theorem dX8_tell_83 : decode cX8_tell 83 = .ok (.getfield 31, 3) := by decide +kernel
theorem dX8_tell_86 : decode cX8_tell 86 = .ok (.iload 4, 2) := by decide +kernel
theorem dX8_tell_88 : decode cX8_tell 88 = .ok (.invokestatic 40, 3) := by decide +kernel
theorem dX8_tell_91 : decode cX8_tell 91 = .ok (.aload_n 0, 1) := by decide +kernel
theorem dX8_tell_92 : decode cX8_tell 92 = .ok (.getfield 24, 3) := by decide +kernel
theorem dX8_tell_95 : decode cX8_tell 95 = .ok (.aload_n 0, 1) := by decide +kernel
theorem dX8_tell_96 : decode cX8_tell 96 = .ok (.getfield 31, 3) := by decide +kernel
theorem dX8_tell_99 : decode cX8_tell 99 = .ok (.iload 5, 2) := by decide +kernel
theorem dX8_tell_101 : decode cX8_tell 101 = .ok (.invokestatic 40, 3) := by decide +kernel
theorem dX8_tell_104 : decode cX8_tell 104 = .ok (.aload_n 0, 1) := by decide +kernel
theorem dX8_tell_105 : decode cX8_tell 105 = .ok (.dup, 1) := by decide +kernel
theorem dX8_tell_106 : decode cX8_tell 106 = .ok (.getfield 31, 3) := by decide +kernel
theorem dX8_tell_109 : decode cX8_tell 109 = .ok (.iconst 1, 1) := by decide +kernel
theorem dX8_tell_110 : decode cX8_tell 110 = .ok (.iadd, 1) := by decide +kernel
theorem dX8_tell_111 : decode cX8_tell 111 = .ok (.putfield 31, 3) := by decide +kernel
theorem dX8_tell_114 : decode cX8_tell 114 = .ok (.aload_n 0, 1) := by decide +kernel
theorem dX8_tell_115 : decode cX8_tell 115 = .ok (.getfield 31, 3) := by decide +kernel
theorem dX8_tell_118 : decode cX8_tell 118 = .ok (.ireturn, 1) := by decide +kernel
set_option maxRecDepth 20000 in
theorem ggX8_carOver_X8_isThere : GoodIn wsX8_carOver wsX8_isThere := goodIn_r _ [11, 12, 21, 22, 23, 24, 25, 26, 27] (by decide +kernel) (by decide +kernel)
set_option maxRecDepth 20000 in
theorem gX8_carOver_X8_isThere : GoodIn wsX8_carOver (wsV RX8 51 RX8 yX8_isThere wsX8_isThere) := goodIn_app (goodIn_of _ (by decide +kernel)) ggX8_carOver_X8_isThere
set_option maxRecDepth 20000 in
theorem ggX8_carOver_X9_isHour : GoodIn wsX8_carOver wsX9_isHour := goodIn_r _ [15, 16, 17, 14, 18] (by decide +kernel) (by decide +kernel)
set_option maxRecDepth 20000 in
theorem gX8_carOver_X9_isHour_n44 : GoodIn wsX8_carOver (wsX9_isHour) := ggX8_carOver_X9_isHour
set_option maxRecDepth 20000 in
theorem ggX8_carOver_X9_isWithin : GoodIn wsX8_carOver wsX9_isWithin := goodIn_r _ [18] (by decide +kernel) (by decide +kernel)
set_option maxRecDepth 20000 in
theorem gX8_carOver_X9_isWithin_n47 : GoodIn wsX8_carOver (wsX9_isWithin) := ggX8_carOver_X9_isWithin
set_option maxRecDepth 20000 in
theorem ggX8_carOver_X9_at : GoodIn wsX8_carOver wsX9_at := goodIn_r _ [20] (by decide +kernel) (by decide +kernel)
set_option maxRecDepth 20000 in
theorem gX8_carOver_X9_at_n52 : GoodIn wsX8_carOver (wsX9_at) := ggX8_carOver_X9_at
theorem dX8_carOver_0 : decode cX8_carOver 0 = .ok (.aload_n 0, 1) := by decide +kernel
theorem dX8_carOver_1 : decode cX8_carOver 1 = .ok (.iload_n 1, 1) := by decide +kernel
theorem dX8_carOver_2 : decode cX8_carOver 2 = .ok (.invokevirtual 51, 3) := by decide +kernel
theorem dX8_carOver_5 : decode cX8_carOver 5 = .ok (.ifCond .eq 21, 3) := by decide +kernel
theorem dX8_carOver_8 : decode cX8_carOver 8 = .ok (.iload_n 2, 1) := by decide +kernel
theorem dX8_carOver_9 : decode cX8_carOver 9 = .ok (.invokestatic 44, 3) := by decide +kernel
theorem dX8_carOver_12 : decode cX8_carOver 12 = .ok (.ifCond .eq 14, 3) := by decide +kernel
theorem dX8_carOver_15 : decode cX8_carOver 15 = .ok (.iload_n 3, 1) := by decide +kernel
theorem dX8_carOver_16 : decode cX8_carOver 16 = .ok (.iconst 0, 1) := by decide +kernel
theorem dX8_carOver_17 : decode cX8_carOver 17 = .ok (.sipush 1000, 3) := by decide +kernel
theorem dX8_carOver_20 : decode cX8_carOver 20 = .ok (.invokestatic 47, 3) := by decide +kernel
theorem dX8_carOver_23 : decode cX8_carOver 23 = .ok (.ifCond .ne 5, 3) := by decide +kernel
theorem dX8_carOver_26 : decode cX8_carOver 26 = .ok (.iconst (-1), 1) := by decide +kernel
theorem dX8_carOver_27 : decode cX8_carOver 27 = .ok (.ireturn, 1) := by decide +kernel
theorem dX8_carOver_28 : decode cX8_carOver 28 = .ok (.aload_n 0, 1) := by decide +kernel
theorem dX8_carOver_29 : decode cX8_carOver 29 = .ok (.getfield 11, 3) := by decide +kernel
theorem dX8_carOver_32 : decode cX8_carOver 32 = .ok (.iload_n 1, 1) := by decide +kernel
theorem dX8_carOver_33 : decode cX8_carOver 33 = .ok (.invokestatic 52, 3) := by decide +kernel
theorem dX8_carOver_36 : decode cX8_carOver 36 = .ok (.istore 4, 2) := by decide +kernel
theorem dX8_carOver_38 : decode cX8_carOver 38 = .ok (.iconst (-1), 1) := by decide +kernel
theorem dX8_carOver_39 : decode cX8_carOver 39 = .ok (.istore 5, 2) := by decide +kernel
theorem dX8_carOver_41 : decode cX8_carOver 41 = .ok (.iconst 0, 1) := by decide +kernel
theorem dX8_carOver_42 : decode cX8_carOver 42 = .ok (.istore 6, 2) := by decide +kernel
theorem dX8_carOver_44 : decode cX8_carOver 44 = .ok (.iload 6, 2) := by decide +kernel
theorem dX8_carOver_46 : decode cX8_carOver 46 = .ok (.aload_n 0, 1) := by decide +kernel
theorem dX8_carOver_47 : decode cX8_carOver 47 = .ok (.getfield 31, 3) := by decide +kernel
theorem dX8_carOver_50 : decode cX8_carOver 50 = .ok (.if_icmp .ge 87, 3) := by decide +kernel
theorem dX8_carOver_53 : decode cX8_carOver 53 = .ok (.aload_n 0, 1) := by decide +kernel
theorem dX8_carOver_54 : decode cX8_carOver 54 = .ok (.getfield 15, 3) := by decide +kernel
theorem dX8_carOver_57 : decode cX8_carOver 57 = .ok (.iload 6, 2) := by decide +kernel
theorem dX8_carOver_59 : decode cX8_carOver 59 = .ok (.invokestatic 52, 3) := by decide +kernel
theorem dX8_carOver_62 : decode cX8_carOver 62 = .ok (.iload_n 1, 1) := by decide +kernel
theorem dX8_carOver_63 : decode cX8_carOver 63 = .ok (.if_icmp .ne 20, 3) := by decide +kernel
theorem dX8_carOver_66 : decode cX8_carOver 66 = .ok (.aload_n 0, 1) := by decide +kernel
theorem dX8_carOver_67 : decode cX8_carOver 67 = .ok (.getfield 24, 3) := by decide +kernel
theorem dX8_carOver_70 : decode cX8_carOver 70 = .ok (.iload 6, 2) := by decide +kernel
theorem dX8_carOver_72 : decode cX8_carOver 72 = .ok (.invokestatic 52, 3) := by decide +kernel
theorem dX8_carOver_75 : decode cX8_carOver 75 = .ok (.iload_n 3, 1) := by decide +kernel
theorem dX8_carOver_76 : decode cX8_carOver 76 = .ok (.if_icmp .gt 7, 3) := by decide +kernel
theorem dX8_carOver_79 : decode cX8_carOver 79 = .ok (.iconst 1, 1) := by decide +kernel
theorem dX8_carOver_80 : decode cX8_carOver 80 = .ok (.goto 4, 3) := by decide +kernel
theorem dX8_carOver_83 : decode cX8_carOver 83 = .ok (.iconst 0, 1) := by decide +kernel
theorem dX8_carOver_84 : decode cX8_carOver 84 = .ok (.istore 7, 2) := by decide +kernel
theorem dX8_carOver_86 : decode cX8_carOver 86 = .ok (.iload 7, 2) := by decide +kernel
theorem dX8_carOver_88 : decode cX8_carOver 88 = .ok (.ifCond .eq 43, 3) := by decide +kernel
theorem dX8_carOver_91 : decode cX8_carOver 91 = .ok (.aload_n 0, 1) := by decide +kernel
theorem dX8_carOver_92 : decode cX8_carOver 92 = .ok (.getfield 21, 3) := by decide +kernel
theorem dX8_carOver_95 : decode cX8_carOver 95 = .ok (.iload 6, 2) := by decide +kernel
theorem dX8_carOver_97 : decode cX8_carOver 97 = .ok (.invokestatic 52, 3) := by decide +kernel
theorem dX8_carOver_100 : decode cX8_carOver 100 = .ok (.iload 5, 2) := by decide +kernel
theorem dX8_carOver_102 : decode cX8_carOver 102 = .ok (.iload_n 2, 1) := by decide +kernel
theorem dX8_carOver_103 : decode cX8_carOver 103 = .ok (.invokestatic 47, 3) := by decide +kernel
theorem dX8_carOver_106 : decode cX8_carOver 106 = .ok (.ifCond .eq 25, 3) := by decide +kernel
theorem dX8_carOver_109 : decode cX8_carOver 109 = .ok (.aload_n 0, 1) := by decide +kernel
theorem dX8_carOver_110 : decode cX8_carOver 110 = .ok (.getfield 21, 3) := by decide +kernel
theorem dX8_carOver_113 : decode cX8_carOver 113 = .ok (.iload 6, 2) := by decide +kernel
theorem dX8_carOver_115 : decode cX8_carOver 115 = .ok (.invokestatic 52, 3) := by decide +kernel
theorem dX8_carOver_118 : decode cX8_carOver 118 = .ok (.istore 5, 2) := by decide +kernel
theorem dX8_carOver_120 : decode cX8_carOver 120 = .ok (.aload_n 0, 1) := by decide +kernel
theorem dX8_carOver_121 : decode cX8_carOver 121 = .ok (.getfield 18, 3) := by decide +kernel
theorem dX8_carOver_124 : decode cX8_carOver 124 = .ok (.iload 6, 2) := by decide +kernel
theorem dX8_carOver_126 : decode cX8_carOver 126 = .ok (.invokestatic 52, 3) := by decide +kernel
theorem dX8_carOver_129 : decode cX8_carOver 129 = .ok (.istore 4, 2) := by decide +kernel
theorem dX8_carOver_131 : decode cX8_carOver 131 = .ok (.iinc 6 1, 3) := by decide +kernel
theorem dX8_carOver_134 : decode cX8_carOver 134 = .ok (.goto (-90), 3) := by decide +kernel
theorem dX8_carOver_137 : decode cX8_carOver 137 = .ok (.iload 4, 2) := by decide +kernel
theorem dX8_carOver_139 : decode cX8_carOver 139 = .ok (.ireturn, 1) := by decide +kernel
theorem dX8_isThere_0 : decode cX8_isThere 0 = .ok (.iload_n 1, 1) := by decide +kernel
theorem dX8_isThere_1 : decode cX8_isThere 1 = .ok (.ifCond .lt 15, 3) := by decide +kernel
theorem dX8_isThere_4 : decode cX8_isThere 4 = .ok (.iload_n 1, 1) := by decide +kernel
theorem dX8_isThere_5 : decode cX8_isThere 5 = .ok (.aload_n 0, 1) := by decide +kernel
theorem dX8_isThere_6 : decode cX8_isThere 6 = .ok (.getfield 27, 3) := by decide +kernel
theorem dX8_isThere_9 : decode cX8_isThere 9 = .ok (.if_icmp .ge 7, 3) := by decide +kernel
theorem dX8_isThere_12 : decode cX8_isThere 12 = .ok (.iconst 1, 1) := by decide +kernel
theorem dX8_isThere_13 : decode cX8_isThere 13 = .ok (.goto 4, 3) := by decide +kernel
theorem dX8_isThere_16 : decode cX8_isThere 16 = .ok (.iconst 0, 1) := by decide +kernel
theorem dX8_isThere_17 : decode cX8_isThere 17 = .ok (.ireturn, 1) := by decide +kernel
set_option maxRecDepth 20000 in
theorem ggX9_init_X3_init : GoodIn wsX9_init wsX3_init := goodIn_r _ [36, 37, 2, 3, 38, 39, 40, 41, 42, 43, 44, 45, 46, 47, 48, 49, 50, 51, 52, 53, 54, 55, 56, 57, 58, 59, 60, 61, 62, 63, 64, 65, 66, 67, 68, 69, 70, 71, 72, 73, 74, 175, 176, 177, 178, 179, 180, 181, 182, 128, 129, 130, 183, 184, 185, 186, 187, 188, 189] (by decide +kernel) (by decide +kernel)
set_option maxRecDepth 20000 in
theorem gX9_init_X3_init_n9 : GoodIn wsX9_init (wsX3_init) := ggX9_init_X3_init
set_option maxRecDepth 20000 in
theorem ggX9_init_X6_init : GoodIn wsX9_init wsX6_init := goodIn_r _ [76, 77, 2, 3, 50, 78, 79, 80, 81, 141, 142, 143, 144] (by decide +kernel) (by decide +kernel)
set_option maxRecDepth 20000 in
theorem gX9_init_X6_init_n18 : GoodIn wsX9_init (wsX6_init) := ggX9_init_X6_init
set_option maxRecDepth 20000 in
theorem ggX9_init_X4_init : GoodIn wsX9_init wsX4_init := goodIn_r _ [83, 84, 2, 3, 85, 86, 87, 88, 145, 146, 147, 148] (by decide +kernel) (by decide +kernel)
set_option maxRecDepth 20000 in
theorem gX9_init_X4_init_n25 : GoodIn wsX9_init (wsX4_init) := ggX9_init_X4_init
set_option maxRecDepth 20000 in
theorem ggX9_init_X7_init : GoodIn wsX9_init wsX7_init := goodIn_r _ [90, 91, 2, 3, 50, 92, 93, 94, 95, 96, 97, 98, 99, 149, 150, 151, 152, 153, 154, 155] (by decide +kernel) (by decide +kernel)
set_option maxRecDepth 20000 in
theorem gX9_init_X7_init_n32 : GoodIn wsX9_init (wsX7_init) := ggX9_init_X7_init
set_option maxRecDepth 20000 in
theorem ggX9_init_X0_init : GoodIn wsX9_init wsX0_init := goodIn_r _ [101, 102, 2, 3, 50, 103, 104, 105, 106, 156, 157, 158, 159] (by decide +kernel) (by decide +kernel)
set_option maxRecDepth 20000 in
theorem gX9_init_X0_init_n39 : GoodIn wsX9_init (wsX0_init) := ggX9_init_X0_init
set_option maxRecDepth 20000 in
theorem ggX9_init_X5_init : GoodIn wsX9_init wsX5_init := goodIn_r _ [108, 109, 2, 3, 50, 110, 111, 112, 113, 114, 115, 116, 117, 160, 161, 162, 163, 164, 165, 166, 167] (by decide +kernel) (by decide +kernel)
set_option maxRecDepth 20000 in
theorem gX9_init_X5_init_n46 : GoodIn wsX9_init (wsX5_init) := ggX9_init_X5_init
set_option maxRecDepth 20000 in
theorem ggX9_init_X8_init : GoodIn wsX9_init wsX8_init := goodIn_r _ [119, 120, 2, 3, 50, 121, 122, 123, 124, 125, 126, 127, 168, 169, 170, 171, 172, 173, 174] (by decide +kernel) (by decide +kernel)
set_option maxRecDepth 20000 in
theorem gX9_init_X8_init_n53 : GoodIn wsX9_init (wsX8_init) := ggX9_init_X8_init
theorem dX9_init_0 : decode cX9_init 0 = .ok (.aload_n 0, 1) := by decide +kernel
theorem dX9_init_1 : decode cX9_init 1 = .ok (.invokespecial 1, 3) := by decide +kernel
theorem dX9_init_4 : decode cX9_init 4 = .ok (.aload_n 0, 1) := by decide +kernel
theorem dX9_init_5 : decode cX9_init 5 = .ok (.new 7, 3) := by decide +kernel
theorem dX9_init_8 : decode cX9_init 8 = .ok (.dup, 1) := by decide +kernel
theorem dX9_init_9 : decode cX9_init 9 = .ok (.invokespecial 9, 3) := by decide +kernel
theorem dX9_init_12 : decode cX9_init 12 = .ok (.putfield 10, 3) := by decide +kernel
theorem dX9_init_15 : decode cX9_init 15 = .ok (.aload_n 0, 1) := by decide +kernel
theorem dX9_init_16 : decode cX9_init 16 = .ok (.new 16, 3) := by decide +kernel
theorem dX9_init_19 : decode cX9_init 19 = .ok (.dup, 1) := by decide +kernel
theorem dX9_init_20 : decode cX9_init 20 = .ok (.invokespecial 18, 3) := by decide +kernel
theorem dX9_init_23 : decode cX9_init 23 = .ok (.putfield 19, 3) := by decide +kernel
theorem dX9_init_26 : decode cX9_init 26 = .ok (.aload_n 0, 1) := by decide +kernel
theorem dX9_init_27 : decode cX9_init 27 = .ok (.new 23, 3) := by decide +kernel
theorem dX9_init_30 : decode cX9_init 30 = .ok (.dup, 1) := by decide +kernel
theorem dX9_init_31 : decode cX9_init 31 = .ok (.invokespecial 25, 3) := by decide +kernel
theorem dX9_init_34 : decode cX9_init 34 = .ok (.putfield 26, 3) := by decide +kernel
theorem dX9_init_37 : decode cX9_init 37 = .ok (.aload_n 0, 1) := by decide +kernel
theorem dX9_init_38 : decode cX9_init 38 = .ok (.new 30, 3) := by decide +kernel
theorem dX9_init_41 : decode cX9_init 41 = .ok (.dup, 1) := by decide +kernel
theorem dX9_init_42 : decode cX9_init 42 = .ok (.invokespecial 32, 3) := by decide +kernel
theorem dX9_init_45 : decode cX9_init 45 = .ok (.putfield 33, 3) := by decide +kernel
theorem dX9_init_48 : decode cX9_init 48 = .ok (.aload_n 0, 1) := by decide +kernel
theorem dX9_init_49 : decode cX9_init 49 = .ok (.new 37, 3) := by decide +kernel
theorem dX9_init_52 : decode cX9_init 52 = .ok (.dup, 1) := by decide +kernel
theorem dX9_init_53 : decode cX9_init 53 = .ok (.invokespecial 39, 3) := by decide +kernel
theorem dX9_init_56 : decode cX9_init 56 = .ok (.putfield 40, 3) := by decide +kernel
theorem dX9_init_59 : decode cX9_init 59 = .ok (.aload_n 0, 1) := by decide +kernel
theorem dX9_init_60 : decode cX9_init 60 = .ok (.new 44, 3) := by decide +kernel
theorem dX9_init_63 : decode cX9_init 63 = .ok (.dup, 1) := by decide +kernel
theorem dX9_init_64 : decode cX9_init 64 = .ok (.invokespecial 46, 3) := by decide +kernel
theorem dX9_init_67 : decode cX9_init 67 = .ok (.putfield 47, 3) := by decide +kernel
theorem dX9_init_70 : decode cX9_init 70 = .ok (.aload_n 0, 1) := by decide +kernel
theorem dX9_init_71 : decode cX9_init 71 = .ok (.new 51, 3) := by decide +kernel
theorem dX9_init_74 : decode cX9_init 74 = .ok (.dup, 1) := by decide +kernel
theorem dX9_init_75 : decode cX9_init 75 = .ok (.invokespecial 53, 3) := by decide +kernel
theorem dX9_init_78 : decode cX9_init 78 = .ok (.putfield 54, 3) := by decide +kernel
theorem dX9_init_81 : decode cX9_init 81 = .ok (.aload_n 0, 1) := by decide +kernel
theorem dX9_init_82 : decode cX9_init 82 = .ok (.bipush 20, 2) := by decide +kernel
theorem dX9_init_84 : decode cX9_init 84 = .ok (.putfield 58, 3) := by decide +kernel
theorem dX9_init_87 : decode cX9_init 87 = .ok (.aload_n 0, 1) := by decide +kernel
theorem dX9_init_88 : decode cX9_init 88 = .ok (.iconst (-1), 1) := by decide +kernel
theorem dX9_init_89 : decode cX9_init 89 = .ok (.putfield 62, 3) := by decide +kernel
theorem dX9_init_92 : decode cX9_init 92 = .ok (.aload_n 0, 1) := by decide +kernel
theorem dX9_init_93 : decode cX9_init 93 = .ok (.iconst 0, 1) := by decide +kernel
theorem dX9_init_94 : decode cX9_init 94 = .ok (.putfield 65, 3) := by decide +kernel
theorem dX9_init_97 : decode cX9_init 97 = .ok (.return_, 1) := by decide +kernel
set_option maxRecDepth 20000 in
theorem ggX9_line_X1_add : GoodIn wsX9_line wsX1_add := goodIn_r _ [6, 7, 8, 9, 10, 11, 12, 13, 14, 15, 16, 17, 18, 19, 20, 43, 44, 45, 46, 47, 48, 49, 50] (by decide +kernel) (by decide +kernel)
set_option maxRecDepth 20000 in
theorem gX9_line_X1_add : GoodIn wsX9_line (wsV RX9 72 RX1 yX1_add wsX1_add) := goodIn_app (goodIn_of _ (by decide +kernel)) ggX9_line_X1_add
set_option maxRecDepth 20000 in
theorem ggX9_line_X9_answered : GoodIn wsX9_line wsX9_answered := goodIn_r _ [24, 25, 26, 27, 28, 29, 30, 31, 32, 33, 34, 35, 36, 37, 38, 39] (by decide +kernel) (by decide +kernel)
set_option maxRecDepth 20000 in
theorem gX9_line_X9_answered : GoodIn wsX9_line (wsV RX9 78 RX9 yX9_answered wsX9_answered) := goodIn_app (goodIn_of _ (by decide +kernel)) ggX9_line_X9_answered
theorem dX9_line_0 : decode cX9_line 0 = .ok (.aload_n 0, 1) := by decide +kernel
theorem dX9_line_1 : decode cX9_line 1 = .ok (.aload_n 0, 1) := by decide +kernel
theorem dX9_line_2 : decode cX9_line 2 = .ok (.getfield 10, 3) := by decide +kernel
theorem dX9_line_5 : decode cX9_line 5 = .ok (.getfield 68, 3) := by decide +kernel
theorem dX9_line_8 : decode cX9_line 8 = .ok (.iload_n 1, 1) := by decide +kernel
theorem dX9_line_9 : decode cX9_line 9 = .ok (.iload_n 2, 1) := by decide +kernel
theorem dX9_line_10 : decode cX9_line 10 = .ok (.iload_n 3, 1) := by decide +kernel
theorem dX9_line_11 : decode cX9_line 11 = .ok (.iload 4, 2) := by decide +kernel
theorem dX9_line_13 : decode cX9_line 13 = .ok (.iload 5, 2) := by decide +kernel
theorem dX9_line_15 : decode cX9_line 15 = .ok (.invokevirtual 72, 3) := by decide +kernel
theorem dX9_line_18 : decode cX9_line 18 = .ok (.invokevirtual 78, 3) := by decide +kernel
theorem dX9_line_21 : decode cX9_line 21 = .ok (.ireturn, 1) := by decide +kernel
set_option maxRecDepth 20000 in
theorem ggX9_rates_X3_changeRates : GoodIn wsX9_rates wsX3_changeRates := goodIn_r _ [6, 7, 8, 9, 10, 11, 12, 13, 14, 15, 16, 17, 18, 19, 20, 21, 22, 23, 24, 25, 26, 27, 28, 29, 30, 31, 32, 33, 34, 35, 36, 37, 38, 39, 40, 60, 61, 62, 63, 64, 65, 66, 67, 68, 69, 70, 71, 72, 73, 74, 75, 76, 77] (by decide +kernel) (by decide +kernel)
set_option maxRecDepth 20000 in
theorem gX9_rates_X3_changeRates : GoodIn wsX9_rates (wsV RX9 82 RX3 yX3_changeRates wsX3_changeRates) := goodIn_app (goodIn_of _ (by decide +kernel)) ggX9_rates_X3_changeRates
set_option maxRecDepth 20000 in
theorem ggX9_rates_X9_answered : GoodIn wsX9_rates wsX9_answered := goodIn_r _ [44, 45, 46, 47, 48, 49, 50, 51, 52, 53, 54, 55, 56, 57, 58, 59] (by decide +kernel) (by decide +kernel)
set_option maxRecDepth 20000 in
theorem gX9_rates_X9_answered : GoodIn wsX9_rates (wsV RX9 78 RX9 yX9_answered wsX9_answered) := goodIn_app (goodIn_of _ (by decide +kernel)) ggX9_rates_X9_answered
theorem dX9_rates_0 : decode cX9_rates 0 = .ok (.aload_n 0, 1) := by decide +kernel
theorem dX9_rates_1 : decode cX9_rates 1 = .ok (.aload_n 0, 1) := by decide +kernel
theorem dX9_rates_2 : decode cX9_rates 2 = .ok (.getfield 10, 3) := by decide +kernel
theorem dX9_rates_5 : decode cX9_rates 5 = .ok (.iload_n 1, 1) := by decide +kernel
theorem dX9_rates_6 : decode cX9_rates 6 = .ok (.iload_n 2, 1) := by decide +kernel
theorem dX9_rates_7 : decode cX9_rates 7 = .ok (.invokevirtual 82, 3) := by decide +kernel
theorem dX9_rates_10 : decode cX9_rates 10 = .ok (.invokevirtual 78, 3) := by decide +kernel
theorem dX9_rates_13 : decode cX9_rates 13 = .ok (.ireturn, 1) := by decide +kernel
set_option maxRecDepth 20000 in
theorem ggX9_gangs_X9_isWithin : GoodIn wsX9_gangs wsX9_isWithin := goodIn_r _ [5] (by decide +kernel) (by decide +kernel)
set_option maxRecDepth 20000 in
theorem gX9_gangs_X9_isWithin : GoodIn wsX9_gangs (va_wsS RX9 86 yX9_isWithin wsX9_isWithin) := goodIn_app (goodIn_of _ (by decide +kernel)) ggX9_gangs_X9_isWithin
set_option maxRecDepth 20000 in
theorem ggX9_gangs_X9_answered : GoodIn wsX9_gangs wsX9_answered := goodIn_r _ [9, 10, 11, 12, 13, 14, 15, 16, 17, 18, 19, 20, 21, 22, 23, 24] (by decide +kernel) (by decide +kernel)
set_option maxRecDepth 20000 in
theorem gX9_gangs_X9_answered : GoodIn wsX9_gangs (wsV RX9 78 RX9 yX9_answered wsX9_answered) := goodIn_app (goodIn_of _ (by decide +kernel)) ggX9_gangs_X9_answered
theorem dX9_gangs_0 : decode cX9_gangs 0 = .ok (.iload_n 1, 1) := by decide +kernel
theorem dX9_gangs_1 : decode cX9_gangs 1 = .ok (.iconst 0, 1) := by decide +kernel
theorem dX9_gangs_2 : decode cX9_gangs 2 = .ok (.bipush 99, 2) := by decide +kernel
theorem dX9_gangs_4 : decode cX9_gangs 4 = .ok (.invokestatic 86, 3) := by decide +kernel
theorem dX9_gangs_7 : decode cX9_gangs 7 = .ok (.ifCond .ne 9, 3) := by decide +kernel
theorem dX9_gangs_10 : decode cX9_gangs 10 = .ok (.aload_n 0, 1) := by decide +kernel
theorem dX9_gangs_11 : decode cX9_gangs 11 = .ok (.iconst (-1), 1) := by decide +kernel
theorem dX9_gangs_12 : decode cX9_gangs 12 = .ok (.invokevirtual 78, 3) := by decide +kernel
theorem dX9_gangs_15 : decode cX9_gangs 15 = .ok (.ireturn, 1) := by decide +kernel
theorem dX9_gangs_16 : decode cX9_gangs 16 = .ok (.aload_n 0, 1) := by decide +kernel
theorem dX9_gangs_17 : decode cX9_gangs 17 = .ok (.getfield 58, 3) := by decide +kernel
theorem dX9_gangs_20 : decode cX9_gangs 20 = .ok (.istore_n 2, 1) := by decide +kernel
theorem dX9_gangs_21 : decode cX9_gangs 21 = .ok (.aload_n 0, 1) := by decide +kernel
theorem dX9_gangs_22 : decode cX9_gangs 22 = .ok (.iload_n 1, 1) := by decide +kernel
theorem dX9_gangs_23 : decode cX9_gangs 23 = .ok (.putfield 58, 3) := by decide +kernel
theorem dX9_gangs_26 : decode cX9_gangs 26 = .ok (.aload_n 0, 1) := by decide +kernel
theorem dX9_gangs_27 : decode cX9_gangs 27 = .ok (.iload_n 2, 1) := by decide +kernel
theorem dX9_gangs_28 : decode cX9_gangs 28 = .ok (.invokevirtual 78, 3) := by decide +kernel
theorem dX9_gangs_31 : decode cX9_gangs 31 = .ok (.ireturn, 1) := by decide +kernel
set_option maxRecDepth 20000 in
theorem ggX9_transfer_X7_setTransfer : GoodIn wsX9_transfer wsX7_setTransfer := goodIn_r _ [6, 7, 8, 9, 10, 30, 31, 32, 33, 34, 35, 36] (by decide +kernel) (by decide +kernel)
set_option maxRecDepth 20000 in
theorem gX9_transfer_X7_setTransfer : GoodIn wsX9_transfer (wsV RX9 90 RX7 yX7_setTransfer wsX7_setTransfer) := goodIn_app (goodIn_of _ (by decide +kernel)) ggX9_transfer_X7_setTransfer
set_option maxRecDepth 20000 in
theorem ggX9_transfer_X9_answered : GoodIn wsX9_transfer wsX9_answered := goodIn_r _ [14, 15, 16, 17, 18, 19, 20, 21, 22, 23, 24, 25, 26, 27, 28, 29] (by decide +kernel) (by decide +kernel)
set_option maxRecDepth 20000 in
theorem gX9_transfer_X9_answered : GoodIn wsX9_transfer (wsV RX9 78 RX9 yX9_answered wsX9_answered) := goodIn_app (goodIn_of _ (by decide +kernel)) ggX9_transfer_X9_answered
theorem dX9_transfer_0 : decode cX9_transfer 0 = .ok (.aload_n 0, 1) := by decide +kernel
theorem dX9_transfer_1 : decode cX9_transfer 1 = .ok (.aload_n 0, 1) := by decide +kernel
theorem dX9_transfer_2 : decode cX9_transfer 2 = .ok (.getfield 33, 3) := by decide +kernel
theorem dX9_transfer_5 : decode cX9_transfer 5 = .ok (.iload_n 1, 1) := by decide +kernel
theorem dX9_transfer_6 : decode cX9_transfer 6 = .ok (.invokevirtual 90, 3) := by decide +kernel
theorem dX9_transfer_9 : decode cX9_transfer 9 = .ok (.invokevirtual 78, 3) := by decide +kernel
theorem dX9_transfer_12 : decode cX9_transfer 12 = .ok (.ireturn, 1) := by decide +kernel
set_option maxRecDepth 20000 in
theorem ggX9_feed_X6_hasRoomFor : GoodIn wsX9_feed wsX6_hasRoomFor := goodIn_r _ [6, 7, 26, 27, 28, 29] (by decide +kernel) (by decide +kernel)
set_option maxRecDepth 20000 in
theorem gX9_feed_X6_hasRoomFor : GoodIn wsX9_feed (wsV RX9 93 RX6 yX6_hasRoomFor wsX6_hasRoomFor) := goodIn_app (goodIn_of _ (by decide +kernel)) ggX9_feed_X6_hasRoomFor
set_option maxRecDepth 20000 in
theorem ggX9_feed_X6_append : GoodIn wsX9_feed wsX6_append := goodIn_r _ [11, 12, 7, 13, 14, 15, 26, 27, 28, 29] (by decide +kernel) (by decide +kernel)
set_option maxRecDepth 20000 in
theorem gX9_feed_X6_append : GoodIn wsX9_feed (wsV RX9 97 RX6 yX6_append wsX6_append) := goodIn_app (goodIn_of _ (by decide +kernel)) ggX9_feed_X6_append
theorem dX9_feed_0 : decode cX9_feed 0 = .ok (.aload_n 0, 1) := by decide +kernel
theorem dX9_feed_1 : decode cX9_feed 1 = .ok (.getfield 19, 3) := by decide +kernel
theorem dX9_feed_4 : decode cX9_feed 4 = .ok (.bipush 20, 2) := by decide +kernel
theorem dX9_feed_6 : decode cX9_feed 6 = .ok (.invokevirtual 93, 3) := by decide +kernel
theorem dX9_feed_9 : decode cX9_feed 9 = .ok (.ifCond .ne 5, 3) := by decide +kernel
theorem dX9_feed_12 : decode cX9_feed 12 = .ok (.iconst (-1), 1) := by decide +kernel
theorem dX9_feed_13 : decode cX9_feed 13 = .ok (.ireturn, 1) := by decide +kernel
theorem dX9_feed_14 : decode cX9_feed 14 = .ok (.aload_n 0, 1) := by decide +kernel
theorem dX9_feed_15 : decode cX9_feed 15 = .ok (.getfield 19, 3) := by decide +kernel
theorem dX9_feed_18 : decode cX9_feed 18 = .ok (.iload_n 1, 1) := by decide +kernel
theorem dX9_feed_19 : decode cX9_feed 19 = .ok (.invokevirtual 97, 3) := by decide +kernel
theorem dX9_feed_22 : decode cX9_feed 22 = .ok (.aload_n 0, 1) := by decide +kernel
theorem dX9_feed_23 : decode cX9_feed 23 = .ok (.getfield 19, 3) := by decide +kernel
theorem dX9_feed_26 : decode cX9_feed 26 = .ok (.iload_n 2, 1) := by decide +kernel
theorem dX9_feed_27 : decode cX9_feed 27 = .ok (.invokevirtual 97, 3) := by decide +kernel
theorem dX9_feed_30 : decode cX9_feed 30 = .ok (.aload_n 0, 1) := by decide +kernel
theorem dX9_feed_31 : decode cX9_feed 31 = .ok (.getfield 19, 3) := by decide +kernel
theorem dX9_feed_34 : decode cX9_feed 34 = .ok (.iload_n 3, 1) := by decide +kernel
theorem dX9_feed_35 : decode cX9_feed 35 = .ok (.invokevirtual 97, 3) := by decide +kernel
theorem dX9_feed_38 : decode cX9_feed 38 = .ok (.aload_n 0, 1) := by decide +kernel
theorem dX9_feed_39 : decode cX9_feed 39 = .ok (.getfield 19, 3) := by decide +kernel
theorem dX9_feed_42 : decode cX9_feed 42 = .ok (.iload 4, 2) := by decide +kernel
theorem dX9_feed_44 : decode cX9_feed 44 = .ok (.invokevirtual 97, 3) := by decide +kernel
theorem dX9_feed_47 : decode cX9_feed 47 = .ok (.aload_n 0, 1) := by decide +kernel
theorem dX9_feed_48 : decode cX9_feed 48 = .ok (.getfield 19, 3) := by decide +kernel
theorem dX9_feed_51 : decode cX9_feed 51 = .ok (.iload 5, 2) := by decide +kernel
theorem dX9_feed_53 : decode cX9_feed 53 = .ok (.invokevirtual 97, 3) := by decide +kernel
theorem dX9_feed_56 : decode cX9_feed 56 = .ok (.aload_n 0, 1) := by decide +kernel
theorem dX9_feed_57 : decode cX9_feed 57 = .ok (.getfield 19, 3) := by decide +kernel
theorem dX9_feed_60 : decode cX9_feed 60 = .ok (.getfield 101, 3) := by decide +kernel
theorem dX9_feed_63 : decode cX9_feed 63 = .ok (.ireturn, 1) := by decide +kernel
set_option maxRecDepth 20000 in
theorem ggX9_end_X6_cut : GoodIn wsX9_end wsX6_cut := goodIn_r _ [6, 7, 18, 19, 20, 21] (by decide +kernel) (by decide +kernel)
set_option maxRecDepth 20000 in
theorem gX9_end_X6_cut : GoodIn wsX9_end (wsV RX9 104 RX6 yX6_cut wsX6_cut) := goodIn_app (goodIn_of _ (by decide +kernel)) ggX9_end_X6_cut
theorem dX9_end_0 : decode cX9_end 0 = .ok (.aload_n 0, 1) := by decide +kernel
theorem dX9_end_1 : decode cX9_end 1 = .ok (.getfield 19, 3) := by decide +kernel
theorem dX9_end_4 : decode cX9_end 4 = .ok (.iload_n 1, 1) := by decide +kernel
theorem dX9_end_5 : decode cX9_end 5 = .ok (.invokevirtual 104, 3) := by decide +kernel
theorem dX9_end_8 : decode cX9_end 8 = .ok (.ifCond .eq 7, 3) := by decide +kernel
theorem dX9_end_11 : decode cX9_end 11 = .ok (.iload_n 1, 1) := by decide +kernel
theorem dX9_end_12 : decode cX9_end 12 = .ok (.goto 4, 3) := by decide +kernel
theorem dX9_end_15 : decode cX9_end 15 = .ok (.iconst (-1), 1) := by decide +kernel
theorem dX9_end_16 : decode cX9_end 16 = .ok (.ireturn, 1) := by decide +kernel
set_option maxRecDepth 20000 in
theorem ggX9_orders_X4_readOrders : GoodIn wsX9_orders wsX4_readOrders := goodIn_r _ [9, 10, 11, 12, 13, 14, 15, 16, 17, 18, 19, 20, 21, 22, 23, 24, 25, 26, 27, 28, 29, 30, 31, 32, 33, 34, 35, 36, 37, 38, 39, 40, 41, 42, 43, 44, 45, 46, 47, 48, 49, 50, 51, 52, 53, 54, 55, 56, 57, 8, 58, 59, 60, 61, 62, 63, 64, 65, 66, 67, 68, 69, 70, 71, 72, 73, 74, 75, 76, 77, 78, 79, 80, 81, 82, 83, 84, 85, 86, 87, 88, 89, 90, 91, 92, 93, 94, 95, 96, 97, 98, 99, 100, 101, 102, 103, 104, 105, 106, 107, 108, 109, 110, 111, 112, 113, 114, 115, 116, 117, 118, 119, 120, 121, 122, 123, 124, 125, 126, 127, 128, 129, 130, 131, 132, 133, 134, 135, 136, 137, 138, 139, 140, 141, 142, 143, 144, 145, 146, 147, 148, 149, 150, 151, 152, 153, 154, 155, 156, 157, 158, 159, 214, 215, 216, 217, 207, 208, 209, 210, 211, 212, 213, 203, 204, 205, 206, 218, 219, 220, 221, 222, 223, 224, 225] (by decide +kernel) (by decide +kernel)
set_option maxRecDepth 20000 in
theorem gX9_orders_X4_readOrders : GoodIn wsX9_orders (wsV RX9 111 RX4 yX4_readOrders wsX4_readOrders) := goodIn_app (goodIn_of _ (by decide +kernel)) ggX9_orders_X4_readOrders
set_option maxRecDepth 20000 in
theorem ggX9_orders_X6_cut : GoodIn wsX9_orders wsX6_cut := goodIn_r _ [163, 39, 203, 204, 205, 206] (by decide +kernel) (by decide +kernel)
set_option maxRecDepth 20000 in
theorem gX9_orders_X6_cut : GoodIn wsX9_orders (wsV RX9 104 RX6 yX6_cut wsX6_cut) := goodIn_app (goodIn_of _ (by decide +kernel)) ggX9_orders_X6_cut
set_option maxRecDepth 20000 in
theorem ggX9_orders_X9_answered : GoodIn wsX9_orders wsX9_answered := goodIn_r _ [167, 168, 42, 43, 44, 169, 190, 191, 192, 193, 194, 195, 196, 197, 198, 199] (by decide +kernel) (by decide +kernel)
set_option maxRecDepth 20000 in
theorem gX9_orders_X9_answered : GoodIn wsX9_orders (wsV RX9 78 RX9 yX9_answered wsX9_answered) := goodIn_app (goodIn_of _ (by decide +kernel)) ggX9_orders_X9_answered
set_option maxRecDepth 20000 in
theorem ggX9_orders_X3_takeDraft : GoodIn wsX9_orders wsX3_takeDraft := goodIn_r _ [174, 175, 176, 177, 178, 179, 180, 17, 181, 23, 155, 156, 157, 22, 20, 19, 45, 46, 47, 158, 159, 182, 183, 184, 124, 185, 186, 187, 188, 189, 200, 201, 202, 207, 208, 209, 210, 211, 212, 213, 218, 219, 220, 221, 222, 223, 224, 225] (by decide +kernel) (by decide +kernel)
set_option maxRecDepth 20000 in
theorem gX9_orders_X3_takeDraft : GoodIn wsX9_orders (wsV RX9 118 RX3 yX3_takeDraft wsX3_takeDraft) := goodIn_app (goodIn_of _ (by decide +kernel)) ggX9_orders_X3_takeDraft
theorem dX9_orders_0 : decode cX9_orders 0 = .ok (.aload_n 0, 1) := by decide +kernel
theorem dX9_orders_1 : decode cX9_orders 1 = .ok (.getfield 26, 3) := by decide +kernel
theorem dX9_orders_4 : decode cX9_orders 4 = .ok (.aload_n 0, 1) := by decide +kernel
theorem dX9_orders_5 : decode cX9_orders 5 = .ok (.getfield 19, 3) := by decide +kernel
theorem dX9_orders_8 : decode cX9_orders 8 = .ok (.aload_n 0, 1) := by decide +kernel
theorem dX9_orders_9 : decode cX9_orders 9 = .ok (.getfield 10, 3) := by decide +kernel
theorem dX9_orders_12 : decode cX9_orders 12 = .ok (.getfield 68, 3) := by decide +kernel
theorem dX9_orders_15 : decode cX9_orders 15 = .ok (.aload_n 0, 1) := by decide +kernel
theorem dX9_orders_16 : decode cX9_orders 16 = .ok (.getfield 10, 3) := by decide +kernel
theorem dX9_orders_19 : decode cX9_orders 19 = .ok (.getfield 107, 3) := by decide +kernel
theorem dX9_orders_22 : decode cX9_orders 22 = .ok (.invokevirtual 111, 3) := by decide +kernel
theorem dX9_orders_25 : decode cX9_orders 25 = .ok (.istore_n 1, 1) := by decide +kernel
theorem dX9_orders_26 : decode cX9_orders 26 = .ok (.aload_n 0, 1) := by decide +kernel
theorem dX9_orders_27 : decode cX9_orders 27 = .ok (.iload_n 1, 1) := by decide +kernel
theorem dX9_orders_28 : decode cX9_orders 28 = .ok (.ifCond .eq 7, 3) := by decide +kernel
theorem dX9_orders_31 : decode cX9_orders 31 = .ok (.iconst (-1), 1) := by decide +kernel
theorem dX9_orders_32 : decode cX9_orders 32 = .ok (.goto 10, 3) := by decide +kernel
theorem dX9_orders_35 : decode cX9_orders 35 = .ok (.aload_n 0, 1) := by decide +kernel
theorem dX9_orders_36 : decode cX9_orders 36 = .ok (.getfield 19, 3) := by decide +kernel
theorem dX9_orders_39 : decode cX9_orders 39 = .ok (.getfield 115, 3) := by decide +kernel
theorem dX9_orders_42 : decode cX9_orders 42 = .ok (.putfield 62, 3) := by decide +kernel
theorem dX9_orders_45 : decode cX9_orders 45 = .ok (.aload_n 0, 1) := by decide +kernel
theorem dX9_orders_46 : decode cX9_orders 46 = .ok (.getfield 19, 3) := by decide +kernel
theorem dX9_orders_49 : decode cX9_orders 49 = .ok (.iconst 0, 1) := by decide +kernel
theorem dX9_orders_50 : decode cX9_orders 50 = .ok (.invokevirtual 104, 3) := by decide +kernel
theorem dX9_orders_53 : decode cX9_orders 53 = .ok (.pop, 1) := by decide +kernel
theorem dX9_orders_54 : decode cX9_orders 54 = .ok (.iload_n 1, 1) := by decide +kernel
theorem dX9_orders_55 : decode cX9_orders 55 = .ok (.ifCond .ne 10, 3) := by decide +kernel
theorem dX9_orders_58 : decode cX9_orders 58 = .ok (.aload_n 0, 1) := by decide +kernel
theorem dX9_orders_59 : decode cX9_orders 59 = .ok (.bipush (-6), 2) := by decide +kernel
theorem dX9_orders_61 : decode cX9_orders 61 = .ok (.invokevirtual 78, 3) := by decide +kernel
theorem dX9_orders_64 : decode cX9_orders 64 = .ok (.ireturn, 1) := by decide +kernel
theorem dX9_orders_65 : decode cX9_orders 65 = .ok (.aload_n 0, 1) := by decide +kernel
theorem dX9_orders_66 : decode cX9_orders 66 = .ok (.getfield 10, 3) := by decide +kernel
theorem dX9_orders_69 : decode cX9_orders 69 = .ok (.invokevirtual 118, 3) := by decide +kernel
theorem dX9_orders_72 : decode cX9_orders 72 = .ok (.aload_n 0, 1) := by decide +kernel
theorem dX9_orders_73 : decode cX9_orders 73 = .ok (.aload_n 0, 1) := by decide +kernel
theorem dX9_orders_74 : decode cX9_orders 74 = .ok (.getfield 10, 3) := by decide +kernel
theorem dX9_orders_77 : decode cX9_orders 77 = .ok (.getfield 121, 3) := by decide +kernel
theorem dX9_orders_80 : decode cX9_orders 80 = .ok (.getfield 124, 3) := by decide +kernel
theorem dX9_orders_83 : decode cX9_orders 83 = .ok (.invokevirtual 78, 3) := by decide +kernel
theorem dX9_orders_86 : decode cX9_orders 86 = .ok (.ireturn, 1) := by decide +kernel
theorem dX9_fault_0 : decode cX9_fault 0 = .ok (.aload_n 0, 1) := by decide +kernel
theorem dX9_fault_1 : decode cX9_fault 1 = .ok (.getfield 62, 3) := by decide +kernel
theorem dX9_fault_4 : decode cX9_fault 4 = .ok (.ireturn, 1) := by decide +kernel
set_option maxRecDepth 20000 in
theorem ggX9_of_X1_isThere : GoodIn wsX9_of wsX1_isThere := goodIn_r _ [6, 7, 44, 45, 46, 47, 48, 49, 50, 51] (by decide +kernel) (by decide +kernel)
set_option maxRecDepth 20000 in
theorem gX9_of_X1_isThere : GoodIn wsX9_of (wsV RX9 129 RX1 yX1_isThere wsX1_isThere) := goodIn_app (goodIn_of _ (by decide +kernel)) ggX9_of_X1_isThere
set_option maxRecDepth 20000 in
theorem ggX9_of_X2_beginsOf : GoodIn wsX9_of wsX2_beginsOf := goodIn_r _ [12, 13, 14, 15, 16, 11, 17, 18, 19, 20, 21, 52, 53, 54, 55, 56, 57, 58] (by decide +kernel) (by decide +kernel)
set_option maxRecDepth 20000 in
theorem gX9_of_X2_beginsOf : GoodIn wsX9_of (wsV RX9 132 RX2 yX2_beginsOf wsX2_beginsOf) := goodIn_app (goodIn_of _ (by decide +kernel)) ggX9_of_X2_beginsOf
set_option maxRecDepth 20000 in
theorem ggX9_of_X2_doneOf : GoodIn wsX9_of wsX2_doneOf := goodIn_r _ [25, 26, 14, 15, 16, 11, 17, 18, 19, 20, 21, 52, 53, 54, 55, 56, 57, 58] (by decide +kernel) (by decide +kernel)
set_option maxRecDepth 20000 in
theorem gX9_of_X2_doneOf : GoodIn wsX9_of (wsV RX9 135 RX2 yX2_doneOf wsX2_doneOf) := goodIn_app (goodIn_of _ (by decide +kernel)) ggX9_of_X2_doneOf
set_option maxRecDepth 20000 in
theorem ggX9_of_X2_gangsOf : GoodIn wsX9_of wsX2_gangsOf := goodIn_r _ [30, 18, 19, 20, 21, 52, 53, 54, 55, 56, 57, 58] (by decide +kernel) (by decide +kernel)
set_option maxRecDepth 20000 in
theorem gX9_of_X2_gangsOf : GoodIn wsX9_of (wsV RX9 138 RX2 yX2_gangsOf wsX2_gangsOf) := goodIn_app (goodIn_of _ (by decide +kernel)) ggX9_of_X2_gangsOf
theorem dX9_of_0 : decode cX9_of 0 = .ok (.aload_n 0, 1) := by decide +kernel
theorem dX9_of_1 : decode cX9_of 1 = .ok (.getfield 10, 3) := by decide +kernel
theorem dX9_of_4 : decode cX9_of 4 = .ok (.getfield 68, 3) := by decide +kernel
theorem dX9_of_7 : decode cX9_of 7 = .ok (.iload_n 1, 1) := by decide +kernel
theorem dX9_of_8 : decode cX9_of 8 = .ok (.invokevirtual 129, 3) := by decide +kernel
theorem dX9_of_11 : decode cX9_of 11 = .ok (.ifCond .ne 5, 3) := by decide +kernel
theorem dX9_of_14 : decode cX9_of 14 = .ok (.iconst (-1), 1) := by decide +kernel
theorem dX9_of_15 : decode cX9_of 15 = .ok (.ireturn, 1) := by decide +kernel
theorem dX9_of_16 : decode cX9_of 16 = .ok (.iload_n 2, 1) := by decide +kernel
theorem dX9_of_17 : decode cX9_of 17 = .ok (.tableswitch 63 0 2 #[27, 39, 51], 27) := by decide +kernel
theorem dX9_of_44 : decode cX9_of 44 = .ok (.aload_n 0, 1) := by decide +kernel
theorem dX9_of_45 : decode cX9_of 45 = .ok (.getfield 10, 3) := by decide +kernel
theorem dX9_of_48 : decode cX9_of 48 = .ok (.getfield 121, 3) := by decide +kernel
theorem dX9_of_51 : decode cX9_of 51 = .ok (.iload_n 1, 1) := by decide +kernel
theorem dX9_of_52 : decode cX9_of 52 = .ok (.invokevirtual 132, 3) := by decide +kernel
theorem dX9_of_55 : decode cX9_of 55 = .ok (.ireturn, 1) := by decide +kernel
theorem dX9_of_56 : decode cX9_of 56 = .ok (.aload_n 0, 1) := by decide +kernel
theorem dX9_of_57 : decode cX9_of 57 = .ok (.getfield 10, 3) := by decide +kernel
theorem dX9_of_60 : decode cX9_of 60 = .ok (.getfield 121, 3) := by decide +kernel
theorem dX9_of_63 : decode cX9_of 63 = .ok (.iload_n 1, 1) := by decide +kernel
theorem dX9_of_64 : decode cX9_of 64 = .ok (.invokevirtual 135, 3) := by decide +kernel
theorem dX9_of_67 : decode cX9_of 67 = .ok (.ireturn, 1) := by decide +kernel
theorem dX9_of_68 : decode cX9_of 68 = .ok (.aload_n 0, 1) := by decide +kernel
theorem dX9_of_69 : decode cX9_of 69 = .ok (.getfield 10, 3) := by decide +kernel
theorem dX9_of_72 : decode cX9_of 72 = .ok (.getfield 121, 3) := by decide +kernel
theorem dX9_of_75 : decode cX9_of 75 = .ok (.iload_n 1, 1) := by decide +kernel
theorem dX9_of_76 : decode cX9_of 76 = .ok (.invokevirtual 138, 3) := by decide +kernel
theorem dX9_of_79 : decode cX9_of 79 = .ok (.ireturn, 1) := by decide +kernel
theorem dX9_of_80 : decode cX9_of 80 = .ok (.iconst (-1), 1) := by decide +kernel
theorem dX9_of_81 : decode cX9_of 81 = .ok (.ireturn, 1) := by decide +kernel
set_option maxRecDepth 20000 in
theorem ggX9_is_X1_isThere : GoodIn wsX9_is wsX1_isThere := goodIn_r _ [6, 7, 37, 38, 39, 40, 41, 42, 43, 44] (by decide +kernel) (by decide +kernel)
set_option maxRecDepth 20000 in
theorem gX9_is_X1_isThere : GoodIn wsX9_is (wsV RX9 129 RX1 yX1_isThere wsX1_isThere) := goodIn_app (goodIn_of _ (by decide +kernel)) ggX9_is_X1_isThere
set_option maxRecDepth 20000 in
theorem ggX9_is_X9_isHour : GoodIn wsX9_is wsX9_isHour := goodIn_r _ [11, 12, 13, 10, 14] (by decide +kernel) (by decide +kernel)
set_option maxRecDepth 20000 in
theorem gX9_is_X9_isHour : GoodIn wsX9_is (va_wsS RX9 141 yX9_isHour wsX9_isHour) := goodIn_app (goodIn_of _ (by decide +kernel)) ggX9_is_X9_isHour
set_option maxRecDepth 20000 in
theorem ggX9_is_X2_stateOf : GoodIn wsX9_is wsX2_stateOf := goodIn_r _ [19, 20, 21, 22, 10, 23, 45, 46, 47, 48, 49, 50, 51] (by decide +kernel) (by decide +kernel)
set_option maxRecDepth 20000 in
theorem gX9_is_X2_stateOf : GoodIn wsX9_is (wsV RX9 144 RX2 yX2_stateOf wsX2_stateOf) := goodIn_app (goodIn_of _ (by decide +kernel)) ggX9_is_X2_stateOf
theorem dX9_is_0 : decode cX9_is 0 = .ok (.aload_n 0, 1) := by decide +kernel
theorem dX9_is_1 : decode cX9_is 1 = .ok (.getfield 10, 3) := by decide +kernel
theorem dX9_is_4 : decode cX9_is 4 = .ok (.getfield 68, 3) := by decide +kernel
theorem dX9_is_7 : decode cX9_is 7 = .ok (.iload_n 1, 1) := by decide +kernel
theorem dX9_is_8 : decode cX9_is 8 = .ok (.invokevirtual 129, 3) := by decide +kernel
theorem dX9_is_11 : decode cX9_is 11 = .ok (.ifCond .eq 10, 3) := by decide +kernel
theorem dX9_is_14 : decode cX9_is 14 = .ok (.iload_n 2, 1) := by decide +kernel
theorem dX9_is_15 : decode cX9_is 15 = .ok (.invokestatic 141, 3) := by decide +kernel
theorem dX9_is_18 : decode cX9_is 18 = .ok (.ifCond .ne 5, 3) := by decide +kernel
theorem dX9_is_21 : decode cX9_is 21 = .ok (.iconst (-1), 1) := by decide +kernel
theorem dX9_is_22 : decode cX9_is 22 = .ok (.ireturn, 1) := by decide +kernel
theorem dX9_is_23 : decode cX9_is 23 = .ok (.aload_n 0, 1) := by decide +kernel
theorem dX9_is_24 : decode cX9_is 24 = .ok (.getfield 10, 3) := by decide +kernel
theorem dX9_is_27 : decode cX9_is 27 = .ok (.getfield 121, 3) := by decide +kernel
theorem dX9_is_30 : decode cX9_is 30 = .ok (.iload_n 1, 1) := by decide +kernel
theorem dX9_is_31 : decode cX9_is 31 = .ok (.iload_n 2, 1) := by decide +kernel
theorem dX9_is_32 : decode cX9_is 32 = .ok (.invokevirtual 144, 3) := by decide +kernel
theorem dX9_is_35 : decode cX9_is 35 = .ok (.ireturn, 1) := by decide +kernel
set_option maxRecDepth 20000 in
theorem ggX9_busy_X9_isHour : GoodIn wsX9_busy wsX9_isHour := goodIn_r _ [5, 6, 7, 4, 8] (by decide +kernel) (by decide +kernel)
set_option maxRecDepth 20000 in
theorem gX9_busy_X9_isHour : GoodIn wsX9_busy (va_wsS RX9 141 yX9_isHour wsX9_isHour) := goodIn_app (goodIn_of _ (by decide +kernel)) ggX9_busy_X9_isHour
set_option maxRecDepth 20000 in
theorem ggX9_busy_X2_busyGangs : GoodIn wsX9_busy wsX2_busyGangs := goodIn_r _ [13, 14, 15, 16, 4, 17, 18, 19, 20, 12, 21, 22, 23, 24, 25, 26, 27, 28, 42, 43, 44, 45, 46, 47, 48] (by decide +kernel) (by decide +kernel)
set_option maxRecDepth 20000 in
theorem gX9_busy_X2_busyGangs : GoodIn wsX9_busy (wsV RX9 147 RX2 yX2_busyGangs wsX2_busyGangs) := goodIn_app (goodIn_of _ (by decide +kernel)) ggX9_busy_X2_busyGangs
theorem dX9_busy_0 : decode cX9_busy 0 = .ok (.iload_n 1, 1) := by decide +kernel
theorem dX9_busy_1 : decode cX9_busy 1 = .ok (.invokestatic 141, 3) := by decide +kernel
theorem dX9_busy_4 : decode cX9_busy 4 = .ok (.ifCond .eq 17, 3) := by decide +kernel
theorem dX9_busy_7 : decode cX9_busy 7 = .ok (.aload_n 0, 1) := by decide +kernel
theorem dX9_busy_8 : decode cX9_busy 8 = .ok (.getfield 10, 3) := by decide +kernel
theorem dX9_busy_11 : decode cX9_busy 11 = .ok (.getfield 121, 3) := by decide +kernel
theorem dX9_busy_14 : decode cX9_busy 14 = .ok (.iload_n 1, 1) := by decide +kernel
theorem dX9_busy_15 : decode cX9_busy 15 = .ok (.invokevirtual 147, 3) := by decide +kernel
theorem dX9_busy_18 : decode cX9_busy 18 = .ok (.goto 4, 3) := by decide +kernel
theorem dX9_busy_21 : decode cX9_busy 21 = .ok (.iconst (-1), 1) := by decide +kernel
theorem dX9_busy_22 : decode cX9_busy 22 = .ok (.ireturn, 1) := by decide +kernel
set_option maxRecDepth 20000 in
theorem ggX9_lack_X2_busyGangs : GoodIn wsX9_lack wsX2_busyGangs := goodIn_r _ [7, 8, 9, 10, 11, 12, 13, 14, 15, 6, 16, 17, 18, 19, 20, 21, 22, 23, 37, 38, 39, 40, 41, 42, 43] (by decide +kernel) (by decide +kernel)
set_option maxRecDepth 20000 in
theorem gX9_lack_X2_busyGangs : GoodIn wsX9_lack (wsV RX9 147 RX2 yX2_busyGangs wsX2_busyGangs) := goodIn_app (goodIn_of _ (by decide +kernel)) ggX9_lack_X2_busyGangs
theorem dX9_lack_0 : decode cX9_lack 0 = .ok (.iconst 0, 1) := by decide +kernel
theorem dX9_lack_1 : decode cX9_lack 1 = .ok (.istore_n 1, 1) := by decide +kernel
theorem dX9_lack_2 : decode cX9_lack 2 = .ok (.iload_n 1, 1) := by decide +kernel
theorem dX9_lack_3 : decode cX9_lack 3 = .ok (.bipush 120, 2) := by decide +kernel
theorem dX9_lack_5 : decode cX9_lack 5 = .ok (.if_icmp .gt 29, 3) := by decide +kernel
theorem dX9_lack_8 : decode cX9_lack 8 = .ok (.aload_n 0, 1) := by decide +kernel
theorem dX9_lack_9 : decode cX9_lack 9 = .ok (.getfield 10, 3) := by decide +kernel
theorem dX9_lack_12 : decode cX9_lack 12 = .ok (.getfield 121, 3) := by decide +kernel
theorem dX9_lack_15 : decode cX9_lack 15 = .ok (.iload_n 1, 1) := by decide +kernel
theorem dX9_lack_16 : decode cX9_lack 16 = .ok (.invokevirtual 147, 3) := by decide +kernel
theorem dX9_lack_19 : decode cX9_lack 19 = .ok (.aload_n 0, 1) := by decide +kernel
theorem dX9_lack_20 : decode cX9_lack 20 = .ok (.getfield 58, 3) := by decide +kernel
theorem dX9_lack_23 : decode cX9_lack 23 = .ok (.if_icmp .le 5, 3) := by decide +kernel
theorem dX9_lack_26 : decode cX9_lack 26 = .ok (.iload_n 1, 1) := by decide +kernel
theorem dX9_lack_27 : decode cX9_lack 27 = .ok (.ireturn, 1) := by decide +kernel
theorem dX9_lack_28 : decode cX9_lack 28 = .ok (.iinc 1 1, 3) := by decide +kernel
theorem dX9_lack_31 : decode cX9_lack 31 = .ok (.goto (-29), 3) := by decide +kernel
theorem dX9_lack_34 : decode cX9_lack 34 = .ok (.iconst (-1), 1) := by decide +kernel
theorem dX9_lack_35 : decode cX9_lack 35 = .ok (.ireturn, 1) := by decide +kernel
set_option maxRecDepth 20000 in
theorem ggX9_way_X7_find : GoodIn wsX9_way wsX7_find := goodIn_r _ [7, 8, 9, 10, 11, 12, 13, 14, 15, 16, 17, 18, 19, 6, 20, 21, 22, 23, 24, 25, 26, 27, 28, 29, 30, 31, 32, 33, 34, 35, 36, 37, 38, 39, 40, 41, 42, 43, 44, 45, 46, 47, 48, 49, 50, 51, 52, 53, 54, 55, 56, 57, 58, 59, 60, 61, 62, 63, 64, 65, 66, 67, 68, 69, 70, 71, 72, 73, 74, 75, 76, 77, 78, 79, 80, 81, 82, 83, 84, 85, 86, 87, 88, 89, 90, 91, 92, 93, 94, 95, 96, 97, 98, 99, 100, 101, 102, 103, 104, 105, 106, 107, 108, 109, 110, 111, 112, 113, 114, 115, 116, 117, 118, 119, 120, 121, 122, 123, 124, 125, 126, 127, 144, 145, 146, 147, 148, 149, 150, 151, 152, 153, 154, 155, 156, 157, 158, 159, 160, 161, 162, 163, 164, 165, 166, 167, 168] (by decide +kernel) (by decide +kernel)
set_option maxRecDepth 20000 in
theorem gX9_way_X7_find : GoodIn wsX9_way (wsV RX9 150 RX7 yX7_find wsX7_find) := goodIn_app (goodIn_of _ (by decide +kernel)) ggX9_way_X7_find
set_option maxRecDepth 20000 in
theorem ggX9_way_X9_answered : GoodIn wsX9_way wsX9_answered := goodIn_r _ [131, 132, 34, 35, 36, 133, 134, 135, 136, 137, 138, 139, 140, 141, 142, 143] (by decide +kernel) (by decide +kernel)
set_option maxRecDepth 20000 in
theorem gX9_way_X9_answered : GoodIn wsX9_way (wsV RX9 78 RX9 yX9_answered wsX9_answered) := goodIn_app (goodIn_of _ (by decide +kernel)) ggX9_way_X9_answered
theorem dX9_way_0 : decode cX9_way 0 = .ok (.aload_n 0, 1) := by decide +kernel
theorem dX9_way_1 : decode cX9_way 1 = .ok (.aload_n 0, 1) := by decide +kernel
theorem dX9_way_2 : decode cX9_way 2 = .ok (.getfield 33, 3) := by decide +kernel
theorem dX9_way_5 : decode cX9_way 5 = .ok (.aload_n 0, 1) := by decide +kernel
theorem dX9_way_6 : decode cX9_way 6 = .ok (.getfield 10, 3) := by decide +kernel
theorem dX9_way_9 : decode cX9_way 9 = .ok (.iload_n 1, 1) := by decide +kernel
theorem dX9_way_10 : decode cX9_way 10 = .ok (.iload_n 2, 1) := by decide +kernel
theorem dX9_way_11 : decode cX9_way 11 = .ok (.iload_n 3, 1) := by decide +kernel
theorem dX9_way_12 : decode cX9_way 12 = .ok (.iload 4, 2) := by decide +kernel
theorem dX9_way_14 : decode cX9_way 14 = .ok (.invokevirtual 150, 3) := by decide +kernel
theorem dX9_way_17 : decode cX9_way 17 = .ok (.invokevirtual 78, 3) := by decide +kernel
theorem dX9_way_20 : decode cX9_way 20 = .ok (.ireturn, 1) := by decide +kernel
set_option maxRecDepth 20000 in
theorem ggX9_step_X7_stepOfLatest : GoodIn wsX9_step wsX7_stepOfLatest := goodIn_r _ [6, 7, 8, 9, 10, 11, 22, 23, 24, 25, 26, 27, 28] (by decide +kernel) (by decide +kernel)
set_option maxRecDepth 20000 in
theorem gX9_step_X7_stepOfLatest : GoodIn wsX9_step (wsV RX9 154 RX7 yX7_stepOfLatest wsX7_stepOfLatest) := goodIn_app (goodIn_of _ (by decide +kernel)) ggX9_step_X7_stepOfLatest
theorem dX9_step_0 : decode cX9_step 0 = .ok (.aload_n 0, 1) := by decide +kernel
theorem dX9_step_1 : decode cX9_step 1 = .ok (.getfield 33, 3) := by decide +kernel
theorem dX9_step_4 : decode cX9_step 4 = .ok (.iload_n 1, 1) := by decide +kernel
theorem dX9_step_5 : decode cX9_step 5 = .ok (.invokevirtual 154, 3) := by decide +kernel
theorem dX9_step_8 : decode cX9_step 8 = .ok (.ireturn, 1) := by decide +kernel
set_option maxRecDepth 20000 in
theorem ggX9_shop_X5_setPushers : GoodIn wsX9_shop wsX5_setPushers := goodIn_r _ [6, 7, 8, 9, 10, 11, 12, 13, 14, 15, 16, 17, 37, 38, 39, 40, 41, 42, 43, 44] (by decide +kernel) (by decide +kernel)
set_option maxRecDepth 20000 in
theorem gX9_shop_X5_setPushers : GoodIn wsX9_shop (wsV RX9 157 RX5 yX5_setPushers wsX5_setPushers) := goodIn_app (goodIn_of _ (by decide +kernel)) ggX9_shop_X5_setPushers
set_option maxRecDepth 20000 in
theorem ggX9_shop_X9_answered : GoodIn wsX9_shop wsX9_answered := goodIn_r _ [21, 22, 23, 24, 25, 26, 27, 28, 29, 30, 31, 32, 33, 34, 35, 36] (by decide +kernel) (by decide +kernel)
set_option maxRecDepth 20000 in
theorem gX9_shop_X9_answered : GoodIn wsX9_shop (wsV RX9 78 RX9 yX9_answered wsX9_answered) := goodIn_app (goodIn_of _ (by decide +kernel)) ggX9_shop_X9_answered
theorem dX9_shop_0 : decode cX9_shop 0 = .ok (.aload_n 0, 1) := by decide +kernel
theorem dX9_shop_1 : decode cX9_shop 1 = .ok (.aload_n 0, 1) := by decide +kernel
theorem dX9_shop_2 : decode cX9_shop 2 = .ok (.getfield 47, 3) := by decide +kernel
theorem dX9_shop_5 : decode cX9_shop 5 = .ok (.iload_n 1, 1) := by decide +kernel
theorem dX9_shop_6 : decode cX9_shop 6 = .ok (.iload_n 2, 1) := by decide +kernel
theorem dX9_shop_7 : decode cX9_shop 7 = .ok (.invokevirtual 157, 3) := by decide +kernel
theorem dX9_shop_10 : decode cX9_shop 10 = .ok (.invokevirtual 78, 3) := by decide +kernel
theorem dX9_shop_13 : decode cX9_shop 13 = .ok (.ireturn, 1) := by decide +kernel
set_option maxRecDepth 20000 in
theorem ggX9_car_X0_add : GoodIn wsX9_car wsX0_add := goodIn_r _ [6, 7, 8, 9, 10, 11, 12, 13, 14, 15, 16, 17, 18, 19, 39, 40, 41, 42] (by decide +kernel) (by decide +kernel)
set_option maxRecDepth 20000 in
theorem gX9_car_X0_add : GoodIn wsX9_car (wsV RX9 160 RX0 yX0_add wsX0_add) := goodIn_app (goodIn_of _ (by decide +kernel)) ggX9_car_X0_add
set_option maxRecDepth 20000 in
theorem ggX9_car_X9_answered : GoodIn wsX9_car wsX9_answered := goodIn_r _ [23, 24, 25, 26, 27, 28, 29, 30, 31, 32, 33, 34, 35, 36, 37, 38] (by decide +kernel) (by decide +kernel)
set_option maxRecDepth 20000 in
theorem gX9_car_X9_answered : GoodIn wsX9_car (wsV RX9 78 RX9 yX9_answered wsX9_answered) := goodIn_app (goodIn_of _ (by decide +kernel)) ggX9_car_X9_answered
theorem dX9_car_0 : decode cX9_car 0 = .ok (.aload_n 0, 1) := by decide +kernel
theorem dX9_car_1 : decode cX9_car 1 = .ok (.aload_n 0, 1) := by decide +kernel
theorem dX9_car_2 : decode cX9_car 2 = .ok (.getfield 40, 3) := by decide +kernel
theorem dX9_car_5 : decode cX9_car 5 = .ok (.iload_n 1, 1) := by decide +kernel
theorem dX9_car_6 : decode cX9_car 6 = .ok (.iload_n 2, 1) := by decide +kernel
theorem dX9_car_7 : decode cX9_car 7 = .ok (.invokevirtual 160, 3) := by decide +kernel
theorem dX9_car_10 : decode cX9_car 10 = .ok (.invokevirtual 78, 3) := by decide +kernel
theorem dX9_car_13 : decode cX9_car 13 = .ok (.ireturn, 1) := by decide +kernel
set_option maxRecDepth 20000 in
theorem ggX9_comes_X0_firstHourIn : GoodIn wsX9_comes wsX0_firstHourIn := goodIn_r _ [7, 8, 9, 10, 11, 6, 12, 13, 14, 15, 16, 17, 18, 19, 20, 21, 22, 23, 24, 25, 26, 27, 28, 29, 30, 31, 32, 33, 34, 35, 36, 37, 38, 39, 40, 41, 42, 43, 44, 45, 46, 47, 48, 49, 50, 51, 52, 53, 54, 55, 56, 57, 58, 59, 60, 61, 62, 63, 64, 65, 66, 67, 68, 79, 80, 81, 82, 83, 84, 85, 86, 87, 88, 89, 90, 91, 92, 93, 94, 95, 96, 97, 98, 99, 100] (by decide +kernel) (by decide +kernel)
set_option maxRecDepth 20000 in
theorem gX9_comes_X0_firstHourIn : GoodIn wsX9_comes (wsV RX9 162 RX0 yX0_firstHourIn wsX0_firstHourIn) := goodIn_app (goodIn_of _ (by decide +kernel)) ggX9_comes_X0_firstHourIn
theorem dX9_comes_0 : decode cX9_comes 0 = .ok (.aload_n 0, 1) := by decide +kernel
theorem dX9_comes_1 : decode cX9_comes 1 = .ok (.getfield 40, 3) := by decide +kernel
theorem dX9_comes_4 : decode cX9_comes 4 = .ok (.aload_n 0, 1) := by decide +kernel
theorem dX9_comes_5 : decode cX9_comes 5 = .ok (.getfield 10, 3) := by decide +kernel
theorem dX9_comes_8 : decode cX9_comes 8 = .ok (.iload_n 1, 1) := by decide +kernel
theorem dX9_comes_9 : decode cX9_comes 9 = .ok (.iload_n 2, 1) := by decide +kernel
theorem dX9_comes_10 : decode cX9_comes 10 = .ok (.invokevirtual 162, 3) := by decide +kernel
theorem dX9_comes_13 : decode cX9_comes 13 = .ok (.ireturn, 1) := by decide +kernel
set_option maxRecDepth 20000 in
theorem ggX9_pushed_X5_push : GoodIn wsX9_pushed wsX5_push := goodIn_r _ [8, 9, 10, 11, 12, 13, 14, 15, 16, 17, 18, 19, 20, 21, 22, 23, 24, 25, 26, 27, 28, 29, 30, 31, 32, 33, 34, 35, 36, 37, 38, 39, 40, 41, 42, 43, 44, 45, 46, 47, 48, 49, 50, 51, 52, 53, 54, 55, 56, 57, 58, 59, 60, 61, 62, 63, 64, 65, 66, 67, 68, 69, 70, 71, 7, 72, 73, 74, 75, 76, 77, 78, 79, 80, 81, 82, 83, 84, 85, 86, 87, 88, 89, 90, 91, 92, 93, 94, 95, 96, 97, 98, 99, 100, 101, 102, 103, 104, 121, 122, 123, 124, 125, 126, 127, 128, 129, 130, 131, 132, 133, 134, 135, 136, 137, 138, 139, 140, 141, 142, 143, 144, 145, 146, 147, 148, 149, 150] (by decide +kernel) (by decide +kernel)
set_option maxRecDepth 20000 in
theorem gX9_pushed_X5_push : GoodIn wsX9_pushed (wsV RX9 166 RX5 yX5_push wsX5_push) := goodIn_app (goodIn_of _ (by decide +kernel)) ggX9_pushed_X5_push
set_option maxRecDepth 20000 in
theorem ggX9_pushed_X9_answered : GoodIn wsX9_pushed wsX9_answered := goodIn_r _ [108, 109, 66, 62, 67, 110, 111, 112, 113, 114, 115, 116, 117, 118, 119, 120] (by decide +kernel) (by decide +kernel)
set_option maxRecDepth 20000 in
theorem gX9_pushed_X9_answered : GoodIn wsX9_pushed (wsV RX9 78 RX9 yX9_answered wsX9_answered) := goodIn_app (goodIn_of _ (by decide +kernel)) ggX9_pushed_X9_answered
theorem dX9_pushed_0 : decode cX9_pushed 0 = .ok (.aload_n 0, 1) := by decide +kernel
theorem dX9_pushed_1 : decode cX9_pushed 1 = .ok (.aload_n 0, 1) := by decide +kernel
theorem dX9_pushed_2 : decode cX9_pushed 2 = .ok (.getfield 47, 3) := by decide +kernel
theorem dX9_pushed_5 : decode cX9_pushed 5 = .ok (.aload_n 0, 1) := by decide +kernel
theorem dX9_pushed_6 : decode cX9_pushed 6 = .ok (.getfield 10, 3) := by decide +kernel
theorem dX9_pushed_9 : decode cX9_pushed 9 = .ok (.aload_n 0, 1) := by decide +kernel
theorem dX9_pushed_10 : decode cX9_pushed 10 = .ok (.getfield 40, 3) := by decide +kernel
theorem dX9_pushed_13 : decode cX9_pushed 13 = .ok (.iload_n 1, 1) := by decide +kernel
theorem dX9_pushed_14 : decode cX9_pushed 14 = .ok (.invokevirtual 166, 3) := by decide +kernel
theorem dX9_pushed_17 : decode cX9_pushed 17 = .ok (.invokevirtual 78, 3) := by decide +kernel
theorem dX9_pushed_20 : decode cX9_pushed 20 = .ok (.ireturn, 1) := by decide +kernel
set_option maxRecDepth 20000 in
theorem ggX9_has_X0_isThere : GoodIn wsX9_has wsX0_isThere := goodIn_r _ [7, 8, 29, 30, 31, 32] (by decide +kernel) (by decide +kernel)
set_option maxRecDepth 20000 in
theorem gX9_has_X0_isThere : GoodIn wsX9_has (wsV RX9 170 RX0 yX0_isThere wsX0_isThere) := goodIn_app (goodIn_of _ (by decide +kernel)) ggX9_has_X0_isThere
set_option maxRecDepth 20000 in
theorem ggX9_has_X5_isInLatest : GoodIn wsX9_has wsX5_isInLatest := goodIn_r _ [13, 14, 15, 16, 17, 18, 33, 34, 35, 36, 37, 38, 39, 40] (by decide +kernel) (by decide +kernel)
set_option maxRecDepth 20000 in
theorem gX9_has_X5_isInLatest : GoodIn wsX9_has (wsV RX9 171 RX5 yX5_isInLatest wsX5_isInLatest) := goodIn_app (goodIn_of _ (by decide +kernel)) ggX9_has_X5_isInLatest
theorem dX9_has_0 : decode cX9_has 0 = .ok (.aload_n 0, 1) := by decide +kernel
theorem dX9_has_1 : decode cX9_has 1 = .ok (.getfield 40, 3) := by decide +kernel
theorem dX9_has_4 : decode cX9_has 4 = .ok (.iload_n 1, 1) := by decide +kernel
theorem dX9_has_5 : decode cX9_has 5 = .ok (.invokevirtual 170, 3) := by decide +kernel
theorem dX9_has_8 : decode cX9_has 8 = .ok (.ifCond .eq 14, 3) := by decide +kernel
theorem dX9_has_11 : decode cX9_has 11 = .ok (.aload_n 0, 1) := by decide +kernel
theorem dX9_has_12 : decode cX9_has 12 = .ok (.getfield 47, 3) := by decide +kernel
theorem dX9_has_15 : decode cX9_has 15 = .ok (.iload_n 1, 1) := by decide +kernel
theorem dX9_has_16 : decode cX9_has 16 = .ok (.invokevirtual 171, 3) := by decide +kernel
theorem dX9_has_19 : decode cX9_has 19 = .ok (.goto 4, 3) := by decide +kernel
theorem dX9_has_22 : decode cX9_has 22 = .ok (.iconst (-1), 1) := by decide +kernel
theorem dX9_has_23 : decode cX9_has 23 = .ok (.ireturn, 1) := by decide +kernel
set_option maxRecDepth 20000 in
theorem ggX9_wheel_X8_add : GoodIn wsX9_wheel wsX8_add := goodIn_r _ [7, 8, 9, 10, 11, 12, 13, 14, 15, 16, 17, 18, 38, 39, 40, 41, 42, 43, 44, 45, 46, 47, 48] (by decide +kernel) (by decide +kernel)
set_option maxRecDepth 20000 in
theorem gX9_wheel_X8_add : GoodIn wsX9_wheel (wsV RX9 174 RX8 yX8_add wsX8_add) := goodIn_app (goodIn_of _ (by decide +kernel)) ggX9_wheel_X8_add
set_option maxRecDepth 20000 in
theorem ggX9_wheel_X9_answered : GoodIn wsX9_wheel wsX9_answered := goodIn_r _ [22, 23, 24, 25, 26, 27, 28, 29, 30, 31, 32, 33, 34, 35, 36, 37] (by decide +kernel) (by decide +kernel)
set_option maxRecDepth 20000 in
theorem gX9_wheel_X9_answered : GoodIn wsX9_wheel (wsV RX9 78 RX9 yX9_answered wsX9_answered) := goodIn_app (goodIn_of _ (by decide +kernel)) ggX9_wheel_X9_answered
theorem dX9_wheel_0 : decode cX9_wheel 0 = .ok (.aload_n 0, 1) := by decide +kernel
theorem dX9_wheel_1 : decode cX9_wheel 1 = .ok (.aload_n 0, 1) := by decide +kernel
theorem dX9_wheel_2 : decode cX9_wheel 2 = .ok (.getfield 54, 3) := by decide +kernel
theorem dX9_wheel_5 : decode cX9_wheel 5 = .ok (.aload_n 0, 1) := by decide +kernel
theorem dX9_wheel_6 : decode cX9_wheel 6 = .ok (.getfield 40, 3) := by decide +kernel
theorem dX9_wheel_9 : decode cX9_wheel 9 = .ok (.iload_n 1, 1) := by decide +kernel
theorem dX9_wheel_10 : decode cX9_wheel 10 = .ok (.invokevirtual 174, 3) := by decide +kernel
theorem dX9_wheel_13 : decode cX9_wheel 13 = .ok (.invokevirtual 78, 3) := by decide +kernel
theorem dX9_wheel_16 : decode cX9_wheel 16 = .ok (.ireturn, 1) := by decide +kernel
set_option maxRecDepth 20000 in
theorem ggX9_see_X8_tell : GoodIn wsX9_see wsX8_tell := goodIn_r _ [7, 8, 9, 10, 11, 12, 13, 14, 15, 16, 17, 18, 19, 20, 21, 6, 22, 23, 24, 25, 26, 27, 28, 29, 30, 31, 51, 52, 53, 54, 55, 56, 57, 58, 59, 60, 61] (by decide +kernel) (by decide +kernel)
set_option maxRecDepth 20000 in
theorem gX9_see_X8_tell : GoodIn wsX9_see (wsV RX9 177 RX8 yX8_tell wsX8_tell) := goodIn_app (goodIn_of _ (by decide +kernel)) ggX9_see_X8_tell
set_option maxRecDepth 20000 in
theorem ggX9_see_X9_answered : GoodIn wsX9_see wsX9_answered := goodIn_r _ [35, 36, 37, 38, 39, 40, 41, 42, 43, 44, 45, 46, 47, 48, 49, 50] (by decide +kernel) (by decide +kernel)
set_option maxRecDepth 20000 in
theorem gX9_see_X9_answered : GoodIn wsX9_see (wsV RX9 78 RX9 yX9_answered wsX9_answered) := goodIn_app (goodIn_of _ (by decide +kernel)) ggX9_see_X9_answered
theorem dX9_see_0 : decode cX9_see 0 = .ok (.aload_n 0, 1) := by decide +kernel
theorem dX9_see_1 : decode cX9_see 1 = .ok (.aload_n 0, 1) := by decide +kernel
theorem dX9_see_2 : decode cX9_see 2 = .ok (.getfield 54, 3) := by decide +kernel
theorem dX9_see_5 : decode cX9_see 5 = .ok (.aload_n 0, 1) := by decide +kernel
theorem dX9_see_6 : decode cX9_see 6 = .ok (.getfield 40, 3) := by decide +kernel
theorem dX9_see_9 : decode cX9_see 9 = .ok (.iload_n 1, 1) := by decide +kernel
theorem dX9_see_10 : decode cX9_see 10 = .ok (.iload_n 2, 1) := by decide +kernel
theorem dX9_see_11 : decode cX9_see 11 = .ok (.iload_n 3, 1) := by decide +kernel
theorem dX9_see_12 : decode cX9_see 12 = .ok (.iload 4, 2) := by decide +kernel
theorem dX9_see_14 : decode cX9_see 14 = .ok (.invokevirtual 177, 3) := by decide +kernel
theorem dX9_see_17 : decode cX9_see 17 = .ok (.invokevirtual 78, 3) := by decide +kernel
theorem dX9_see_20 : decode cX9_see 20 = .ok (.ireturn, 1) := by decide +kernel
set_option maxRecDepth 20000 in
theorem ggX9_under_X8_carOver : GoodIn wsX9_under wsX8_carOver := goodIn_r _ [6, 7, 8, 9, 10, 11, 12, 13, 14, 15, 5, 16, 17, 18, 19, 20, 21, 22, 23, 24, 25, 36, 37, 38, 39, 40, 41, 42] (by decide +kernel) (by decide +kernel)
set_option maxRecDepth 20000 in
theorem gX9_under_X8_carOver : GoodIn wsX9_under (wsV RX9 181 RX8 yX8_carOver wsX8_carOver) := goodIn_app (goodIn_of _ (by decide +kernel)) ggX9_under_X8_carOver
theorem dX9_under_0 : decode cX9_under 0 = .ok (.aload_n 0, 1) := by decide +kernel
theorem dX9_under_1 : decode cX9_under 1 = .ok (.getfield 54, 3) := by decide +kernel
theorem dX9_under_4 : decode cX9_under 4 = .ok (.iload_n 1, 1) := by decide +kernel
theorem dX9_under_5 : decode cX9_under 5 = .ok (.iload_n 2, 1) := by decide +kernel
theorem dX9_under_6 : decode cX9_under 6 = .ok (.iload_n 3, 1) := by decide +kernel
theorem dX9_under_7 : decode cX9_under 7 = .ok (.invokevirtual 181, 3) := by decide +kernel
theorem dX9_under_10 : decode cX9_under 10 = .ok (.ireturn, 1) := by decide +kernel
set_option maxRecDepth 20000 in
theorem ggX9_count_X2_allDone : GoodIn wsX9_count wsX2_allDone := goodIn_r _ [9, 10, 11, 12, 13, 14, 15, 16, 17, 18, 19, 20, 21, 8, 22, 23, 24, 25, 26, 27, 28, 50, 51, 52, 53, 54, 55, 56] (by decide +kernel) (by decide +kernel)
set_option maxRecDepth 20000 in
theorem gX9_count_X2_allDone : GoodIn wsX9_count (wsV RX9 191 RX2 yX2_allDone wsX2_allDone) := goodIn_app (goodIn_of _ (by decide +kernel)) ggX9_count_X2_allDone
theorem dX9_count_0 : decode cX9_count 0 = .ok (.iload_n 1, 1) := by decide +kernel
theorem dX9_count_1 : decode cX9_count 1 = .ok (.tableswitch 108 0 6 #[43, 54, 65, 73, 81, 89, 97], 43) := by decide +kernel
theorem dX9_count_44 : decode cX9_count 44 = .ok (.aload_n 0, 1) := by decide +kernel
theorem dX9_count_45 : decode cX9_count 45 = .ok (.getfield 10, 3) := by decide +kernel
theorem dX9_count_48 : decode cX9_count 48 = .ok (.getfield 68, 3) := by decide +kernel
theorem dX9_count_51 : decode cX9_count 51 = .ok (.getfield 185, 3) := by decide +kernel
theorem dX9_count_54 : decode cX9_count 54 = .ok (.ireturn, 1) := by decide +kernel
theorem dX9_count_55 : decode cX9_count 55 = .ok (.aload_n 0, 1) := by decide +kernel
theorem dX9_count_56 : decode cX9_count 56 = .ok (.getfield 10, 3) := by decide +kernel
theorem dX9_count_59 : decode cX9_count 59 = .ok (.getfield 121, 3) := by decide +kernel
theorem dX9_count_62 : decode cX9_count 62 = .ok (.getfield 124, 3) := by decide +kernel
theorem dX9_count_65 : decode cX9_count 65 = .ok (.ireturn, 1) := by decide +kernel
theorem dX9_count_66 : decode cX9_count 66 = .ok (.aload_n 0, 1) := by decide +kernel
theorem dX9_count_67 : decode cX9_count 67 = .ok (.getfield 40, 3) := by decide +kernel
theorem dX9_count_70 : decode cX9_count 70 = .ok (.getfield 186, 3) := by decide +kernel
theorem dX9_count_73 : decode cX9_count 73 = .ok (.ireturn, 1) := by decide +kernel
theorem dX9_count_74 : decode cX9_count 74 = .ok (.aload_n 0, 1) := by decide +kernel
theorem dX9_count_75 : decode cX9_count 75 = .ok (.getfield 54, 3) := by decide +kernel
theorem dX9_count_78 : decode cX9_count 78 = .ok (.getfield 187, 3) := by decide +kernel
theorem dX9_count_81 : decode cX9_count 81 = .ok (.ireturn, 1) := by decide +kernel
theorem dX9_count_82 : decode cX9_count 82 = .ok (.aload_n 0, 1) := by decide +kernel
theorem dX9_count_83 : decode cX9_count 83 = .ok (.getfield 54, 3) := by decide +kernel
theorem dX9_count_86 : decode cX9_count 86 = .ok (.getfield 188, 3) := by decide +kernel
theorem dX9_count_89 : decode cX9_count 89 = .ok (.ireturn, 1) := by decide +kernel
theorem dX9_count_90 : decode cX9_count 90 = .ok (.aload_n 0, 1) := by decide +kernel
theorem dX9_count_91 : decode cX9_count 91 = .ok (.getfield 19, 3) := by decide +kernel
theorem dX9_count_94 : decode cX9_count 94 = .ok (.getfield 101, 3) := by decide +kernel
theorem dX9_count_97 : decode cX9_count 97 = .ok (.ireturn, 1) := by decide +kernel
theorem dX9_count_98 : decode cX9_count 98 = .ok (.aload_n 0, 1) := by decide +kernel
theorem dX9_count_99 : decode cX9_count 99 = .ok (.getfield 10, 3) := by decide +kernel
theorem dX9_count_102 : decode cX9_count 102 = .ok (.getfield 121, 3) := by decide +kernel
theorem dX9_count_105 : decode cX9_count 105 = .ok (.invokevirtual 191, 3) := by decide +kernel
theorem dX9_count_108 : decode cX9_count 108 = .ok (.ireturn, 1) := by decide +kernel
theorem dX9_count_109 : decode cX9_count 109 = .ok (.iconst (-1), 1) := by decide +kernel
theorem dX9_count_110 : decode cX9_count 110 = .ok (.ireturn, 1) := by decide +kernel
theorem dX9_status_0 : decode cX9_status 0 = .ok (.aload_n 0, 1) := by decide +kernel
theorem dX9_status_1 : decode cX9_status 1 = .ok (.getfield 65, 3) := by decide +kernel
theorem dX9_status_4 : decode cX9_status 4 = .ok (.ireturn, 1) := by decide +kernel
theorem dX9_answered_0 : decode cX9_answered 0 = .ok (.aload_n 0, 1) := by decide +kernel
theorem dX9_answered_1 : decode cX9_answered 1 = .ok (.iload_n 1, 1) := by decide +kernel
theorem dX9_answered_2 : decode cX9_answered 2 = .ok (.iconst 0, 1) := by decide +kernel
theorem dX9_answered_3 : decode cX9_answered 3 = .ok (.invokestatic 195, 3) := by decide +kernel
theorem dX9_answered_6 : decode cX9_answered 6 = .ok (.putfield 65, 3) := by decide +kernel
theorem dX9_answered_9 : decode cX9_answered 9 = .ok (.iload_n 1, 1) := by decide +kernel
theorem dX9_answered_10 : decode cX9_answered 10 = .ok (.ireturn, 1) := by decide +kernel
theorem dX9_isWithin_0 : decode cX9_isWithin 0 = .ok (.iload_n 0, 1) := by decide +kernel
theorem dX9_isWithin_1 : decode cX9_isWithin 1 = .ok (.iload_n 1, 1) := by decide +kernel
theorem dX9_isWithin_2 : decode cX9_isWithin 2 = .ok (.if_icmp .lt 12, 3) := by decide +kernel
theorem dX9_isWithin_5 : decode cX9_isWithin 5 = .ok (.iload_n 0, 1) := by decide +kernel
theorem dX9_isWithin_6 : decode cX9_isWithin 6 = .ok (.iload_n 2, 1) := by decide +kernel
theorem dX9_isWithin_7 : decode cX9_isWithin 7 = .ok (.if_icmp .gt 7, 3) := by decide +kernel
theorem dX9_isWithin_10 : decode cX9_isWithin 10 = .ok (.iconst 1, 1) := by decide +kernel
theorem dX9_isWithin_11 : decode cX9_isWithin 11 = .ok (.goto 4, 3) := by decide +kernel
theorem dX9_isWithin_14 : decode cX9_isWithin 14 = .ok (.iconst 0, 1) := by decide +kernel
theorem dX9_isWithin_15 : decode cX9_isWithin 15 = .ok (.ireturn, 1) := by decide +kernel
set_option maxRecDepth 20000 in
theorem ggX9_isHour_X9_isWithin : GoodIn wsX9_isHour wsX9_isWithin := goodIn_r _ [4] (by decide +kernel) (by decide +kernel)
set_option maxRecDepth 20000 in
theorem gX9_isHour_X9_isWithin : GoodIn wsX9_isHour (va_wsS RX9 86 yX9_isWithin wsX9_isWithin) := goodIn_app (goodIn_of _ (by decide +kernel)) ggX9_isHour_X9_isWithin
theorem dX9_isHour_0 : decode cX9_isHour 0 = .ok (.iload_n 0, 1) := by decide +kernel
theorem dX9_isHour_1 : decode cX9_isHour 1 = .ok (.iconst 0, 1) := by decide +kernel
theorem dX9_isHour_2 : decode cX9_isHour 2 = .ok (.bipush 120, 2) := by decide +kernel
theorem dX9_isHour_4 : decode cX9_isHour 4 = .ok (.invokestatic 86, 3) := by decide +kernel
theorem dX9_isHour_7 : decode cX9_isHour 7 = .ok (.ireturn, 1) := by decide +kernel
set_option maxRecDepth 20000 in
theorem ggX9_isPlace_X9_isWithin : GoodIn wsX9_isPlace wsX9_isWithin := goodIn_r _ [4] (by decide +kernel) (by decide +kernel)
set_option maxRecDepth 20000 in
theorem gX9_isPlace_X9_isWithin : GoodIn wsX9_isPlace (va_wsS RX9 86 yX9_isWithin wsX9_isWithin) := goodIn_app (goodIn_of _ (by decide +kernel)) ggX9_isPlace_X9_isWithin
theorem dX9_isPlace_0 : decode cX9_isPlace 0 = .ok (.iload_n 0, 1) := by decide +kernel
theorem dX9_isPlace_1 : decode cX9_isPlace 1 = .ok (.iconst 0, 1) := by decide +kernel
theorem dX9_isPlace_2 : decode cX9_isPlace 2 = .ok (.bipush 15, 2) := by decide +kernel
theorem dX9_isPlace_4 : decode cX9_isPlace 4 = .ok (.invokestatic 86, 3) := by decide +kernel
theorem dX9_isPlace_7 : decode cX9_isPlace 7 = .ok (.ireturn, 1) := by decide +kernel
theorem dX9_at_0 : decode cX9_at 0 = .ok (.aload_n 0, 1) := by decide +kernel
theorem dX9_at_1 : decode cX9_at 1 = .ok (.ifnull 19, 3) := by decide +kernel
theorem dX9_at_4 : decode cX9_at 4 = .ok (.iload_n 1, 1) := by decide +kernel
theorem dX9_at_5 : decode cX9_at 5 = .ok (.ifCond .lt 15, 3) := by decide +kernel
theorem dX9_at_8 : decode cX9_at 8 = .ok (.iload_n 1, 1) := by decide +kernel
theorem dX9_at_9 : decode cX9_at 9 = .ok (.aload_n 0, 1) := by decide +kernel
theorem dX9_at_10 : decode cX9_at 10 = .ok (.arraylength, 1) := by decide +kernel
theorem dX9_at_11 : decode cX9_at 11 = .ok (.if_icmp .ge 9, 3) := by decide +kernel
theorem dX9_at_14 : decode cX9_at 14 = .ok (.aload_n 0, 1) := by decide +kernel
theorem dX9_at_15 : decode cX9_at 15 = .ok (.iload_n 1, 1) := by decide +kernel
theorem dX9_at_16 : decode cX9_at 16 = .ok (.iaload, 1) := by decide +kernel
theorem dX9_at_17 : decode cX9_at 17 = .ok (.goto 4, 3) := by decide +kernel
theorem dX9_at_20 : decode cX9_at 20 = .ok (.iconst (-1), 1) := by decide +kernel
theorem dX9_at_21 : decode cX9_at 21 = .ok (.ireturn, 1) := by decide +kernel
theorem dX9_put_0 : decode cX9_put 0 = .ok (.aload_n 0, 1) := by decide +kernel
theorem dX9_put_1 : decode cX9_put 1 = .ok (.ifnull 17, 3) := by decide +kernel
theorem dX9_put_4 : decode cX9_put 4 = .ok (.iload_n 1, 1) := by decide +kernel
theorem dX9_put_5 : decode cX9_put 5 = .ok (.ifCond .lt 13, 3) := by decide +kernel
theorem dX9_put_8 : decode cX9_put 8 = .ok (.iload_n 1, 1) := by decide +kernel
theorem dX9_put_9 : decode cX9_put 9 = .ok (.aload_n 0, 1) := by decide +kernel
theorem dX9_put_10 : decode cX9_put 10 = .ok (.arraylength, 1) := by decide +kernel
theorem dX9_put_11 : decode cX9_put 11 = .ok (.if_icmp .ge 7, 3) := by decide +kernel
theorem dX9_put_14 : decode cX9_put 14 = .ok (.aload_n 0, 1) := by decide +kernel
theorem dX9_put_15 : decode cX9_put 15 = .ok (.iload_n 1, 1) := by decide +kernel
theorem dX9_put_16 : decode cX9_put 16 = .ok (.iload_n 2, 1) := by decide +kernel
theorem dX9_put_17 : decode cX9_put 17 = .ok (.iastore, 1) := by decide +kernel
theorem dX9_put_18 : decode cX9_put 18 = .ok (.return_, 1) := by decide +kernel
theorem dX10_init_0 : decode cX10_init 0 = .ok (.aload_n 0, 1) := by decide +kernel
theorem dX10_init_1 : decode cX10_init 1 = .ok (.invokespecial 1, 3) := by decide +kernel
theorem dX10_init_4 : decode cX10_init 4 = .ok (.aload_n 0, 1) := by decide +kernel
theorem dX10_init_5 : decode cX10_init 5 = .ok (.bipush 30, 2) := by decide +kernel
theorem dX10_init_7 : decode cX10_init 7 = .ok (.newarray .int, 2) := by decide +kernel
theorem dX10_init_9 : decode cX10_init 9 = .ok (.putfield 7, 3) := by decide +kernel
theorem dX10_init_12 : decode cX10_init 12 = .ok (.aload_n 0, 1) := by decide +kernel
theorem dX10_init_13 : decode cX10_init 13 = .ok (.bipush 30, 2) := by decide +kernel
theorem dX10_init_15 : decode cX10_init 15 = .ok (.newarray .int, 2) := by decide +kernel
theorem dX10_init_17 : decode cX10_init 17 = .ok (.putfield 13, 3) := by decide +kernel
theorem dX10_init_20 : decode cX10_init 20 = .ok (.aload_n 0, 1) := by decide +kernel
theorem dX10_init_21 : decode cX10_init 21 = .ok (.bipush 30, 2) := by decide +kernel
theorem dX10_init_23 : decode cX10_init 23 = .ok (.newarray .int, 2) := by decide +kernel
theorem dX10_init_25 : decode cX10_init 25 = .ok (.putfield 16, 3) := by decide +kernel
theorem dX10_init_28 : decode cX10_init 28 = .ok (.aload_n 0, 1) := by decide +kernel
theorem dX10_init_29 : decode cX10_init 29 = .ok (.bipush 30, 2) := by decide +kernel
theorem dX10_init_31 : decode cX10_init 31 = .ok (.newarray .int, 2) := by decide +kernel
theorem dX10_init_33 : decode cX10_init 33 = .ok (.putfield 19, 3) := by decide +kernel
theorem dX10_init_36 : decode cX10_init 36 = .ok (.aload_n 0, 1) := by decide +kernel
theorem dX10_init_37 : decode cX10_init 37 = .ok (.bipush 30, 2) := by decide +kernel
theorem dX10_init_39 : decode cX10_init 39 = .ok (.newarray .boolean, 2) := by decide +kernel
theorem dX10_init_41 : decode cX10_init 41 = .ok (.putfield 22, 3) := by decide +kernel
theorem dX10_init_44 : decode cX10_init 44 = .ok (.aload_n 0, 1) := by decide +kernel
theorem dX10_init_45 : decode cX10_init 45 = .ok (.iconst 4, 1) := by decide +kernel
theorem dX10_init_46 : decode cX10_init 46 = .ok (.putfield 26, 3) := by decide +kernel
theorem dX10_init_49 : decode cX10_init 49 = .ok (.aload_n 0, 1) := by decide +kernel
theorem dX10_init_50 : decode cX10_init 50 = .ok (.iconst 2, 1) := by decide +kernel
theorem dX10_init_51 : decode cX10_init 51 = .ok (.putfield 30, 3) := by decide +kernel
theorem dX10_init_54 : decode cX10_init 54 = .ok (.aload_n 0, 1) := by decide +kernel
theorem dX10_init_55 : decode cX10_init 55 = .ok (.bipush 20, 2) := by decide +kernel
theorem dX10_init_57 : decode cX10_init 57 = .ok (.putfield 33, 3) := by decide +kernel
theorem dX10_init_60 : decode cX10_init 60 = .ok (.aload_n 0, 1) := by decide +kernel
theorem dX10_init_61 : decode cX10_init 61 = .ok (.iconst 3, 1) := by decide +kernel
theorem dX10_init_62 : decode cX10_init 62 = .ok (.putfield 36, 3) := by decide +kernel
theorem dX10_init_65 : decode cX10_init 65 = .ok (.aload_n 0, 1) := by decide +kernel
theorem dX10_init_66 : decode cX10_init 66 = .ok (.bipush 30, 2) := by decide +kernel
theorem dX10_init_68 : decode cX10_init 68 = .ok (.newarray .int, 2) := by decide +kernel
theorem dX10_init_70 : decode cX10_init 70 = .ok (.putfield 39, 3) := by decide +kernel
theorem dX10_init_73 : decode cX10_init 73 = .ok (.aload_n 0, 1) := by decide +kernel
theorem dX10_init_74 : decode cX10_init 74 = .ok (.bipush 30, 2) := by decide +kernel
theorem dX10_init_76 : decode cX10_init 76 = .ok (.newarray .int, 2) := by decide +kernel
theorem dX10_init_78 : decode cX10_init 78 = .ok (.putfield 42, 3) := by decide +kernel
theorem dX10_init_81 : decode cX10_init 81 = .ok (.aload_n 0, 1) := by decide +kernel
theorem dX10_init_82 : decode cX10_init 82 = .ok (.bipush 30, 2) := by decide +kernel
theorem dX10_init_84 : decode cX10_init 84 = .ok (.newarray .int, 2) := by decide +kernel
theorem dX10_init_86 : decode cX10_init 86 = .ok (.putfield 45, 3) := by decide +kernel
theorem dX10_init_89 : decode cX10_init 89 = .ok (.aload_n 0, 1) := by decide +kernel
theorem dX10_init_90 : decode cX10_init 90 = .ok (.bipush 30, 2) := by decide +kernel
theorem dX10_init_92 : decode cX10_init 92 = .ok (.newarray .int, 2) := by decide +kernel
theorem dX10_init_94 : decode cX10_init 94 = .ok (.putfield 48, 3) := by decide +kernel
theorem dX10_init_97 : decode cX10_init 97 = .ok (.aload_n 0, 1) := by decide +kernel
theorem dX10_init_98 : decode cX10_init 98 = .ok (.bipush 120, 2) := by decide +kernel
theorem dX10_init_100 : decode cX10_init 100 = .ok (.newarray .int, 2) := by decide +kernel
theorem dX10_init_102 : decode cX10_init 102 = .ok (.putfield 51, 3) := by decide +kernel
theorem dX10_init_105 : decode cX10_init 105 = .ok (.aload_n 0, 1) := by decide +kernel
theorem dX10_init_106 : decode cX10_init 106 = .ok (.bipush 30, 2) := by decide +kernel
theorem dX10_init_108 : decode cX10_init 108 = .ok (.newarray .int, 2) := by decide +kernel
theorem dX10_init_110 : decode cX10_init 110 = .ok (.putfield 54, 3) := by decide +kernel
theorem dX10_init_113 : decode cX10_init 113 = .ok (.aload_n 0, 1) := by decide +kernel
theorem dX10_init_114 : decode cX10_init 114 = .ok (.bipush 30, 2) := by decide +kernel
theorem dX10_init_116 : decode cX10_init 116 = .ok (.newarray .int, 2) := by decide +kernel
theorem dX10_init_118 : decode cX10_init 118 = .ok (.putfield 57, 3) := by decide +kernel
theorem dX10_init_121 : decode cX10_init 121 = .ok (.aload_n 0, 1) := by decide +kernel
theorem dX10_init_122 : decode cX10_init 122 = .ok (.bipush 30, 2) := by decide +kernel
theorem dX10_init_124 : decode cX10_init 124 = .ok (.newarray .int, 2) := by decide +kernel
theorem dX10_init_126 : decode cX10_init 126 = .ok (.putfield 60, 3) := by decide +kernel
theorem dX10_init_129 : decode cX10_init 129 = .ok (.aload_n 0, 1) := by decide +kernel
theorem dX10_init_130 : decode cX10_init 130 = .ok (.sipush 400, 3) := by decide +kernel
theorem dX10_init_133 : decode cX10_init 133 = .ok (.newarray .int, 2) := by decide +kernel
theorem dX10_init_135 : decode cX10_init 135 = .ok (.putfield 63, 3) := by decide +kernel
theorem dX10_init_138 : decode cX10_init 138 = .ok (.aload_n 0, 1) := by decide +kernel
theorem dX10_init_139 : decode cX10_init 139 = .ok (.iconst (-1), 1) := by decide +kernel
theorem dX10_init_140 : decode cX10_init 140 = .ok (.putfield 66, 3) := by decide +kernel
theorem dX10_init_143 : decode cX10_init 143 = .ok (.aload_n 0, 1) := by decide +kernel
theorem dX10_init_144 : decode cX10_init 144 = .ok (.sipush 1056, 3) := by decide +kernel
theorem dX10_init_147 : decode cX10_init 147 = .ok (.newarray .int, 2) := by decide +kernel
theorem dX10_init_149 : decode cX10_init 149 = .ok (.putfield 69, 3) := by decide +kernel
theorem dX10_init_152 : decode cX10_init 152 = .ok (.aload_n 0, 1) := by decide +kernel
theorem dX10_init_153 : decode cX10_init 153 = .ok (.sipush 1056, 3) := by decide +kernel
theorem dX10_init_156 : decode cX10_init 156 = .ok (.newarray .int, 2) := by decide +kernel
theorem dX10_init_158 : decode cX10_init 158 = .ok (.putfield 72, 3) := by decide +kernel
theorem dX10_init_161 : decode cX10_init 161 = .ok (.aload_n 0, 1) := by decide +kernel
theorem dX10_init_162 : decode cX10_init 162 = .ok (.bipush 32, 2) := by decide +kernel
theorem dX10_init_164 : decode cX10_init 164 = .ok (.newarray .int, 2) := by decide +kernel
theorem dX10_init_166 : decode cX10_init 166 = .ok (.putfield 75, 3) := by decide +kernel
theorem dX10_init_169 : decode cX10_init 169 = .ok (.aload_n 0, 1) := by decide +kernel
theorem dX10_init_170 : decode cX10_init 170 = .ok (.iconst (-1), 1) := by decide +kernel
theorem dX10_init_171 : decode cX10_init 171 = .ok (.putfield 78, 3) := by decide +kernel
theorem dX10_init_174 : decode cX10_init 174 = .ok (.aload_n 0, 1) := by decide +kernel
theorem dX10_init_175 : decode cX10_init 175 = .ok (.bipush 16, 2) := by decide +kernel
theorem dX10_init_177 : decode cX10_init 177 = .ok (.newarray .int, 2) := by decide +kernel
theorem dX10_init_179 : decode cX10_init 179 = .ok (.putfield 81, 3) := by decide +kernel
theorem dX10_init_182 : decode cX10_init 182 = .ok (.aload_n 0, 1) := by decide +kernel
theorem dX10_init_183 : decode cX10_init 183 = .ok (.bipush 30, 2) := by decide +kernel
theorem dX10_init_185 : decode cX10_init 185 = .ok (.newarray .int, 2) := by decide +kernel
theorem dX10_init_187 : decode cX10_init 187 = .ok (.putfield 84, 3) := by decide +kernel
theorem dX10_init_190 : decode cX10_init 190 = .ok (.aload_n 0, 1) := by decide +kernel
theorem dX10_init_191 : decode cX10_init 191 = .ok (.bipush 30, 2) := by decide +kernel
theorem dX10_init_193 : decode cX10_init 193 = .ok (.newarray .int, 2) := by decide +kernel
theorem dX10_init_195 : decode cX10_init 195 = .ok (.putfield 87, 3) := by decide +kernel
theorem dX10_init_198 : decode cX10_init 198 = .ok (.aload_n 0, 1) := by decide +kernel
theorem dX10_init_199 : decode cX10_init 199 = .ok (.sipush 480, 3) := by decide +kernel
theorem dX10_init_202 : decode cX10_init 202 = .ok (.newarray .int, 2) := by decide +kernel
theorem dX10_init_204 : decode cX10_init 204 = .ok (.putfield 90, 3) := by decide +kernel
theorem dX10_init_207 : decode cX10_init 207 = .ok (.aload_n 0, 1) := by decide +kernel
theorem dX10_init_208 : decode cX10_init 208 = .ok (.bipush 30, 2) := by decide +kernel
theorem dX10_init_210 : decode cX10_init 210 = .ok (.newarray .int, 2) := by decide +kernel
theorem dX10_init_212 : decode cX10_init 212 = .ok (.putfield 93, 3) := by decide +kernel
theorem dX10_init_215 : decode cX10_init 215 = .ok (.aload_n 0, 1) := by decide +kernel
theorem dX10_init_216 : decode cX10_init 216 = .ok (.sipush 1920, 3) := by decide +kernel
theorem dX10_init_219 : decode cX10_init 219 = .ok (.newarray .int, 2) := by decide +kernel
theorem dX10_init_221 : decode cX10_init 221 = .ok (.putfield 96, 3) := by decide +kernel
theorem dX10_init_224 : decode cX10_init 224 = .ok (.aload_n 0, 1) := by decide +kernel
theorem dX10_init_225 : decode cX10_init 225 = .ok (.sipush 1920, 3) := by decide +kernel
theorem dX10_init_228 : decode cX10_init 228 = .ok (.newarray .int, 2) := by decide +kernel
theorem dX10_init_230 : decode cX10_init 230 = .ok (.putfield 99, 3) := by decide +kernel
theorem dX10_init_233 : decode cX10_init 233 = .ok (.aload_n 0, 1) := by decide +kernel
theorem dX10_init_234 : decode cX10_init 234 = .ok (.bipush 30, 2) := by decide +kernel
theorem dX10_init_236 : decode cX10_init 236 = .ok (.newarray .int, 2) := by decide +kernel
theorem dX10_init_238 : decode cX10_init 238 = .ok (.putfield 102, 3) := by decide +kernel
theorem dX10_init_241 : decode cX10_init 241 = .ok (.aload_n 0, 1) := by decide +kernel
theorem dX10_init_242 : decode cX10_init 242 = .ok (.iconst (-1), 1) := by decide +kernel
theorem dX10_init_243 : decode cX10_init 243 = .ok (.putfield 105, 3) := by decide +kernel
theorem dX10_init_246 : decode cX10_init 246 = .ok (.aload_n 0, 1) := by decide +kernel
theorem dX10_init_247 : decode cX10_init 247 = .ok (.bipush 60, 2) := by decide +kernel
theorem dX10_init_249 : decode cX10_init 249 = .ok (.newarray .int, 2) := by decide +kernel
theorem dX10_init_251 : decode cX10_init 251 = .ok (.putfield 108, 3) := by decide +kernel
theorem dX10_init_254 : decode cX10_init 254 = .ok (.aload_n 0, 1) := by decide +kernel
theorem dX10_init_255 : decode cX10_init 255 = .ok (.sipush 200, 3) := by decide +kernel
theorem dX10_init_258 : decode cX10_init 258 = .ok (.newarray .int, 2) := by decide +kernel
