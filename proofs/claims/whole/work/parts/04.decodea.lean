theorem inlX0 : ∀ w ∈ wsX00, w ∈ wsL_law := fun _ h => List.mem_append_left _ (List.mem_append_left _ (List.mem_append_left _ (List.mem_append_left _ (List.mem_append_left _ (List.mem_append_right _ h)))))
theorem inX0 : ∀ w ∈ wsX00, w ∈ lw_tbl := fun w h => wsL_law_in w (inlX0 w h)
theorem inlX1 : ∀ w ∈ wsX10, w ∈ wsL_law := fun _ h => List.mem_append_left _ (List.mem_append_left _ (List.mem_append_right _ h))
theorem inX1 : ∀ w ∈ wsX10, w ∈ lw_tbl := fun w h => wsL_law_in w (inlX1 w h)
theorem inlX2 : ∀ w ∈ wsX20, w ∈ wsL_law := fun _ h => List.mem_append_left _ (List.mem_append_right _ h)
theorem inX2 : ∀ w ∈ wsX20, w ∈ lw_tbl := fun w h => wsL_law_in w (inlX2 w h)
theorem inlX3 : ∀ w ∈ wsX30, w ∈ wsL_law := fun _ h => List.mem_append_left _ (List.mem_append_left _ (List.mem_append_left _ (List.mem_append_left _ (List.mem_append_left _ (List.mem_append_left _ (List.mem_append_left _ (List.mem_append_left _ (List.mem_append_left _ (List.mem_append_right _ h)))))))))
theorem inX3 : ∀ w ∈ wsX30, w ∈ lw_tbl := fun w h => wsL_law_in w (inlX3 w h)
theorem inlX4 : ∀ w ∈ wsX40, w ∈ wsL_law := fun _ h => List.mem_append_left _ (List.mem_append_left _ (List.mem_append_left _ (List.mem_append_left _ (List.mem_append_left _ (List.mem_append_left _ (List.mem_append_left _ (List.mem_append_right _ h)))))))
theorem inX4 : ∀ w ∈ wsX40, w ∈ lw_tbl := fun w h => wsL_law_in w (inlX4 w h)
theorem inlX5 : ∀ w ∈ wsX50, w ∈ wsL_law := fun _ h => List.mem_append_left _ (List.mem_append_left _ (List.mem_append_left _ (List.mem_append_left _ (List.mem_append_right _ h))))
theorem inX5 : ∀ w ∈ wsX50, w ∈ lw_tbl := fun w h => wsL_law_in w (inlX5 w h)
theorem inlX6 : ∀ w ∈ wsX60, w ∈ wsL_law := fun _ h => List.mem_append_left _ (List.mem_append_left _ (List.mem_append_left _ (List.mem_append_left _ (List.mem_append_left _ (List.mem_append_left _ (List.mem_append_left _ (List.mem_append_left _ (List.mem_append_right _ h))))))))
theorem inX6 : ∀ w ∈ wsX60, w ∈ lw_tbl := fun w h => wsL_law_in w (inlX6 w h)
theorem inlX7 : ∀ w ∈ wsX70, w ∈ wsL_law := fun _ h => List.mem_append_left _ (List.mem_append_left _ (List.mem_append_left _ (List.mem_append_left _ (List.mem_append_left _ (List.mem_append_left _ (List.mem_append_right _ h))))))
theorem inX7 : ∀ w ∈ wsX70, w ∈ lw_tbl := fun w h => wsL_law_in w (inlX7 w h)
theorem inlX8 : ∀ w ∈ wsX80, w ∈ wsL_law := fun _ h => List.mem_append_left _ (List.mem_append_left _ (List.mem_append_left _ (List.mem_append_right _ h)))
theorem inX8 : ∀ w ∈ wsX80, w ∈ lw_tbl := fun w h => wsL_law_in w (inlX8 w h)
theorem inlX9 : ∀ w ∈ wsX90, w ∈ wsL_law := fun _ h => List.mem_append_left _ (List.mem_append_left _ (List.mem_append_left _ (List.mem_append_left _ (List.mem_append_left _ (List.mem_append_left _ (List.mem_append_left _ (List.mem_append_left _ (List.mem_append_left _ (List.mem_append_left _ (List.mem_append_left _ (List.mem_append_right _ h)))))))))))
theorem inX9 : ∀ w ∈ wsX90, w ∈ lw_tbl := fun w h => wsL_law_in w (inlX9 w h)
theorem inlX10 : ∀ w ∈ wsX100, w ∈ wsL_law := fun _ h => List.mem_append_left _ (List.mem_append_left _ (List.mem_append_left _ (List.mem_append_left _ (List.mem_append_left _ (List.mem_append_left _ (List.mem_append_left _ (List.mem_append_left _ (List.mem_append_left _ (List.mem_append_left _ (List.mem_append_right _ h))))))))))
theorem inX10 : ∀ w ∈ wsX100, w ∈ lw_tbl := fun w h => wsL_law_in w (inlX10 w h)
theorem inJx145de : ∀ w ∈ wsJx145de0, w ∈ lw_tbl := by decide +kernel
theorem inJx9f9b0 : ∀ w ∈ wsJx9f9b00, w ∈ lw_tbl := by decide +kernel
theorem inJxb160c : ∀ w ∈ wsJxb160c0, w ∈ lw_tbl := by decide +kernel
theorem inJ9 : ∀ w ∈ wsJ90, w ∈ lw_tbl := by decide +kernel
theorem inJ0 : ∀ w ∈ wsJ00, w ∈ lw_tbl := by decide +kernel
theorem inJ1 : ∀ w ∈ wsJ10, w ∈ lw_tbl := by decide +kernel
theorem inJ2 : ∀ w ∈ wsJ20, w ∈ lw_tbl := by decide +kernel
theorem inJ10 : ∀ w ∈ wsJ100, w ∈ lw_tbl := by decide +kernel
theorem inJxfd54e : ∀ w ∈ wsJxfd54e0, w ∈ lw_tbl := by decide +kernel
theorem inJx3cf43 : ∀ w ∈ wsJx3cf430, w ∈ lw_tbl := by decide +kernel
theorem inJ7 : ∀ w ∈ wsJ70, w ∈ lw_tbl := by decide +kernel
theorem inJ3 : ∀ w ∈ wsJ30, w ∈ lw_tbl := by decide +kernel
theorem dX0_init_0 : decode cX0_init 0 = .ok (.aload_n 0, 1) := by decide +kernel
theorem dX0_init_1 : decode cX0_init 1 = .ok (.invokespecial 3, 3) := by decide +kernel
theorem dX0_init_4 : decode cX0_init 4 = .ok (.aload_n 0, 1) := by decide +kernel
theorem dX0_init_5 : decode cX0_init 5 = .ok (.bipush 30, 2) := by decide +kernel
theorem dX0_init_7 : decode cX0_init 7 = .ok (.newarray .int, 2) := by decide +kernel
theorem dX0_init_9 : decode cX0_init 9 = .ok (.putfield 9, 3) := by decide +kernel
theorem dX0_init_12 : decode cX0_init 12 = .ok (.aload_n 0, 1) := by decide +kernel
theorem dX0_init_13 : decode cX0_init 13 = .ok (.bipush 30, 2) := by decide +kernel
theorem dX0_init_15 : decode cX0_init 15 = .ok (.newarray .int, 2) := by decide +kernel
theorem dX0_init_17 : decode cX0_init 17 = .ok (.putfield 15, 3) := by decide +kernel
theorem dX0_init_20 : decode cX0_init 20 = .ok (.aload_n 0, 1) := by decide +kernel
theorem dX0_init_21 : decode cX0_init 21 = .ok (.bipush 16, 2) := by decide +kernel
theorem dX0_init_23 : decode cX0_init 23 = .ok (.newarray .int, 2) := by decide +kernel
theorem dX0_init_25 : decode cX0_init 25 = .ok (.putfield 18, 3) := by decide +kernel
theorem dX0_init_28 : decode cX0_init 28 = .ok (.aload_n 0, 1) := by decide +kernel
theorem dX0_init_29 : decode cX0_init 29 = .ok (.iconst 0, 1) := by decide +kernel
theorem dX0_init_30 : decode cX0_init 30 = .ok (.putfield 21, 3) := by decide +kernel
theorem dX0_init_33 : decode cX0_init 33 = .ok (.return_, 1) := by decide +kernel
set_option maxRecDepth 20000 in
theorem ggX0_add_X9_isPlace : GoodIn wsX0_add wsX9_isPlace := goodIn_r _ [6, 7, 8, 5, 9] (by decide +kernel) (by decide +kernel)
set_option maxRecDepth 20000 in
theorem gX0_add_X9_isPlace_n25 : GoodIn wsX0_add (wsX9_isPlace) := ggX0_add_X9_isPlace
set_option maxRecDepth 20000 in
theorem ggX0_add_X9_isHour : GoodIn wsX0_add wsX9_isHour := goodIn_r _ [11, 7, 8, 5, 9] (by decide +kernel) (by decide +kernel)
set_option maxRecDepth 20000 in
theorem gX0_add_X9_isHour_n29 : GoodIn wsX0_add (wsX9_isHour) := ggX0_add_X9_isHour
set_option maxRecDepth 20000 in
theorem ggX0_add_X9_put : GoodIn wsX0_add wsX9_put := goodIn_r _ [13] (by decide +kernel) (by decide +kernel)
set_option maxRecDepth 20000 in
theorem gX0_add_X9_put_n32 : GoodIn wsX0_add (wsX9_put) := ggX0_add_X9_put
theorem dX0_add_0 : decode cX0_add 0 = .ok (.iload_n 1, 1) := by decide +kernel
theorem dX0_add_1 : decode cX0_add 1 = .ok (.invokestatic 25, 3) := by decide +kernel
theorem dX0_add_4 : decode cX0_add 4 = .ok (.ifCond .eq 10, 3) := by decide +kernel
theorem dX0_add_7 : decode cX0_add 7 = .ok (.iload_n 2, 1) := by decide +kernel
theorem dX0_add_8 : decode cX0_add 8 = .ok (.invokestatic 29, 3) := by decide +kernel
theorem dX0_add_11 : decode cX0_add 11 = .ok (.ifCond .ne 5, 3) := by decide +kernel
theorem dX0_add_14 : decode cX0_add 14 = .ok (.iconst (-1), 1) := by decide +kernel
theorem dX0_add_15 : decode cX0_add 15 = .ok (.ireturn, 1) := by decide +kernel
theorem dX0_add_16 : decode cX0_add 16 = .ok (.aload_n 0, 1) := by decide +kernel
theorem dX0_add_17 : decode cX0_add 17 = .ok (.getfield 21, 3) := by decide +kernel
theorem dX0_add_20 : decode cX0_add 20 = .ok (.bipush 30, 2) := by decide +kernel
theorem dX0_add_22 : decode cX0_add 22 = .ok (.if_icmp .lt 6, 3) := by decide +kernel
theorem dX0_add_25 : decode cX0_add 25 = .ok (.bipush (-5), 2) := by decide +kernel
theorem dX0_add_27 : decode cX0_add 27 = .ok (.ireturn, 1) := by decide +kernel
theorem dX0_add_28 : decode cX0_add 28 = .ok (.aload_n 0, 1) := by decide +kernel
theorem dX0_add_29 : decode cX0_add 29 = .ok (.getfield 9, 3) := by decide +kernel
theorem dX0_add_32 : decode cX0_add 32 = .ok (.aload_n 0, 1) := by decide +kernel
theorem dX0_add_33 : decode cX0_add 33 = .ok (.getfield 21, 3) := by decide +kernel
theorem dX0_add_36 : decode cX0_add 36 = .ok (.iload_n 1, 1) := by decide +kernel
theorem dX0_add_37 : decode cX0_add 37 = .ok (.invokestatic 32, 3) := by decide +kernel
theorem dX0_add_40 : decode cX0_add 40 = .ok (.aload_n 0, 1) := by decide +kernel
theorem dX0_add_41 : decode cX0_add 41 = .ok (.getfield 15, 3) := by decide +kernel
theorem dX0_add_44 : decode cX0_add 44 = .ok (.aload_n 0, 1) := by decide +kernel
theorem dX0_add_45 : decode cX0_add 45 = .ok (.getfield 21, 3) := by decide +kernel
theorem dX0_add_48 : decode cX0_add 48 = .ok (.iload_n 2, 1) := by decide +kernel
theorem dX0_add_49 : decode cX0_add 49 = .ok (.invokestatic 32, 3) := by decide +kernel
theorem dX0_add_52 : decode cX0_add 52 = .ok (.aload_n 0, 1) := by decide +kernel
theorem dX0_add_53 : decode cX0_add 53 = .ok (.dup, 1) := by decide +kernel
theorem dX0_add_54 : decode cX0_add 54 = .ok (.getfield 21, 3) := by decide +kernel
theorem dX0_add_57 : decode cX0_add 57 = .ok (.iconst 1, 1) := by decide +kernel
theorem dX0_add_58 : decode cX0_add 58 = .ok (.iadd, 1) := by decide +kernel
theorem dX0_add_59 : decode cX0_add 59 = .ok (.putfield 21, 3) := by decide +kernel
theorem dX0_add_62 : decode cX0_add 62 = .ok (.aload_n 0, 1) := by decide +kernel
theorem dX0_add_63 : decode cX0_add 63 = .ok (.getfield 21, 3) := by decide +kernel
theorem dX0_add_66 : decode cX0_add 66 = .ok (.iconst 1, 1) := by decide +kernel
theorem dX0_add_67 : decode cX0_add 67 = .ok (.isub, 1) := by decide +kernel
theorem dX0_add_68 : decode cX0_add 68 = .ok (.ireturn, 1) := by decide +kernel
theorem dX0_isThere_0 : decode cX0_isThere 0 = .ok (.iload_n 1, 1) := by decide +kernel
theorem dX0_isThere_1 : decode cX0_isThere 1 = .ok (.ifCond .lt 15, 3) := by decide +kernel
theorem dX0_isThere_4 : decode cX0_isThere 4 = .ok (.iload_n 1, 1) := by decide +kernel
theorem dX0_isThere_5 : decode cX0_isThere 5 = .ok (.aload_n 0, 1) := by decide +kernel
theorem dX0_isThere_6 : decode cX0_isThere 6 = .ok (.getfield 21, 3) := by decide +kernel
theorem dX0_isThere_9 : decode cX0_isThere 9 = .ok (.if_icmp .ge 7, 3) := by decide +kernel
theorem dX0_isThere_12 : decode cX0_isThere 12 = .ok (.iconst 1, 1) := by decide +kernel
theorem dX0_isThere_13 : decode cX0_isThere 13 = .ok (.goto 4, 3) := by decide +kernel
theorem dX0_isThere_16 : decode cX0_isThere 16 = .ok (.iconst 0, 1) := by decide +kernel
theorem dX0_isThere_17 : decode cX0_isThere 17 = .ok (.ireturn, 1) := by decide +kernel
set_option maxRecDepth 20000 in
theorem ggX0_firstHourIn_X0_isThere : GoodIn wsX0_firstHourIn wsX0_isThere := goodIn_r _ [6, 7, 63, 64, 65, 66] (by decide +kernel) (by decide +kernel)
set_option maxRecDepth 20000 in
theorem gX0_firstHourIn_X0_isThere : GoodIn wsX0_firstHourIn (wsV RX0 36 RX0 yX0_isThere wsX0_isThere) := goodIn_app (goodIn_of _ (by decide +kernel)) ggX0_firstHourIn_X0_isThere
set_option maxRecDepth 20000 in
theorem ggX0_firstHourIn_X9_isPlace : GoodIn wsX0_firstHourIn wsX9_isPlace := goodIn_r _ [10, 11, 12, 9, 13] (by decide +kernel) (by decide +kernel)
set_option maxRecDepth 20000 in
theorem gX0_firstHourIn_X9_isPlace_n25 : GoodIn wsX0_firstHourIn (wsX9_isPlace) := ggX0_firstHourIn_X9_isPlace
set_option maxRecDepth 20000 in
theorem ggX0_firstHourIn_X0_travel : GoodIn wsX0_firstHourIn wsX0_travel := goodIn_r _ [17, 18, 1, 19, 20, 21, 22, 23, 24, 25, 9, 26, 27, 28, 29, 30, 31, 32, 33, 34, 35, 36, 37, 38, 39, 40, 41, 42, 5, 43, 44, 45, 46, 47, 48, 49, 50, 51, 52, 53, 54, 55, 56, 57, 58, 59, 60, 61, 62, 63, 64, 65, 66, 67, 68, 69, 70, 71, 72, 73, 74, 75, 76, 77, 78, 79, 80, 81, 82, 83, 84] (by decide +kernel) (by decide +kernel)
set_option maxRecDepth 20000 in
theorem gX0_firstHourIn_X0_travel : GoodIn wsX0_firstHourIn (wsV RX0 39 RX0 yX0_travel wsX0_travel) := goodIn_app (goodIn_of _ (by decide +kernel)) ggX0_firstHourIn_X0_travel
set_option maxRecDepth 20000 in
theorem ggX0_firstHourIn_X0_firstIn : GoodIn wsX0_firstHourIn wsX0_firstIn := goodIn_r _ [47, 18, 25, 9, 26, 63, 64, 65, 66] (by decide +kernel) (by decide +kernel)
set_option maxRecDepth 20000 in
theorem gX0_firstHourIn_X0_firstIn : GoodIn wsX0_firstHourIn (wsV RX0 43 RX0 yX0_firstIn wsX0_firstIn) := goodIn_app (goodIn_of _ (by decide +kernel)) ggX0_firstHourIn_X0_firstIn
theorem dX0_firstHourIn_0 : decode cX0_firstHourIn 0 = .ok (.aload_n 0, 1) := by decide +kernel
theorem dX0_firstHourIn_1 : decode cX0_firstHourIn 1 = .ok (.iload_n 2, 1) := by decide +kernel
theorem dX0_firstHourIn_2 : decode cX0_firstHourIn 2 = .ok (.invokevirtual 36, 3) := by decide +kernel
theorem dX0_firstHourIn_5 : decode cX0_firstHourIn 5 = .ok (.ifCond .eq 10, 3) := by decide +kernel
theorem dX0_firstHourIn_8 : decode cX0_firstHourIn 8 = .ok (.iload_n 3, 1) := by decide +kernel
theorem dX0_firstHourIn_9 : decode cX0_firstHourIn 9 = .ok (.invokestatic 25, 3) := by decide +kernel
theorem dX0_firstHourIn_12 : decode cX0_firstHourIn 12 = .ok (.ifCond .ne 5, 3) := by decide +kernel
theorem dX0_firstHourIn_15 : decode cX0_firstHourIn 15 = .ok (.iconst (-1), 1) := by decide +kernel
theorem dX0_firstHourIn_16 : decode cX0_firstHourIn 16 = .ok (.ireturn, 1) := by decide +kernel
theorem dX0_firstHourIn_17 : decode cX0_firstHourIn 17 = .ok (.aload_n 0, 1) := by decide +kernel
theorem dX0_firstHourIn_18 : decode cX0_firstHourIn 18 = .ok (.aload_n 1, 1) := by decide +kernel
theorem dX0_firstHourIn_19 : decode cX0_firstHourIn 19 = .ok (.iload_n 2, 1) := by decide +kernel
theorem dX0_firstHourIn_20 : decode cX0_firstHourIn 20 = .ok (.invokevirtual 39, 3) := by decide +kernel
theorem dX0_firstHourIn_23 : decode cX0_firstHourIn 23 = .ok (.aload_n 0, 1) := by decide +kernel
theorem dX0_firstHourIn_24 : decode cX0_firstHourIn 24 = .ok (.iload_n 3, 1) := by decide +kernel
theorem dX0_firstHourIn_25 : decode cX0_firstHourIn 25 = .ok (.invokevirtual 43, 3) := by decide +kernel
theorem dX0_firstHourIn_28 : decode cX0_firstHourIn 28 = .ok (.ldc 47, 2) := by decide +kernel
theorem dX0_firstHourIn_30 : decode cX0_firstHourIn 30 = .ok (.if_icmp .ne 7, 3) := by decide +kernel
theorem dX0_firstHourIn_33 : decode cX0_firstHourIn 33 = .ok (.iconst (-1), 1) := by decide +kernel
theorem dX0_firstHourIn_34 : decode cX0_firstHourIn 34 = .ok (.goto 8, 3) := by decide +kernel
theorem dX0_firstHourIn_37 : decode cX0_firstHourIn 37 = .ok (.aload_n 0, 1) := by decide +kernel
theorem dX0_firstHourIn_38 : decode cX0_firstHourIn 38 = .ok (.iload_n 3, 1) := by decide +kernel
theorem dX0_firstHourIn_39 : decode cX0_firstHourIn 39 = .ok (.invokevirtual 43, 3) := by decide +kernel
theorem dX0_firstHourIn_42 : decode cX0_firstHourIn 42 = .ok (.ireturn, 1) := by decide +kernel
set_option maxRecDepth 20000 in
theorem ggX0_firstIn_X9_at : GoodIn wsX0_firstIn wsX9_at := goodIn_r _ [4] (by decide +kernel) (by decide +kernel)
set_option maxRecDepth 20000 in
theorem gX0_firstIn_X9_at_n48 : GoodIn wsX0_firstIn (wsX9_at) := ggX0_firstIn_X9_at
theorem dX0_firstIn_0 : decode cX0_firstIn 0 = .ok (.aload_n 0, 1) := by decide +kernel
theorem dX0_firstIn_1 : decode cX0_firstIn 1 = .ok (.getfield 18, 3) := by decide +kernel
theorem dX0_firstIn_4 : decode cX0_firstIn 4 = .ok (.iload_n 1, 1) := by decide +kernel
theorem dX0_firstIn_5 : decode cX0_firstIn 5 = .ok (.invokestatic 48, 3) := by decide +kernel
theorem dX0_firstIn_8 : decode cX0_firstIn 8 = .ok (.ireturn, 1) := by decide +kernel
set_option maxRecDepth 20000 in
theorem ggX0_travel_J7_fill_53178 : GoodIn wsX0_travel wsJ7_fill_53178 := goodIn_r _ [8] (by decide +kernel) (by decide +kernel)
set_option maxRecDepth 20000 in
theorem gX0_travel_J7_fill_53178 : GoodIn wsX0_travel (va_wsS RX0 52 yJ7_fill_53178 wsJ7_fill_53178) := goodIn_app (goodIn_of _ (by decide +kernel)) ggX0_travel_J7_fill_53178
set_option maxRecDepth 20000 in
theorem ggX0_travel_X9_at : GoodIn wsX0_travel wsX9_at := goodIn_r _ [11] (by decide +kernel) (by decide +kernel)
set_option maxRecDepth 20000 in
theorem gX0_travel_X9_at_n48 : GoodIn wsX0_travel (wsX9_at) := ggX0_travel_X9_at
set_option maxRecDepth 20000 in
theorem ggX0_travel_X9_put : GoodIn wsX0_travel wsX9_put := goodIn_r _ [13] (by decide +kernel) (by decide +kernel)
set_option maxRecDepth 20000 in
theorem gX0_travel_X9_put_n32 : GoodIn wsX0_travel (wsX9_put) := ggX0_travel_X9_put
set_option maxRecDepth 20000 in
theorem ggX0_travel_X1_oneEndOf : GoodIn wsX0_travel wsX1_oneEndOf := goodIn_r _ [18, 19, 9, 10, 11, 56, 57, 58, 59, 60, 61, 62, 63] (by decide +kernel) (by decide +kernel)
set_option maxRecDepth 20000 in
theorem gX0_travel_X1_oneEndOf : GoodIn wsX0_travel (wsV RX0 67 RX1 yX1_oneEndOf wsX1_oneEndOf) := goodIn_app (goodIn_of _ (by decide +kernel)) ggX0_travel_X1_oneEndOf
set_option maxRecDepth 20000 in
theorem ggX0_travel_X1_otherEndOf : GoodIn wsX0_travel wsX1_otherEndOf := goodIn_r _ [23, 24, 9, 10, 11, 56, 57, 58, 59, 60, 61, 62, 63] (by decide +kernel) (by decide +kernel)
set_option maxRecDepth 20000 in
theorem gX0_travel_X1_otherEndOf : GoodIn wsX0_travel (wsV RX0 70 RX1 yX1_otherEndOf wsX1_otherEndOf) := goodIn_app (goodIn_of _ (by decide +kernel)) ggX0_travel_X1_otherEndOf
set_option maxRecDepth 20000 in
theorem ggX0_travel_X0_pass : GoodIn wsX0_travel wsX0_pass := goodIn_r _ [29, 1, 30, 31, 32, 28, 33, 9, 10, 11, 34, 35, 36, 37, 38, 39, 40, 41, 42, 43, 44, 45, 46, 47, 48, 12, 13, 49, 50, 51, 52, 53, 54, 55, 64, 65, 66, 67, 68, 69, 70, 56, 57, 58, 59, 60, 61, 62, 63] (by decide +kernel) (by decide +kernel)
set_option maxRecDepth 20000 in
theorem gX0_travel_X0_pass : GoodIn wsX0_travel (wsV RX0 73 RX0 yX0_pass wsX0_pass) := goodIn_app (goodIn_of _ (by decide +kernel)) ggX0_travel_X0_pass
theorem dX0_travel_0 : decode cX0_travel 0 = .ok (.aload_n 0, 1) := by decide +kernel
theorem dX0_travel_1 : decode cX0_travel 1 = .ok (.getfield 18, 3) := by decide +kernel
theorem dX0_travel_4 : decode cX0_travel 4 = .ok (.ldc 47, 2) := by decide +kernel
theorem dX0_travel_6 : decode cX0_travel 6 = .ok (.invokestatic 52, 3) := by decide +kernel
theorem dX0_travel_9 : decode cX0_travel 9 = .ok (.aload_n 0, 1) := by decide +kernel
theorem dX0_travel_10 : decode cX0_travel 10 = .ok (.getfield 18, 3) := by decide +kernel
theorem dX0_travel_13 : decode cX0_travel 13 = .ok (.aload_n 0, 1) := by decide +kernel
theorem dX0_travel_14 : decode cX0_travel 14 = .ok (.getfield 9, 3) := by decide +kernel
theorem dX0_travel_17 : decode cX0_travel 17 = .ok (.iload_n 2, 1) := by decide +kernel
theorem dX0_travel_18 : decode cX0_travel 18 = .ok (.invokestatic 48, 3) := by decide +kernel
theorem dX0_travel_21 : decode cX0_travel 21 = .ok (.aload_n 0, 1) := by decide +kernel
theorem dX0_travel_22 : decode cX0_travel 22 = .ok (.getfield 15, 3) := by decide +kernel
theorem dX0_travel_25 : decode cX0_travel 25 = .ok (.iload_n 2, 1) := by decide +kernel
theorem dX0_travel_26 : decode cX0_travel 26 = .ok (.invokestatic 48, 3) := by decide +kernel
theorem dX0_travel_29 : decode cX0_travel 29 = .ok (.invokestatic 32, 3) := by decide +kernel
theorem dX0_travel_32 : decode cX0_travel 32 = .ok (.iconst 1, 1) := by decide +kernel
theorem dX0_travel_33 : decode cX0_travel 33 = .ok (.istore_n 3, 1) := by decide +kernel
theorem dX0_travel_34 : decode cX0_travel 34 = .ok (.iconst 0, 1) := by decide +kernel
theorem dX0_travel_35 : decode cX0_travel 35 = .ok (.istore 4, 2) := by decide +kernel
theorem dX0_travel_37 : decode cX0_travel 37 = .ok (.iload 4, 2) := by decide +kernel
theorem dX0_travel_39 : decode cX0_travel 39 = .ok (.bipush 16, 2) := by decide +kernel
theorem dX0_travel_41 : decode cX0_travel 41 = .ok (.if_icmp .ge 88, 3) := by decide +kernel
theorem dX0_travel_44 : decode cX0_travel 44 = .ok (.iload_n 3, 1) := by decide +kernel
theorem dX0_travel_45 : decode cX0_travel 45 = .ok (.ifCond .eq 84, 3) := by decide +kernel
theorem dX0_travel_48 : decode cX0_travel 48 = .ok (.iconst 0, 1) := by decide +kernel
theorem dX0_travel_49 : decode cX0_travel 49 = .ok (.istore_n 3, 1) := by decide +kernel
theorem dX0_travel_50 : decode cX0_travel 50 = .ok (.iconst 0, 1) := by decide +kernel
theorem dX0_travel_51 : decode cX0_travel 51 = .ok (.istore 5, 2) := by decide +kernel
theorem dX0_travel_53 : decode cX0_travel 53 = .ok (.iload 5, 2) := by decide +kernel
theorem dX0_travel_55 : decode cX0_travel 55 = .ok (.aload_n 1, 1) := by decide +kernel
theorem dX0_travel_56 : decode cX0_travel 56 = .ok (.getfield 58, 3) := by decide +kernel
theorem dX0_travel_59 : decode cX0_travel 59 = .ok (.getfield 64, 3) := by decide +kernel
theorem dX0_travel_62 : decode cX0_travel 62 = .ok (.if_icmp .ge 61, 3) := by decide +kernel
theorem dX0_travel_65 : decode cX0_travel 65 = .ok (.aload_n 1, 1) := by decide +kernel
theorem dX0_travel_66 : decode cX0_travel 66 = .ok (.getfield 58, 3) := by decide +kernel
theorem dX0_travel_69 : decode cX0_travel 69 = .ok (.iload 5, 2) := by decide +kernel
theorem dX0_travel_71 : decode cX0_travel 71 = .ok (.invokevirtual 67, 3) := by decide +kernel
theorem dX0_travel_74 : decode cX0_travel 74 = .ok (.istore 6, 2) := by decide +kernel
theorem dX0_travel_76 : decode cX0_travel 76 = .ok (.aload_n 1, 1) := by decide +kernel
theorem dX0_travel_77 : decode cX0_travel 77 = .ok (.getfield 58, 3) := by decide +kernel
theorem dX0_travel_80 : decode cX0_travel 80 = .ok (.iload 5, 2) := by decide +kernel
theorem dX0_travel_82 : decode cX0_travel 82 = .ok (.invokevirtual 70, 3) := by decide +kernel
theorem dX0_travel_85 : decode cX0_travel 85 = .ok (.istore 7, 2) := by decide +kernel
theorem dX0_travel_87 : decode cX0_travel 87 = .ok (.aload_n 0, 1) := by decide +kernel
theorem dX0_travel_88 : decode cX0_travel 88 = .ok (.aload_n 1, 1) := by decide +kernel
theorem dX0_travel_89 : decode cX0_travel 89 = .ok (.iload 5, 2) := by decide +kernel
theorem dX0_travel_91 : decode cX0_travel 91 = .ok (.iload 6, 2) := by decide +kernel
theorem dX0_travel_93 : decode cX0_travel 93 = .ok (.iload 7, 2) := by decide +kernel
theorem dX0_travel_95 : decode cX0_travel 95 = .ok (.invokevirtual 73, 3) := by decide +kernel
theorem dX0_travel_98 : decode cX0_travel 98 = .ok (.ifCond .ne 17, 3) := by decide +kernel
theorem dX0_travel_101 : decode cX0_travel 101 = .ok (.aload_n 0, 1) := by decide +kernel
theorem dX0_travel_102 : decode cX0_travel 102 = .ok (.aload_n 1, 1) := by decide +kernel
theorem dX0_travel_103 : decode cX0_travel 103 = .ok (.iload 5, 2) := by decide +kernel
theorem dX0_travel_105 : decode cX0_travel 105 = .ok (.iload 7, 2) := by decide +kernel
theorem dX0_travel_107 : decode cX0_travel 107 = .ok (.iload 6, 2) := by decide +kernel
theorem dX0_travel_109 : decode cX0_travel 109 = .ok (.invokevirtual 73, 3) := by decide +kernel
theorem dX0_travel_112 : decode cX0_travel 112 = .ok (.ifCond .eq 5, 3) := by decide +kernel
theorem dX0_travel_115 : decode cX0_travel 115 = .ok (.iconst 1, 1) := by decide +kernel
theorem dX0_travel_116 : decode cX0_travel 116 = .ok (.istore_n 3, 1) := by decide +kernel
theorem dX0_travel_117 : decode cX0_travel 117 = .ok (.iinc 5 1, 3) := by decide +kernel
theorem dX0_travel_120 : decode cX0_travel 120 = .ok (.goto (-67), 3) := by decide +kernel
theorem dX0_travel_123 : decode cX0_travel 123 = .ok (.iinc 4 1, 3) := by decide +kernel
theorem dX0_travel_126 : decode cX0_travel 126 = .ok (.goto (-89), 3) := by decide +kernel
theorem dX0_travel_129 : decode cX0_travel 129 = .ok (.return_, 1) := by decide +kernel
set_option maxRecDepth 20000 in
theorem ggX0_pass_X0_firstIn : GoodIn wsX0_pass wsX0_firstIn := goodIn_r _ [6, 1, 7, 8, 9, 27, 28, 29, 30] (by decide +kernel) (by decide +kernel)
set_option maxRecDepth 20000 in
theorem gX0_pass_X0_firstIn : GoodIn wsX0_pass (wsV RX0 43 RX0 yX0_firstIn wsX0_firstIn) := goodIn_app (goodIn_of _ (by decide +kernel)) ggX0_pass_X0_firstIn
set_option maxRecDepth 20000 in
theorem ggX0_pass_X3_arrival : GoodIn wsX0_pass wsX3_arrival := goodIn_r _ [14, 15, 16, 17, 18, 19, 20, 21, 22, 23, 24, 7, 8, 9, 31, 32, 33, 34, 35, 36, 37, 38, 39, 40, 41, 42, 43, 44, 45, 46, 47, 48] (by decide +kernel) (by decide +kernel)
set_option maxRecDepth 20000 in
theorem gX0_pass_X3_arrival : GoodIn wsX0_pass (wsV RX0 77 RX3 yX3_arrival wsX3_arrival) := goodIn_app (goodIn_of _ (by decide +kernel)) ggX0_pass_X3_arrival
set_option maxRecDepth 20000 in
theorem ggX0_pass_X9_put : GoodIn wsX0_pass wsX9_put := goodIn_r _ [26] (by decide +kernel) (by decide +kernel)
set_option maxRecDepth 20000 in
theorem gX0_pass_X9_put_n32 : GoodIn wsX0_pass (wsX9_put) := ggX0_pass_X9_put
theorem dX0_pass_0 : decode cX0_pass 0 = .ok (.aload_n 1, 1) := by decide +kernel
theorem dX0_pass_1 : decode cX0_pass 1 = .ok (.iload_n 2, 1) := by decide +kernel
theorem dX0_pass_2 : decode cX0_pass 2 = .ok (.iconst 0, 1) := by decide +kernel
theorem dX0_pass_3 : decode cX0_pass 3 = .ok (.aload_n 0, 1) := by decide +kernel
theorem dX0_pass_4 : decode cX0_pass 4 = .ok (.iload_n 3, 1) := by decide +kernel
theorem dX0_pass_5 : decode cX0_pass 5 = .ok (.invokevirtual 43, 3) := by decide +kernel
theorem dX0_pass_8 : decode cX0_pass 8 = .ok (.invokevirtual 77, 3) := by decide +kernel
theorem dX0_pass_11 : decode cX0_pass 11 = .ok (.istore 5, 2) := by decide +kernel
theorem dX0_pass_13 : decode cX0_pass 13 = .ok (.iload 5, 2) := by decide +kernel
theorem dX0_pass_15 : decode cX0_pass 15 = .ok (.aload_n 0, 1) := by decide +kernel
theorem dX0_pass_16 : decode cX0_pass 16 = .ok (.iload 4, 2) := by decide +kernel
theorem dX0_pass_18 : decode cX0_pass 18 = .ok (.invokevirtual 43, 3) := by decide +kernel
theorem dX0_pass_21 : decode cX0_pass 21 = .ok (.if_icmp .lt 5, 3) := by decide +kernel
theorem dX0_pass_24 : decode cX0_pass 24 = .ok (.iconst 0, 1) := by decide +kernel
theorem dX0_pass_25 : decode cX0_pass 25 = .ok (.ireturn, 1) := by decide +kernel
theorem dX0_pass_26 : decode cX0_pass 26 = .ok (.aload_n 0, 1) := by decide +kernel
theorem dX0_pass_27 : decode cX0_pass 27 = .ok (.getfield 18, 3) := by decide +kernel
theorem dX0_pass_30 : decode cX0_pass 30 = .ok (.iload 4, 2) := by decide +kernel
theorem dX0_pass_32 : decode cX0_pass 32 = .ok (.iload 5, 2) := by decide +kernel
theorem dX0_pass_34 : decode cX0_pass 34 = .ok (.invokestatic 32, 3) := by decide +kernel
theorem dX0_pass_37 : decode cX0_pass 37 = .ok (.iconst 1, 1) := by decide +kernel
theorem dX0_pass_38 : decode cX0_pass 38 = .ok (.ireturn, 1) := by decide +kernel
theorem dX1_init_0 : decode cX1_init 0 = .ok (.aload_n 0, 1) := by decide +kernel
theorem dX1_init_1 : decode cX1_init 1 = .ok (.invokespecial 3, 3) := by decide +kernel
theorem dX1_init_4 : decode cX1_init 4 = .ok (.aload_n 0, 1) := by decide +kernel
theorem dX1_init_5 : decode cX1_init 5 = .ok (.bipush 30, 2) := by decide +kernel
theorem dX1_init_7 : decode cX1_init 7 = .ok (.newarray .int, 2) := by decide +kernel
theorem dX1_init_9 : decode cX1_init 9 = .ok (.putfield 9, 3) := by decide +kernel
theorem dX1_init_12 : decode cX1_init 12 = .ok (.aload_n 0, 1) := by decide +kernel
theorem dX1_init_13 : decode cX1_init 13 = .ok (.bipush 30, 2) := by decide +kernel
theorem dX1_init_15 : decode cX1_init 15 = .ok (.newarray .int, 2) := by decide +kernel
theorem dX1_init_17 : decode cX1_init 17 = .ok (.putfield 15, 3) := by decide +kernel
theorem dX1_init_20 : decode cX1_init 20 = .ok (.aload_n 0, 1) := by decide +kernel
theorem dX1_init_21 : decode cX1_init 21 = .ok (.bipush 30, 2) := by decide +kernel
theorem dX1_init_23 : decode cX1_init 23 = .ok (.newarray .int, 2) := by decide +kernel
theorem dX1_init_25 : decode cX1_init 25 = .ok (.putfield 18, 3) := by decide +kernel
theorem dX1_init_28 : decode cX1_init 28 = .ok (.aload_n 0, 1) := by decide +kernel
theorem dX1_init_29 : decode cX1_init 29 = .ok (.bipush 30, 2) := by decide +kernel
theorem dX1_init_31 : decode cX1_init 31 = .ok (.newarray .int, 2) := by decide +kernel
theorem dX1_init_33 : decode cX1_init 33 = .ok (.putfield 21, 3) := by decide +kernel
theorem dX1_init_36 : decode cX1_init 36 = .ok (.aload_n 0, 1) := by decide +kernel
theorem dX1_init_37 : decode cX1_init 37 = .ok (.bipush 30, 2) := by decide +kernel
theorem dX1_init_39 : decode cX1_init 39 = .ok (.newarray .int, 2) := by decide +kernel
theorem dX1_init_41 : decode cX1_init 41 = .ok (.putfield 24, 3) := by decide +kernel
theorem dX1_init_44 : decode cX1_init 44 = .ok (.aload_n 0, 1) := by decide +kernel
theorem dX1_init_45 : decode cX1_init 45 = .ok (.iconst 0, 1) := by decide +kernel
theorem dX1_init_46 : decode cX1_init 46 = .ok (.putfield 27, 3) := by decide +kernel
theorem dX1_init_49 : decode cX1_init 49 = .ok (.aload_n 0, 1) := by decide +kernel
theorem dX1_init_50 : decode cX1_init 50 = .ok (.iconst 4, 1) := by decide +kernel
theorem dX1_init_51 : decode cX1_init 51 = .ok (.putfield 31, 3) := by decide +kernel
theorem dX1_init_54 : decode cX1_init 54 = .ok (.aload_n 0, 1) := by decide +kernel
theorem dX1_init_55 : decode cX1_init 55 = .ok (.iconst 2, 1) := by decide +kernel
theorem dX1_init_56 : decode cX1_init 56 = .ok (.putfield 34, 3) := by decide +kernel
theorem dX1_init_59 : decode cX1_init 59 = .ok (.return_, 1) := by decide +kernel
set_option maxRecDepth 20000 in
theorem ggX1_add_X9_isPlace : GoodIn wsX1_add wsX9_isPlace := goodIn_r _ [9, 10, 11, 8, 12] (by decide +kernel) (by decide +kernel)
set_option maxRecDepth 20000 in
theorem gX1_add_X9_isPlace_n37 : GoodIn wsX1_add (wsX9_isPlace) := ggX1_add_X9_isPlace
set_option maxRecDepth 20000 in
theorem ggX1_add_X9_isWithin : GoodIn wsX1_add wsX9_isWithin := goodIn_r _ [12] (by decide +kernel) (by decide +kernel)
set_option maxRecDepth 20000 in
theorem gX1_add_X9_isWithin_n41 : GoodIn wsX1_add (wsX9_isWithin) := ggX1_add_X9_isWithin
set_option maxRecDepth 20000 in
theorem ggX1_add_X9_put : GoodIn wsX1_add wsX9_put := goodIn_r _ [14] (by decide +kernel) (by decide +kernel)
set_option maxRecDepth 20000 in
theorem gX1_add_X9_put_n45 : GoodIn wsX1_add (wsX9_put) := ggX1_add_X9_put
theorem dX1_add_0 : decode cX1_add 0 = .ok (.iload_n 1, 1) := by decide +kernel
theorem dX1_add_1 : decode cX1_add 1 = .ok (.invokestatic 37, 3) := by decide +kernel
theorem dX1_add_4 : decode cX1_add 4 = .ok (.ifCond .eq 15, 3) := by decide +kernel
theorem dX1_add_7 : decode cX1_add 7 = .ok (.iload_n 2, 1) := by decide +kernel
theorem dX1_add_8 : decode cX1_add 8 = .ok (.invokestatic 37, 3) := by decide +kernel
theorem dX1_add_11 : decode cX1_add 11 = .ok (.ifCond .eq 8, 3) := by decide +kernel
theorem dX1_add_14 : decode cX1_add 14 = .ok (.iload_n 1, 1) := by decide +kernel
theorem dX1_add_15 : decode cX1_add 15 = .ok (.iload_n 2, 1) := by decide +kernel
theorem dX1_add_16 : decode cX1_add 16 = .ok (.if_icmp .ne 5, 3) := by decide +kernel
theorem dX1_add_19 : decode cX1_add 19 = .ok (.iconst (-1), 1) := by decide +kernel
theorem dX1_add_20 : decode cX1_add 20 = .ok (.ireturn, 1) := by decide +kernel
theorem dX1_add_21 : decode cX1_add 21 = .ok (.iload_n 3, 1) := by decide +kernel
theorem dX1_add_22 : decode cX1_add 22 = .ok (.iconst 1, 1) := by decide +kernel
theorem dX1_add_23 : decode cX1_add 23 = .ok (.sipush 200, 3) := by decide +kernel
theorem dX1_add_26 : decode cX1_add 26 = .ok (.invokestatic 41, 3) := by decide +kernel
theorem dX1_add_29 : decode cX1_add 29 = .ok (.ifCond .eq 14, 3) := by decide +kernel
theorem dX1_add_32 : decode cX1_add 32 = .ok (.iload 4, 2) := by decide +kernel
theorem dX1_add_34 : decode cX1_add 34 = .ok (.iconst 1, 1) := by decide +kernel
theorem dX1_add_35 : decode cX1_add 35 = .ok (.bipush 12, 2) := by decide +kernel
theorem dX1_add_37 : decode cX1_add 37 = .ok (.invokestatic 41, 3) := by decide +kernel
theorem dX1_add_40 : decode cX1_add 40 = .ok (.ifCond .ne 5, 3) := by decide +kernel
theorem dX1_add_43 : decode cX1_add 43 = .ok (.iconst (-1), 1) := by decide +kernel
theorem dX1_add_44 : decode cX1_add 44 = .ok (.ireturn, 1) := by decide +kernel
theorem dX1_add_45 : decode cX1_add 45 = .ok (.aload_n 0, 1) := by decide +kernel
theorem dX1_add_46 : decode cX1_add 46 = .ok (.getfield 27, 3) := by decide +kernel
theorem dX1_add_49 : decode cX1_add 49 = .ok (.bipush 30, 2) := by decide +kernel
theorem dX1_add_51 : decode cX1_add 51 = .ok (.if_icmp .lt 6, 3) := by decide +kernel
theorem dX1_add_54 : decode cX1_add 54 = .ok (.bipush (-5), 2) := by decide +kernel
theorem dX1_add_56 : decode cX1_add 56 = .ok (.ireturn, 1) := by decide +kernel
theorem dX1_add_57 : decode cX1_add 57 = .ok (.aload_n 0, 1) := by decide +kernel
theorem dX1_add_58 : decode cX1_add 58 = .ok (.getfield 9, 3) := by decide +kernel
theorem dX1_add_61 : decode cX1_add 61 = .ok (.aload_n 0, 1) := by decide +kernel
theorem dX1_add_62 : decode cX1_add 62 = .ok (.getfield 27, 3) := by decide +kernel
theorem dX1_add_65 : decode cX1_add 65 = .ok (.iload_n 1, 1) := by decide +kernel
theorem dX1_add_66 : decode cX1_add 66 = .ok (.invokestatic 45, 3) := by decide +kernel
theorem dX1_add_69 : decode cX1_add 69 = .ok (.aload_n 0, 1) := by decide +kernel
theorem dX1_add_70 : decode cX1_add 70 = .ok (.getfield 15, 3) := by decide +kernel
theorem dX1_add_73 : decode cX1_add 73 = .ok (.aload_n 0, 1) := by decide +kernel
theorem dX1_add_74 : decode cX1_add 74 = .ok (.getfield 27, 3) := by decide +kernel
theorem dX1_add_77 : decode cX1_add 77 = .ok (.iload_n 2, 1) := by decide +kernel
theorem dX1_add_78 : decode cX1_add 78 = .ok (.invokestatic 45, 3) := by decide +kernel
theorem dX1_add_81 : decode cX1_add 81 = .ok (.aload_n 0, 1) := by decide +kernel
theorem dX1_add_82 : decode cX1_add 82 = .ok (.getfield 18, 3) := by decide +kernel
theorem dX1_add_85 : decode cX1_add 85 = .ok (.aload_n 0, 1) := by decide +kernel
theorem dX1_add_86 : decode cX1_add 86 = .ok (.getfield 27, 3) := by decide +kernel
theorem dX1_add_89 : decode cX1_add 89 = .ok (.iload_n 3, 1) := by decide +kernel
theorem dX1_add_90 : decode cX1_add 90 = .ok (.invokestatic 45, 3) := by decide +kernel
theorem dX1_add_93 : decode cX1_add 93 = .ok (.aload_n 0, 1) := by decide +kernel
theorem dX1_add_94 : decode cX1_add 94 = .ok (.getfield 21, 3) := by decide +kernel
theorem dX1_add_97 : decode cX1_add 97 = .ok (.aload_n 0, 1) := by decide +kernel
theorem dX1_add_98 : decode cX1_add 98 = .ok (.getfield 27, 3) := by decide +kernel
theorem dX1_add_101 : decode cX1_add 101 = .ok (.iload 4, 2) := by decide +kernel
theorem dX1_add_103 : decode cX1_add 103 = .ok (.invokestatic 45, 3) := by decide +kernel
theorem dX1_add_106 : decode cX1_add 106 = .ok (.aload_n 0, 1) := by decide +kernel
theorem dX1_add_107 : decode cX1_add 107 = .ok (.getfield 24, 3) := by decide +kernel
theorem dX1_add_110 : decode cX1_add 110 = .ok (.aload_n 0, 1) := by decide +kernel
theorem dX1_add_111 : decode cX1_add 111 = .ok (.getfield 27, 3) := by decide +kernel
theorem dX1_add_114 : decode cX1_add 114 = .ok (.iload 5, 2) := by decide +kernel
theorem dX1_add_116 : decode cX1_add 116 = .ok (.ifCond .eq 7, 3) := by decide +kernel
theorem dX1_add_119 : decode cX1_add 119 = .ok (.iconst 1, 1) := by decide +kernel
theorem dX1_add_120 : decode cX1_add 120 = .ok (.goto 4, 3) := by decide +kernel
theorem dX1_add_123 : decode cX1_add 123 = .ok (.iconst 0, 1) := by decide +kernel
theorem dX1_add_124 : decode cX1_add 124 = .ok (.invokestatic 45, 3) := by decide +kernel
theorem dX1_add_127 : decode cX1_add 127 = .ok (.aload_n 0, 1) := by decide +kernel
theorem dX1_add_128 : decode cX1_add 128 = .ok (.dup, 1) := by decide +kernel
theorem dX1_add_129 : decode cX1_add 129 = .ok (.getfield 27, 3) := by decide +kernel
theorem dX1_add_132 : decode cX1_add 132 = .ok (.iconst 1, 1) := by decide +kernel
theorem dX1_add_133 : decode cX1_add 133 = .ok (.iadd, 1) := by decide +kernel
theorem dX1_add_134 : decode cX1_add 134 = .ok (.putfield 27, 3) := by decide +kernel
theorem dX1_add_137 : decode cX1_add 137 = .ok (.aload_n 0, 1) := by decide +kernel
theorem dX1_add_138 : decode cX1_add 138 = .ok (.getfield 27, 3) := by decide +kernel
theorem dX1_add_141 : decode cX1_add 141 = .ok (.iconst 1, 1) := by decide +kernel
theorem dX1_add_142 : decode cX1_add 142 = .ok (.isub, 1) := by decide +kernel
theorem dX1_add_143 : decode cX1_add 143 = .ok (.ireturn, 1) := by decide +kernel
set_option maxRecDepth 20000 in
theorem ggX1_setRates_X9_isWithin : GoodIn wsX1_setRates wsX9_isWithin := goodIn_r _ [5] (by decide +kernel) (by decide +kernel)
set_option maxRecDepth 20000 in
theorem gX1_setRates_X9_isWithin_n41 : GoodIn wsX1_setRates (wsX9_isWithin) := ggX1_setRates_X9_isWithin
theorem dX1_setRates_0 : decode cX1_setRates 0 = .ok (.iload_n 1, 1) := by decide +kernel
theorem dX1_setRates_1 : decode cX1_setRates 1 = .ok (.iconst 1, 1) := by decide +kernel
theorem dX1_setRates_2 : decode cX1_setRates 2 = .ok (.bipush 20, 2) := by decide +kernel
theorem dX1_setRates_4 : decode cX1_setRates 4 = .ok (.invokestatic 41, 3) := by decide +kernel
theorem dX1_setRates_7 : decode cX1_setRates 7 = .ok (.ifCond .eq 13, 3) := by decide +kernel
theorem dX1_setRates_10 : decode cX1_setRates 10 = .ok (.iload_n 2, 1) := by decide +kernel
theorem dX1_setRates_11 : decode cX1_setRates 11 = .ok (.iconst 1, 1) := by decide +kernel
theorem dX1_setRates_12 : decode cX1_setRates 12 = .ok (.bipush 20, 2) := by decide +kernel
theorem dX1_setRates_14 : decode cX1_setRates 14 = .ok (.invokestatic 41, 3) := by decide +kernel
theorem dX1_setRates_17 : decode cX1_setRates 17 = .ok (.ifCond .ne 5, 3) := by decide +kernel
theorem dX1_setRates_20 : decode cX1_setRates 20 = .ok (.iconst (-1), 1) := by decide +kernel
theorem dX1_setRates_21 : decode cX1_setRates 21 = .ok (.ireturn, 1) := by decide +kernel
theorem dX1_setRates_22 : decode cX1_setRates 22 = .ok (.aload_n 0, 1) := by decide +kernel
theorem dX1_setRates_23 : decode cX1_setRates 23 = .ok (.iload_n 1, 1) := by decide +kernel
theorem dX1_setRates_24 : decode cX1_setRates 24 = .ok (.putfield 31, 3) := by decide +kernel
theorem dX1_setRates_27 : decode cX1_setRates 27 = .ok (.aload_n 0, 1) := by decide +kernel
theorem dX1_setRates_28 : decode cX1_setRates 28 = .ok (.iload_n 2, 1) := by decide +kernel
theorem dX1_setRates_29 : decode cX1_setRates 29 = .ok (.putfield 34, 3) := by decide +kernel
theorem dX1_setRates_32 : decode cX1_setRates 32 = .ok (.iconst 0, 1) := by decide +kernel
theorem dX1_setRates_33 : decode cX1_setRates 33 = .ok (.ireturn, 1) := by decide +kernel
theorem dX1_isThere_0 : decode cX1_isThere 0 = .ok (.iload_n 1, 1) := by decide +kernel
theorem dX1_isThere_1 : decode cX1_isThere 1 = .ok (.ifCond .lt 15, 3) := by decide +kernel
theorem dX1_isThere_4 : decode cX1_isThere 4 = .ok (.iload_n 1, 1) := by decide +kernel
theorem dX1_isThere_5 : decode cX1_isThere 5 = .ok (.aload_n 0, 1) := by decide +kernel
theorem dX1_isThere_6 : decode cX1_isThere 6 = .ok (.getfield 27, 3) := by decide +kernel
theorem dX1_isThere_9 : decode cX1_isThere 9 = .ok (.if_icmp .ge 7, 3) := by decide +kernel
theorem dX1_isThere_12 : decode cX1_isThere 12 = .ok (.iconst 1, 1) := by decide +kernel
theorem dX1_isThere_13 : decode cX1_isThere 13 = .ok (.goto 4, 3) := by decide +kernel
theorem dX1_isThere_16 : decode cX1_isThere 16 = .ok (.iconst 0, 1) := by decide +kernel
theorem dX1_isThere_17 : decode cX1_isThere 17 = .ok (.ireturn, 1) := by decide +kernel
set_option maxRecDepth 20000 in
theorem ggX1_farEnd_X9_at : GoodIn wsX1_farEnd wsX9_at := goodIn_r _ [5] (by decide +kernel) (by decide +kernel)
set_option maxRecDepth 20000 in
theorem gX1_farEnd_X9_at_n49 : GoodIn wsX1_farEnd (wsX9_at) := ggX1_farEnd_X9_at
theorem dX1_farEnd_0 : decode cX1_farEnd 0 = .ok (.aload_n 0, 1) := by decide +kernel
theorem dX1_farEnd_1 : decode cX1_farEnd 1 = .ok (.getfield 9, 3) := by decide +kernel
theorem dX1_farEnd_4 : decode cX1_farEnd 4 = .ok (.iload_n 1, 1) := by decide +kernel
theorem dX1_farEnd_5 : decode cX1_farEnd 5 = .ok (.invokestatic 49, 3) := by decide +kernel
theorem dX1_farEnd_8 : decode cX1_farEnd 8 = .ok (.iload_n 2, 1) := by decide +kernel
theorem dX1_farEnd_9 : decode cX1_farEnd 9 = .ok (.if_icmp .ne 12, 3) := by decide +kernel
theorem dX1_farEnd_12 : decode cX1_farEnd 12 = .ok (.aload_n 0, 1) := by decide +kernel
theorem dX1_farEnd_13 : decode cX1_farEnd 13 = .ok (.getfield 15, 3) := by decide +kernel
theorem dX1_farEnd_16 : decode cX1_farEnd 16 = .ok (.iload_n 1, 1) := by decide +kernel
theorem dX1_farEnd_17 : decode cX1_farEnd 17 = .ok (.invokestatic 49, 3) := by decide +kernel
theorem dX1_farEnd_20 : decode cX1_farEnd 20 = .ok (.ireturn, 1) := by decide +kernel
theorem dX1_farEnd_21 : decode cX1_farEnd 21 = .ok (.aload_n 0, 1) := by decide +kernel
theorem dX1_farEnd_22 : decode cX1_farEnd 22 = .ok (.getfield 15, 3) := by decide +kernel
theorem dX1_farEnd_25 : decode cX1_farEnd 25 = .ok (.iload_n 1, 1) := by decide +kernel
theorem dX1_farEnd_26 : decode cX1_farEnd 26 = .ok (.invokestatic 49, 3) := by decide +kernel
theorem dX1_farEnd_29 : decode cX1_farEnd 29 = .ok (.iload_n 2, 1) := by decide +kernel
theorem dX1_farEnd_30 : decode cX1_farEnd 30 = .ok (.if_icmp .ne 14, 3) := by decide +kernel
theorem dX1_farEnd_33 : decode cX1_farEnd 33 = .ok (.aload_n 0, 1) := by decide +kernel
theorem dX1_farEnd_34 : decode cX1_farEnd 34 = .ok (.getfield 9, 3) := by decide +kernel
theorem dX1_farEnd_37 : decode cX1_farEnd 37 = .ok (.iload_n 1, 1) := by decide +kernel
theorem dX1_farEnd_38 : decode cX1_farEnd 38 = .ok (.invokestatic 49, 3) := by decide +kernel
theorem dX1_farEnd_41 : decode cX1_farEnd 41 = .ok (.goto 4, 3) := by decide +kernel
theorem dX1_farEnd_44 : decode cX1_farEnd 44 = .ok (.iconst (-1), 1) := by decide +kernel
theorem dX1_farEnd_45 : decode cX1_farEnd 45 = .ok (.ireturn, 1) := by decide +kernel
set_option maxRecDepth 20000 in
theorem ggX1_oneEndOf_X9_at : GoodIn wsX1_oneEndOf wsX9_at := goodIn_r _ [4] (by decide +kernel) (by decide +kernel)
set_option maxRecDepth 20000 in
theorem gX1_oneEndOf_X9_at_n49 : GoodIn wsX1_oneEndOf (wsX9_at) := ggX1_oneEndOf_X9_at
theorem dX1_oneEndOf_0 : decode cX1_oneEndOf 0 = .ok (.aload_n 0, 1) := by decide +kernel
theorem dX1_oneEndOf_1 : decode cX1_oneEndOf 1 = .ok (.getfield 9, 3) := by decide +kernel
theorem dX1_oneEndOf_4 : decode cX1_oneEndOf 4 = .ok (.iload_n 1, 1) := by decide +kernel
theorem dX1_oneEndOf_5 : decode cX1_oneEndOf 5 = .ok (.invokestatic 49, 3) := by decide +kernel
theorem dX1_oneEndOf_8 : decode cX1_oneEndOf 8 = .ok (.ireturn, 1) := by decide +kernel
set_option maxRecDepth 20000 in
theorem ggX1_otherEndOf_X9_at : GoodIn wsX1_otherEndOf wsX9_at := goodIn_r _ [4] (by decide +kernel) (by decide +kernel)
set_option maxRecDepth 20000 in
theorem gX1_otherEndOf_X9_at_n49 : GoodIn wsX1_otherEndOf (wsX9_at) := ggX1_otherEndOf_X9_at
theorem dX1_otherEndOf_0 : decode cX1_otherEndOf 0 = .ok (.aload_n 0, 1) := by decide +kernel
theorem dX1_otherEndOf_1 : decode cX1_otherEndOf 1 = .ok (.getfield 15, 3) := by decide +kernel
theorem dX1_otherEndOf_4 : decode cX1_otherEndOf 4 = .ok (.iload_n 1, 1) := by decide +kernel
theorem dX1_otherEndOf_5 : decode cX1_otherEndOf 5 = .ok (.invokestatic 49, 3) := by decide +kernel
theorem dX1_otherEndOf_8 : decode cX1_otherEndOf 8 = .ok (.ireturn, 1) := by decide +kernel
set_option maxRecDepth 20000 in
theorem ggX1_hoursToChange_X9_at : GoodIn wsX1_hoursToChange wsX9_at := goodIn_r _ [7] (by decide +kernel) (by decide +kernel)
set_option maxRecDepth 20000 in
theorem gX1_hoursToChange_X9_at_n49 : GoodIn wsX1_hoursToChange (wsX9_at) := ggX1_hoursToChange_X9_at
theorem dX1_hoursToChange_0 : decode cX1_hoursToChange 0 = .ok (.iload_n 2, 1) := by decide +kernel
theorem dX1_hoursToChange_1 : decode cX1_hoursToChange 1 = .ok (.aload_n 0, 1) := by decide +kernel
theorem dX1_hoursToChange_2 : decode cX1_hoursToChange 2 = .ok (.getfield 24, 3) := by decide +kernel
theorem dX1_hoursToChange_5 : decode cX1_hoursToChange 5 = .ok (.iload_n 1, 1) := by decide +kernel
theorem dX1_hoursToChange_6 : decode cX1_hoursToChange 6 = .ok (.invokestatic 49, 3) := by decide +kernel
theorem dX1_hoursToChange_9 : decode cX1_hoursToChange 9 = .ok (.iconst 1, 1) := by decide +kernel
theorem dX1_hoursToChange_10 : decode cX1_hoursToChange 10 = .ok (.if_icmp .ne 10, 3) := by decide +kernel
theorem dX1_hoursToChange_13 : decode cX1_hoursToChange 13 = .ok (.aload_n 0, 1) := by decide +kernel
theorem dX1_hoursToChange_14 : decode cX1_hoursToChange 14 = .ok (.getfield 31, 3) := by decide +kernel
theorem dX1_hoursToChange_17 : decode cX1_hoursToChange 17 = .ok (.goto 7, 3) := by decide +kernel
theorem dX1_hoursToChange_20 : decode cX1_hoursToChange 20 = .ok (.aload_n 0, 1) := by decide +kernel
theorem dX1_hoursToChange_21 : decode cX1_hoursToChange 21 = .ok (.getfield 34, 3) := by decide +kernel
theorem dX1_hoursToChange_24 : decode cX1_hoursToChange 24 = .ok (.imul, 1) := by decide +kernel
theorem dX1_hoursToChange_25 : decode cX1_hoursToChange 25 = .ok (.istore_n 3, 1) := by decide +kernel
theorem dX1_hoursToChange_26 : decode cX1_hoursToChange 26 = .ok (.iload_n 3, 1) := by decide +kernel
theorem dX1_hoursToChange_27 : decode cX1_hoursToChange 27 = .ok (.iconst 1, 1) := by decide +kernel
theorem dX1_hoursToChange_28 : decode cX1_hoursToChange 28 = .ok (.if_icmp .ge 5, 3) := by decide +kernel
theorem dX1_hoursToChange_31 : decode cX1_hoursToChange 31 = .ok (.iconst 0, 1) := by decide +kernel
theorem dX1_hoursToChange_32 : decode cX1_hoursToChange 32 = .ok (.ireturn, 1) := by decide +kernel
theorem dX1_hoursToChange_33 : decode cX1_hoursToChange 33 = .ok (.aload_n 0, 1) := by decide +kernel
theorem dX1_hoursToChange_34 : decode cX1_hoursToChange 34 = .ok (.getfield 18, 3) := by decide +kernel
theorem dX1_hoursToChange_37 : decode cX1_hoursToChange 37 = .ok (.iload_n 1, 1) := by decide +kernel
theorem dX1_hoursToChange_38 : decode cX1_hoursToChange 38 = .ok (.invokestatic 49, 3) := by decide +kernel
theorem dX1_hoursToChange_41 : decode cX1_hoursToChange 41 = .ok (.iload_n 3, 1) := by decide +kernel
theorem dX1_hoursToChange_42 : decode cX1_hoursToChange 42 = .ok (.iadd, 1) := by decide +kernel
theorem dX1_hoursToChange_43 : decode cX1_hoursToChange 43 = .ok (.iconst 1, 1) := by decide +kernel
theorem dX1_hoursToChange_44 : decode cX1_hoursToChange 44 = .ok (.isub, 1) := by decide +kernel
theorem dX1_hoursToChange_45 : decode cX1_hoursToChange 45 = .ok (.iload_n 3, 1) := by decide +kernel
theorem dX1_hoursToChange_46 : decode cX1_hoursToChange 46 = .ok (.idiv, 1) := by decide +kernel
theorem dX1_hoursToChange_47 : decode cX1_hoursToChange 47 = .ok (.ireturn, 1) := by decide +kernel
set_option maxRecDepth 20000 in
theorem ggX2_init_J7_fill_53178 : GoodIn wsX2_init wsJ7_fill_53178 := goodIn_r _ [16] (by decide +kernel) (by decide +kernel)
set_option maxRecDepth 20000 in
theorem gX2_init_J7_fill_53178 : GoodIn wsX2_init (va_wsS RX2 35 yJ7_fill_53178 wsJ7_fill_53178) := goodIn_app (goodIn_of _ (by decide +kernel)) ggX2_init_J7_fill_53178
theorem dX2_init_0 : decode cX2_init 0 = .ok (.aload_n 0, 1) := by decide +kernel
theorem dX2_init_1 : decode cX2_init 1 = .ok (.invokespecial 3, 3) := by decide +kernel
theorem dX2_init_4 : decode cX2_init 4 = .ok (.aload_n 0, 1) := by decide +kernel
theorem dX2_init_5 : decode cX2_init 5 = .ok (.bipush 30, 2) := by decide +kernel
theorem dX2_init_7 : decode cX2_init 7 = .ok (.newarray .int, 2) := by decide +kernel
theorem dX2_init_9 : decode cX2_init 9 = .ok (.putfield 9, 3) := by decide +kernel
theorem dX2_init_12 : decode cX2_init 12 = .ok (.aload_n 0, 1) := by decide +kernel
theorem dX2_init_13 : decode cX2_init 13 = .ok (.bipush 30, 2) := by decide +kernel
theorem dX2_init_15 : decode cX2_init 15 = .ok (.newarray .int, 2) := by decide +kernel
theorem dX2_init_17 : decode cX2_init 17 = .ok (.putfield 15, 3) := by decide +kernel
theorem dX2_init_20 : decode cX2_init 20 = .ok (.aload_n 0, 1) := by decide +kernel
theorem dX2_init_21 : decode cX2_init 21 = .ok (.bipush 30, 2) := by decide +kernel
theorem dX2_init_23 : decode cX2_init 23 = .ok (.newarray .int, 2) := by decide +kernel
theorem dX2_init_25 : decode cX2_init 25 = .ok (.putfield 18, 3) := by decide +kernel
theorem dX2_init_28 : decode cX2_init 28 = .ok (.aload_n 0, 1) := by decide +kernel
theorem dX2_init_29 : decode cX2_init 29 = .ok (.bipush 30, 2) := by decide +kernel
theorem dX2_init_31 : decode cX2_init 31 = .ok (.newarray .int, 2) := by decide +kernel
theorem dX2_init_33 : decode cX2_init 33 = .ok (.putfield 21, 3) := by decide +kernel
theorem dX2_init_36 : decode cX2_init 36 = .ok (.aload_n 0, 1) := by decide +kernel
theorem dX2_init_37 : decode cX2_init 37 = .ok (.bipush 30, 2) := by decide +kernel
theorem dX2_init_39 : decode cX2_init 39 = .ok (.newarray .int, 2) := by decide +kernel
theorem dX2_init_41 : decode cX2_init 41 = .ok (.putfield 24, 3) := by decide +kernel
theorem dX2_init_44 : decode cX2_init 44 = .ok (.aload_n 0, 1) := by decide +kernel
theorem dX2_init_45 : decode cX2_init 45 = .ok (.bipush 30, 2) := by decide +kernel
theorem dX2_init_47 : decode cX2_init 47 = .ok (.newarray .int, 2) := by decide +kernel
theorem dX2_init_49 : decode cX2_init 49 = .ok (.putfield 27, 3) := by decide +kernel
theorem dX2_init_52 : decode cX2_init 52 = .ok (.aload_n 0, 1) := by decide +kernel
theorem dX2_init_53 : decode cX2_init 53 = .ok (.iconst 0, 1) := by decide +kernel
theorem dX2_init_54 : decode cX2_init 54 = .ok (.putfield 30, 3) := by decide +kernel
theorem dX2_init_57 : decode cX2_init 57 = .ok (.aload_n 0, 1) := by decide +kernel
theorem dX2_init_58 : decode cX2_init 58 = .ok (.getfield 24, 3) := by decide +kernel
theorem dX2_init_61 : decode cX2_init 61 = .ok (.ldc 34, 2) := by decide +kernel
theorem dX2_init_63 : decode cX2_init 63 = .ok (.invokestatic 35, 3) := by decide +kernel
theorem dX2_init_66 : decode cX2_init 66 = .ok (.aload_n 0, 1) := by decide +kernel
theorem dX2_init_67 : decode cX2_init 67 = .ok (.getfield 27, 3) := by decide +kernel
theorem dX2_init_70 : decode cX2_init 70 = .ok (.ldc 34, 2) := by decide +kernel
theorem dX2_init_72 : decode cX2_init 72 = .ok (.invokestatic 35, 3) := by decide +kernel
theorem dX2_init_75 : decode cX2_init 75 = .ok (.return_, 1) := by decide +kernel
set_option maxRecDepth 20000 in
theorem ggX2_clear_J7_fill_53178 : GoodIn wsX2_clear wsJ7_fill_53178 := goodIn_r _ [9] (by decide +kernel) (by decide +kernel)
set_option maxRecDepth 20000 in
theorem gX2_clear_J7_fill_53178 : GoodIn wsX2_clear (va_wsS RX2 35 yJ7_fill_53178 wsJ7_fill_53178) := goodIn_app (goodIn_of _ (by decide +kernel)) ggX2_clear_J7_fill_53178
theorem dX2_clear_0 : decode cX2_clear 0 = .ok (.aload_n 0, 1) := by decide +kernel
theorem dX2_clear_1 : decode cX2_clear 1 = .ok (.getfield 21, 3) := by decide +kernel
theorem dX2_clear_4 : decode cX2_clear 4 = .ok (.iconst 0, 1) := by decide +kernel
theorem dX2_clear_5 : decode cX2_clear 5 = .ok (.invokestatic 35, 3) := by decide +kernel
theorem dX2_clear_8 : decode cX2_clear 8 = .ok (.aload_n 0, 1) := by decide +kernel
theorem dX2_clear_9 : decode cX2_clear 9 = .ok (.getfield 24, 3) := by decide +kernel
theorem dX2_clear_12 : decode cX2_clear 12 = .ok (.ldc 34, 2) := by decide +kernel
theorem dX2_clear_14 : decode cX2_clear 14 = .ok (.invokestatic 35, 3) := by decide +kernel
theorem dX2_clear_17 : decode cX2_clear 17 = .ok (.aload_n 0, 1) := by decide +kernel
theorem dX2_clear_18 : decode cX2_clear 18 = .ok (.getfield 27, 3) := by decide +kernel
theorem dX2_clear_21 : decode cX2_clear 21 = .ok (.ldc 34, 2) := by decide +kernel
theorem dX2_clear_23 : decode cX2_clear 23 = .ok (.invokestatic 35, 3) := by decide +kernel
theorem dX2_clear_26 : decode cX2_clear 26 = .ok (.aload_n 0, 1) := by decide +kernel
theorem dX2_clear_27 : decode cX2_clear 27 = .ok (.iconst 0, 1) := by decide +kernel
theorem dX2_clear_28 : decode cX2_clear 28 = .ok (.putfield 30, 3) := by decide +kernel
theorem dX2_clear_31 : decode cX2_clear 31 = .ok (.return_, 1) := by decide +kernel
set_option maxRecDepth 20000 in
theorem ggX2_add_X9_put : GoodIn wsX2_add wsX9_put := goodIn_r _ [8] (by decide +kernel) (by decide +kernel)
set_option maxRecDepth 20000 in
theorem gX2_add_X9_put_n41 : GoodIn wsX2_add (wsX9_put) := ggX2_add_X9_put
theorem dX2_add_0 : decode cX2_add 0 = .ok (.aload_n 0, 1) := by decide +kernel
theorem dX2_add_1 : decode cX2_add 1 = .ok (.getfield 9, 3) := by decide +kernel
theorem dX2_add_4 : decode cX2_add 4 = .ok (.aload_n 0, 1) := by decide +kernel
theorem dX2_add_5 : decode cX2_add 5 = .ok (.getfield 30, 3) := by decide +kernel
theorem dX2_add_8 : decode cX2_add 8 = .ok (.iload_n 1, 1) := by decide +kernel
theorem dX2_add_9 : decode cX2_add 9 = .ok (.invokestatic 41, 3) := by decide +kernel
theorem dX2_add_12 : decode cX2_add 12 = .ok (.aload_n 0, 1) := by decide +kernel
theorem dX2_add_13 : decode cX2_add 13 = .ok (.getfield 15, 3) := by decide +kernel
theorem dX2_add_16 : decode cX2_add 16 = .ok (.iload_n 1, 1) := by decide +kernel
theorem dX2_add_17 : decode cX2_add 17 = .ok (.iload_n 2, 1) := by decide +kernel
theorem dX2_add_18 : decode cX2_add 18 = .ok (.invokestatic 41, 3) := by decide +kernel
theorem dX2_add_21 : decode cX2_add 21 = .ok (.aload_n 0, 1) := by decide +kernel
theorem dX2_add_22 : decode cX2_add 22 = .ok (.getfield 18, 3) := by decide +kernel
theorem dX2_add_25 : decode cX2_add 25 = .ok (.iload_n 1, 1) := by decide +kernel
theorem dX2_add_26 : decode cX2_add 26 = .ok (.iload_n 3, 1) := by decide +kernel
theorem dX2_add_27 : decode cX2_add 27 = .ok (.invokestatic 41, 3) := by decide +kernel
theorem dX2_add_30 : decode cX2_add 30 = .ok (.aload_n 0, 1) := by decide +kernel
theorem dX2_add_31 : decode cX2_add 31 = .ok (.getfield 21, 3) := by decide +kernel
theorem dX2_add_34 : decode cX2_add 34 = .ok (.iload_n 1, 1) := by decide +kernel
theorem dX2_add_35 : decode cX2_add 35 = .ok (.iload 4, 2) := by decide +kernel
theorem dX2_add_37 : decode cX2_add 37 = .ok (.invokestatic 41, 3) := by decide +kernel
theorem dX2_add_40 : decode cX2_add 40 = .ok (.aload_n 0, 1) := by decide +kernel
theorem dX2_add_41 : decode cX2_add 41 = .ok (.dup, 1) := by decide +kernel
theorem dX2_add_42 : decode cX2_add 42 = .ok (.getfield 30, 3) := by decide +kernel
theorem dX2_add_45 : decode cX2_add 45 = .ok (.iconst 1, 1) := by decide +kernel
theorem dX2_add_46 : decode cX2_add 46 = .ok (.iadd, 1) := by decide +kernel
theorem dX2_add_47 : decode cX2_add 47 = .ok (.putfield 30, 3) := by decide +kernel
theorem dX2_add_50 : decode cX2_add 50 = .ok (.return_, 1) := by decide +kernel
set_option maxRecDepth 20000 in
theorem ggX2_hasOrder_X9_at : GoodIn wsX2_hasOrder wsX9_at := goodIn_r _ [4] (by decide +kernel) (by decide +kernel)
set_option maxRecDepth 20000 in
theorem gX2_hasOrder_X9_at_n45 : GoodIn wsX2_hasOrder (wsX9_at) := ggX2_hasOrder_X9_at
theorem dX2_hasOrder_0 : decode cX2_hasOrder 0 = .ok (.aload_n 0, 1) := by decide +kernel
theorem dX2_hasOrder_1 : decode cX2_hasOrder 1 = .ok (.getfield 21, 3) := by decide +kernel
theorem dX2_hasOrder_4 : decode cX2_hasOrder 4 = .ok (.iload_n 1, 1) := by decide +kernel
theorem dX2_hasOrder_5 : decode cX2_hasOrder 5 = .ok (.invokestatic 45, 3) := by decide +kernel
theorem dX2_hasOrder_8 : decode cX2_hasOrder 8 = .ok (.ifCond .le 7, 3) := by decide +kernel
theorem dX2_hasOrder_11 : decode cX2_hasOrder 11 = .ok (.iconst 1, 1) := by decide +kernel
theorem dX2_hasOrder_12 : decode cX2_hasOrder 12 = .ok (.goto 4, 3) := by decide +kernel
theorem dX2_hasOrder_15 : decode cX2_hasOrder 15 = .ok (.iconst 0, 1) := by decide +kernel
theorem dX2_hasOrder_16 : decode cX2_hasOrder 16 = .ok (.ireturn, 1) := by decide +kernel
set_option maxRecDepth 20000 in
theorem ggX2_reckon_X9_at : GoodIn wsX2_reckon wsX9_at := goodIn_r _ [10] (by decide +kernel) (by decide +kernel)
set_option maxRecDepth 20000 in
theorem gX2_reckon_X9_at_n45 : GoodIn wsX2_reckon (wsX9_at) := ggX2_reckon_X9_at
set_option maxRecDepth 20000 in
theorem ggX2_reckon_X9_put : GoodIn wsX2_reckon wsX9_put := goodIn_r _ [12] (by decide +kernel) (by decide +kernel)
set_option maxRecDepth 20000 in
theorem gX2_reckon_X9_put_n41 : GoodIn wsX2_reckon (wsX9_put) := ggX2_reckon_X9_put
set_option maxRecDepth 20000 in
theorem ggX2_reckon_X1_hoursToChange : GoodIn wsX2_reckon wsX1_hoursToChange := goodIn_r _ [17, 18, 19, 20, 21, 8, 9, 10, 29, 30, 31, 32, 33, 34, 35, 36] (by decide +kernel) (by decide +kernel)
set_option maxRecDepth 20000 in
theorem gX2_reckon_X1_hoursToChange : GoodIn wsX2_reckon (wsV RX2 49 RX1 yX1_hoursToChange wsX1_hoursToChange) := goodIn_app (goodIn_of _ (by decide +kernel)) ggX2_reckon_X1_hoursToChange
theorem dX2_reckon_0 : decode cX2_reckon 0 = .ok (.iconst 0, 1) := by decide +kernel
theorem dX2_reckon_1 : decode cX2_reckon 1 = .ok (.istore_n 2, 1) := by decide +kernel
theorem dX2_reckon_2 : decode cX2_reckon 2 = .ok (.iload_n 2, 1) := by decide +kernel
theorem dX2_reckon_3 : decode cX2_reckon 3 = .ok (.aload_n 0, 1) := by decide +kernel
theorem dX2_reckon_4 : decode cX2_reckon 4 = .ok (.getfield 30, 3) := by decide +kernel
theorem dX2_reckon_7 : decode cX2_reckon 7 = .ok (.if_icmp .ge 92, 3) := by decide +kernel
theorem dX2_reckon_10 : decode cX2_reckon 10 = .ok (.aload_n 0, 1) := by decide +kernel
theorem dX2_reckon_11 : decode cX2_reckon 11 = .ok (.getfield 9, 3) := by decide +kernel
theorem dX2_reckon_14 : decode cX2_reckon 14 = .ok (.iload_n 2, 1) := by decide +kernel
theorem dX2_reckon_15 : decode cX2_reckon 15 = .ok (.invokestatic 45, 3) := by decide +kernel
theorem dX2_reckon_18 : decode cX2_reckon 18 = .ok (.istore_n 3, 1) := by decide +kernel
theorem dX2_reckon_19 : decode cX2_reckon 19 = .ok (.aload_n 0, 1) := by decide +kernel
theorem dX2_reckon_20 : decode cX2_reckon 20 = .ok (.getfield 15, 3) := by decide +kernel
theorem dX2_reckon_23 : decode cX2_reckon 23 = .ok (.iload_n 3, 1) := by decide +kernel
theorem dX2_reckon_24 : decode cX2_reckon 24 = .ok (.invokestatic 45, 3) := by decide +kernel
theorem dX2_reckon_27 : decode cX2_reckon 27 = .ok (.istore 4, 2) := by decide +kernel
theorem dX2_reckon_29 : decode cX2_reckon 29 = .ok (.aload_n 0, 1) := by decide +kernel
theorem dX2_reckon_30 : decode cX2_reckon 30 = .ok (.getfield 18, 3) := by decide +kernel
theorem dX2_reckon_33 : decode cX2_reckon 33 = .ok (.iload_n 3, 1) := by decide +kernel
theorem dX2_reckon_34 : decode cX2_reckon 34 = .ok (.invokestatic 45, 3) := by decide +kernel
theorem dX2_reckon_37 : decode cX2_reckon 37 = .ok (.iload 4, 2) := by decide +kernel
theorem dX2_reckon_39 : decode cX2_reckon 39 = .ok (.iconst (-1), 1) := by decide +kernel
theorem dX2_reckon_40 : decode cX2_reckon 40 = .ok (.if_icmp .ne 7, 3) := by decide +kernel
theorem dX2_reckon_43 : decode cX2_reckon 43 = .ok (.iconst 0, 1) := by decide +kernel
theorem dX2_reckon_44 : decode cX2_reckon 44 = .ok (.goto 12, 3) := by decide +kernel
theorem dX2_reckon_47 : decode cX2_reckon 47 = .ok (.aload_n 0, 1) := by decide +kernel
theorem dX2_reckon_48 : decode cX2_reckon 48 = .ok (.getfield 27, 3) := by decide +kernel
theorem dX2_reckon_51 : decode cX2_reckon 51 = .ok (.iload 4, 2) := by decide +kernel
theorem dX2_reckon_53 : decode cX2_reckon 53 = .ok (.invokestatic 45, 3) := by decide +kernel
theorem dX2_reckon_56 : decode cX2_reckon 56 = .ok (.iadd, 1) := by decide +kernel
theorem dX2_reckon_57 : decode cX2_reckon 57 = .ok (.istore 5, 2) := by decide +kernel
theorem dX2_reckon_59 : decode cX2_reckon 59 = .ok (.aload_n 0, 1) := by decide +kernel
theorem dX2_reckon_60 : decode cX2_reckon 60 = .ok (.getfield 24, 3) := by decide +kernel
theorem dX2_reckon_63 : decode cX2_reckon 63 = .ok (.iload_n 3, 1) := by decide +kernel
theorem dX2_reckon_64 : decode cX2_reckon 64 = .ok (.iload 5, 2) := by decide +kernel
theorem dX2_reckon_66 : decode cX2_reckon 66 = .ok (.invokestatic 41, 3) := by decide +kernel
theorem dX2_reckon_69 : decode cX2_reckon 69 = .ok (.aload_n 0, 1) := by decide +kernel
theorem dX2_reckon_70 : decode cX2_reckon 70 = .ok (.getfield 27, 3) := by decide +kernel
theorem dX2_reckon_73 : decode cX2_reckon 73 = .ok (.iload_n 3, 1) := by decide +kernel
theorem dX2_reckon_74 : decode cX2_reckon 74 = .ok (.iload 5, 2) := by decide +kernel
theorem dX2_reckon_76 : decode cX2_reckon 76 = .ok (.aload_n 1, 1) := by decide +kernel
theorem dX2_reckon_77 : decode cX2_reckon 77 = .ok (.iload_n 3, 1) := by decide +kernel
theorem dX2_reckon_78 : decode cX2_reckon 78 = .ok (.aload_n 0, 1) := by decide +kernel
theorem dX2_reckon_79 : decode cX2_reckon 79 = .ok (.getfield 21, 3) := by decide +kernel
theorem dX2_reckon_82 : decode cX2_reckon 82 = .ok (.iload_n 3, 1) := by decide +kernel
theorem dX2_reckon_83 : decode cX2_reckon 83 = .ok (.invokestatic 45, 3) := by decide +kernel
theorem dX2_reckon_86 : decode cX2_reckon 86 = .ok (.invokevirtual 49, 3) := by decide +kernel
theorem dX2_reckon_89 : decode cX2_reckon 89 = .ok (.iadd, 1) := by decide +kernel
theorem dX2_reckon_90 : decode cX2_reckon 90 = .ok (.invokestatic 41, 3) := by decide +kernel
theorem dX2_reckon_93 : decode cX2_reckon 93 = .ok (.iinc 2 1, 3) := by decide +kernel
theorem dX2_reckon_96 : decode cX2_reckon 96 = .ok (.goto (-94), 3) := by decide +kernel
theorem dX2_reckon_99 : decode cX2_reckon 99 = .ok (.return_, 1) := by decide +kernel
set_option maxRecDepth 20000 in
theorem ggX2_beginsOf_X2_hasOrder : GoodIn wsX2_beginsOf wsX2_hasOrder := goodIn_r _ [6, 7, 8, 9, 10, 11, 12, 13, 14, 15, 16, 17] (by decide +kernel) (by decide +kernel)
set_option maxRecDepth 20000 in
theorem gX2_beginsOf_X2_hasOrder : GoodIn wsX2_beginsOf (wsV RX2 55 RX2 yX2_hasOrder wsX2_hasOrder) := goodIn_app (goodIn_of _ (by decide +kernel)) ggX2_beginsOf_X2_hasOrder
set_option maxRecDepth 20000 in
theorem ggX2_beginsOf_X9_at : GoodIn wsX2_beginsOf wsX9_at := goodIn_r _ [10] (by decide +kernel) (by decide +kernel)
set_option maxRecDepth 20000 in
theorem gX2_beginsOf_X9_at_n45 : GoodIn wsX2_beginsOf (wsX9_at) := ggX2_beginsOf_X9_at
theorem dX2_beginsOf_0 : decode cX2_beginsOf 0 = .ok (.aload_n 0, 1) := by decide +kernel
theorem dX2_beginsOf_1 : decode cX2_beginsOf 1 = .ok (.iload_n 1, 1) := by decide +kernel
theorem dX2_beginsOf_2 : decode cX2_beginsOf 2 = .ok (.invokevirtual 55, 3) := by decide +kernel
theorem dX2_beginsOf_5 : decode cX2_beginsOf 5 = .ok (.ifCond .eq 14, 3) := by decide +kernel
theorem dX2_beginsOf_8 : decode cX2_beginsOf 8 = .ok (.aload_n 0, 1) := by decide +kernel
theorem dX2_beginsOf_9 : decode cX2_beginsOf 9 = .ok (.getfield 24, 3) := by decide +kernel
theorem dX2_beginsOf_12 : decode cX2_beginsOf 12 = .ok (.iload_n 1, 1) := by decide +kernel
theorem dX2_beginsOf_13 : decode cX2_beginsOf 13 = .ok (.invokestatic 45, 3) := by decide +kernel
theorem dX2_beginsOf_16 : decode cX2_beginsOf 16 = .ok (.goto 4, 3) := by decide +kernel
theorem dX2_beginsOf_19 : decode cX2_beginsOf 19 = .ok (.iconst (-1), 1) := by decide +kernel
theorem dX2_beginsOf_20 : decode cX2_beginsOf 20 = .ok (.ireturn, 1) := by decide +kernel
set_option maxRecDepth 20000 in
theorem ggX2_doneOf_X2_hasOrder : GoodIn wsX2_doneOf wsX2_hasOrder := goodIn_r _ [6, 7, 8, 9, 10, 11, 12, 13, 14, 15, 16, 17] (by decide +kernel) (by decide +kernel)
set_option maxRecDepth 20000 in
theorem gX2_doneOf_X2_hasOrder : GoodIn wsX2_doneOf (wsV RX2 55 RX2 yX2_hasOrder wsX2_hasOrder) := goodIn_app (goodIn_of _ (by decide +kernel)) ggX2_doneOf_X2_hasOrder
set_option maxRecDepth 20000 in
theorem ggX2_doneOf_X9_at : GoodIn wsX2_doneOf wsX9_at := goodIn_r _ [10] (by decide +kernel) (by decide +kernel)
set_option maxRecDepth 20000 in
theorem gX2_doneOf_X9_at_n45 : GoodIn wsX2_doneOf (wsX9_at) := ggX2_doneOf_X9_at
theorem dX2_doneOf_0 : decode cX2_doneOf 0 = .ok (.aload_n 0, 1) := by decide +kernel
theorem dX2_doneOf_1 : decode cX2_doneOf 1 = .ok (.iload_n 1, 1) := by decide +kernel
theorem dX2_doneOf_2 : decode cX2_doneOf 2 = .ok (.invokevirtual 55, 3) := by decide +kernel
theorem dX2_doneOf_5 : decode cX2_doneOf 5 = .ok (.ifCond .eq 14, 3) := by decide +kernel
theorem dX2_doneOf_8 : decode cX2_doneOf 8 = .ok (.aload_n 0, 1) := by decide +kernel
theorem dX2_doneOf_9 : decode cX2_doneOf 9 = .ok (.getfield 27, 3) := by decide +kernel
theorem dX2_doneOf_12 : decode cX2_doneOf 12 = .ok (.iload_n 1, 1) := by decide +kernel
theorem dX2_doneOf_13 : decode cX2_doneOf 13 = .ok (.invokestatic 45, 3) := by decide +kernel
theorem dX2_doneOf_16 : decode cX2_doneOf 16 = .ok (.goto 4, 3) := by decide +kernel
theorem dX2_doneOf_19 : decode cX2_doneOf 19 = .ok (.iconst (-1), 1) := by decide +kernel
theorem dX2_doneOf_20 : decode cX2_doneOf 20 = .ok (.ireturn, 1) := by decide +kernel
set_option maxRecDepth 20000 in
theorem ggX2_gangsOf_X9_at : GoodIn wsX2_gangsOf wsX9_at := goodIn_r _ [4] (by decide +kernel) (by decide +kernel)
set_option maxRecDepth 20000 in
theorem gX2_gangsOf_X9_at_n45 : GoodIn wsX2_gangsOf (wsX9_at) := ggX2_gangsOf_X9_at
theorem dX2_gangsOf_0 : decode cX2_gangsOf 0 = .ok (.aload_n 0, 1) := by decide +kernel
theorem dX2_gangsOf_1 : decode cX2_gangsOf 1 = .ok (.getfield 21, 3) := by decide +kernel
theorem dX2_gangsOf_4 : decode cX2_gangsOf 4 = .ok (.iload_n 1, 1) := by decide +kernel
theorem dX2_gangsOf_5 : decode cX2_gangsOf 5 = .ok (.invokestatic 45, 3) := by decide +kernel
theorem dX2_gangsOf_8 : decode cX2_gangsOf 8 = .ok (.ireturn, 1) := by decide +kernel
set_option maxRecDepth 20000 in
theorem ggX2_stateOf_X9_at : GoodIn wsX2_stateOf wsX9_at := goodIn_r _ [5] (by decide +kernel) (by decide +kernel)
set_option maxRecDepth 20000 in
theorem gX2_stateOf_X9_at_n45 : GoodIn wsX2_stateOf (wsX9_at) := ggX2_stateOf_X9_at
theorem dX2_stateOf_0 : decode cX2_stateOf 0 = .ok (.iload_n 2, 1) := by decide +kernel
theorem dX2_stateOf_1 : decode cX2_stateOf 1 = .ok (.aload_n 0, 1) := by decide +kernel
theorem dX2_stateOf_2 : decode cX2_stateOf 2 = .ok (.getfield 24, 3) := by decide +kernel
theorem dX2_stateOf_5 : decode cX2_stateOf 5 = .ok (.iload_n 1, 1) := by decide +kernel
theorem dX2_stateOf_6 : decode cX2_stateOf 6 = .ok (.invokestatic 45, 3) := by decide +kernel
theorem dX2_stateOf_9 : decode cX2_stateOf 9 = .ok (.if_icmp .ge 5, 3) := by decide +kernel
theorem dX2_stateOf_12 : decode cX2_stateOf 12 = .ok (.iconst 0, 1) := by decide +kernel
theorem dX2_stateOf_13 : decode cX2_stateOf 13 = .ok (.ireturn, 1) := by decide +kernel
theorem dX2_stateOf_14 : decode cX2_stateOf 14 = .ok (.iload_n 2, 1) := by decide +kernel
theorem dX2_stateOf_15 : decode cX2_stateOf 15 = .ok (.aload_n 0, 1) := by decide +kernel
theorem dX2_stateOf_16 : decode cX2_stateOf 16 = .ok (.getfield 27, 3) := by decide +kernel
theorem dX2_stateOf_19 : decode cX2_stateOf 19 = .ok (.iload_n 1, 1) := by decide +kernel
theorem dX2_stateOf_20 : decode cX2_stateOf 20 = .ok (.invokestatic 45, 3) := by decide +kernel
theorem dX2_stateOf_23 : decode cX2_stateOf 23 = .ok (.if_icmp .ge 7, 3) := by decide +kernel
theorem dX2_stateOf_26 : decode cX2_stateOf 26 = .ok (.iconst 1, 1) := by decide +kernel
theorem dX2_stateOf_27 : decode cX2_stateOf 27 = .ok (.goto 4, 3) := by decide +kernel
theorem dX2_stateOf_30 : decode cX2_stateOf 30 = .ok (.iconst 2, 1) := by decide +kernel
theorem dX2_stateOf_31 : decode cX2_stateOf 31 = .ok (.ireturn, 1) := by decide +kernel
set_option maxRecDepth 20000 in
theorem ggX2_busyGangs_X9_at : GoodIn wsX2_busyGangs wsX9_at := goodIn_r _ [5] (by decide +kernel) (by decide +kernel)
set_option maxRecDepth 20000 in
theorem gX2_busyGangs_X9_at_n45 : GoodIn wsX2_busyGangs (wsX9_at) := ggX2_busyGangs_X9_at
set_option maxRecDepth 20000 in
theorem ggX2_busyGangs_X2_stateOf : GoodIn wsX2_busyGangs wsX2_stateOf := goodIn_r _ [10, 11, 12, 3, 4, 5, 18, 19, 20, 21, 22, 23, 24] (by decide +kernel) (by decide +kernel)
set_option maxRecDepth 20000 in
theorem gX2_busyGangs_X2_stateOf : GoodIn wsX2_busyGangs (wsV RX2 59 RX2 yX2_stateOf wsX2_stateOf) := goodIn_app (goodIn_of _ (by decide +kernel)) ggX2_busyGangs_X2_stateOf
set_option maxRecDepth 20000 in
theorem ggX2_busyGangs_X2_gangsOf : GoodIn wsX2_busyGangs wsX2_gangsOf := goodIn_r _ [16, 17, 3, 4, 5, 18, 19, 20, 21, 22, 23, 24] (by decide +kernel) (by decide +kernel)
set_option maxRecDepth 20000 in
theorem gX2_busyGangs_X2_gangsOf : GoodIn wsX2_busyGangs (wsV RX2 62 RX2 yX2_gangsOf wsX2_gangsOf) := goodIn_app (goodIn_of _ (by decide +kernel)) ggX2_busyGangs_X2_gangsOf
theorem dX2_busyGangs_0 : decode cX2_busyGangs 0 = .ok (.iconst 0, 1) := by decide +kernel
theorem dX2_busyGangs_1 : decode cX2_busyGangs 1 = .ok (.istore_n 2, 1) := by decide +kernel
theorem dX2_busyGangs_2 : decode cX2_busyGangs 2 = .ok (.iconst 0, 1) := by decide +kernel
theorem dX2_busyGangs_3 : decode cX2_busyGangs 3 = .ok (.istore_n 3, 1) := by decide +kernel
theorem dX2_busyGangs_4 : decode cX2_busyGangs 4 = .ok (.iload_n 3, 1) := by decide +kernel
theorem dX2_busyGangs_5 : decode cX2_busyGangs 5 = .ok (.aload_n 0, 1) := by decide +kernel
theorem dX2_busyGangs_6 : decode cX2_busyGangs 6 = .ok (.getfield 30, 3) := by decide +kernel
theorem dX2_busyGangs_9 : decode cX2_busyGangs 9 = .ok (.if_icmp .ge 39, 3) := by decide +kernel
theorem dX2_busyGangs_12 : decode cX2_busyGangs 12 = .ok (.aload_n 0, 1) := by decide +kernel
theorem dX2_busyGangs_13 : decode cX2_busyGangs 13 = .ok (.getfield 9, 3) := by decide +kernel
theorem dX2_busyGangs_16 : decode cX2_busyGangs 16 = .ok (.iload_n 3, 1) := by decide +kernel
theorem dX2_busyGangs_17 : decode cX2_busyGangs 17 = .ok (.invokestatic 45, 3) := by decide +kernel
theorem dX2_busyGangs_20 : decode cX2_busyGangs 20 = .ok (.istore 4, 2) := by decide +kernel
theorem dX2_busyGangs_22 : decode cX2_busyGangs 22 = .ok (.aload_n 0, 1) := by decide +kernel
theorem dX2_busyGangs_23 : decode cX2_busyGangs 23 = .ok (.iload 4, 2) := by decide +kernel
theorem dX2_busyGangs_25 : decode cX2_busyGangs 25 = .ok (.iload_n 1, 1) := by decide +kernel
theorem dX2_busyGangs_26 : decode cX2_busyGangs 26 = .ok (.invokevirtual 59, 3) := by decide +kernel
theorem dX2_busyGangs_29 : decode cX2_busyGangs 29 = .ok (.iconst 1, 1) := by decide +kernel
theorem dX2_busyGangs_30 : decode cX2_busyGangs 30 = .ok (.if_icmp .ne 12, 3) := by decide +kernel
theorem dX2_busyGangs_33 : decode cX2_busyGangs 33 = .ok (.iload_n 2, 1) := by decide +kernel
theorem dX2_busyGangs_34 : decode cX2_busyGangs 34 = .ok (.aload_n 0, 1) := by decide +kernel
theorem dX2_busyGangs_35 : decode cX2_busyGangs 35 = .ok (.iload 4, 2) := by decide +kernel
theorem dX2_busyGangs_37 : decode cX2_busyGangs 37 = .ok (.invokevirtual 62, 3) := by decide +kernel
theorem dX2_busyGangs_40 : decode cX2_busyGangs 40 = .ok (.iadd, 1) := by decide +kernel
theorem dX2_busyGangs_41 : decode cX2_busyGangs 41 = .ok (.istore_n 2, 1) := by decide +kernel
theorem dX2_busyGangs_42 : decode cX2_busyGangs 42 = .ok (.iinc 3 1, 3) := by decide +kernel
theorem dX2_busyGangs_45 : decode cX2_busyGangs 45 = .ok (.goto (-41), 3) := by decide +kernel
theorem dX2_busyGangs_48 : decode cX2_busyGangs 48 = .ok (.iload_n 2, 1) := by decide +kernel
theorem dX2_busyGangs_49 : decode cX2_busyGangs 49 = .ok (.ireturn, 1) := by decide +kernel
set_option maxRecDepth 20000 in
theorem ggX2_allDone_X9_at : GoodIn wsX2_allDone wsX9_at := goodIn_r _ [9] (by decide +kernel) (by decide +kernel)
set_option maxRecDepth 20000 in
theorem gX2_allDone_X9_at_n45 : GoodIn wsX2_allDone (wsX9_at) := ggX2_allDone_X9_at
set_option maxRecDepth 20000 in
theorem ggX2_allDone_X2_doneOf : GoodIn wsX2_allDone wsX2_doneOf := goodIn_r _ [14, 15, 16, 17, 18, 13, 19, 20, 7, 8, 9, 21, 22, 23, 24, 25, 26, 27] (by decide +kernel) (by decide +kernel)
set_option maxRecDepth 20000 in
theorem gX2_allDone_X2_doneOf : GoodIn wsX2_allDone (wsV RX2 66 RX2 yX2_doneOf wsX2_doneOf) := goodIn_app (goodIn_of _ (by decide +kernel)) ggX2_allDone_X2_doneOf
theorem dX2_allDone_0 : decode cX2_allDone 0 = .ok (.iconst 0, 1) := by decide +kernel
theorem dX2_allDone_1 : decode cX2_allDone 1 = .ok (.istore_n 1, 1) := by decide +kernel
theorem dX2_allDone_2 : decode cX2_allDone 2 = .ok (.iconst 0, 1) := by decide +kernel
theorem dX2_allDone_3 : decode cX2_allDone 3 = .ok (.istore_n 2, 1) := by decide +kernel
theorem dX2_allDone_4 : decode cX2_allDone 4 = .ok (.iload_n 2, 1) := by decide +kernel
theorem dX2_allDone_5 : decode cX2_allDone 5 = .ok (.aload_n 0, 1) := by decide +kernel
theorem dX2_allDone_6 : decode cX2_allDone 6 = .ok (.getfield 30, 3) := by decide +kernel
theorem dX2_allDone_9 : decode cX2_allDone 9 = .ok (.if_icmp .ge 26, 3) := by decide +kernel
theorem dX2_allDone_12 : decode cX2_allDone 12 = .ok (.iload_n 1, 1) := by decide +kernel
theorem dX2_allDone_13 : decode cX2_allDone 13 = .ok (.aload_n 0, 1) := by decide +kernel
theorem dX2_allDone_14 : decode cX2_allDone 14 = .ok (.aload_n 0, 1) := by decide +kernel
theorem dX2_allDone_15 : decode cX2_allDone 15 = .ok (.getfield 9, 3) := by decide +kernel
theorem dX2_allDone_18 : decode cX2_allDone 18 = .ok (.iload_n 2, 1) := by decide +kernel
theorem dX2_allDone_19 : decode cX2_allDone 19 = .ok (.invokestatic 45, 3) := by decide +kernel
theorem dX2_allDone_22 : decode cX2_allDone 22 = .ok (.invokevirtual 66, 3) := by decide +kernel
theorem dX2_allDone_25 : decode cX2_allDone 25 = .ok (.invokestatic 69, 3) := by decide +kernel
theorem dX2_allDone_28 : decode cX2_allDone 28 = .ok (.istore_n 1, 1) := by decide +kernel
theorem dX2_allDone_29 : decode cX2_allDone 29 = .ok (.iinc 2 1, 3) := by decide +kernel
theorem dX2_allDone_32 : decode cX2_allDone 32 = .ok (.goto (-28), 3) := by decide +kernel
theorem dX2_allDone_35 : decode cX2_allDone 35 = .ok (.iload_n 1, 1) := by decide +kernel
theorem dX2_allDone_36 : decode cX2_allDone 36 = .ok (.ireturn, 1) := by decide +kernel
set_option maxRecDepth 20000 in
theorem ggX3_init_X1_init : GoodIn wsX3_init wsX1_init := goodIn_r _ [14, 15, 2, 3, 16, 17, 18, 19, 20, 21, 22, 23, 24, 41, 42, 43, 44, 45, 46, 47, 48] (by decide +kernel) (by decide +kernel)
set_option maxRecDepth 20000 in
theorem gX3_init_X1_init_n11 : GoodIn wsX3_init (wsX1_init) := ggX3_init_X1_init
set_option maxRecDepth 20000 in
theorem ggX3_init_X2_init : GoodIn wsX3_init wsX2_init := goodIn_r _ [27, 28, 2, 3, 16, 29, 30, 31, 32, 33, 34, 35, 36, 37, 38, 39, 40, 52, 53, 54, 55, 56, 57, 58] (by decide +kernel) (by decide +kernel)
set_option maxRecDepth 20000 in
theorem gX3_init_X2_init : GoodIn wsX3_init (wsX2_init) := ggX3_init_X2_init
theorem dX3_init_0 : decode cX3_init 0 = .ok (.aload_n 0, 1) := by decide +kernel
theorem dX3_init_1 : decode cX3_init 1 = .ok (.invokespecial 3, 3) := by decide +kernel
theorem dX3_init_4 : decode cX3_init 4 = .ok (.aload_n 0, 1) := by decide +kernel
theorem dX3_init_5 : decode cX3_init 5 = .ok (.new 9, 3) := by decide +kernel
theorem dX3_init_8 : decode cX3_init 8 = .ok (.dup, 1) := by decide +kernel
theorem dX3_init_9 : decode cX3_init 9 = .ok (.invokespecial 11, 3) := by decide +kernel
theorem dX3_init_12 : decode cX3_init 12 = .ok (.putfield 12, 3) := by decide +kernel
theorem dX3_init_15 : decode cX3_init 15 = .ok (.aload_n 0, 1) := by decide +kernel
theorem dX3_init_16 : decode cX3_init 16 = .ok (.new 18, 3) := by decide +kernel
theorem dX3_init_19 : decode cX3_init 19 = .ok (.dup, 1) := by decide +kernel
theorem dX3_init_20 : decode cX3_init 20 = .ok (.invokespecial 20, 3) := by decide +kernel
theorem dX3_init_23 : decode cX3_init 23 = .ok (.putfield 21, 3) := by decide +kernel
theorem dX3_init_26 : decode cX3_init 26 = .ok (.aload_n 0, 1) := by decide +kernel
theorem dX3_init_27 : decode cX3_init 27 = .ok (.new 18, 3) := by decide +kernel
theorem dX3_init_30 : decode cX3_init 30 = .ok (.dup, 1) := by decide +kernel
theorem dX3_init_31 : decode cX3_init 31 = .ok (.invokespecial 20, 3) := by decide +kernel
theorem dX3_init_34 : decode cX3_init 34 = .ok (.putfield 25, 3) := by decide +kernel
theorem dX3_init_37 : decode cX3_init 37 = .ok (.return_, 1) := by decide +kernel
set_option maxRecDepth 20000 in
theorem ggX3_changeRates_X1_setRates : GoodIn wsX3_changeRates wsX1_setRates := goodIn_r _ [7, 8, 9, 10, 11, 12, 38, 39, 40, 41, 42, 43, 44, 45] (by decide +kernel) (by decide +kernel)
set_option maxRecDepth 20000 in
theorem gX3_changeRates_X1_setRates : GoodIn wsX3_changeRates (wsV RX3 28 RX1 yX1_setRates wsX1_setRates) := goodIn_app (goodIn_of _ (by decide +kernel)) ggX3_changeRates_X1_setRates
set_option maxRecDepth 20000 in
theorem ggX3_changeRates_X2_reckon : GoodIn wsX3_changeRates wsX2_reckon := goodIn_r _ [17, 18, 19, 20, 21, 22, 23, 24, 25, 11, 26, 27, 28, 29, 30, 31, 6, 32, 33, 8, 9, 34, 46, 47, 48, 49, 50, 51, 52, 38, 39, 40, 41, 42, 43, 44, 45] (by decide +kernel) (by decide +kernel)
set_option maxRecDepth 20000 in
theorem gX3_changeRates_X2_reckon : GoodIn wsX3_changeRates (wsV RX3 32 RX2 yX2_reckon wsX2_reckon) := goodIn_app (goodIn_of _ (by decide +kernel)) ggX3_changeRates_X2_reckon
theorem dX3_changeRates_0 : decode cX3_changeRates 0 = .ok (.aload_n 0, 1) := by decide +kernel
theorem dX3_changeRates_1 : decode cX3_changeRates 1 = .ok (.getfield 12, 3) := by decide +kernel
theorem dX3_changeRates_4 : decode cX3_changeRates 4 = .ok (.iload_n 1, 1) := by decide +kernel
theorem dX3_changeRates_5 : decode cX3_changeRates 5 = .ok (.iload_n 2, 1) := by decide +kernel
theorem dX3_changeRates_6 : decode cX3_changeRates 6 = .ok (.invokevirtual 28, 3) := by decide +kernel
theorem dX3_changeRates_9 : decode cX3_changeRates 9 = .ok (.istore_n 3, 1) := by decide +kernel
theorem dX3_changeRates_10 : decode cX3_changeRates 10 = .ok (.aload_n 0, 1) := by decide +kernel
theorem dX3_changeRates_11 : decode cX3_changeRates 11 = .ok (.getfield 21, 3) := by decide +kernel
theorem dX3_changeRates_14 : decode cX3_changeRates 14 = .ok (.aload_n 0, 1) := by decide +kernel
theorem dX3_changeRates_15 : decode cX3_changeRates 15 = .ok (.getfield 12, 3) := by decide +kernel
theorem dX3_changeRates_18 : decode cX3_changeRates 18 = .ok (.invokevirtual 32, 3) := by decide +kernel
theorem dX3_changeRates_21 : decode cX3_changeRates 21 = .ok (.iload_n 3, 1) := by decide +kernel
theorem dX3_changeRates_22 : decode cX3_changeRates 22 = .ok (.ireturn, 1) := by decide +kernel
set_option maxRecDepth 20000 in
theorem ggX3_takeDraft_X2_reckon : GoodIn wsX3_takeDraft wsX2_reckon := goodIn_r _ [8, 9, 10, 11, 12, 13, 14, 15, 16, 17, 18, 19, 20, 21, 22, 23, 24, 25, 26, 27, 28, 29, 33, 34, 35, 36, 37, 38, 39, 40, 41, 42, 43, 44, 45, 46, 47] (by decide +kernel) (by decide +kernel)
set_option maxRecDepth 20000 in
theorem gX3_takeDraft_X2_reckon : GoodIn wsX3_takeDraft (wsV RX3 32 RX2 yX2_reckon wsX2_reckon) := goodIn_app (goodIn_of _ (by decide +kernel)) ggX3_takeDraft_X2_reckon
theorem dX3_takeDraft_0 : decode cX3_takeDraft 0 = .ok (.aload_n 0, 1) := by decide +kernel
theorem dX3_takeDraft_1 : decode cX3_takeDraft 1 = .ok (.getfield 21, 3) := by decide +kernel
theorem dX3_takeDraft_4 : decode cX3_takeDraft 4 = .ok (.astore_n 1, 1) := by decide +kernel
theorem dX3_takeDraft_5 : decode cX3_takeDraft 5 = .ok (.aload_n 0, 1) := by decide +kernel
theorem dX3_takeDraft_6 : decode cX3_takeDraft 6 = .ok (.aload_n 0, 1) := by decide +kernel
theorem dX3_takeDraft_7 : decode cX3_takeDraft 7 = .ok (.getfield 25, 3) := by decide +kernel
theorem dX3_takeDraft_10 : decode cX3_takeDraft 10 = .ok (.putfield 21, 3) := by decide +kernel
theorem dX3_takeDraft_13 : decode cX3_takeDraft 13 = .ok (.aload_n 0, 1) := by decide +kernel
theorem dX3_takeDraft_14 : decode cX3_takeDraft 14 = .ok (.aload_n 1, 1) := by decide +kernel
theorem dX3_takeDraft_15 : decode cX3_takeDraft 15 = .ok (.putfield 25, 3) := by decide +kernel
theorem dX3_takeDraft_18 : decode cX3_takeDraft 18 = .ok (.aload_n 0, 1) := by decide +kernel
theorem dX3_takeDraft_19 : decode cX3_takeDraft 19 = .ok (.getfield 21, 3) := by decide +kernel
theorem dX3_takeDraft_22 : decode cX3_takeDraft 22 = .ok (.aload_n 0, 1) := by decide +kernel
theorem dX3_takeDraft_23 : decode cX3_takeDraft 23 = .ok (.getfield 12, 3) := by decide +kernel
theorem dX3_takeDraft_26 : decode cX3_takeDraft 26 = .ok (.invokevirtual 32, 3) := by decide +kernel
theorem dX3_takeDraft_29 : decode cX3_takeDraft 29 = .ok (.return_, 1) := by decide +kernel
set_option maxRecDepth 20000 in
theorem ggX3_arrival_X9_at : GoodIn wsX3_arrival wsX9_at := goodIn_r _ [13] (by decide +kernel) (by decide +kernel)
set_option maxRecDepth 20000 in
theorem gX3_arrival_X9_at_n40 : GoodIn wsX3_arrival (wsX9_at) := ggX3_arrival_X9_at
theorem dX3_arrival_0 : decode cX3_arrival 0 = .ok (.iload_n 2, 1) := by decide +kernel
theorem dX3_arrival_1 : decode cX3_arrival 1 = .ok (.ifCond .eq 21, 3) := by decide +kernel
theorem dX3_arrival_4 : decode cX3_arrival 4 = .ok (.iload_n 3, 1) := by decide +kernel
theorem dX3_arrival_5 : decode cX3_arrival 5 = .ok (.aload_n 0, 1) := by decide +kernel
theorem dX3_arrival_6 : decode cX3_arrival 6 = .ok (.getfield 21, 3) := by decide +kernel
theorem dX3_arrival_9 : decode cX3_arrival 9 = .ok (.getfield 36, 3) := by decide +kernel
theorem dX3_arrival_12 : decode cX3_arrival 12 = .ok (.iload_n 1, 1) := by decide +kernel
theorem dX3_arrival_13 : decode cX3_arrival 13 = .ok (.invokestatic 40, 3) := by decide +kernel
theorem dX3_arrival_16 : decode cX3_arrival 16 = .ok (.invokestatic 44, 3) := by decide +kernel
theorem dX3_arrival_19 : decode cX3_arrival 19 = .ok (.goto 4, 3) := by decide +kernel
theorem dX3_arrival_22 : decode cX3_arrival 22 = .ok (.iload_n 3, 1) := by decide +kernel
theorem dX3_arrival_23 : decode cX3_arrival 23 = .ok (.istore 4, 2) := by decide +kernel
theorem dX3_arrival_25 : decode cX3_arrival 25 = .ok (.iload 4, 2) := by decide +kernel
theorem dX3_arrival_27 : decode cX3_arrival 27 = .ok (.aload_n 0, 1) := by decide +kernel
theorem dX3_arrival_28 : decode cX3_arrival 28 = .ok (.getfield 12, 3) := by decide +kernel
theorem dX3_arrival_31 : decode cX3_arrival 31 = .ok (.getfield 49, 3) := by decide +kernel
theorem dX3_arrival_34 : decode cX3_arrival 34 = .ok (.iload_n 1, 1) := by decide +kernel
theorem dX3_arrival_35 : decode cX3_arrival 35 = .ok (.invokestatic 40, 3) := by decide +kernel
theorem dX3_arrival_38 : decode cX3_arrival 38 = .ok (.iadd, 1) := by decide +kernel
theorem dX3_arrival_39 : decode cX3_arrival 39 = .ok (.istore 5, 2) := by decide +kernel
theorem dX3_arrival_41 : decode cX3_arrival 41 = .ok (.iload_n 2, 1) := by decide +kernel
theorem dX3_arrival_42 : decode cX3_arrival 42 = .ok (.ifCond .eq 8, 3) := by decide +kernel
theorem dX3_arrival_45 : decode cX3_arrival 45 = .ok (.bipush 120, 2) := by decide +kernel
theorem dX3_arrival_47 : decode cX3_arrival 47 = .ok (.goto 19, 3) := by decide +kernel
theorem dX3_arrival_50 : decode cX3_arrival 50 = .ok (.bipush 120, 2) := by decide +kernel
theorem dX3_arrival_52 : decode cX3_arrival 52 = .ok (.aload_n 0, 1) := by decide +kernel
theorem dX3_arrival_53 : decode cX3_arrival 53 = .ok (.getfield 21, 3) := by decide +kernel
theorem dX3_arrival_56 : decode cX3_arrival 56 = .ok (.getfield 52, 3) := by decide +kernel
theorem dX3_arrival_59 : decode cX3_arrival 59 = .ok (.iload_n 1, 1) := by decide +kernel
theorem dX3_arrival_60 : decode cX3_arrival 60 = .ok (.invokestatic 40, 3) := by decide +kernel
theorem dX3_arrival_63 : decode cX3_arrival 63 = .ok (.invokestatic 55, 3) := by decide +kernel
theorem dX3_arrival_66 : decode cX3_arrival 66 = .ok (.istore 6, 2) := by decide +kernel
theorem dX3_arrival_68 : decode cX3_arrival 68 = .ok (.iload 5, 2) := by decide +kernel
theorem dX3_arrival_70 : decode cX3_arrival 70 = .ok (.iload 6, 2) := by decide +kernel
theorem dX3_arrival_72 : decode cX3_arrival 72 = .ok (.if_icmp .le 8, 3) := by decide +kernel
theorem dX3_arrival_75 : decode cX3_arrival 75 = .ok (.ldc 58, 2) := by decide +kernel
theorem dX3_arrival_77 : decode cX3_arrival 77 = .ok (.goto 5, 3) := by decide +kernel
theorem dX3_arrival_80 : decode cX3_arrival 80 = .ok (.iload 5, 2) := by decide +kernel
theorem dX3_arrival_82 : decode cX3_arrival 82 = .ok (.ireturn, 1) := by decide +kernel
set_option maxRecDepth 20000 in
theorem ggX3_departure_X9_at : GoodIn wsX3_departure wsX9_at := goodIn_r _ [9] (by decide +kernel) (by decide +kernel)
set_option maxRecDepth 20000 in
theorem gX3_departure_X9_at_n40 : GoodIn wsX3_departure (wsX9_at) := ggX3_departure_X9_at
theorem dX3_departure_0 : decode cX3_departure 0 = .ok (.iload_n 2, 1) := by decide +kernel
theorem dX3_departure_1 : decode cX3_departure 1 = .ok (.ifCond .eq 17, 3) := by decide +kernel
theorem dX3_departure_4 : decode cX3_departure 4 = .ok (.aload_n 0, 1) := by decide +kernel
theorem dX3_departure_5 : decode cX3_departure 5 = .ok (.getfield 21, 3) := by decide +kernel
theorem dX3_departure_8 : decode cX3_departure 8 = .ok (.getfield 36, 3) := by decide +kernel
theorem dX3_departure_11 : decode cX3_departure 11 = .ok (.iload_n 1, 1) := by decide +kernel
theorem dX3_departure_12 : decode cX3_departure 12 = .ok (.invokestatic 40, 3) := by decide +kernel
theorem dX3_departure_15 : decode cX3_departure 15 = .ok (.goto 4, 3) := by decide +kernel
theorem dX3_departure_18 : decode cX3_departure 18 = .ok (.iconst 0, 1) := by decide +kernel
theorem dX3_departure_19 : decode cX3_departure 19 = .ok (.istore 4, 2) := by decide +kernel
theorem dX3_departure_21 : decode cX3_departure 21 = .ok (.iload_n 2, 1) := by decide +kernel
theorem dX3_departure_22 : decode cX3_departure 22 = .ok (.ifCond .eq 7, 3) := by decide +kernel
theorem dX3_departure_25 : decode cX3_departure 25 = .ok (.iload_n 3, 1) := by decide +kernel
theorem dX3_departure_26 : decode cX3_departure 26 = .ok (.goto 18, 3) := by decide +kernel
theorem dX3_departure_29 : decode cX3_departure 29 = .ok (.iload_n 3, 1) := by decide +kernel
theorem dX3_departure_30 : decode cX3_departure 30 = .ok (.aload_n 0, 1) := by decide +kernel
theorem dX3_departure_31 : decode cX3_departure 31 = .ok (.getfield 21, 3) := by decide +kernel
theorem dX3_departure_34 : decode cX3_departure 34 = .ok (.getfield 52, 3) := by decide +kernel
theorem dX3_departure_37 : decode cX3_departure 37 = .ok (.iload_n 1, 1) := by decide +kernel
theorem dX3_departure_38 : decode cX3_departure 38 = .ok (.invokestatic 40, 3) := by decide +kernel
theorem dX3_departure_41 : decode cX3_departure 41 = .ok (.invokestatic 55, 3) := by decide +kernel
theorem dX3_departure_44 : decode cX3_departure 44 = .ok (.istore 5, 2) := by decide +kernel
theorem dX3_departure_46 : decode cX3_departure 46 = .ok (.iload 5, 2) := by decide +kernel
theorem dX3_departure_48 : decode cX3_departure 48 = .ok (.aload_n 0, 1) := by decide +kernel
theorem dX3_departure_49 : decode cX3_departure 49 = .ok (.getfield 12, 3) := by decide +kernel
theorem dX3_departure_52 : decode cX3_departure 52 = .ok (.getfield 49, 3) := by decide +kernel
theorem dX3_departure_55 : decode cX3_departure 55 = .ok (.iload_n 1, 1) := by decide +kernel
theorem dX3_departure_56 : decode cX3_departure 56 = .ok (.invokestatic 40, 3) := by decide +kernel
theorem dX3_departure_59 : decode cX3_departure 59 = .ok (.isub, 1) := by decide +kernel
theorem dX3_departure_60 : decode cX3_departure 60 = .ok (.istore 6, 2) := by decide +kernel
theorem dX3_departure_62 : decode cX3_departure 62 = .ok (.iload 6, 2) := by decide +kernel
theorem dX3_departure_64 : decode cX3_departure 64 = .ok (.iload 4, 2) := by decide +kernel
theorem dX3_departure_66 : decode cX3_departure 66 = .ok (.if_icmp .ge 7, 3) := by decide +kernel
theorem dX3_departure_69 : decode cX3_departure 69 = .ok (.iconst (-1), 1) := by decide +kernel
theorem dX3_departure_70 : decode cX3_departure 70 = .ok (.goto 5, 3) := by decide +kernel
theorem dX3_departure_73 : decode cX3_departure 73 = .ok (.iload 6, 2) := by decide +kernel
theorem dX3_departure_75 : decode cX3_departure 75 = .ok (.ireturn, 1) := by decide +kernel
theorem dX4_init_0 : decode cX4_init 0 = .ok (.aload_n 0, 1) := by decide +kernel
theorem dX4_init_1 : decode cX4_init 1 = .ok (.invokespecial 3, 3) := by decide +kernel
theorem dX4_init_4 : decode cX4_init 4 = .ok (.aload_n 0, 1) := by decide +kernel
theorem dX4_init_5 : decode cX4_init 5 = .ok (.iconst 0, 1) := by decide +kernel
theorem dX4_init_6 : decode cX4_init 6 = .ok (.putfield 9, 3) := by decide +kernel
theorem dX4_init_9 : decode cX4_init 9 = .ok (.aload_n 0, 1) := by decide +kernel
theorem dX4_init_10 : decode cX4_init 10 = .ok (.iconst (-1), 1) := by decide +kernel
theorem dX4_init_11 : decode cX4_init 11 = .ok (.putfield 15, 3) := by decide +kernel
theorem dX4_init_14 : decode cX4_init 14 = .ok (.aload_n 0, 1) := by decide +kernel
theorem dX4_init_15 : decode cX4_init 15 = .ok (.iconst 0, 1) := by decide +kernel
theorem dX4_init_16 : decode cX4_init 16 = .ok (.putfield 18, 3) := by decide +kernel
theorem dX4_init_19 : decode cX4_init 19 = .ok (.aload_n 0, 1) := by decide +kernel
theorem dX4_init_20 : decode cX4_init 20 = .ok (.iconst 0, 1) := by decide +kernel
theorem dX4_init_21 : decode cX4_init 21 = .ok (.putfield 21, 3) := by decide +kernel
theorem dX4_init_24 : decode cX4_init 24 = .ok (.return_, 1) := by decide +kernel
set_option maxRecDepth 20000 in
theorem ggX4_readOrders_X2_clear : GoodIn wsX4_readOrders wsX2_clear := goodIn_r _ [9, 10, 11, 12, 13, 14, 15, 16, 17, 18, 156, 157, 158, 159, 160, 161, 162] (by decide +kernel) (by decide +kernel)
set_option maxRecDepth 20000 in
theorem gX4_readOrders_X2_clear : GoodIn wsX4_readOrders (wsV RX4 24 RX2 yX2_clear wsX2_clear) := goodIn_app (goodIn_of _ (by decide +kernel)) ggX4_readOrders_X2_clear
set_option maxRecDepth 20000 in
theorem ggX4_readOrders_X6_rewind : GoodIn wsX4_readOrders wsX6_rewind := goodIn_r _ [23, 24, 25, 26, 27, 22, 28, 29, 30, 31, 32, 33, 34, 35, 36, 37, 38, 39, 40, 41, 163, 164, 165, 166] (by decide +kernel) (by decide +kernel)
set_option maxRecDepth 20000 in
theorem gX4_readOrders_X6_rewind : GoodIn wsX4_readOrders (wsV RX4 29 RX6 yX6_rewind wsX6_rewind) := goodIn_app (goodIn_of _ (by decide +kernel)) ggX4_readOrders_X6_rewind
set_option maxRecDepth 20000 in
theorem ggX4_readOrders_X6_isAtEnd : GoodIn wsX4_readOrders wsX6_isAtEnd := goodIn_r _ [45, 29, 30, 163, 164, 165, 166] (by decide +kernel) (by decide +kernel)
set_option maxRecDepth 20000 in
theorem gX4_readOrders_X6_isAtEnd : GoodIn wsX4_readOrders (wsV RX4 34 RX6 yX6_isAtEnd wsX6_isAtEnd) := goodIn_app (goodIn_of _ (by decide +kernel)) ggX4_readOrders_X6_isAtEnd
set_option maxRecDepth 20000 in
theorem ggX4_readOrders_X4_readLine : GoodIn wsX4_readOrders wsX4_readLine := goodIn_r _ [50, 1, 51, 52, 53, 22, 54, 55, 56, 57, 58, 24, 29, 31, 59, 60, 61, 62, 63, 64, 65, 66, 67, 68, 69, 70, 36, 37, 38, 71, 72, 73, 74, 75, 76, 77, 78, 79, 80, 81, 82, 83, 84, 85, 86, 87, 88, 89, 90, 91, 92, 93, 94, 95, 96, 97, 98, 99, 100, 101, 102, 103, 104, 105, 106, 107, 25, 26, 27, 28, 30, 32, 33, 34, 35, 39, 40, 41, 108, 109, 110, 111, 112, 43, 44, 45, 113, 114, 115, 116, 117, 118, 119, 120, 121, 8, 122, 10, 123, 152, 153, 154, 155, 163, 164, 165, 166, 167, 168, 169, 170, 171, 172, 173, 174, 156, 157, 158, 159, 160, 161, 162] (by decide +kernel) (by decide +kernel)
set_option maxRecDepth 20000 in
theorem gX4_readOrders_X4_readLine : GoodIn wsX4_readOrders (wsV RX4 38 RX4 yX4_readLine wsX4_readLine) := goodIn_app (goodIn_of _ (by decide +kernel)) ggX4_readOrders_X4_readLine
set_option maxRecDepth 20000 in
theorem ggX4_readOrders_X4_readStart : GoodIn wsX4_readOrders wsX4_readStart := goodIn_r _ [127, 2, 3, 51, 52, 53, 22, 54, 55, 56, 57, 58, 24, 29, 31, 59, 60, 61, 62, 63, 64, 65, 66, 67, 68, 69, 70, 36, 37, 38, 71, 72, 73, 74, 75, 76, 77, 78, 79, 80, 81, 82, 83, 84, 85, 86, 87, 88, 89, 90, 91, 92, 93, 94, 95, 96, 97, 98, 99, 100, 101, 102, 103, 104, 105, 106, 107, 25, 26, 27, 28, 30, 32, 33, 34, 35, 39, 40, 41, 128, 129, 130, 131, 132, 109, 110, 111, 112, 43, 44, 45, 133, 134, 135, 136, 137, 49, 138, 108, 119, 120, 121, 8, 122, 10, 123, 152, 153, 154, 155, 163, 164, 165, 166, 156, 157, 158, 159, 160, 161, 162] (by decide +kernel) (by decide +kernel)
set_option maxRecDepth 20000 in
theorem gX4_readOrders_X4_readStart : GoodIn wsX4_readOrders (wsV RX4 42 RX4 yX4_readStart wsX4_readStart) := goodIn_app (goodIn_of _ (by decide +kernel)) ggX4_readOrders_X4_readStart
set_option maxRecDepth 20000 in
theorem ggX4_readOrders_X4_readGangs : GoodIn wsX4_readOrders wsX4_readGangs := goodIn_r _ [142, 4, 51, 52, 53, 22, 54, 55, 56, 57, 58, 24, 29, 31, 59, 60, 61, 62, 63, 64, 65, 66, 67, 68, 69, 70, 36, 37, 38, 71, 72, 73, 74, 75, 76, 77, 78, 79, 80, 81, 82, 83, 84, 85, 86, 87, 88, 89, 90, 91, 92, 93, 94, 95, 96, 97, 98, 99, 100, 101, 102, 103, 104, 105, 106, 107, 25, 26, 27, 28, 30, 32, 33, 34, 35, 39, 40, 41, 128, 129, 130, 131, 132, 109, 110, 111, 112, 43, 44, 45, 133, 134, 152, 153, 154, 155, 163, 164, 165, 166] (by decide +kernel) (by decide +kernel)
set_option maxRecDepth 20000 in
theorem gX4_readOrders_X4_readGangs : GoodIn wsX4_readOrders (wsV RX4 46 RX4 yX4_readGangs wsX4_readGangs) := goodIn_app (goodIn_of _ (by decide +kernel)) ggX4_readOrders_X4_readGangs
set_option maxRecDepth 20000 in
theorem ggX4_readOrders_X2_add : GoodIn wsX4_readOrders wsX2_add := goodIn_r _ [146, 147, 14, 148, 149, 10, 150, 37, 151, 156, 157, 158, 159, 160, 161, 162] (by decide +kernel) (by decide +kernel)
set_option maxRecDepth 20000 in
theorem gX4_readOrders_X2_add : GoodIn wsX4_readOrders (wsV RX4 50 RX2 yX2_add wsX2_add) := goodIn_app (goodIn_of _ (by decide +kernel)) ggX4_readOrders_X2_add
set_option maxRecDepth 20000 in
theorem ggX4_readOrders_X6_take : GoodIn wsX4_readOrders wsX6_take := goodIn_r _ [54, 55, 56, 57, 22, 58, 24, 29, 31, 59, 60, 61, 62, 63, 64, 65, 66, 67, 68, 69, 70, 36, 37, 38, 71, 72, 73, 74, 75, 76, 77, 78, 79, 80, 81, 82, 83, 84, 85, 86, 87, 88, 89, 90, 91, 92, 93, 94, 95, 96, 97, 98, 99, 100, 101, 102, 103, 104, 105, 106, 107, 25, 26, 27, 28, 30, 32, 33, 34, 35, 39, 40, 41, 163, 164, 165, 166] (by decide +kernel) (by decide +kernel)
set_option maxRecDepth 20000 in
theorem gX4_readOrders_X6_take : GoodIn wsX4_readOrders (wsV RX4 56 RX6 yX6_take wsX6_take) := goodIn_app (goodIn_of _ (by decide +kernel)) ggX4_readOrders_X6_take
theorem dX4_readOrders_0 : decode cX4_readOrders 0 = .ok (.aload_n 3, 1) := by decide +kernel
theorem dX4_readOrders_1 : decode cX4_readOrders 1 = .ok (.invokevirtual 24, 3) := by decide +kernel
theorem dX4_readOrders_4 : decode cX4_readOrders 4 = .ok (.aload_n 1, 1) := by decide +kernel
theorem dX4_readOrders_5 : decode cX4_readOrders 5 = .ok (.invokevirtual 29, 3) := by decide +kernel
theorem dX4_readOrders_8 : decode cX4_readOrders 8 = .ok (.aload_n 1, 1) := by decide +kernel
theorem dX4_readOrders_9 : decode cX4_readOrders 9 = .ok (.invokevirtual 34, 3) := by decide +kernel
theorem dX4_readOrders_12 : decode cX4_readOrders 12 = .ok (.ifCond .eq 5, 3) := by decide +kernel
theorem dX4_readOrders_15 : decode cX4_readOrders 15 = .ok (.iconst 1, 1) := by decide +kernel
theorem dX4_readOrders_16 : decode cX4_readOrders 16 = .ok (.ireturn, 1) := by decide +kernel
theorem dX4_readOrders_17 : decode cX4_readOrders 17 = .ok (.iconst 0, 1) := by decide +kernel
theorem dX4_readOrders_18 : decode cX4_readOrders 18 = .ok (.istore 4, 2) := by decide +kernel
theorem dX4_readOrders_20 : decode cX4_readOrders 20 = .ok (.iload 4, 2) := by decide +kernel
theorem dX4_readOrders_22 : decode cX4_readOrders 22 = .ok (.sipush 400, 3) := by decide +kernel
theorem dX4_readOrders_25 : decode cX4_readOrders 25 = .ok (.if_icmp .gt 78, 3) := by decide +kernel
theorem dX4_readOrders_28 : decode cX4_readOrders 28 = .ok (.aload_n 0, 1) := by decide +kernel
theorem dX4_readOrders_29 : decode cX4_readOrders 29 = .ok (.aload_n 1, 1) := by decide +kernel
theorem dX4_readOrders_30 : decode cX4_readOrders 30 = .ok (.aload_n 2, 1) := by decide +kernel
theorem dX4_readOrders_31 : decode cX4_readOrders 31 = .ok (.aload_n 3, 1) := by decide +kernel
theorem dX4_readOrders_32 : decode cX4_readOrders 32 = .ok (.invokevirtual 38, 3) := by decide +kernel
theorem dX4_readOrders_35 : decode cX4_readOrders 35 = .ok (.ifCond .eq 20, 3) := by decide +kernel
theorem dX4_readOrders_38 : decode cX4_readOrders 38 = .ok (.aload_n 0, 1) := by decide +kernel
theorem dX4_readOrders_39 : decode cX4_readOrders 39 = .ok (.aload_n 1, 1) := by decide +kernel
theorem dX4_readOrders_40 : decode cX4_readOrders 40 = .ok (.aload_n 3, 1) := by decide +kernel
theorem dX4_readOrders_41 : decode cX4_readOrders 41 = .ok (.invokevirtual 42, 3) := by decide +kernel
theorem dX4_readOrders_44 : decode cX4_readOrders 44 = .ok (.ifCond .eq 11, 3) := by decide +kernel
theorem dX4_readOrders_47 : decode cX4_readOrders 47 = .ok (.aload_n 0, 1) := by decide +kernel
theorem dX4_readOrders_48 : decode cX4_readOrders 48 = .ok (.aload_n 1, 1) := by decide +kernel
theorem dX4_readOrders_49 : decode cX4_readOrders 49 = .ok (.invokevirtual 46, 3) := by decide +kernel
theorem dX4_readOrders_52 : decode cX4_readOrders 52 = .ok (.ifCond .ne 5, 3) := by decide +kernel
theorem dX4_readOrders_55 : decode cX4_readOrders 55 = .ok (.iconst 0, 1) := by decide +kernel
theorem dX4_readOrders_56 : decode cX4_readOrders 56 = .ok (.ireturn, 1) := by decide +kernel
theorem dX4_readOrders_57 : decode cX4_readOrders 57 = .ok (.aload_n 3, 1) := by decide +kernel
theorem dX4_readOrders_58 : decode cX4_readOrders 58 = .ok (.aload_n 0, 1) := by decide +kernel
theorem dX4_readOrders_59 : decode cX4_readOrders 59 = .ok (.getfield 9, 3) := by decide +kernel
theorem dX4_readOrders_62 : decode cX4_readOrders 62 = .ok (.aload_n 0, 1) := by decide +kernel
theorem dX4_readOrders_63 : decode cX4_readOrders 63 = .ok (.getfield 15, 3) := by decide +kernel
theorem dX4_readOrders_66 : decode cX4_readOrders 66 = .ok (.aload_n 0, 1) := by decide +kernel
theorem dX4_readOrders_67 : decode cX4_readOrders 67 = .ok (.getfield 18, 3) := by decide +kernel
theorem dX4_readOrders_70 : decode cX4_readOrders 70 = .ok (.aload_n 0, 1) := by decide +kernel
theorem dX4_readOrders_71 : decode cX4_readOrders 71 = .ok (.getfield 21, 3) := by decide +kernel
theorem dX4_readOrders_74 : decode cX4_readOrders 74 = .ok (.invokevirtual 50, 3) := by decide +kernel
theorem dX4_readOrders_77 : decode cX4_readOrders 77 = .ok (.aload_n 1, 1) := by decide +kernel
theorem dX4_readOrders_78 : decode cX4_readOrders 78 = .ok (.invokevirtual 34, 3) := by decide +kernel
theorem dX4_readOrders_81 : decode cX4_readOrders 81 = .ok (.ifCond .eq 5, 3) := by decide +kernel
theorem dX4_readOrders_84 : decode cX4_readOrders 84 = .ok (.iconst 1, 1) := by decide +kernel
theorem dX4_readOrders_85 : decode cX4_readOrders 85 = .ok (.ireturn, 1) := by decide +kernel
theorem dX4_readOrders_86 : decode cX4_readOrders 86 = .ok (.aload_n 1, 1) := by decide +kernel
theorem dX4_readOrders_87 : decode cX4_readOrders 87 = .ok (.ldc 54, 2) := by decide +kernel
theorem dX4_readOrders_89 : decode cX4_readOrders 89 = .ok (.invokevirtual 56, 3) := by decide +kernel
theorem dX4_readOrders_92 : decode cX4_readOrders 92 = .ok (.ifCond .ne 5, 3) := by decide +kernel
theorem dX4_readOrders_95 : decode cX4_readOrders 95 = .ok (.iconst 0, 1) := by decide +kernel
theorem dX4_readOrders_96 : decode cX4_readOrders 96 = .ok (.ireturn, 1) := by decide +kernel
theorem dX4_readOrders_97 : decode cX4_readOrders 97 = .ok (.iinc 4 1, 3) := by decide +kernel
theorem dX4_readOrders_100 : decode cX4_readOrders 100 = .ok (.goto (-80), 3) := by decide +kernel
theorem dX4_readOrders_103 : decode cX4_readOrders 103 = .ok (.iconst 0, 1) := by decide +kernel
theorem dX4_readOrders_104 : decode cX4_readOrders 104 = .ok (.ireturn, 1) := by decide +kernel
set_option maxRecDepth 20000 in
theorem ggX4_readLine_X6_take : GoodIn wsX4_readLine wsX6_take := goodIn_r _ [6, 7, 8, 9, 5, 10, 11, 12, 13, 14, 15, 16, 17, 18, 19, 20, 21, 22, 23, 24, 25, 26, 27, 28, 29, 30, 31, 32, 33, 34, 35, 36, 37, 38, 39, 40, 41, 42, 43, 44, 45, 46, 47, 48, 49, 50, 51, 52, 53, 54, 55, 56, 57, 58, 59, 60, 61, 62, 63, 64, 65, 66, 67, 68, 69, 70, 71, 72, 73, 74, 75, 76, 77, 103, 104, 105, 106] (by decide +kernel) (by decide +kernel)
set_option maxRecDepth 20000 in
theorem gX4_readLine_X6_take : GoodIn wsX4_readLine (wsV RX4 56 RX6 yX6_take wsX6_take) := goodIn_app (goodIn_of _ (by decide +kernel)) ggX4_readLine_X6_take
set_option maxRecDepth 20000 in
theorem ggX4_readLine_X6_number : GoodIn wsX4_readLine wsX6_number := goodIn_r _ [81, 13, 12, 11, 71, 72, 73, 74, 82, 83, 84, 5, 85, 70, 26, 27, 28, 75, 76, 77, 103, 104, 105, 106] (by decide +kernel) (by decide +kernel)
set_option maxRecDepth 20000 in
theorem gX4_readLine_X6_number : GoodIn wsX4_readLine (wsV RX4 61 RX6 yX6_number wsX6_number) := goodIn_app (goodIn_of _ (by decide +kernel)) ggX4_readLine_X6_number
set_option maxRecDepth 20000 in
theorem ggX4_readLine_X1_isThere : GoodIn wsX4_readLine wsX1_isThere := goodIn_r _ [90, 91, 107, 108, 109, 110, 111, 112, 113, 114] (by decide +kernel) (by decide +kernel)
set_option maxRecDepth 20000 in
theorem gX4_readLine_X1_isThere : GoodIn wsX4_readLine (wsV RX4 65 RX1 yX1_isThere wsX1_isThere) := goodIn_app (goodIn_of _ (by decide +kernel)) ggX4_readLine_X1_isThere
set_option maxRecDepth 20000 in
theorem ggX4_readLine_X2_hasOrder : GoodIn wsX4_readLine wsX2_hasOrder := goodIn_r _ [96, 97, 26, 27, 28, 115, 116, 117, 118, 119, 120, 121] (by decide +kernel) (by decide +kernel)
set_option maxRecDepth 20000 in
theorem gX4_readLine_X2_hasOrder : GoodIn wsX4_readLine (wsV RX4 71 RX2 yX2_hasOrder wsX2_hasOrder) := goodIn_app (goodIn_of _ (by decide +kernel)) ggX4_readLine_X2_hasOrder
set_option maxRecDepth 20000 in
theorem ggX4_readLine_X6_next : GoodIn wsX4_readLine wsX6_next := goodIn_r _ [69, 11, 12, 70, 13, 71, 72, 73, 74, 26, 27, 28, 75, 76, 5, 77, 103, 104, 105, 106] (by decide +kernel) (by decide +kernel)
set_option maxRecDepth 20000 in
theorem gX4_readLine_X6_next : GoodIn wsX4_readLine (wsV RX4 74 RX6 yX6_next wsX6_next) := goodIn_app (goodIn_of _ (by decide +kernel)) ggX4_readLine_X6_next
theorem dX4_readLine_0 : decode cX4_readLine 0 = .ok (.aload_n 1, 1) := by decide +kernel
theorem dX4_readLine_1 : decode cX4_readLine 1 = .ok (.ldc 60, 2) := by decide +kernel
theorem dX4_readLine_3 : decode cX4_readLine 3 = .ok (.invokevirtual 56, 3) := by decide +kernel
theorem dX4_readLine_6 : decode cX4_readLine 6 = .ok (.ifCond .ne 5, 3) := by decide +kernel
theorem dX4_readLine_9 : decode cX4_readLine 9 = .ok (.iconst 0, 1) := by decide +kernel
theorem dX4_readLine_10 : decode cX4_readLine 10 = .ok (.ireturn, 1) := by decide +kernel
theorem dX4_readLine_11 : decode cX4_readLine 11 = .ok (.aload_n 0, 1) := by decide +kernel
theorem dX4_readLine_12 : decode cX4_readLine 12 = .ok (.aload_n 1, 1) := by decide +kernel
theorem dX4_readLine_13 : decode cX4_readLine 13 = .ok (.invokevirtual 61, 3) := by decide +kernel
theorem dX4_readLine_16 : decode cX4_readLine 16 = .ok (.putfield 9, 3) := by decide +kernel
theorem dX4_readLine_19 : decode cX4_readLine 19 = .ok (.aload_n 2, 1) := by decide +kernel
theorem dX4_readLine_20 : decode cX4_readLine 20 = .ok (.aload_n 0, 1) := by decide +kernel
theorem dX4_readLine_21 : decode cX4_readLine 21 = .ok (.getfield 9, 3) := by decide +kernel
theorem dX4_readLine_24 : decode cX4_readLine 24 = .ok (.invokevirtual 65, 3) := by decide +kernel
theorem dX4_readLine_27 : decode cX4_readLine 27 = .ok (.ifCond .eq 14, 3) := by decide +kernel
theorem dX4_readLine_30 : decode cX4_readLine 30 = .ok (.aload_n 3, 1) := by decide +kernel
theorem dX4_readLine_31 : decode cX4_readLine 31 = .ok (.aload_n 0, 1) := by decide +kernel
theorem dX4_readLine_32 : decode cX4_readLine 32 = .ok (.getfield 9, 3) := by decide +kernel
theorem dX4_readLine_35 : decode cX4_readLine 35 = .ok (.invokevirtual 71, 3) := by decide +kernel
theorem dX4_readLine_38 : decode cX4_readLine 38 = .ok (.ifCond .eq 5, 3) := by decide +kernel
theorem dX4_readLine_41 : decode cX4_readLine 41 = .ok (.iconst 0, 1) := by decide +kernel
theorem dX4_readLine_42 : decode cX4_readLine 42 = .ok (.ireturn, 1) := by decide +kernel
theorem dX4_readLine_43 : decode cX4_readLine 43 = .ok (.aload_n 1, 1) := by decide +kernel
theorem dX4_readLine_44 : decode cX4_readLine 44 = .ok (.invokevirtual 74, 3) := by decide +kernel
theorem dX4_readLine_47 : decode cX4_readLine 47 = .ok (.iconst 1, 1) := by decide +kernel
theorem dX4_readLine_48 : decode cX4_readLine 48 = .ok (.ireturn, 1) := by decide +kernel
set_option maxRecDepth 20000 in
theorem ggX4_readStart_X6_take : GoodIn wsX4_readStart wsX6_take := goodIn_r _ [7, 8, 9, 10, 6, 11, 12, 13, 14, 15, 16, 17, 18, 19, 20, 21, 22, 23, 24, 25, 26, 27, 28, 29, 30, 31, 32, 33, 34, 35, 36, 37, 38, 39, 40, 41, 42, 43, 44, 45, 46, 47, 48, 49, 50, 51, 52, 53, 54, 55, 56, 57, 58, 59, 60, 61, 62, 63, 64, 65, 66, 67, 68, 69, 70, 71, 72, 73, 74, 75, 76, 77, 78, 110, 111, 112, 113] (by decide +kernel) (by decide +kernel)
set_option maxRecDepth 20000 in
theorem gX4_readStart_X6_take : GoodIn wsX4_readStart (wsV RX4 56 RX6 yX6_take wsX6_take) := goodIn_app (goodIn_of _ (by decide +kernel)) ggX4_readStart_X6_take
set_option maxRecDepth 20000 in
theorem ggX4_readStart_X6_takeNumber : GoodIn wsX4_readStart wsX6_takeNumber := goodIn_r _ [82, 83, 84, 85, 6, 86, 14, 13, 12, 72, 73, 74, 75, 87, 88, 89, 90, 71, 27, 28, 29, 76, 77, 78, 91, 92, 67, 68, 69, 70, 110, 111, 112, 113] (by decide +kernel) (by decide +kernel)
set_option maxRecDepth 20000 in
theorem gX4_readStart_X6_takeNumber : GoodIn wsX4_readStart (wsV RX4 79 RX6 yX6_takeNumber wsX6_takeNumber) := goodIn_app (goodIn_of _ (by decide +kernel)) ggX4_readStart_X6_takeNumber
set_option maxRecDepth 20000 in
theorem ggX4_readStart_X4_readAfter : GoodIn wsX4_readStart wsX4_readAfter := goodIn_r _ [97, 1, 2, 98, 84, 85, 6, 86, 14, 13, 12, 72, 73, 74, 75, 87, 88, 89, 90, 71, 27, 28, 29, 76, 77, 78, 99, 100, 101, 102, 103, 104, 105, 68, 69, 70, 3, 4, 5, 7, 8, 9, 10, 11, 15, 16, 17, 18, 19, 20, 21, 22, 23, 24, 25, 26, 30, 31, 32, 33, 34, 35, 36, 37, 38, 39, 40, 41, 42, 43, 44, 45, 46, 47, 48, 49, 50, 51, 52, 53, 54, 55, 56, 57, 58, 59, 60, 61, 62, 63, 64, 65, 66, 67, 79, 80, 81, 82, 83, 91, 92, 106, 107, 108, 109, 110, 111, 112, 113, 114, 115, 116, 117, 118, 119, 120] (by decide +kernel) (by decide +kernel)
set_option maxRecDepth 20000 in
theorem gX4_readStart_X4_readAfter : GoodIn wsX4_readStart (wsV RX4 84 RX4 yX4_readAfter wsX4_readAfter) := goodIn_app (goodIn_of _ (by decide +kernel)) ggX4_readStart_X4_readAfter
theorem dX4_readStart_0 : decode cX4_readStart 0 = .ok (.aload_n 1, 1) := by decide +kernel
theorem dX4_readStart_1 : decode cX4_readStart 1 = .ok (.ldc 77, 2) := by decide +kernel
theorem dX4_readStart_3 : decode cX4_readStart 3 = .ok (.invokevirtual 56, 3) := by decide +kernel
theorem dX4_readStart_6 : decode cX4_readStart 6 = .ok (.ifCond .eq 33, 3) := by decide +kernel
theorem dX4_readStart_9 : decode cX4_readStart 9 = .ok (.aload_n 0, 1) := by decide +kernel
theorem dX4_readStart_10 : decode cX4_readStart 10 = .ok (.iconst (-1), 1) := by decide +kernel
theorem dX4_readStart_11 : decode cX4_readStart 11 = .ok (.putfield 15, 3) := by decide +kernel
theorem dX4_readStart_14 : decode cX4_readStart 14 = .ok (.aload_n 0, 1) := by decide +kernel
theorem dX4_readStart_15 : decode cX4_readStart 15 = .ok (.aload_n 1, 1) := by decide +kernel
theorem dX4_readStart_16 : decode cX4_readStart 16 = .ok (.iconst 0, 1) := by decide +kernel
theorem dX4_readStart_17 : decode cX4_readStart 17 = .ok (.bipush 100, 2) := by decide +kernel
theorem dX4_readStart_19 : decode cX4_readStart 19 = .ok (.invokevirtual 79, 3) := by decide +kernel
theorem dX4_readStart_22 : decode cX4_readStart 22 = .ok (.putfield 18, 3) := by decide +kernel
theorem dX4_readStart_25 : decode cX4_readStart 25 = .ok (.aload_n 0, 1) := by decide +kernel
theorem dX4_readStart_26 : decode cX4_readStart 26 = .ok (.getfield 18, 3) := by decide +kernel
theorem dX4_readStart_29 : decode cX4_readStart 29 = .ok (.iconst (-1), 1) := by decide +kernel
theorem dX4_readStart_30 : decode cX4_readStart 30 = .ok (.if_icmp .eq 7, 3) := by decide +kernel
theorem dX4_readStart_33 : decode cX4_readStart 33 = .ok (.iconst 1, 1) := by decide +kernel
theorem dX4_readStart_34 : decode cX4_readStart 34 = .ok (.goto 4, 3) := by decide +kernel
theorem dX4_readStart_37 : decode cX4_readStart 37 = .ok (.iconst 0, 1) := by decide +kernel
theorem dX4_readStart_38 : decode cX4_readStart 38 = .ok (.ireturn, 1) := by decide +kernel
theorem dX4_readStart_39 : decode cX4_readStart 39 = .ok (.aload_n 1, 1) := by decide +kernel
theorem dX4_readStart_40 : decode cX4_readStart 40 = .ok (.ldc 83, 2) := by decide +kernel
theorem dX4_readStart_42 : decode cX4_readStart 42 = .ok (.invokevirtual 56, 3) := by decide +kernel
theorem dX4_readStart_45 : decode cX4_readStart 45 = .ok (.ifCond .eq 16, 3) := by decide +kernel
theorem dX4_readStart_48 : decode cX4_readStart 48 = .ok (.aload_n 0, 1) := by decide +kernel
theorem dX4_readStart_49 : decode cX4_readStart 49 = .ok (.aload_n 1, 1) := by decide +kernel
theorem dX4_readStart_50 : decode cX4_readStart 50 = .ok (.aload_n 2, 1) := by decide +kernel
theorem dX4_readStart_51 : decode cX4_readStart 51 = .ok (.invokevirtual 84, 3) := by decide +kernel
theorem dX4_readStart_54 : decode cX4_readStart 54 = .ok (.ifCond .eq 7, 3) := by decide +kernel
theorem dX4_readStart_57 : decode cX4_readStart 57 = .ok (.iconst 1, 1) := by decide +kernel
theorem dX4_readStart_58 : decode cX4_readStart 58 = .ok (.goto 4, 3) := by decide +kernel
theorem dX4_readStart_61 : decode cX4_readStart 61 = .ok (.iconst 0, 1) := by decide +kernel
theorem dX4_readStart_62 : decode cX4_readStart 62 = .ok (.ireturn, 1) := by decide +kernel
set_option maxRecDepth 20000 in
theorem ggX4_readAfter_X6_number : GoodIn wsX4_readAfter wsX6_number := goodIn_r _ [7, 8, 9, 10, 11, 12, 13, 14, 15, 16, 17, 6, 18, 19, 20, 21, 22, 23, 24, 25, 105, 106, 107, 108] (by decide +kernel) (by decide +kernel)
set_option maxRecDepth 20000 in
theorem gX4_readAfter_X6_number : GoodIn wsX4_readAfter (wsV RX4 61 RX6 yX6_number wsX6_number) := goodIn_app (goodIn_of _ (by decide +kernel)) ggX4_readAfter_X6_number
set_option maxRecDepth 20000 in
theorem ggX4_readAfter_X2_hasOrder : GoodIn wsX4_readAfter wsX2_hasOrder := goodIn_r _ [30, 31, 20, 21, 22, 109, 110, 111, 112, 113, 114, 115] (by decide +kernel) (by decide +kernel)
set_option maxRecDepth 20000 in
theorem gX4_readAfter_X2_hasOrder : GoodIn wsX4_readAfter (wsV RX4 71 RX2 yX2_hasOrder wsX2_hasOrder) := goodIn_app (goodIn_of _ (by decide +kernel)) ggX4_readAfter_X2_hasOrder
set_option maxRecDepth 20000 in
theorem ggX4_readAfter_X6_next : GoodIn wsX4_readAfter wsX6_next := goodIn_r _ [35, 10, 9, 19, 8, 11, 12, 13, 14, 20, 21, 22, 23, 24, 6, 25, 105, 106, 107, 108] (by decide +kernel) (by decide +kernel)
set_option maxRecDepth 20000 in
theorem gX4_readAfter_X6_next : GoodIn wsX4_readAfter (wsV RX4 74 RX6 yX6_next wsX6_next) := goodIn_app (goodIn_of _ (by decide +kernel)) ggX4_readAfter_X6_next
set_option maxRecDepth 20000 in
theorem ggX4_readAfter_X6_take : GoodIn wsX4_readAfter wsX6_take := goodIn_r _ [39, 40, 41, 42, 6, 43, 10, 9, 8, 44, 45, 46, 47, 48, 49, 50, 51, 52, 53, 54, 55, 20, 21, 22, 56, 57, 58, 59, 60, 61, 62, 63, 64, 65, 66, 67, 68, 69, 70, 71, 72, 73, 74, 75, 76, 77, 78, 79, 80, 81, 82, 83, 84, 85, 86, 87, 88, 89, 90, 91, 92, 93, 33, 34, 35, 19, 11, 12, 13, 14, 23, 24, 25, 105, 106, 107, 108] (by decide +kernel) (by decide +kernel)
set_option maxRecDepth 20000 in
theorem gX4_readAfter_X6_take : GoodIn wsX4_readAfter (wsV RX4 56 RX6 yX6_take wsX6_take) := goodIn_app (goodIn_of _ (by decide +kernel)) ggX4_readAfter_X6_take
set_option maxRecDepth 20000 in
theorem ggX4_readAfter_X6_takeNumber : GoodIn wsX4_readAfter wsX6_takeNumber := goodIn_r _ [97, 98, 4, 5, 6, 7, 8, 9, 10, 11, 12, 13, 14, 15, 16, 17, 18, 19, 20, 21, 22, 23, 24, 25, 99, 100, 93, 33, 34, 35, 105, 106, 107, 108] (by decide +kernel) (by decide +kernel)
set_option maxRecDepth 20000 in
theorem gX4_readAfter_X6_takeNumber : GoodIn wsX4_readAfter (wsV RX4 79 RX6 yX6_takeNumber wsX6_takeNumber) := goodIn_app (goodIn_of _ (by decide +kernel)) ggX4_readAfter_X6_takeNumber
theorem dX4_readAfter_0 : decode cX4_readAfter 0 = .ok (.aload_n 0, 1) := by decide +kernel
theorem dX4_readAfter_1 : decode cX4_readAfter 1 = .ok (.aload_n 1, 1) := by decide +kernel
theorem dX4_readAfter_2 : decode cX4_readAfter 2 = .ok (.invokevirtual 61, 3) := by decide +kernel
theorem dX4_readAfter_5 : decode cX4_readAfter 5 = .ok (.putfield 15, 3) := by decide +kernel
theorem dX4_readAfter_8 : decode cX4_readAfter 8 = .ok (.aload_n 2, 1) := by decide +kernel
theorem dX4_readAfter_9 : decode cX4_readAfter 9 = .ok (.aload_n 0, 1) := by decide +kernel
theorem dX4_readAfter_10 : decode cX4_readAfter 10 = .ok (.getfield 15, 3) := by decide +kernel
theorem dX4_readAfter_13 : decode cX4_readAfter 13 = .ok (.invokevirtual 71, 3) := by decide +kernel
theorem dX4_readAfter_16 : decode cX4_readAfter 16 = .ok (.ifCond .ne 5, 3) := by decide +kernel
theorem dX4_readAfter_19 : decode cX4_readAfter 19 = .ok (.iconst 0, 1) := by decide +kernel
theorem dX4_readAfter_20 : decode cX4_readAfter 20 = .ok (.ireturn, 1) := by decide +kernel
theorem dX4_readAfter_21 : decode cX4_readAfter 21 = .ok (.aload_n 1, 1) := by decide +kernel
theorem dX4_readAfter_22 : decode cX4_readAfter 22 = .ok (.invokevirtual 74, 3) := by decide +kernel
theorem dX4_readAfter_25 : decode cX4_readAfter 25 = .ok (.aload_n 0, 1) := by decide +kernel
theorem dX4_readAfter_26 : decode cX4_readAfter 26 = .ok (.aload_n 1, 1) := by decide +kernel
theorem dX4_readAfter_27 : decode cX4_readAfter 27 = .ok (.ldc 87, 2) := by decide +kernel
theorem dX4_readAfter_29 : decode cX4_readAfter 29 = .ok (.invokevirtual 56, 3) := by decide +kernel
theorem dX4_readAfter_32 : decode cX4_readAfter 32 = .ok (.ifCond .eq 13, 3) := by decide +kernel
theorem dX4_readAfter_35 : decode cX4_readAfter 35 = .ok (.aload_n 1, 1) := by decide +kernel
theorem dX4_readAfter_36 : decode cX4_readAfter 36 = .ok (.iconst 0, 1) := by decide +kernel
theorem dX4_readAfter_37 : decode cX4_readAfter 37 = .ok (.bipush 99, 2) := by decide +kernel
theorem dX4_readAfter_39 : decode cX4_readAfter 39 = .ok (.invokevirtual 79, 3) := by decide +kernel
theorem dX4_readAfter_42 : decode cX4_readAfter 42 = .ok (.goto 4, 3) := by decide +kernel
theorem dX4_readAfter_45 : decode cX4_readAfter 45 = .ok (.iconst 0, 1) := by decide +kernel
theorem dX4_readAfter_46 : decode cX4_readAfter 46 = .ok (.putfield 18, 3) := by decide +kernel
theorem dX4_readAfter_49 : decode cX4_readAfter 49 = .ok (.aload_n 0, 1) := by decide +kernel
theorem dX4_readAfter_50 : decode cX4_readAfter 50 = .ok (.getfield 18, 3) := by decide +kernel
theorem dX4_readAfter_53 : decode cX4_readAfter 53 = .ok (.iconst (-1), 1) := by decide +kernel
theorem dX4_readAfter_54 : decode cX4_readAfter 54 = .ok (.if_icmp .eq 7, 3) := by decide +kernel
theorem dX4_readAfter_57 : decode cX4_readAfter 57 = .ok (.iconst 1, 1) := by decide +kernel
theorem dX4_readAfter_58 : decode cX4_readAfter 58 = .ok (.goto 4, 3) := by decide +kernel
theorem dX4_readAfter_61 : decode cX4_readAfter 61 = .ok (.iconst 0, 1) := by decide +kernel
theorem dX4_readAfter_62 : decode cX4_readAfter 62 = .ok (.ireturn, 1) := by decide +kernel
set_option maxRecDepth 20000 in
theorem ggX4_readGangs_X6_take : GoodIn wsX4_readGangs wsX6_take := goodIn_r _ [6, 7, 8, 9, 5, 10, 11, 12, 13, 14, 15, 16, 17, 18, 19, 20, 21, 22, 23, 24, 25, 26, 27, 28, 29, 30, 31, 32, 33, 34, 35, 36, 37, 38, 39, 40, 41, 42, 43, 44, 45, 46, 47, 48, 49, 50, 51, 52, 53, 54, 55, 56, 57, 58, 59, 60, 61, 62, 63, 64, 65, 66, 67, 68, 69, 70, 71, 72, 73, 74, 75, 76, 77, 96, 97, 98, 99] (by decide +kernel) (by decide +kernel)
set_option maxRecDepth 20000 in
theorem gX4_readGangs_X6_take : GoodIn wsX4_readGangs (wsV RX4 56 RX6 yX6_take wsX6_take) := goodIn_app (goodIn_of _ (by decide +kernel)) ggX4_readGangs_X6_take
set_option maxRecDepth 20000 in
theorem ggX4_readGangs_X6_takeNumber : GoodIn wsX4_readGangs wsX6_takeNumber := goodIn_r _ [81, 82, 83, 84, 5, 85, 13, 12, 11, 71, 72, 73, 74, 86, 87, 88, 89, 70, 26, 27, 28, 75, 76, 77, 90, 91, 66, 67, 68, 69, 96, 97, 98, 99] (by decide +kernel) (by decide +kernel)
set_option maxRecDepth 20000 in
theorem gX4_readGangs_X6_takeNumber : GoodIn wsX4_readGangs (wsV RX4 79 RX6 yX6_takeNumber wsX6_takeNumber) := goodIn_app (goodIn_of _ (by decide +kernel)) ggX4_readGangs_X6_takeNumber
theorem dX4_readGangs_0 : decode cX4_readGangs 0 = .ok (.aload_n 1, 1) := by decide +kernel
theorem dX4_readGangs_1 : decode cX4_readGangs 1 = .ok (.ldc 89, 2) := by decide +kernel
theorem dX4_readGangs_3 : decode cX4_readGangs 3 = .ok (.invokevirtual 56, 3) := by decide +kernel
theorem dX4_readGangs_6 : decode cX4_readGangs 6 = .ok (.ifCond .ne 5, 3) := by decide +kernel
theorem dX4_readGangs_9 : decode cX4_readGangs 9 = .ok (.iconst 0, 1) := by decide +kernel
theorem dX4_readGangs_10 : decode cX4_readGangs 10 = .ok (.ireturn, 1) := by decide +kernel
theorem dX4_readGangs_11 : decode cX4_readGangs 11 = .ok (.aload_n 0, 1) := by decide +kernel
theorem dX4_readGangs_12 : decode cX4_readGangs 12 = .ok (.aload_n 1, 1) := by decide +kernel
theorem dX4_readGangs_13 : decode cX4_readGangs 13 = .ok (.iconst 1, 1) := by decide +kernel
theorem dX4_readGangs_14 : decode cX4_readGangs 14 = .ok (.bipush 99, 2) := by decide +kernel
theorem dX4_readGangs_16 : decode cX4_readGangs 16 = .ok (.invokevirtual 79, 3) := by decide +kernel
theorem dX4_readGangs_19 : decode cX4_readGangs 19 = .ok (.putfield 21, 3) := by decide +kernel
theorem dX4_readGangs_22 : decode cX4_readGangs 22 = .ok (.aload_n 0, 1) := by decide +kernel
theorem dX4_readGangs_23 : decode cX4_readGangs 23 = .ok (.getfield 21, 3) := by decide +kernel
theorem dX4_readGangs_26 : decode cX4_readGangs 26 = .ok (.iconst (-1), 1) := by decide +kernel
theorem dX4_readGangs_27 : decode cX4_readGangs 27 = .ok (.if_icmp .eq 7, 3) := by decide +kernel
theorem dX4_readGangs_30 : decode cX4_readGangs 30 = .ok (.iconst 1, 1) := by decide +kernel
theorem dX4_readGangs_31 : decode cX4_readGangs 31 = .ok (.goto 4, 3) := by decide +kernel
theorem dX4_readGangs_34 : decode cX4_readGangs 34 = .ok (.iconst 0, 1) := by decide +kernel
theorem dX4_readGangs_35 : decode cX4_readGangs 35 = .ok (.ireturn, 1) := by decide +kernel
theorem dX5_init_0 : decode cX5_init 0 = .ok (.aload_n 0, 1) := by decide +kernel
theorem dX5_init_1 : decode cX5_init 1 = .ok (.invokespecial 3, 3) := by decide +kernel
theorem dX5_init_4 : decode cX5_init 4 = .ok (.aload_n 0, 1) := by decide +kernel
theorem dX5_init_5 : decode cX5_init 5 = .ok (.bipush 16, 2) := by decide +kernel
theorem dX5_init_7 : decode cX5_init 7 = .ok (.newarray .int, 2) := by decide +kernel
theorem dX5_init_9 : decode cX5_init 9 = .ok (.putfield 9, 3) := by decide +kernel
theorem dX5_init_12 : decode cX5_init 12 = .ok (.aload_n 0, 1) := by decide +kernel
theorem dX5_init_13 : decode cX5_init 13 = .ok (.sipush 480, 3) := by decide +kernel
theorem dX5_init_16 : decode cX5_init 16 = .ok (.newarray .int, 2) := by decide +kernel
theorem dX5_init_18 : decode cX5_init 18 = .ok (.putfield 15, 3) := by decide +kernel
theorem dX5_init_21 : decode cX5_init 21 = .ok (.aload_n 0, 1) := by decide +kernel
theorem dX5_init_22 : decode cX5_init 22 = .ok (.bipush 30, 2) := by decide +kernel
theorem dX5_init_24 : decode cX5_init 24 = .ok (.newarray .int, 2) := by decide +kernel
theorem dX5_init_26 : decode cX5_init 26 = .ok (.putfield 18, 3) := by decide +kernel
theorem dX5_init_29 : decode cX5_init 29 = .ok (.aload_n 0, 1) := by decide +kernel
theorem dX5_init_30 : decode cX5_init 30 = .ok (.bipush 30, 2) := by decide +kernel
theorem dX5_init_32 : decode cX5_init 32 = .ok (.newarray .int, 2) := by decide +kernel
theorem dX5_init_34 : decode cX5_init 34 = .ok (.putfield 21, 3) := by decide +kernel
theorem dX5_init_37 : decode cX5_init 37 = .ok (.aload_n 0, 1) := by decide +kernel
theorem dX5_init_38 : decode cX5_init 38 = .ok (.bipush 30, 2) := by decide +kernel
theorem dX5_init_40 : decode cX5_init 40 = .ok (.newarray .int, 2) := by decide +kernel
theorem dX5_init_42 : decode cX5_init 42 = .ok (.putfield 24, 3) := by decide +kernel
theorem dX5_init_45 : decode cX5_init 45 = .ok (.aload_n 0, 1) := by decide +kernel
theorem dX5_init_46 : decode cX5_init 46 = .ok (.bipush 16, 2) := by decide +kernel
theorem dX5_init_48 : decode cX5_init 48 = .ok (.newarray .int, 2) := by decide +kernel
theorem dX5_init_50 : decode cX5_init 50 = .ok (.putfield 27, 3) := by decide +kernel
theorem dX5_init_53 : decode cX5_init 53 = .ok (.aload_n 0, 1) := by decide +kernel
theorem dX5_init_54 : decode cX5_init 54 = .ok (.iconst 0, 1) := by decide +kernel
theorem dX5_init_55 : decode cX5_init 55 = .ok (.putfield 30, 3) := by decide +kernel
theorem dX5_init_58 : decode cX5_init 58 = .ok (.aload_n 0, 1) := by decide +kernel
theorem dX5_init_59 : decode cX5_init 59 = .ok (.iconst 0, 1) := by decide +kernel
theorem dX5_init_60 : decode cX5_init 60 = .ok (.putfield 34, 3) := by decide +kernel
theorem dX5_init_63 : decode cX5_init 63 = .ok (.return_, 1) := by decide +kernel
set_option maxRecDepth 20000 in
theorem ggX5_setPushers_X9_isPlace : GoodIn wsX5_setPushers wsX9_isPlace := goodIn_r _ [4, 5, 6, 3, 7] (by decide +kernel) (by decide +kernel)
set_option maxRecDepth 20000 in
theorem gX5_setPushers_X9_isPlace_n38 : GoodIn wsX5_setPushers (wsX9_isPlace) := ggX5_setPushers_X9_isPlace
set_option maxRecDepth 20000 in
theorem ggX5_setPushers_X9_isWithin : GoodIn wsX5_setPushers wsX9_isWithin := goodIn_r _ [7] (by decide +kernel) (by decide +kernel)
set_option maxRecDepth 20000 in
theorem gX5_setPushers_X9_isWithin_n42 : GoodIn wsX5_setPushers (wsX9_isWithin) := ggX5_setPushers_X9_isWithin
set_option maxRecDepth 20000 in
theorem ggX5_setPushers_X9_at : GoodIn wsX5_setPushers wsX9_at := goodIn_r _ [9] (by decide +kernel) (by decide +kernel)
set_option maxRecDepth 20000 in
theorem gX5_setPushers_X9_at_n46 : GoodIn wsX5_setPushers (wsX9_at) := ggX5_setPushers_X9_at
set_option maxRecDepth 20000 in
theorem ggX5_setPushers_X9_put : GoodIn wsX5_setPushers wsX9_put := goodIn_r _ [11] (by decide +kernel) (by decide +kernel)
set_option maxRecDepth 20000 in
theorem gX5_setPushers_X9_put_n50 : GoodIn wsX5_setPushers (wsX9_put) := ggX5_setPushers_X9_put
theorem dX5_setPushers_0 : decode cX5_setPushers 0 = .ok (.iload_n 1, 1) := by decide +kernel
theorem dX5_setPushers_1 : decode cX5_setPushers 1 = .ok (.invokestatic 38, 3) := by decide +kernel
theorem dX5_setPushers_4 : decode cX5_setPushers 4 = .ok (.ifCond .eq 13, 3) := by decide +kernel
theorem dX5_setPushers_7 : decode cX5_setPushers 7 = .ok (.iload_n 2, 1) := by decide +kernel
theorem dX5_setPushers_8 : decode cX5_setPushers 8 = .ok (.iconst 0, 1) := by decide +kernel
theorem dX5_setPushers_9 : decode cX5_setPushers 9 = .ok (.bipush 9, 2) := by decide +kernel
theorem dX5_setPushers_11 : decode cX5_setPushers 11 = .ok (.invokestatic 42, 3) := by decide +kernel
theorem dX5_setPushers_14 : decode cX5_setPushers 14 = .ok (.ifCond .ne 5, 3) := by decide +kernel
theorem dX5_setPushers_17 : decode cX5_setPushers 17 = .ok (.iconst (-1), 1) := by decide +kernel
theorem dX5_setPushers_18 : decode cX5_setPushers 18 = .ok (.ireturn, 1) := by decide +kernel
theorem dX5_setPushers_19 : decode cX5_setPushers 19 = .ok (.aload_n 0, 1) := by decide +kernel
theorem dX5_setPushers_20 : decode cX5_setPushers 20 = .ok (.getfield 9, 3) := by decide +kernel
theorem dX5_setPushers_23 : decode cX5_setPushers 23 = .ok (.iload_n 1, 1) := by decide +kernel
theorem dX5_setPushers_24 : decode cX5_setPushers 24 = .ok (.invokestatic 46, 3) := by decide +kernel
theorem dX5_setPushers_27 : decode cX5_setPushers 27 = .ok (.istore_n 3, 1) := by decide +kernel
theorem dX5_setPushers_28 : decode cX5_setPushers 28 = .ok (.aload_n 0, 1) := by decide +kernel
theorem dX5_setPushers_29 : decode cX5_setPushers 29 = .ok (.getfield 9, 3) := by decide +kernel
theorem dX5_setPushers_32 : decode cX5_setPushers 32 = .ok (.iload_n 1, 1) := by decide +kernel
theorem dX5_setPushers_33 : decode cX5_setPushers 33 = .ok (.iload_n 2, 1) := by decide +kernel
theorem dX5_setPushers_34 : decode cX5_setPushers 34 = .ok (.invokestatic 50, 3) := by decide +kernel
theorem dX5_setPushers_37 : decode cX5_setPushers 37 = .ok (.iload_n 3, 1) := by decide +kernel
theorem dX5_setPushers_38 : decode cX5_setPushers 38 = .ok (.ireturn, 1) := by decide +kernel
set_option maxRecDepth 20000 in
theorem ggX5_isInLatest_X9_at : GoodIn wsX5_isInLatest wsX9_at := goodIn_r _ [5] (by decide +kernel) (by decide +kernel)
set_option maxRecDepth 20000 in
theorem gX5_isInLatest_X9_at_n46 : GoodIn wsX5_isInLatest (wsX9_at) := ggX5_isInLatest_X9_at
theorem dX5_isInLatest_0 : decode cX5_isInLatest 0 = .ok (.aload_n 0, 1) := by decide +kernel
theorem dX5_isInLatest_1 : decode cX5_isInLatest 1 = .ok (.getfield 34, 3) := by decide +kernel
theorem dX5_isInLatest_4 : decode cX5_isInLatest 4 = .ok (.ifCond .ne 5, 3) := by decide +kernel
theorem dX5_isInLatest_7 : decode cX5_isInLatest 7 = .ok (.iconst (-1), 1) := by decide +kernel
theorem dX5_isInLatest_8 : decode cX5_isInLatest 8 = .ok (.ireturn, 1) := by decide +kernel
theorem dX5_isInLatest_9 : decode cX5_isInLatest 9 = .ok (.aload_n 0, 1) := by decide +kernel
theorem dX5_isInLatest_10 : decode cX5_isInLatest 10 = .ok (.getfield 18, 3) := by decide +kernel
theorem dX5_isInLatest_13 : decode cX5_isInLatest 13 = .ok (.iload_n 1, 1) := by decide +kernel
theorem dX5_isInLatest_14 : decode cX5_isInLatest 14 = .ok (.invokestatic 46, 3) := by decide +kernel
theorem dX5_isInLatest_17 : decode cX5_isInLatest 17 = .ok (.iconst (-1), 1) := by decide +kernel
theorem dX5_isInLatest_18 : decode cX5_isInLatest 18 = .ok (.if_icmp .ne 7, 3) := by decide +kernel
theorem dX5_isInLatest_21 : decode cX5_isInLatest 21 = .ok (.iconst 0, 1) := by decide +kernel
theorem dX5_isInLatest_22 : decode cX5_isInLatest 22 = .ok (.goto 4, 3) := by decide +kernel
theorem dX5_isInLatest_25 : decode cX5_isInLatest 25 = .ok (.iconst 1, 1) := by decide +kernel
theorem dX5_isInLatest_26 : decode cX5_isInLatest 26 = .ok (.ireturn, 1) := by decide +kernel
set_option maxRecDepth 20000 in
theorem ggX5_push_X9_isHour : GoodIn wsX5_push wsX9_isHour := goodIn_r _ [5, 6, 7, 4, 8] (by decide +kernel) (by decide +kernel)
set_option maxRecDepth 20000 in
theorem gX5_push_X9_isHour_n54 : GoodIn wsX5_push (wsX9_isHour) := ggX5_push_X9_isHour
set_option maxRecDepth 20000 in
theorem ggX5_push_J7_fill_53178 : GoodIn wsX5_push wsJ7_fill_53178 := goodIn_r _ [12] (by decide +kernel) (by decide +kernel)
set_option maxRecDepth 20000 in
theorem gX5_push_J7_fill_53178 : GoodIn wsX5_push (va_wsS RX5 57 yJ7_fill_53178 wsJ7_fill_53178) := goodIn_app (goodIn_of _ (by decide +kernel)) ggX5_push_J7_fill_53178
set_option maxRecDepth 20000 in
theorem ggX5_push_X0_travel : GoodIn wsX5_push wsX0_travel := goodIn_r _ [17, 18, 19, 20, 21, 22, 10, 11, 12, 23, 4, 24, 25, 26, 27, 28, 29, 30, 31, 32, 33, 34, 35, 36, 37, 38, 39, 40, 16, 41, 42, 43, 44, 45, 46, 47, 48, 49, 50, 51, 52, 53, 54, 55, 56, 57, 58, 59, 60, 106, 107, 108, 109, 110, 111, 112, 113, 114, 115, 116, 117, 118, 119, 120, 121, 122, 123, 124, 125, 126, 127] (by decide +kernel) (by decide +kernel)
set_option maxRecDepth 20000 in
theorem gX5_push_X0_travel : GoodIn wsX5_push (wsV RX5 68 RX0 yX0_travel wsX0_travel) := goodIn_app (goodIn_of _ (by decide +kernel)) ggX5_push_X0_travel
set_option maxRecDepth 20000 in
theorem ggX5_push_X5_reckonHoursLeft : GoodIn wsX5_push wsX5_reckonHoursLeft := goodIn_r _ [65, 66, 58, 54, 59, 67, 68, 69, 43, 44, 16, 45, 18, 23, 4, 24, 25, 26, 98, 99, 100, 101, 102, 103, 104, 105, 106, 107, 108, 109] (by decide +kernel) (by decide +kernel)
set_option maxRecDepth 20000 in
theorem gX5_push_X5_reckonHoursLeft : GoodIn wsX5_push (wsV RX5 72 RX5 yX5_reckonHoursLeft wsX5_reckonHoursLeft) := goodIn_app (goodIn_of _ (by decide +kernel)) ggX5_push_X5_reckonHoursLeft
set_option maxRecDepth 20000 in
theorem ggX5_push_X5_comesIntoSet : GoodIn wsX5_push wsX5_comesIntoSet := goodIn_r _ [73, 74, 75, 76, 9, 10, 11, 12, 77, 78, 79, 64, 80, 81, 25, 4, 26, 23, 24, 82, 83, 84, 85, 67, 68, 86, 87, 88, 89, 2, 90, 91, 92, 93, 94, 95, 96, 97, 98, 99, 100, 101, 102, 103, 104, 105] (by decide +kernel) (by decide +kernel)
set_option maxRecDepth 20000 in
theorem gX5_push_X5_comesIntoSet : GoodIn wsX5_push (wsV RX5 76 RX5 yX5_comesIntoSet wsX5_comesIntoSet) := goodIn_app (goodIn_of _ (by decide +kernel)) ggX5_push_X5_comesIntoSet
theorem dX5_push_0 : decode cX5_push 0 = .ok (.iload_n 3, 1) := by decide +kernel
theorem dX5_push_1 : decode cX5_push 1 = .ok (.invokestatic 54, 3) := by decide +kernel
theorem dX5_push_4 : decode cX5_push 4 = .ok (.ifCond .ne 5, 3) := by decide +kernel
theorem dX5_push_7 : decode cX5_push 7 = .ok (.iconst (-1), 1) := by decide +kernel
theorem dX5_push_8 : decode cX5_push 8 = .ok (.ireturn, 1) := by decide +kernel
theorem dX5_push_9 : decode cX5_push 9 = .ok (.aload_n 0, 1) := by decide +kernel
theorem dX5_push_10 : decode cX5_push 10 = .ok (.iconst 1, 1) := by decide +kernel
theorem dX5_push_11 : decode cX5_push 11 = .ok (.putfield 34, 3) := by decide +kernel
theorem dX5_push_14 : decode cX5_push 14 = .ok (.aload_n 0, 1) := by decide +kernel
theorem dX5_push_15 : decode cX5_push 15 = .ok (.getfield 18, 3) := by decide +kernel
theorem dX5_push_18 : decode cX5_push 18 = .ok (.iconst (-1), 1) := by decide +kernel
theorem dX5_push_19 : decode cX5_push 19 = .ok (.invokestatic 57, 3) := by decide +kernel
theorem dX5_push_22 : decode cX5_push 22 = .ok (.iconst 0, 1) := by decide +kernel
theorem dX5_push_23 : decode cX5_push 23 = .ok (.istore 4, 2) := by decide +kernel
theorem dX5_push_25 : decode cX5_push 25 = .ok (.iconst 0, 1) := by decide +kernel
theorem dX5_push_26 : decode cX5_push 26 = .ok (.istore 5, 2) := by decide +kernel
theorem dX5_push_28 : decode cX5_push 28 = .ok (.iload 5, 2) := by decide +kernel
theorem dX5_push_30 : decode cX5_push 30 = .ok (.aload_n 2, 1) := by decide +kernel
theorem dX5_push_31 : decode cX5_push 31 = .ok (.getfield 63, 3) := by decide +kernel
theorem dX5_push_34 : decode cX5_push 34 = .ok (.if_icmp .ge 36, 3) := by decide +kernel
theorem dX5_push_37 : decode cX5_push 37 = .ok (.aload_n 2, 1) := by decide +kernel
theorem dX5_push_38 : decode cX5_push 38 = .ok (.aload_n 1, 1) := by decide +kernel
theorem dX5_push_39 : decode cX5_push 39 = .ok (.iload 5, 2) := by decide +kernel
theorem dX5_push_41 : decode cX5_push 41 = .ok (.invokevirtual 68, 3) := by decide +kernel
theorem dX5_push_44 : decode cX5_push 44 = .ok (.aload_n 0, 1) := by decide +kernel
theorem dX5_push_45 : decode cX5_push 45 = .ok (.aload_n 2, 1) := by decide +kernel
theorem dX5_push_46 : decode cX5_push 46 = .ok (.iload 5, 2) := by decide +kernel
theorem dX5_push_48 : decode cX5_push 48 = .ok (.iload_n 3, 1) := by decide +kernel
theorem dX5_push_49 : decode cX5_push 49 = .ok (.invokevirtual 72, 3) := by decide +kernel
theorem dX5_push_52 : decode cX5_push 52 = .ok (.aload_n 0, 1) := by decide +kernel
theorem dX5_push_53 : decode cX5_push 53 = .ok (.iload 5, 2) := by decide +kernel
theorem dX5_push_55 : decode cX5_push 55 = .ok (.invokevirtual 76, 3) := by decide +kernel
theorem dX5_push_58 : decode cX5_push 58 = .ok (.ifCond .eq 6, 3) := by decide +kernel
theorem dX5_push_61 : decode cX5_push 61 = .ok (.iinc 4 1, 3) := by decide +kernel
theorem dX5_push_64 : decode cX5_push 64 = .ok (.iinc 5 1, 3) := by decide +kernel
theorem dX5_push_67 : decode cX5_push 67 = .ok (.goto (-39), 3) := by decide +kernel
theorem dX5_push_70 : decode cX5_push 70 = .ok (.iload 4, 2) := by decide +kernel
theorem dX5_push_72 : decode cX5_push 72 = .ok (.ireturn, 1) := by decide +kernel
set_option maxRecDepth 20000 in
theorem ggX5_reckonHoursLeft_X0_firstIn : GoodIn wsX5_reckonHoursLeft wsX0_firstIn := goodIn_r _ [11, 12, 13, 14, 15, 26, 27, 28, 29] (by decide +kernel) (by decide +kernel)
set_option maxRecDepth 20000 in
theorem gX5_reckonHoursLeft_X0_firstIn : GoodIn wsX5_reckonHoursLeft (wsV RX5 79 RX0 yX0_firstIn wsX0_firstIn) := goodIn_app (goodIn_of _ (by decide +kernel)) ggX5_reckonHoursLeft_X0_firstIn
set_option maxRecDepth 20000 in
theorem ggX5_reckonHoursLeft_X9_at : GoodIn wsX5_reckonHoursLeft wsX9_at := goodIn_r _ [15] (by decide +kernel) (by decide +kernel)
set_option maxRecDepth 20000 in
theorem gX5_reckonHoursLeft_X9_at_n46 : GoodIn wsX5_reckonHoursLeft (wsX9_at) := ggX5_reckonHoursLeft_X9_at
set_option maxRecDepth 20000 in
theorem ggX5_reckonHoursLeft_X9_put : GoodIn wsX5_reckonHoursLeft wsX9_put := goodIn_r _ [17] (by decide +kernel) (by decide +kernel)
set_option maxRecDepth 20000 in
theorem gX5_reckonHoursLeft_X9_put_n50 : GoodIn wsX5_reckonHoursLeft (wsX9_put) := ggX5_reckonHoursLeft_X9_put
theorem dX5_reckonHoursLeft_0 : decode cX5_reckonHoursLeft 0 = .ok (.iconst 0, 1) := by decide +kernel
theorem dX5_reckonHoursLeft_1 : decode cX5_reckonHoursLeft 1 = .ok (.istore 4, 2) := by decide +kernel
theorem dX5_reckonHoursLeft_3 : decode cX5_reckonHoursLeft 3 = .ok (.iload 4, 2) := by decide +kernel
theorem dX5_reckonHoursLeft_5 : decode cX5_reckonHoursLeft 5 = .ok (.bipush 16, 2) := by decide +kernel
theorem dX5_reckonHoursLeft_7 : decode cX5_reckonHoursLeft 7 = .ok (.if_icmp .ge 56, 3) := by decide +kernel
theorem dX5_reckonHoursLeft_10 : decode cX5_reckonHoursLeft 10 = .ok (.iload_n 3, 1) := by decide +kernel
theorem dX5_reckonHoursLeft_11 : decode cX5_reckonHoursLeft 11 = .ok (.aload_n 1, 1) := by decide +kernel
theorem dX5_reckonHoursLeft_12 : decode cX5_reckonHoursLeft 12 = .ok (.iload 4, 2) := by decide +kernel
theorem dX5_reckonHoursLeft_14 : decode cX5_reckonHoursLeft 14 = .ok (.invokevirtual 79, 3) := by decide +kernel
theorem dX5_reckonHoursLeft_17 : decode cX5_reckonHoursLeft 17 = .ok (.isub, 1) := by decide +kernel
theorem dX5_reckonHoursLeft_18 : decode cX5_reckonHoursLeft 18 = .ok (.bipush 30, 2) := by decide +kernel
theorem dX5_reckonHoursLeft_20 : decode cX5_reckonHoursLeft 20 = .ok (.invokestatic 83, 3) := by decide +kernel
theorem dX5_reckonHoursLeft_23 : decode cX5_reckonHoursLeft 23 = .ok (.istore 5, 2) := by decide +kernel
theorem dX5_reckonHoursLeft_25 : decode cX5_reckonHoursLeft 25 = .ok (.aload_n 0, 1) := by decide +kernel
theorem dX5_reckonHoursLeft_26 : decode cX5_reckonHoursLeft 26 = .ok (.getfield 15, 3) := by decide +kernel
theorem dX5_reckonHoursLeft_29 : decode cX5_reckonHoursLeft 29 = .ok (.iload_n 2, 1) := by decide +kernel
theorem dX5_reckonHoursLeft_30 : decode cX5_reckonHoursLeft 30 = .ok (.bipush 16, 2) := by decide +kernel
theorem dX5_reckonHoursLeft_32 : decode cX5_reckonHoursLeft 32 = .ok (.imul, 1) := by decide +kernel
theorem dX5_reckonHoursLeft_33 : decode cX5_reckonHoursLeft 33 = .ok (.iload 4, 2) := by decide +kernel
theorem dX5_reckonHoursLeft_35 : decode cX5_reckonHoursLeft 35 = .ok (.iadd, 1) := by decide +kernel
theorem dX5_reckonHoursLeft_36 : decode cX5_reckonHoursLeft 36 = .ok (.aload_n 0, 1) := by decide +kernel
theorem dX5_reckonHoursLeft_37 : decode cX5_reckonHoursLeft 37 = .ok (.getfield 9, 3) := by decide +kernel
theorem dX5_reckonHoursLeft_40 : decode cX5_reckonHoursLeft 40 = .ok (.iload 4, 2) := by decide +kernel
theorem dX5_reckonHoursLeft_42 : decode cX5_reckonHoursLeft 42 = .ok (.invokestatic 46, 3) := by decide +kernel
theorem dX5_reckonHoursLeft_45 : decode cX5_reckonHoursLeft 45 = .ok (.ifCond .le 8, 3) := by decide +kernel
theorem dX5_reckonHoursLeft_48 : decode cX5_reckonHoursLeft 48 = .ok (.iload 5, 2) := by decide +kernel
theorem dX5_reckonHoursLeft_50 : decode cX5_reckonHoursLeft 50 = .ok (.goto 4, 3) := by decide +kernel
theorem dX5_reckonHoursLeft_53 : decode cX5_reckonHoursLeft 53 = .ok (.iconst 0, 1) := by decide +kernel
theorem dX5_reckonHoursLeft_54 : decode cX5_reckonHoursLeft 54 = .ok (.invokestatic 50, 3) := by decide +kernel
theorem dX5_reckonHoursLeft_57 : decode cX5_reckonHoursLeft 57 = .ok (.iinc 4 1, 3) := by decide +kernel
theorem dX5_reckonHoursLeft_60 : decode cX5_reckonHoursLeft 60 = .ok (.goto (-57), 3) := by decide +kernel
theorem dX5_reckonHoursLeft_63 : decode cX5_reckonHoursLeft 63 = .ok (.return_, 1) := by decide +kernel
set_option maxRecDepth 20000 in
theorem ggX5_comesIntoSet_J7_fill_53178 : GoodIn wsX5_comesIntoSet wsJ7_fill_53178 := goodIn_r _ [7] (by decide +kernel) (by decide +kernel)
set_option maxRecDepth 20000 in
theorem gX5_comesIntoSet_J7_fill_53178 : GoodIn wsX5_comesIntoSet (va_wsS RX5 57 yJ7_fill_53178 wsJ7_fill_53178) := goodIn_app (goodIn_of _ (by decide +kernel)) ggX5_comesIntoSet_J7_fill_53178
set_option maxRecDepth 20000 in
theorem ggX5_comesIntoSet_X5_ask : GoodIn wsX5_comesIntoSet wsX5_ask := goodIn_r _ [12, 13, 3, 2, 14, 15, 16, 38, 39, 40, 41, 42, 43, 44, 45] (by decide +kernel) (by decide +kernel)
set_option maxRecDepth 20000 in
theorem gX5_comesIntoSet_X5_ask : GoodIn wsX5_comesIntoSet (wsV RX5 89 RX5 yX5_ask wsX5_ask) := goodIn_app (goodIn_of _ (by decide +kernel)) ggX5_comesIntoSet_X5_ask
set_option maxRecDepth 20000 in
theorem ggX5_comesIntoSet_X9_at : GoodIn wsX5_comesIntoSet wsX9_at := goodIn_r _ [18] (by decide +kernel) (by decide +kernel)
set_option maxRecDepth 20000 in
theorem gX5_comesIntoSet_X9_at_n46 : GoodIn wsX5_comesIntoSet (wsX9_at) := ggX5_comesIntoSet_X9_at
set_option maxRecDepth 20000 in
theorem ggX5_comesIntoSet_X5_freeSlot : GoodIn wsX5_comesIntoSet wsX5_freeSlot := goodIn_r _ [22, 23, 1, 24, 17, 15, 18, 25, 26, 27, 11, 28, 29, 30, 31, 32, 33, 8, 9, 10, 12, 13, 3, 2, 14, 16, 38, 39, 40, 41, 42, 43, 44, 45] (by decide +kernel) (by decide +kernel)
set_option maxRecDepth 20000 in
theorem gX5_comesIntoSet_X5_freeSlot : GoodIn wsX5_comesIntoSet (wsV RX5 93 RX5 yX5_freeSlot wsX5_freeSlot) := goodIn_app (goodIn_of _ (by decide +kernel)) ggX5_comesIntoSet_X5_freeSlot
set_option maxRecDepth 20000 in
theorem ggX5_comesIntoSet_X5_moveOn : GoodIn wsX5_comesIntoSet wsX5_moveOn := goodIn_r _ [37, 29, 13, 17, 15, 18, 14, 16, 38, 39, 40, 41, 42, 43, 44, 45] (by decide +kernel) (by decide +kernel)
set_option maxRecDepth 20000 in
theorem gX5_comesIntoSet_X5_moveOn : GoodIn wsX5_comesIntoSet (wsV RX5 96 RX5 yX5_moveOn wsX5_moveOn) := goodIn_app (goodIn_of _ (by decide +kernel)) ggX5_comesIntoSet_X5_moveOn
theorem dX5_comesIntoSet_0 : decode cX5_comesIntoSet 0 = .ok (.aload_n 0, 1) := by decide +kernel
theorem dX5_comesIntoSet_1 : decode cX5_comesIntoSet 1 = .ok (.getfield 27, 3) := by decide +kernel
theorem dX5_comesIntoSet_4 : decode cX5_comesIntoSet 4 = .ok (.iconst 0, 1) := by decide +kernel
theorem dX5_comesIntoSet_5 : decode cX5_comesIntoSet 5 = .ok (.invokestatic 57, 3) := by decide +kernel
theorem dX5_comesIntoSet_8 : decode cX5_comesIntoSet 8 = .ok (.aload_n 0, 1) := by decide +kernel
theorem dX5_comesIntoSet_9 : decode cX5_comesIntoSet 9 = .ok (.iconst 0, 1) := by decide +kernel
theorem dX5_comesIntoSet_10 : decode cX5_comesIntoSet 10 = .ok (.putfield 30, 3) := by decide +kernel
theorem dX5_comesIntoSet_13 : decode cX5_comesIntoSet 13 = .ok (.aload_n 0, 1) := by decide +kernel
theorem dX5_comesIntoSet_14 : decode cX5_comesIntoSet 14 = .ok (.iload_n 1, 1) := by decide +kernel
theorem dX5_comesIntoSet_15 : decode cX5_comesIntoSet 15 = .ok (.iconst (-1), 1) := by decide +kernel
theorem dX5_comesIntoSet_16 : decode cX5_comesIntoSet 16 = .ok (.invokevirtual 89, 3) := by decide +kernel
theorem dX5_comesIntoSet_19 : decode cX5_comesIntoSet 19 = .ok (.iconst 0, 1) := by decide +kernel
theorem dX5_comesIntoSet_20 : decode cX5_comesIntoSet 20 = .ok (.istore_n 2, 1) := by decide +kernel
theorem dX5_comesIntoSet_21 : decode cX5_comesIntoSet 21 = .ok (.iload_n 2, 1) := by decide +kernel
theorem dX5_comesIntoSet_22 : decode cX5_comesIntoSet 22 = .ok (.aload_n 0, 1) := by decide +kernel
theorem dX5_comesIntoSet_23 : decode cX5_comesIntoSet 23 = .ok (.getfield 30, 3) := by decide +kernel
theorem dX5_comesIntoSet_26 : decode cX5_comesIntoSet 26 = .ok (.if_icmp .ge 48, 3) := by decide +kernel
theorem dX5_comesIntoSet_29 : decode cX5_comesIntoSet 29 = .ok (.iload_n 2, 1) := by decide +kernel
theorem dX5_comesIntoSet_30 : decode cX5_comesIntoSet 30 = .ok (.bipush 30, 2) := by decide +kernel
theorem dX5_comesIntoSet_32 : decode cX5_comesIntoSet 32 = .ok (.if_icmp .ge 42, 3) := by decide +kernel
theorem dX5_comesIntoSet_35 : decode cX5_comesIntoSet 35 = .ok (.aload_n 0, 1) := by decide +kernel
theorem dX5_comesIntoSet_36 : decode cX5_comesIntoSet 36 = .ok (.aload_n 0, 1) := by decide +kernel
theorem dX5_comesIntoSet_37 : decode cX5_comesIntoSet 37 = .ok (.getfield 24, 3) := by decide +kernel
theorem dX5_comesIntoSet_40 : decode cX5_comesIntoSet 40 = .ok (.iload_n 2, 1) := by decide +kernel
theorem dX5_comesIntoSet_41 : decode cX5_comesIntoSet 41 = .ok (.invokestatic 46, 3) := by decide +kernel
theorem dX5_comesIntoSet_44 : decode cX5_comesIntoSet 44 = .ok (.invokevirtual 93, 3) := by decide +kernel
theorem dX5_comesIntoSet_47 : decode cX5_comesIntoSet 47 = .ok (.istore_n 3, 1) := by decide +kernel
theorem dX5_comesIntoSet_48 : decode cX5_comesIntoSet 48 = .ok (.iload_n 3, 1) := by decide +kernel
theorem dX5_comesIntoSet_49 : decode cX5_comesIntoSet 49 = .ok (.iconst (-1), 1) := by decide +kernel
theorem dX5_comesIntoSet_50 : decode cX5_comesIntoSet 50 = .ok (.if_icmp .eq 18, 3) := by decide +kernel
theorem dX5_comesIntoSet_53 : decode cX5_comesIntoSet 53 = .ok (.aload_n 0, 1) := by decide +kernel
theorem dX5_comesIntoSet_54 : decode cX5_comesIntoSet 54 = .ok (.aload_n 0, 1) := by decide +kernel
theorem dX5_comesIntoSet_55 : decode cX5_comesIntoSet 55 = .ok (.getfield 24, 3) := by decide +kernel
theorem dX5_comesIntoSet_58 : decode cX5_comesIntoSet 58 = .ok (.iload_n 2, 1) := by decide +kernel
theorem dX5_comesIntoSet_59 : decode cX5_comesIntoSet 59 = .ok (.invokestatic 46, 3) := by decide +kernel
theorem dX5_comesIntoSet_62 : decode cX5_comesIntoSet 62 = .ok (.iload_n 3, 1) := by decide +kernel
theorem dX5_comesIntoSet_63 : decode cX5_comesIntoSet 63 = .ok (.invokevirtual 96, 3) := by decide +kernel
theorem dX5_comesIntoSet_66 : decode cX5_comesIntoSet 66 = .ok (.iconst 1, 1) := by decide +kernel
theorem dX5_comesIntoSet_67 : decode cX5_comesIntoSet 67 = .ok (.ireturn, 1) := by decide +kernel
theorem dX5_comesIntoSet_68 : decode cX5_comesIntoSet 68 = .ok (.iinc 2 1, 3) := by decide +kernel
theorem dX5_comesIntoSet_71 : decode cX5_comesIntoSet 71 = .ok (.goto (-50), 3) := by decide +kernel
theorem dX5_comesIntoSet_74 : decode cX5_comesIntoSet 74 = .ok (.iconst 0, 1) := by decide +kernel
theorem dX5_comesIntoSet_75 : decode cX5_comesIntoSet 75 = .ok (.ireturn, 1) := by decide +kernel
set_option maxRecDepth 20000 in
theorem ggX5_ask_X9_put : GoodIn wsX5_ask wsX9_put := goodIn_r _ [6] (by decide +kernel) (by decide +kernel)
set_option maxRecDepth 20000 in
theorem gX5_ask_X9_put_n50 : GoodIn wsX5_ask (wsX9_put) := ggX5_ask_X9_put
theorem dX5_ask_0 : decode cX5_ask 0 = .ok (.aload_n 0, 1) := by decide +kernel
theorem dX5_ask_1 : decode cX5_ask 1 = .ok (.getfield 21, 3) := by decide +kernel
theorem dX5_ask_4 : decode cX5_ask 4 = .ok (.iload_n 1, 1) := by decide +kernel
theorem dX5_ask_5 : decode cX5_ask 5 = .ok (.iload_n 2, 1) := by decide +kernel
theorem dX5_ask_6 : decode cX5_ask 6 = .ok (.invokestatic 50, 3) := by decide +kernel
theorem dX5_ask_9 : decode cX5_ask 9 = .ok (.aload_n 0, 1) := by decide +kernel
theorem dX5_ask_10 : decode cX5_ask 10 = .ok (.getfield 24, 3) := by decide +kernel
theorem dX5_ask_13 : decode cX5_ask 13 = .ok (.aload_n 0, 1) := by decide +kernel
theorem dX5_ask_14 : decode cX5_ask 14 = .ok (.getfield 30, 3) := by decide +kernel
theorem dX5_ask_17 : decode cX5_ask 17 = .ok (.iload_n 1, 1) := by decide +kernel
theorem dX5_ask_18 : decode cX5_ask 18 = .ok (.invokestatic 50, 3) := by decide +kernel
theorem dX5_ask_21 : decode cX5_ask 21 = .ok (.aload_n 0, 1) := by decide +kernel
theorem dX5_ask_22 : decode cX5_ask 22 = .ok (.dup, 1) := by decide +kernel
theorem dX5_ask_23 : decode cX5_ask 23 = .ok (.getfield 30, 3) := by decide +kernel
theorem dX5_ask_26 : decode cX5_ask 26 = .ok (.iconst 1, 1) := by decide +kernel
theorem dX5_ask_27 : decode cX5_ask 27 = .ok (.iadd, 1) := by decide +kernel
theorem dX5_ask_28 : decode cX5_ask 28 = .ok (.putfield 30, 3) := by decide +kernel
theorem dX5_ask_31 : decode cX5_ask 31 = .ok (.return_, 1) := by decide +kernel
set_option maxRecDepth 20000 in
theorem ggX5_freeSlot_X9_at : GoodIn wsX5_freeSlot wsX9_at := goodIn_r _ [6] (by decide +kernel) (by decide +kernel)
set_option maxRecDepth 20000 in
theorem gX5_freeSlot_X9_at_n46 : GoodIn wsX5_freeSlot (wsX9_at) := ggX5_freeSlot_X9_at
set_option maxRecDepth 20000 in
theorem ggX5_freeSlot_X5_manyIn : GoodIn wsX5_freeSlot wsX5_manyIn := goodIn_r _ [11, 12, 4, 5, 6, 26, 27, 28, 29, 30, 31, 32, 33] (by decide +kernel) (by decide +kernel)
set_option maxRecDepth 20000 in
theorem gX5_freeSlot_X5_manyIn : GoodIn wsX5_freeSlot (wsV RX5 99 RX5 yX5_manyIn wsX5_manyIn) := goodIn_app (goodIn_of _ (by decide +kernel)) ggX5_freeSlot_X5_manyIn
set_option maxRecDepth 20000 in
theorem ggX5_freeSlot_X5_askHolders : GoodIn wsX5_freeSlot wsX5_askHolders := goodIn_r _ [16, 12, 4, 5, 6, 17, 18, 19, 10, 20, 21, 22, 23, 24, 25, 26, 27, 28, 29, 30, 31, 32, 33] (by decide +kernel) (by decide +kernel)
set_option maxRecDepth 20000 in
theorem gX5_freeSlot_X5_askHolders : GoodIn wsX5_freeSlot (wsV RX5 102 RX5 yX5_askHolders wsX5_askHolders) := goodIn_app (goodIn_of _ (by decide +kernel)) ggX5_freeSlot_X5_askHolders
set_option maxRecDepth 20000 in
theorem ggX5_freeSlot_X9_put : GoodIn wsX5_freeSlot wsX9_put := goodIn_r _ [25] (by decide +kernel) (by decide +kernel)
set_option maxRecDepth 20000 in
theorem gX5_freeSlot_X9_put_n50 : GoodIn wsX5_freeSlot (wsX9_put) := ggX5_freeSlot_X9_put
theorem dX5_freeSlot_0 : decode cX5_freeSlot 0 = .ok (.iconst 0, 1) := by decide +kernel
theorem dX5_freeSlot_1 : decode cX5_freeSlot 1 = .ok (.istore_n 2, 1) := by decide +kernel
theorem dX5_freeSlot_2 : decode cX5_freeSlot 2 = .ok (.iload_n 2, 1) := by decide +kernel
theorem dX5_freeSlot_3 : decode cX5_freeSlot 3 = .ok (.bipush 16, 2) := by decide +kernel
theorem dX5_freeSlot_5 : decode cX5_freeSlot 5 = .ok (.if_icmp .ge 93, 3) := by decide +kernel
theorem dX5_freeSlot_8 : decode cX5_freeSlot 8 = .ok (.aload_n 0, 1) := by decide +kernel
theorem dX5_freeSlot_9 : decode cX5_freeSlot 9 = .ok (.getfield 15, 3) := by decide +kernel
theorem dX5_freeSlot_12 : decode cX5_freeSlot 12 = .ok (.iload_n 1, 1) := by decide +kernel
theorem dX5_freeSlot_13 : decode cX5_freeSlot 13 = .ok (.bipush 16, 2) := by decide +kernel
theorem dX5_freeSlot_15 : decode cX5_freeSlot 15 = .ok (.imul, 1) := by decide +kernel
theorem dX5_freeSlot_16 : decode cX5_freeSlot 16 = .ok (.iload_n 2, 1) := by decide +kernel
theorem dX5_freeSlot_17 : decode cX5_freeSlot 17 = .ok (.iadd, 1) := by decide +kernel
theorem dX5_freeSlot_18 : decode cX5_freeSlot 18 = .ok (.invokestatic 46, 3) := by decide +kernel
theorem dX5_freeSlot_21 : decode cX5_freeSlot 21 = .ok (.istore_n 3, 1) := by decide +kernel
theorem dX5_freeSlot_22 : decode cX5_freeSlot 22 = .ok (.aload_n 0, 1) := by decide +kernel
theorem dX5_freeSlot_23 : decode cX5_freeSlot 23 = .ok (.getfield 27, 3) := by decide +kernel
theorem dX5_freeSlot_26 : decode cX5_freeSlot 26 = .ok (.iload_n 2, 1) := by decide +kernel
theorem dX5_freeSlot_27 : decode cX5_freeSlot 27 = .ok (.invokestatic 46, 3) := by decide +kernel
theorem dX5_freeSlot_30 : decode cX5_freeSlot 30 = .ok (.istore 4, 2) := by decide +kernel
theorem dX5_freeSlot_32 : decode cX5_freeSlot 32 = .ok (.iload 4, 2) := by decide +kernel
theorem dX5_freeSlot_34 : decode cX5_freeSlot 34 = .ok (.iload_n 3, 1) := by decide +kernel
theorem dX5_freeSlot_35 : decode cX5_freeSlot 35 = .ok (.if_icmp .ge 57, 3) := by decide +kernel
theorem dX5_freeSlot_38 : decode cX5_freeSlot 38 = .ok (.iload_n 2, 1) := by decide +kernel
theorem dX5_freeSlot_39 : decode cX5_freeSlot 39 = .ok (.bipush 30, 2) := by decide +kernel
theorem dX5_freeSlot_41 : decode cX5_freeSlot 41 = .ok (.imul, 1) := by decide +kernel
theorem dX5_freeSlot_42 : decode cX5_freeSlot 42 = .ok (.iload 4, 2) := by decide +kernel
theorem dX5_freeSlot_44 : decode cX5_freeSlot 44 = .ok (.iadd, 1) := by decide +kernel
theorem dX5_freeSlot_45 : decode cX5_freeSlot 45 = .ok (.istore 5, 2) := by decide +kernel
theorem dX5_freeSlot_47 : decode cX5_freeSlot 47 = .ok (.aload_n 0, 1) := by decide +kernel
theorem dX5_freeSlot_48 : decode cX5_freeSlot 48 = .ok (.iload 5, 2) := by decide +kernel
theorem dX5_freeSlot_50 : decode cX5_freeSlot 50 = .ok (.invokevirtual 99, 3) := by decide +kernel
theorem dX5_freeSlot_53 : decode cX5_freeSlot 53 = .ok (.aload_n 0, 1) := by decide +kernel
theorem dX5_freeSlot_54 : decode cX5_freeSlot 54 = .ok (.getfield 9, 3) := by decide +kernel
theorem dX5_freeSlot_57 : decode cX5_freeSlot 57 = .ok (.iload_n 2, 1) := by decide +kernel
theorem dX5_freeSlot_58 : decode cX5_freeSlot 58 = .ok (.invokestatic 46, 3) := by decide +kernel
theorem dX5_freeSlot_61 : decode cX5_freeSlot 61 = .ok (.if_icmp .ge 6, 3) := by decide +kernel
theorem dX5_freeSlot_64 : decode cX5_freeSlot 64 = .ok (.iload 5, 2) := by decide +kernel
theorem dX5_freeSlot_66 : decode cX5_freeSlot 66 = .ok (.ireturn, 1) := by decide +kernel
theorem dX5_freeSlot_67 : decode cX5_freeSlot 67 = .ok (.aload_n 0, 1) := by decide +kernel
theorem dX5_freeSlot_68 : decode cX5_freeSlot 68 = .ok (.iload 5, 2) := by decide +kernel
theorem dX5_freeSlot_70 : decode cX5_freeSlot 70 = .ok (.iload_n 1, 1) := by decide +kernel
theorem dX5_freeSlot_71 : decode cX5_freeSlot 71 = .ok (.invokevirtual 102, 3) := by decide +kernel
theorem dX5_freeSlot_74 : decode cX5_freeSlot 74 = .ok (.aload_n 0, 1) := by decide +kernel
theorem dX5_freeSlot_75 : decode cX5_freeSlot 75 = .ok (.getfield 27, 3) := by decide +kernel
theorem dX5_freeSlot_78 : decode cX5_freeSlot 78 = .ok (.iload_n 2, 1) := by decide +kernel
theorem dX5_freeSlot_79 : decode cX5_freeSlot 79 = .ok (.iload 4, 2) := by decide +kernel
theorem dX5_freeSlot_81 : decode cX5_freeSlot 81 = .ok (.iconst 1, 1) := by decide +kernel
theorem dX5_freeSlot_82 : decode cX5_freeSlot 82 = .ok (.iadd, 1) := by decide +kernel
theorem dX5_freeSlot_83 : decode cX5_freeSlot 83 = .ok (.invokestatic 50, 3) := by decide +kernel
theorem dX5_freeSlot_86 : decode cX5_freeSlot 86 = .ok (.iinc 4 1, 3) := by decide +kernel
theorem dX5_freeSlot_89 : decode cX5_freeSlot 89 = .ok (.goto (-57), 3) := by decide +kernel
theorem dX5_freeSlot_92 : decode cX5_freeSlot 92 = .ok (.iinc 2 1, 3) := by decide +kernel
theorem dX5_freeSlot_95 : decode cX5_freeSlot 95 = .ok (.goto (-93), 3) := by decide +kernel
theorem dX5_freeSlot_98 : decode cX5_freeSlot 98 = .ok (.iconst (-1), 1) := by decide +kernel
theorem dX5_freeSlot_99 : decode cX5_freeSlot 99 = .ok (.ireturn, 1) := by decide +kernel
set_option maxRecDepth 20000 in
theorem ggX5_manyIn_X9_at : GoodIn wsX5_manyIn wsX9_at := goodIn_r _ [4] (by decide +kernel) (by decide +kernel)
set_option maxRecDepth 20000 in
theorem gX5_manyIn_X9_at_n46 : GoodIn wsX5_manyIn (wsX9_at) := ggX5_manyIn_X9_at
theorem dX5_manyIn_0 : decode cX5_manyIn 0 = .ok (.iconst 0, 1) := by decide +kernel
theorem dX5_manyIn_1 : decode cX5_manyIn 1 = .ok (.istore_n 2, 1) := by decide +kernel
theorem dX5_manyIn_2 : decode cX5_manyIn 2 = .ok (.iconst 0, 1) := by decide +kernel
theorem dX5_manyIn_3 : decode cX5_manyIn 3 = .ok (.istore_n 3, 1) := by decide +kernel
theorem dX5_manyIn_4 : decode cX5_manyIn 4 = .ok (.iload_n 3, 1) := by decide +kernel
theorem dX5_manyIn_5 : decode cX5_manyIn 5 = .ok (.bipush 30, 2) := by decide +kernel
theorem dX5_manyIn_7 : decode cX5_manyIn 7 = .ok (.if_icmp .ge 24, 3) := by decide +kernel
theorem dX5_manyIn_10 : decode cX5_manyIn 10 = .ok (.aload_n 0, 1) := by decide +kernel
theorem dX5_manyIn_11 : decode cX5_manyIn 11 = .ok (.getfield 18, 3) := by decide +kernel
theorem dX5_manyIn_14 : decode cX5_manyIn 14 = .ok (.iload_n 3, 1) := by decide +kernel
theorem dX5_manyIn_15 : decode cX5_manyIn 15 = .ok (.invokestatic 46, 3) := by decide +kernel
theorem dX5_manyIn_18 : decode cX5_manyIn 18 = .ok (.iload_n 1, 1) := by decide +kernel
theorem dX5_manyIn_19 : decode cX5_manyIn 19 = .ok (.if_icmp .ne 6, 3) := by decide +kernel
theorem dX5_manyIn_22 : decode cX5_manyIn 22 = .ok (.iinc 2 1, 3) := by decide +kernel
theorem dX5_manyIn_25 : decode cX5_manyIn 25 = .ok (.iinc 3 1, 3) := by decide +kernel
theorem dX5_manyIn_28 : decode cX5_manyIn 28 = .ok (.goto (-24), 3) := by decide +kernel
theorem dX5_manyIn_31 : decode cX5_manyIn 31 = .ok (.iload_n 2, 1) := by decide +kernel
theorem dX5_manyIn_32 : decode cX5_manyIn 32 = .ok (.ireturn, 1) := by decide +kernel
set_option maxRecDepth 20000 in
theorem ggX5_askHolders_X9_at : GoodIn wsX5_askHolders wsX9_at := goodIn_r _ [4] (by decide +kernel) (by decide +kernel)
set_option maxRecDepth 20000 in
theorem gX5_askHolders_X9_at_n46 : GoodIn wsX5_askHolders (wsX9_at) := ggX5_askHolders_X9_at
set_option maxRecDepth 20000 in
theorem ggX5_askHolders_X5_ask : GoodIn wsX5_askHolders wsX5_ask := goodIn_r _ [9, 10, 11, 12, 13, 3, 14, 15, 16, 17, 18, 19, 20, 21, 22] (by decide +kernel) (by decide +kernel)
set_option maxRecDepth 20000 in
theorem gX5_askHolders_X5_ask : GoodIn wsX5_askHolders (wsV RX5 89 RX5 yX5_ask wsX5_ask) := goodIn_app (goodIn_of _ (by decide +kernel)) ggX5_askHolders_X5_ask
theorem dX5_askHolders_0 : decode cX5_askHolders 0 = .ok (.iconst 0, 1) := by decide +kernel
theorem dX5_askHolders_1 : decode cX5_askHolders 1 = .ok (.istore_n 3, 1) := by decide +kernel
theorem dX5_askHolders_2 : decode cX5_askHolders 2 = .ok (.iload_n 3, 1) := by decide +kernel
theorem dX5_askHolders_3 : decode cX5_askHolders 3 = .ok (.bipush 30, 2) := by decide +kernel
theorem dX5_askHolders_5 : decode cX5_askHolders 5 = .ok (.if_icmp .ge 27, 3) := by decide +kernel
theorem dX5_askHolders_8 : decode cX5_askHolders 8 = .ok (.aload_n 0, 1) := by decide +kernel
theorem dX5_askHolders_9 : decode cX5_askHolders 9 = .ok (.getfield 18, 3) := by decide +kernel
theorem dX5_askHolders_12 : decode cX5_askHolders 12 = .ok (.iload_n 3, 1) := by decide +kernel
theorem dX5_askHolders_13 : decode cX5_askHolders 13 = .ok (.invokestatic 46, 3) := by decide +kernel
theorem dX5_askHolders_16 : decode cX5_askHolders 16 = .ok (.iload_n 1, 1) := by decide +kernel
theorem dX5_askHolders_17 : decode cX5_askHolders 17 = .ok (.if_icmp .ne 9, 3) := by decide +kernel
theorem dX5_askHolders_20 : decode cX5_askHolders 20 = .ok (.aload_n 0, 1) := by decide +kernel
theorem dX5_askHolders_21 : decode cX5_askHolders 21 = .ok (.iload_n 3, 1) := by decide +kernel
theorem dX5_askHolders_22 : decode cX5_askHolders 22 = .ok (.iload_n 2, 1) := by decide +kernel
theorem dX5_askHolders_23 : decode cX5_askHolders 23 = .ok (.invokevirtual 89, 3) := by decide +kernel
theorem dX5_askHolders_26 : decode cX5_askHolders 26 = .ok (.iinc 3 1, 3) := by decide +kernel
theorem dX5_askHolders_29 : decode cX5_askHolders 29 = .ok (.goto (-27), 3) := by decide +kernel
theorem dX5_askHolders_32 : decode cX5_askHolders 32 = .ok (.return_, 1) := by decide +kernel
set_option maxRecDepth 20000 in
theorem ggX5_moveOn_X9_at : GoodIn wsX5_moveOn wsX9_at := goodIn_r _ [5] (by decide +kernel) (by decide +kernel)
set_option maxRecDepth 20000 in
theorem gX5_moveOn_X9_at_n46 : GoodIn wsX5_moveOn (wsX9_at) := ggX5_moveOn_X9_at
set_option maxRecDepth 20000 in
theorem ggX5_moveOn_X9_put : GoodIn wsX5_moveOn wsX9_put := goodIn_r _ [7] (by decide +kernel) (by decide +kernel)
set_option maxRecDepth 20000 in
theorem gX5_moveOn_X9_put_n50 : GoodIn wsX5_moveOn (wsX9_put) := ggX5_moveOn_X9_put
theorem dX5_moveOn_0 : decode cX5_moveOn 0 = .ok (.iload_n 1, 1) := by decide +kernel
theorem dX5_moveOn_1 : decode cX5_moveOn 1 = .ok (.istore_n 3, 1) := by decide +kernel
theorem dX5_moveOn_2 : decode cX5_moveOn 2 = .ok (.iload_n 2, 1) := by decide +kernel
theorem dX5_moveOn_3 : decode cX5_moveOn 3 = .ok (.istore 4, 2) := by decide +kernel
theorem dX5_moveOn_5 : decode cX5_moveOn 5 = .ok (.iconst 0, 1) := by decide +kernel
theorem dX5_moveOn_6 : decode cX5_moveOn 6 = .ok (.istore 5, 2) := by decide +kernel
theorem dX5_moveOn_8 : decode cX5_moveOn 8 = .ok (.iload 5, 2) := by decide +kernel
theorem dX5_moveOn_10 : decode cX5_moveOn 10 = .ok (.bipush 30, 2) := by decide +kernel
theorem dX5_moveOn_12 : decode cX5_moveOn 12 = .ok (.if_icmp .ge 47, 3) := by decide +kernel
theorem dX5_moveOn_15 : decode cX5_moveOn 15 = .ok (.iload_n 3, 1) := by decide +kernel
theorem dX5_moveOn_16 : decode cX5_moveOn 16 = .ok (.iconst (-1), 1) := by decide +kernel
theorem dX5_moveOn_17 : decode cX5_moveOn 17 = .ok (.if_icmp .eq 42, 3) := by decide +kernel
theorem dX5_moveOn_20 : decode cX5_moveOn 20 = .ok (.aload_n 0, 1) := by decide +kernel
theorem dX5_moveOn_21 : decode cX5_moveOn 21 = .ok (.getfield 18, 3) := by decide +kernel
theorem dX5_moveOn_24 : decode cX5_moveOn 24 = .ok (.iload_n 3, 1) := by decide +kernel
theorem dX5_moveOn_25 : decode cX5_moveOn 25 = .ok (.invokestatic 46, 3) := by decide +kernel
theorem dX5_moveOn_28 : decode cX5_moveOn 28 = .ok (.istore 6, 2) := by decide +kernel
theorem dX5_moveOn_30 : decode cX5_moveOn 30 = .ok (.aload_n 0, 1) := by decide +kernel
theorem dX5_moveOn_31 : decode cX5_moveOn 31 = .ok (.getfield 18, 3) := by decide +kernel
theorem dX5_moveOn_34 : decode cX5_moveOn 34 = .ok (.iload_n 3, 1) := by decide +kernel
theorem dX5_moveOn_35 : decode cX5_moveOn 35 = .ok (.iload 4, 2) := by decide +kernel
theorem dX5_moveOn_37 : decode cX5_moveOn 37 = .ok (.invokestatic 50, 3) := by decide +kernel
theorem dX5_moveOn_40 : decode cX5_moveOn 40 = .ok (.iload 6, 2) := by decide +kernel
theorem dX5_moveOn_42 : decode cX5_moveOn 42 = .ok (.istore 4, 2) := by decide +kernel
theorem dX5_moveOn_44 : decode cX5_moveOn 44 = .ok (.aload_n 0, 1) := by decide +kernel
theorem dX5_moveOn_45 : decode cX5_moveOn 45 = .ok (.getfield 21, 3) := by decide +kernel
theorem dX5_moveOn_48 : decode cX5_moveOn 48 = .ok (.iload_n 3, 1) := by decide +kernel
theorem dX5_moveOn_49 : decode cX5_moveOn 49 = .ok (.invokestatic 46, 3) := by decide +kernel
theorem dX5_moveOn_52 : decode cX5_moveOn 52 = .ok (.istore_n 3, 1) := by decide +kernel
theorem dX5_moveOn_53 : decode cX5_moveOn 53 = .ok (.iinc 5 1, 3) := by decide +kernel
theorem dX5_moveOn_56 : decode cX5_moveOn 56 = .ok (.goto (-48), 3) := by decide +kernel
theorem dX5_moveOn_59 : decode cX5_moveOn 59 = .ok (.return_, 1) := by decide +kernel
theorem dX6_init_0 : decode cX6_init 0 = .ok (.aload_n 0, 1) := by decide +kernel
theorem dX6_init_1 : decode cX6_init 1 = .ok (.invokespecial 3, 3) := by decide +kernel
theorem dX6_init_4 : decode cX6_init 4 = .ok (.aload_n 0, 1) := by decide +kernel
theorem dX6_init_5 : decode cX6_init 5 = .ok (.sipush 400, 3) := by decide +kernel
theorem dX6_init_8 : decode cX6_init 8 = .ok (.newarray .int, 2) := by decide +kernel
theorem dX6_init_10 : decode cX6_init 10 = .ok (.putfield 11, 3) := by decide +kernel
theorem dX6_init_13 : decode cX6_init 13 = .ok (.aload_n 0, 1) := by decide +kernel
theorem dX6_init_14 : decode cX6_init 14 = .ok (.iconst 0, 1) := by decide +kernel
theorem dX6_init_15 : decode cX6_init 15 = .ok (.putfield 15, 3) := by decide +kernel
theorem dX6_init_18 : decode cX6_init 18 = .ok (.aload_n 0, 1) := by decide +kernel
theorem dX6_init_19 : decode cX6_init 19 = .ok (.iconst 0, 1) := by decide +kernel
theorem dX6_init_20 : decode cX6_init 20 = .ok (.putfield 19, 3) := by decide +kernel
theorem dX6_init_23 : decode cX6_init 23 = .ok (.aload_n 0, 1) := by decide +kernel
theorem dX6_init_24 : decode cX6_init 24 = .ok (.iconst 0, 1) := by decide +kernel
theorem dX6_init_25 : decode cX6_init 25 = .ok (.putfield 22, 3) := by decide +kernel
theorem dX6_init_28 : decode cX6_init 28 = .ok (.return_, 1) := by decide +kernel
theorem dX6_hasRoomFor_0 : decode cX6_hasRoomFor 0 = .ok (.aload_n 0, 1) := by decide +kernel
theorem dX6_hasRoomFor_1 : decode cX6_hasRoomFor 1 = .ok (.getfield 15, 3) := by decide +kernel
theorem dX6_hasRoomFor_4 : decode cX6_hasRoomFor 4 = .ok (.iload_n 1, 1) := by decide +kernel
theorem dX6_hasRoomFor_5 : decode cX6_hasRoomFor 5 = .ok (.iadd, 1) := by decide +kernel
theorem dX6_hasRoomFor_6 : decode cX6_hasRoomFor 6 = .ok (.sipush 400, 3) := by decide +kernel
theorem dX6_hasRoomFor_9 : decode cX6_hasRoomFor 9 = .ok (.if_icmp .gt 7, 3) := by decide +kernel
theorem dX6_hasRoomFor_12 : decode cX6_hasRoomFor 12 = .ok (.iconst 1, 1) := by decide +kernel
theorem dX6_hasRoomFor_13 : decode cX6_hasRoomFor 13 = .ok (.goto 4, 3) := by decide +kernel
theorem dX6_hasRoomFor_16 : decode cX6_hasRoomFor 16 = .ok (.iconst 0, 1) := by decide +kernel
theorem dX6_hasRoomFor_17 : decode cX6_hasRoomFor 17 = .ok (.ireturn, 1) := by decide +kernel
set_option maxRecDepth 20000 in
theorem ggX6_append_X9_put : GoodIn wsX6_append wsX9_put := goodIn_r _ [5] (by decide +kernel) (by decide +kernel)
set_option maxRecDepth 20000 in
theorem gX6_append_X9_put_n25 : GoodIn wsX6_append (wsX9_put) := ggX6_append_X9_put
theorem dX6_append_0 : decode cX6_append 0 = .ok (.bipush 24, 2) := by decide +kernel
theorem dX6_append_2 : decode cX6_append 2 = .ok (.istore_n 2, 1) := by decide +kernel
theorem dX6_append_3 : decode cX6_append 3 = .ok (.iload_n 2, 1) := by decide +kernel
theorem dX6_append_4 : decode cX6_append 4 = .ok (.ifCond .lt 37, 3) := by decide +kernel
theorem dX6_append_7 : decode cX6_append 7 = .ok (.aload_n 0, 1) := by decide +kernel
theorem dX6_append_8 : decode cX6_append 8 = .ok (.getfield 11, 3) := by decide +kernel
theorem dX6_append_11 : decode cX6_append 11 = .ok (.aload_n 0, 1) := by decide +kernel
theorem dX6_append_12 : decode cX6_append 12 = .ok (.getfield 15, 3) := by decide +kernel
theorem dX6_append_15 : decode cX6_append 15 = .ok (.iload_n 1, 1) := by decide +kernel
theorem dX6_append_16 : decode cX6_append 16 = .ok (.iload_n 2, 1) := by decide +kernel
theorem dX6_append_17 : decode cX6_append 17 = .ok (.iushr, 1) := by decide +kernel
theorem dX6_append_18 : decode cX6_append 18 = .ok (.sipush 255, 3) := by decide +kernel
theorem dX6_append_21 : decode cX6_append 21 = .ok (.iand, 1) := by decide +kernel
theorem dX6_append_22 : decode cX6_append 22 = .ok (.invokestatic 25, 3) := by decide +kernel
theorem dX6_append_25 : decode cX6_append 25 = .ok (.aload_n 0, 1) := by decide +kernel
theorem dX6_append_26 : decode cX6_append 26 = .ok (.dup, 1) := by decide +kernel
theorem dX6_append_27 : decode cX6_append 27 = .ok (.getfield 15, 3) := by decide +kernel
theorem dX6_append_30 : decode cX6_append 30 = .ok (.iconst 1, 1) := by decide +kernel
theorem dX6_append_31 : decode cX6_append 31 = .ok (.iadd, 1) := by decide +kernel
theorem dX6_append_32 : decode cX6_append 32 = .ok (.putfield 15, 3) := by decide +kernel
theorem dX6_append_35 : decode cX6_append 35 = .ok (.iinc 2 (-8), 3) := by decide +kernel
theorem dX6_append_38 : decode cX6_append 38 = .ok (.goto (-35), 3) := by decide +kernel
theorem dX6_append_41 : decode cX6_append 41 = .ok (.return_, 1) := by decide +kernel
theorem dX6_cut_0 : decode cX6_cut 0 = .ok (.iload_n 1, 1) := by decide +kernel
theorem dX6_cut_1 : decode cX6_cut 1 = .ok (.ifCond .lt 11, 3) := by decide +kernel
theorem dX6_cut_4 : decode cX6_cut 4 = .ok (.iload_n 1, 1) := by decide +kernel
theorem dX6_cut_5 : decode cX6_cut 5 = .ok (.aload_n 0, 1) := by decide +kernel
theorem dX6_cut_6 : decode cX6_cut 6 = .ok (.getfield 15, 3) := by decide +kernel
theorem dX6_cut_9 : decode cX6_cut 9 = .ok (.if_icmp .le 5, 3) := by decide +kernel
theorem dX6_cut_12 : decode cX6_cut 12 = .ok (.iconst 0, 1) := by decide +kernel
theorem dX6_cut_13 : decode cX6_cut 13 = .ok (.ireturn, 1) := by decide +kernel
theorem dX6_cut_14 : decode cX6_cut 14 = .ok (.aload_n 0, 1) := by decide +kernel
theorem dX6_cut_15 : decode cX6_cut 15 = .ok (.iload_n 1, 1) := by decide +kernel
theorem dX6_cut_16 : decode cX6_cut 16 = .ok (.putfield 15, 3) := by decide +kernel
theorem dX6_cut_19 : decode cX6_cut 19 = .ok (.iconst 1, 1) := by decide +kernel
theorem dX6_cut_20 : decode cX6_cut 20 = .ok (.ireturn, 1) := by decide +kernel
set_option maxRecDepth 20000 in
theorem ggX6_rewind_X6_next : GoodIn wsX6_rewind wsX6_next := goodIn_r _ [6, 1, 7, 8, 9, 10, 11, 12, 13, 14, 15, 16, 17, 18, 5, 19, 20, 21, 22, 23] (by decide +kernel) (by decide +kernel)
set_option maxRecDepth 20000 in
theorem gX6_rewind_X6_next : GoodIn wsX6_rewind (wsV RX6 29 RX6 yX6_next wsX6_next) := goodIn_app (goodIn_of _ (by decide +kernel)) ggX6_rewind_X6_next
theorem dX6_rewind_0 : decode cX6_rewind 0 = .ok (.aload_n 0, 1) := by decide +kernel
theorem dX6_rewind_1 : decode cX6_rewind 1 = .ok (.iconst 0, 1) := by decide +kernel
theorem dX6_rewind_2 : decode cX6_rewind 2 = .ok (.putfield 22, 3) := by decide +kernel
theorem dX6_rewind_5 : decode cX6_rewind 5 = .ok (.aload_n 0, 1) := by decide +kernel
theorem dX6_rewind_6 : decode cX6_rewind 6 = .ok (.invokevirtual 29, 3) := by decide +kernel
theorem dX6_rewind_9 : decode cX6_rewind 9 = .ok (.return_, 1) := by decide +kernel
set_option maxRecDepth 20000 in
theorem ggX6_next_X9_at : GoodIn wsX6_next wsX9_at := goodIn_r _ [11] (by decide +kernel) (by decide +kernel)
set_option maxRecDepth 20000 in
theorem gX6_next_X9_at_n32 : GoodIn wsX6_next (wsX9_at) := ggX6_next_X9_at
set_option maxRecDepth 20000 in
theorem ggX6_next_X6_sortOf : GoodIn wsX6_next wsX6_sortOf := goodIn_r _ [15] (by decide +kernel) (by decide +kernel)
set_option maxRecDepth 20000 in
theorem gX6_next_X6_sortOf : GoodIn wsX6_next (va_wsS RX6 36 yX6_sortOf wsX6_sortOf) := goodIn_app (goodIn_of _ (by decide +kernel)) ggX6_next_X6_sortOf
theorem dX6_next_0 : decode cX6_next 0 = .ok (.aload_n 0, 1) := by decide +kernel
theorem dX6_next_1 : decode cX6_next 1 = .ok (.aload_n 0, 1) := by decide +kernel
theorem dX6_next_2 : decode cX6_next 2 = .ok (.getfield 22, 3) := by decide +kernel
theorem dX6_next_5 : decode cX6_next 5 = .ok (.putfield 19, 3) := by decide +kernel
theorem dX6_next_8 : decode cX6_next 8 = .ok (.aload_n 0, 1) := by decide +kernel
theorem dX6_next_9 : decode cX6_next 9 = .ok (.getfield 19, 3) := by decide +kernel
theorem dX6_next_12 : decode cX6_next 12 = .ok (.aload_n 0, 1) := by decide +kernel
theorem dX6_next_13 : decode cX6_next 13 = .ok (.getfield 15, 3) := by decide +kernel
theorem dX6_next_16 : decode cX6_next 16 = .ok (.if_icmp .ge 33, 3) := by decide +kernel
theorem dX6_next_19 : decode cX6_next 19 = .ok (.aload_n 0, 1) := by decide +kernel
theorem dX6_next_20 : decode cX6_next 20 = .ok (.getfield 11, 3) := by decide +kernel
theorem dX6_next_23 : decode cX6_next 23 = .ok (.aload_n 0, 1) := by decide +kernel
theorem dX6_next_24 : decode cX6_next 24 = .ok (.getfield 19, 3) := by decide +kernel
theorem dX6_next_27 : decode cX6_next 27 = .ok (.invokestatic 32, 3) := by decide +kernel
theorem dX6_next_30 : decode cX6_next 30 = .ok (.invokestatic 36, 3) := by decide +kernel
theorem dX6_next_33 : decode cX6_next 33 = .ok (.ifCond .ne 16, 3) := by decide +kernel
theorem dX6_next_36 : decode cX6_next 36 = .ok (.aload_n 0, 1) := by decide +kernel
theorem dX6_next_37 : decode cX6_next 37 = .ok (.dup, 1) := by decide +kernel
theorem dX6_next_38 : decode cX6_next 38 = .ok (.getfield 19, 3) := by decide +kernel
theorem dX6_next_41 : decode cX6_next 41 = .ok (.iconst 1, 1) := by decide +kernel
theorem dX6_next_42 : decode cX6_next 42 = .ok (.iadd, 1) := by decide +kernel
theorem dX6_next_43 : decode cX6_next 43 = .ok (.putfield 19, 3) := by decide +kernel
theorem dX6_next_46 : decode cX6_next 46 = .ok (.goto (-38), 3) := by decide +kernel
theorem dX6_next_49 : decode cX6_next 49 = .ok (.aload_n 0, 1) := by decide +kernel
theorem dX6_next_50 : decode cX6_next 50 = .ok (.aload_n 0, 1) := by decide +kernel
theorem dX6_next_51 : decode cX6_next 51 = .ok (.getfield 19, 3) := by decide +kernel
theorem dX6_next_54 : decode cX6_next 54 = .ok (.iconst 1, 1) := by decide +kernel
theorem dX6_next_55 : decode cX6_next 55 = .ok (.iadd, 1) := by decide +kernel
theorem dX6_next_56 : decode cX6_next 56 = .ok (.aload_n 0, 1) := by decide +kernel
theorem dX6_next_57 : decode cX6_next 57 = .ok (.getfield 15, 3) := by decide +kernel
theorem dX6_next_60 : decode cX6_next 60 = .ok (.invokestatic 40, 3) := by decide +kernel
theorem dX6_next_63 : decode cX6_next 63 = .ok (.putfield 22, 3) := by decide +kernel
theorem dX6_next_66 : decode cX6_next 66 = .ok (.aload_n 0, 1) := by decide +kernel
theorem dX6_next_67 : decode cX6_next 67 = .ok (.getfield 11, 3) := by decide +kernel
theorem dX6_next_70 : decode cX6_next 70 = .ok (.aload_n 0, 1) := by decide +kernel
theorem dX6_next_71 : decode cX6_next 71 = .ok (.getfield 19, 3) := by decide +kernel
theorem dX6_next_74 : decode cX6_next 74 = .ok (.invokestatic 32, 3) := by decide +kernel
theorem dX6_next_77 : decode cX6_next 77 = .ok (.invokestatic 36, 3) := by decide +kernel
theorem dX6_next_80 : decode cX6_next 80 = .ok (.istore_n 1, 1) := by decide +kernel
theorem dX6_next_81 : decode cX6_next 81 = .ok (.iload_n 1, 1) := by decide +kernel
theorem dX6_next_82 : decode cX6_next 82 = .ok (.iconst 3, 1) := by decide +kernel
theorem dX6_next_83 : decode cX6_next 83 = .ok (.if_icmp .eq 45, 3) := by decide +kernel
theorem dX6_next_86 : decode cX6_next 86 = .ok (.aload_n 0, 1) := by decide +kernel
theorem dX6_next_87 : decode cX6_next 87 = .ok (.getfield 22, 3) := by decide +kernel
theorem dX6_next_90 : decode cX6_next 90 = .ok (.aload_n 0, 1) := by decide +kernel
theorem dX6_next_91 : decode cX6_next 91 = .ok (.getfield 15, 3) := by decide +kernel
theorem dX6_next_94 : decode cX6_next 94 = .ok (.if_icmp .ge 34, 3) := by decide +kernel
theorem dX6_next_97 : decode cX6_next 97 = .ok (.aload_n 0, 1) := by decide +kernel
theorem dX6_next_98 : decode cX6_next 98 = .ok (.getfield 11, 3) := by decide +kernel
theorem dX6_next_101 : decode cX6_next 101 = .ok (.aload_n 0, 1) := by decide +kernel
theorem dX6_next_102 : decode cX6_next 102 = .ok (.getfield 22, 3) := by decide +kernel
theorem dX6_next_105 : decode cX6_next 105 = .ok (.invokestatic 32, 3) := by decide +kernel
theorem dX6_next_108 : decode cX6_next 108 = .ok (.invokestatic 36, 3) := by decide +kernel
theorem dX6_next_111 : decode cX6_next 111 = .ok (.iload_n 1, 1) := by decide +kernel
theorem dX6_next_112 : decode cX6_next 112 = .ok (.if_icmp .ne 16, 3) := by decide +kernel
theorem dX6_next_115 : decode cX6_next 115 = .ok (.aload_n 0, 1) := by decide +kernel
theorem dX6_next_116 : decode cX6_next 116 = .ok (.dup, 1) := by decide +kernel
theorem dX6_next_117 : decode cX6_next 117 = .ok (.getfield 22, 3) := by decide +kernel
theorem dX6_next_120 : decode cX6_next 120 = .ok (.iconst 1, 1) := by decide +kernel
theorem dX6_next_121 : decode cX6_next 121 = .ok (.iadd, 1) := by decide +kernel
theorem dX6_next_122 : decode cX6_next 122 = .ok (.putfield 22, 3) := by decide +kernel
theorem dX6_next_125 : decode cX6_next 125 = .ok (.goto (-44), 3) := by decide +kernel
theorem dX6_next_128 : decode cX6_next 128 = .ok (.return_, 1) := by decide +kernel
theorem dX6_isAtEnd_0 : decode cX6_isAtEnd 0 = .ok (.aload_n 0, 1) := by decide +kernel
theorem dX6_isAtEnd_1 : decode cX6_isAtEnd 1 = .ok (.getfield 19, 3) := by decide +kernel
theorem dX6_isAtEnd_4 : decode cX6_isAtEnd 4 = .ok (.aload_n 0, 1) := by decide +kernel
theorem dX6_isAtEnd_5 : decode cX6_isAtEnd 5 = .ok (.getfield 15, 3) := by decide +kernel
theorem dX6_isAtEnd_8 : decode cX6_isAtEnd 8 = .ok (.if_icmp .lt 7, 3) := by decide +kernel
theorem dX6_isAtEnd_11 : decode cX6_isAtEnd 11 = .ok (.iconst 1, 1) := by decide +kernel
theorem dX6_isAtEnd_12 : decode cX6_isAtEnd 12 = .ok (.goto 4, 3) := by decide +kernel
theorem dX6_isAtEnd_15 : decode cX6_isAtEnd 15 = .ok (.iconst 0, 1) := by decide +kernel
theorem dX6_isAtEnd_16 : decode cX6_isAtEnd 16 = .ok (.ireturn, 1) := by decide +kernel
set_option maxRecDepth 20000 in
theorem ggX6_isAtWord_J0_length_8abf5 : GoodIn wsX6_isAtWord wsJ0_length_8abf5 := goodIn_r _ [8, 9, 10, 11, 12, 7, 13, 14, 15] (by decide +kernel) (by decide +kernel)
set_option maxRecDepth 20000 in
theorem gX6_isAtWord_J0_length_8abf5 : GoodIn wsX6_isAtWord (wsV RX6 46 RJ0 yJ0_length_8abf5 wsJ0_length_8abf5) := goodIn_app (goodIn_of _ (by decide +kernel)) ggX6_isAtWord_J0_length_8abf5
set_option maxRecDepth 20000 in
theorem ggX6_isAtWord_X9_at : GoodIn wsX6_isAtWord wsX9_at := goodIn_r _ [18] (by decide +kernel) (by decide +kernel)
set_option maxRecDepth 20000 in
theorem gX6_isAtWord_X9_at_n32 : GoodIn wsX6_isAtWord (wsX9_at) := ggX6_isAtWord_X9_at
set_option maxRecDepth 20000 in
theorem ggX6_isAtWord_J0_charAt_5068e : GoodIn wsX6_isAtWord wsJ0_charAt_5068e := goodIn_r _ [22, 9, 23, 24, 25, 7, 26, 14, 15, 27, 28, 29, 30, 31, 32, 33, 34, 35, 36, 37, 38, 39, 40, 41, 42, 43, 44, 45, 46, 47, 48, 49, 50, 51, 52, 53, 54, 55] (by decide +kernel) (by decide +kernel)
set_option maxRecDepth 20000 in
theorem gX6_isAtWord_J0_charAt_5068e : GoodIn wsX6_isAtWord (wsV RX6 51 RJ0 yJ0_charAt_5068e wsJ0_charAt_5068e) := goodIn_app (goodIn_of _ (by decide +kernel)) ggX6_isAtWord_J0_charAt_5068e
theorem dX6_isAtWord_0 : decode cX6_isAtWord 0 = .ok (.aload_n 0, 1) := by decide +kernel
theorem dX6_isAtWord_1 : decode cX6_isAtWord 1 = .ok (.getfield 22, 3) := by decide +kernel
theorem dX6_isAtWord_4 : decode cX6_isAtWord 4 = .ok (.aload_n 0, 1) := by decide +kernel
theorem dX6_isAtWord_5 : decode cX6_isAtWord 5 = .ok (.getfield 19, 3) := by decide +kernel
theorem dX6_isAtWord_8 : decode cX6_isAtWord 8 = .ok (.isub, 1) := by decide +kernel
theorem dX6_isAtWord_9 : decode cX6_isAtWord 9 = .ok (.istore_n 2, 1) := by decide +kernel
theorem dX6_isAtWord_10 : decode cX6_isAtWord 10 = .ok (.iload_n 2, 1) := by decide +kernel
theorem dX6_isAtWord_11 : decode cX6_isAtWord 11 = .ok (.aload_n 1, 1) := by decide +kernel
theorem dX6_isAtWord_12 : decode cX6_isAtWord 12 = .ok (.invokevirtual 46, 3) := by decide +kernel
theorem dX6_isAtWord_15 : decode cX6_isAtWord 15 = .ok (.if_icmp .eq 5, 3) := by decide +kernel
theorem dX6_isAtWord_18 : decode cX6_isAtWord 18 = .ok (.iconst 0, 1) := by decide +kernel
theorem dX6_isAtWord_19 : decode cX6_isAtWord 19 = .ok (.ireturn, 1) := by decide +kernel
theorem dX6_isAtWord_20 : decode cX6_isAtWord 20 = .ok (.iconst 0, 1) := by decide +kernel
theorem dX6_isAtWord_21 : decode cX6_isAtWord 21 = .ok (.istore_n 3, 1) := by decide +kernel
theorem dX6_isAtWord_22 : decode cX6_isAtWord 22 = .ok (.iload_n 3, 1) := by decide +kernel
theorem dX6_isAtWord_23 : decode cX6_isAtWord 23 = .ok (.iload_n 2, 1) := by decide +kernel
theorem dX6_isAtWord_24 : decode cX6_isAtWord 24 = .ok (.if_icmp .ge 40, 3) := by decide +kernel
theorem dX6_isAtWord_27 : decode cX6_isAtWord 27 = .ok (.iload_n 3, 1) := by decide +kernel
theorem dX6_isAtWord_28 : decode cX6_isAtWord 28 = .ok (.aload_n 1, 1) := by decide +kernel
theorem dX6_isAtWord_29 : decode cX6_isAtWord 29 = .ok (.invokevirtual 46, 3) := by decide +kernel
theorem dX6_isAtWord_32 : decode cX6_isAtWord 32 = .ok (.if_icmp .ge 32, 3) := by decide +kernel
theorem dX6_isAtWord_35 : decode cX6_isAtWord 35 = .ok (.aload_n 0, 1) := by decide +kernel
theorem dX6_isAtWord_36 : decode cX6_isAtWord 36 = .ok (.getfield 11, 3) := by decide +kernel
theorem dX6_isAtWord_39 : decode cX6_isAtWord 39 = .ok (.aload_n 0, 1) := by decide +kernel
theorem dX6_isAtWord_40 : decode cX6_isAtWord 40 = .ok (.getfield 19, 3) := by decide +kernel
theorem dX6_isAtWord_43 : decode cX6_isAtWord 43 = .ok (.iload_n 3, 1) := by decide +kernel
theorem dX6_isAtWord_44 : decode cX6_isAtWord 44 = .ok (.iadd, 1) := by decide +kernel
theorem dX6_isAtWord_45 : decode cX6_isAtWord 45 = .ok (.invokestatic 32, 3) := by decide +kernel
theorem dX6_isAtWord_48 : decode cX6_isAtWord 48 = .ok (.aload_n 1, 1) := by decide +kernel
theorem dX6_isAtWord_49 : decode cX6_isAtWord 49 = .ok (.iload_n 3, 1) := by decide +kernel
theorem dX6_isAtWord_50 : decode cX6_isAtWord 50 = .ok (.invokevirtual 51, 3) := by decide +kernel
theorem dX6_isAtWord_53 : decode cX6_isAtWord 53 = .ok (.if_icmp .eq 5, 3) := by decide +kernel
theorem dX6_isAtWord_56 : decode cX6_isAtWord 56 = .ok (.iconst 0, 1) := by decide +kernel
theorem dX6_isAtWord_57 : decode cX6_isAtWord 57 = .ok (.ireturn, 1) := by decide +kernel
theorem dX6_isAtWord_58 : decode cX6_isAtWord 58 = .ok (.iinc 3 1, 3) := by decide +kernel
theorem dX6_isAtWord_61 : decode cX6_isAtWord 61 = .ok (.goto (-39), 3) := by decide +kernel
theorem dX6_isAtWord_64 : decode cX6_isAtWord 64 = .ok (.iconst 1, 1) := by decide +kernel
theorem dX6_isAtWord_65 : decode cX6_isAtWord 65 = .ok (.ireturn, 1) := by decide +kernel
set_option maxRecDepth 20000 in
theorem ggX6_take_X6_isAtWord : GoodIn wsX6_take wsX6_isAtWord := goodIn_r _ [5, 6, 7, 8, 9, 10, 11, 12, 13, 14, 15, 16, 17, 18, 19, 20, 21, 22, 23, 24, 25, 26, 27, 28, 29, 30, 31, 32, 33, 34, 35, 36, 37, 38, 39, 40, 41, 42, 43, 44, 45, 46, 47, 48, 49, 50, 51, 52, 53, 54, 55, 56, 57, 58, 59, 60, 73, 74, 75, 76] (by decide +kernel) (by decide +kernel)
set_option maxRecDepth 20000 in
theorem gX6_take_X6_isAtWord : GoodIn wsX6_take (wsV RX6 55 RX6 yX6_isAtWord wsX6_isAtWord) := goodIn_app (goodIn_of _ (by decide +kernel)) ggX6_take_X6_isAtWord
set_option maxRecDepth 20000 in
theorem ggX6_take_X6_next : GoodIn wsX6_take wsX6_next := goodIn_r _ [64, 6, 7, 65, 8, 66, 67, 68, 69, 21, 22, 23, 70, 71, 4, 72, 73, 74, 75, 76] (by decide +kernel) (by decide +kernel)
set_option maxRecDepth 20000 in
theorem gX6_take_X6_next : GoodIn wsX6_take (wsV RX6 29 RX6 yX6_next wsX6_next) := goodIn_app (goodIn_of _ (by decide +kernel)) ggX6_take_X6_next
