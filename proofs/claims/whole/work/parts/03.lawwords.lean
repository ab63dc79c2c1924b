set_option maxRecDepth 20000 in
theorem wsL_in_1 : GoodIn lw_tbl wsL_law_r1 := goodIn_p wsL_law_r1 [69, 72] rfl (by decide +kernel)
set_option maxRecDepth 20000 in
theorem wsL_in_2 : GoodIn lw_tbl wsL_law_r2 := goodIn_p wsL_law_r2 [77] rfl (by decide +kernel)
set_option maxRecDepth 20000 in
theorem wsL_in_3 : GoodIn lw_tbl wsL_law_r3 := goodIn_p wsL_law_r3 [83, 119] rfl (by decide +kernel)
set_option maxRecDepth 20000 in
theorem wsL_in_4 : GoodIn lw_tbl wsL_law_r4 := goodIn_p wsL_law_r4 [124, 169, 190] rfl (by decide +kernel)
set_option maxRecDepth 20000 in
theorem wsL_in_5 : GoodIn lw_tbl wsL_law_r5 := goodIn_p wsL_law_r5 [209, 238, 259] rfl (by decide +kernel)
set_option maxRecDepth 20000 in
theorem wsL_in_6 : GoodIn lw_tbl wsL_law_r6 := goodIn_p wsL_law_r6 [290, 876] rfl (by decide +kernel)
set_option maxRecDepth 20000 in
theorem wsL_in_7 : GoodIn lw_tbl wsL_law_r7 := goodIn_p wsL_law_r7 [] rfl (by decide +kernel)
set_option maxRecDepth 20000 in
theorem wsL_in_8 : GoodIn lw_tbl wsL_law_r8 := goodIn_p wsL_law_r8 [350, 354, 357, 360] rfl (by decide +kernel)
set_option maxRecDepth 20000 in
theorem wsL_in_9 : GoodIn lw_tbl wsL_law_r9 := goodIn_p wsL_law_r9 [364, 368, 371, 1036, 1039, 1043] rfl (by decide +kernel)
set_option maxRecDepth 20000 in
theorem wsL_in_10 : GoodIn lw_tbl wsL_law_r10 := goodIn_p wsL_law_r10 [1049, 375, 379, 383, 387, 390] rfl (by decide +kernel)
set_option maxRecDepth 20000 in
theorem wsL_in_11 : GoodIn lw_tbl wsL_law_r11 := goodIn_p wsL_law_r11 [395, 1053, 400, 1058, 404] rfl (by decide +kernel)
set_option maxRecDepth 20000 in
theorem wsL_in_12 : GoodIn lw_tbl wsL_law_r12 := goodIn_p wsL_law_r12 [408, 1063, 413, 417, 421, 1067] rfl (by decide +kernel)
set_option maxRecDepth 20000 in
theorem wsL_in_13 : GoodIn lw_tbl wsL_law_r13 := goodIn_p wsL_law_r13 [1071, 426, 430, 1075, 434, 438] rfl (by decide +kernel)
set_option maxRecDepth 20000 in
theorem wsL_in_14 : GoodIn lw_tbl wsL_law_r14 := goodIn_p wsL_law_r14 [442, 446, 450, 454, 459, 463] rfl (by decide +kernel)
set_option maxRecDepth 20000 in
theorem wsL_in_15 : GoodIn lw_tbl wsL_law_r15 := goodIn_p wsL_law_r15 [468, 472, 476, 480, 486] rfl (by decide +kernel)
set_option maxRecDepth 20000 in
theorem wsL_in_16 : GoodIn lw_tbl wsL_law_r16 := goodIn_p wsL_law_r16 [490, 493, 496, 501, 504, 507, 510] rfl (by decide +kernel)
set_option maxRecDepth 20000 in
theorem wsL_in_17 : GoodIn lw_tbl wsL_law_r17 := goodIn_p wsL_law_r17 [514, 524, 529, 533] rfl (by decide +kernel)
set_option maxRecDepth 20000 in
theorem wsL_in_18 : GoodIn lw_tbl wsL_law_r18 := goodIn_p wsL_law_r18 [538, 543, 550, 555, 560, 565] rfl (by decide +kernel)
set_option maxRecDepth 20000 in
theorem wsL_in_19 : GoodIn lw_tbl wsL_law_r19 := goodIn_p wsL_law_r19 [1079, 1083, 1086] rfl (by decide +kernel)
set_option maxRecDepth 20000 in
theorem wsL_in_20 : GoodIn lw_tbl wsL_law_r20 := goodIn_p wsL_law_r20 [1089, 1099, 1103, 1107, 1111, 1116] rfl (by decide +kernel)
set_option maxRecDepth 20000 in
theorem wsL_in_21 : GoodIn lw_tbl wsL_law_r21 := goodIn_p wsL_law_r21 [570, 1121, 574, 579, 584] rfl (by decide +kernel)
set_option maxRecDepth 20000 in
theorem wsL_in_22 : GoodIn lw_tbl wsL_law_r22 := goodIn_p wsL_law_r22 [588, 1125, 1129, 1133, 592, 595] rfl (by decide +kernel)
set_option maxRecDepth 20000 in
theorem wsL_in_23 : GoodIn lw_tbl wsL_law_r23 := goodIn_p wsL_law_r23 [599, 1138, 1141, 603, 607, 1146] rfl (by decide +kernel)
set_option maxRecDepth 20000 in
theorem wsL_in_24 : GoodIn lw_tbl wsL_law_r24 := goodIn_p wsL_law_r24 [1150, 613, 1154, 617, 621, 627] rfl (by decide +kernel)
set_option maxRecDepth 20000 in
theorem wsL_in_25 : GoodIn lw_tbl wsL_law_r25 := goodIn_p wsL_law_r25 [633, 639, 645, 649, 653] rfl (by decide +kernel)
set_option maxRecDepth 20000 in
theorem wsL_in_26 : GoodIn lw_tbl wsL_law_r26 := goodIn_p wsL_law_r26 [657, 661, 664, 668, 672, 678] rfl (by decide +kernel)
set_option maxRecDepth 20000 in
theorem wsL_in_27 : GoodIn lw_tbl wsL_law_r27 := goodIn_p wsL_law_r27 [682, 686, 690, 694, 698, 702] rfl (by decide +kernel)
set_option maxRecDepth 20000 in
theorem wsL_in_28 : GoodIn lw_tbl wsL_law_r28 := goodIn_p wsL_law_r28 [706, 709, 713, 1158, 1162, 1166] rfl (by decide +kernel)
set_option maxRecDepth 20000 in
theorem wsL_in_29 : GoodIn lw_tbl wsL_law_r29 := goodIn_p wsL_law_r29 [1170, 1174, 1178, 717, 721, 1182] rfl (by decide +kernel)
set_option maxRecDepth 20000 in
theorem wsL_in_30 : GoodIn lw_tbl wsL_law_r30 := goodIn_p wsL_law_r30 [725, 729, 1186, 737, 741, 1191] rfl (by decide +kernel)
set_option maxRecDepth 20000 in
theorem wsL_in_31 : GoodIn lw_tbl wsL_law_r31 := goodIn_p wsL_law_r31 [748, 752, 756, 760] rfl (by decide +kernel)
set_option maxRecDepth 20000 in
theorem wsL_in_32 : GoodIn lw_tbl wsL_law_r32 := goodIn_p wsL_law_r32 [769, 773, 1195, 1199, 1203, 778] rfl (by decide +kernel)
set_option maxRecDepth 20000 in
theorem wsL_in_33 : GoodIn lw_tbl wsL_law_r33 := goodIn_p wsL_law_r33 [782, 789, 795, 799, 803] rfl (by decide +kernel)
set_option maxRecDepth 20000 in
theorem wsL_in_34 : GoodIn lw_tbl wsL_law_r34 := goodIn_p wsL_law_r34 [807, 811, 815, 1207, 1211, 1215] rfl (by decide +kernel)
set_option maxRecDepth 20000 in
theorem wsL_in_35 : GoodIn lw_tbl wsL_law_r35 := goodIn_p wsL_law_r35 [819, 824, 1219, 828, 832, 1223] rfl (by decide +kernel)
set_option maxRecDepth 20000 in
theorem wsL_in_36 : GoodIn lw_tbl wsL_law_r36 := goodIn_p wsL_law_r36 [838, 842, 848, 1227, 852] rfl (by decide +kernel)
set_option maxRecDepth 20000 in
theorem wsL_in_37 : GoodIn lw_tbl wsL_law_r37 := goodIn_p wsL_law_r37 [856, 1231, 861, 865, 1235, 871] rfl (by decide +kernel)
set_option maxRecDepth 20000 in
theorem wsL_in_38 : GoodIn lw_tbl wsL_law_r38 := goodIn_p wsL_law_r38 [1239] rfl (by decide +kernel)
set_option maxRecDepth 20000 in
theorem wsL_in_wsX90 : GoodIn lw_tbl wsX90 := goodIn_p wsX90 [] rfl (by decide +kernel)
set_option maxRecDepth 20000 in
theorem wsL_in_wsX100 : GoodIn lw_tbl wsX100 := goodIn_p wsX100 [] rfl (by decide +kernel)
set_option maxRecDepth 20000 in
theorem wsL_in_wsX30 : GoodIn lw_tbl wsX30 := goodIn_p wsX30 [] rfl (by decide +kernel)
set_option maxRecDepth 20000 in
theorem wsL_in_wsX60 : GoodIn lw_tbl wsX60 := goodIn_p wsX60 [] rfl (by decide +kernel)
set_option maxRecDepth 20000 in
theorem wsL_in_wsX40 : GoodIn lw_tbl wsX40 := goodIn_p wsX40 [] rfl (by decide +kernel)
set_option maxRecDepth 20000 in
theorem wsL_in_wsX70 : GoodIn lw_tbl wsX70 := goodIn_p wsX70 [] rfl (by decide +kernel)
set_option maxRecDepth 20000 in
theorem wsL_in_wsX00 : GoodIn lw_tbl wsX00 := goodIn_p wsX00 [] rfl (by decide +kernel)
set_option maxRecDepth 20000 in
theorem wsL_in_wsX50 : GoodIn lw_tbl wsX50 := goodIn_p wsX50 [] rfl (by decide +kernel)
set_option maxRecDepth 20000 in
theorem wsL_in_wsX80 : GoodIn lw_tbl wsX80 := goodIn_p wsX80 [] rfl (by decide +kernel)
set_option maxRecDepth 20000 in
theorem wsL_in_wsX10 : GoodIn lw_tbl wsX10 := goodIn_p wsX10 [] rfl (by decide +kernel)
set_option maxRecDepth 20000 in
theorem wsL_in_wsX20 : GoodIn lw_tbl wsX20 := goodIn_p wsX20 [] rfl (by decide +kernel)
theorem wsL_law_in : ∀ w ∈ wsL_law, w ∈ lw_tbl := fun w h => (show GoodIn lw_tbl wsL_law from (goodIn_app (goodIn_app (goodIn_app (goodIn_app (goodIn_app (goodIn_app (goodIn_app (goodIn_app (goodIn_app (goodIn_app (goodIn_app (goodIn_app (goodIn_app wsL_in_1 (goodIn_app wsL_in_2 (goodIn_app wsL_in_3 (goodIn_app wsL_in_4 (goodIn_app wsL_in_5 (goodIn_app wsL_in_6 (goodIn_app wsL_in_7 (goodIn_app wsL_in_8 (goodIn_app wsL_in_9 (goodIn_app wsL_in_10 (goodIn_app wsL_in_11 (goodIn_app wsL_in_12 (goodIn_app wsL_in_13 (goodIn_app wsL_in_14 (goodIn_app wsL_in_15 (goodIn_app wsL_in_16 (goodIn_app wsL_in_17 (goodIn_app wsL_in_18 (goodIn_app wsL_in_19 (goodIn_app wsL_in_20 (goodIn_app wsL_in_21 (goodIn_app wsL_in_22 (goodIn_app wsL_in_23 (goodIn_app wsL_in_24 (goodIn_app wsL_in_25 (goodIn_app wsL_in_26 (goodIn_app wsL_in_27 (goodIn_app wsL_in_28 (goodIn_app wsL_in_29 (goodIn_app wsL_in_30 (goodIn_app wsL_in_31 (goodIn_app wsL_in_32 (goodIn_app wsL_in_33 (goodIn_app wsL_in_34 (goodIn_app wsL_in_35 (goodIn_app wsL_in_36 (goodIn_app wsL_in_37 wsL_in_38))))))))))))))))))))))))))))))))))))) wsL_in_wsX90) wsL_in_wsX100) wsL_in_wsX30) wsL_in_wsX60) wsL_in_wsX40) wsL_in_wsX70) wsL_in_wsX00) wsL_in_wsX50) wsL_in_wsX80) wsL_in_wsX10) wsL_in_wsX20) (fun _ h => absurd h List.not_mem_nil))) w h |>.1
