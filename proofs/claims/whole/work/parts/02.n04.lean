theorem dX9_fold_8 : decode cX9_fold 8 = .ok (.ifCond .eq 17, 3) := by decide +kernel
theorem dX9_fold_11 : decode cX9_fold 11 = .ok (.lload_n 1, 1) := by decide +kernel
theorem dX9_fold_12 : decode cX9_fold 12 = .ok (.aload_n 0, 1) := by decide +kernel
theorem dX9_fold_13 : decode cX9_fold 13 = .ok (.getfield 12, 3) := by decide +kernel
theorem dX9_fold_16 : decode cX9_fold 16 = .ok (.getfield 71, 3) := by decide +kernel
theorem dX9_fold_19 : decode cX9_fold 19 = .ok (.invokestatic 136, 3) := by decide +kernel
theorem dX9_fold_22 : decode cX9_fold 22 = .ok (.goto 6, 3) := by decide +kernel
theorem dX9_fold_25 : decode cX9_fold 25 = .ok (.ldc2_w 95, 3) := by decide +kernel
theorem dX9_fold_28 : decode cX9_fold 28 = .ok (.lreturn, 1) := by decide +kernel
theorem dX9_wide_0 : decode cX9_wide 0 = .ok (.iload_n 1, 1) := by decide +kernel
theorem dX9_wide_1 : decode cX9_wide 1 = .ok (.iconst 1, 1) := by decide +kernel
theorem dX9_wide_2 : decode cX9_wide 2 = .ok (.if_icmp .lt 9, 3) := by decide +kernel
theorem dX9_wide_5 : decode cX9_wide 5 = .ok (.iload_n 1, 1) := by decide +kernel
theorem dX9_wide_6 : decode cX9_wide 6 = .ok (.bipush 64, 2) := by decide +kernel
theorem dX9_wide_8 : decode cX9_wide 8 = .ok (.if_icmp .le 6, 3) := by decide +kernel
theorem dX9_wide_11 : decode cX9_wide 11 = .ok (.bipush (-2), 2) := by decide +kernel
theorem dX9_wide_13 : decode cX9_wide 13 = .ok (.ireturn, 1) := by decide +kernel
theorem dX9_wide_14 : decode cX9_wide 14 = .ok (.aload_n 0, 1) := by decide +kernel
theorem dX9_wide_15 : decode cX9_wide 15 = .ok (.getfield 21, 3) := by decide +kernel
theorem dX9_wide_18 : decode cX9_wide 18 = .ok (.getfield 140, 3) := by decide +kernel
theorem dX9_wide_21 : decode cX9_wide 21 = .ok (.istore_n 2, 1) := by decide +kernel
theorem dX9_wide_22 : decode cX9_wide 22 = .ok (.aload_n 0, 1) := by decide +kernel
theorem dX9_wide_23 : decode cX9_wide 23 = .ok (.getfield 21, 3) := by decide +kernel
theorem dX9_wide_26 : decode cX9_wide 26 = .ok (.iload_n 1, 1) := by decide +kernel
theorem dX9_wide_27 : decode cX9_wide 27 = .ok (.putfield 140, 3) := by decide +kernel
theorem dX9_wide_30 : decode cX9_wide 30 = .ok (.iload_n 2, 1) := by decide +kernel
theorem dX9_wide_31 : decode cX9_wide 31 = .ok (.ireturn, 1) := by decide +kernel
theorem dX9_check_0 : decode cX9_check 0 = .ok (.lload_n 1, 1) := by decide +kernel
theorem dX9_check_1 : decode cX9_check 1 = .ok (.lconst 0, 1) := by decide +kernel
theorem dX9_check_2 : decode cX9_check 2 = .ok (.lcmp, 1) := by decide +kernel
theorem dX9_check_3 : decode cX9_check 3 = .ok (.ifCond .lt 11, 3) := by decide +kernel
theorem dX9_check_6 : decode cX9_check 6 = .ok (.lload_n 1, 1) := by decide +kernel
theorem dX9_check_7 : decode cX9_check 7 = .ok (.ldc2_w 143, 3) := by decide +kernel
theorem dX9_check_10 : decode cX9_check 10 = .ok (.lcmp, 1) := by decide +kernel
theorem dX9_check_11 : decode cX9_check 11 = .ok (.ifCond .le 6, 3) := by decide +kernel
theorem dX9_check_14 : decode cX9_check 14 = .ok (.bipush (-2), 2) := by decide +kernel
theorem dX9_check_16 : decode cX9_check 16 = .ok (.ireturn, 1) := by decide +kernel
theorem dX9_check_17 : decode cX9_check 17 = .ok (.aload_n 0, 1) := by decide +kernel
theorem dX9_check_18 : decode cX9_check 18 = .ok (.getfield 21, 3) := by decide +kernel
theorem dX9_check_21 : decode cX9_check 21 = .ok (.lload_n 1, 1) := by decide +kernel
theorem dX9_check_22 : decode cX9_check 22 = .ok (.putfield 145, 3) := by decide +kernel
theorem dX9_check_25 : decode cX9_check 25 = .ok (.iconst 1, 1) := by decide +kernel
theorem dX9_check_26 : decode cX9_check 26 = .ok (.ireturn, 1) := by decide +kernel
set_option maxRecDepth 20000 in
theorem ggX9_read_X9_isSheet : GoodIn wsX9_read wsX9_isSheet := goodIn_r _ [9] (by decide +kernel) (by decide +kernel)
set_option maxRecDepth 20000 in
theorem gX9_read_X9_isSheet : GoodIn wsX9_read (va_wsS RX9 149 yX9_isSheet wsX9_isSheet) := goodIn_app (goodIn_of _ (by decide +kernel)) ggX9_read_X9_isSheet
set_option maxRecDepth 20000 in
theorem ggX9_read_X9_faultless : GoodIn wsX9_read wsX9_faultless := goodIn_r _ [13, 14, 90, 91, 92, 93, 94, 95, 96, 97, 98] (by decide +kernel) (by decide +kernel)
set_option maxRecDepth 20000 in
theorem gX9_read_X9_faultless : GoodIn wsX9_read (wsV RX9 152 RX9 yX9_faultless wsX9_faultless) := goodIn_app (goodIn_of _ (by decide +kernel)) ggX9_read_X9_faultless
set_option maxRecDepth 20000 in
theorem ggX9_read_X9_isLane : GoodIn wsX9_read wsX9_isLane := goodIn_r _ [17] (by decide +kernel) (by decide +kernel)
set_option maxRecDepth 20000 in
theorem gX9_read_X9_isLane : GoodIn wsX9_read (va_wsS RX9 155 yX9_isLane wsX9_isLane) := goodIn_app (goodIn_of _ (by decide +kernel)) ggX9_read_X9_isLane
set_option maxRecDepth 20000 in
theorem ggX9_read_X9_rowFlaw : GoodIn wsX9_read wsX9_rowFlaw := goodIn_r _ [21, 3, 4, 22, 23, 8, 24, 25, 26, 27, 28, 29, 30, 31, 32, 90, 91, 92, 93, 94, 95, 96, 97, 98, 99, 100, 101, 102, 103, 104, 113, 114, 115, 116] (by decide +kernel) (by decide +kernel)
set_option maxRecDepth 20000 in
theorem gX9_read_X9_rowFlaw : GoodIn wsX9_read (wsV RX9 158 RX9 yX9_rowFlaw wsX9_rowFlaw) := goodIn_app (goodIn_of _ (by decide +kernel)) ggX9_read_X9_rowFlaw
set_option maxRecDepth 20000 in
theorem ggX9_read_X9_faulted : GoodIn wsX9_read wsX9_faulted := goodIn_r _ [36, 14, 90, 91, 92, 93, 94, 95, 96, 97, 98] (by decide +kernel) (by decide +kernel)
set_option maxRecDepth 20000 in
theorem gX9_read_X9_faulted : GoodIn wsX9_read (wsV RX9 162 RX9 yX9_faulted wsX9_faulted) := goodIn_app (goodIn_of _ (by decide +kernel)) ggX9_read_X9_faulted
set_option maxRecDepth 20000 in
theorem ggX9_read_X6_ones : GoodIn wsX9_read wsX6_ones := goodIn_r _ [40, 41, 113, 114, 115, 116] (by decide +kernel) (by decide +kernel)
set_option maxRecDepth 20000 in
theorem gX9_read_X6_ones : GoodIn wsX9_read (wsV RX9 165 RX6 yX6_ones wsX6_ones) := goodIn_app (goodIn_of _ (by decide +kernel)) ggX9_read_X6_ones
set_option maxRecDepth 20000 in
theorem ggX9_read_X6_lostSigns : GoodIn wsX9_read wsX6_lostSigns := goodIn_r _ [45, 41, 113, 114, 115, 116] (by decide +kernel) (by decide +kernel)
set_option maxRecDepth 20000 in
theorem gX9_read_X6_lostSigns : GoodIn wsX9_read (wsV RX9 168 RX6 yX6_lostSigns wsX6_lostSigns) := goodIn_app (goodIn_of _ (by decide +kernel)) ggX9_read_X6_lostSigns
set_option maxRecDepth 20000 in
theorem ggX9_read_X5_readRow : GoodIn wsX9_read wsX5_readRow := goodIn_r _ [50, 51, 52, 53, 54, 55, 56, 57, 58, 59, 60, 61, 62, 63, 64, 65, 49, 66, 67, 68, 69, 70, 71, 72, 73, 74, 8, 75, 76, 77, 78, 79, 80, 81, 82, 83, 84, 85, 86, 87, 88, 89, 105, 106, 107, 108, 109, 110, 111, 112, 99, 100, 101, 102, 103, 104] (by decide +kernel) (by decide +kernel)
set_option maxRecDepth 20000 in
theorem gX9_read_X5_readRow : GoodIn wsX9_read (wsV RX9 171 RX5 yX5_readRow wsX5_readRow) := goodIn_app (goodIn_of _ (by decide +kernel)) ggX9_read_X5_readRow
theorem dX9_read_0 : decode cX9_read 0 = .ok (.iload_n 1, 1) := by decide +kernel
theorem dX9_read_1 : decode cX9_read 1 = .ok (.invokestatic 149, 3) := by decide +kernel
theorem dX9_read_4 : decode cX9_read 4 = .ok (.ifCond .ne 9, 3) := by decide +kernel
theorem dX9_read_7 : decode cX9_read 7 = .ok (.aload_n 0, 1) := by decide +kernel
theorem dX9_read_8 : decode cX9_read 8 = .ok (.iconst (-1), 1) := by decide +kernel
theorem dX9_read_9 : decode cX9_read 9 = .ok (.invokevirtual 152, 3) := by decide +kernel
theorem dX9_read_12 : decode cX9_read 12 = .ok (.ireturn, 1) := by decide +kernel
theorem dX9_read_13 : decode cX9_read 13 = .ok (.iload_n 2, 1) := by decide +kernel
theorem dX9_read_14 : decode cX9_read 14 = .ok (.invokestatic 155, 3) := by decide +kernel
theorem dX9_read_17 : decode cX9_read 17 = .ok (.ifCond .ne 10, 3) := by decide +kernel
theorem dX9_read_20 : decode cX9_read 20 = .ok (.aload_n 0, 1) := by decide +kernel
theorem dX9_read_21 : decode cX9_read 21 = .ok (.bipush (-2), 2) := by decide +kernel
theorem dX9_read_23 : decode cX9_read 23 = .ok (.invokevirtual 152, 3) := by decide +kernel
theorem dX9_read_26 : decode cX9_read 26 = .ok (.ireturn, 1) := by decide +kernel
theorem dX9_read_27 : decode cX9_read 27 = .ok (.aload_n 0, 1) := by decide +kernel
theorem dX9_read_28 : decode cX9_read 28 = .ok (.getfield 34, 3) := by decide +kernel
theorem dX9_read_31 : decode cX9_read 31 = .ok (.iload_n 1, 1) := by decide +kernel
theorem dX9_read_32 : decode cX9_read 32 = .ok (.aaload, 1) := by decide +kernel
theorem dX9_read_33 : decode cX9_read 33 = .ok (.astore_n 3, 1) := by decide +kernel
theorem dX9_read_34 : decode cX9_read 34 = .ok (.aload_n 0, 1) := by decide +kernel
theorem dX9_read_35 : decode cX9_read 35 = .ok (.aload_n 3, 1) := by decide +kernel
theorem dX9_read_36 : decode cX9_read 36 = .ok (.iload_n 2, 1) := by decide +kernel
theorem dX9_read_37 : decode cX9_read 37 = .ok (.invokevirtual 158, 3) := by decide +kernel
theorem dX9_read_40 : decode cX9_read 40 = .ok (.istore 4, 2) := by decide +kernel
theorem dX9_read_42 : decode cX9_read 42 = .ok (.iload 4, 2) := by decide +kernel
theorem dX9_read_44 : decode cX9_read 44 = .ok (.ifCond .eq 10, 3) := by decide +kernel
theorem dX9_read_47 : decode cX9_read 47 = .ok (.aload_n 0, 1) := by decide +kernel
theorem dX9_read_48 : decode cX9_read 48 = .ok (.iload 4, 2) := by decide +kernel
theorem dX9_read_50 : decode cX9_read 50 = .ok (.invokevirtual 162, 3) := by decide +kernel
theorem dX9_read_53 : decode cX9_read 53 = .ok (.ireturn, 1) := by decide +kernel
theorem dX9_read_54 : decode cX9_read 54 = .ok (.aload_n 0, 1) := by decide +kernel
theorem dX9_read_55 : decode cX9_read 55 = .ok (.getfield 21, 3) := by decide +kernel
theorem dX9_read_58 : decode cX9_read 58 = .ok (.aload_n 0, 1) := by decide +kernel
theorem dX9_read_59 : decode cX9_read 59 = .ok (.getfield 12, 3) := by decide +kernel
theorem dX9_read_62 : decode cX9_read 62 = .ok (.aload_n 3, 1) := by decide +kernel
theorem dX9_read_63 : decode cX9_read 63 = .ok (.aload_n 0, 1) := by decide +kernel
theorem dX9_read_64 : decode cX9_read 64 = .ok (.getfield 12, 3) := by decide +kernel
theorem dX9_read_67 : decode cX9_read 67 = .ok (.getfield 71, 3) := by decide +kernel
theorem dX9_read_70 : decode cX9_read 70 = .ok (.invokevirtual 165, 3) := by decide +kernel
theorem dX9_read_73 : decode cX9_read 73 = .ok (.aload_n 3, 1) := by decide +kernel
theorem dX9_read_74 : decode cX9_read 74 = .ok (.aload_n 0, 1) := by decide +kernel
theorem dX9_read_75 : decode cX9_read 75 = .ok (.getfield 12, 3) := by decide +kernel
theorem dX9_read_78 : decode cX9_read 78 = .ok (.getfield 71, 3) := by decide +kernel
theorem dX9_read_81 : decode cX9_read 81 = .ok (.invokevirtual 168, 3) := by decide +kernel
theorem dX9_read_84 : decode cX9_read 84 = .ok (.invokevirtual 171, 3) := by decide +kernel
theorem dX9_read_87 : decode cX9_read 87 = .ok (.aload_n 0, 1) := by decide +kernel
theorem dX9_read_88 : decode cX9_read 88 = .ok (.aload_n 0, 1) := by decide +kernel
theorem dX9_read_89 : decode cX9_read 89 = .ok (.getfield 21, 3) := by decide +kernel
theorem dX9_read_92 : decode cX9_read 92 = .ok (.getfield 175, 3) := by decide +kernel
theorem dX9_read_95 : decode cX9_read 95 = .ok (.invokevirtual 152, 3) := by decide +kernel
theorem dX9_read_98 : decode cX9_read 98 = .ok (.ireturn, 1) := by decide +kernel
set_option maxRecDepth 20000 in
theorem ggX9_path_X5_hasPath : GoodIn wsX9_path wsX5_hasPath := goodIn_r _ [8, 9, 10, 36, 37, 38, 39, 40, 41, 42, 43] (by decide +kernel) (by decide +kernel)
set_option maxRecDepth 20000 in
theorem gX9_path_X5_hasPath : GoodIn wsX9_path (wsV RX9 178 RX5 yX5_hasPath wsX5_hasPath) := goodIn_app (goodIn_of _ (by decide +kernel)) ggX9_path_X5_hasPath
set_option maxRecDepth 20000 in
theorem ggX9_path_X5_rowOf : GoodIn wsX9_path wsX5_rowOf := goodIn_r _ [14, 15, 36, 37, 38, 39, 40, 41, 42, 43] (by decide +kernel) (by decide +kernel)
set_option maxRecDepth 20000 in
theorem gX9_path_X5_rowOf : GoodIn wsX9_path (wsV RX9 181 RX5 yX5_rowOf wsX5_rowOf) := goodIn_app (goodIn_of _ (by decide +kernel)) ggX9_path_X5_rowOf
set_option maxRecDepth 20000 in
theorem ggX9_path_X4_messageIn : GoodIn wsX9_path wsX4_messageIn := goodIn_r _ [20, 21, 22, 23, 24, 19, 25, 26, 44, 45, 46, 47, 48, 49] (by decide +kernel) (by decide +kernel)
set_option maxRecDepth 20000 in
theorem gX9_path_X4_messageIn : GoodIn wsX9_path (wsV RX9 184 RX4 yX4_messageIn wsX4_messageIn) := goodIn_app (goodIn_of _ (by decide +kernel)) ggX9_path_X4_messageIn
theorem dX9_path_0 : decode cX9_path 0 = .ok (.aload_n 0, 1) := by decide +kernel
theorem dX9_path_1 : decode cX9_path 1 = .ok (.getfield 21, 3) := by decide +kernel
theorem dX9_path_4 : decode cX9_path 4 = .ok (.iload_n 1, 1) := by decide +kernel
theorem dX9_path_5 : decode cX9_path 5 = .ok (.invokevirtual 178, 3) := by decide +kernel
theorem dX9_path_8 : decode cX9_path 8 = .ok (.ifCond .eq 21, 3) := by decide +kernel
theorem dX9_path_11 : decode cX9_path 11 = .ok (.aload_n 0, 1) := by decide +kernel
theorem dX9_path_12 : decode cX9_path 12 = .ok (.getfield 12, 3) := by decide +kernel
theorem dX9_path_15 : decode cX9_path 15 = .ok (.aload_n 0, 1) := by decide +kernel
theorem dX9_path_16 : decode cX9_path 16 = .ok (.getfield 21, 3) := by decide +kernel
theorem dX9_path_19 : decode cX9_path 19 = .ok (.iload_n 1, 1) := by decide +kernel
theorem dX9_path_20 : decode cX9_path 20 = .ok (.invokevirtual 181, 3) := by decide +kernel
theorem dX9_path_23 : decode cX9_path 23 = .ok (.invokevirtual 184, 3) := by decide +kernel
theorem dX9_path_26 : decode cX9_path 26 = .ok (.goto 6, 3) := by decide +kernel
theorem dX9_path_29 : decode cX9_path 29 = .ok (.ldc2_w 95, 3) := by decide +kernel
theorem dX9_path_32 : decode cX9_path 32 = .ok (.lreturn, 1) := by decide +kernel
set_option maxRecDepth 20000 in
theorem ggX9_passed_X5_firstThatMeetsCheck : GoodIn wsX9_passed wsX5_firstThatMeetsCheck := goodIn_r _ [8, 9, 10, 11, 12, 13, 14, 15, 16, 17, 18, 19, 20, 21, 22, 23, 24, 25, 26, 27, 28, 29, 39, 40, 41, 42, 43, 44, 45, 46, 47, 48, 49, 50, 51, 52] (by decide +kernel) (by decide +kernel)
set_option maxRecDepth 20000 in
theorem gX9_passed_X5_firstThatMeetsCheck : GoodIn wsX9_passed (wsV RX9 191 RX5 yX5_firstThatMeetsCheck wsX5_firstThatMeetsCheck) := goodIn_app (goodIn_of _ (by decide +kernel)) ggX9_passed_X5_firstThatMeetsCheck
theorem dX9_passed_0 : decode cX9_passed 0 = .ok (.aload_n 0, 1) := by decide +kernel
theorem dX9_passed_1 : decode cX9_passed 1 = .ok (.getfield 21, 3) := by decide +kernel
theorem dX9_passed_4 : decode cX9_passed 4 = .ok (.getfield 187, 3) := by decide +kernel
theorem dX9_passed_7 : decode cX9_passed 7 = .ok (.ifCond .eq 17, 3) := by decide +kernel
theorem dX9_passed_10 : decode cX9_passed 10 = .ok (.aload_n 0, 1) := by decide +kernel
theorem dX9_passed_11 : decode cX9_passed 11 = .ok (.getfield 21, 3) := by decide +kernel
theorem dX9_passed_14 : decode cX9_passed 14 = .ok (.aload_n 0, 1) := by decide +kernel
theorem dX9_passed_15 : decode cX9_passed 15 = .ok (.getfield 12, 3) := by decide +kernel
theorem dX9_passed_18 : decode cX9_passed 18 = .ok (.invokevirtual 191, 3) := by decide +kernel
theorem dX9_passed_21 : decode cX9_passed 21 = .ok (.goto 5, 3) := by decide +kernel
theorem dX9_passed_24 : decode cX9_passed 24 = .ok (.bipush (-3), 2) := by decide +kernel
theorem dX9_passed_26 : decode cX9_passed 26 = .ok (.ireturn, 1) := by decide +kernel
set_option maxRecDepth 20000 in
theorem ggX9_nearest_X9_isSheet : GoodIn wsX9_nearest wsX9_isSheet := goodIn_r _ [11] (by decide +kernel) (by decide +kernel)
set_option maxRecDepth 20000 in
theorem gX9_nearest_X9_isSheet : GoodIn wsX9_nearest (va_wsS RX9 149 yX9_isSheet wsX9_isSheet) := goodIn_app (goodIn_of _ (by decide +kernel)) ggX9_nearest_X9_isSheet
set_option maxRecDepth 20000 in
theorem ggX9_nearest_X9_isLane : GoodIn wsX9_nearest wsX9_isLane := goodIn_r _ [14] (by decide +kernel) (by decide +kernel)
set_option maxRecDepth 20000 in
theorem gX9_nearest_X9_isLane : GoodIn wsX9_nearest (va_wsS RX9 155 yX9_isLane wsX9_isLane) := goodIn_app (goodIn_of _ (by decide +kernel)) ggX9_nearest_X9_isLane
set_option maxRecDepth 20000 in
theorem ggX9_nearest_X9_isBit : GoodIn wsX9_nearest wsX9_isBit := goodIn_r _ [17] (by decide +kernel) (by decide +kernel)
set_option maxRecDepth 20000 in
theorem gX9_nearest_X9_isBit : GoodIn wsX9_nearest (va_wsS RX9 108 yX9_isBit wsX9_isBit) := goodIn_app (goodIn_of _ (by decide +kernel)) ggX9_nearest_X9_isBit
set_option maxRecDepth 20000 in
theorem ggX9_nearest_X4_goodCount : GoodIn wsX9_nearest wsX4_goodCount := goodIn_r _ [22, 23, 24, 25, 26, 27, 28, 29, 30, 106, 107, 108, 109, 110, 111] (by decide +kernel) (by decide +kernel)
set_option maxRecDepth 20000 in
theorem gX9_nearest_X4_goodCount : GoodIn wsX9_nearest (wsV RX9 195 RX4 yX4_goodCount wsX4_goodCount) := goodIn_app (goodIn_of _ (by decide +kernel)) ggX9_nearest_X4_goodCount
set_option maxRecDepth 20000 in
theorem ggX9_nearest_X9_rowFlaw : GoodIn wsX9_nearest wsX9_rowFlaw := goodIn_r _ [34, 1, 5, 35, 36, 10, 37, 38, 39, 40, 41, 42, 43, 44, 45, 97, 98, 99, 100, 101, 102, 103, 104, 105, 106, 107, 108, 109, 110, 111, 112, 113, 114, 115] (by decide +kernel) (by decide +kernel)
set_option maxRecDepth 20000 in
theorem gX9_nearest_X9_rowFlaw : GoodIn wsX9_nearest (wsV RX9 158 RX9 yX9_rowFlaw wsX9_rowFlaw) := goodIn_app (goodIn_of _ (by decide +kernel)) ggX9_nearest_X9_rowFlaw
set_option maxRecDepth 20000 in
theorem ggX9_nearest_X6_ones : GoodIn wsX9_nearest wsX6_ones := goodIn_r _ [49, 50, 112, 113, 114, 115] (by decide +kernel) (by decide +kernel)
set_option maxRecDepth 20000 in
theorem gX9_nearest_X6_ones : GoodIn wsX9_nearest (wsV RX9 165 RX6 yX6_ones wsX6_ones) := goodIn_app (goodIn_of _ (by decide +kernel)) ggX9_nearest_X6_ones
set_option maxRecDepth 20000 in
theorem ggX9_nearest_X4_allPlaces : GoodIn wsX9_nearest wsX4_allPlaces := goodIn_r _ [54, 55, 106, 107, 108, 109, 110, 111] (by decide +kernel) (by decide +kernel)
set_option maxRecDepth 20000 in
theorem gX9_nearest_X4_allPlaces : GoodIn wsX9_nearest (wsV RX9 199 RX4 yX4_allPlaces wsX4_allPlaces) := goodIn_app (goodIn_of _ (by decide +kernel)) ggX9_nearest_X4_allPlaces
set_option maxRecDepth 20000 in
theorem ggX9_nearest_X6_lostSigns : GoodIn wsX9_nearest wsX6_lostSigns := goodIn_r _ [59, 50, 112, 113, 114, 115] (by decide +kernel) (by decide +kernel)
set_option maxRecDepth 20000 in
theorem gX9_nearest_X6_lostSigns : GoodIn wsX9_nearest (wsV RX9 168 RX6 yX6_lostSigns wsX6_lostSigns) := goodIn_app (goodIn_of _ (by decide +kernel)) ggX9_nearest_X6_lostSigns
set_option maxRecDepth 20000 in
theorem ggX9_nearest_X7_nearestMessage : GoodIn wsX9_nearest wsX7_nearestMessage := goodIn_r _ [64, 65, 66, 67, 68, 69, 70, 63, 71, 72, 10, 73, 74, 75, 76, 77, 21, 78, 79, 55, 80, 81, 82, 83, 84, 85, 86, 87, 23, 88, 25, 26, 27, 28, 29, 30, 89, 19, 20, 22, 24, 90, 91, 92, 93, 94, 106, 107, 108, 109, 110, 111, 116, 117, 118, 119, 120, 121, 122, 123, 124, 125] (by decide +kernel) (by decide +kernel)
set_option maxRecDepth 20000 in
theorem gX9_nearest_X7_nearestMessage : GoodIn wsX9_nearest (wsV RX9 204 RX7 yX7_nearestMessage wsX7_nearestMessage) := goodIn_app (goodIn_of _ (by decide +kernel)) ggX9_nearest_X7_nearestMessage
set_option maxRecDepth 20000 in
theorem ggX9_nearest_X4_wordOf : GoodIn wsX9_nearest wsX4_wordOf := goodIn_r _ [78, 79, 55, 80, 81, 82, 21, 83, 84, 85, 86, 87, 23, 72, 10, 73, 74, 106, 107, 108, 109, 110, 111] (by decide +kernel) (by decide +kernel)
set_option maxRecDepth 20000 in
theorem gX9_nearest_X4_wordOf : GoodIn wsX9_nearest (wsV RX9 129 RX4 yX4_wordOf wsX4_wordOf) := goodIn_app (goodIn_of _ (by decide +kernel)) ggX9_nearest_X4_wordOf
set_option maxRecDepth 20000 in
theorem ggX9_nearest_J13_bitCount_95d88 : GoodIn wsX9_nearest wsJ13_bitCount_95d88 := goodIn_r _ [27, 28, 29, 30] (by decide +kernel) (by decide +kernel)
set_option maxRecDepth 20000 in
theorem gX9_nearest_J13_bitCount_95d88 : GoodIn wsX9_nearest (va_wsS RX9 208 yJ13_bitCount_95d88 wsJ13_bitCount_95d88) := goodIn_app (goodIn_of _ (by decide +kernel)) ggX9_nearest_J13_bitCount_95d88
theorem dX9_nearest_0 : decode cX9_nearest 0 = .ok (.iload_n 1, 1) := by decide +kernel
theorem dX9_nearest_1 : decode cX9_nearest 1 = .ok (.invokestatic 149, 3) := by decide +kernel
theorem dX9_nearest_4 : decode cX9_nearest 4 = .ok (.ifCond .eq 29, 3) := by decide +kernel
theorem dX9_nearest_7 : decode cX9_nearest 7 = .ok (.iload_n 2, 1) := by decide +kernel
theorem dX9_nearest_8 : decode cX9_nearest 8 = .ok (.invokestatic 155, 3) := by decide +kernel
theorem dX9_nearest_11 : decode cX9_nearest 11 = .ok (.ifCond .eq 22, 3) := by decide +kernel
theorem dX9_nearest_14 : decode cX9_nearest 14 = .ok (.iload_n 3, 1) := by decide +kernel
theorem dX9_nearest_15 : decode cX9_nearest 15 = .ok (.invokestatic 108, 3) := by decide +kernel
theorem dX9_nearest_18 : decode cX9_nearest 18 = .ok (.ifCond .eq 15, 3) := by decide +kernel
theorem dX9_nearest_21 : decode cX9_nearest 21 = .ok (.aload_n 0, 1) := by decide +kernel
theorem dX9_nearest_22 : decode cX9_nearest 22 = .ok (.getfield 12, 3) := by decide +kernel
theorem dX9_nearest_25 : decode cX9_nearest 25 = .ok (.invokevirtual 195, 3) := by decide +kernel
theorem dX9_nearest_28 : decode cX9_nearest 28 = .ok (.bipush 12, 2) := by decide +kernel
theorem dX9_nearest_30 : decode cX9_nearest 30 = .ok (.if_icmp .le 12, 3) := by decide +kernel
theorem dX9_nearest_33 : decode cX9_nearest 33 = .ok (.aload_n 0, 1) := by decide +kernel
theorem dX9_nearest_34 : decode cX9_nearest 34 = .ok (.iconst 0, 1) := by decide +kernel
theorem dX9_nearest_35 : decode cX9_nearest 35 = .ok (.putfield 67, 3) := by decide +kernel
theorem dX9_nearest_38 : decode cX9_nearest 38 = .ok (.ldc2_w 95, 3) := by decide +kernel
theorem dX9_nearest_41 : decode cX9_nearest 41 = .ok (.lreturn, 1) := by decide +kernel
theorem dX9_nearest_42 : decode cX9_nearest 42 = .ok (.aload_n 0, 1) := by decide +kernel
theorem dX9_nearest_43 : decode cX9_nearest 43 = .ok (.getfield 34, 3) := by decide +kernel
theorem dX9_nearest_46 : decode cX9_nearest 46 = .ok (.iload_n 1, 1) := by decide +kernel
theorem dX9_nearest_47 : decode cX9_nearest 47 = .ok (.aaload, 1) := by decide +kernel
theorem dX9_nearest_48 : decode cX9_nearest 48 = .ok (.astore 4, 2) := by decide +kernel
theorem dX9_nearest_50 : decode cX9_nearest 50 = .ok (.aload_n 0, 1) := by decide +kernel
theorem dX9_nearest_51 : decode cX9_nearest 51 = .ok (.aload_n 0, 1) := by decide +kernel
theorem dX9_nearest_52 : decode cX9_nearest 52 = .ok (.aload 4, 2) := by decide +kernel
theorem dX9_nearest_54 : decode cX9_nearest 54 = .ok (.iload_n 2, 1) := by decide +kernel
theorem dX9_nearest_55 : decode cX9_nearest 55 = .ok (.invokevirtual 158, 3) := by decide +kernel
theorem dX9_nearest_58 : decode cX9_nearest 58 = .ok (.putfield 67, 3) := by decide +kernel
theorem dX9_nearest_61 : decode cX9_nearest 61 = .ok (.aload_n 0, 1) := by decide +kernel
theorem dX9_nearest_62 : decode cX9_nearest 62 = .ok (.getfield 67, 3) := by decide +kernel
theorem dX9_nearest_65 : decode cX9_nearest 65 = .ok (.ifCond .eq 7, 3) := by decide +kernel
theorem dX9_nearest_68 : decode cX9_nearest 68 = .ok (.ldc2_w 95, 3) := by decide +kernel
theorem dX9_nearest_71 : decode cX9_nearest 71 = .ok (.lreturn, 1) := by decide +kernel
theorem dX9_nearest_72 : decode cX9_nearest 72 = .ok (.aload 4, 2) := by decide +kernel
theorem dX9_nearest_74 : decode cX9_nearest 74 = .ok (.aload_n 0, 1) := by decide +kernel
theorem dX9_nearest_75 : decode cX9_nearest 75 = .ok (.getfield 12, 3) := by decide +kernel
theorem dX9_nearest_78 : decode cX9_nearest 78 = .ok (.getfield 71, 3) := by decide +kernel
theorem dX9_nearest_81 : decode cX9_nearest 81 = .ok (.invokevirtual 165, 3) := by decide +kernel
theorem dX9_nearest_84 : decode cX9_nearest 84 = .ok (.lstore 5, 2) := by decide +kernel
theorem dX9_nearest_86 : decode cX9_nearest 86 = .ok (.aload_n 0, 1) := by decide +kernel
theorem dX9_nearest_87 : decode cX9_nearest 87 = .ok (.getfield 12, 3) := by decide +kernel
theorem dX9_nearest_90 : decode cX9_nearest 90 = .ok (.invokevirtual 199, 3) := by decide +kernel
theorem dX9_nearest_93 : decode cX9_nearest 93 = .ok (.aload 4, 2) := by decide +kernel
theorem dX9_nearest_95 : decode cX9_nearest 95 = .ok (.aload_n 0, 1) := by decide +kernel
theorem dX9_nearest_96 : decode cX9_nearest 96 = .ok (.getfield 12, 3) := by decide +kernel
theorem dX9_nearest_99 : decode cX9_nearest 99 = .ok (.getfield 71, 3) := by decide +kernel
theorem dX9_nearest_102 : decode cX9_nearest 102 = .ok (.invokevirtual 168, 3) := by decide +kernel
theorem dX9_nearest_105 : decode cX9_nearest 105 = .ok (.ldc2_w 202, 3) := by decide +kernel
theorem dX9_nearest_108 : decode cX9_nearest 108 = .ok (.lxor, 1) := by decide +kernel
theorem dX9_nearest_109 : decode cX9_nearest 109 = .ok (.land, 1) := by decide +kernel
theorem dX9_nearest_110 : decode cX9_nearest 110 = .ok (.lstore 7, 2) := by decide +kernel
theorem dX9_nearest_112 : decode cX9_nearest 112 = .ok (.aload_n 0, 1) := by decide +kernel
theorem dX9_nearest_113 : decode cX9_nearest 113 = .ok (.getfield 28, 3) := by decide +kernel
theorem dX9_nearest_116 : decode cX9_nearest 116 = .ok (.aload_n 0, 1) := by decide +kernel
theorem dX9_nearest_117 : decode cX9_nearest 117 = .ok (.getfield 12, 3) := by decide +kernel
theorem dX9_nearest_120 : decode cX9_nearest 120 = .ok (.lload 5, 2) := by decide +kernel
theorem dX9_nearest_122 : decode cX9_nearest 122 = .ok (.lload 7, 2) := by decide +kernel
theorem dX9_nearest_124 : decode cX9_nearest 124 = .ok (.invokevirtual 204, 3) := by decide +kernel
theorem dX9_nearest_127 : decode cX9_nearest 127 = .ok (.lstore 9, 2) := by decide +kernel
theorem dX9_nearest_129 : decode cX9_nearest 129 = .ok (.iload_n 3, 1) := by decide +kernel
theorem dX9_nearest_130 : decode cX9_nearest 130 = .ok (.ifCond .ne 8, 3) := by decide +kernel
theorem dX9_nearest_133 : decode cX9_nearest 133 = .ok (.lload 9, 2) := by decide +kernel
theorem dX9_nearest_135 : decode cX9_nearest 135 = .ok (.goto 22, 3) := by decide +kernel
theorem dX9_nearest_138 : decode cX9_nearest 138 = .ok (.aload_n 0, 1) := by decide +kernel
theorem dX9_nearest_139 : decode cX9_nearest 139 = .ok (.getfield 12, 3) := by decide +kernel
theorem dX9_nearest_142 : decode cX9_nearest 142 = .ok (.lload 9, 2) := by decide +kernel
theorem dX9_nearest_144 : decode cX9_nearest 144 = .ok (.invokevirtual 129, 3) := by decide +kernel
theorem dX9_nearest_147 : decode cX9_nearest 147 = .ok (.lload 5, 2) := by decide +kernel
theorem dX9_nearest_149 : decode cX9_nearest 149 = .ok (.lxor, 1) := by decide +kernel
theorem dX9_nearest_150 : decode cX9_nearest 150 = .ok (.lload 7, 2) := by decide +kernel
theorem dX9_nearest_152 : decode cX9_nearest 152 = .ok (.land, 1) := by decide +kernel
theorem dX9_nearest_153 : decode cX9_nearest 153 = .ok (.invokestatic 208, 3) := by decide +kernel
theorem dX9_nearest_156 : decode cX9_nearest 156 = .ok (.i2l, 1) := by decide +kernel
theorem dX9_nearest_157 : decode cX9_nearest 157 = .ok (.lreturn, 1) := by decide +kernel
set_option maxRecDepth 20000 in
theorem ggX9_send_X9_isSheet : GoodIn wsX9_send wsX9_isSheet := goodIn_r _ [9] (by decide +kernel) (by decide +kernel)
set_option maxRecDepth 20000 in
theorem gX9_send_X9_isSheet : GoodIn wsX9_send (va_wsS RX9 149 yX9_isSheet wsX9_isSheet) := goodIn_app (goodIn_of _ (by decide +kernel)) ggX9_send_X9_isSheet
set_option maxRecDepth 20000 in
theorem ggX9_send_X9_faultless : GoodIn wsX9_send wsX9_faultless := goodIn_r _ [13, 14, 69, 70, 71, 72, 73, 74, 75, 76, 77] (by decide +kernel) (by decide +kernel)
set_option maxRecDepth 20000 in
theorem gX9_send_X9_faultless : GoodIn wsX9_send (wsV RX9 152 RX9 yX9_faultless wsX9_faultless) := goodIn_app (goodIn_of _ (by decide +kernel)) ggX9_send_X9_faultless
set_option maxRecDepth 20000 in
theorem ggX9_send_X4_isMessage : GoodIn wsX9_send wsX4_isMessage := goodIn_r _ [19, 20, 21, 22, 18, 23, 24, 25, 26, 27, 28, 29, 30, 31, 82, 83, 84, 85, 86, 87] (by decide +kernel) (by decide +kernel)
set_option maxRecDepth 20000 in
theorem gX9_send_X4_isMessage : GoodIn wsX9_send (wsV RX9 125 RX4 yX4_isMessage wsX4_isMessage) := goodIn_app (goodIn_of _ (by decide +kernel)) ggX9_send_X4_isMessage
set_option maxRecDepth 20000 in
theorem ggX9_send_X4_isRow : GoodIn wsX9_send wsX4_isRow := goodIn_r _ [35, 36, 37, 38, 18, 39, 40, 82, 83, 84, 85, 86, 87] (by decide +kernel) (by decide +kernel)
set_option maxRecDepth 20000 in
theorem gX9_send_X4_isRow : GoodIn wsX9_send (wsV RX9 133 RX4 yX4_isRow wsX4_isRow) := goodIn_app (goodIn_of _ (by decide +kernel)) ggX9_send_X4_isRow
set_option maxRecDepth 20000 in
theorem ggX9_send_X9_faulted : GoodIn wsX9_send wsX9_faulted := goodIn_r _ [44, 14, 69, 70, 71, 72, 73, 74, 75, 76, 77] (by decide +kernel) (by decide +kernel)
set_option maxRecDepth 20000 in
theorem gX9_send_X9_faulted : GoodIn wsX9_send (wsV RX9 162 RX9 yX9_faulted wsX9_faulted) := goodIn_app (goodIn_of _ (by decide +kernel)) ggX9_send_X9_faulted
set_option maxRecDepth 20000 in
theorem ggX9_send_X4_wordOf : GoodIn wsX9_send wsX4_wordOf := goodIn_r _ [48, 49, 40, 50, 51, 52, 18, 53, 54, 55, 56, 57, 24, 58, 8, 59, 60, 82, 83, 84, 85, 86, 87] (by decide +kernel) (by decide +kernel)
set_option maxRecDepth 20000 in
theorem gX9_send_X4_wordOf : GoodIn wsX9_send (wsV RX9 129 RX4 yX4_wordOf wsX4_wordOf) := goodIn_app (goodIn_of _ (by decide +kernel)) ggX9_send_X4_wordOf
set_option maxRecDepth 20000 in
theorem ggX9_send_X6_receive : GoodIn wsX9_send wsX6_receive := goodIn_r _ [65, 66, 67, 78, 79, 80, 81] (by decide +kernel) (by decide +kernel)
set_option maxRecDepth 20000 in
theorem gX9_send_X6_receive : GoodIn wsX9_send (wsV RX9 218 RX6 yX6_receive wsX6_receive) := goodIn_app (goodIn_of _ (by decide +kernel)) ggX9_send_X6_receive
set_option maxRecDepth 20000 in
theorem ggX9_send_J13_bitCount_95d88 : GoodIn wsX9_send wsJ13_bitCount_95d88 := goodIn_r _ [28, 29, 30, 31] (by decide +kernel) (by decide +kernel)
set_option maxRecDepth 20000 in
theorem gX9_send_J13_bitCount_95d88 : GoodIn wsX9_send (va_wsS RX9 208 yJ13_bitCount_95d88 wsJ13_bitCount_95d88) := goodIn_app (goodIn_of _ (by decide +kernel)) ggX9_send_J13_bitCount_95d88
theorem dX9_send_0 : decode cX9_send 0 = .ok (.iload_n 1, 1) := by decide +kernel
theorem dX9_send_1 : decode cX9_send 1 = .ok (.invokestatic 149, 3) := by decide +kernel
theorem dX9_send_4 : decode cX9_send 4 = .ok (.ifCond .ne 9, 3) := by decide +kernel
theorem dX9_send_7 : decode cX9_send 7 = .ok (.aload_n 0, 1) := by decide +kernel
theorem dX9_send_8 : decode cX9_send 8 = .ok (.iconst (-1), 1) := by decide +kernel
theorem dX9_send_9 : decode cX9_send 9 = .ok (.invokevirtual 152, 3) := by decide +kernel
theorem dX9_send_12 : decode cX9_send 12 = .ok (.ireturn, 1) := by decide +kernel
theorem dX9_send_13 : decode cX9_send 13 = .ok (.aload_n 0, 1) := by decide +kernel
theorem dX9_send_14 : decode cX9_send 14 = .ok (.getfield 12, 3) := by decide +kernel
theorem dX9_send_17 : decode cX9_send 17 = .ok (.lload_n 2, 1) := by decide +kernel
theorem dX9_send_18 : decode cX9_send 18 = .ok (.invokevirtual 125, 3) := by decide +kernel
theorem dX9_send_21 : decode cX9_send 21 = .ok (.ifCond .eq 27, 3) := by decide +kernel
theorem dX9_send_24 : decode cX9_send 24 = .ok (.aload_n 0, 1) := by decide +kernel
theorem dX9_send_25 : decode cX9_send 25 = .ok (.getfield 12, 3) := by decide +kernel
theorem dX9_send_28 : decode cX9_send 28 = .ok (.lload 4, 2) := by decide +kernel
theorem dX9_send_30 : decode cX9_send 30 = .ok (.invokevirtual 133, 3) := by decide +kernel
theorem dX9_send_33 : decode cX9_send 33 = .ok (.ifCond .eq 15, 3) := by decide +kernel
theorem dX9_send_36 : decode cX9_send 36 = .ok (.aload_n 0, 1) := by decide +kernel
theorem dX9_send_37 : decode cX9_send 37 = .ok (.getfield 12, 3) := by decide +kernel
theorem dX9_send_40 : decode cX9_send 40 = .ok (.lload 6, 2) := by decide +kernel
theorem dX9_send_42 : decode cX9_send 42 = .ok (.invokevirtual 133, 3) := by decide +kernel
theorem dX9_send_45 : decode cX9_send 45 = .ok (.ifCond .ne 10, 3) := by decide +kernel
theorem dX9_send_48 : decode cX9_send 48 = .ok (.aload_n 0, 1) := by decide +kernel
theorem dX9_send_49 : decode cX9_send 49 = .ok (.bipush (-2), 2) := by decide +kernel
theorem dX9_send_51 : decode cX9_send 51 = .ok (.invokevirtual 152, 3) := by decide +kernel
theorem dX9_send_54 : decode cX9_send 54 = .ok (.ireturn, 1) := by decide +kernel
theorem dX9_send_55 : decode cX9_send 55 = .ok (.aload_n 0, 1) := by decide +kernel
theorem dX9_send_56 : decode cX9_send 56 = .ok (.getfield 34, 3) := by decide +kernel
theorem dX9_send_59 : decode cX9_send 59 = .ok (.iload_n 1, 1) := by decide +kernel
theorem dX9_send_60 : decode cX9_send 60 = .ok (.aaload, 1) := by decide +kernel
theorem dX9_send_61 : decode cX9_send 61 = .ok (.astore 8, 2) := by decide +kernel
theorem dX9_send_63 : decode cX9_send 63 = .ok (.aload 8, 2) := by decide +kernel
theorem dX9_send_65 : decode cX9_send 65 = .ok (.getfield 212, 3) := by decide +kernel
theorem dX9_send_68 : decode cX9_send 68 = .ok (.ifCond .ne 9, 3) := by decide +kernel
theorem dX9_send_71 : decode cX9_send 71 = .ok (.aload_n 0, 1) := by decide +kernel
theorem dX9_send_72 : decode cX9_send 72 = .ok (.iconst 1, 1) := by decide +kernel
theorem dX9_send_73 : decode cX9_send 73 = .ok (.invokevirtual 162, 3) := by decide +kernel
theorem dX9_send_76 : decode cX9_send 76 = .ok (.ireturn, 1) := by decide +kernel
theorem dX9_send_77 : decode cX9_send 77 = .ok (.aload 8, 2) := by decide +kernel
theorem dX9_send_79 : decode cX9_send 79 = .ok (.getfield 215, 3) := by decide +kernel
theorem dX9_send_82 : decode cX9_send 82 = .ok (.aload_n 0, 1) := by decide +kernel
theorem dX9_send_83 : decode cX9_send 83 = .ok (.getfield 12, 3) := by decide +kernel
theorem dX9_send_86 : decode cX9_send 86 = .ok (.getfield 71, 3) := by decide +kernel
theorem dX9_send_89 : decode cX9_send 89 = .ok (.if_icmp .ge 9, 3) := by decide +kernel
theorem dX9_send_92 : decode cX9_send 92 = .ok (.aload_n 0, 1) := by decide +kernel
theorem dX9_send_93 : decode cX9_send 93 = .ok (.iconst 3, 1) := by decide +kernel
theorem dX9_send_94 : decode cX9_send 94 = .ok (.invokevirtual 162, 3) := by decide +kernel
theorem dX9_send_97 : decode cX9_send 97 = .ok (.ireturn, 1) := by decide +kernel
theorem dX9_send_98 : decode cX9_send 98 = .ok (.aload 8, 2) := by decide +kernel
theorem dX9_send_100 : decode cX9_send 100 = .ok (.aload_n 0, 1) := by decide +kernel
theorem dX9_send_101 : decode cX9_send 101 = .ok (.getfield 12, 3) := by decide +kernel
theorem dX9_send_104 : decode cX9_send 104 = .ok (.lload_n 2, 1) := by decide +kernel
theorem dX9_send_105 : decode cX9_send 105 = .ok (.invokevirtual 129, 3) := by decide +kernel
theorem dX9_send_108 : decode cX9_send 108 = .ok (.lload 6, 2) := by decide +kernel
theorem dX9_send_110 : decode cX9_send 110 = .ok (.lxor, 1) := by decide +kernel
theorem dX9_send_111 : decode cX9_send 111 = .ok (.lload 4, 2) := by decide +kernel
theorem dX9_send_113 : decode cX9_send 113 = .ok (.aload_n 0, 1) := by decide +kernel
theorem dX9_send_114 : decode cX9_send 114 = .ok (.getfield 12, 3) := by decide +kernel
theorem dX9_send_117 : decode cX9_send 117 = .ok (.getfield 71, 3) := by decide +kernel
theorem dX9_send_120 : decode cX9_send 120 = .ok (.invokevirtual 218, 3) := by decide +kernel
theorem dX9_send_123 : decode cX9_send 123 = .ok (.aload_n 0, 1) := by decide +kernel
theorem dX9_send_124 : decode cX9_send 124 = .ok (.lload 4, 2) := by decide +kernel
theorem dX9_send_126 : decode cX9_send 126 = .ok (.lload 6, 2) := by decide +kernel
theorem dX9_send_128 : decode cX9_send 128 = .ok (.lor, 1) := by decide +kernel
theorem dX9_send_129 : decode cX9_send 129 = .ok (.invokestatic 208, 3) := by decide +kernel
theorem dX9_send_132 : decode cX9_send 132 = .ok (.invokevirtual 152, 3) := by decide +kernel
theorem dX9_send_135 : decode cX9_send 135 = .ok (.ireturn, 1) := by decide +kernel
set_option maxRecDepth 20000 in
theorem ggX9_count_X4_goodCount : GoodIn wsX9_count wsX4_goodCount := goodIn_r _ [8, 9, 10, 11, 12, 13, 14, 15, 16, 72, 73, 74, 75, 76, 77] (by decide +kernel) (by decide +kernel)
set_option maxRecDepth 20000 in
theorem gX9_count_X4_goodCount : GoodIn wsX9_count (wsV RX9 195 RX4 yX4_goodCount wsX4_goodCount) := goodIn_app (goodIn_of _ (by decide +kernel)) ggX9_count_X4_goodCount
set_option maxRecDepth 20000 in
theorem ggX9_count_X7_wordsWithOnes : GoodIn wsX9_count wsX7_wordsWithOnes := goodIn_r _ [21, 22, 23, 24, 25, 26, 27, 28, 7, 29, 30, 31, 32, 33, 34, 35, 36, 37, 38, 39, 9, 40, 41, 42, 43, 44, 45, 46, 20, 47, 48, 49, 50, 51, 52, 53, 54, 55, 56, 57, 11, 12, 13, 14, 15, 16, 58, 59, 60, 61, 62, 78, 79, 80, 81, 82, 83, 84, 85, 86, 87, 72, 73, 74, 75, 76, 77] (by decide +kernel) (by decide +kernel)
set_option maxRecDepth 20000 in
theorem gX9_count_X7_wordsWithOnes : GoodIn wsX9_count (wsV RX9 222 RX7 yX7_wordsWithOnes wsX7_wordsWithOnes) := goodIn_app (goodIn_of _ (by decide +kernel)) ggX9_count_X7_wordsWithOnes
theorem dX9_count_0 : decode cX9_count 0 = .ok (.aload_n 0, 1) := by decide +kernel
theorem dX9_count_1 : decode cX9_count 1 = .ok (.getfield 12, 3) := by decide +kernel
theorem dX9_count_4 : decode cX9_count 4 = .ok (.invokevirtual 195, 3) := by decide +kernel
theorem dX9_count_7 : decode cX9_count 7 = .ok (.bipush 12, 2) := by decide +kernel
theorem dX9_count_9 : decode cX9_count 9 = .ok (.if_icmp .le 6, 3) := by decide +kernel
theorem dX9_count_12 : decode cX9_count 12 = .ok (.bipush (-3), 2) := by decide +kernel
theorem dX9_count_14 : decode cX9_count 14 = .ok (.ireturn, 1) := by decide +kernel
theorem dX9_count_15 : decode cX9_count 15 = .ok (.iload_n 1, 1) := by decide +kernel
theorem dX9_count_16 : decode cX9_count 16 = .ok (.ifCond .lt 14, 3) := by decide +kernel
theorem dX9_count_19 : decode cX9_count 19 = .ok (.iload_n 1, 1) := by decide +kernel
theorem dX9_count_20 : decode cX9_count 20 = .ok (.aload_n 0, 1) := by decide +kernel
theorem dX9_count_21 : decode cX9_count 21 = .ok (.getfield 12, 3) := by decide +kernel
theorem dX9_count_24 : decode cX9_count 24 = .ok (.getfield 71, 3) := by decide +kernel
theorem dX9_count_27 : decode cX9_count 27 = .ok (.if_icmp .le 8, 3) := by decide +kernel
theorem dX9_count_30 : decode cX9_count 30 = .ok (.bipush (-2), 2) := by decide +kernel
theorem dX9_count_32 : decode cX9_count 32 = .ok (.goto 15, 3) := by decide +kernel
theorem dX9_count_35 : decode cX9_count 35 = .ok (.aload_n 0, 1) := by decide +kernel
theorem dX9_count_36 : decode cX9_count 36 = .ok (.getfield 28, 3) := by decide +kernel
theorem dX9_count_39 : decode cX9_count 39 = .ok (.aload_n 0, 1) := by decide +kernel
theorem dX9_count_40 : decode cX9_count 40 = .ok (.getfield 12, 3) := by decide +kernel
theorem dX9_count_43 : decode cX9_count 43 = .ok (.iload_n 1, 1) := by decide +kernel
theorem dX9_count_44 : decode cX9_count 44 = .ok (.invokevirtual 222, 3) := by decide +kernel
theorem dX9_count_47 : decode cX9_count 47 = .ok (.ireturn, 1) := by decide +kernel
set_option maxRecDepth 20000 in
theorem ggX9_across_X7_rowsAcross : GoodIn wsX9_across wsX7_rowsAcross := goodIn_r _ [8, 9, 10, 11, 12, 13, 7, 14, 15, 16, 17, 18, 19, 20, 21, 22, 23, 24, 25, 26, 27, 28, 29, 30, 31, 32, 33, 34, 35, 36, 37, 38, 39, 40, 41, 42, 43, 44, 45, 46, 47, 48, 49, 50, 51, 52, 53, 54, 55, 56, 57, 58, 59, 60, 61, 62, 63, 64, 65, 66, 67, 68, 69, 70, 71, 72, 73, 74, 75, 76, 92, 93, 94, 95, 96, 97, 98, 99, 100, 101, 86, 87, 88, 89, 90, 91] (by decide +kernel) (by decide +kernel)
set_option maxRecDepth 20000 in
theorem gX9_across_X7_rowsAcross : GoodIn wsX9_across (wsV RX9 226 RX7 yX7_rowsAcross wsX7_rowsAcross) := goodIn_app (goodIn_of _ (by decide +kernel)) ggX9_across_X7_rowsAcross
theorem dX9_across_0 : decode cX9_across 0 = .ok (.aload_n 0, 1) := by decide +kernel
theorem dX9_across_1 : decode cX9_across 1 = .ok (.getfield 12, 3) := by decide +kernel
theorem dX9_across_4 : decode cX9_across 4 = .ok (.getfield 71, 3) := by decide +kernel
theorem dX9_across_7 : decode cX9_across 7 = .ok (.bipush 16, 2) := by decide +kernel
theorem dX9_across_9 : decode cX9_across 9 = .ok (.if_icmp .le 6, 3) := by decide +kernel
theorem dX9_across_12 : decode cX9_across 12 = .ok (.bipush (-3), 2) := by decide +kernel
theorem dX9_across_14 : decode cX9_across 14 = .ok (.ireturn, 1) := by decide +kernel
theorem dX9_across_15 : decode cX9_across 15 = .ok (.iload_n 1, 1) := by decide +kernel
theorem dX9_across_16 : decode cX9_across 16 = .ok (.ifCond .lt 14, 3) := by decide +kernel
theorem dX9_across_19 : decode cX9_across 19 = .ok (.iload_n 1, 1) := by decide +kernel
theorem dX9_across_20 : decode cX9_across 20 = .ok (.aload_n 0, 1) := by decide +kernel
theorem dX9_across_21 : decode cX9_across 21 = .ok (.getfield 12, 3) := by decide +kernel
theorem dX9_across_24 : decode cX9_across 24 = .ok (.getfield 71, 3) := by decide +kernel
theorem dX9_across_27 : decode cX9_across 27 = .ok (.if_icmp .le 8, 3) := by decide +kernel
theorem dX9_across_30 : decode cX9_across 30 = .ok (.bipush (-2), 2) := by decide +kernel
theorem dX9_across_32 : decode cX9_across 32 = .ok (.goto 15, 3) := by decide +kernel
theorem dX9_across_35 : decode cX9_across 35 = .ok (.aload_n 0, 1) := by decide +kernel
theorem dX9_across_36 : decode cX9_across 36 = .ok (.getfield 28, 3) := by decide +kernel
theorem dX9_across_39 : decode cX9_across 39 = .ok (.aload_n 0, 1) := by decide +kernel
theorem dX9_across_40 : decode cX9_across 40 = .ok (.getfield 12, 3) := by decide +kernel
theorem dX9_across_43 : decode cX9_across 43 = .ok (.iload_n 1, 1) := by decide +kernel
theorem dX9_across_44 : decode cX9_across 44 = .ok (.invokevirtual 226, 3) := by decide +kernel
theorem dX9_across_47 : decode cX9_across 47 = .ok (.ireturn, 1) := by decide +kernel
set_option maxRecDepth 20000 in
theorem ggX9_fails_X7_failingSets : GoodIn wsX9_fails wsX7_failingSets := goodIn_r _ [8, 9, 10, 11, 12, 13, 7, 14, 15, 16, 17, 18, 19, 20, 21, 22, 23, 24, 25, 26, 27, 28, 29, 30, 31, 47, 48, 49, 50, 51, 52, 53, 54, 55, 56, 41, 42, 43, 44, 45, 46] (by decide +kernel) (by decide +kernel)
set_option maxRecDepth 20000 in
theorem gX9_fails_X7_failingSets : GoodIn wsX9_fails (wsV RX9 229 RX7 yX7_failingSets wsX7_failingSets) := goodIn_app (goodIn_of _ (by decide +kernel)) ggX9_fails_X7_failingSets
theorem dX9_fails_0 : decode cX9_fails 0 = .ok (.aload_n 0, 1) := by decide +kernel
theorem dX9_fails_1 : decode cX9_fails 1 = .ok (.getfield 12, 3) := by decide +kernel
theorem dX9_fails_4 : decode cX9_fails 4 = .ok (.getfield 71, 3) := by decide +kernel
theorem dX9_fails_7 : decode cX9_fails 7 = .ok (.bipush 16, 2) := by decide +kernel
theorem dX9_fails_9 : decode cX9_fails 9 = .ok (.if_icmp .le 6, 3) := by decide +kernel
theorem dX9_fails_12 : decode cX9_fails 12 = .ok (.bipush (-3), 2) := by decide +kernel
theorem dX9_fails_14 : decode cX9_fails 14 = .ok (.ireturn, 1) := by decide +kernel
theorem dX9_fails_15 : decode cX9_fails 15 = .ok (.iload_n 1, 1) := by decide +kernel
theorem dX9_fails_16 : decode cX9_fails 16 = .ok (.ifCond .lt 14, 3) := by decide +kernel
theorem dX9_fails_19 : decode cX9_fails 19 = .ok (.iload_n 1, 1) := by decide +kernel
theorem dX9_fails_20 : decode cX9_fails 20 = .ok (.aload_n 0, 1) := by decide +kernel
theorem dX9_fails_21 : decode cX9_fails 21 = .ok (.getfield 12, 3) := by decide +kernel
theorem dX9_fails_24 : decode cX9_fails 24 = .ok (.getfield 71, 3) := by decide +kernel
theorem dX9_fails_27 : decode cX9_fails 27 = .ok (.if_icmp .le 8, 3) := by decide +kernel
theorem dX9_fails_30 : decode cX9_fails 30 = .ok (.bipush (-2), 2) := by decide +kernel
theorem dX9_fails_32 : decode cX9_fails 32 = .ok (.goto 15, 3) := by decide +kernel
theorem dX9_fails_35 : decode cX9_fails 35 = .ok (.aload_n 0, 1) := by decide +kernel
theorem dX9_fails_36 : decode cX9_fails 36 = .ok (.getfield 28, 3) := by decide +kernel
theorem dX9_fails_39 : decode cX9_fails 39 = .ok (.aload_n 0, 1) := by decide +kernel
theorem dX9_fails_40 : decode cX9_fails 40 = .ok (.getfield 12, 3) := by decide +kernel
theorem dX9_fails_43 : decode cX9_fails 43 = .ok (.iload_n 1, 1) := by decide +kernel
theorem dX9_fails_44 : decode cX9_fails 44 = .ok (.invokevirtual 229, 3) := by decide +kernel
theorem dX9_fails_47 : decode cX9_fails 47 = .ok (.ireturn, 1) := by decide +kernel
set_option maxRecDepth 20000 in
theorem ggX9_sheet_X9_isSheet : GoodIn wsX9_sheet wsX9_isSheet := goodIn_r _ [5] (by decide +kernel) (by decide +kernel)
set_option maxRecDepth 20000 in
theorem gX9_sheet_X9_isSheet : GoodIn wsX9_sheet (va_wsS RX9 149 yX9_isSheet wsX9_isSheet) := goodIn_app (goodIn_of _ (by decide +kernel)) ggX9_sheet_X9_isSheet
set_option maxRecDepth 20000 in
theorem ggX9_sheet_X9_faultless : GoodIn wsX9_sheet wsX9_faultless := goodIn_r _ [9, 10, 31, 32, 33, 34, 35, 36, 37, 38, 39] (by decide +kernel) (by decide +kernel)
set_option maxRecDepth 20000 in
theorem gX9_sheet_X9_faultless : GoodIn wsX9_sheet (wsV RX9 152 RX9 yX9_faultless wsX9_faultless) := goodIn_app (goodIn_of _ (by decide +kernel)) ggX9_sheet_X9_faultless
set_option maxRecDepth 20000 in
theorem ggX9_sheet_X9_isLane : GoodIn wsX9_sheet wsX9_isLane := goodIn_r _ [13] (by decide +kernel) (by decide +kernel)
set_option maxRecDepth 20000 in
theorem gX9_sheet_X9_isLane : GoodIn wsX9_sheet (va_wsS RX9 155 yX9_isLane wsX9_isLane) := goodIn_app (goodIn_of _ (by decide +kernel)) ggX9_sheet_X9_isLane
set_option maxRecDepth 20000 in
theorem ggX9_sheet_X9_faulted : GoodIn wsX9_sheet wsX9_faulted := goodIn_r _ [17, 10, 31, 32, 33, 34, 35, 36, 37, 38, 39] (by decide +kernel) (by decide +kernel)
set_option maxRecDepth 20000 in
theorem gX9_sheet_X9_faulted : GoodIn wsX9_sheet (wsV RX9 162 RX9 yX9_faulted wsX9_faulted) := goodIn_app (goodIn_of _ (by decide +kernel)) ggX9_sheet_X9_faulted
set_option maxRecDepth 20000 in
theorem ggX9_sheet_X6_begin : GoodIn wsX9_sheet wsX6_begin := goodIn_r _ [22, 23, 24, 25, 26, 27, 28, 29, 30, 40, 41, 42, 43] (by decide +kernel) (by decide +kernel)
set_option maxRecDepth 20000 in
theorem gX9_sheet_X6_begin : GoodIn wsX9_sheet (wsV RX9 232 RX6 yX6_begin wsX6_begin) := goodIn_app (goodIn_of _ (by decide +kernel)) ggX9_sheet_X6_begin
theorem dX9_sheet_0 : decode cX9_sheet 0 = .ok (.iload_n 1, 1) := by decide +kernel
theorem dX9_sheet_1 : decode cX9_sheet 1 = .ok (.invokestatic 149, 3) := by decide +kernel
theorem dX9_sheet_4 : decode cX9_sheet 4 = .ok (.ifCond .ne 9, 3) := by decide +kernel
theorem dX9_sheet_7 : decode cX9_sheet 7 = .ok (.aload_n 0, 1) := by decide +kernel
theorem dX9_sheet_8 : decode cX9_sheet 8 = .ok (.iconst (-1), 1) := by decide +kernel
theorem dX9_sheet_9 : decode cX9_sheet 9 = .ok (.invokevirtual 152, 3) := by decide +kernel
theorem dX9_sheet_12 : decode cX9_sheet 12 = .ok (.ireturn, 1) := by decide +kernel
theorem dX9_sheet_13 : decode cX9_sheet 13 = .ok (.iload_n 2, 1) := by decide +kernel
theorem dX9_sheet_14 : decode cX9_sheet 14 = .ok (.invokestatic 155, 3) := by decide +kernel
theorem dX9_sheet_17 : decode cX9_sheet 17 = .ok (.ifCond .eq 9, 3) := by decide +kernel
theorem dX9_sheet_20 : decode cX9_sheet 20 = .ok (.iload_n 3, 1) := by decide +kernel
theorem dX9_sheet_21 : decode cX9_sheet 21 = .ok (.bipush 40, 2) := by decide +kernel
theorem dX9_sheet_23 : decode cX9_sheet 23 = .ok (.if_icmp .le 10, 3) := by decide +kernel
theorem dX9_sheet_26 : decode cX9_sheet 26 = .ok (.aload_n 0, 1) := by decide +kernel
theorem dX9_sheet_27 : decode cX9_sheet 27 = .ok (.bipush (-2), 2) := by decide +kernel
theorem dX9_sheet_29 : decode cX9_sheet 29 = .ok (.invokevirtual 152, 3) := by decide +kernel
theorem dX9_sheet_32 : decode cX9_sheet 32 = .ok (.ireturn, 1) := by decide +kernel
theorem dX9_sheet_33 : decode cX9_sheet 33 = .ok (.iload_n 3, 1) := by decide +kernel
theorem dX9_sheet_34 : decode cX9_sheet 34 = .ok (.ifCond .ge 9, 3) := by decide +kernel
theorem dX9_sheet_37 : decode cX9_sheet 37 = .ok (.aload_n 0, 1) := by decide +kernel
theorem dX9_sheet_38 : decode cX9_sheet 38 = .ok (.iconst 4, 1) := by decide +kernel
theorem dX9_sheet_39 : decode cX9_sheet 39 = .ok (.invokevirtual 162, 3) := by decide +kernel
theorem dX9_sheet_42 : decode cX9_sheet 42 = .ok (.ireturn, 1) := by decide +kernel
theorem dX9_sheet_43 : decode cX9_sheet 43 = .ok (.aload_n 0, 1) := by decide +kernel
theorem dX9_sheet_44 : decode cX9_sheet 44 = .ok (.getfield 34, 3) := by decide +kernel
theorem dX9_sheet_47 : decode cX9_sheet 47 = .ok (.iload_n 1, 1) := by decide +kernel
theorem dX9_sheet_48 : decode cX9_sheet 48 = .ok (.aaload, 1) := by decide +kernel
theorem dX9_sheet_49 : decode cX9_sheet 49 = .ok (.iload_n 2, 1) := by decide +kernel
theorem dX9_sheet_50 : decode cX9_sheet 50 = .ok (.iload_n 3, 1) := by decide +kernel
theorem dX9_sheet_51 : decode cX9_sheet 51 = .ok (.invokevirtual 232, 3) := by decide +kernel
theorem dX9_sheet_54 : decode cX9_sheet 54 = .ok (.aload_n 0, 1) := by decide +kernel
theorem dX9_sheet_55 : decode cX9_sheet 55 = .ok (.iconst 1, 1) := by decide +kernel
theorem dX9_sheet_56 : decode cX9_sheet 56 = .ok (.invokevirtual 152, 3) := by decide +kernel
theorem dX9_sheet_59 : decode cX9_sheet 59 = .ok (.ireturn, 1) := by decide +kernel
set_option maxRecDepth 20000 in
theorem ggX9_lose_X9_isSheet : GoodIn wsX9_lose wsX9_isSheet := goodIn_r _ [6] (by decide +kernel) (by decide +kernel)
set_option maxRecDepth 20000 in
theorem gX9_lose_X9_isSheet : GoodIn wsX9_lose (va_wsS RX9 149 yX9_isSheet wsX9_isSheet) := goodIn_app (goodIn_of _ (by decide +kernel)) ggX9_lose_X9_isSheet
theorem dX9_lose_0 : decode cX9_lose 0 = .ok (.iload_n 1, 1) := by decide +kernel
theorem dX9_lose_1 : decode cX9_lose 1 = .ok (.invokestatic 149, 3) := by decide +kernel
theorem dX9_lose_4 : decode cX9_lose 4 = .ok (.ifCond .ne 5, 3) := by decide +kernel
theorem dX9_lose_7 : decode cX9_lose 7 = .ok (.iconst (-1), 1) := by decide +kernel
theorem dX9_lose_8 : decode cX9_lose 8 = .ok (.ireturn, 1) := by decide +kernel
theorem dX9_lose_9 : decode cX9_lose 9 = .ok (.aload_n 0, 1) := by decide +kernel
theorem dX9_lose_10 : decode cX9_lose 10 = .ok (.getfield 34, 3) := by decide +kernel
theorem dX9_lose_13 : decode cX9_lose 13 = .ok (.iload_n 1, 1) := by decide +kernel
theorem dX9_lose_14 : decode cX9_lose 14 = .ok (.aaload, 1) := by decide +kernel
theorem dX9_lose_15 : decode cX9_lose 15 = .ok (.getfield 212, 3) := by decide +kernel
theorem dX9_lose_18 : decode cX9_lose 18 = .ok (.ifCond .eq 7, 3) := by decide +kernel
theorem dX9_lose_21 : decode cX9_lose 21 = .ok (.iconst 1, 1) := by decide +kernel
theorem dX9_lose_22 : decode cX9_lose 22 = .ok (.goto 4, 3) := by decide +kernel
theorem dX9_lose_25 : decode cX9_lose 25 = .ok (.iconst 0, 1) := by decide +kernel
theorem dX9_lose_26 : decode cX9_lose 26 = .ok (.istore_n 2, 1) := by decide +kernel
theorem dX9_lose_27 : decode cX9_lose 27 = .ok (.aload_n 0, 1) := by decide +kernel
theorem dX9_lose_28 : decode cX9_lose 28 = .ok (.getfield 34, 3) := by decide +kernel
theorem dX9_lose_31 : decode cX9_lose 31 = .ok (.iload_n 1, 1) := by decide +kernel
theorem dX9_lose_32 : decode cX9_lose 32 = .ok (.aaload, 1) := by decide +kernel
theorem dX9_lose_33 : decode cX9_lose 33 = .ok (.iconst 0, 1) := by decide +kernel
theorem dX9_lose_34 : decode cX9_lose 34 = .ok (.putfield 212, 3) := by decide +kernel
theorem dX9_lose_37 : decode cX9_lose 37 = .ok (.iload_n 2, 1) := by decide +kernel
theorem dX9_lose_38 : decode cX9_lose 38 = .ok (.ireturn, 1) := by decide +kernel
set_option maxRecDepth 20000 in
theorem ggX9_put_X9_isSheet : GoodIn wsX9_put wsX9_isSheet := goodIn_r _ [6] (by decide +kernel) (by decide +kernel)
set_option maxRecDepth 20000 in
theorem gX9_put_X9_isSheet : GoodIn wsX9_put (va_wsS RX9 149 yX9_isSheet wsX9_isSheet) := goodIn_app (goodIn_of _ (by decide +kernel)) ggX9_put_X9_isSheet
set_option maxRecDepth 20000 in
theorem ggX9_put_X9_faultless : GoodIn wsX9_put wsX9_faultless := goodIn_r _ [10, 11, 28, 29, 30, 31, 32, 33, 34, 35, 36] (by decide +kernel) (by decide +kernel)
set_option maxRecDepth 20000 in
theorem gX9_put_X9_faultless : GoodIn wsX9_put (wsV RX9 152 RX9 yX9_faultless wsX9_faultless) := goodIn_app (goodIn_of _ (by decide +kernel)) ggX9_put_X9_faultless
set_option maxRecDepth 20000 in
theorem ggX9_put_X9_faulted : GoodIn wsX9_put wsX9_faulted := goodIn_r _ [15, 11, 28, 29, 30, 31, 32, 33, 34, 35, 36] (by decide +kernel) (by decide +kernel)
set_option maxRecDepth 20000 in
theorem gX9_put_X9_faulted : GoodIn wsX9_put (wsV RX9 162 RX9 yX9_faulted wsX9_faulted) := goodIn_app (goodIn_of _ (by decide +kernel)) ggX9_put_X9_faulted
set_option maxRecDepth 20000 in
theorem ggX9_put_X6_hasCell : GoodIn wsX9_put wsX6_hasCell := goodIn_r _ [20, 21, 37, 38, 39, 40] (by decide +kernel) (by decide +kernel)
set_option maxRecDepth 20000 in
theorem gX9_put_X6_hasCell : GoodIn wsX9_put (wsV RX9 235 RX6 yX6_hasCell wsX6_hasCell) := goodIn_app (goodIn_of _ (by decide +kernel)) ggX9_put_X6_hasCell
set_option maxRecDepth 20000 in
theorem ggX9_put_X6_setCell : GoodIn wsX9_put wsX6_setCell := goodIn_r _ [25, 26, 27, 37, 38, 39, 40] (by decide +kernel) (by decide +kernel)
set_option maxRecDepth 20000 in
theorem gX9_put_X6_setCell : GoodIn wsX9_put (wsV RX9 238 RX6 yX6_setCell wsX6_setCell) := goodIn_app (goodIn_of _ (by decide +kernel)) ggX9_put_X6_setCell
theorem dX9_put_0 : decode cX9_put 0 = .ok (.iload_n 1, 1) := by decide +kernel
theorem dX9_put_1 : decode cX9_put 1 = .ok (.invokestatic 149, 3) := by decide +kernel
theorem dX9_put_4 : decode cX9_put 4 = .ok (.ifCond .ne 9, 3) := by decide +kernel
theorem dX9_put_7 : decode cX9_put 7 = .ok (.aload_n 0, 1) := by decide +kernel
theorem dX9_put_8 : decode cX9_put 8 = .ok (.iconst (-1), 1) := by decide +kernel
theorem dX9_put_9 : decode cX9_put 9 = .ok (.invokevirtual 152, 3) := by decide +kernel
theorem dX9_put_12 : decode cX9_put 12 = .ok (.ireturn, 1) := by decide +kernel
theorem dX9_put_13 : decode cX9_put 13 = .ok (.aload_n 0, 1) := by decide +kernel
theorem dX9_put_14 : decode cX9_put 14 = .ok (.getfield 34, 3) := by decide +kernel
theorem dX9_put_17 : decode cX9_put 17 = .ok (.iload_n 1, 1) := by decide +kernel
theorem dX9_put_18 : decode cX9_put 18 = .ok (.aaload, 1) := by decide +kernel
theorem dX9_put_19 : decode cX9_put 19 = .ok (.astore 5, 2) := by decide +kernel
theorem dX9_put_21 : decode cX9_put 21 = .ok (.aload 5, 2) := by decide +kernel
theorem dX9_put_23 : decode cX9_put 23 = .ok (.getfield 212, 3) := by decide +kernel
theorem dX9_put_26 : decode cX9_put 26 = .ok (.ifCond .ne 9, 3) := by decide +kernel
theorem dX9_put_29 : decode cX9_put 29 = .ok (.aload_n 0, 1) := by decide +kernel
theorem dX9_put_30 : decode cX9_put 30 = .ok (.iconst 1, 1) := by decide +kernel
theorem dX9_put_31 : decode cX9_put 31 = .ok (.invokevirtual 162, 3) := by decide +kernel
theorem dX9_put_34 : decode cX9_put 34 = .ok (.ireturn, 1) := by decide +kernel
theorem dX9_put_35 : decode cX9_put 35 = .ok (.aload 5, 2) := by decide +kernel
theorem dX9_put_37 : decode cX9_put 37 = .ok (.iload_n 2, 1) := by decide +kernel
theorem dX9_put_38 : decode cX9_put 38 = .ok (.invokevirtual 235, 3) := by decide +kernel
theorem dX9_put_41 : decode cX9_put 41 = .ok (.ifCond .ne 9, 3) := by decide +kernel
theorem dX9_put_44 : decode cX9_put 44 = .ok (.aload_n 0, 1) := by decide +kernel
theorem dX9_put_45 : decode cX9_put 45 = .ok (.iconst 3, 1) := by decide +kernel
theorem dX9_put_46 : decode cX9_put 46 = .ok (.invokevirtual 162, 3) := by decide +kernel
theorem dX9_put_49 : decode cX9_put 49 = .ok (.ireturn, 1) := by decide +kernel
theorem dX9_put_50 : decode cX9_put 50 = .ok (.aload 5, 2) := by decide +kernel
theorem dX9_put_52 : decode cX9_put 52 = .ok (.iload_n 2, 1) := by decide +kernel
theorem dX9_put_53 : decode cX9_put 53 = .ok (.lload_n 3, 1) := by decide +kernel
theorem dX9_put_54 : decode cX9_put 54 = .ok (.invokevirtual 238, 3) := by decide +kernel
theorem dX9_put_57 : decode cX9_put 57 = .ok (.aload_n 0, 1) := by decide +kernel
theorem dX9_put_58 : decode cX9_put 58 = .ok (.iconst 1, 1) := by decide +kernel
theorem dX9_put_59 : decode cX9_put 59 = .ok (.invokevirtual 152, 3) := by decide +kernel
theorem dX9_put_62 : decode cX9_put 62 = .ok (.ireturn, 1) := by decide +kernel
set_option maxRecDepth 20000 in
theorem ggX9_cell_X9_isSheet : GoodIn wsX9_cell wsX9_isSheet := goodIn_r _ [7] (by decide +kernel) (by decide +kernel)
set_option maxRecDepth 20000 in
theorem gX9_cell_X9_isSheet : GoodIn wsX9_cell (va_wsS RX9 149 yX9_isSheet wsX9_isSheet) := goodIn_app (goodIn_of _ (by decide +kernel)) ggX9_cell_X9_isSheet
set_option maxRecDepth 20000 in
theorem ggX9_cell_X9_isLane : GoodIn wsX9_cell wsX9_isLane := goodIn_r _ [10] (by decide +kernel) (by decide +kernel)
set_option maxRecDepth 20000 in
theorem gX9_cell_X9_isLane : GoodIn wsX9_cell (va_wsS RX9 155 yX9_isLane wsX9_isLane) := goodIn_app (goodIn_of _ (by decide +kernel)) ggX9_cell_X9_isLane
set_option maxRecDepth 20000 in
theorem ggX9_cell_X9_cellFlaw : GoodIn wsX9_cell wsX9_cellFlaw := goodIn_r _ [13, 14, 15, 16, 17, 18, 19, 20, 21, 36, 37, 38, 39] (by decide +kernel) (by decide +kernel)
set_option maxRecDepth 20000 in
theorem gX9_cell_X9_cellFlaw : GoodIn wsX9_cell (va_wsS RX9 242 yX9_cellFlaw wsX9_cellFlaw) := goodIn_app (goodIn_of _ (by decide +kernel)) ggX9_cell_X9_cellFlaw
set_option maxRecDepth 20000 in
theorem ggX9_cell_X6_cellAt : GoodIn wsX9_cell wsX6_cellAt := goodIn_r _ [25, 26, 36, 37, 38, 39] (by decide +kernel) (by decide +kernel)
set_option maxRecDepth 20000 in
theorem gX9_cell_X6_cellAt : GoodIn wsX9_cell (wsV RX9 246 RX6 yX6_cellAt wsX6_cellAt) := goodIn_app (goodIn_of _ (by decide +kernel)) ggX9_cell_X6_cellAt
theorem dX9_cell_0 : decode cX9_cell 0 = .ok (.aload_n 0, 1) := by decide +kernel
theorem dX9_cell_1 : decode cX9_cell 1 = .ok (.iconst 0, 1) := by decide +kernel
theorem dX9_cell_2 : decode cX9_cell 2 = .ok (.putfield 67, 3) := by decide +kernel
theorem dX9_cell_5 : decode cX9_cell 5 = .ok (.iload_n 1, 1) := by decide +kernel
theorem dX9_cell_6 : decode cX9_cell 6 = .ok (.invokestatic 149, 3) := by decide +kernel
theorem dX9_cell_9 : decode cX9_cell 9 = .ok (.ifCond .eq 10, 3) := by decide +kernel
theorem dX9_cell_12 : decode cX9_cell 12 = .ok (.iload_n 3, 1) := by decide +kernel
theorem dX9_cell_13 : decode cX9_cell 13 = .ok (.invokestatic 155, 3) := by decide +kernel
theorem dX9_cell_16 : decode cX9_cell 16 = .ok (.ifCond .ne 7, 3) := by decide +kernel
theorem dX9_cell_19 : decode cX9_cell 19 = .ok (.ldc2_w 95, 3) := by decide +kernel
theorem dX9_cell_22 : decode cX9_cell 22 = .ok (.lreturn, 1) := by decide +kernel
theorem dX9_cell_23 : decode cX9_cell 23 = .ok (.aload_n 0, 1) := by decide +kernel
theorem dX9_cell_24 : decode cX9_cell 24 = .ok (.getfield 34, 3) := by decide +kernel
theorem dX9_cell_27 : decode cX9_cell 27 = .ok (.iload_n 1, 1) := by decide +kernel
theorem dX9_cell_28 : decode cX9_cell 28 = .ok (.aaload, 1) := by decide +kernel
theorem dX9_cell_29 : decode cX9_cell 29 = .ok (.astore 4, 2) := by decide +kernel
theorem dX9_cell_31 : decode cX9_cell 31 = .ok (.aload_n 0, 1) := by decide +kernel
theorem dX9_cell_32 : decode cX9_cell 32 = .ok (.aload 4, 2) := by decide +kernel
theorem dX9_cell_34 : decode cX9_cell 34 = .ok (.iload_n 2, 1) := by decide +kernel
theorem dX9_cell_35 : decode cX9_cell 35 = .ok (.iload_n 3, 1) := by decide +kernel
theorem dX9_cell_36 : decode cX9_cell 36 = .ok (.invokestatic 242, 3) := by decide +kernel
theorem dX9_cell_39 : decode cX9_cell 39 = .ok (.putfield 67, 3) := by decide +kernel
theorem dX9_cell_42 : decode cX9_cell 42 = .ok (.aload_n 0, 1) := by decide +kernel
theorem dX9_cell_43 : decode cX9_cell 43 = .ok (.getfield 67, 3) := by decide +kernel
theorem dX9_cell_46 : decode cX9_cell 46 = .ok (.ifCond .ne 12, 3) := by decide +kernel
theorem dX9_cell_49 : decode cX9_cell 49 = .ok (.aload 4, 2) := by decide +kernel
theorem dX9_cell_51 : decode cX9_cell 51 = .ok (.iload_n 2, 1) := by decide +kernel
theorem dX9_cell_52 : decode cX9_cell 52 = .ok (.invokevirtual 246, 3) := by decide +kernel
theorem dX9_cell_55 : decode cX9_cell 55 = .ok (.goto 6, 3) := by decide +kernel
theorem dX9_cell_58 : decode cX9_cell 58 = .ok (.ldc2_w 95, 3) := by decide +kernel
theorem dX9_cell_61 : decode cX9_cell 61 = .ok (.lreturn, 1) := by decide +kernel
set_option maxRecDepth 20000 in
theorem ggX9_copy_X9_isSheet : GoodIn wsX9_copy wsX9_isSheet := goodIn_r _ [12] (by decide +kernel) (by decide +kernel)
set_option maxRecDepth 20000 in
theorem gX9_copy_X9_isSheet : GoodIn wsX9_copy (va_wsS RX9 149 yX9_isSheet wsX9_isSheet) := goodIn_app (goodIn_of _ (by decide +kernel)) ggX9_copy_X9_isSheet
set_option maxRecDepth 20000 in
theorem ggX9_copy_X9_faultless : GoodIn wsX9_copy wsX9_faultless := goodIn_r _ [16, 17, 28, 29, 30, 31, 32, 33, 34, 35, 36] (by decide +kernel) (by decide +kernel)
set_option maxRecDepth 20000 in
theorem gX9_copy_X9_faultless : GoodIn wsX9_copy (wsV RX9 152 RX9 yX9_faultless wsX9_faultless) := goodIn_app (goodIn_of _ (by decide +kernel)) ggX9_copy_X9_faultless
set_option maxRecDepth 20000 in
theorem ggX9_copy_X9_faulted : GoodIn wsX9_copy wsX9_faulted := goodIn_r _ [21, 17, 28, 29, 30, 31, 32, 33, 34, 35, 36] (by decide +kernel) (by decide +kernel)
set_option maxRecDepth 20000 in
theorem gX9_copy_X9_faulted : GoodIn wsX9_copy (wsV RX9 162 RX9 yX9_faulted wsX9_faulted) := goodIn_app (goodIn_of _ (by decide +kernel)) ggX9_copy_X9_faulted
set_option maxRecDepth 20000 in
theorem ggX9_copy_X6_hasCells : GoodIn wsX9_copy wsX6_hasCells := goodIn_r _ [26, 27, 37, 38, 39, 40] (by decide +kernel) (by decide +kernel)
set_option maxRecDepth 20000 in
theorem gX9_copy_X6_hasCells : GoodIn wsX9_copy (wsV RX9 252 RX6 yX6_hasCells wsX6_hasCells) := goodIn_app (goodIn_of _ (by decide +kernel)) ggX9_copy_X6_hasCells
theorem dX9_copy_0 : decode cX9_copy 0 = .ok (.iload_n 1, 1) := by decide +kernel
theorem dX9_copy_1 : decode cX9_copy 1 = .ok (.invokestatic 149, 3) := by decide +kernel
theorem dX9_copy_4 : decode cX9_copy 4 = .ok (.ifCond .eq 10, 3) := by decide +kernel
theorem dX9_copy_7 : decode cX9_copy 7 = .ok (.iload_n 3, 1) := by decide +kernel
theorem dX9_copy_8 : decode cX9_copy 8 = .ok (.invokestatic 149, 3) := by decide +kernel
theorem dX9_copy_11 : decode cX9_copy 11 = .ok (.ifCond .ne 9, 3) := by decide +kernel
theorem dX9_copy_14 : decode cX9_copy 14 = .ok (.aload_n 0, 1) := by decide +kernel
theorem dX9_copy_15 : decode cX9_copy 15 = .ok (.iconst (-1), 1) := by decide +kernel
theorem dX9_copy_16 : decode cX9_copy 16 = .ok (.invokevirtual 152, 3) := by decide +kernel
theorem dX9_copy_19 : decode cX9_copy 19 = .ok (.ireturn, 1) := by decide +kernel
theorem dX9_copy_20 : decode cX9_copy 20 = .ok (.aload_n 0, 1) := by decide +kernel
theorem dX9_copy_21 : decode cX9_copy 21 = .ok (.getfield 34, 3) := by decide +kernel
theorem dX9_copy_24 : decode cX9_copy 24 = .ok (.iload_n 1, 1) := by decide +kernel
theorem dX9_copy_25 : decode cX9_copy 25 = .ok (.aaload, 1) := by decide +kernel
theorem dX9_copy_26 : decode cX9_copy 26 = .ok (.astore 6, 2) := by decide +kernel
theorem dX9_copy_28 : decode cX9_copy 28 = .ok (.aload_n 0, 1) := by decide +kernel
theorem dX9_copy_29 : decode cX9_copy 29 = .ok (.getfield 34, 3) := by decide +kernel
theorem dX9_copy_32 : decode cX9_copy 32 = .ok (.iload_n 3, 1) := by decide +kernel
theorem dX9_copy_33 : decode cX9_copy 33 = .ok (.aaload, 1) := by decide +kernel
theorem dX9_copy_34 : decode cX9_copy 34 = .ok (.astore 7, 2) := by decide +kernel
theorem dX9_copy_36 : decode cX9_copy 36 = .ok (.aload 6, 2) := by decide +kernel
theorem dX9_copy_38 : decode cX9_copy 38 = .ok (.getfield 212, 3) := by decide +kernel
theorem dX9_copy_41 : decode cX9_copy 41 = .ok (.ifCond .eq 11, 3) := by decide +kernel
theorem dX9_copy_44 : decode cX9_copy 44 = .ok (.aload 7, 2) := by decide +kernel
theorem dX9_copy_46 : decode cX9_copy 46 = .ok (.getfield 212, 3) := by decide +kernel
theorem dX9_copy_49 : decode cX9_copy 49 = .ok (.ifCond .ne 9, 3) := by decide +kernel
theorem dX9_copy_52 : decode cX9_copy 52 = .ok (.aload_n 0, 1) := by decide +kernel
theorem dX9_copy_53 : decode cX9_copy 53 = .ok (.iconst 1, 1) := by decide +kernel
