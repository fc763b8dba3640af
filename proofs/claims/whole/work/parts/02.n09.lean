theorem dX10_count_19 : decode cX10_count 19 = .ok (.i2l, 1) := by decide +kernel
theorem dX10_count_20 : decode cX10_count 20 = .ok (.invokestatic 79, 3) := by decide +kernel
theorem dX10_count_23 : decode cX10_count 23 = .ok (.ifCond .ne 6, 3) := by decide +kernel
theorem dX10_count_26 : decode cX10_count 26 = .ok (.bipush (-2), 2) := by decide +kernel
theorem dX10_count_28 : decode cX10_count 28 = .ok (.ireturn, 1) := by decide +kernel
theorem dX10_count_29 : decode cX10_count 29 = .ok (.aload_n 0, 1) := by decide +kernel
theorem dX10_count_30 : decode cX10_count 30 = .ok (.invokevirtual 203, 3) := by decide +kernel
theorem dX10_count_33 : decode cX10_count 33 = .ok (.aload_n 0, 1) := by decide +kernel
theorem dX10_count_34 : decode cX10_count 34 = .ok (.getfield 42, 3) := by decide +kernel
theorem dX10_count_37 : decode cX10_count 37 = .ok (.iload_n 1, 1) := by decide +kernel
theorem dX10_count_38 : decode cX10_count 38 = .ok (.iaload, 1) := by decide +kernel
theorem dX10_count_39 : decode cX10_count 39 = .ok (.ireturn, 1) := by decide +kernel
set_option maxRecDepth 20000 in
theorem ggX10_across_X10_in : GoodIn wsX10_across wsX10_in := goodIn_r _ [6] (by decide +kernel) (by decide +kernel)
set_option maxRecDepth 20000 in
theorem gX10_across_X10_in : GoodIn wsX10_across (va_wsS RX10 79 yX10_in wsX10_in) := goodIn_app (goodIn_of _ (by decide +kernel)) ggX10_across_X10_in
set_option maxRecDepth 20000 in
theorem ggX10_across_X10_countAll : GoodIn wsX10_across wsX10_countAll := goodIn_r _ [10, 11, 12, 2, 13, 1, 14, 15, 16, 17, 18, 19, 5, 20, 21, 22, 23, 24, 25, 26, 27, 28, 29, 30, 31, 32, 33, 34, 35, 36, 37, 38, 39, 40, 41, 42, 43, 44, 45, 46, 47, 48, 49, 50, 51, 52, 53, 54, 55, 56, 57, 58, 59, 60, 61, 62, 63, 64, 65, 66, 67, 68, 69, 70, 71, 72] (by decide +kernel) (by decide +kernel)
set_option maxRecDepth 20000 in
theorem gX10_across_X10_countAll : GoodIn wsX10_across (wsV RX10 203 RX10 yX10_countAll wsX10_countAll) := goodIn_app (goodIn_of _ (by decide +kernel)) ggX10_across_X10_countAll
theorem dX10_across_0 : decode cX10_across 0 = .ok (.aload_n 0, 1) := by decide +kernel
theorem dX10_across_1 : decode cX10_across 1 = .ok (.getfield 54, 3) := by decide +kernel
theorem dX10_across_4 : decode cX10_across 4 = .ok (.bipush 32, 2) := by decide +kernel
theorem dX10_across_6 : decode cX10_across 6 = .ok (.if_icmp .ne 6, 3) := by decide +kernel
theorem dX10_across_9 : decode cX10_across 9 = .ok (.bipush (-3), 2) := by decide +kernel
theorem dX10_across_11 : decode cX10_across 11 = .ok (.ireturn, 1) := by decide +kernel
theorem dX10_across_12 : decode cX10_across 12 = .ok (.iload_n 1, 1) := by decide +kernel
theorem dX10_across_13 : decode cX10_across 13 = .ok (.i2l, 1) := by decide +kernel
theorem dX10_across_14 : decode cX10_across 14 = .ok (.lconst 0, 1) := by decide +kernel
theorem dX10_across_15 : decode cX10_across 15 = .ok (.aload_n 0, 1) := by decide +kernel
theorem dX10_across_16 : decode cX10_across 16 = .ok (.getfield 54, 3) := by decide +kernel
theorem dX10_across_19 : decode cX10_across 19 = .ok (.i2l, 1) := by decide +kernel
theorem dX10_across_20 : decode cX10_across 20 = .ok (.invokestatic 79, 3) := by decide +kernel
theorem dX10_across_23 : decode cX10_across 23 = .ok (.ifCond .ne 6, 3) := by decide +kernel
theorem dX10_across_26 : decode cX10_across 26 = .ok (.bipush (-2), 2) := by decide +kernel
theorem dX10_across_28 : decode cX10_across 28 = .ok (.ireturn, 1) := by decide +kernel
theorem dX10_across_29 : decode cX10_across 29 = .ok (.aload_n 0, 1) := by decide +kernel
theorem dX10_across_30 : decode cX10_across 30 = .ok (.invokevirtual 203, 3) := by decide +kernel
theorem dX10_across_33 : decode cX10_across 33 = .ok (.aload_n 0, 1) := by decide +kernel
theorem dX10_across_34 : decode cX10_across 34 = .ok (.getfield 45, 3) := by decide +kernel
theorem dX10_across_37 : decode cX10_across 37 = .ok (.iload_n 1, 1) := by decide +kernel
theorem dX10_across_38 : decode cX10_across 38 = .ok (.iaload, 1) := by decide +kernel
theorem dX10_across_39 : decode cX10_across 39 = .ok (.ireturn, 1) := by decide +kernel
set_option maxRecDepth 20000 in
theorem ggX10_fails_X10_in : GoodIn wsX10_fails wsX10_in := goodIn_r _ [6] (by decide +kernel) (by decide +kernel)
set_option maxRecDepth 20000 in
theorem gX10_fails_X10_in : GoodIn wsX10_fails (va_wsS RX10 79 yX10_in wsX10_in) := goodIn_app (goodIn_of _ (by decide +kernel)) ggX10_fails_X10_in
set_option maxRecDepth 20000 in
theorem ggX10_fails_X10_countAll : GoodIn wsX10_fails wsX10_countAll := goodIn_r _ [10, 11, 12, 13, 2, 1, 14, 15, 16, 17, 18, 19, 5, 20, 21, 22, 23, 24, 25, 26, 27, 28, 29, 30, 31, 32, 33, 34, 35, 36, 37, 38, 39, 40, 41, 42, 43, 44, 45, 46, 47, 48, 49, 50, 51, 52, 53, 54, 55, 56, 57, 58, 59, 60, 61, 62, 63, 64, 65, 66, 67, 68, 69, 70, 71, 72] (by decide +kernel) (by decide +kernel)
set_option maxRecDepth 20000 in
theorem gX10_fails_X10_countAll : GoodIn wsX10_fails (wsV RX10 203 RX10 yX10_countAll wsX10_countAll) := goodIn_app (goodIn_of _ (by decide +kernel)) ggX10_fails_X10_countAll
theorem dX10_fails_0 : decode cX10_fails 0 = .ok (.aload_n 0, 1) := by decide +kernel
theorem dX10_fails_1 : decode cX10_fails 1 = .ok (.getfield 54, 3) := by decide +kernel
theorem dX10_fails_4 : decode cX10_fails 4 = .ok (.bipush 32, 2) := by decide +kernel
theorem dX10_fails_6 : decode cX10_fails 6 = .ok (.if_icmp .ne 6, 3) := by decide +kernel
theorem dX10_fails_9 : decode cX10_fails 9 = .ok (.bipush (-3), 2) := by decide +kernel
theorem dX10_fails_11 : decode cX10_fails 11 = .ok (.ireturn, 1) := by decide +kernel
theorem dX10_fails_12 : decode cX10_fails 12 = .ok (.iload_n 1, 1) := by decide +kernel
theorem dX10_fails_13 : decode cX10_fails 13 = .ok (.i2l, 1) := by decide +kernel
theorem dX10_fails_14 : decode cX10_fails 14 = .ok (.lconst 0, 1) := by decide +kernel
theorem dX10_fails_15 : decode cX10_fails 15 = .ok (.aload_n 0, 1) := by decide +kernel
theorem dX10_fails_16 : decode cX10_fails 16 = .ok (.getfield 54, 3) := by decide +kernel
theorem dX10_fails_19 : decode cX10_fails 19 = .ok (.i2l, 1) := by decide +kernel
theorem dX10_fails_20 : decode cX10_fails 20 = .ok (.invokestatic 79, 3) := by decide +kernel
theorem dX10_fails_23 : decode cX10_fails 23 = .ok (.ifCond .ne 6, 3) := by decide +kernel
theorem dX10_fails_26 : decode cX10_fails 26 = .ok (.bipush (-2), 2) := by decide +kernel
theorem dX10_fails_28 : decode cX10_fails 28 = .ok (.ireturn, 1) := by decide +kernel
theorem dX10_fails_29 : decode cX10_fails 29 = .ok (.aload_n 0, 1) := by decide +kernel
theorem dX10_fails_30 : decode cX10_fails 30 = .ok (.invokevirtual 203, 3) := by decide +kernel
theorem dX10_fails_33 : decode cX10_fails 33 = .ok (.aload_n 0, 1) := by decide +kernel
theorem dX10_fails_34 : decode cX10_fails 34 = .ok (.getfield 48, 3) := by decide +kernel
theorem dX10_fails_37 : decode cX10_fails 37 = .ok (.iload_n 1, 1) := by decide +kernel
theorem dX10_fails_38 : decode cX10_fails 38 = .ok (.iaload, 1) := by decide +kernel
theorem dX10_fails_39 : decode cX10_fails 39 = .ok (.ireturn, 1) := by decide +kernel
theorem dX10_traced_0 : decode cX10_traced 0 = .ok (.aload_n 0, 1) := by decide +kernel
theorem dX10_traced_1 : decode cX10_traced 1 = .ok (.bipush 31, 2) := by decide +kernel
theorem dX10_traced_3 : decode cX10_traced 3 = .ok (.aload_n 0, 1) := by decide +kernel
theorem dX10_traced_4 : decode cX10_traced 4 = .ok (.getfield 206, 3) := by decide +kernel
theorem dX10_traced_7 : decode cX10_traced 7 = .ok (.imul, 1) := by decide +kernel
theorem dX10_traced_8 : decode cX10_traced 8 = .ok (.iload_n 1, 1) := by decide +kernel
theorem dX10_traced_9 : decode cX10_traced 9 = .ok (.iadd, 1) := by decide +kernel
theorem dX10_traced_10 : decode cX10_traced 10 = .ok (.putfield 206, 3) := by decide +kernel
theorem dX10_traced_13 : decode cX10_traced 13 = .ok (.return_, 1) := by decide +kernel
set_option maxRecDepth 20000 in
theorem ggX10_isBest_X10_lowest : GoodIn wsX10_isBest wsX10_lowest := goodIn_r _ [6, 7, 8, 9, 10, 17, 18, 19, 20, 21, 22, 23, 24, 25, 26, 27, 28, 29, 30, 31, 32, 33, 34, 35, 36, 37, 38, 39, 40, 41] (by decide +kernel) (by decide +kernel)
set_option maxRecDepth 20000 in
theorem gX10_isBest_X10_lowest : GoodIn wsX10_isBest (wsV RX10 99 RX10 yX10_lowest wsX10_lowest) := goodIn_app (goodIn_of _ (by decide +kernel)) ggX10_isBest_X10_lowest
set_option maxRecDepth 20000 in
theorem ggX10_isBest_X10_shareOf : GoodIn wsX10_isBest wsX10_shareOf := goodIn_r _ [14, 15, 8, 7, 16, 17, 18, 19, 20, 21, 22, 23, 24, 25, 26, 27, 28, 29, 30, 31, 32, 33, 34, 35, 36, 37, 38, 39, 40, 41] (by decide +kernel) (by decide +kernel)
set_option maxRecDepth 20000 in
theorem gX10_isBest_X10_shareOf : GoodIn wsX10_isBest (wsV RX10 102 RX10 yX10_shareOf wsX10_shareOf) := goodIn_app (goodIn_of _ (by decide +kernel)) ggX10_isBest_X10_shareOf
theorem dX10_isBest_0 : decode cX10_isBest 0 = .ok (.aload_n 0, 1) := by decide +kernel
theorem dX10_isBest_1 : decode cX10_isBest 1 = .ok (.getfield 7, 3) := by decide +kernel
theorem dX10_isBest_4 : decode cX10_isBest 4 = .ok (.iload_n 1, 1) := by decide +kernel
theorem dX10_isBest_5 : decode cX10_isBest 5 = .ok (.baload, 1) := by decide +kernel
theorem dX10_isBest_6 : decode cX10_isBest 6 = .ok (.ifCond .eq 26, 3) := by decide +kernel
theorem dX10_isBest_9 : decode cX10_isBest 9 = .ok (.aload_n 0, 1) := by decide +kernel
theorem dX10_isBest_10 : decode cX10_isBest 10 = .ok (.invokevirtual 99, 3) := by decide +kernel
theorem dX10_isBest_13 : decode cX10_isBest 13 = .ok (.lconst 0, 1) := by decide +kernel
theorem dX10_isBest_14 : decode cX10_isBest 14 = .ok (.lcmp, 1) := by decide +kernel
theorem dX10_isBest_15 : decode cX10_isBest 15 = .ok (.ifCond .lt 17, 3) := by decide +kernel
theorem dX10_isBest_18 : decode cX10_isBest 18 = .ok (.aload_n 0, 1) := by decide +kernel
theorem dX10_isBest_19 : decode cX10_isBest 19 = .ok (.iload_n 1, 1) := by decide +kernel
theorem dX10_isBest_20 : decode cX10_isBest 20 = .ok (.invokevirtual 102, 3) := by decide +kernel
theorem dX10_isBest_23 : decode cX10_isBest 23 = .ok (.lconst 0, 1) := by decide +kernel
theorem dX10_isBest_24 : decode cX10_isBest 24 = .ok (.lcmp, 1) := by decide +kernel
theorem dX10_isBest_25 : decode cX10_isBest 25 = .ok (.ifCond .ne 7, 3) := by decide +kernel
theorem dX10_isBest_28 : decode cX10_isBest 28 = .ok (.iconst 1, 1) := by decide +kernel
theorem dX10_isBest_29 : decode cX10_isBest 29 = .ok (.goto 4, 3) := by decide +kernel
theorem dX10_isBest_32 : decode cX10_isBest 32 = .ok (.iconst 0, 1) := by decide +kernel
theorem dX10_isBest_33 : decode cX10_isBest 33 = .ok (.ireturn, 1) := by decide +kernel
set_option maxRecDepth 20000 in
theorem ggX10_tell_X10_noPlace : GoodIn wsX10_tell wsX10_noPlace := goodIn_r _ [7, 8, 9, 10, 6, 11, 34, 35, 36, 37, 38, 39, 40, 41, 42, 43, 44, 45, 46, 47, 48, 49, 50, 51, 52, 53, 54, 55, 56, 57, 58] (by decide +kernel) (by decide +kernel)
set_option maxRecDepth 20000 in
theorem gX10_tell_X10_noPlace : GoodIn wsX10_tell (wsV RX10 95 RX10 yX10_noPlace wsX10_noPlace) := goodIn_app (goodIn_of _ (by decide +kernel)) ggX10_tell_X10_noPlace
set_option maxRecDepth 20000 in
theorem ggX10_tell_X10_traced : GoodIn wsX10_tell wsX10_traced := goodIn_r _ [15, 16, 34, 35, 36, 37, 38, 39, 40, 41, 42, 43, 44, 45, 46, 47, 48, 49, 50, 51, 52, 53, 54, 55, 56, 57, 58] (by decide +kernel) (by decide +kernel)
set_option maxRecDepth 20000 in
theorem gX10_tell_X10_traced : GoodIn wsX10_tell (wsV RX10 209 RX10 yX10_traced wsX10_traced) := goodIn_app (goodIn_of _ (by decide +kernel)) ggX10_tell_X10_traced
set_option maxRecDepth 20000 in
theorem ggX10_tell_X10_isBest : GoodIn wsX10_tell wsX10_isBest := goodIn_r _ [20, 1, 21, 22, 23, 6, 24, 8, 25, 26, 27, 28, 29, 30, 31, 32, 33, 34, 35, 36, 37, 38, 39, 40, 41, 42, 43, 44, 45, 46, 47, 48, 49, 50, 51, 52, 53, 54, 55, 56, 57, 58] (by decide +kernel) (by decide +kernel)
set_option maxRecDepth 20000 in
theorem gX10_tell_X10_isBest : GoodIn wsX10_tell (wsV RX10 212 RX10 yX10_isBest wsX10_isBest) := goodIn_app (goodIn_of _ (by decide +kernel)) ggX10_tell_X10_isBest
theorem dX10_tell_0 : decode cX10_tell 0 = .ok (.aload_n 0, 1) := by decide +kernel
theorem dX10_tell_1 : decode cX10_tell 1 = .ok (.iload_n 1, 1) := by decide +kernel
theorem dX10_tell_2 : decode cX10_tell 2 = .ok (.invokevirtual 95, 3) := by decide +kernel
theorem dX10_tell_5 : decode cX10_tell 5 = .ok (.ifCond .eq 5, 3) := by decide +kernel
theorem dX10_tell_8 : decode cX10_tell 8 = .ok (.iconst (-1), 1) := by decide +kernel
theorem dX10_tell_9 : decode cX10_tell 9 = .ok (.ireturn, 1) := by decide +kernel
theorem dX10_tell_10 : decode cX10_tell 10 = .ok (.aload_n 0, 1) := by decide +kernel
theorem dX10_tell_11 : decode cX10_tell 11 = .ok (.getfield 7, 3) := by decide +kernel
theorem dX10_tell_14 : decode cX10_tell 14 = .ok (.iload_n 1, 1) := by decide +kernel
theorem dX10_tell_15 : decode cX10_tell 15 = .ok (.baload, 1) := by decide +kernel
theorem dX10_tell_16 : decode cX10_tell 16 = .ok (.ifCond .ne 15, 3) := by decide +kernel
theorem dX10_tell_19 : decode cX10_tell 19 = .ok (.aload_n 0, 1) := by decide +kernel
theorem dX10_tell_20 : decode cX10_tell 20 = .ok (.iconst 1, 1) := by decide +kernel
theorem dX10_tell_21 : decode cX10_tell 21 = .ok (.invokevirtual 209, 3) := by decide +kernel
theorem dX10_tell_24 : decode cX10_tell 24 = .ok (.aload_n 0, 1) := by decide +kernel
theorem dX10_tell_25 : decode cX10_tell 25 = .ok (.getfield 13, 3) := by decide +kernel
theorem dX10_tell_28 : decode cX10_tell 28 = .ok (.iload_n 1, 1) := by decide +kernel
theorem dX10_tell_29 : decode cX10_tell 29 = .ok (.iaload, 1) := by decide +kernel
theorem dX10_tell_30 : decode cX10_tell 30 = .ok (.ireturn, 1) := by decide +kernel
theorem dX10_tell_31 : decode cX10_tell 31 = .ok (.aload_n 0, 1) := by decide +kernel
theorem dX10_tell_32 : decode cX10_tell 32 = .ok (.iload_n 1, 1) := by decide +kernel
theorem dX10_tell_33 : decode cX10_tell 33 = .ok (.invokevirtual 212, 3) := by decide +kernel
theorem dX10_tell_36 : decode cX10_tell 36 = .ok (.ifCond .eq 8, 3) := by decide +kernel
theorem dX10_tell_39 : decode cX10_tell 39 = .ok (.aload_n 0, 1) := by decide +kernel
theorem dX10_tell_40 : decode cX10_tell 40 = .ok (.iconst 3, 1) := by decide +kernel
theorem dX10_tell_41 : decode cX10_tell 41 = .ok (.invokevirtual 209, 3) := by decide +kernel
theorem dX10_tell_44 : decode cX10_tell 44 = .ok (.aload_n 0, 1) := by decide +kernel
theorem dX10_tell_45 : decode cX10_tell 45 = .ok (.iconst 2, 1) := by decide +kernel
theorem dX10_tell_46 : decode cX10_tell 46 = .ok (.invokevirtual 209, 3) := by decide +kernel
theorem dX10_tell_49 : decode cX10_tell 49 = .ok (.aload_n 0, 1) := by decide +kernel
theorem dX10_tell_50 : decode cX10_tell 50 = .ok (.iload_n 1, 1) := by decide +kernel
theorem dX10_tell_51 : decode cX10_tell 51 = .ok (.invokevirtual 212, 3) := by decide +kernel
theorem dX10_tell_54 : decode cX10_tell 54 = .ok (.ifCond .eq 12, 3) := by decide +kernel
theorem dX10_tell_57 : decode cX10_tell 57 = .ok (.iconst 2, 1) := by decide +kernel
theorem dX10_tell_58 : decode cX10_tell 58 = .ok (.iload_n 1, 1) := by decide +kernel
theorem dX10_tell_59 : decode cX10_tell 59 = .ok (.bipush 10, 2) := by decide +kernel
theorem dX10_tell_61 : decode cX10_tell 61 = .ok (.iadd, 1) := by decide +kernel
theorem dX10_tell_62 : decode cX10_tell 62 = .ok (.imul, 1) := by decide +kernel
theorem dX10_tell_63 : decode cX10_tell 63 = .ok (.goto 7, 3) := by decide +kernel
theorem dX10_tell_66 : decode cX10_tell 66 = .ok (.iload_n 1, 1) := by decide +kernel
theorem dX10_tell_67 : decode cX10_tell 67 = .ok (.bipush 10, 2) := by decide +kernel
theorem dX10_tell_69 : decode cX10_tell 69 = .ok (.iadd, 1) := by decide +kernel
theorem dX10_tell_70 : decode cX10_tell 70 = .ok (.ireturn, 1) := by decide +kernel
set_option maxRecDepth 20000 in
theorem ggX10_weigh_X10_noPlace : GoodIn wsX10_weigh wsX10_noPlace := goodIn_r _ [7, 2, 8, 9, 6, 10, 16, 17, 18, 19, 20, 21, 22, 23, 24, 25, 26, 27, 28, 29, 30, 31, 32, 33, 34, 35, 36, 37, 38, 39, 40] (by decide +kernel) (by decide +kernel)
set_option maxRecDepth 20000 in
theorem gX10_weigh_X10_noPlace : GoodIn wsX10_weigh (wsV RX10 95 RX10 yX10_noPlace wsX10_noPlace) := goodIn_app (goodIn_of _ (by decide +kernel)) ggX10_weigh_X10_noPlace
set_option maxRecDepth 20000 in
theorem ggX10_weigh_X10_traced : GoodIn wsX10_weigh wsX10_traced := goodIn_r _ [14, 15, 16, 17, 18, 19, 20, 21, 22, 23, 24, 25, 26, 27, 28, 29, 30, 31, 32, 33, 34, 35, 36, 37, 38, 39, 40] (by decide +kernel) (by decide +kernel)
set_option maxRecDepth 20000 in
theorem gX10_weigh_X10_traced : GoodIn wsX10_weigh (wsV RX10 209 RX10 yX10_traced wsX10_traced) := goodIn_app (goodIn_of _ (by decide +kernel)) ggX10_weigh_X10_traced
theorem dX10_weigh_0 : decode cX10_weigh 0 = .ok (.aload_n 0, 1) := by decide +kernel
theorem dX10_weigh_1 : decode cX10_weigh 1 = .ok (.iload_n 1, 1) := by decide +kernel
theorem dX10_weigh_2 : decode cX10_weigh 2 = .ok (.invokevirtual 95, 3) := by decide +kernel
theorem dX10_weigh_5 : decode cX10_weigh 5 = .ok (.ifCond .eq 5, 3) := by decide +kernel
theorem dX10_weigh_8 : decode cX10_weigh 8 = .ok (.iconst (-1), 1) := by decide +kernel
theorem dX10_weigh_9 : decode cX10_weigh 9 = .ok (.ireturn, 1) := by decide +kernel
theorem dX10_weigh_10 : decode cX10_weigh 10 = .ok (.aload_n 0, 1) := by decide +kernel
theorem dX10_weigh_11 : decode cX10_weigh 11 = .ok (.aload_n 0, 1) := by decide +kernel
theorem dX10_weigh_12 : decode cX10_weigh 12 = .ok (.getfield 7, 3) := by decide +kernel
theorem dX10_weigh_15 : decode cX10_weigh 15 = .ok (.iload_n 1, 1) := by decide +kernel
theorem dX10_weigh_16 : decode cX10_weigh 16 = .ok (.baload, 1) := by decide +kernel
theorem dX10_weigh_17 : decode cX10_weigh 17 = .ok (.ifCond .eq 7, 3) := by decide +kernel
theorem dX10_weigh_20 : decode cX10_weigh 20 = .ok (.iconst 5, 1) := by decide +kernel
theorem dX10_weigh_21 : decode cX10_weigh 21 = .ok (.goto 4, 3) := by decide +kernel
theorem dX10_weigh_24 : decode cX10_weigh 24 = .ok (.iconst 4, 1) := by decide +kernel
theorem dX10_weigh_25 : decode cX10_weigh 25 = .ok (.invokevirtual 209, 3) := by decide +kernel
theorem dX10_weigh_28 : decode cX10_weigh 28 = .ok (.aload_n 0, 1) := by decide +kernel
theorem dX10_weigh_29 : decode cX10_weigh 29 = .ok (.getfield 7, 3) := by decide +kernel
theorem dX10_weigh_32 : decode cX10_weigh 32 = .ok (.iload_n 1, 1) := by decide +kernel
theorem dX10_weigh_33 : decode cX10_weigh 33 = .ok (.baload, 1) := by decide +kernel
theorem dX10_weigh_34 : decode cX10_weigh 34 = .ok (.ifCond .eq 12, 3) := by decide +kernel
theorem dX10_weigh_37 : decode cX10_weigh 37 = .ok (.aload_n 0, 1) := by decide +kernel
theorem dX10_weigh_38 : decode cX10_weigh 38 = .ok (.getfield 54, 3) := by decide +kernel
theorem dX10_weigh_41 : decode cX10_weigh 41 = .ok (.iload_n 1, 1) := by decide +kernel
theorem dX10_weigh_42 : decode cX10_weigh 42 = .ok (.isub, 1) := by decide +kernel
theorem dX10_weigh_43 : decode cX10_weigh 43 = .ok (.goto 4, 3) := by decide +kernel
theorem dX10_weigh_46 : decode cX10_weigh 46 = .ok (.iload_n 1, 1) := by decide +kernel
theorem dX10_weigh_47 : decode cX10_weigh 47 = .ok (.ireturn, 1) := by decide +kernel
set_option maxRecDepth 20000 in
theorem ggX10_as_X10_noPlace : GoodIn wsX10_as wsX10_noPlace := goodIn_r _ [7, 8, 9, 10, 6, 11, 37, 38, 39, 40, 41, 42, 43, 44, 45, 46, 47, 48, 49, 50, 51, 52, 53, 54, 55, 56, 57, 58, 59, 60, 61] (by decide +kernel) (by decide +kernel)
set_option maxRecDepth 20000 in
theorem gX10_as_X10_noPlace : GoodIn wsX10_as (wsV RX10 95 RX10 yX10_noPlace wsX10_noPlace) := goodIn_app (goodIn_of _ (by decide +kernel)) ggX10_as_X10_noPlace
set_option maxRecDepth 20000 in
theorem ggX10_as_X10_refused : GoodIn wsX10_as wsX10_refused := goodIn_r _ [15, 16, 37, 38, 39, 40, 41, 42, 43, 44, 45, 46, 47, 48, 49, 50, 51, 52, 53, 54, 55, 56, 57, 58, 59, 60, 61] (by decide +kernel) (by decide +kernel)
set_option maxRecDepth 20000 in
theorem gX10_as_X10_refused : GoodIn wsX10_as (wsV RX10 134 RX10 yX10_refused wsX10_refused) := goodIn_app (goodIn_of _ (by decide +kernel)) ggX10_as_X10_refused
set_option maxRecDepth 20000 in
theorem ggX10_as_X10_in : GoodIn wsX10_as wsX10_in := goodIn_r _ [11] (by decide +kernel) (by decide +kernel)
set_option maxRecDepth 20000 in
theorem gX10_as_X10_in : GoodIn wsX10_as (va_wsS RX10 79 yX10_in wsX10_in) := goodIn_app (goodIn_of _ (by decide +kernel)) ggX10_as_X10_in
set_option maxRecDepth 20000 in
theorem ggX10_as_X10_isBest : GoodIn wsX10_as wsX10_isBest := goodIn_r _ [20, 2, 21, 22, 23, 6, 24, 8, 25, 26, 27, 28, 29, 30, 31, 32, 1, 37, 38, 39, 40, 41, 42, 43, 44, 45, 46, 47, 48, 49, 50, 51, 52, 53, 54, 55, 56, 57, 58, 59, 60, 61] (by decide +kernel) (by decide +kernel)
set_option maxRecDepth 20000 in
theorem gX10_as_X10_isBest : GoodIn wsX10_as (wsV RX10 212 RX10 yX10_isBest wsX10_isBest) := goodIn_app (goodIn_of _ (by decide +kernel)) ggX10_as_X10_isBest
set_option maxRecDepth 20000 in
theorem ggX10_as_X10_failed : GoodIn wsX10_as wsX10_failed := goodIn_r _ [36, 16, 37, 38, 39, 40, 41, 42, 43, 44, 45, 46, 47, 48, 49, 50, 51, 52, 53, 54, 55, 56, 57, 58, 59, 60, 61] (by decide +kernel) (by decide +kernel)
set_option maxRecDepth 20000 in
theorem gX10_as_X10_failed : GoodIn wsX10_as (wsV RX10 138 RX10 yX10_failed wsX10_failed) := goodIn_app (goodIn_of _ (by decide +kernel)) ggX10_as_X10_failed
theorem dX10_as_0 : decode cX10_as 0 = .ok (.aload_n 0, 1) := by decide +kernel
theorem dX10_as_1 : decode cX10_as 1 = .ok (.iload_n 1, 1) := by decide +kernel
theorem dX10_as_2 : decode cX10_as 2 = .ok (.invokevirtual 95, 3) := by decide +kernel
theorem dX10_as_5 : decode cX10_as 5 = .ok (.ifCond .eq 9, 3) := by decide +kernel
theorem dX10_as_8 : decode cX10_as 8 = .ok (.aload_n 0, 1) := by decide +kernel
theorem dX10_as_9 : decode cX10_as 9 = .ok (.iconst (-1), 1) := by decide +kernel
theorem dX10_as_10 : decode cX10_as 10 = .ok (.invokevirtual 134, 3) := by decide +kernel
theorem dX10_as_13 : decode cX10_as 13 = .ok (.ireturn, 1) := by decide +kernel
theorem dX10_as_14 : decode cX10_as 14 = .ok (.iload_n 2, 1) := by decide +kernel
theorem dX10_as_15 : decode cX10_as 15 = .ok (.i2l, 1) := by decide +kernel
theorem dX10_as_16 : decode cX10_as 16 = .ok (.lconst 0, 1) := by decide +kernel
theorem dX10_as_17 : decode cX10_as 17 = .ok (.ldc2_w 93, 3) := by decide +kernel
theorem dX10_as_20 : decode cX10_as 20 = .ok (.invokestatic 79, 3) := by decide +kernel
theorem dX10_as_23 : decode cX10_as 23 = .ok (.ifCond .ne 10, 3) := by decide +kernel
theorem dX10_as_26 : decode cX10_as 26 = .ok (.aload_n 0, 1) := by decide +kernel
theorem dX10_as_27 : decode cX10_as 27 = .ok (.bipush (-2), 2) := by decide +kernel
theorem dX10_as_29 : decode cX10_as 29 = .ok (.invokevirtual 134, 3) := by decide +kernel
theorem dX10_as_32 : decode cX10_as 32 = .ok (.ireturn, 1) := by decide +kernel
theorem dX10_as_33 : decode cX10_as 33 = .ok (.iload_n 2, 1) := by decide +kernel
theorem dX10_as_34 : decode cX10_as 34 = .ok (.ifCond .ne 20, 3) := by decide +kernel
theorem dX10_as_37 : decode cX10_as 37 = .ok (.aload_n 0, 1) := by decide +kernel
theorem dX10_as_38 : decode cX10_as 38 = .ok (.getfield 7, 3) := by decide +kernel
theorem dX10_as_41 : decode cX10_as 41 = .ok (.iload_n 1, 1) := by decide +kernel
theorem dX10_as_42 : decode cX10_as 42 = .ok (.baload, 1) := by decide +kernel
theorem dX10_as_43 : decode cX10_as 43 = .ok (.ifCond .ne 7, 3) := by decide +kernel
theorem dX10_as_46 : decode cX10_as 46 = .ok (.iconst 1, 1) := by decide +kernel
theorem dX10_as_47 : decode cX10_as 47 = .ok (.goto 26, 3) := by decide +kernel
theorem dX10_as_50 : decode cX10_as 50 = .ok (.iconst 0, 1) := by decide +kernel
theorem dX10_as_51 : decode cX10_as 51 = .ok (.goto 22, 3) := by decide +kernel
theorem dX10_as_54 : decode cX10_as 54 = .ok (.iload_n 2, 1) := by decide +kernel
theorem dX10_as_55 : decode cX10_as 55 = .ok (.iconst 1, 1) := by decide +kernel
theorem dX10_as_56 : decode cX10_as 56 = .ok (.if_icmp .ne 12, 3) := by decide +kernel
theorem dX10_as_59 : decode cX10_as 59 = .ok (.aload_n 0, 1) := by decide +kernel
theorem dX10_as_60 : decode cX10_as 60 = .ok (.getfield 7, 3) := by decide +kernel
theorem dX10_as_63 : decode cX10_as 63 = .ok (.iload_n 1, 1) := by decide +kernel
theorem dX10_as_64 : decode cX10_as 64 = .ok (.baload, 1) := by decide +kernel
theorem dX10_as_65 : decode cX10_as 65 = .ok (.goto 8, 3) := by decide +kernel
theorem dX10_as_68 : decode cX10_as 68 = .ok (.aload_n 0, 1) := by decide +kernel
theorem dX10_as_69 : decode cX10_as 69 = .ok (.iload_n 1, 1) := by decide +kernel
theorem dX10_as_70 : decode cX10_as 70 = .ok (.invokevirtual 212, 3) := by decide +kernel
theorem dX10_as_73 : decode cX10_as 73 = .ok (.istore_n 3, 1) := by decide +kernel
theorem dX10_as_74 : decode cX10_as 74 = .ok (.iload_n 3, 1) := by decide +kernel
theorem dX10_as_75 : decode cX10_as 75 = .ok (.ifCond .eq 11, 3) := by decide +kernel
theorem dX10_as_78 : decode cX10_as 78 = .ok (.aload_n 0, 1) := by decide +kernel
theorem dX10_as_79 : decode cX10_as 79 = .ok (.iconst 1, 1) := by decide +kernel
theorem dX10_as_80 : decode cX10_as 80 = .ok (.invokevirtual 134, 3) := by decide +kernel
theorem dX10_as_83 : decode cX10_as 83 = .ok (.goto 8, 3) := by decide +kernel
theorem dX10_as_86 : decode cX10_as 86 = .ok (.aload_n 0, 1) := by decide +kernel
theorem dX10_as_87 : decode cX10_as 87 = .ok (.iconst 2, 1) := by decide +kernel
theorem dX10_as_88 : decode cX10_as 88 = .ok (.invokevirtual 138, 3) := by decide +kernel
theorem dX10_as_91 : decode cX10_as 91 = .ok (.ireturn, 1) := by decide +kernel
theorem dX10_trace_0 : decode cX10_trace 0 = .ok (.aload_n 0, 1) := by decide +kernel
theorem dX10_trace_1 : decode cX10_trace 1 = .ok (.getfield 206, 3) := by decide +kernel
theorem dX10_trace_4 : decode cX10_trace 4 = .ok (.ireturn, 1) := by decide +kernel
theorem dX10_fault_0 : decode cX10_fault 0 = .ok (.aload_n 0, 1) := by decide +kernel
theorem dX10_fault_1 : decode cX10_fault 1 = .ok (.getfield 72, 3) := by decide +kernel
theorem dX10_fault_4 : decode cX10_fault 4 = .ok (.ireturn, 1) := by decide +kernel
set_option maxRecDepth 20000 in
theorem ggX10_told_X10_goods : GoodIn wsX10_told wsX10_goods := goodIn_r _ [10, 1, 11, 12, 13, 14, 15, 16, 17, 18, 19, 20, 21, 22, 23, 24, 25, 26, 27, 28, 29, 30, 31, 32, 33, 34, 35, 36] (by decide +kernel) (by decide +kernel)
set_option maxRecDepth 20000 in
theorem gX10_told_X10_goods : GoodIn wsX10_told (wsV RX10 110 RX10 yX10_goods wsX10_goods) := goodIn_app (goodIn_of _ (by decide +kernel)) ggX10_told_X10_goods
theorem dX10_told_0 : decode cX10_told 0 = .ok (.iload_n 1, 1) := by decide +kernel
theorem dX10_told_1 : decode cX10_told 1 = .ok (.tableswitch 69 0 5 #[39, 44, 49, 54, 59, 64], 39) := by decide +kernel
theorem dX10_told_40 : decode cX10_told 40 = .ok (.aload_n 0, 1) := by decide +kernel
theorem dX10_told_41 : decode cX10_told 41 = .ok (.getfield 54, 3) := by decide +kernel
theorem dX10_told_44 : decode cX10_told 44 = .ok (.ireturn, 1) := by decide +kernel
theorem dX10_told_45 : decode cX10_told 45 = .ok (.aload_n 0, 1) := by decide +kernel
theorem dX10_told_46 : decode cX10_told 46 = .ok (.invokevirtual 110, 3) := by decide +kernel
theorem dX10_told_49 : decode cX10_told 49 = .ok (.ireturn, 1) := by decide +kernel
theorem dX10_told_50 : decode cX10_told 50 = .ok (.aload_n 0, 1) := by decide +kernel
theorem dX10_told_51 : decode cX10_told 51 = .ok (.getfield 58, 3) := by decide +kernel
theorem dX10_told_54 : decode cX10_told 54 = .ok (.ireturn, 1) := by decide +kernel
theorem dX10_told_55 : decode cX10_told 55 = .ok (.aload_n 0, 1) := by decide +kernel
theorem dX10_told_56 : decode cX10_told 56 = .ok (.getfield 61, 3) := by decide +kernel
theorem dX10_told_59 : decode cX10_told 59 = .ok (.ireturn, 1) := by decide +kernel
theorem dX10_told_60 : decode cX10_told 60 = .ok (.aload_n 0, 1) := by decide +kernel
theorem dX10_told_61 : decode cX10_told 61 = .ok (.getfield 64, 3) := by decide +kernel
theorem dX10_told_64 : decode cX10_told 64 = .ok (.ireturn, 1) := by decide +kernel
theorem dX10_told_65 : decode cX10_told 65 = .ok (.aload_n 0, 1) := by decide +kernel
theorem dX10_told_66 : decode cX10_told 66 = .ok (.getfield 67, 3) := by decide +kernel
theorem dX10_told_69 : decode cX10_told 69 = .ok (.ireturn, 1) := by decide +kernel
theorem dX10_told_70 : decode cX10_told 70 = .ok (.bipush (-2), 2) := by decide +kernel
theorem dX10_told_72 : decode cX10_told 72 = .ok (.ireturn, 1) := by decide +kernel
theorem dJ6_numberOfTrailingZeros_0f7a4_0 : decode cJ6_numberOfTrailingZeros_0f7a4 0 = .ok (.iload_n 0, 1) := by decide +kernel
theorem dJ6_numberOfTrailingZeros_0f7a4_1 : decode cJ6_numberOfTrailingZeros_0f7a4 1 = .ok (.iconst (-1), 1) := by decide +kernel
theorem dJ6_numberOfTrailingZeros_0f7a4_2 : decode cJ6_numberOfTrailingZeros_0f7a4 2 = .ok (.ixor, 1) := by decide +kernel
theorem dJ6_numberOfTrailingZeros_0f7a4_3 : decode cJ6_numberOfTrailingZeros_0f7a4 3 = .ok (.iload_n 0, 1) := by decide +kernel
theorem dJ6_numberOfTrailingZeros_0f7a4_4 : decode cJ6_numberOfTrailingZeros_0f7a4 4 = .ok (.iconst 1, 1) := by decide +kernel
theorem dJ6_numberOfTrailingZeros_0f7a4_5 : decode cJ6_numberOfTrailingZeros_0f7a4 5 = .ok (.isub, 1) := by decide +kernel
theorem dJ6_numberOfTrailingZeros_0f7a4_6 : decode cJ6_numberOfTrailingZeros_0f7a4 6 = .ok (.iand, 1) := by decide +kernel
theorem dJ6_numberOfTrailingZeros_0f7a4_7 : decode cJ6_numberOfTrailingZeros_0f7a4 7 = .ok (.istore_n 0, 1) := by decide +kernel
theorem dJ6_numberOfTrailingZeros_0f7a4_8 : decode cJ6_numberOfTrailingZeros_0f7a4 8 = .ok (.iload_n 0, 1) := by decide +kernel
theorem dJ6_numberOfTrailingZeros_0f7a4_9 : decode cJ6_numberOfTrailingZeros_0f7a4 9 = .ok (.ifCond .gt 8, 3) := by decide +kernel
theorem dJ6_numberOfTrailingZeros_0f7a4_12 : decode cJ6_numberOfTrailingZeros_0f7a4 12 = .ok (.iload_n 0, 1) := by decide +kernel
theorem dJ6_numberOfTrailingZeros_0f7a4_13 : decode cJ6_numberOfTrailingZeros_0f7a4 13 = .ok (.bipush 32, 2) := by decide +kernel
theorem dJ6_numberOfTrailingZeros_0f7a4_15 : decode cJ6_numberOfTrailingZeros_0f7a4 15 = .ok (.iand, 1) := by decide +kernel
theorem dJ6_numberOfTrailingZeros_0f7a4_16 : decode cJ6_numberOfTrailingZeros_0f7a4 16 = .ok (.ireturn, 1) := by decide +kernel
theorem dJ6_numberOfTrailingZeros_0f7a4_17 : decode cJ6_numberOfTrailingZeros_0f7a4 17 = .ok (.iconst 1, 1) := by decide +kernel
theorem dJ6_numberOfTrailingZeros_0f7a4_18 : decode cJ6_numberOfTrailingZeros_0f7a4 18 = .ok (.istore_n 1, 1) := by decide +kernel
theorem dJ6_numberOfTrailingZeros_0f7a4_19 : decode cJ6_numberOfTrailingZeros_0f7a4 19 = .ok (.iload_n 0, 1) := by decide +kernel
theorem dJ6_numberOfTrailingZeros_0f7a4_20 : decode cJ6_numberOfTrailingZeros_0f7a4 20 = .ok (.ldc_w 264, 3) := by decide +kernel
theorem dJ6_numberOfTrailingZeros_0f7a4_23 : decode cJ6_numberOfTrailingZeros_0f7a4 23 = .ok (.if_icmp .le 11, 3) := by decide +kernel
theorem dJ6_numberOfTrailingZeros_0f7a4_26 : decode cJ6_numberOfTrailingZeros_0f7a4 26 = .ok (.iinc 1 16, 3) := by decide +kernel
theorem dJ6_numberOfTrailingZeros_0f7a4_29 : decode cJ6_numberOfTrailingZeros_0f7a4 29 = .ok (.iload_n 0, 1) := by decide +kernel
theorem dJ6_numberOfTrailingZeros_0f7a4_30 : decode cJ6_numberOfTrailingZeros_0f7a4 30 = .ok (.bipush 16, 2) := by decide +kernel
theorem dJ6_numberOfTrailingZeros_0f7a4_32 : decode cJ6_numberOfTrailingZeros_0f7a4 32 = .ok (.iushr, 1) := by decide +kernel
theorem dJ6_numberOfTrailingZeros_0f7a4_33 : decode cJ6_numberOfTrailingZeros_0f7a4 33 = .ok (.istore_n 0, 1) := by decide +kernel
theorem dJ6_numberOfTrailingZeros_0f7a4_34 : decode cJ6_numberOfTrailingZeros_0f7a4 34 = .ok (.iload_n 0, 1) := by decide +kernel
theorem dJ6_numberOfTrailingZeros_0f7a4_35 : decode cJ6_numberOfTrailingZeros_0f7a4 35 = .ok (.sipush 256, 3) := by decide +kernel
theorem dJ6_numberOfTrailingZeros_0f7a4_38 : decode cJ6_numberOfTrailingZeros_0f7a4 38 = .ok (.if_icmp .le 11, 3) := by decide +kernel
theorem dJ6_numberOfTrailingZeros_0f7a4_41 : decode cJ6_numberOfTrailingZeros_0f7a4 41 = .ok (.iinc 1 8, 3) := by decide +kernel
theorem dJ6_numberOfTrailingZeros_0f7a4_44 : decode cJ6_numberOfTrailingZeros_0f7a4 44 = .ok (.iload_n 0, 1) := by decide +kernel
theorem dJ6_numberOfTrailingZeros_0f7a4_45 : decode cJ6_numberOfTrailingZeros_0f7a4 45 = .ok (.bipush 8, 2) := by decide +kernel
theorem dJ6_numberOfTrailingZeros_0f7a4_47 : decode cJ6_numberOfTrailingZeros_0f7a4 47 = .ok (.iushr, 1) := by decide +kernel
theorem dJ6_numberOfTrailingZeros_0f7a4_48 : decode cJ6_numberOfTrailingZeros_0f7a4 48 = .ok (.istore_n 0, 1) := by decide +kernel
theorem dJ6_numberOfTrailingZeros_0f7a4_49 : decode cJ6_numberOfTrailingZeros_0f7a4 49 = .ok (.iload_n 0, 1) := by decide +kernel
theorem dJ6_numberOfTrailingZeros_0f7a4_50 : decode cJ6_numberOfTrailingZeros_0f7a4 50 = .ok (.bipush 16, 2) := by decide +kernel
theorem dJ6_numberOfTrailingZeros_0f7a4_52 : decode cJ6_numberOfTrailingZeros_0f7a4 52 = .ok (.if_icmp .le 10, 3) := by decide +kernel
theorem dJ6_numberOfTrailingZeros_0f7a4_55 : decode cJ6_numberOfTrailingZeros_0f7a4 55 = .ok (.iinc 1 4, 3) := by decide +kernel
theorem dJ6_numberOfTrailingZeros_0f7a4_58 : decode cJ6_numberOfTrailingZeros_0f7a4 58 = .ok (.iload_n 0, 1) := by decide +kernel
theorem dJ6_numberOfTrailingZeros_0f7a4_59 : decode cJ6_numberOfTrailingZeros_0f7a4 59 = .ok (.iconst 4, 1) := by decide +kernel
theorem dJ6_numberOfTrailingZeros_0f7a4_60 : decode cJ6_numberOfTrailingZeros_0f7a4 60 = .ok (.iushr, 1) := by decide +kernel
theorem dJ6_numberOfTrailingZeros_0f7a4_61 : decode cJ6_numberOfTrailingZeros_0f7a4 61 = .ok (.istore_n 0, 1) := by decide +kernel
theorem dJ6_numberOfTrailingZeros_0f7a4_62 : decode cJ6_numberOfTrailingZeros_0f7a4 62 = .ok (.iload_n 0, 1) := by decide +kernel
theorem dJ6_numberOfTrailingZeros_0f7a4_63 : decode cJ6_numberOfTrailingZeros_0f7a4 63 = .ok (.iconst 4, 1) := by decide +kernel
theorem dJ6_numberOfTrailingZeros_0f7a4_64 : decode cJ6_numberOfTrailingZeros_0f7a4 64 = .ok (.if_icmp .le 10, 3) := by decide +kernel
theorem dJ6_numberOfTrailingZeros_0f7a4_67 : decode cJ6_numberOfTrailingZeros_0f7a4 67 = .ok (.iinc 1 2, 3) := by decide +kernel
theorem dJ6_numberOfTrailingZeros_0f7a4_70 : decode cJ6_numberOfTrailingZeros_0f7a4 70 = .ok (.iload_n 0, 1) := by decide +kernel
theorem dJ6_numberOfTrailingZeros_0f7a4_71 : decode cJ6_numberOfTrailingZeros_0f7a4 71 = .ok (.iconst 2, 1) := by decide +kernel
theorem dJ6_numberOfTrailingZeros_0f7a4_72 : decode cJ6_numberOfTrailingZeros_0f7a4 72 = .ok (.iushr, 1) := by decide +kernel
theorem dJ6_numberOfTrailingZeros_0f7a4_73 : decode cJ6_numberOfTrailingZeros_0f7a4 73 = .ok (.istore_n 0, 1) := by decide +kernel
theorem dJ6_numberOfTrailingZeros_0f7a4_74 : decode cJ6_numberOfTrailingZeros_0f7a4 74 = .ok (.iload_n 1, 1) := by decide +kernel
theorem dJ6_numberOfTrailingZeros_0f7a4_75 : decode cJ6_numberOfTrailingZeros_0f7a4 75 = .ok (.iload_n 0, 1) := by decide +kernel
theorem dJ6_numberOfTrailingZeros_0f7a4_76 : decode cJ6_numberOfTrailingZeros_0f7a4 76 = .ok (.iconst 1, 1) := by decide +kernel
theorem dJ6_numberOfTrailingZeros_0f7a4_77 : decode cJ6_numberOfTrailingZeros_0f7a4 77 = .ok (.iushr, 1) := by decide +kernel
theorem dJ6_numberOfTrailingZeros_0f7a4_78 : decode cJ6_numberOfTrailingZeros_0f7a4 78 = .ok (.iadd, 1) := by decide +kernel
theorem dJ6_numberOfTrailingZeros_0f7a4_79 : decode cJ6_numberOfTrailingZeros_0f7a4 79 = .ok (.ireturn, 1) := by decide +kernel
theorem dJ6_bitCount_0f7a4_0 : decode cJ6_bitCount_0f7a4 0 = .ok (.iload_n 0, 1) := by decide +kernel
theorem dJ6_bitCount_0f7a4_1 : decode cJ6_bitCount_0f7a4 1 = .ok (.iload_n 0, 1) := by decide +kernel
theorem dJ6_bitCount_0f7a4_2 : decode cJ6_bitCount_0f7a4 2 = .ok (.iconst 1, 1) := by decide +kernel
theorem dJ6_bitCount_0f7a4_3 : decode cJ6_bitCount_0f7a4 3 = .ok (.iushr, 1) := by decide +kernel
theorem dJ6_bitCount_0f7a4_4 : decode cJ6_bitCount_0f7a4 4 = .ok (.ldc_w 265, 3) := by decide +kernel
theorem dJ6_bitCount_0f7a4_7 : decode cJ6_bitCount_0f7a4 7 = .ok (.iand, 1) := by decide +kernel
theorem dJ6_bitCount_0f7a4_8 : decode cJ6_bitCount_0f7a4 8 = .ok (.isub, 1) := by decide +kernel
theorem dJ6_bitCount_0f7a4_9 : decode cJ6_bitCount_0f7a4 9 = .ok (.istore_n 0, 1) := by decide +kernel
theorem dJ6_bitCount_0f7a4_10 : decode cJ6_bitCount_0f7a4 10 = .ok (.iload_n 0, 1) := by decide +kernel
theorem dJ6_bitCount_0f7a4_11 : decode cJ6_bitCount_0f7a4 11 = .ok (.ldc_w 266, 3) := by decide +kernel
theorem dJ6_bitCount_0f7a4_14 : decode cJ6_bitCount_0f7a4 14 = .ok (.iand, 1) := by decide +kernel
theorem dJ6_bitCount_0f7a4_15 : decode cJ6_bitCount_0f7a4 15 = .ok (.iload_n 0, 1) := by decide +kernel
theorem dJ6_bitCount_0f7a4_16 : decode cJ6_bitCount_0f7a4 16 = .ok (.iconst 2, 1) := by decide +kernel
theorem dJ6_bitCount_0f7a4_17 : decode cJ6_bitCount_0f7a4 17 = .ok (.iushr, 1) := by decide +kernel
theorem dJ6_bitCount_0f7a4_18 : decode cJ6_bitCount_0f7a4 18 = .ok (.ldc_w 266, 3) := by decide +kernel
theorem dJ6_bitCount_0f7a4_21 : decode cJ6_bitCount_0f7a4 21 = .ok (.iand, 1) := by decide +kernel
theorem dJ6_bitCount_0f7a4_22 : decode cJ6_bitCount_0f7a4 22 = .ok (.iadd, 1) := by decide +kernel
theorem dJ6_bitCount_0f7a4_23 : decode cJ6_bitCount_0f7a4 23 = .ok (.istore_n 0, 1) := by decide +kernel
theorem dJ6_bitCount_0f7a4_24 : decode cJ6_bitCount_0f7a4 24 = .ok (.iload_n 0, 1) := by decide +kernel
theorem dJ6_bitCount_0f7a4_25 : decode cJ6_bitCount_0f7a4 25 = .ok (.iload_n 0, 1) := by decide +kernel
theorem dJ6_bitCount_0f7a4_26 : decode cJ6_bitCount_0f7a4 26 = .ok (.iconst 4, 1) := by decide +kernel
theorem dJ6_bitCount_0f7a4_27 : decode cJ6_bitCount_0f7a4 27 = .ok (.iushr, 1) := by decide +kernel
theorem dJ6_bitCount_0f7a4_28 : decode cJ6_bitCount_0f7a4 28 = .ok (.iadd, 1) := by decide +kernel
theorem dJ6_bitCount_0f7a4_29 : decode cJ6_bitCount_0f7a4 29 = .ok (.ldc_w 267, 3) := by decide +kernel
theorem dJ6_bitCount_0f7a4_32 : decode cJ6_bitCount_0f7a4 32 = .ok (.iand, 1) := by decide +kernel
theorem dJ6_bitCount_0f7a4_33 : decode cJ6_bitCount_0f7a4 33 = .ok (.istore_n 0, 1) := by decide +kernel
theorem dJ6_bitCount_0f7a4_34 : decode cJ6_bitCount_0f7a4 34 = .ok (.iload_n 0, 1) := by decide +kernel
theorem dJ6_bitCount_0f7a4_35 : decode cJ6_bitCount_0f7a4 35 = .ok (.iload_n 0, 1) := by decide +kernel
theorem dJ6_bitCount_0f7a4_36 : decode cJ6_bitCount_0f7a4 36 = .ok (.bipush 8, 2) := by decide +kernel
theorem dJ6_bitCount_0f7a4_38 : decode cJ6_bitCount_0f7a4 38 = .ok (.iushr, 1) := by decide +kernel
theorem dJ6_bitCount_0f7a4_39 : decode cJ6_bitCount_0f7a4 39 = .ok (.iadd, 1) := by decide +kernel
theorem dJ6_bitCount_0f7a4_40 : decode cJ6_bitCount_0f7a4 40 = .ok (.istore_n 0, 1) := by decide +kernel
theorem dJ6_bitCount_0f7a4_41 : decode cJ6_bitCount_0f7a4 41 = .ok (.iload_n 0, 1) := by decide +kernel
theorem dJ6_bitCount_0f7a4_42 : decode cJ6_bitCount_0f7a4 42 = .ok (.iload_n 0, 1) := by decide +kernel
theorem dJ6_bitCount_0f7a4_43 : decode cJ6_bitCount_0f7a4 43 = .ok (.bipush 16, 2) := by decide +kernel
theorem dJ6_bitCount_0f7a4_45 : decode cJ6_bitCount_0f7a4 45 = .ok (.iushr, 1) := by decide +kernel
theorem dJ6_bitCount_0f7a4_46 : decode cJ6_bitCount_0f7a4 46 = .ok (.iadd, 1) := by decide +kernel
theorem dJ6_bitCount_0f7a4_47 : decode cJ6_bitCount_0f7a4 47 = .ok (.istore_n 0, 1) := by decide +kernel
theorem dJ6_bitCount_0f7a4_48 : decode cJ6_bitCount_0f7a4 48 = .ok (.iload_n 0, 1) := by decide +kernel
theorem dJ6_bitCount_0f7a4_49 : decode cJ6_bitCount_0f7a4 49 = .ok (.bipush 63, 2) := by decide +kernel
theorem dJ6_bitCount_0f7a4_51 : decode cJ6_bitCount_0f7a4 51 = .ok (.iand, 1) := by decide +kernel
theorem dJ6_bitCount_0f7a4_52 : decode cJ6_bitCount_0f7a4 52 = .ok (.ireturn, 1) := by decide +kernel
theorem dJ13_bitCount_95d88_0 : decode cJ13_bitCount_95d88 0 = .ok (.lload_n 0, 1) := by decide +kernel
theorem dJ13_bitCount_95d88_1 : decode cJ13_bitCount_95d88 1 = .ok (.lload_n 0, 1) := by decide +kernel
theorem dJ13_bitCount_95d88_2 : decode cJ13_bitCount_95d88 2 = .ok (.iconst 1, 1) := by decide +kernel
theorem dJ13_bitCount_95d88_3 : decode cJ13_bitCount_95d88 3 = .ok (.lushr, 1) := by decide +kernel
theorem dJ13_bitCount_95d88_4 : decode cJ13_bitCount_95d88 4 = .ok (.ldc2_w 314, 3) := by decide +kernel
theorem dJ13_bitCount_95d88_7 : decode cJ13_bitCount_95d88 7 = .ok (.land, 1) := by decide +kernel
theorem dJ13_bitCount_95d88_8 : decode cJ13_bitCount_95d88 8 = .ok (.lsub, 1) := by decide +kernel
theorem dJ13_bitCount_95d88_9 : decode cJ13_bitCount_95d88 9 = .ok (.lstore_n 0, 1) := by decide +kernel
theorem dJ13_bitCount_95d88_10 : decode cJ13_bitCount_95d88 10 = .ok (.lload_n 0, 1) := by decide +kernel
theorem dJ13_bitCount_95d88_11 : decode cJ13_bitCount_95d88 11 = .ok (.ldc2_w 316, 3) := by decide +kernel
theorem dJ13_bitCount_95d88_14 : decode cJ13_bitCount_95d88 14 = .ok (.land, 1) := by decide +kernel
theorem dJ13_bitCount_95d88_15 : decode cJ13_bitCount_95d88 15 = .ok (.lload_n 0, 1) := by decide +kernel
theorem dJ13_bitCount_95d88_16 : decode cJ13_bitCount_95d88 16 = .ok (.iconst 2, 1) := by decide +kernel
theorem dJ13_bitCount_95d88_17 : decode cJ13_bitCount_95d88 17 = .ok (.lushr, 1) := by decide +kernel
theorem dJ13_bitCount_95d88_18 : decode cJ13_bitCount_95d88 18 = .ok (.ldc2_w 316, 3) := by decide +kernel
theorem dJ13_bitCount_95d88_21 : decode cJ13_bitCount_95d88 21 = .ok (.land, 1) := by decide +kernel
theorem dJ13_bitCount_95d88_22 : decode cJ13_bitCount_95d88 22 = .ok (.ladd, 1) := by decide +kernel
theorem dJ13_bitCount_95d88_23 : decode cJ13_bitCount_95d88 23 = .ok (.lstore_n 0, 1) := by decide +kernel
theorem dJ13_bitCount_95d88_24 : decode cJ13_bitCount_95d88 24 = .ok (.lload_n 0, 1) := by decide +kernel
theorem dJ13_bitCount_95d88_25 : decode cJ13_bitCount_95d88 25 = .ok (.lload_n 0, 1) := by decide +kernel
theorem dJ13_bitCount_95d88_26 : decode cJ13_bitCount_95d88 26 = .ok (.iconst 4, 1) := by decide +kernel
theorem dJ13_bitCount_95d88_27 : decode cJ13_bitCount_95d88 27 = .ok (.lushr, 1) := by decide +kernel
theorem dJ13_bitCount_95d88_28 : decode cJ13_bitCount_95d88 28 = .ok (.ladd, 1) := by decide +kernel
theorem dJ13_bitCount_95d88_29 : decode cJ13_bitCount_95d88 29 = .ok (.ldc2_w 318, 3) := by decide +kernel
theorem dJ13_bitCount_95d88_32 : decode cJ13_bitCount_95d88 32 = .ok (.land, 1) := by decide +kernel
theorem dJ13_bitCount_95d88_33 : decode cJ13_bitCount_95d88 33 = .ok (.lstore_n 0, 1) := by decide +kernel
theorem dJ13_bitCount_95d88_34 : decode cJ13_bitCount_95d88 34 = .ok (.lload_n 0, 1) := by decide +kernel
theorem dJ13_bitCount_95d88_35 : decode cJ13_bitCount_95d88 35 = .ok (.lload_n 0, 1) := by decide +kernel
theorem dJ13_bitCount_95d88_36 : decode cJ13_bitCount_95d88 36 = .ok (.bipush 8, 2) := by decide +kernel
theorem dJ13_bitCount_95d88_38 : decode cJ13_bitCount_95d88 38 = .ok (.lushr, 1) := by decide +kernel
theorem dJ13_bitCount_95d88_39 : decode cJ13_bitCount_95d88 39 = .ok (.ladd, 1) := by decide +kernel
theorem dJ13_bitCount_95d88_40 : decode cJ13_bitCount_95d88 40 = .ok (.lstore_n 0, 1) := by decide +kernel
theorem dJ13_bitCount_95d88_41 : decode cJ13_bitCount_95d88 41 = .ok (.lload_n 0, 1) := by decide +kernel
theorem dJ13_bitCount_95d88_42 : decode cJ13_bitCount_95d88 42 = .ok (.lload_n 0, 1) := by decide +kernel
theorem dJ13_bitCount_95d88_43 : decode cJ13_bitCount_95d88 43 = .ok (.bipush 16, 2) := by decide +kernel
theorem dJ13_bitCount_95d88_45 : decode cJ13_bitCount_95d88 45 = .ok (.lushr, 1) := by decide +kernel
theorem dJ13_bitCount_95d88_46 : decode cJ13_bitCount_95d88 46 = .ok (.ladd, 1) := by decide +kernel
theorem dJ13_bitCount_95d88_47 : decode cJ13_bitCount_95d88 47 = .ok (.lstore_n 0, 1) := by decide +kernel
theorem dJ13_bitCount_95d88_48 : decode cJ13_bitCount_95d88 48 = .ok (.lload_n 0, 1) := by decide +kernel
theorem dJ13_bitCount_95d88_49 : decode cJ13_bitCount_95d88 49 = .ok (.lload_n 0, 1) := by decide +kernel
theorem dJ13_bitCount_95d88_50 : decode cJ13_bitCount_95d88 50 = .ok (.bipush 32, 2) := by decide +kernel
theorem dJ13_bitCount_95d88_52 : decode cJ13_bitCount_95d88 52 = .ok (.lushr, 1) := by decide +kernel
theorem dJ13_bitCount_95d88_53 : decode cJ13_bitCount_95d88 53 = .ok (.ladd, 1) := by decide +kernel
theorem dJ13_bitCount_95d88_54 : decode cJ13_bitCount_95d88 54 = .ok (.lstore_n 0, 1) := by decide +kernel
theorem dJ13_bitCount_95d88_55 : decode cJ13_bitCount_95d88 55 = .ok (.lload_n 0, 1) := by decide +kernel
theorem dJ13_bitCount_95d88_56 : decode cJ13_bitCount_95d88 56 = .ok (.l2i, 1) := by decide +kernel
theorem dJ13_bitCount_95d88_57 : decode cJ13_bitCount_95d88 57 = .ok (.bipush 127, 2) := by decide +kernel
theorem dJ13_bitCount_95d88_59 : decode cJ13_bitCount_95d88 59 = .ok (.iand, 1) := by decide +kernel
theorem dJ13_bitCount_95d88_60 : decode cJ13_bitCount_95d88 60 = .ok (.ireturn, 1) := by decide +kernel
set_option maxRecDepth 20000 in
theorem ggJ13_reverse_067f4_J13_reverseBytes_067f4 : GoodIn wsJ13_reverse_067f4 wsJ13_reverseBytes_067f4 := goodIn_r _ [7, 8, 9] (by decide +kernel) (by decide +kernel)
set_option maxRecDepth 20000 in
theorem gJ13_reverse_067f4_J13_reverseBytes_067f4 : GoodIn wsJ13_reverse_067f4 (va_wsS RJ13 320 yJ13_reverseBytes_067f4 wsJ13_reverseBytes_067f4) := goodIn_app (goodIn_of _ (by decide +kernel)) ggJ13_reverse_067f4_J13_reverseBytes_067f4
theorem dJ13_reverse_067f4_0 : decode cJ13_reverse_067f4 0 = .ok (.lload_n 0, 1) := by decide +kernel
theorem dJ13_reverse_067f4_1 : decode cJ13_reverse_067f4 1 = .ok (.ldc2_w 314, 3) := by decide +kernel
theorem dJ13_reverse_067f4_4 : decode cJ13_reverse_067f4 4 = .ok (.land, 1) := by decide +kernel
theorem dJ13_reverse_067f4_5 : decode cJ13_reverse_067f4 5 = .ok (.iconst 1, 1) := by decide +kernel
theorem dJ13_reverse_067f4_6 : decode cJ13_reverse_067f4 6 = .ok (.lshl, 1) := by decide +kernel
theorem dJ13_reverse_067f4_7 : decode cJ13_reverse_067f4 7 = .ok (.lload_n 0, 1) := by decide +kernel
theorem dJ13_reverse_067f4_8 : decode cJ13_reverse_067f4 8 = .ok (.iconst 1, 1) := by decide +kernel
theorem dJ13_reverse_067f4_9 : decode cJ13_reverse_067f4 9 = .ok (.lushr, 1) := by decide +kernel
theorem dJ13_reverse_067f4_10 : decode cJ13_reverse_067f4 10 = .ok (.ldc2_w 314, 3) := by decide +kernel
theorem dJ13_reverse_067f4_13 : decode cJ13_reverse_067f4 13 = .ok (.land, 1) := by decide +kernel
theorem dJ13_reverse_067f4_14 : decode cJ13_reverse_067f4 14 = .ok (.lor, 1) := by decide +kernel
theorem dJ13_reverse_067f4_15 : decode cJ13_reverse_067f4 15 = .ok (.lstore_n 0, 1) := by decide +kernel
theorem dJ13_reverse_067f4_16 : decode cJ13_reverse_067f4 16 = .ok (.lload_n 0, 1) := by decide +kernel
theorem dJ13_reverse_067f4_17 : decode cJ13_reverse_067f4 17 = .ok (.ldc2_w 316, 3) := by decide +kernel
theorem dJ13_reverse_067f4_20 : decode cJ13_reverse_067f4 20 = .ok (.land, 1) := by decide +kernel
theorem dJ13_reverse_067f4_21 : decode cJ13_reverse_067f4 21 = .ok (.iconst 2, 1) := by decide +kernel
theorem dJ13_reverse_067f4_22 : decode cJ13_reverse_067f4 22 = .ok (.lshl, 1) := by decide +kernel
theorem dJ13_reverse_067f4_23 : decode cJ13_reverse_067f4 23 = .ok (.lload_n 0, 1) := by decide +kernel
theorem dJ13_reverse_067f4_24 : decode cJ13_reverse_067f4 24 = .ok (.iconst 2, 1) := by decide +kernel
theorem dJ13_reverse_067f4_25 : decode cJ13_reverse_067f4 25 = .ok (.lushr, 1) := by decide +kernel
theorem dJ13_reverse_067f4_26 : decode cJ13_reverse_067f4 26 = .ok (.ldc2_w 316, 3) := by decide +kernel
theorem dJ13_reverse_067f4_29 : decode cJ13_reverse_067f4 29 = .ok (.land, 1) := by decide +kernel
theorem dJ13_reverse_067f4_30 : decode cJ13_reverse_067f4 30 = .ok (.lor, 1) := by decide +kernel
theorem dJ13_reverse_067f4_31 : decode cJ13_reverse_067f4 31 = .ok (.lstore_n 0, 1) := by decide +kernel
theorem dJ13_reverse_067f4_32 : decode cJ13_reverse_067f4 32 = .ok (.lload_n 0, 1) := by decide +kernel
theorem dJ13_reverse_067f4_33 : decode cJ13_reverse_067f4 33 = .ok (.ldc2_w 318, 3) := by decide +kernel
theorem dJ13_reverse_067f4_36 : decode cJ13_reverse_067f4 36 = .ok (.land, 1) := by decide +kernel
theorem dJ13_reverse_067f4_37 : decode cJ13_reverse_067f4 37 = .ok (.iconst 4, 1) := by decide +kernel
theorem dJ13_reverse_067f4_38 : decode cJ13_reverse_067f4 38 = .ok (.lshl, 1) := by decide +kernel
theorem dJ13_reverse_067f4_39 : decode cJ13_reverse_067f4 39 = .ok (.lload_n 0, 1) := by decide +kernel
theorem dJ13_reverse_067f4_40 : decode cJ13_reverse_067f4 40 = .ok (.iconst 4, 1) := by decide +kernel
theorem dJ13_reverse_067f4_41 : decode cJ13_reverse_067f4 41 = .ok (.lushr, 1) := by decide +kernel
theorem dJ13_reverse_067f4_42 : decode cJ13_reverse_067f4 42 = .ok (.ldc2_w 318, 3) := by decide +kernel
theorem dJ13_reverse_067f4_45 : decode cJ13_reverse_067f4 45 = .ok (.land, 1) := by decide +kernel
theorem dJ13_reverse_067f4_46 : decode cJ13_reverse_067f4 46 = .ok (.lor, 1) := by decide +kernel
theorem dJ13_reverse_067f4_47 : decode cJ13_reverse_067f4 47 = .ok (.lstore_n 0, 1) := by decide +kernel
theorem dJ13_reverse_067f4_48 : decode cJ13_reverse_067f4 48 = .ok (.lload_n 0, 1) := by decide +kernel
theorem dJ13_reverse_067f4_49 : decode cJ13_reverse_067f4 49 = .ok (.invokestatic 320, 3) := by decide +kernel
theorem dJ13_reverse_067f4_52 : decode cJ13_reverse_067f4 52 = .ok (.lreturn, 1) := by decide +kernel
theorem dJ13_reverseBytes_067f4_0 : decode cJ13_reverseBytes_067f4 0 = .ok (.lload_n 0, 1) := by decide +kernel
theorem dJ13_reverseBytes_067f4_1 : decode cJ13_reverseBytes_067f4 1 = .ok (.ldc2_w 327, 3) := by decide +kernel
theorem dJ13_reverseBytes_067f4_4 : decode cJ13_reverseBytes_067f4 4 = .ok (.land, 1) := by decide +kernel
theorem dJ13_reverseBytes_067f4_5 : decode cJ13_reverseBytes_067f4 5 = .ok (.bipush 8, 2) := by decide +kernel
theorem dJ13_reverseBytes_067f4_7 : decode cJ13_reverseBytes_067f4 7 = .ok (.lshl, 1) := by decide +kernel
theorem dJ13_reverseBytes_067f4_8 : decode cJ13_reverseBytes_067f4 8 = .ok (.lload_n 0, 1) := by decide +kernel
theorem dJ13_reverseBytes_067f4_9 : decode cJ13_reverseBytes_067f4 9 = .ok (.bipush 8, 2) := by decide +kernel
theorem dJ13_reverseBytes_067f4_11 : decode cJ13_reverseBytes_067f4 11 = .ok (.lushr, 1) := by decide +kernel
theorem dJ13_reverseBytes_067f4_12 : decode cJ13_reverseBytes_067f4 12 = .ok (.ldc2_w 327, 3) := by decide +kernel
theorem dJ13_reverseBytes_067f4_15 : decode cJ13_reverseBytes_067f4 15 = .ok (.land, 1) := by decide +kernel
theorem dJ13_reverseBytes_067f4_16 : decode cJ13_reverseBytes_067f4 16 = .ok (.lor, 1) := by decide +kernel
theorem dJ13_reverseBytes_067f4_17 : decode cJ13_reverseBytes_067f4 17 = .ok (.lstore_n 0, 1) := by decide +kernel
theorem dJ13_reverseBytes_067f4_18 : decode cJ13_reverseBytes_067f4 18 = .ok (.lload_n 0, 1) := by decide +kernel
theorem dJ13_reverseBytes_067f4_19 : decode cJ13_reverseBytes_067f4 19 = .ok (.bipush 48, 2) := by decide +kernel
theorem dJ13_reverseBytes_067f4_21 : decode cJ13_reverseBytes_067f4 21 = .ok (.lshl, 1) := by decide +kernel
theorem dJ13_reverseBytes_067f4_22 : decode cJ13_reverseBytes_067f4 22 = .ok (.lload_n 0, 1) := by decide +kernel
theorem dJ13_reverseBytes_067f4_23 : decode cJ13_reverseBytes_067f4 23 = .ok (.ldc2_w 329, 3) := by decide +kernel
theorem dJ13_reverseBytes_067f4_26 : decode cJ13_reverseBytes_067f4 26 = .ok (.land, 1) := by decide +kernel
theorem dJ13_reverseBytes_067f4_27 : decode cJ13_reverseBytes_067f4 27 = .ok (.bipush 16, 2) := by decide +kernel
theorem dJ13_reverseBytes_067f4_29 : decode cJ13_reverseBytes_067f4 29 = .ok (.lshl, 1) := by decide +kernel
theorem dJ13_reverseBytes_067f4_30 : decode cJ13_reverseBytes_067f4 30 = .ok (.lor, 1) := by decide +kernel
theorem dJ13_reverseBytes_067f4_31 : decode cJ13_reverseBytes_067f4 31 = .ok (.lload_n 0, 1) := by decide +kernel
theorem dJ13_reverseBytes_067f4_32 : decode cJ13_reverseBytes_067f4 32 = .ok (.bipush 16, 2) := by decide +kernel
theorem dJ13_reverseBytes_067f4_34 : decode cJ13_reverseBytes_067f4 34 = .ok (.lushr, 1) := by decide +kernel
theorem dJ13_reverseBytes_067f4_35 : decode cJ13_reverseBytes_067f4 35 = .ok (.ldc2_w 329, 3) := by decide +kernel
theorem dJ13_reverseBytes_067f4_38 : decode cJ13_reverseBytes_067f4 38 = .ok (.land, 1) := by decide +kernel
theorem dJ13_reverseBytes_067f4_39 : decode cJ13_reverseBytes_067f4 39 = .ok (.lor, 1) := by decide +kernel
theorem dJ13_reverseBytes_067f4_40 : decode cJ13_reverseBytes_067f4 40 = .ok (.lload_n 0, 1) := by decide +kernel
theorem dJ13_reverseBytes_067f4_41 : decode cJ13_reverseBytes_067f4 41 = .ok (.bipush 48, 2) := by decide +kernel
theorem dJ13_reverseBytes_067f4_43 : decode cJ13_reverseBytes_067f4 43 = .ok (.lushr, 1) := by decide +kernel
theorem dJ13_reverseBytes_067f4_44 : decode cJ13_reverseBytes_067f4 44 = .ok (.lor, 1) := by decide +kernel
theorem dJ13_reverseBytes_067f4_45 : decode cJ13_reverseBytes_067f4 45 = .ok (.lreturn, 1) := by decide +kernel
theorem dJ7_fill_d0a16_0 : decode cJ7_fill_d0a16 0 = .ok (.iconst 0, 1) := by decide +kernel
theorem dJ7_fill_d0a16_1 : decode cJ7_fill_d0a16 1 = .ok (.istore_n 3, 1) := by decide +kernel
theorem dJ7_fill_d0a16_2 : decode cJ7_fill_d0a16 2 = .ok (.aload_n 0, 1) := by decide +kernel
theorem dJ7_fill_d0a16_3 : decode cJ7_fill_d0a16 3 = .ok (.arraylength, 1) := by decide +kernel
theorem dJ7_fill_d0a16_4 : decode cJ7_fill_d0a16 4 = .ok (.istore 4, 2) := by decide +kernel
theorem dJ7_fill_d0a16_6 : decode cJ7_fill_d0a16 6 = .ok (.iload_n 3, 1) := by decide +kernel
theorem dJ7_fill_d0a16_7 : decode cJ7_fill_d0a16 7 = .ok (.iload 4, 2) := by decide +kernel
theorem dJ7_fill_d0a16_9 : decode cJ7_fill_d0a16 9 = .ok (.if_icmp .ge 13, 3) := by decide +kernel
theorem dJ7_fill_d0a16_12 : decode cJ7_fill_d0a16 12 = .ok (.aload_n 0, 1) := by decide +kernel
theorem dJ7_fill_d0a16_13 : decode cJ7_fill_d0a16 13 = .ok (.iload_n 3, 1) := by decide +kernel
theorem dJ7_fill_d0a16_14 : decode cJ7_fill_d0a16 14 = .ok (.lload_n 1, 1) := by decide +kernel
theorem dJ7_fill_d0a16_15 : decode cJ7_fill_d0a16 15 = .ok (.lastore, 1) := by decide +kernel
theorem dJ7_fill_d0a16_16 : decode cJ7_fill_d0a16 16 = .ok (.iinc 3 1, 3) := by decide +kernel
theorem dJ7_fill_d0a16_19 : decode cJ7_fill_d0a16 19 = .ok (.goto (-13), 3) := by decide +kernel
theorem dJ7_fill_d0a16_22 : decode cJ7_fill_d0a16 22 = .ok (.return_, 1) := by decide +kernel
theorem dJ7_fill_53178_0 : decode cJ7_fill_53178 0 = .ok (.iconst 0, 1) := by decide +kernel
theorem dJ7_fill_53178_1 : decode cJ7_fill_53178 1 = .ok (.istore_n 2, 1) := by decide +kernel
theorem dJ7_fill_53178_2 : decode cJ7_fill_53178 2 = .ok (.aload_n 0, 1) := by decide +kernel
theorem dJ7_fill_53178_3 : decode cJ7_fill_53178 3 = .ok (.arraylength, 1) := by decide +kernel
theorem dJ7_fill_53178_4 : decode cJ7_fill_53178 4 = .ok (.istore_n 3, 1) := by decide +kernel
theorem dJ7_fill_53178_5 : decode cJ7_fill_53178 5 = .ok (.iload_n 2, 1) := by decide +kernel
theorem dJ7_fill_53178_6 : decode cJ7_fill_53178 6 = .ok (.iload_n 3, 1) := by decide +kernel
theorem dJ7_fill_53178_7 : decode cJ7_fill_53178 7 = .ok (.if_icmp .ge 13, 3) := by decide +kernel
theorem dJ7_fill_53178_10 : decode cJ7_fill_53178 10 = .ok (.aload_n 0, 1) := by decide +kernel
theorem dJ7_fill_53178_11 : decode cJ7_fill_53178 11 = .ok (.iload_n 2, 1) := by decide +kernel
theorem dJ7_fill_53178_12 : decode cJ7_fill_53178 12 = .ok (.iload_n 1, 1) := by decide +kernel
theorem dJ7_fill_53178_13 : decode cJ7_fill_53178 13 = .ok (.iastore, 1) := by decide +kernel
theorem dJ7_fill_53178_14 : decode cJ7_fill_53178 14 = .ok (.iinc 2 1, 3) := by decide +kernel
theorem dJ7_fill_53178_17 : decode cJ7_fill_53178 17 = .ok (.goto (-12), 3) := by decide +kernel
theorem dJ7_fill_53178_20 : decode cJ7_fill_53178 20 = .ok (.return_, 1) := by decide +kernel
