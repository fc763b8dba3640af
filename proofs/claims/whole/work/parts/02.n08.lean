theorem dX10_ones_15 : decode cX10_ones 15 = .ok (.land, 1) := by decide +kernel
theorem dX10_ones_16 : decode cX10_ones 16 = .ok (.l2i, 1) := by decide +kernel
theorem dX10_ones_17 : decode cX10_ones 17 = .ok (.iadd, 1) := by decide +kernel
theorem dX10_ones_18 : decode cX10_ones 18 = .ok (.istore_n 2, 1) := by decide +kernel
theorem dX10_ones_19 : decode cX10_ones 19 = .ok (.iinc 3 1, 3) := by decide +kernel
theorem dX10_ones_22 : decode cX10_ones 22 = .ok (.goto (-18), 3) := by decide +kernel
theorem dX10_ones_25 : decode cX10_ones 25 = .ok (.iload_n 2, 1) := by decide +kernel
theorem dX10_ones_26 : decode cX10_ones 26 = .ok (.ireturn, 1) := by decide +kernel
set_option maxRecDepth 20000 in
theorem ggX10_passed_X10_messageOf : GoodIn wsX10_passed wsX10_messageOf := goodIn_r _ [8, 9, 10, 14, 15, 16, 17, 18, 19, 20, 21, 22, 23, 24, 25, 26, 27, 28, 29, 30, 31, 32, 33, 34, 35, 36, 37, 38] (by decide +kernel) (by decide +kernel)
set_option maxRecDepth 20000 in
theorem gX10_passed_X10_messageOf : GoodIn wsX10_passed (wsV RX10 181 RX10 yX10_messageOf wsX10_messageOf) := goodIn_app (goodIn_of _ (by decide +kernel)) ggX10_passed_X10_messageOf
set_option maxRecDepth 20000 in
theorem ggX10_passed_X10_ones : GoodIn wsX10_passed wsX10_ones := goodIn_r _ [13] (by decide +kernel) (by decide +kernel)
set_option maxRecDepth 20000 in
theorem gX10_passed_X10_ones : GoodIn wsX10_passed (va_wsS RX10 184 yX10_ones wsX10_ones) := goodIn_app (goodIn_of _ (by decide +kernel)) ggX10_passed_X10_ones
theorem dX10_passed_0 : decode cX10_passed 0 = .ok (.aload_n 0, 1) := by decide +kernel
theorem dX10_passed_1 : decode cX10_passed 1 = .ok (.getfield 67, 3) := by decide +kernel
theorem dX10_passed_4 : decode cX10_passed 4 = .ok (.ifCond .ge 6, 3) := by decide +kernel
theorem dX10_passed_7 : decode cX10_passed 7 = .ok (.bipush (-3), 2) := by decide +kernel
theorem dX10_passed_9 : decode cX10_passed 9 = .ok (.ireturn, 1) := by decide +kernel
theorem dX10_passed_10 : decode cX10_passed 10 = .ok (.iconst 0, 1) := by decide +kernel
theorem dX10_passed_11 : decode cX10_passed 11 = .ok (.istore_n 1, 1) := by decide +kernel
theorem dX10_passed_12 : decode cX10_passed 12 = .ok (.iload_n 1, 1) := by decide +kernel
theorem dX10_passed_13 : decode cX10_passed 13 = .ok (.aload_n 0, 1) := by decide +kernel
theorem dX10_passed_14 : decode cX10_passed 14 = .ok (.getfield 67, 3) := by decide +kernel
theorem dX10_passed_17 : decode cX10_passed 17 = .ok (.if_icmp .ge 34, 3) := by decide +kernel
theorem dX10_passed_20 : decode cX10_passed 20 = .ok (.aload_n 0, 1) := by decide +kernel
theorem dX10_passed_21 : decode cX10_passed 21 = .ok (.aload_n 0, 1) := by decide +kernel
theorem dX10_passed_22 : decode cX10_passed 22 = .ok (.getfield 36, 3) := by decide +kernel
theorem dX10_passed_25 : decode cX10_passed 25 = .ok (.iload_n 1, 1) := by decide +kernel
theorem dX10_passed_26 : decode cX10_passed 26 = .ok (.laload, 1) := by decide +kernel
theorem dX10_passed_27 : decode cX10_passed 27 = .ok (.invokevirtual 181, 3) := by decide +kernel
theorem dX10_passed_30 : decode cX10_passed 30 = .ok (.aload_n 0, 1) := by decide +kernel
theorem dX10_passed_31 : decode cX10_passed 31 = .ok (.getfield 167, 3) := by decide +kernel
theorem dX10_passed_34 : decode cX10_passed 34 = .ok (.land, 1) := by decide +kernel
theorem dX10_passed_35 : decode cX10_passed 35 = .ok (.invokestatic 184, 3) := by decide +kernel
theorem dX10_passed_38 : decode cX10_passed 38 = .ok (.iconst 2, 1) := by decide +kernel
theorem dX10_passed_39 : decode cX10_passed 39 = .ok (.irem, 1) := by decide +kernel
theorem dX10_passed_40 : decode cX10_passed 40 = .ok (.ifCond .ne 5, 3) := by decide +kernel
theorem dX10_passed_43 : decode cX10_passed 43 = .ok (.iload_n 1, 1) := by decide +kernel
theorem dX10_passed_44 : decode cX10_passed 44 = .ok (.ireturn, 1) := by decide +kernel
theorem dX10_passed_45 : decode cX10_passed 45 = .ok (.iinc 1 1, 3) := by decide +kernel
theorem dX10_passed_48 : decode cX10_passed 48 = .ok (.goto (-36), 3) := by decide +kernel
theorem dX10_passed_51 : decode cX10_passed 51 = .ok (.bipush (-9), 2) := by decide +kernel
theorem dX10_passed_53 : decode cX10_passed 53 = .ok (.ireturn, 1) := by decide +kernel
theorem dX10_unlike_0 : decode cX10_unlike 0 = .ok (.iconst 0, 1) := by decide +kernel
theorem dX10_unlike_1 : decode cX10_unlike 1 = .ok (.istore_n 3, 1) := by decide +kernel
theorem dX10_unlike_2 : decode cX10_unlike 2 = .ok (.iconst 0, 1) := by decide +kernel
theorem dX10_unlike_3 : decode cX10_unlike 3 = .ok (.istore 4, 2) := by decide +kernel
theorem dX10_unlike_5 : decode cX10_unlike 5 = .ok (.iload 4, 2) := by decide +kernel
theorem dX10_unlike_7 : decode cX10_unlike 7 = .ok (.aload_n 0, 1) := by decide +kernel
theorem dX10_unlike_8 : decode cX10_unlike 8 = .ok (.getfield 54, 3) := by decide +kernel
theorem dX10_unlike_11 : decode cX10_unlike 11 = .ok (.if_icmp .ge 45, 3) := by decide +kernel
theorem dX10_unlike_14 : decode cX10_unlike 14 = .ok (.iload_n 3, 1) := by decide +kernel
theorem dX10_unlike_15 : decode cX10_unlike 15 = .ok (.aload_n 0, 1) := by decide +kernel
theorem dX10_unlike_16 : decode cX10_unlike 16 = .ok (.getfield 30, 3) := by decide +kernel
theorem dX10_unlike_19 : decode cX10_unlike 19 = .ok (.iload 4, 2) := by decide +kernel
theorem dX10_unlike_21 : decode cX10_unlike 21 = .ok (.iaload, 1) := by decide +kernel
theorem dX10_unlike_22 : decode cX10_unlike 22 = .ok (.iconst 2, 1) := by decide +kernel
theorem dX10_unlike_23 : decode cX10_unlike 23 = .ok (.if_icmp .ge 24, 3) := by decide +kernel
theorem dX10_unlike_26 : decode cX10_unlike 26 = .ok (.aload_n 0, 1) := by decide +kernel
theorem dX10_unlike_27 : decode cX10_unlike 27 = .ok (.getfield 30, 3) := by decide +kernel
theorem dX10_unlike_30 : decode cX10_unlike 30 = .ok (.iload 4, 2) := by decide +kernel
theorem dX10_unlike_32 : decode cX10_unlike 32 = .ok (.iaload, 1) := by decide +kernel
theorem dX10_unlike_33 : decode cX10_unlike 33 = .ok (.lload_n 1, 1) := by decide +kernel
theorem dX10_unlike_34 : decode cX10_unlike 34 = .ok (.iload 4, 2) := by decide +kernel
theorem dX10_unlike_36 : decode cX10_unlike 36 = .ok (.lshr, 1) := by decide +kernel
theorem dX10_unlike_37 : decode cX10_unlike 37 = .ok (.lconst 1, 1) := by decide +kernel
theorem dX10_unlike_38 : decode cX10_unlike 38 = .ok (.land, 1) := by decide +kernel
theorem dX10_unlike_39 : decode cX10_unlike 39 = .ok (.l2i, 1) := by decide +kernel
theorem dX10_unlike_40 : decode cX10_unlike 40 = .ok (.if_icmp .eq 7, 3) := by decide +kernel
theorem dX10_unlike_43 : decode cX10_unlike 43 = .ok (.iconst 1, 1) := by decide +kernel
theorem dX10_unlike_44 : decode cX10_unlike 44 = .ok (.goto 4, 3) := by decide +kernel
theorem dX10_unlike_47 : decode cX10_unlike 47 = .ok (.iconst 0, 1) := by decide +kernel
theorem dX10_unlike_48 : decode cX10_unlike 48 = .ok (.iadd, 1) := by decide +kernel
theorem dX10_unlike_49 : decode cX10_unlike 49 = .ok (.istore_n 3, 1) := by decide +kernel
theorem dX10_unlike_50 : decode cX10_unlike 50 = .ok (.iinc 4 1, 3) := by decide +kernel
theorem dX10_unlike_53 : decode cX10_unlike 53 = .ok (.goto (-48), 3) := by decide +kernel
theorem dX10_unlike_56 : decode cX10_unlike 56 = .ok (.iload_n 3, 1) := by decide +kernel
theorem dX10_unlike_57 : decode cX10_unlike 57 = .ok (.ireturn, 1) := by decide +kernel
set_option maxRecDepth 20000 in
theorem ggX10_nearest_X10_noSheet : GoodIn wsX10_nearest wsX10_noSheet := goodIn_r _ [7, 8, 9, 10, 6, 11] (by decide +kernel) (by decide +kernel)
set_option maxRecDepth 20000 in
theorem gX10_nearest_X10_noSheet : GoodIn wsX10_nearest (va_wsS RX10 131 yX10_noSheet wsX10_noSheet) := goodIn_app (goodIn_of _ (by decide +kernel)) ggX10_nearest_X10_noSheet
set_option maxRecDepth 20000 in
theorem ggX10_nearest_X10_in : GoodIn wsX10_nearest wsX10_in := goodIn_r _ [11] (by decide +kernel) (by decide +kernel)
set_option maxRecDepth 20000 in
theorem gX10_nearest_X10_in : GoodIn wsX10_nearest (va_wsS RX10 79 yX10_in wsX10_in) := goodIn_app (goodIn_of _ (by decide +kernel)) ggX10_nearest_X10_in
set_option maxRecDepth 20000 in
theorem ggX10_nearest_X10_goods : GoodIn wsX10_nearest wsX10_goods := goodIn_r _ [15, 3, 16, 49, 50, 51, 52, 53, 54, 55, 56, 57, 58, 59, 60, 61, 62, 63, 64, 65, 66, 67, 68, 69, 70, 71, 72, 73] (by decide +kernel) (by decide +kernel)
set_option maxRecDepth 20000 in
theorem gX10_nearest_X10_goods : GoodIn wsX10_nearest (wsV RX10 110 RX10 yX10_goods wsX10_goods) := goodIn_app (goodIn_of _ (by decide +kernel)) ggX10_nearest_X10_goods
set_option maxRecDepth 20000 in
theorem ggX10_nearest_X10_lost : GoodIn wsX10_nearest wsX10_lost := goodIn_r _ [19, 20] (by decide +kernel) (by decide +kernel)
set_option maxRecDepth 20000 in
theorem gX10_nearest_X10_lost : GoodIn wsX10_nearest (va_wsS RX10 75 yX10_lost wsX10_lost) := goodIn_app (goodIn_of _ (by decide +kernel)) ggX10_nearest_X10_lost
set_option maxRecDepth 20000 in
theorem ggX10_nearest_X10_faultOf : GoodIn wsX10_nearest wsX10_faultOf := goodIn_r _ [24, 25, 26, 3, 49, 50, 51, 52, 53, 54, 55, 56, 57, 58, 59, 60, 61, 62, 63, 64, 65, 66, 67, 68, 69, 70, 71, 72, 73] (by decide +kernel) (by decide +kernel)
set_option maxRecDepth 20000 in
theorem gX10_nearest_X10_faultOf : GoodIn wsX10_nearest (wsV RX10 171 RX10 yX10_faultOf wsX10_faultOf) := goodIn_app (goodIn_of _ (by decide +kernel)) ggX10_nearest_X10_faultOf
set_option maxRecDepth 20000 in
theorem ggX10_nearest_X10_failedLong : GoodIn wsX10_nearest wsX10_failedLong := goodIn_r _ [30, 1, 17, 18, 6, 19, 20, 49, 50, 51, 52, 53, 54, 55, 56, 57, 58, 59, 60, 61, 62, 63, 64, 65, 66, 67, 68, 69, 70, 71, 72, 73] (by decide +kernel) (by decide +kernel)
set_option maxRecDepth 20000 in
theorem gX10_nearest_X10_failedLong : GoodIn wsX10_nearest (wsV RX10 145 RX10 yX10_failedLong wsX10_failedLong) := goodIn_app (goodIn_of _ (by decide +kernel)) ggX10_nearest_X10_failedLong
set_option maxRecDepth 20000 in
theorem ggX10_nearest_X10_laySeen : GoodIn wsX10_nearest wsX10_laySeen := goodIn_r _ [34, 3, 35, 36, 49, 50, 51, 52, 53, 54, 55, 56, 57, 58, 59, 60, 61, 62, 63, 64, 65, 66, 67, 68, 69, 70, 71, 72, 73] (by decide +kernel) (by decide +kernel)
set_option maxRecDepth 20000 in
theorem gX10_nearest_X10_laySeen : GoodIn wsX10_nearest (wsV RX10 174 RX10 yX10_laySeen wsX10_laySeen) := goodIn_app (goodIn_of _ (by decide +kernel)) ggX10_nearest_X10_laySeen
set_option maxRecDepth 20000 in
theorem ggX10_nearest_X10_rowOf : GoodIn wsX10_nearest wsX10_rowOf := goodIn_r _ [40, 3, 16, 41, 49, 50, 51, 52, 53, 54, 55, 56, 57, 58, 59, 60, 61, 62, 63, 64, 65, 66, 67, 68, 69, 70, 71, 72, 73] (by decide +kernel) (by decide +kernel)
set_option maxRecDepth 20000 in
theorem gX10_nearest_X10_rowOf : GoodIn wsX10_nearest (wsV RX10 118 RX10 yX10_rowOf wsX10_rowOf) := goodIn_app (goodIn_of _ (by decide +kernel)) ggX10_nearest_X10_rowOf
set_option maxRecDepth 20000 in
theorem ggX10_nearest_X10_folded : GoodIn wsX10_nearest wsX10_folded := goodIn_r _ [44] (by decide +kernel) (by decide +kernel)
set_option maxRecDepth 20000 in
theorem gX10_nearest_X10_folded : GoodIn wsX10_nearest (va_wsS RX10 122 yX10_folded wsX10_folded) := goodIn_app (goodIn_of _ (by decide +kernel)) ggX10_nearest_X10_folded
set_option maxRecDepth 20000 in
theorem ggX10_nearest_X10_unlike : GoodIn wsX10_nearest wsX10_unlike := goodIn_r _ [48, 3, 36, 49, 50, 51, 52, 53, 54, 55, 56, 57, 58, 59, 60, 61, 62, 63, 64, 65, 66, 67, 68, 69, 70, 71, 72, 73] (by decide +kernel) (by decide +kernel)
set_option maxRecDepth 20000 in
theorem gX10_nearest_X10_unlike : GoodIn wsX10_nearest (wsV RX10 188 RX10 yX10_unlike wsX10_unlike) := goodIn_app (goodIn_of _ (by decide +kernel)) ggX10_nearest_X10_unlike
theorem dX10_nearest_0 : decode cX10_nearest 0 = .ok (.aload_n 0, 1) := by decide +kernel
theorem dX10_nearest_1 : decode cX10_nearest 1 = .ok (.iconst 0, 1) := by decide +kernel
theorem dX10_nearest_2 : decode cX10_nearest 2 = .ok (.putfield 72, 3) := by decide +kernel
theorem dX10_nearest_5 : decode cX10_nearest 5 = .ok (.iload_n 1, 1) := by decide +kernel
theorem dX10_nearest_6 : decode cX10_nearest 6 = .ok (.invokestatic 131, 3) := by decide +kernel
theorem dX10_nearest_9 : decode cX10_nearest 9 = .ok (.ifCond .ne 34, 3) := by decide +kernel
theorem dX10_nearest_12 : decode cX10_nearest 12 = .ok (.iload_n 2, 1) := by decide +kernel
theorem dX10_nearest_13 : decode cX10_nearest 13 = .ok (.i2l, 1) := by decide +kernel
theorem dX10_nearest_14 : decode cX10_nearest 14 = .ok (.lconst 0, 1) := by decide +kernel
theorem dX10_nearest_15 : decode cX10_nearest 15 = .ok (.ldc2_w 93, 3) := by decide +kernel
theorem dX10_nearest_18 : decode cX10_nearest 18 = .ok (.invokestatic 79, 3) := by decide +kernel
theorem dX10_nearest_21 : decode cX10_nearest 21 = .ok (.ifCond .eq 22, 3) := by decide +kernel
theorem dX10_nearest_24 : decode cX10_nearest 24 = .ok (.iload_n 3, 1) := by decide +kernel
theorem dX10_nearest_25 : decode cX10_nearest 25 = .ok (.i2l, 1) := by decide +kernel
theorem dX10_nearest_26 : decode cX10_nearest 26 = .ok (.lconst 0, 1) := by decide +kernel
theorem dX10_nearest_27 : decode cX10_nearest 27 = .ok (.lconst 1, 1) := by decide +kernel
theorem dX10_nearest_28 : decode cX10_nearest 28 = .ok (.invokestatic 79, 3) := by decide +kernel
theorem dX10_nearest_31 : decode cX10_nearest 31 = .ok (.ifCond .eq 12, 3) := by decide +kernel
theorem dX10_nearest_34 : decode cX10_nearest 34 = .ok (.aload_n 0, 1) := by decide +kernel
theorem dX10_nearest_35 : decode cX10_nearest 35 = .ok (.invokevirtual 110, 3) := by decide +kernel
theorem dX10_nearest_38 : decode cX10_nearest 38 = .ok (.bipush 12, 2) := by decide +kernel
theorem dX10_nearest_40 : decode cX10_nearest 40 = .ok (.if_icmp .le 7, 3) := by decide +kernel
theorem dX10_nearest_43 : decode cX10_nearest 43 = .ok (.invokestatic 75, 3) := by decide +kernel
theorem dX10_nearest_46 : decode cX10_nearest 46 = .ok (.lreturn, 1) := by decide +kernel
theorem dX10_nearest_47 : decode cX10_nearest 47 = .ok (.aload_n 0, 1) := by decide +kernel
theorem dX10_nearest_48 : decode cX10_nearest 48 = .ok (.iload_n 1, 1) := by decide +kernel
theorem dX10_nearest_49 : decode cX10_nearest 49 = .ok (.iload_n 2, 1) := by decide +kernel
theorem dX10_nearest_50 : decode cX10_nearest 50 = .ok (.invokevirtual 171, 3) := by decide +kernel
theorem dX10_nearest_53 : decode cX10_nearest 53 = .ok (.istore 4, 2) := by decide +kernel
theorem dX10_nearest_55 : decode cX10_nearest 55 = .ok (.iload 4, 2) := by decide +kernel
theorem dX10_nearest_57 : decode cX10_nearest 57 = .ok (.ifCond .le 10, 3) := by decide +kernel
theorem dX10_nearest_60 : decode cX10_nearest 60 = .ok (.aload_n 0, 1) := by decide +kernel
theorem dX10_nearest_61 : decode cX10_nearest 61 = .ok (.iload 4, 2) := by decide +kernel
theorem dX10_nearest_63 : decode cX10_nearest 63 = .ok (.invokevirtual 145, 3) := by decide +kernel
theorem dX10_nearest_66 : decode cX10_nearest 66 = .ok (.lreturn, 1) := by decide +kernel
theorem dX10_nearest_67 : decode cX10_nearest 67 = .ok (.aload_n 0, 1) := by decide +kernel
theorem dX10_nearest_68 : decode cX10_nearest 68 = .ok (.iload_n 1, 1) := by decide +kernel
theorem dX10_nearest_69 : decode cX10_nearest 69 = .ok (.invokevirtual 174, 3) := by decide +kernel
theorem dX10_nearest_72 : decode cX10_nearest 72 = .ok (.lconst 0, 1) := by decide +kernel
theorem dX10_nearest_73 : decode cX10_nearest 73 = .ok (.lstore 5, 2) := by decide +kernel
theorem dX10_nearest_75 : decode cX10_nearest 75 = .ok (.bipush 99, 2) := by decide +kernel
theorem dX10_nearest_77 : decode cX10_nearest 77 = .ok (.istore 7, 2) := by decide +kernel
theorem dX10_nearest_79 : decode cX10_nearest 79 = .ok (.lconst 0, 1) := by decide +kernel
theorem dX10_nearest_80 : decode cX10_nearest 80 = .ok (.lstore 8, 2) := by decide +kernel
theorem dX10_nearest_82 : decode cX10_nearest 82 = .ok (.lload 8, 2) := by decide +kernel
theorem dX10_nearest_84 : decode cX10_nearest 84 = .ok (.lconst 1, 1) := by decide +kernel
theorem dX10_nearest_85 : decode cX10_nearest 85 = .ok (.aload_n 0, 1) := by decide +kernel
theorem dX10_nearest_86 : decode cX10_nearest 86 = .ok (.invokevirtual 110, 3) := by decide +kernel
theorem dX10_nearest_89 : decode cX10_nearest 89 = .ok (.lshl, 1) := by decide +kernel
theorem dX10_nearest_90 : decode cX10_nearest 90 = .ok (.lcmp, 1) := by decide +kernel
theorem dX10_nearest_91 : decode cX10_nearest 91 = .ok (.ifCond .ge 63, 3) := by decide +kernel
theorem dX10_nearest_94 : decode cX10_nearest 94 = .ok (.aload_n 0, 1) := by decide +kernel
theorem dX10_nearest_95 : decode cX10_nearest 95 = .ok (.aload_n 0, 1) := by decide +kernel
theorem dX10_nearest_96 : decode cX10_nearest 96 = .ok (.lload 8, 2) := by decide +kernel
theorem dX10_nearest_98 : decode cX10_nearest 98 = .ok (.invokevirtual 118, 3) := by decide +kernel
theorem dX10_nearest_101 : decode cX10_nearest 101 = .ok (.aload_n 0, 1) := by decide +kernel
theorem dX10_nearest_102 : decode cX10_nearest 102 = .ok (.getfield 54, 3) := by decide +kernel
theorem dX10_nearest_105 : decode cX10_nearest 105 = .ok (.invokestatic 122, 3) := by decide +kernel
theorem dX10_nearest_108 : decode cX10_nearest 108 = .ok (.invokevirtual 188, 3) := by decide +kernel
theorem dX10_nearest_111 : decode cX10_nearest 111 = .ok (.istore 10, 2) := by decide +kernel
theorem dX10_nearest_113 : decode cX10_nearest 113 = .ok (.iload 10, 2) := by decide +kernel
theorem dX10_nearest_115 : decode cX10_nearest 115 = .ok (.iload 7, 2) := by decide +kernel
theorem dX10_nearest_117 : decode cX10_nearest 117 = .ok (.if_icmp .ge 8, 3) := by decide +kernel
theorem dX10_nearest_120 : decode cX10_nearest 120 = .ok (.lload 8, 2) := by decide +kernel
theorem dX10_nearest_122 : decode cX10_nearest 122 = .ok (.goto 5, 3) := by decide +kernel
theorem dX10_nearest_125 : decode cX10_nearest 125 = .ok (.lload 5, 2) := by decide +kernel
theorem dX10_nearest_127 : decode cX10_nearest 127 = .ok (.lstore 5, 2) := by decide +kernel
theorem dX10_nearest_129 : decode cX10_nearest 129 = .ok (.iload 10, 2) := by decide +kernel
theorem dX10_nearest_131 : decode cX10_nearest 131 = .ok (.iload 7, 2) := by decide +kernel
theorem dX10_nearest_133 : decode cX10_nearest 133 = .ok (.if_icmp .ge 8, 3) := by decide +kernel
theorem dX10_nearest_136 : decode cX10_nearest 136 = .ok (.iload 10, 2) := by decide +kernel
theorem dX10_nearest_138 : decode cX10_nearest 138 = .ok (.goto 5, 3) := by decide +kernel
theorem dX10_nearest_141 : decode cX10_nearest 141 = .ok (.iload 7, 2) := by decide +kernel
theorem dX10_nearest_143 : decode cX10_nearest 143 = .ok (.istore 7, 2) := by decide +kernel
theorem dX10_nearest_145 : decode cX10_nearest 145 = .ok (.lload 8, 2) := by decide +kernel
theorem dX10_nearest_147 : decode cX10_nearest 147 = .ok (.lconst 1, 1) := by decide +kernel
theorem dX10_nearest_148 : decode cX10_nearest 148 = .ok (.ladd, 1) := by decide +kernel
theorem dX10_nearest_149 : decode cX10_nearest 149 = .ok (.lstore 8, 2) := by decide +kernel
theorem dX10_nearest_151 : decode cX10_nearest 151 = .ok (.goto (-69), 3) := by decide +kernel
theorem dX10_nearest_154 : decode cX10_nearest 154 = .ok (.iload_n 3, 1) := by decide +kernel
theorem dX10_nearest_155 : decode cX10_nearest 155 = .ok (.ifCond .ne 8, 3) := by decide +kernel
theorem dX10_nearest_158 : decode cX10_nearest 158 = .ok (.lload 5, 2) := by decide +kernel
theorem dX10_nearest_160 : decode cX10_nearest 160 = .ok (.goto 6, 3) := by decide +kernel
theorem dX10_nearest_163 : decode cX10_nearest 163 = .ok (.iload 7, 2) := by decide +kernel
theorem dX10_nearest_165 : decode cX10_nearest 165 = .ok (.i2l, 1) := by decide +kernel
theorem dX10_nearest_166 : decode cX10_nearest 166 = .ok (.lreturn, 1) := by decide +kernel
set_option maxRecDepth 20000 in
theorem ggX10_send_X10_noSheet : GoodIn wsX10_send wsX10_noSheet := goodIn_r _ [8, 9, 10, 11, 7, 12] (by decide +kernel) (by decide +kernel)
set_option maxRecDepth 20000 in
theorem gX10_send_X10_noSheet : GoodIn wsX10_send (va_wsS RX10 131 yX10_noSheet wsX10_noSheet) := goodIn_app (goodIn_of _ (by decide +kernel)) ggX10_send_X10_noSheet
set_option maxRecDepth 20000 in
theorem ggX10_send_X10_refused : GoodIn wsX10_send wsX10_refused := goodIn_r _ [16, 17, 46, 47, 48, 49, 50, 51, 52, 53, 54, 55, 56, 57, 58, 59, 60, 61, 62, 63, 64, 65, 66, 67, 68, 69, 70] (by decide +kernel) (by decide +kernel)
set_option maxRecDepth 20000 in
theorem gX10_send_X10_refused : GoodIn wsX10_send (wsV RX10 134 RX10 yX10_refused wsX10_refused) := goodIn_app (goodIn_of _ (by decide +kernel)) ggX10_send_X10_refused
set_option maxRecDepth 20000 in
theorem ggX10_send_X10_isMessage : GoodIn wsX10_send wsX10_isMessage := goodIn_r _ [21, 22, 23, 24, 7, 25, 2, 26, 10, 11, 12, 46, 47, 48, 49, 50, 51, 52, 53, 54, 55, 56, 57, 58, 59, 60, 61, 62, 63, 64, 65, 66, 67, 68, 69, 70] (by decide +kernel) (by decide +kernel)
set_option maxRecDepth 20000 in
theorem gX10_send_X10_isMessage : GoodIn wsX10_send (wsV RX10 114 RX10 yX10_isMessage wsX10_isMessage) := goodIn_app (goodIn_of _ (by decide +kernel)) ggX10_send_X10_isMessage
set_option maxRecDepth 20000 in
theorem ggX10_send_X10_all : GoodIn wsX10_send wsX10_all := goodIn_r _ [30, 2, 46, 47, 48, 49, 50, 51, 52, 53, 54, 55, 56, 57, 58, 59, 60, 61, 62, 63, 64, 65, 66, 67, 68, 69, 70] (by decide +kernel) (by decide +kernel)
set_option maxRecDepth 20000 in
theorem gX10_send_X10_all : GoodIn wsX10_send (wsV RX10 126 RX10 yX10_all wsX10_all) := goodIn_app (goodIn_of _ (by decide +kernel)) ggX10_send_X10_all
set_option maxRecDepth 20000 in
theorem ggX10_send_X10_in : GoodIn wsX10_send wsX10_in := goodIn_r _ [12] (by decide +kernel) (by decide +kernel)
set_option maxRecDepth 20000 in
theorem gX10_send_X10_in : GoodIn wsX10_send (va_wsS RX10 79 yX10_in wsX10_in) := goodIn_app (goodIn_of _ (by decide +kernel)) ggX10_send_X10_in
set_option maxRecDepth 20000 in
theorem ggX10_send_X10_failed : GoodIn wsX10_send wsX10_failed := goodIn_r _ [34, 17, 46, 47, 48, 49, 50, 51, 52, 53, 54, 55, 56, 57, 58, 59, 60, 61, 62, 63, 64, 65, 66, 67, 68, 69, 70] (by decide +kernel) (by decide +kernel)
set_option maxRecDepth 20000 in
theorem gX10_send_X10_failed : GoodIn wsX10_send (wsV RX10 138 RX10 yX10_failed wsX10_failed) := goodIn_app (goodIn_of _ (by decide +kernel)) ggX10_send_X10_failed
set_option maxRecDepth 20000 in
theorem ggX10_send_X10_rowOf : GoodIn wsX10_send wsX10_rowOf := goodIn_r _ [38, 2, 26, 39, 46, 47, 48, 49, 50, 51, 52, 53, 54, 55, 56, 57, 58, 59, 60, 61, 62, 63, 64, 65, 66, 67, 68, 69, 70] (by decide +kernel) (by decide +kernel)
set_option maxRecDepth 20000 in
theorem gX10_send_X10_rowOf : GoodIn wsX10_send (wsV RX10 118 RX10 yX10_rowOf wsX10_rowOf) := goodIn_app (goodIn_of _ (by decide +kernel)) ggX10_send_X10_rowOf
set_option maxRecDepth 20000 in
theorem ggX10_send_X10_folded : GoodIn wsX10_send wsX10_folded := goodIn_r _ [42] (by decide +kernel) (by decide +kernel)
set_option maxRecDepth 20000 in
theorem gX10_send_X10_folded : GoodIn wsX10_send (va_wsS RX10 122 yX10_folded wsX10_folded) := goodIn_app (goodIn_of _ (by decide +kernel)) ggX10_send_X10_folded
set_option maxRecDepth 20000 in
theorem ggX10_send_X10_ones : GoodIn wsX10_send wsX10_ones := goodIn_r _ [45] (by decide +kernel) (by decide +kernel)
set_option maxRecDepth 20000 in
theorem gX10_send_X10_ones : GoodIn wsX10_send (va_wsS RX10 184 yX10_ones wsX10_ones) := goodIn_app (goodIn_of _ (by decide +kernel)) ggX10_send_X10_ones
theorem dX10_send_0 : decode cX10_send 0 = .ok (.iload_n 1, 1) := by decide +kernel
theorem dX10_send_1 : decode cX10_send 1 = .ok (.invokestatic 131, 3) := by decide +kernel
theorem dX10_send_4 : decode cX10_send 4 = .ok (.ifCond .eq 9, 3) := by decide +kernel
theorem dX10_send_7 : decode cX10_send 7 = .ok (.aload_n 0, 1) := by decide +kernel
theorem dX10_send_8 : decode cX10_send 8 = .ok (.iconst (-1), 1) := by decide +kernel
theorem dX10_send_9 : decode cX10_send 9 = .ok (.invokevirtual 134, 3) := by decide +kernel
theorem dX10_send_12 : decode cX10_send 12 = .ok (.ireturn, 1) := by decide +kernel
theorem dX10_send_13 : decode cX10_send 13 = .ok (.aload_n 0, 1) := by decide +kernel
theorem dX10_send_14 : decode cX10_send 14 = .ok (.lload_n 2, 1) := by decide +kernel
theorem dX10_send_15 : decode cX10_send 15 = .ok (.invokevirtual 114, 3) := by decide +kernel
theorem dX10_send_18 : decode cX10_send 18 = .ok (.ifCond .eq 29, 3) := by decide +kernel
theorem dX10_send_21 : decode cX10_send 21 = .ok (.lload 4, 2) := by decide +kernel
theorem dX10_send_23 : decode cX10_send 23 = .ok (.lconst 0, 1) := by decide +kernel
theorem dX10_send_24 : decode cX10_send 24 = .ok (.aload_n 0, 1) := by decide +kernel
theorem dX10_send_25 : decode cX10_send 25 = .ok (.invokevirtual 126, 3) := by decide +kernel
theorem dX10_send_28 : decode cX10_send 28 = .ok (.invokestatic 79, 3) := by decide +kernel
theorem dX10_send_31 : decode cX10_send 31 = .ok (.ifCond .eq 16, 3) := by decide +kernel
theorem dX10_send_34 : decode cX10_send 34 = .ok (.lload 6, 2) := by decide +kernel
theorem dX10_send_36 : decode cX10_send 36 = .ok (.lconst 0, 1) := by decide +kernel
theorem dX10_send_37 : decode cX10_send 37 = .ok (.aload_n 0, 1) := by decide +kernel
theorem dX10_send_38 : decode cX10_send 38 = .ok (.invokevirtual 126, 3) := by decide +kernel
theorem dX10_send_41 : decode cX10_send 41 = .ok (.invokestatic 79, 3) := by decide +kernel
theorem dX10_send_44 : decode cX10_send 44 = .ok (.ifCond .ne 10, 3) := by decide +kernel
theorem dX10_send_47 : decode cX10_send 47 = .ok (.aload_n 0, 1) := by decide +kernel
theorem dX10_send_48 : decode cX10_send 48 = .ok (.bipush (-2), 2) := by decide +kernel
theorem dX10_send_50 : decode cX10_send 50 = .ok (.invokevirtual 134, 3) := by decide +kernel
theorem dX10_send_53 : decode cX10_send 53 = .ok (.ireturn, 1) := by decide +kernel
theorem dX10_send_54 : decode cX10_send 54 = .ok (.aload_n 0, 1) := by decide +kernel
theorem dX10_send_55 : decode cX10_send 55 = .ok (.getfield 17, 3) := by decide +kernel
theorem dX10_send_58 : decode cX10_send 58 = .ok (.iload_n 1, 1) := by decide +kernel
theorem dX10_send_59 : decode cX10_send 59 = .ok (.iaload, 1) := by decide +kernel
theorem dX10_send_60 : decode cX10_send 60 = .ok (.ifCond .ge 9, 3) := by decide +kernel
theorem dX10_send_63 : decode cX10_send 63 = .ok (.aload_n 0, 1) := by decide +kernel
theorem dX10_send_64 : decode cX10_send 64 = .ok (.iconst 1, 1) := by decide +kernel
theorem dX10_send_65 : decode cX10_send 65 = .ok (.invokevirtual 138, 3) := by decide +kernel
theorem dX10_send_68 : decode cX10_send 68 = .ok (.ireturn, 1) := by decide +kernel
theorem dX10_send_69 : decode cX10_send 69 = .ok (.aload_n 0, 1) := by decide +kernel
theorem dX10_send_70 : decode cX10_send 70 = .ok (.getfield 17, 3) := by decide +kernel
theorem dX10_send_73 : decode cX10_send 73 = .ok (.iload_n 1, 1) := by decide +kernel
theorem dX10_send_74 : decode cX10_send 74 = .ok (.iaload, 1) := by decide +kernel
theorem dX10_send_75 : decode cX10_send 75 = .ok (.aload_n 0, 1) := by decide +kernel
theorem dX10_send_76 : decode cX10_send 76 = .ok (.getfield 54, 3) := by decide +kernel
theorem dX10_send_79 : decode cX10_send 79 = .ok (.if_icmp .ge 9, 3) := by decide +kernel
theorem dX10_send_82 : decode cX10_send 82 = .ok (.aload_n 0, 1) := by decide +kernel
theorem dX10_send_83 : decode cX10_send 83 = .ok (.iconst 3, 1) := by decide +kernel
theorem dX10_send_84 : decode cX10_send 84 = .ok (.invokevirtual 138, 3) := by decide +kernel
theorem dX10_send_87 : decode cX10_send 87 = .ok (.ireturn, 1) := by decide +kernel
theorem dX10_send_88 : decode cX10_send 88 = .ok (.aload_n 0, 1) := by decide +kernel
theorem dX10_send_89 : decode cX10_send 89 = .ok (.lload_n 2, 1) := by decide +kernel
theorem dX10_send_90 : decode cX10_send 90 = .ok (.invokevirtual 118, 3) := by decide +kernel
theorem dX10_send_93 : decode cX10_send 93 = .ok (.aload_n 0, 1) := by decide +kernel
theorem dX10_send_94 : decode cX10_send 94 = .ok (.getfield 54, 3) := by decide +kernel
theorem dX10_send_97 : decode cX10_send 97 = .ok (.invokestatic 122, 3) := by decide +kernel
theorem dX10_send_100 : decode cX10_send 100 = .ok (.lload 6, 2) := by decide +kernel
theorem dX10_send_102 : decode cX10_send 102 = .ok (.lxor, 1) := by decide +kernel
theorem dX10_send_103 : decode cX10_send 103 = .ok (.lstore 8, 2) := by decide +kernel
theorem dX10_send_105 : decode cX10_send 105 = .ok (.iconst 0, 1) := by decide +kernel
theorem dX10_send_106 : decode cX10_send 106 = .ok (.istore 10, 2) := by decide +kernel
theorem dX10_send_108 : decode cX10_send 108 = .ok (.iload 10, 2) := by decide +kernel
theorem dX10_send_110 : decode cX10_send 110 = .ok (.aload_n 0, 1) := by decide +kernel
theorem dX10_send_111 : decode cX10_send 111 = .ok (.getfield 54, 3) := by decide +kernel
theorem dX10_send_114 : decode cX10_send 114 = .ok (.if_icmp .ge 46, 3) := by decide +kernel
theorem dX10_send_117 : decode cX10_send 117 = .ok (.aload_n 0, 1) := by decide +kernel
theorem dX10_send_118 : decode cX10_send 118 = .ok (.getfield 23, 3) := by decide +kernel
theorem dX10_send_121 : decode cX10_send 121 = .ok (.bipush 40, 2) := by decide +kernel
theorem dX10_send_123 : decode cX10_send 123 = .ok (.iload_n 1, 1) := by decide +kernel
theorem dX10_send_124 : decode cX10_send 124 = .ok (.imul, 1) := by decide +kernel
theorem dX10_send_125 : decode cX10_send 125 = .ok (.iload 10, 2) := by decide +kernel
theorem dX10_send_127 : decode cX10_send 127 = .ok (.iadd, 1) := by decide +kernel
theorem dX10_send_128 : decode cX10_send 128 = .ok (.lload 4, 2) := by decide +kernel
theorem dX10_send_130 : decode cX10_send 130 = .ok (.iload 10, 2) := by decide +kernel
theorem dX10_send_132 : decode cX10_send 132 = .ok (.lshr, 1) := by decide +kernel
theorem dX10_send_133 : decode cX10_send 133 = .ok (.lconst 1, 1) := by decide +kernel
theorem dX10_send_134 : decode cX10_send 134 = .ok (.land, 1) := by decide +kernel
theorem dX10_send_135 : decode cX10_send 135 = .ok (.lconst 1, 1) := by decide +kernel
theorem dX10_send_136 : decode cX10_send 136 = .ok (.lcmp, 1) := by decide +kernel
theorem dX10_send_137 : decode cX10_send 137 = .ok (.ifCond .ne 9, 3) := by decide +kernel
theorem dX10_send_140 : decode cX10_send 140 = .ok (.ldc2_w 93, 3) := by decide +kernel
theorem dX10_send_143 : decode cX10_send 143 = .ok (.goto 10, 3) := by decide +kernel
theorem dX10_send_146 : decode cX10_send 146 = .ok (.lload 8, 2) := by decide +kernel
theorem dX10_send_148 : decode cX10_send 148 = .ok (.iload 10, 2) := by decide +kernel
theorem dX10_send_150 : decode cX10_send 150 = .ok (.lshr, 1) := by decide +kernel
theorem dX10_send_151 : decode cX10_send 151 = .ok (.lconst 1, 1) := by decide +kernel
theorem dX10_send_152 : decode cX10_send 152 = .ok (.land, 1) := by decide +kernel
theorem dX10_send_153 : decode cX10_send 153 = .ok (.lastore, 1) := by decide +kernel
theorem dX10_send_154 : decode cX10_send 154 = .ok (.iinc 10 1, 3) := by decide +kernel
theorem dX10_send_157 : decode cX10_send 157 = .ok (.goto (-49), 3) := by decide +kernel
theorem dX10_send_160 : decode cX10_send 160 = .ok (.aload_n 0, 1) := by decide +kernel
theorem dX10_send_161 : decode cX10_send 161 = .ok (.lload 4, 2) := by decide +kernel
theorem dX10_send_163 : decode cX10_send 163 = .ok (.lload 6, 2) := by decide +kernel
theorem dX10_send_165 : decode cX10_send 165 = .ok (.lor, 1) := by decide +kernel
theorem dX10_send_166 : decode cX10_send 166 = .ok (.invokestatic 184, 3) := by decide +kernel
theorem dX10_send_169 : decode cX10_send 169 = .ok (.invokevirtual 134, 3) := by decide +kernel
theorem dX10_send_172 : decode cX10_send 172 = .ok (.ireturn, 1) := by decide +kernel
theorem dX10_isOdd_0 : decode cX10_isOdd 0 = .ok (.lload_n 0, 1) := by decide +kernel
theorem dX10_isOdd_1 : decode cX10_isOdd 1 = .ok (.lload_n 0, 1) := by decide +kernel
theorem dX10_isOdd_2 : decode cX10_isOdd 2 = .ok (.bipush 16, 2) := by decide +kernel
theorem dX10_isOdd_4 : decode cX10_isOdd 4 = .ok (.lshr, 1) := by decide +kernel
theorem dX10_isOdd_5 : decode cX10_isOdd 5 = .ok (.lxor, 1) := by decide +kernel
theorem dX10_isOdd_6 : decode cX10_isOdd 6 = .ok (.lstore_n 2, 1) := by decide +kernel
theorem dX10_isOdd_7 : decode cX10_isOdd 7 = .ok (.lload_n 2, 1) := by decide +kernel
theorem dX10_isOdd_8 : decode cX10_isOdd 8 = .ok (.lload_n 2, 1) := by decide +kernel
theorem dX10_isOdd_9 : decode cX10_isOdd 9 = .ok (.bipush 8, 2) := by decide +kernel
theorem dX10_isOdd_11 : decode cX10_isOdd 11 = .ok (.lshr, 1) := by decide +kernel
theorem dX10_isOdd_12 : decode cX10_isOdd 12 = .ok (.lxor, 1) := by decide +kernel
theorem dX10_isOdd_13 : decode cX10_isOdd 13 = .ok (.lstore_n 2, 1) := by decide +kernel
theorem dX10_isOdd_14 : decode cX10_isOdd 14 = .ok (.lload_n 2, 1) := by decide +kernel
theorem dX10_isOdd_15 : decode cX10_isOdd 15 = .ok (.lload_n 2, 1) := by decide +kernel
theorem dX10_isOdd_16 : decode cX10_isOdd 16 = .ok (.iconst 4, 1) := by decide +kernel
theorem dX10_isOdd_17 : decode cX10_isOdd 17 = .ok (.lshr, 1) := by decide +kernel
theorem dX10_isOdd_18 : decode cX10_isOdd 18 = .ok (.lxor, 1) := by decide +kernel
theorem dX10_isOdd_19 : decode cX10_isOdd 19 = .ok (.lstore_n 2, 1) := by decide +kernel
theorem dX10_isOdd_20 : decode cX10_isOdd 20 = .ok (.lload_n 2, 1) := by decide +kernel
theorem dX10_isOdd_21 : decode cX10_isOdd 21 = .ok (.lload_n 2, 1) := by decide +kernel
theorem dX10_isOdd_22 : decode cX10_isOdd 22 = .ok (.iconst 2, 1) := by decide +kernel
theorem dX10_isOdd_23 : decode cX10_isOdd 23 = .ok (.lshr, 1) := by decide +kernel
theorem dX10_isOdd_24 : decode cX10_isOdd 24 = .ok (.lxor, 1) := by decide +kernel
theorem dX10_isOdd_25 : decode cX10_isOdd 25 = .ok (.lstore_n 2, 1) := by decide +kernel
theorem dX10_isOdd_26 : decode cX10_isOdd 26 = .ok (.lload_n 2, 1) := by decide +kernel
theorem dX10_isOdd_27 : decode cX10_isOdd 27 = .ok (.lload_n 2, 1) := by decide +kernel
theorem dX10_isOdd_28 : decode cX10_isOdd 28 = .ok (.iconst 1, 1) := by decide +kernel
theorem dX10_isOdd_29 : decode cX10_isOdd 29 = .ok (.lshr, 1) := by decide +kernel
theorem dX10_isOdd_30 : decode cX10_isOdd 30 = .ok (.lxor, 1) := by decide +kernel
theorem dX10_isOdd_31 : decode cX10_isOdd 31 = .ok (.lstore_n 2, 1) := by decide +kernel
theorem dX10_isOdd_32 : decode cX10_isOdd 32 = .ok (.lload_n 2, 1) := by decide +kernel
theorem dX10_isOdd_33 : decode cX10_isOdd 33 = .ok (.lconst 1, 1) := by decide +kernel
theorem dX10_isOdd_34 : decode cX10_isOdd 34 = .ok (.land, 1) := by decide +kernel
theorem dX10_isOdd_35 : decode cX10_isOdd 35 = .ok (.lconst 1, 1) := by decide +kernel
theorem dX10_isOdd_36 : decode cX10_isOdd 36 = .ok (.lcmp, 1) := by decide +kernel
theorem dX10_isOdd_37 : decode cX10_isOdd 37 = .ok (.ifCond .ne 7, 3) := by decide +kernel
theorem dX10_isOdd_40 : decode cX10_isOdd 40 = .ok (.iconst 1, 1) := by decide +kernel
theorem dX10_isOdd_41 : decode cX10_isOdd 41 = .ok (.goto 4, 3) := by decide +kernel
theorem dX10_isOdd_44 : decode cX10_isOdd 44 = .ok (.iconst 0, 1) := by decide +kernel
theorem dX10_isOdd_45 : decode cX10_isOdd 45 = .ok (.ireturn, 1) := by decide +kernel
set_option maxRecDepth 20000 in
theorem ggX10_isAcross_X10_isOdd : GoodIn wsX10_isAcross wsX10_isOdd := goodIn_r _ [6] (by decide +kernel) (by decide +kernel)
set_option maxRecDepth 20000 in
theorem gX10_isAcross_X10_isOdd : GoodIn wsX10_isAcross (va_wsS RX10 194 yX10_isOdd wsX10_isOdd) := goodIn_app (goodIn_of _ (by decide +kernel)) ggX10_isAcross_X10_isOdd
theorem dX10_isAcross_0 : decode cX10_isAcross 0 = .ok (.iconst 0, 1) := by decide +kernel
theorem dX10_isAcross_1 : decode cX10_isAcross 1 = .ok (.istore_n 3, 1) := by decide +kernel
theorem dX10_isAcross_2 : decode cX10_isAcross 2 = .ok (.iload_n 3, 1) := by decide +kernel
theorem dX10_isAcross_3 : decode cX10_isAcross 3 = .ok (.aload_n 0, 1) := by decide +kernel
theorem dX10_isAcross_4 : decode cX10_isAcross 4 = .ok (.getfield 191, 3) := by decide +kernel
theorem dX10_isAcross_7 : decode cX10_isAcross 7 = .ok (.if_icmp .ge 25, 3) := by decide +kernel
theorem dX10_isAcross_10 : decode cX10_isAcross 10 = .ok (.lload_n 1, 1) := by decide +kernel
theorem dX10_isAcross_11 : decode cX10_isAcross 11 = .ok (.aload_n 0, 1) := by decide +kernel
theorem dX10_isAcross_12 : decode cX10_isAcross 12 = .ok (.getfield 51, 3) := by decide +kernel
theorem dX10_isAcross_15 : decode cX10_isAcross 15 = .ok (.iload_n 3, 1) := by decide +kernel
theorem dX10_isAcross_16 : decode cX10_isAcross 16 = .ok (.laload, 1) := by decide +kernel
theorem dX10_isAcross_17 : decode cX10_isAcross 17 = .ok (.land, 1) := by decide +kernel
theorem dX10_isAcross_18 : decode cX10_isAcross 18 = .ok (.invokestatic 194, 3) := by decide +kernel
theorem dX10_isAcross_21 : decode cX10_isAcross 21 = .ok (.ifCond .eq 5, 3) := by decide +kernel
theorem dX10_isAcross_24 : decode cX10_isAcross 24 = .ok (.iconst 0, 1) := by decide +kernel
theorem dX10_isAcross_25 : decode cX10_isAcross 25 = .ok (.ireturn, 1) := by decide +kernel
theorem dX10_isAcross_26 : decode cX10_isAcross 26 = .ok (.iinc 3 1, 3) := by decide +kernel
theorem dX10_isAcross_29 : decode cX10_isAcross 29 = .ok (.goto (-27), 3) := by decide +kernel
theorem dX10_isAcross_32 : decode cX10_isAcross 32 = .ok (.iconst 1, 1) := by decide +kernel
theorem dX10_isAcross_33 : decode cX10_isAcross 33 = .ok (.ireturn, 1) := by decide +kernel
theorem dX10_isFailing_0 : decode cX10_isFailing 0 = .ok (.lload_n 1, 1) := by decide +kernel
theorem dX10_isFailing_1 : decode cX10_isFailing 1 = .ok (.lstore_n 3, 1) := by decide +kernel
theorem dX10_isFailing_2 : decode cX10_isFailing 2 = .ok (.aload_n 0, 1) := by decide +kernel
theorem dX10_isFailing_3 : decode cX10_isFailing 3 = .ok (.getfield 54, 3) := by decide +kernel
theorem dX10_isFailing_6 : decode cX10_isFailing 6 = .ok (.iconst 2, 1) := by decide +kernel
theorem dX10_isFailing_7 : decode cX10_isFailing 7 = .ok (.idiv, 1) := by decide +kernel
theorem dX10_isFailing_8 : decode cX10_isFailing 8 = .ok (.istore 5, 2) := by decide +kernel
theorem dX10_isFailing_10 : decode cX10_isFailing 10 = .ok (.iload 5, 2) := by decide +kernel
theorem dX10_isFailing_12 : decode cX10_isFailing 12 = .ok (.ifCond .le 106, 3) := by decide +kernel
theorem dX10_isFailing_15 : decode cX10_isFailing 15 = .ok (.iconst 0, 1) := by decide +kernel
theorem dX10_isFailing_16 : decode cX10_isFailing 16 = .ok (.istore 6, 2) := by decide +kernel
theorem dX10_isFailing_18 : decode cX10_isFailing 18 = .ok (.iload 6, 2) := by decide +kernel
theorem dX10_isFailing_20 : decode cX10_isFailing 20 = .ok (.aload_n 0, 1) := by decide +kernel
theorem dX10_isFailing_21 : decode cX10_isFailing 21 = .ok (.getfield 54, 3) := by decide +kernel
theorem dX10_isFailing_24 : decode cX10_isFailing 24 = .ok (.if_icmp .ge 85, 3) := by decide +kernel
theorem dX10_isFailing_27 : decode cX10_isFailing 27 = .ok (.lconst 1, 1) := by decide +kernel
theorem dX10_isFailing_28 : decode cX10_isFailing 28 = .ok (.iload 5, 2) := by decide +kernel
theorem dX10_isFailing_30 : decode cX10_isFailing 30 = .ok (.lshl, 1) := by decide +kernel
theorem dX10_isFailing_31 : decode cX10_isFailing 31 = .ok (.lconst 1, 1) := by decide +kernel
theorem dX10_isFailing_32 : decode cX10_isFailing 32 = .ok (.lsub, 1) := by decide +kernel
theorem dX10_isFailing_33 : decode cX10_isFailing 33 = .ok (.lstore 7, 2) := by decide +kernel
theorem dX10_isFailing_35 : decode cX10_isFailing 35 = .ok (.lload_n 3, 1) := by decide +kernel
theorem dX10_isFailing_36 : decode cX10_isFailing 36 = .ok (.iload 6, 2) := by decide +kernel
theorem dX10_isFailing_38 : decode cX10_isFailing 38 = .ok (.lshr, 1) := by decide +kernel
theorem dX10_isFailing_39 : decode cX10_isFailing 39 = .ok (.lload 7, 2) := by decide +kernel
theorem dX10_isFailing_41 : decode cX10_isFailing 41 = .ok (.land, 1) := by decide +kernel
theorem dX10_isFailing_42 : decode cX10_isFailing 42 = .ok (.lstore 9, 2) := by decide +kernel
theorem dX10_isFailing_44 : decode cX10_isFailing 44 = .ok (.lload_n 3, 1) := by decide +kernel
theorem dX10_isFailing_45 : decode cX10_isFailing 45 = .ok (.iload 6, 2) := by decide +kernel
theorem dX10_isFailing_47 : decode cX10_isFailing 47 = .ok (.iload 5, 2) := by decide +kernel
theorem dX10_isFailing_49 : decode cX10_isFailing 49 = .ok (.iadd, 1) := by decide +kernel
theorem dX10_isFailing_50 : decode cX10_isFailing 50 = .ok (.lshr, 1) := by decide +kernel
theorem dX10_isFailing_51 : decode cX10_isFailing 51 = .ok (.lload 7, 2) := by decide +kernel
theorem dX10_isFailing_53 : decode cX10_isFailing 53 = .ok (.land, 1) := by decide +kernel
theorem dX10_isFailing_54 : decode cX10_isFailing 54 = .ok (.lstore 11, 2) := by decide +kernel
theorem dX10_isFailing_56 : decode cX10_isFailing 56 = .ok (.lload_n 3, 1) := by decide +kernel
theorem dX10_isFailing_57 : decode cX10_isFailing 57 = .ok (.lload 7, 2) := by decide +kernel
theorem dX10_isFailing_59 : decode cX10_isFailing 59 = .ok (.iload 5, 2) := by decide +kernel
theorem dX10_isFailing_61 : decode cX10_isFailing 61 = .ok (.lshl, 1) := by decide +kernel
theorem dX10_isFailing_62 : decode cX10_isFailing 62 = .ok (.lload 7, 2) := by decide +kernel
theorem dX10_isFailing_64 : decode cX10_isFailing 64 = .ok (.lor, 1) := by decide +kernel
theorem dX10_isFailing_65 : decode cX10_isFailing 65 = .ok (.iload 6, 2) := by decide +kernel
theorem dX10_isFailing_67 : decode cX10_isFailing 67 = .ok (.lshl, 1) := by decide +kernel
theorem dX10_isFailing_68 : decode cX10_isFailing 68 = .ok (.ldc2_w 91, 3) := by decide +kernel
theorem dX10_isFailing_71 : decode cX10_isFailing 71 = .ok (.lxor, 1) := by decide +kernel
theorem dX10_isFailing_72 : decode cX10_isFailing 72 = .ok (.land, 1) := by decide +kernel
theorem dX10_isFailing_73 : decode cX10_isFailing 73 = .ok (.lstore_n 3, 1) := by decide +kernel
theorem dX10_isFailing_74 : decode cX10_isFailing 74 = .ok (.lload_n 3, 1) := by decide +kernel
theorem dX10_isFailing_75 : decode cX10_isFailing 75 = .ok (.lload 9, 2) := by decide +kernel
theorem dX10_isFailing_77 : decode cX10_isFailing 77 = .ok (.lload 11, 2) := by decide +kernel
theorem dX10_isFailing_79 : decode cX10_isFailing 79 = .ok (.lor, 1) := by decide +kernel
theorem dX10_isFailing_80 : decode cX10_isFailing 80 = .ok (.iload 6, 2) := by decide +kernel
theorem dX10_isFailing_82 : decode cX10_isFailing 82 = .ok (.lshl, 1) := by decide +kernel
theorem dX10_isFailing_83 : decode cX10_isFailing 83 = .ok (.lload 9, 2) := by decide +kernel
theorem dX10_isFailing_85 : decode cX10_isFailing 85 = .ok (.lload 11, 2) := by decide +kernel
theorem dX10_isFailing_87 : decode cX10_isFailing 87 = .ok (.land, 1) := by decide +kernel
theorem dX10_isFailing_88 : decode cX10_isFailing 88 = .ok (.iload 6, 2) := by decide +kernel
theorem dX10_isFailing_90 : decode cX10_isFailing 90 = .ok (.iload 5, 2) := by decide +kernel
theorem dX10_isFailing_92 : decode cX10_isFailing 92 = .ok (.iadd, 1) := by decide +kernel
theorem dX10_isFailing_93 : decode cX10_isFailing 93 = .ok (.lshl, 1) := by decide +kernel
theorem dX10_isFailing_94 : decode cX10_isFailing 94 = .ok (.lor, 1) := by decide +kernel
theorem dX10_isFailing_95 : decode cX10_isFailing 95 = .ok (.lor, 1) := by decide +kernel
theorem dX10_isFailing_96 : decode cX10_isFailing 96 = .ok (.lstore_n 3, 1) := by decide +kernel
theorem dX10_isFailing_97 : decode cX10_isFailing 97 = .ok (.iload 6, 2) := by decide +kernel
theorem dX10_isFailing_99 : decode cX10_isFailing 99 = .ok (.iconst 2, 1) := by decide +kernel
theorem dX10_isFailing_100 : decode cX10_isFailing 100 = .ok (.iload 5, 2) := by decide +kernel
theorem dX10_isFailing_102 : decode cX10_isFailing 102 = .ok (.imul, 1) := by decide +kernel
theorem dX10_isFailing_103 : decode cX10_isFailing 103 = .ok (.iadd, 1) := by decide +kernel
theorem dX10_isFailing_104 : decode cX10_isFailing 104 = .ok (.istore 6, 2) := by decide +kernel
theorem dX10_isFailing_106 : decode cX10_isFailing 106 = .ok (.goto (-88), 3) := by decide +kernel
theorem dX10_isFailing_109 : decode cX10_isFailing 109 = .ok (.iload 5, 2) := by decide +kernel
theorem dX10_isFailing_111 : decode cX10_isFailing 111 = .ok (.iconst 2, 1) := by decide +kernel
theorem dX10_isFailing_112 : decode cX10_isFailing 112 = .ok (.idiv, 1) := by decide +kernel
theorem dX10_isFailing_113 : decode cX10_isFailing 113 = .ok (.istore 5, 2) := by decide +kernel
theorem dX10_isFailing_115 : decode cX10_isFailing 115 = .ok (.goto (-105), 3) := by decide +kernel
theorem dX10_isFailing_118 : decode cX10_isFailing 118 = .ok (.iconst 0, 1) := by decide +kernel
theorem dX10_isFailing_119 : decode cX10_isFailing 119 = .ok (.istore 5, 2) := by decide +kernel
theorem dX10_isFailing_121 : decode cX10_isFailing 121 = .ok (.iconst 0, 1) := by decide +kernel
theorem dX10_isFailing_122 : decode cX10_isFailing 122 = .ok (.istore 6, 2) := by decide +kernel
theorem dX10_isFailing_124 : decode cX10_isFailing 124 = .ok (.iload 6, 2) := by decide +kernel
theorem dX10_isFailing_126 : decode cX10_isFailing 126 = .ok (.aload_n 0, 1) := by decide +kernel
theorem dX10_isFailing_127 : decode cX10_isFailing 127 = .ok (.getfield 54, 3) := by decide +kernel
theorem dX10_isFailing_130 : decode cX10_isFailing 130 = .ok (.if_icmp .ge 42, 3) := by decide +kernel
theorem dX10_isFailing_133 : decode cX10_isFailing 133 = .ok (.iload 5, 2) := by decide +kernel
theorem dX10_isFailing_135 : decode cX10_isFailing 135 = .ok (.ifCond .ne 24, 3) := by decide +kernel
theorem dX10_isFailing_138 : decode cX10_isFailing 138 = .ok (.aload_n 0, 1) := by decide +kernel
theorem dX10_isFailing_139 : decode cX10_isFailing 139 = .ok (.getfield 7, 3) := by decide +kernel
theorem dX10_isFailing_142 : decode cX10_isFailing 142 = .ok (.iload 6, 2) := by decide +kernel
theorem dX10_isFailing_144 : decode cX10_isFailing 144 = .ok (.baload, 1) := by decide +kernel
theorem dX10_isFailing_145 : decode cX10_isFailing 145 = .ok (.ifCond .eq 18, 3) := by decide +kernel
theorem dX10_isFailing_148 : decode cX10_isFailing 148 = .ok (.lload_n 3, 1) := by decide +kernel
theorem dX10_isFailing_149 : decode cX10_isFailing 149 = .ok (.iload 6, 2) := by decide +kernel
theorem dX10_isFailing_151 : decode cX10_isFailing 151 = .ok (.lshr, 1) := by decide +kernel
theorem dX10_isFailing_152 : decode cX10_isFailing 152 = .ok (.lconst 1, 1) := by decide +kernel
theorem dX10_isFailing_153 : decode cX10_isFailing 153 = .ok (.land, 1) := by decide +kernel
theorem dX10_isFailing_154 : decode cX10_isFailing 154 = .ok (.lconst 1, 1) := by decide +kernel
theorem dX10_isFailing_155 : decode cX10_isFailing 155 = .ok (.lcmp, 1) := by decide +kernel
theorem dX10_isFailing_156 : decode cX10_isFailing 156 = .ok (.ifCond .ne 7, 3) := by decide +kernel
theorem dX10_isFailing_159 : decode cX10_isFailing 159 = .ok (.iconst 1, 1) := by decide +kernel
theorem dX10_isFailing_160 : decode cX10_isFailing 160 = .ok (.goto 4, 3) := by decide +kernel
theorem dX10_isFailing_163 : decode cX10_isFailing 163 = .ok (.iconst 0, 1) := by decide +kernel
theorem dX10_isFailing_164 : decode cX10_isFailing 164 = .ok (.istore 5, 2) := by decide +kernel
theorem dX10_isFailing_166 : decode cX10_isFailing 166 = .ok (.iinc 6 1, 3) := by decide +kernel
theorem dX10_isFailing_169 : decode cX10_isFailing 169 = .ok (.goto (-45), 3) := by decide +kernel
theorem dX10_isFailing_172 : decode cX10_isFailing 172 = .ok (.iload 5, 2) := by decide +kernel
theorem dX10_isFailing_174 : decode cX10_isFailing 174 = .ok (.ireturn, 1) := by decide +kernel
set_option maxRecDepth 20000 in
theorem ggX10_countAll_X10_goods : GoodIn wsX10_countAll wsX10_goods := goodIn_r _ [13, 5, 7, 41, 42, 43, 44, 45, 46, 47, 48, 49, 50, 51, 52, 53, 54, 55, 56, 57, 58, 59, 60, 61, 62, 63, 64, 65] (by decide +kernel) (by decide +kernel)
set_option maxRecDepth 20000 in
theorem gX10_countAll_X10_goods : GoodIn wsX10_countAll (wsV RX10 110 RX10 yX10_goods wsX10_goods) := goodIn_app (goodIn_of _ (by decide +kernel)) ggX10_countAll_X10_goods
set_option maxRecDepth 20000 in
theorem ggX10_countAll_X10_rowOf : GoodIn wsX10_countAll wsX10_rowOf := goodIn_r _ [17, 5, 7, 18, 41, 42, 43, 44, 45, 46, 47, 48, 49, 50, 51, 52, 53, 54, 55, 56, 57, 58, 59, 60, 61, 62, 63, 64, 65] (by decide +kernel) (by decide +kernel)
set_option maxRecDepth 20000 in
theorem gX10_countAll_X10_rowOf : GoodIn wsX10_countAll (wsV RX10 118 RX10 yX10_rowOf wsX10_rowOf) := goodIn_app (goodIn_of _ (by decide +kernel)) ggX10_countAll_X10_rowOf
set_option maxRecDepth 20000 in
theorem ggX10_countAll_X10_folded : GoodIn wsX10_countAll wsX10_folded := goodIn_r _ [21] (by decide +kernel) (by decide +kernel)
set_option maxRecDepth 20000 in
theorem gX10_countAll_X10_folded : GoodIn wsX10_countAll (va_wsS RX10 122 yX10_folded wsX10_folded) := goodIn_app (goodIn_of _ (by decide +kernel)) ggX10_countAll_X10_folded
set_option maxRecDepth 20000 in
theorem ggX10_countAll_X10_ones : GoodIn wsX10_countAll wsX10_ones := goodIn_r _ [24] (by decide +kernel) (by decide +kernel)
set_option maxRecDepth 20000 in
theorem gX10_countAll_X10_ones : GoodIn wsX10_countAll (va_wsS RX10 184 yX10_ones wsX10_ones) := goodIn_app (goodIn_of _ (by decide +kernel)) ggX10_countAll_X10_ones
set_option maxRecDepth 20000 in
theorem ggX10_countAll_X10_all : GoodIn wsX10_countAll wsX10_all := goodIn_r _ [28, 5, 41, 42, 43, 44, 45, 46, 47, 48, 49, 50, 51, 52, 53, 54, 55, 56, 57, 58, 59, 60, 61, 62, 63, 64, 65] (by decide +kernel) (by decide +kernel)
set_option maxRecDepth 20000 in
theorem gX10_countAll_X10_all : GoodIn wsX10_countAll (wsV RX10 126 RX10 yX10_all wsX10_all) := goodIn_app (goodIn_of _ (by decide +kernel)) ggX10_countAll_X10_all
set_option maxRecDepth 20000 in
theorem ggX10_countAll_X10_isAcross : GoodIn wsX10_countAll wsX10_isAcross := goodIn_r _ [32, 6, 8, 33, 34, 12, 35, 41, 42, 43, 44, 45, 46, 47, 48, 49, 50, 51, 52, 53, 54, 55, 56, 57, 58, 59, 60, 61, 62, 63, 64, 65] (by decide +kernel) (by decide +kernel)
set_option maxRecDepth 20000 in
theorem gX10_countAll_X10_isAcross : GoodIn wsX10_countAll (wsV RX10 197 RX10 yX10_isAcross wsX10_isAcross) := goodIn_app (goodIn_of _ (by decide +kernel)) ggX10_countAll_X10_isAcross
set_option maxRecDepth 20000 in
theorem ggX10_countAll_X10_isFailing : GoodIn wsX10_countAll wsX10_isFailing := goodIn_r _ [39, 5, 40, 7, 41, 42, 43, 44, 45, 46, 47, 48, 49, 50, 51, 52, 53, 54, 55, 56, 57, 58, 59, 60, 61, 62, 63, 64, 65] (by decide +kernel) (by decide +kernel)
set_option maxRecDepth 20000 in
theorem gX10_countAll_X10_isFailing : GoodIn wsX10_countAll (wsV RX10 200 RX10 yX10_isFailing wsX10_isFailing) := goodIn_app (goodIn_of _ (by decide +kernel)) ggX10_countAll_X10_isFailing
theorem dX10_countAll_0 : decode cX10_countAll 0 = .ok (.aload_n 0, 1) := by decide +kernel
theorem dX10_countAll_1 : decode cX10_countAll 1 = .ok (.getfield 83, 3) := by decide +kernel
theorem dX10_countAll_4 : decode cX10_countAll 4 = .ok (.ifCond .eq 4, 3) := by decide +kernel
theorem dX10_countAll_7 : decode cX10_countAll 7 = .ok (.return_, 1) := by decide +kernel
theorem dX10_countAll_8 : decode cX10_countAll 8 = .ok (.aload_n 0, 1) := by decide +kernel
theorem dX10_countAll_9 : decode cX10_countAll 9 = .ok (.iconst 1, 1) := by decide +kernel
theorem dX10_countAll_10 : decode cX10_countAll 10 = .ok (.putfield 83, 3) := by decide +kernel
theorem dX10_countAll_13 : decode cX10_countAll 13 = .ok (.iconst 0, 1) := by decide +kernel
theorem dX10_countAll_14 : decode cX10_countAll 14 = .ok (.istore_n 1, 1) := by decide +kernel
theorem dX10_countAll_15 : decode cX10_countAll 15 = .ok (.iload_n 1, 1) := by decide +kernel
theorem dX10_countAll_16 : decode cX10_countAll 16 = .ok (.bipush 33, 2) := by decide +kernel
theorem dX10_countAll_18 : decode cX10_countAll 18 = .ok (.if_icmp .ge 30, 3) := by decide +kernel
theorem dX10_countAll_21 : decode cX10_countAll 21 = .ok (.aload_n 0, 1) := by decide +kernel
theorem dX10_countAll_22 : decode cX10_countAll 22 = .ok (.getfield 42, 3) := by decide +kernel
theorem dX10_countAll_25 : decode cX10_countAll 25 = .ok (.iload_n 1, 1) := by decide +kernel
theorem dX10_countAll_26 : decode cX10_countAll 26 = .ok (.iconst 0, 1) := by decide +kernel
theorem dX10_countAll_27 : decode cX10_countAll 27 = .ok (.iastore, 1) := by decide +kernel
theorem dX10_countAll_28 : decode cX10_countAll 28 = .ok (.aload_n 0, 1) := by decide +kernel
theorem dX10_countAll_29 : decode cX10_countAll 29 = .ok (.getfield 45, 3) := by decide +kernel
theorem dX10_countAll_32 : decode cX10_countAll 32 = .ok (.iload_n 1, 1) := by decide +kernel
theorem dX10_countAll_33 : decode cX10_countAll 33 = .ok (.iconst 0, 1) := by decide +kernel
theorem dX10_countAll_34 : decode cX10_countAll 34 = .ok (.iastore, 1) := by decide +kernel
theorem dX10_countAll_35 : decode cX10_countAll 35 = .ok (.aload_n 0, 1) := by decide +kernel
theorem dX10_countAll_36 : decode cX10_countAll 36 = .ok (.getfield 48, 3) := by decide +kernel
theorem dX10_countAll_39 : decode cX10_countAll 39 = .ok (.iload_n 1, 1) := by decide +kernel
theorem dX10_countAll_40 : decode cX10_countAll 40 = .ok (.iconst 0, 1) := by decide +kernel
theorem dX10_countAll_41 : decode cX10_countAll 41 = .ok (.iastore, 1) := by decide +kernel
theorem dX10_countAll_42 : decode cX10_countAll 42 = .ok (.iinc 1 1, 3) := by decide +kernel
theorem dX10_countAll_45 : decode cX10_countAll 45 = .ok (.goto (-30), 3) := by decide +kernel
theorem dX10_countAll_48 : decode cX10_countAll 48 = .ok (.aload_n 0, 1) := by decide +kernel
theorem dX10_countAll_49 : decode cX10_countAll 49 = .ok (.invokevirtual 110, 3) := by decide +kernel
theorem dX10_countAll_52 : decode cX10_countAll 52 = .ok (.bipush 12, 2) := by decide +kernel
theorem dX10_countAll_54 : decode cX10_countAll 54 = .ok (.if_icmp .gt 47, 3) := by decide +kernel
theorem dX10_countAll_57 : decode cX10_countAll 57 = .ok (.lconst 0, 1) := by decide +kernel
theorem dX10_countAll_58 : decode cX10_countAll 58 = .ok (.lstore_n 1, 1) := by decide +kernel
theorem dX10_countAll_59 : decode cX10_countAll 59 = .ok (.lload_n 1, 1) := by decide +kernel
theorem dX10_countAll_60 : decode cX10_countAll 60 = .ok (.lconst 1, 1) := by decide +kernel
theorem dX10_countAll_61 : decode cX10_countAll 61 = .ok (.aload_n 0, 1) := by decide +kernel
theorem dX10_countAll_62 : decode cX10_countAll 62 = .ok (.invokevirtual 110, 3) := by decide +kernel
theorem dX10_countAll_65 : decode cX10_countAll 65 = .ok (.lshl, 1) := by decide +kernel
theorem dX10_countAll_66 : decode cX10_countAll 66 = .ok (.lcmp, 1) := by decide +kernel
theorem dX10_countAll_67 : decode cX10_countAll 67 = .ok (.ifCond .ge 34, 3) := by decide +kernel
theorem dX10_countAll_70 : decode cX10_countAll 70 = .ok (.aload_n 0, 1) := by decide +kernel
theorem dX10_countAll_71 : decode cX10_countAll 71 = .ok (.getfield 42, 3) := by decide +kernel
theorem dX10_countAll_74 : decode cX10_countAll 74 = .ok (.aload_n 0, 1) := by decide +kernel
theorem dX10_countAll_75 : decode cX10_countAll 75 = .ok (.lload_n 1, 1) := by decide +kernel
theorem dX10_countAll_76 : decode cX10_countAll 76 = .ok (.invokevirtual 118, 3) := by decide +kernel
theorem dX10_countAll_79 : decode cX10_countAll 79 = .ok (.aload_n 0, 1) := by decide +kernel
theorem dX10_countAll_80 : decode cX10_countAll 80 = .ok (.getfield 54, 3) := by decide +kernel
theorem dX10_countAll_83 : decode cX10_countAll 83 = .ok (.invokestatic 122, 3) := by decide +kernel
theorem dX10_countAll_86 : decode cX10_countAll 86 = .ok (.invokestatic 184, 3) := by decide +kernel
theorem dX10_countAll_89 : decode cX10_countAll 89 = .ok (.dup2, 1) := by decide +kernel
theorem dX10_countAll_90 : decode cX10_countAll 90 = .ok (.iaload, 1) := by decide +kernel
theorem dX10_countAll_91 : decode cX10_countAll 91 = .ok (.iconst 1, 1) := by decide +kernel
theorem dX10_countAll_92 : decode cX10_countAll 92 = .ok (.iadd, 1) := by decide +kernel
theorem dX10_countAll_93 : decode cX10_countAll 93 = .ok (.iastore, 1) := by decide +kernel
theorem dX10_countAll_94 : decode cX10_countAll 94 = .ok (.lload_n 1, 1) := by decide +kernel
theorem dX10_countAll_95 : decode cX10_countAll 95 = .ok (.lconst 1, 1) := by decide +kernel
theorem dX10_countAll_96 : decode cX10_countAll 96 = .ok (.ladd, 1) := by decide +kernel
theorem dX10_countAll_97 : decode cX10_countAll 97 = .ok (.lstore_n 1, 1) := by decide +kernel
theorem dX10_countAll_98 : decode cX10_countAll 98 = .ok (.goto (-39), 3) := by decide +kernel
theorem dX10_countAll_101 : decode cX10_countAll 101 = .ok (.aload_n 0, 1) := by decide +kernel
theorem dX10_countAll_102 : decode cX10_countAll 102 = .ok (.iconst 0, 1) := by decide +kernel
theorem dX10_countAll_103 : decode cX10_countAll 103 = .ok (.putfield 191, 3) := by decide +kernel
theorem dX10_countAll_106 : decode cX10_countAll 106 = .ok (.iconst 0, 1) := by decide +kernel
theorem dX10_countAll_107 : decode cX10_countAll 107 = .ok (.istore_n 1, 1) := by decide +kernel
theorem dX10_countAll_108 : decode cX10_countAll 108 = .ok (.iload_n 1, 1) := by decide +kernel
theorem dX10_countAll_109 : decode cX10_countAll 109 = .ok (.aload_n 0, 1) := by decide +kernel
theorem dX10_countAll_110 : decode cX10_countAll 110 = .ok (.getfield 54, 3) := by decide +kernel
theorem dX10_countAll_113 : decode cX10_countAll 113 = .ok (.if_icmp .ge 47, 3) := by decide +kernel
theorem dX10_countAll_116 : decode cX10_countAll 116 = .ok (.aload_n 0, 1) := by decide +kernel
theorem dX10_countAll_117 : decode cX10_countAll 117 = .ok (.getfield 7, 3) := by decide +kernel
theorem dX10_countAll_120 : decode cX10_countAll 120 = .ok (.iload_n 1, 1) := by decide +kernel
theorem dX10_countAll_121 : decode cX10_countAll 121 = .ok (.baload, 1) := by decide +kernel
theorem dX10_countAll_122 : decode cX10_countAll 122 = .ok (.ifCond .eq 32, 3) := by decide +kernel
theorem dX10_countAll_125 : decode cX10_countAll 125 = .ok (.aload_n 0, 1) := by decide +kernel
theorem dX10_countAll_126 : decode cX10_countAll 126 = .ok (.getfield 51, 3) := by decide +kernel
theorem dX10_countAll_129 : decode cX10_countAll 129 = .ok (.aload_n 0, 1) := by decide +kernel
theorem dX10_countAll_130 : decode cX10_countAll 130 = .ok (.getfield 191, 3) := by decide +kernel
theorem dX10_countAll_133 : decode cX10_countAll 133 = .ok (.lconst 1, 1) := by decide +kernel
theorem dX10_countAll_134 : decode cX10_countAll 134 = .ok (.iload_n 1, 1) := by decide +kernel
theorem dX10_countAll_135 : decode cX10_countAll 135 = .ok (.lshl, 1) := by decide +kernel
theorem dX10_countAll_136 : decode cX10_countAll 136 = .ok (.aload_n 0, 1) := by decide +kernel
theorem dX10_countAll_137 : decode cX10_countAll 137 = .ok (.getfield 54, 3) := by decide +kernel
theorem dX10_countAll_140 : decode cX10_countAll 140 = .ok (.invokestatic 122, 3) := by decide +kernel
theorem dX10_countAll_143 : decode cX10_countAll 143 = .ok (.lastore, 1) := by decide +kernel
theorem dX10_countAll_144 : decode cX10_countAll 144 = .ok (.aload_n 0, 1) := by decide +kernel
theorem dX10_countAll_145 : decode cX10_countAll 145 = .ok (.dup, 1) := by decide +kernel
theorem dX10_countAll_146 : decode cX10_countAll 146 = .ok (.getfield 191, 3) := by decide +kernel
theorem dX10_countAll_149 : decode cX10_countAll 149 = .ok (.iconst 1, 1) := by decide +kernel
theorem dX10_countAll_150 : decode cX10_countAll 150 = .ok (.iadd, 1) := by decide +kernel
theorem dX10_countAll_151 : decode cX10_countAll 151 = .ok (.putfield 191, 3) := by decide +kernel
theorem dX10_countAll_154 : decode cX10_countAll 154 = .ok (.iinc 1 1, 3) := by decide +kernel
theorem dX10_countAll_157 : decode cX10_countAll 157 = .ok (.goto (-49), 3) := by decide +kernel
theorem dX10_countAll_160 : decode cX10_countAll 160 = .ok (.aload_n 0, 1) := by decide +kernel
theorem dX10_countAll_161 : decode cX10_countAll 161 = .ok (.getfield 54, 3) := by decide +kernel
theorem dX10_countAll_164 : decode cX10_countAll 164 = .ok (.bipush 16, 2) := by decide +kernel
theorem dX10_countAll_166 : decode cX10_countAll 166 = .ok (.if_icmp .gt 70, 3) := by decide +kernel
theorem dX10_countAll_169 : decode cX10_countAll 169 = .ok (.lconst 0, 1) := by decide +kernel
theorem dX10_countAll_170 : decode cX10_countAll 170 = .ok (.lstore_n 1, 1) := by decide +kernel
theorem dX10_countAll_171 : decode cX10_countAll 171 = .ok (.lload_n 1, 1) := by decide +kernel
theorem dX10_countAll_172 : decode cX10_countAll 172 = .ok (.aload_n 0, 1) := by decide +kernel
theorem dX10_countAll_173 : decode cX10_countAll 173 = .ok (.invokevirtual 126, 3) := by decide +kernel
theorem dX10_countAll_176 : decode cX10_countAll 176 = .ok (.lcmp, 1) := by decide +kernel
theorem dX10_countAll_177 : decode cX10_countAll 177 = .ok (.ifCond .gt 59, 3) := by decide +kernel
theorem dX10_countAll_180 : decode cX10_countAll 180 = .ok (.lload_n 1, 1) := by decide +kernel
theorem dX10_countAll_181 : decode cX10_countAll 181 = .ok (.invokestatic 184, 3) := by decide +kernel
theorem dX10_countAll_184 : decode cX10_countAll 184 = .ok (.istore_n 3, 1) := by decide +kernel
theorem dX10_countAll_185 : decode cX10_countAll 185 = .ok (.aload_n 0, 1) := by decide +kernel
theorem dX10_countAll_186 : decode cX10_countAll 186 = .ok (.getfield 45, 3) := by decide +kernel
theorem dX10_countAll_189 : decode cX10_countAll 189 = .ok (.iload_n 3, 1) := by decide +kernel
theorem dX10_countAll_190 : decode cX10_countAll 190 = .ok (.dup2, 1) := by decide +kernel
theorem dX10_countAll_191 : decode cX10_countAll 191 = .ok (.iaload, 1) := by decide +kernel
theorem dX10_countAll_192 : decode cX10_countAll 192 = .ok (.aload_n 0, 1) := by decide +kernel
theorem dX10_countAll_193 : decode cX10_countAll 193 = .ok (.lload_n 1, 1) := by decide +kernel
theorem dX10_countAll_194 : decode cX10_countAll 194 = .ok (.invokevirtual 197, 3) := by decide +kernel
theorem dX10_countAll_197 : decode cX10_countAll 197 = .ok (.ifCond .eq 7, 3) := by decide +kernel
theorem dX10_countAll_200 : decode cX10_countAll 200 = .ok (.iconst 1, 1) := by decide +kernel
theorem dX10_countAll_201 : decode cX10_countAll 201 = .ok (.goto 4, 3) := by decide +kernel
theorem dX10_countAll_204 : decode cX10_countAll 204 = .ok (.iconst 0, 1) := by decide +kernel
theorem dX10_countAll_205 : decode cX10_countAll 205 = .ok (.iadd, 1) := by decide +kernel
theorem dX10_countAll_206 : decode cX10_countAll 206 = .ok (.iastore, 1) := by decide +kernel
theorem dX10_countAll_207 : decode cX10_countAll 207 = .ok (.aload_n 0, 1) := by decide +kernel
theorem dX10_countAll_208 : decode cX10_countAll 208 = .ok (.getfield 48, 3) := by decide +kernel
theorem dX10_countAll_211 : decode cX10_countAll 211 = .ok (.iload_n 3, 1) := by decide +kernel
theorem dX10_countAll_212 : decode cX10_countAll 212 = .ok (.dup2, 1) := by decide +kernel
theorem dX10_countAll_213 : decode cX10_countAll 213 = .ok (.iaload, 1) := by decide +kernel
theorem dX10_countAll_214 : decode cX10_countAll 214 = .ok (.aload_n 0, 1) := by decide +kernel
theorem dX10_countAll_215 : decode cX10_countAll 215 = .ok (.lload_n 1, 1) := by decide +kernel
theorem dX10_countAll_216 : decode cX10_countAll 216 = .ok (.invokevirtual 200, 3) := by decide +kernel
theorem dX10_countAll_219 : decode cX10_countAll 219 = .ok (.ifCond .eq 7, 3) := by decide +kernel
theorem dX10_countAll_222 : decode cX10_countAll 222 = .ok (.iconst 1, 1) := by decide +kernel
theorem dX10_countAll_223 : decode cX10_countAll 223 = .ok (.goto 4, 3) := by decide +kernel
theorem dX10_countAll_226 : decode cX10_countAll 226 = .ok (.iconst 0, 1) := by decide +kernel
theorem dX10_countAll_227 : decode cX10_countAll 227 = .ok (.iadd, 1) := by decide +kernel
theorem dX10_countAll_228 : decode cX10_countAll 228 = .ok (.iastore, 1) := by decide +kernel
theorem dX10_countAll_229 : decode cX10_countAll 229 = .ok (.lload_n 1, 1) := by decide +kernel
theorem dX10_countAll_230 : decode cX10_countAll 230 = .ok (.lconst 1, 1) := by decide +kernel
theorem dX10_countAll_231 : decode cX10_countAll 231 = .ok (.ladd, 1) := by decide +kernel
theorem dX10_countAll_232 : decode cX10_countAll 232 = .ok (.lstore_n 1, 1) := by decide +kernel
theorem dX10_countAll_233 : decode cX10_countAll 233 = .ok (.goto (-62), 3) := by decide +kernel
theorem dX10_countAll_236 : decode cX10_countAll 236 = .ok (.return_, 1) := by decide +kernel
set_option maxRecDepth 20000 in
theorem ggX10_count_X10_goods : GoodIn wsX10_count wsX10_goods := goodIn_r _ [7, 1, 8, 48, 49, 50, 51, 52, 53, 54, 55, 56, 57, 58, 59, 60, 61, 62, 63, 64, 65, 66, 67, 68, 69, 70, 71, 72] (by decide +kernel) (by decide +kernel)
set_option maxRecDepth 20000 in
theorem gX10_count_X10_goods : GoodIn wsX10_count (wsV RX10 110 RX10 yX10_goods wsX10_goods) := goodIn_app (goodIn_of _ (by decide +kernel)) ggX10_count_X10_goods
set_option maxRecDepth 20000 in
theorem ggX10_count_X10_in : GoodIn wsX10_count wsX10_in := goodIn_r _ [11] (by decide +kernel) (by decide +kernel)
set_option maxRecDepth 20000 in
theorem gX10_count_X10_in : GoodIn wsX10_count (va_wsS RX10 79 yX10_in wsX10_in) := goodIn_app (goodIn_of _ (by decide +kernel)) ggX10_count_X10_in
set_option maxRecDepth 20000 in
theorem ggX10_count_X10_countAll : GoodIn wsX10_count wsX10_countAll := goodIn_r _ [15, 16, 2, 17, 18, 1, 19, 8, 20, 3, 4, 5, 6, 7, 21, 22, 23, 24, 25, 26, 27, 28, 29, 30, 31, 32, 33, 34, 35, 36, 37, 38, 39, 40, 41, 42, 43, 44, 45, 46, 47, 48, 49, 50, 51, 52, 53, 54, 55, 56, 57, 58, 59, 60, 61, 62, 63, 64, 65, 66, 67, 68, 69, 70, 71, 72] (by decide +kernel) (by decide +kernel)
set_option maxRecDepth 20000 in
theorem gX10_count_X10_countAll : GoodIn wsX10_count (wsV RX10 203 RX10 yX10_countAll wsX10_countAll) := goodIn_app (goodIn_of _ (by decide +kernel)) ggX10_count_X10_countAll
theorem dX10_count_0 : decode cX10_count 0 = .ok (.aload_n 0, 1) := by decide +kernel
theorem dX10_count_1 : decode cX10_count 1 = .ok (.invokevirtual 110, 3) := by decide +kernel
theorem dX10_count_4 : decode cX10_count 4 = .ok (.bipush 12, 2) := by decide +kernel
theorem dX10_count_6 : decode cX10_count 6 = .ok (.if_icmp .le 6, 3) := by decide +kernel
theorem dX10_count_9 : decode cX10_count 9 = .ok (.bipush (-3), 2) := by decide +kernel
theorem dX10_count_11 : decode cX10_count 11 = .ok (.ireturn, 1) := by decide +kernel
theorem dX10_count_12 : decode cX10_count 12 = .ok (.iload_n 1, 1) := by decide +kernel
theorem dX10_count_13 : decode cX10_count 13 = .ok (.i2l, 1) := by decide +kernel
theorem dX10_count_14 : decode cX10_count 14 = .ok (.lconst 0, 1) := by decide +kernel
theorem dX10_count_15 : decode cX10_count 15 = .ok (.aload_n 0, 1) := by decide +kernel
theorem dX10_count_16 : decode cX10_count 16 = .ok (.getfield 54, 3) := by decide +kernel
