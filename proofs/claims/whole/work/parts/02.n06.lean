theorem dX10_lower_18 : decode cX10_lower 18 = .ok (.lreturn, 1) := by decide +kernel
theorem dX10_become_0 : decode cX10_become 0 = .ok (.aload_n 0, 1) := by decide +kernel
theorem dX10_become_1 : decode cX10_become 1 = .ok (.getfield 7, 3) := by decide +kernel
theorem dX10_become_4 : decode cX10_become 4 = .ok (.iload_n 1, 1) := by decide +kernel
theorem dX10_become_5 : decode cX10_become 5 = .ok (.iload_n 2, 1) := by decide +kernel
theorem dX10_become_6 : decode cX10_become 6 = .ok (.bastore, 1) := by decide +kernel
theorem dX10_become_7 : decode cX10_become 7 = .ok (.aload_n 0, 1) := by decide +kernel
theorem dX10_become_8 : decode cX10_become 8 = .ok (.getfield 13, 3) := by decide +kernel
theorem dX10_become_11 : decode cX10_become 11 = .ok (.iload_n 1, 1) := by decide +kernel
theorem dX10_become_12 : decode cX10_become 12 = .ok (.iload_n 3, 1) := by decide +kernel
theorem dX10_become_13 : decode cX10_become 13 = .ok (.iastore, 1) := by decide +kernel
theorem dX10_become_14 : decode cX10_become 14 = .ok (.aload_n 0, 1) := by decide +kernel
theorem dX10_become_15 : decode cX10_become 15 = .ok (.bipush (-9), 2) := by decide +kernel
theorem dX10_become_17 : decode cX10_become 17 = .ok (.putfield 67, 3) := by decide +kernel
theorem dX10_become_20 : decode cX10_become 20 = .ok (.aload_n 0, 1) := by decide +kernel
theorem dX10_become_21 : decode cX10_become 21 = .ok (.iconst 0, 1) := by decide +kernel
theorem dX10_become_22 : decode cX10_become 22 = .ok (.putfield 83, 3) := by decide +kernel
theorem dX10_become_25 : decode cX10_become 25 = .ok (.return_, 1) := by decide +kernel
set_option maxRecDepth 20000 in
theorem ggX10_good_X10_noPlace : GoodIn wsX10_good wsX10_noPlace := goodIn_r _ [6, 7, 8, 9, 5, 10, 18, 19, 20, 21, 22, 23, 24, 25, 26, 27, 28, 29, 30, 31, 32, 33, 34, 35, 36, 37, 38, 39, 40, 41, 42] (by decide +kernel) (by decide +kernel)
set_option maxRecDepth 20000 in
theorem gX10_good_X10_noPlace : GoodIn wsX10_good (wsV RX10 95 RX10 yX10_noPlace wsX10_noPlace) := goodIn_app (goodIn_of _ (by decide +kernel)) ggX10_good_X10_noPlace
set_option maxRecDepth 20000 in
theorem ggX10_good_X10_become : GoodIn wsX10_good wsX10_become := goodIn_r _ [14, 1, 15, 16, 17, 18, 19, 20, 21, 22, 23, 24, 25, 26, 27, 28, 29, 30, 31, 32, 33, 34, 35, 36, 37, 38, 39, 40, 41, 42] (by decide +kernel) (by decide +kernel)
set_option maxRecDepth 20000 in
theorem gX10_good_X10_become : GoodIn wsX10_good (wsV RX10 106 RX10 yX10_become wsX10_become) := goodIn_app (goodIn_of _ (by decide +kernel)) ggX10_good_X10_become
theorem dX10_good_0 : decode cX10_good 0 = .ok (.aload_n 0, 1) := by decide +kernel
theorem dX10_good_1 : decode cX10_good 1 = .ok (.iload_n 1, 1) := by decide +kernel
theorem dX10_good_2 : decode cX10_good 2 = .ok (.invokevirtual 95, 3) := by decide +kernel
theorem dX10_good_5 : decode cX10_good 5 = .ok (.ifCond .eq 5, 3) := by decide +kernel
theorem dX10_good_8 : decode cX10_good 8 = .ok (.iconst (-1), 1) := by decide +kernel
theorem dX10_good_9 : decode cX10_good 9 = .ok (.ireturn, 1) := by decide +kernel
theorem dX10_good_10 : decode cX10_good 10 = .ok (.aload_n 0, 1) := by decide +kernel
theorem dX10_good_11 : decode cX10_good 11 = .ok (.getfield 7, 3) := by decide +kernel
theorem dX10_good_14 : decode cX10_good 14 = .ok (.iload_n 1, 1) := by decide +kernel
theorem dX10_good_15 : decode cX10_good 15 = .ok (.baload, 1) := by decide +kernel
theorem dX10_good_16 : decode cX10_good 16 = .ok (.ifCond .eq 7, 3) := by decide +kernel
theorem dX10_good_19 : decode cX10_good 19 = .ok (.iconst 0, 1) := by decide +kernel
theorem dX10_good_20 : decode cX10_good 20 = .ok (.goto 4, 3) := by decide +kernel
theorem dX10_good_23 : decode cX10_good 23 = .ok (.iconst 1, 1) := by decide +kernel
theorem dX10_good_24 : decode cX10_good 24 = .ok (.istore_n 2, 1) := by decide +kernel
theorem dX10_good_25 : decode cX10_good 25 = .ok (.aload_n 0, 1) := by decide +kernel
theorem dX10_good_26 : decode cX10_good 26 = .ok (.iload_n 1, 1) := by decide +kernel
theorem dX10_good_27 : decode cX10_good 27 = .ok (.iconst 1, 1) := by decide +kernel
theorem dX10_good_28 : decode cX10_good 28 = .ok (.iconst 0, 1) := by decide +kernel
theorem dX10_good_29 : decode cX10_good 29 = .ok (.invokevirtual 106, 3) := by decide +kernel
theorem dX10_good_32 : decode cX10_good 32 = .ok (.iload_n 2, 1) := by decide +kernel
theorem dX10_good_33 : decode cX10_good 33 = .ok (.ireturn, 1) := by decide +kernel
set_option maxRecDepth 20000 in
theorem ggX10_freeze_X10_noPlace : GoodIn wsX10_freeze wsX10_noPlace := goodIn_r _ [7, 8, 9, 10, 6, 11, 18, 19, 20, 21, 22, 23, 24, 25, 26, 27, 28, 29, 30, 31, 32, 33, 34, 35, 36, 37, 38, 39, 40, 41, 42] (by decide +kernel) (by decide +kernel)
set_option maxRecDepth 20000 in
theorem gX10_freeze_X10_noPlace : GoodIn wsX10_freeze (wsV RX10 95 RX10 yX10_noPlace wsX10_noPlace) := goodIn_app (goodIn_of _ (by decide +kernel)) ggX10_freeze_X10_noPlace
set_option maxRecDepth 20000 in
theorem ggX10_freeze_X10_in : GoodIn wsX10_freeze wsX10_in := goodIn_r _ [11] (by decide +kernel) (by decide +kernel)
set_option maxRecDepth 20000 in
theorem gX10_freeze_X10_in : GoodIn wsX10_freeze (va_wsS RX10 79 yX10_in wsX10_in) := goodIn_app (goodIn_of _ (by decide +kernel)) ggX10_freeze_X10_in
set_option maxRecDepth 20000 in
theorem ggX10_freeze_X10_become : GoodIn wsX10_freeze wsX10_become := goodIn_r _ [15, 1, 2, 16, 17, 18, 19, 20, 21, 22, 23, 24, 25, 26, 27, 28, 29, 30, 31, 32, 33, 34, 35, 36, 37, 38, 39, 40, 41, 42] (by decide +kernel) (by decide +kernel)
set_option maxRecDepth 20000 in
theorem gX10_freeze_X10_become : GoodIn wsX10_freeze (wsV RX10 106 RX10 yX10_become wsX10_become) := goodIn_app (goodIn_of _ (by decide +kernel)) ggX10_freeze_X10_become
theorem dX10_freeze_0 : decode cX10_freeze 0 = .ok (.aload_n 0, 1) := by decide +kernel
theorem dX10_freeze_1 : decode cX10_freeze 1 = .ok (.iload_n 1, 1) := by decide +kernel
theorem dX10_freeze_2 : decode cX10_freeze 2 = .ok (.invokevirtual 95, 3) := by decide +kernel
theorem dX10_freeze_5 : decode cX10_freeze 5 = .ok (.ifCond .eq 5, 3) := by decide +kernel
theorem dX10_freeze_8 : decode cX10_freeze 8 = .ok (.iconst (-1), 1) := by decide +kernel
theorem dX10_freeze_9 : decode cX10_freeze 9 = .ok (.ireturn, 1) := by decide +kernel
theorem dX10_freeze_10 : decode cX10_freeze 10 = .ok (.iload_n 2, 1) := by decide +kernel
theorem dX10_freeze_11 : decode cX10_freeze 11 = .ok (.i2l, 1) := by decide +kernel
theorem dX10_freeze_12 : decode cX10_freeze 12 = .ok (.lconst 0, 1) := by decide +kernel
theorem dX10_freeze_13 : decode cX10_freeze 13 = .ok (.lconst 1, 1) := by decide +kernel
theorem dX10_freeze_14 : decode cX10_freeze 14 = .ok (.invokestatic 79, 3) := by decide +kernel
theorem dX10_freeze_17 : decode cX10_freeze 17 = .ok (.ifCond .ne 6, 3) := by decide +kernel
theorem dX10_freeze_20 : decode cX10_freeze 20 = .ok (.bipush (-2), 2) := by decide +kernel
theorem dX10_freeze_22 : decode cX10_freeze 22 = .ok (.ireturn, 1) := by decide +kernel
theorem dX10_freeze_23 : decode cX10_freeze 23 = .ok (.aload_n 0, 1) := by decide +kernel
theorem dX10_freeze_24 : decode cX10_freeze 24 = .ok (.getfield 7, 3) := by decide +kernel
theorem dX10_freeze_27 : decode cX10_freeze 27 = .ok (.iload_n 1, 1) := by decide +kernel
theorem dX10_freeze_28 : decode cX10_freeze 28 = .ok (.baload, 1) := by decide +kernel
theorem dX10_freeze_29 : decode cX10_freeze 29 = .ok (.ifCond .ne 13, 3) := by decide +kernel
theorem dX10_freeze_32 : decode cX10_freeze 32 = .ok (.aload_n 0, 1) := by decide +kernel
theorem dX10_freeze_33 : decode cX10_freeze 33 = .ok (.getfield 13, 3) := by decide +kernel
theorem dX10_freeze_36 : decode cX10_freeze 36 = .ok (.iload_n 1, 1) := by decide +kernel
theorem dX10_freeze_37 : decode cX10_freeze 37 = .ok (.iaload, 1) := by decide +kernel
theorem dX10_freeze_38 : decode cX10_freeze 38 = .ok (.iload_n 2, 1) := by decide +kernel
theorem dX10_freeze_39 : decode cX10_freeze 39 = .ok (.if_icmp .eq 7, 3) := by decide +kernel
theorem dX10_freeze_42 : decode cX10_freeze 42 = .ok (.iconst 1, 1) := by decide +kernel
theorem dX10_freeze_43 : decode cX10_freeze 43 = .ok (.goto 4, 3) := by decide +kernel
theorem dX10_freeze_46 : decode cX10_freeze 46 = .ok (.iconst 0, 1) := by decide +kernel
theorem dX10_freeze_47 : decode cX10_freeze 47 = .ok (.istore_n 3, 1) := by decide +kernel
theorem dX10_freeze_48 : decode cX10_freeze 48 = .ok (.aload_n 0, 1) := by decide +kernel
theorem dX10_freeze_49 : decode cX10_freeze 49 = .ok (.iload_n 1, 1) := by decide +kernel
theorem dX10_freeze_50 : decode cX10_freeze 50 = .ok (.iconst 0, 1) := by decide +kernel
theorem dX10_freeze_51 : decode cX10_freeze 51 = .ok (.iload_n 2, 1) := by decide +kernel
theorem dX10_freeze_52 : decode cX10_freeze 52 = .ok (.invokevirtual 106, 3) := by decide +kernel
theorem dX10_freeze_55 : decode cX10_freeze 55 = .ok (.iload_n 3, 1) := by decide +kernel
theorem dX10_freeze_56 : decode cX10_freeze 56 = .ok (.ireturn, 1) := by decide +kernel
set_option maxRecDepth 20000 in
theorem ggX10_choose_X10_in : GoodIn wsX10_choose wsX10_in := goodIn_r _ [6] (by decide +kernel) (by decide +kernel)
set_option maxRecDepth 20000 in
theorem gX10_choose_X10_in : GoodIn wsX10_choose (va_wsS RX10 79 yX10_in wsX10_in) := goodIn_app (goodIn_of _ (by decide +kernel)) ggX10_choose_X10_in
set_option maxRecDepth 20000 in
theorem ggX10_choose_X10_lowest : GoodIn wsX10_choose wsX10_lowest := goodIn_r _ [10, 1, 11, 12, 13, 31, 32, 33, 34, 35, 36, 37, 38, 39, 40, 41, 42, 43, 44, 45, 46, 47, 48, 49, 50, 51, 52, 53, 54, 55] (by decide +kernel) (by decide +kernel)
set_option maxRecDepth 20000 in
theorem gX10_choose_X10_lowest : GoodIn wsX10_choose (wsV RX10 99 RX10 yX10_lowest wsX10_lowest) := goodIn_app (goodIn_of _ (by decide +kernel)) ggX10_choose_X10_lowest
set_option maxRecDepth 20000 in
theorem ggX10_choose_X10_lost : GoodIn wsX10_choose wsX10_lost := goodIn_r _ [16, 17] (by decide +kernel) (by decide +kernel)
set_option maxRecDepth 20000 in
theorem gX10_choose_X10_lost : GoodIn wsX10_choose (va_wsS RX10 75 yX10_lost wsX10_lost) := goodIn_app (goodIn_of _ (by decide +kernel)) ggX10_choose_X10_lost
set_option maxRecDepth 20000 in
theorem ggX10_choose_X10_become : GoodIn wsX10_choose wsX10_become := goodIn_r _ [21, 2, 22, 23, 24, 31, 32, 33, 34, 35, 36, 37, 38, 39, 40, 41, 42, 43, 44, 45, 46, 47, 48, 49, 50, 51, 52, 53, 54, 55] (by decide +kernel) (by decide +kernel)
set_option maxRecDepth 20000 in
theorem gX10_choose_X10_become : GoodIn wsX10_choose (wsV RX10 106 RX10 yX10_become wsX10_become) := goodIn_app (goodIn_of _ (by decide +kernel)) ggX10_choose_X10_become
set_option maxRecDepth 20000 in
theorem ggX10_choose_X10_shareOf : GoodIn wsX10_choose wsX10_shareOf := goodIn_r _ [28, 29, 11, 1, 30, 31, 32, 33, 34, 35, 36, 37, 38, 39, 40, 41, 42, 43, 44, 45, 46, 47, 48, 49, 50, 51, 52, 53, 54, 55] (by decide +kernel) (by decide +kernel)
set_option maxRecDepth 20000 in
theorem gX10_choose_X10_shareOf : GoodIn wsX10_choose (wsV RX10 102 RX10 yX10_shareOf wsX10_shareOf) := goodIn_app (goodIn_of _ (by decide +kernel)) ggX10_choose_X10_shareOf
theorem dX10_choose_0 : decode cX10_choose 0 = .ok (.iload_n 1, 1) := by decide +kernel
theorem dX10_choose_1 : decode cX10_choose 1 = .ok (.i2l, 1) := by decide +kernel
theorem dX10_choose_2 : decode cX10_choose 2 = .ok (.lconst 0, 1) := by decide +kernel
theorem dX10_choose_3 : decode cX10_choose 3 = .ok (.aload_n 0, 1) := by decide +kernel
theorem dX10_choose_4 : decode cX10_choose 4 = .ok (.getfield 54, 3) := by decide +kernel
theorem dX10_choose_7 : decode cX10_choose 7 = .ok (.i2l, 1) := by decide +kernel
theorem dX10_choose_8 : decode cX10_choose 8 = .ok (.invokestatic 79, 3) := by decide +kernel
theorem dX10_choose_11 : decode cX10_choose 11 = .ok (.ifCond .eq 12, 3) := by decide +kernel
theorem dX10_choose_14 : decode cX10_choose 14 = .ok (.aload_n 0, 1) := by decide +kernel
theorem dX10_choose_15 : decode cX10_choose 15 = .ok (.invokevirtual 99, 3) := by decide +kernel
theorem dX10_choose_18 : decode cX10_choose 18 = .ok (.lconst 0, 1) := by decide +kernel
theorem dX10_choose_19 : decode cX10_choose 19 = .ok (.lcmp, 1) := by decide +kernel
theorem dX10_choose_20 : decode cX10_choose 20 = .ok (.ifCond .ge 7, 3) := by decide +kernel
theorem dX10_choose_23 : decode cX10_choose 23 = .ok (.invokestatic 75, 3) := by decide +kernel
theorem dX10_choose_26 : decode cX10_choose 26 = .ok (.lreturn, 1) := by decide +kernel
theorem dX10_choose_27 : decode cX10_choose 27 = .ok (.iconst 0, 1) := by decide +kernel
theorem dX10_choose_28 : decode cX10_choose 28 = .ok (.istore_n 2, 1) := by decide +kernel
theorem dX10_choose_29 : decode cX10_choose 29 = .ok (.iload_n 2, 1) := by decide +kernel
theorem dX10_choose_30 : decode cX10_choose 30 = .ok (.aload_n 0, 1) := by decide +kernel
theorem dX10_choose_31 : decode cX10_choose 31 = .ok (.getfield 54, 3) := by decide +kernel
theorem dX10_choose_34 : decode cX10_choose 34 = .ok (.if_icmp .ge 16, 3) := by decide +kernel
theorem dX10_choose_37 : decode cX10_choose 37 = .ok (.aload_n 0, 1) := by decide +kernel
theorem dX10_choose_38 : decode cX10_choose 38 = .ok (.iload_n 2, 1) := by decide +kernel
theorem dX10_choose_39 : decode cX10_choose 39 = .ok (.iconst 0, 1) := by decide +kernel
theorem dX10_choose_40 : decode cX10_choose 40 = .ok (.iconst 0, 1) := by decide +kernel
theorem dX10_choose_41 : decode cX10_choose 41 = .ok (.invokevirtual 106, 3) := by decide +kernel
theorem dX10_choose_44 : decode cX10_choose 44 = .ok (.iinc 2 1, 3) := by decide +kernel
theorem dX10_choose_47 : decode cX10_choose 47 = .ok (.goto (-18), 3) := by decide +kernel
theorem dX10_choose_50 : decode cX10_choose 50 = .ok (.lconst 0, 1) := by decide +kernel
theorem dX10_choose_51 : decode cX10_choose 51 = .ok (.lstore_n 2, 1) := by decide +kernel
theorem dX10_choose_52 : decode cX10_choose 52 = .ok (.iconst 0, 1) := by decide +kernel
theorem dX10_choose_53 : decode cX10_choose 53 = .ok (.istore 4, 2) := by decide +kernel
theorem dX10_choose_55 : decode cX10_choose 55 = .ok (.iload 4, 2) := by decide +kernel
theorem dX10_choose_57 : decode cX10_choose 57 = .ok (.iload_n 1, 1) := by decide +kernel
theorem dX10_choose_58 : decode cX10_choose 58 = .ok (.if_icmp .ge 87, 3) := by decide +kernel
theorem dX10_choose_61 : decode cX10_choose 61 = .ok (.iconst (-1), 1) := by decide +kernel
theorem dX10_choose_62 : decode cX10_choose 62 = .ok (.istore 5, 2) := by decide +kernel
theorem dX10_choose_64 : decode cX10_choose 64 = .ok (.iconst 0, 1) := by decide +kernel
theorem dX10_choose_65 : decode cX10_choose 65 = .ok (.istore 6, 2) := by decide +kernel
theorem dX10_choose_67 : decode cX10_choose 67 = .ok (.iload 6, 2) := by decide +kernel
theorem dX10_choose_69 : decode cX10_choose 69 = .ok (.aload_n 0, 1) := by decide +kernel
theorem dX10_choose_70 : decode cX10_choose 70 = .ok (.getfield 54, 3) := by decide +kernel
theorem dX10_choose_73 : decode cX10_choose 73 = .ok (.if_icmp .ge 49, 3) := by decide +kernel
theorem dX10_choose_76 : decode cX10_choose 76 = .ok (.aload_n 0, 1) := by decide +kernel
theorem dX10_choose_77 : decode cX10_choose 77 = .ok (.getfield 7, 3) := by decide +kernel
theorem dX10_choose_80 : decode cX10_choose 80 = .ok (.iload 6, 2) := by decide +kernel
theorem dX10_choose_82 : decode cX10_choose 82 = .ok (.baload, 1) := by decide +kernel
theorem dX10_choose_83 : decode cX10_choose 83 = .ok (.ifCond .ne 29, 3) := by decide +kernel
theorem dX10_choose_86 : decode cX10_choose 86 = .ok (.iload 5, 2) := by decide +kernel
theorem dX10_choose_88 : decode cX10_choose 88 = .ok (.ifCond .lt 19, 3) := by decide +kernel
theorem dX10_choose_91 : decode cX10_choose 91 = .ok (.aload_n 0, 1) := by decide +kernel
theorem dX10_choose_92 : decode cX10_choose 92 = .ok (.iload 6, 2) := by decide +kernel
theorem dX10_choose_94 : decode cX10_choose 94 = .ok (.invokevirtual 102, 3) := by decide +kernel
theorem dX10_choose_97 : decode cX10_choose 97 = .ok (.aload_n 0, 1) := by decide +kernel
theorem dX10_choose_98 : decode cX10_choose 98 = .ok (.iload 5, 2) := by decide +kernel
theorem dX10_choose_100 : decode cX10_choose 100 = .ok (.invokevirtual 102, 3) := by decide +kernel
theorem dX10_choose_103 : decode cX10_choose 103 = .ok (.lcmp, 1) := by decide +kernel
theorem dX10_choose_104 : decode cX10_choose 104 = .ok (.ifCond .gt 8, 3) := by decide +kernel
theorem dX10_choose_107 : decode cX10_choose 107 = .ok (.iload 6, 2) := by decide +kernel
theorem dX10_choose_109 : decode cX10_choose 109 = .ok (.goto 5, 3) := by decide +kernel
theorem dX10_choose_112 : decode cX10_choose 112 = .ok (.iload 5, 2) := by decide +kernel
theorem dX10_choose_114 : decode cX10_choose 114 = .ok (.istore 5, 2) := by decide +kernel
theorem dX10_choose_116 : decode cX10_choose 116 = .ok (.iinc 6 1, 3) := by decide +kernel
theorem dX10_choose_119 : decode cX10_choose 119 = .ok (.goto (-52), 3) := by decide +kernel
theorem dX10_choose_122 : decode cX10_choose 122 = .ok (.aload_n 0, 1) := by decide +kernel
theorem dX10_choose_123 : decode cX10_choose 123 = .ok (.getfield 7, 3) := by decide +kernel
theorem dX10_choose_126 : decode cX10_choose 126 = .ok (.iload 5, 2) := by decide +kernel
theorem dX10_choose_128 : decode cX10_choose 128 = .ok (.iconst 1, 1) := by decide +kernel
theorem dX10_choose_129 : decode cX10_choose 129 = .ok (.bastore, 1) := by decide +kernel
theorem dX10_choose_130 : decode cX10_choose 130 = .ok (.lload_n 2, 1) := by decide +kernel
theorem dX10_choose_131 : decode cX10_choose 131 = .ok (.aload_n 0, 1) := by decide +kernel
theorem dX10_choose_132 : decode cX10_choose 132 = .ok (.iload 5, 2) := by decide +kernel
theorem dX10_choose_134 : decode cX10_choose 134 = .ok (.invokevirtual 102, 3) := by decide +kernel
theorem dX10_choose_137 : decode cX10_choose 137 = .ok (.ladd, 1) := by decide +kernel
theorem dX10_choose_138 : decode cX10_choose 138 = .ok (.lstore_n 2, 1) := by decide +kernel
theorem dX10_choose_139 : decode cX10_choose 139 = .ok (.iinc 4 1, 3) := by decide +kernel
theorem dX10_choose_142 : decode cX10_choose 142 = .ok (.goto (-87), 3) := by decide +kernel
theorem dX10_choose_145 : decode cX10_choose 145 = .ok (.lload_n 2, 1) := by decide +kernel
theorem dX10_choose_146 : decode cX10_choose 146 = .ok (.lreturn, 1) := by decide +kernel
theorem dX10_goods_0 : decode cX10_goods 0 = .ok (.iconst 0, 1) := by decide +kernel
theorem dX10_goods_1 : decode cX10_goods 1 = .ok (.istore_n 1, 1) := by decide +kernel
theorem dX10_goods_2 : decode cX10_goods 2 = .ok (.iconst 0, 1) := by decide +kernel
theorem dX10_goods_3 : decode cX10_goods 3 = .ok (.istore_n 2, 1) := by decide +kernel
theorem dX10_goods_4 : decode cX10_goods 4 = .ok (.iload_n 2, 1) := by decide +kernel
theorem dX10_goods_5 : decode cX10_goods 5 = .ok (.aload_n 0, 1) := by decide +kernel
theorem dX10_goods_6 : decode cX10_goods 6 = .ok (.getfield 54, 3) := by decide +kernel
theorem dX10_goods_9 : decode cX10_goods 9 = .ok (.if_icmp .ge 26, 3) := by decide +kernel
theorem dX10_goods_12 : decode cX10_goods 12 = .ok (.iload_n 1, 1) := by decide +kernel
theorem dX10_goods_13 : decode cX10_goods 13 = .ok (.aload_n 0, 1) := by decide +kernel
theorem dX10_goods_14 : decode cX10_goods 14 = .ok (.getfield 7, 3) := by decide +kernel
theorem dX10_goods_17 : decode cX10_goods 17 = .ok (.iload_n 2, 1) := by decide +kernel
theorem dX10_goods_18 : decode cX10_goods 18 = .ok (.baload, 1) := by decide +kernel
theorem dX10_goods_19 : decode cX10_goods 19 = .ok (.ifCond .eq 7, 3) := by decide +kernel
theorem dX10_goods_22 : decode cX10_goods 22 = .ok (.iconst 1, 1) := by decide +kernel
theorem dX10_goods_23 : decode cX10_goods 23 = .ok (.goto 4, 3) := by decide +kernel
theorem dX10_goods_26 : decode cX10_goods 26 = .ok (.iconst 0, 1) := by decide +kernel
theorem dX10_goods_27 : decode cX10_goods 27 = .ok (.iadd, 1) := by decide +kernel
theorem dX10_goods_28 : decode cX10_goods 28 = .ok (.istore_n 1, 1) := by decide +kernel
theorem dX10_goods_29 : decode cX10_goods 29 = .ok (.iinc 2 1, 3) := by decide +kernel
theorem dX10_goods_32 : decode cX10_goods 32 = .ok (.goto (-28), 3) := by decide +kernel
theorem dX10_goods_35 : decode cX10_goods 35 = .ok (.iload_n 1, 1) := by decide +kernel
theorem dX10_goods_36 : decode cX10_goods 36 = .ok (.ireturn, 1) := by decide +kernel
set_option maxRecDepth 20000 in
theorem ggX10_about_X10_noPlace : GoodIn wsX10_about wsX10_noPlace := goodIn_r _ [7, 8, 9, 10, 6, 11, 12, 13, 14, 15, 16, 17, 18, 19, 20, 21, 22, 23, 24, 25, 26, 27, 28, 29, 30, 31, 32, 33, 34, 35, 36] (by decide +kernel) (by decide +kernel)
set_option maxRecDepth 20000 in
theorem gX10_about_X10_noPlace : GoodIn wsX10_about (wsV RX10 95 RX10 yX10_noPlace wsX10_noPlace) := goodIn_app (goodIn_of _ (by decide +kernel)) ggX10_about_X10_noPlace
theorem dX10_about_0 : decode cX10_about 0 = .ok (.aload_n 0, 1) := by decide +kernel
theorem dX10_about_1 : decode cX10_about 1 = .ok (.iload_n 1, 1) := by decide +kernel
theorem dX10_about_2 : decode cX10_about 2 = .ok (.invokevirtual 95, 3) := by decide +kernel
theorem dX10_about_5 : decode cX10_about 5 = .ok (.ifCond .eq 5, 3) := by decide +kernel
theorem dX10_about_8 : decode cX10_about 8 = .ok (.iconst (-1), 1) := by decide +kernel
theorem dX10_about_9 : decode cX10_about 9 = .ok (.ireturn, 1) := by decide +kernel
theorem dX10_about_10 : decode cX10_about 10 = .ok (.iload_n 2, 1) := by decide +kernel
theorem dX10_about_11 : decode cX10_about 11 = .ok (.ifCond .ne 18, 3) := by decide +kernel
theorem dX10_about_14 : decode cX10_about 14 = .ok (.aload_n 0, 1) := by decide +kernel
theorem dX10_about_15 : decode cX10_about 15 = .ok (.getfield 7, 3) := by decide +kernel
theorem dX10_about_18 : decode cX10_about 18 = .ok (.iload_n 1, 1) := by decide +kernel
theorem dX10_about_19 : decode cX10_about 19 = .ok (.baload, 1) := by decide +kernel
theorem dX10_about_20 : decode cX10_about 20 = .ok (.ifCond .eq 7, 3) := by decide +kernel
theorem dX10_about_23 : decode cX10_about 23 = .ok (.iconst 1, 1) := by decide +kernel
theorem dX10_about_24 : decode cX10_about 24 = .ok (.goto 4, 3) := by decide +kernel
theorem dX10_about_27 : decode cX10_about 27 = .ok (.iconst 0, 1) := by decide +kernel
theorem dX10_about_28 : decode cX10_about 28 = .ok (.ireturn, 1) := by decide +kernel
theorem dX10_about_29 : decode cX10_about 29 = .ok (.iload_n 2, 1) := by decide +kernel
theorem dX10_about_30 : decode cX10_about 30 = .ok (.iconst 1, 1) := by decide +kernel
theorem dX10_about_31 : decode cX10_about 31 = .ok (.if_icmp .ne 24, 3) := by decide +kernel
theorem dX10_about_34 : decode cX10_about 34 = .ok (.aload_n 0, 1) := by decide +kernel
theorem dX10_about_35 : decode cX10_about 35 = .ok (.getfield 7, 3) := by decide +kernel
theorem dX10_about_38 : decode cX10_about 38 = .ok (.iload_n 1, 1) := by decide +kernel
theorem dX10_about_39 : decode cX10_about 39 = .ok (.baload, 1) := by decide +kernel
theorem dX10_about_40 : decode cX10_about 40 = .ok (.ifCond .eq 8, 3) := by decide +kernel
theorem dX10_about_43 : decode cX10_about 43 = .ok (.bipush (-9), 2) := by decide +kernel
theorem dX10_about_45 : decode cX10_about 45 = .ok (.goto 9, 3) := by decide +kernel
theorem dX10_about_48 : decode cX10_about 48 = .ok (.aload_n 0, 1) := by decide +kernel
theorem dX10_about_49 : decode cX10_about 49 = .ok (.getfield 13, 3) := by decide +kernel
theorem dX10_about_52 : decode cX10_about 52 = .ok (.iload_n 1, 1) := by decide +kernel
theorem dX10_about_53 : decode cX10_about 53 = .ok (.iaload, 1) := by decide +kernel
theorem dX10_about_54 : decode cX10_about 54 = .ok (.ireturn, 1) := by decide +kernel
theorem dX10_about_55 : decode cX10_about 55 = .ok (.iload_n 2, 1) := by decide +kernel
theorem dX10_about_56 : decode cX10_about 56 = .ok (.iconst 2, 1) := by decide +kernel
theorem dX10_about_57 : decode cX10_about 57 = .ok (.if_icmp .eq 6, 3) := by decide +kernel
theorem dX10_about_60 : decode cX10_about 60 = .ok (.bipush (-2), 2) := by decide +kernel
theorem dX10_about_62 : decode cX10_about 62 = .ok (.ireturn, 1) := by decide +kernel
theorem dX10_about_63 : decode cX10_about 63 = .ok (.iconst 0, 1) := by decide +kernel
theorem dX10_about_64 : decode cX10_about 64 = .ok (.istore_n 3, 1) := by decide +kernel
theorem dX10_about_65 : decode cX10_about 65 = .ok (.iconst 0, 1) := by decide +kernel
theorem dX10_about_66 : decode cX10_about 66 = .ok (.istore 4, 2) := by decide +kernel
theorem dX10_about_68 : decode cX10_about 68 = .ok (.iload 4, 2) := by decide +kernel
theorem dX10_about_70 : decode cX10_about 70 = .ok (.iload_n 1, 1) := by decide +kernel
theorem dX10_about_71 : decode cX10_about 71 = .ok (.if_icmp .ge 27, 3) := by decide +kernel
theorem dX10_about_74 : decode cX10_about 74 = .ok (.iload_n 3, 1) := by decide +kernel
theorem dX10_about_75 : decode cX10_about 75 = .ok (.aload_n 0, 1) := by decide +kernel
theorem dX10_about_76 : decode cX10_about 76 = .ok (.getfield 7, 3) := by decide +kernel
theorem dX10_about_79 : decode cX10_about 79 = .ok (.iload 4, 2) := by decide +kernel
theorem dX10_about_81 : decode cX10_about 81 = .ok (.baload, 1) := by decide +kernel
theorem dX10_about_82 : decode cX10_about 82 = .ok (.ifCond .eq 7, 3) := by decide +kernel
theorem dX10_about_85 : decode cX10_about 85 = .ok (.iconst 1, 1) := by decide +kernel
theorem dX10_about_86 : decode cX10_about 86 = .ok (.goto 4, 3) := by decide +kernel
theorem dX10_about_89 : decode cX10_about 89 = .ok (.iconst 0, 1) := by decide +kernel
theorem dX10_about_90 : decode cX10_about 90 = .ok (.iadd, 1) := by decide +kernel
theorem dX10_about_91 : decode cX10_about 91 = .ok (.istore_n 3, 1) := by decide +kernel
theorem dX10_about_92 : decode cX10_about 92 = .ok (.iinc 4 1, 3) := by decide +kernel
theorem dX10_about_95 : decode cX10_about 95 = .ok (.goto (-27), 3) := by decide +kernel
theorem dX10_about_98 : decode cX10_about 98 = .ok (.aload_n 0, 1) := by decide +kernel
theorem dX10_about_99 : decode cX10_about 99 = .ok (.getfield 7, 3) := by decide +kernel
theorem dX10_about_102 : decode cX10_about 102 = .ok (.iload_n 1, 1) := by decide +kernel
theorem dX10_about_103 : decode cX10_about 103 = .ok (.baload, 1) := by decide +kernel
theorem dX10_about_104 : decode cX10_about 104 = .ok (.ifCond .eq 7, 3) := by decide +kernel
theorem dX10_about_107 : decode cX10_about 107 = .ok (.iload_n 3, 1) := by decide +kernel
theorem dX10_about_108 : decode cX10_about 108 = .ok (.goto 5, 3) := by decide +kernel
theorem dX10_about_111 : decode cX10_about 111 = .ok (.bipush (-9), 2) := by decide +kernel
theorem dX10_about_113 : decode cX10_about 113 = .ok (.ireturn, 1) := by decide +kernel
theorem dX10_folded_0 : decode cX10_folded 0 = .ok (.lload_n 0, 1) := by decide +kernel
theorem dX10_folded_1 : decode cX10_folded 1 = .ok (.lstore_n 3, 1) := by decide +kernel
theorem dX10_folded_2 : decode cX10_folded 2 = .ok (.iconst 1, 1) := by decide +kernel
theorem dX10_folded_3 : decode cX10_folded 3 = .ok (.istore 5, 2) := by decide +kernel
theorem dX10_folded_5 : decode cX10_folded 5 = .ok (.iload 5, 2) := by decide +kernel
theorem dX10_folded_7 : decode cX10_folded 7 = .ok (.iload_n 2, 1) := by decide +kernel
theorem dX10_folded_8 : decode cX10_folded 8 = .ok (.if_icmp .ge 57, 3) := by decide +kernel
theorem dX10_folded_11 : decode cX10_folded 11 = .ok (.iconst 0, 1) := by decide +kernel
theorem dX10_folded_12 : decode cX10_folded 12 = .ok (.istore 6, 2) := by decide +kernel
theorem dX10_folded_14 : decode cX10_folded 14 = .ok (.iload 6, 2) := by decide +kernel
theorem dX10_folded_16 : decode cX10_folded 16 = .ok (.iload_n 2, 1) := by decide +kernel
theorem dX10_folded_17 : decode cX10_folded 17 = .ok (.if_icmp .ge 39, 3) := by decide +kernel
theorem dX10_folded_20 : decode cX10_folded 20 = .ok (.lload_n 3, 1) := by decide +kernel
theorem dX10_folded_21 : decode cX10_folded 21 = .ok (.iload 6, 2) := by decide +kernel
theorem dX10_folded_23 : decode cX10_folded 23 = .ok (.iload 5, 2) := by decide +kernel
theorem dX10_folded_25 : decode cX10_folded 25 = .ok (.iadd, 1) := by decide +kernel
theorem dX10_folded_26 : decode cX10_folded 26 = .ok (.lshr, 1) := by decide +kernel
theorem dX10_folded_27 : decode cX10_folded 27 = .ok (.lconst 1, 1) := by decide +kernel
theorem dX10_folded_28 : decode cX10_folded 28 = .ok (.iload 5, 2) := by decide +kernel
theorem dX10_folded_30 : decode cX10_folded 30 = .ok (.lshl, 1) := by decide +kernel
theorem dX10_folded_31 : decode cX10_folded 31 = .ok (.lconst 1, 1) := by decide +kernel
theorem dX10_folded_32 : decode cX10_folded 32 = .ok (.lsub, 1) := by decide +kernel
theorem dX10_folded_33 : decode cX10_folded 33 = .ok (.land, 1) := by decide +kernel
theorem dX10_folded_34 : decode cX10_folded 34 = .ok (.lstore 7, 2) := by decide +kernel
theorem dX10_folded_36 : decode cX10_folded 36 = .ok (.lload_n 3, 1) := by decide +kernel
theorem dX10_folded_37 : decode cX10_folded 37 = .ok (.lload 7, 2) := by decide +kernel
theorem dX10_folded_39 : decode cX10_folded 39 = .ok (.iload 6, 2) := by decide +kernel
theorem dX10_folded_41 : decode cX10_folded 41 = .ok (.lshl, 1) := by decide +kernel
theorem dX10_folded_42 : decode cX10_folded 42 = .ok (.lxor, 1) := by decide +kernel
theorem dX10_folded_43 : decode cX10_folded 43 = .ok (.lstore_n 3, 1) := by decide +kernel
theorem dX10_folded_44 : decode cX10_folded 44 = .ok (.iload 6, 2) := by decide +kernel
theorem dX10_folded_46 : decode cX10_folded 46 = .ok (.iconst 2, 1) := by decide +kernel
theorem dX10_folded_47 : decode cX10_folded 47 = .ok (.iload 5, 2) := by decide +kernel
theorem dX10_folded_49 : decode cX10_folded 49 = .ok (.imul, 1) := by decide +kernel
theorem dX10_folded_50 : decode cX10_folded 50 = .ok (.iadd, 1) := by decide +kernel
theorem dX10_folded_51 : decode cX10_folded 51 = .ok (.istore 6, 2) := by decide +kernel
theorem dX10_folded_53 : decode cX10_folded 53 = .ok (.goto (-39), 3) := by decide +kernel
theorem dX10_folded_56 : decode cX10_folded 56 = .ok (.iload 5, 2) := by decide +kernel
theorem dX10_folded_58 : decode cX10_folded 58 = .ok (.iconst 2, 1) := by decide +kernel
theorem dX10_folded_59 : decode cX10_folded 59 = .ok (.imul, 1) := by decide +kernel
theorem dX10_folded_60 : decode cX10_folded 60 = .ok (.istore 5, 2) := by decide +kernel
theorem dX10_folded_62 : decode cX10_folded 62 = .ok (.goto (-57), 3) := by decide +kernel
theorem dX10_folded_65 : decode cX10_folded 65 = .ok (.lload_n 3, 1) := by decide +kernel
theorem dX10_folded_66 : decode cX10_folded 66 = .ok (.lreturn, 1) := by decide +kernel
set_option maxRecDepth 20000 in
theorem ggX10_isMessage_X10_goods : GoodIn wsX10_isMessage wsX10_goods := goodIn_r _ [5, 6, 7, 11, 12, 13, 14, 15, 16, 17, 18, 19, 20, 21, 22, 23, 24, 25, 26, 27, 28, 29, 30, 31, 32, 33, 34, 35] (by decide +kernel) (by decide +kernel)
set_option maxRecDepth 20000 in
theorem gX10_isMessage_X10_goods : GoodIn wsX10_isMessage (wsV RX10 110 RX10 yX10_goods wsX10_goods) := goodIn_app (goodIn_of _ (by decide +kernel)) ggX10_isMessage_X10_goods
set_option maxRecDepth 20000 in
theorem ggX10_isMessage_X10_in : GoodIn wsX10_isMessage wsX10_in := goodIn_r _ [10] (by decide +kernel) (by decide +kernel)
set_option maxRecDepth 20000 in
theorem gX10_isMessage_X10_in : GoodIn wsX10_isMessage (va_wsS RX10 79 yX10_in wsX10_in) := goodIn_app (goodIn_of _ (by decide +kernel)) ggX10_isMessage_X10_in
theorem dX10_isMessage_0 : decode cX10_isMessage 0 = .ok (.lload_n 1, 1) := by decide +kernel
theorem dX10_isMessage_1 : decode cX10_isMessage 1 = .ok (.lconst 0, 1) := by decide +kernel
theorem dX10_isMessage_2 : decode cX10_isMessage 2 = .ok (.lconst 1, 1) := by decide +kernel
theorem dX10_isMessage_3 : decode cX10_isMessage 3 = .ok (.aload_n 0, 1) := by decide +kernel
theorem dX10_isMessage_4 : decode cX10_isMessage 4 = .ok (.invokevirtual 110, 3) := by decide +kernel
theorem dX10_isMessage_7 : decode cX10_isMessage 7 = .ok (.lshl, 1) := by decide +kernel
theorem dX10_isMessage_8 : decode cX10_isMessage 8 = .ok (.lconst 1, 1) := by decide +kernel
theorem dX10_isMessage_9 : decode cX10_isMessage 9 = .ok (.lsub, 1) := by decide +kernel
theorem dX10_isMessage_10 : decode cX10_isMessage 10 = .ok (.invokestatic 79, 3) := by decide +kernel
theorem dX10_isMessage_13 : decode cX10_isMessage 13 = .ok (.ireturn, 1) := by decide +kernel
theorem dX10_rowOf_0 : decode cX10_rowOf 0 = .ok (.lconst 0, 1) := by decide +kernel
theorem dX10_rowOf_1 : decode cX10_rowOf 1 = .ok (.lstore_n 3, 1) := by decide +kernel
theorem dX10_rowOf_2 : decode cX10_rowOf 2 = .ok (.lload_n 1, 1) := by decide +kernel
theorem dX10_rowOf_3 : decode cX10_rowOf 3 = .ok (.lstore 5, 2) := by decide +kernel
theorem dX10_rowOf_5 : decode cX10_rowOf 5 = .ok (.iconst 0, 1) := by decide +kernel
theorem dX10_rowOf_6 : decode cX10_rowOf 6 = .ok (.istore 7, 2) := by decide +kernel
theorem dX10_rowOf_8 : decode cX10_rowOf 8 = .ok (.iload 7, 2) := by decide +kernel
theorem dX10_rowOf_10 : decode cX10_rowOf 10 = .ok (.aload_n 0, 1) := by decide +kernel
theorem dX10_rowOf_11 : decode cX10_rowOf 11 = .ok (.getfield 54, 3) := by decide +kernel
theorem dX10_rowOf_14 : decode cX10_rowOf 14 = .ok (.if_icmp .ge 61, 3) := by decide +kernel
theorem dX10_rowOf_17 : decode cX10_rowOf 17 = .ok (.lload_n 3, 1) := by decide +kernel
theorem dX10_rowOf_18 : decode cX10_rowOf 18 = .ok (.aload_n 0, 1) := by decide +kernel
theorem dX10_rowOf_19 : decode cX10_rowOf 19 = .ok (.getfield 7, 3) := by decide +kernel
theorem dX10_rowOf_22 : decode cX10_rowOf 22 = .ok (.iload 7, 2) := by decide +kernel
theorem dX10_rowOf_24 : decode cX10_rowOf 24 = .ok (.baload, 1) := by decide +kernel
theorem dX10_rowOf_25 : decode cX10_rowOf 25 = .ok (.ifCond .eq 10, 3) := by decide +kernel
theorem dX10_rowOf_28 : decode cX10_rowOf 28 = .ok (.lload 5, 2) := by decide +kernel
theorem dX10_rowOf_30 : decode cX10_rowOf 30 = .ok (.lconst 1, 1) := by decide +kernel
theorem dX10_rowOf_31 : decode cX10_rowOf 31 = .ok (.land, 1) := by decide +kernel
theorem dX10_rowOf_32 : decode cX10_rowOf 32 = .ok (.goto 11, 3) := by decide +kernel
theorem dX10_rowOf_35 : decode cX10_rowOf 35 = .ok (.aload_n 0, 1) := by decide +kernel
theorem dX10_rowOf_36 : decode cX10_rowOf 36 = .ok (.getfield 13, 3) := by decide +kernel
theorem dX10_rowOf_39 : decode cX10_rowOf 39 = .ok (.iload 7, 2) := by decide +kernel
theorem dX10_rowOf_41 : decode cX10_rowOf 41 = .ok (.iaload, 1) := by decide +kernel
theorem dX10_rowOf_42 : decode cX10_rowOf 42 = .ok (.i2l, 1) := by decide +kernel
theorem dX10_rowOf_43 : decode cX10_rowOf 43 = .ok (.iload 7, 2) := by decide +kernel
theorem dX10_rowOf_45 : decode cX10_rowOf 45 = .ok (.lshl, 1) := by decide +kernel
theorem dX10_rowOf_46 : decode cX10_rowOf 46 = .ok (.lor, 1) := by decide +kernel
theorem dX10_rowOf_47 : decode cX10_rowOf 47 = .ok (.lstore_n 3, 1) := by decide +kernel
theorem dX10_rowOf_48 : decode cX10_rowOf 48 = .ok (.aload_n 0, 1) := by decide +kernel
theorem dX10_rowOf_49 : decode cX10_rowOf 49 = .ok (.getfield 7, 3) := by decide +kernel
theorem dX10_rowOf_52 : decode cX10_rowOf 52 = .ok (.iload 7, 2) := by decide +kernel
theorem dX10_rowOf_54 : decode cX10_rowOf 54 = .ok (.baload, 1) := by decide +kernel
theorem dX10_rowOf_55 : decode cX10_rowOf 55 = .ok (.ifCond .eq 10, 3) := by decide +kernel
theorem dX10_rowOf_58 : decode cX10_rowOf 58 = .ok (.lload 5, 2) := by decide +kernel
theorem dX10_rowOf_60 : decode cX10_rowOf 60 = .ok (.iconst 1, 1) := by decide +kernel
theorem dX10_rowOf_61 : decode cX10_rowOf 61 = .ok (.lshr, 1) := by decide +kernel
theorem dX10_rowOf_62 : decode cX10_rowOf 62 = .ok (.goto 5, 3) := by decide +kernel
theorem dX10_rowOf_65 : decode cX10_rowOf 65 = .ok (.lload 5, 2) := by decide +kernel
theorem dX10_rowOf_67 : decode cX10_rowOf 67 = .ok (.lstore 5, 2) := by decide +kernel
theorem dX10_rowOf_69 : decode cX10_rowOf 69 = .ok (.iinc 7 1, 3) := by decide +kernel
theorem dX10_rowOf_72 : decode cX10_rowOf 72 = .ok (.goto (-64), 3) := by decide +kernel
theorem dX10_rowOf_75 : decode cX10_rowOf 75 = .ok (.lload_n 3, 1) := by decide +kernel
theorem dX10_rowOf_76 : decode cX10_rowOf 76 = .ok (.lreturn, 1) := by decide +kernel
set_option maxRecDepth 20000 in
theorem ggX10_word_X10_isMessage : GoodIn wsX10_word wsX10_isMessage := goodIn_r _ [6, 7, 8, 9, 5, 10, 1, 11, 12, 13, 14, 27, 28, 29, 30, 31, 32, 33, 34, 35, 36, 37, 38, 39, 40, 41, 42, 43, 44, 45, 46, 47, 48, 49, 50, 51] (by decide +kernel) (by decide +kernel)
set_option maxRecDepth 20000 in
theorem gX10_word_X10_isMessage : GoodIn wsX10_word (wsV RX10 114 RX10 yX10_isMessage wsX10_isMessage) := goodIn_app (goodIn_of _ (by decide +kernel)) ggX10_word_X10_isMessage
set_option maxRecDepth 20000 in
theorem ggX10_word_X10_rowOf : GoodIn wsX10_word wsX10_rowOf := goodIn_r _ [18, 1, 11, 19, 27, 28, 29, 30, 31, 32, 33, 34, 35, 36, 37, 38, 39, 40, 41, 42, 43, 44, 45, 46, 47, 48, 49, 50, 51] (by decide +kernel) (by decide +kernel)
set_option maxRecDepth 20000 in
theorem gX10_word_X10_rowOf : GoodIn wsX10_word (wsV RX10 118 RX10 yX10_rowOf wsX10_rowOf) := goodIn_app (goodIn_of _ (by decide +kernel)) ggX10_word_X10_rowOf
set_option maxRecDepth 20000 in
theorem ggX10_word_X10_folded : GoodIn wsX10_word wsX10_folded := goodIn_r _ [22] (by decide +kernel) (by decide +kernel)
set_option maxRecDepth 20000 in
theorem gX10_word_X10_folded : GoodIn wsX10_word (va_wsS RX10 122 yX10_folded wsX10_folded) := goodIn_app (goodIn_of _ (by decide +kernel)) ggX10_word_X10_folded
set_option maxRecDepth 20000 in
theorem ggX10_word_X10_lost : GoodIn wsX10_word wsX10_lost := goodIn_r _ [25, 26] (by decide +kernel) (by decide +kernel)
set_option maxRecDepth 20000 in
theorem gX10_word_X10_lost : GoodIn wsX10_word (va_wsS RX10 75 yX10_lost wsX10_lost) := goodIn_app (goodIn_of _ (by decide +kernel)) ggX10_word_X10_lost
theorem dX10_word_0 : decode cX10_word 0 = .ok (.aload_n 0, 1) := by decide +kernel
theorem dX10_word_1 : decode cX10_word 1 = .ok (.lload_n 1, 1) := by decide +kernel
theorem dX10_word_2 : decode cX10_word 2 = .ok (.invokevirtual 114, 3) := by decide +kernel
theorem dX10_word_5 : decode cX10_word 5 = .ok (.ifCond .eq 18, 3) := by decide +kernel
theorem dX10_word_8 : decode cX10_word 8 = .ok (.aload_n 0, 1) := by decide +kernel
theorem dX10_word_9 : decode cX10_word 9 = .ok (.lload_n 1, 1) := by decide +kernel
theorem dX10_word_10 : decode cX10_word 10 = .ok (.invokevirtual 118, 3) := by decide +kernel
theorem dX10_word_13 : decode cX10_word 13 = .ok (.aload_n 0, 1) := by decide +kernel
theorem dX10_word_14 : decode cX10_word 14 = .ok (.getfield 54, 3) := by decide +kernel
theorem dX10_word_17 : decode cX10_word 17 = .ok (.invokestatic 122, 3) := by decide +kernel
theorem dX10_word_20 : decode cX10_word 20 = .ok (.goto 6, 3) := by decide +kernel
theorem dX10_word_23 : decode cX10_word 23 = .ok (.invokestatic 75, 3) := by decide +kernel
theorem dX10_word_26 : decode cX10_word 26 = .ok (.lreturn, 1) := by decide +kernel
set_option maxRecDepth 20000 in
theorem ggX10_fold_X10_all : GoodIn wsX10_fold wsX10_all := goodIn_r _ [6, 1, 17, 18, 19, 20, 21, 22, 23, 24, 25, 26, 27, 28, 29, 30, 31, 32, 33, 34, 35, 36, 37, 38, 39, 40, 41] (by decide +kernel) (by decide +kernel)
set_option maxRecDepth 20000 in
theorem gX10_fold_X10_all : GoodIn wsX10_fold (wsV RX10 126 RX10 yX10_all wsX10_all) := goodIn_app (goodIn_of _ (by decide +kernel)) ggX10_fold_X10_all
set_option maxRecDepth 20000 in
theorem ggX10_fold_X10_in : GoodIn wsX10_fold wsX10_in := goodIn_r _ [9] (by decide +kernel) (by decide +kernel)
set_option maxRecDepth 20000 in
theorem gX10_fold_X10_in : GoodIn wsX10_fold (va_wsS RX10 79 yX10_in wsX10_in) := goodIn_app (goodIn_of _ (by decide +kernel)) ggX10_fold_X10_in
set_option maxRecDepth 20000 in
theorem ggX10_fold_X10_folded : GoodIn wsX10_fold wsX10_folded := goodIn_r _ [12] (by decide +kernel) (by decide +kernel)
set_option maxRecDepth 20000 in
theorem gX10_fold_X10_folded : GoodIn wsX10_fold (va_wsS RX10 122 yX10_folded wsX10_folded) := goodIn_app (goodIn_of _ (by decide +kernel)) ggX10_fold_X10_folded
set_option maxRecDepth 20000 in
theorem ggX10_fold_X10_lost : GoodIn wsX10_fold wsX10_lost := goodIn_r _ [15, 16] (by decide +kernel) (by decide +kernel)
set_option maxRecDepth 20000 in
theorem gX10_fold_X10_lost : GoodIn wsX10_fold (va_wsS RX10 75 yX10_lost wsX10_lost) := goodIn_app (goodIn_of _ (by decide +kernel)) ggX10_fold_X10_lost
theorem dX10_fold_0 : decode cX10_fold 0 = .ok (.lload_n 1, 1) := by decide +kernel
theorem dX10_fold_1 : decode cX10_fold 1 = .ok (.lconst 0, 1) := by decide +kernel
theorem dX10_fold_2 : decode cX10_fold 2 = .ok (.aload_n 0, 1) := by decide +kernel
theorem dX10_fold_3 : decode cX10_fold 3 = .ok (.invokevirtual 126, 3) := by decide +kernel
theorem dX10_fold_6 : decode cX10_fold 6 = .ok (.invokestatic 79, 3) := by decide +kernel
theorem dX10_fold_9 : decode cX10_fold 9 = .ok (.ifCond .eq 14, 3) := by decide +kernel
theorem dX10_fold_12 : decode cX10_fold 12 = .ok (.lload_n 1, 1) := by decide +kernel
theorem dX10_fold_13 : decode cX10_fold 13 = .ok (.aload_n 0, 1) := by decide +kernel
theorem dX10_fold_14 : decode cX10_fold 14 = .ok (.getfield 54, 3) := by decide +kernel
theorem dX10_fold_17 : decode cX10_fold 17 = .ok (.invokestatic 122, 3) := by decide +kernel
theorem dX10_fold_20 : decode cX10_fold 20 = .ok (.goto 6, 3) := by decide +kernel
theorem dX10_fold_23 : decode cX10_fold 23 = .ok (.invokestatic 75, 3) := by decide +kernel
theorem dX10_fold_26 : decode cX10_fold 26 = .ok (.lreturn, 1) := by decide +kernel
set_option maxRecDepth 20000 in
theorem ggX10_noSheet_X10_in : GoodIn wsX10_noSheet wsX10_in := goodIn_r _ [5] (by decide +kernel) (by decide +kernel)
set_option maxRecDepth 20000 in
theorem gX10_noSheet_X10_in : GoodIn wsX10_noSheet (va_wsS RX10 79 yX10_in wsX10_in) := goodIn_app (goodIn_of _ (by decide +kernel)) ggX10_noSheet_X10_in
theorem dX10_noSheet_0 : decode cX10_noSheet 0 = .ok (.iload_n 0, 1) := by decide +kernel
theorem dX10_noSheet_1 : decode cX10_noSheet 1 = .ok (.i2l, 1) := by decide +kernel
theorem dX10_noSheet_2 : decode cX10_noSheet 2 = .ok (.lconst 0, 1) := by decide +kernel
theorem dX10_noSheet_3 : decode cX10_noSheet 3 = .ok (.ldc2_w 129, 3) := by decide +kernel
theorem dX10_noSheet_6 : decode cX10_noSheet 6 = .ok (.invokestatic 79, 3) := by decide +kernel
theorem dX10_noSheet_9 : decode cX10_noSheet 9 = .ok (.ifCond .ne 7, 3) := by decide +kernel
theorem dX10_noSheet_12 : decode cX10_noSheet 12 = .ok (.iconst 1, 1) := by decide +kernel
theorem dX10_noSheet_13 : decode cX10_noSheet 13 = .ok (.goto 4, 3) := by decide +kernel
theorem dX10_noSheet_16 : decode cX10_noSheet 16 = .ok (.iconst 0, 1) := by decide +kernel
theorem dX10_noSheet_17 : decode cX10_noSheet 17 = .ok (.ireturn, 1) := by decide +kernel
set_option maxRecDepth 20000 in
theorem ggX10_sheet_X10_noSheet : GoodIn wsX10_sheet wsX10_noSheet := goodIn_r _ [8, 9, 10, 11, 7, 12] (by decide +kernel) (by decide +kernel)
set_option maxRecDepth 20000 in
theorem gX10_sheet_X10_noSheet : GoodIn wsX10_sheet (va_wsS RX10 131 yX10_noSheet wsX10_noSheet) := goodIn_app (goodIn_of _ (by decide +kernel)) ggX10_sheet_X10_noSheet
set_option maxRecDepth 20000 in
theorem ggX10_sheet_X10_refused : GoodIn wsX10_sheet wsX10_refused := goodIn_r _ [16, 17, 22, 23, 24, 25, 26, 27, 28, 29, 30, 31, 32, 33, 34, 35, 36, 37, 38, 39, 40, 41, 42, 43, 44, 45, 46] (by decide +kernel) (by decide +kernel)
set_option maxRecDepth 20000 in
theorem gX10_sheet_X10_refused : GoodIn wsX10_sheet (wsV RX10 134 RX10 yX10_refused wsX10_refused) := goodIn_app (goodIn_of _ (by decide +kernel)) ggX10_sheet_X10_refused
set_option maxRecDepth 20000 in
theorem ggX10_sheet_X10_in : GoodIn wsX10_sheet wsX10_in := goodIn_r _ [12] (by decide +kernel) (by decide +kernel)
set_option maxRecDepth 20000 in
theorem gX10_sheet_X10_in : GoodIn wsX10_sheet (va_wsS RX10 79 yX10_in wsX10_in) := goodIn_app (goodIn_of _ (by decide +kernel)) ggX10_sheet_X10_in
set_option maxRecDepth 20000 in
theorem ggX10_sheet_X10_failed : GoodIn wsX10_sheet wsX10_failed := goodIn_r _ [21, 17, 22, 23, 24, 25, 26, 27, 28, 29, 30, 31, 32, 33, 34, 35, 36, 37, 38, 39, 40, 41, 42, 43, 44, 45, 46] (by decide +kernel) (by decide +kernel)
set_option maxRecDepth 20000 in
theorem gX10_sheet_X10_failed : GoodIn wsX10_sheet (wsV RX10 138 RX10 yX10_failed wsX10_failed) := goodIn_app (goodIn_of _ (by decide +kernel)) ggX10_sheet_X10_failed
theorem dX10_sheet_0 : decode cX10_sheet 0 = .ok (.iload_n 1, 1) := by decide +kernel
theorem dX10_sheet_1 : decode cX10_sheet 1 = .ok (.invokestatic 131, 3) := by decide +kernel
theorem dX10_sheet_4 : decode cX10_sheet 4 = .ok (.ifCond .eq 9, 3) := by decide +kernel
theorem dX10_sheet_7 : decode cX10_sheet 7 = .ok (.aload_n 0, 1) := by decide +kernel
theorem dX10_sheet_8 : decode cX10_sheet 8 = .ok (.iconst (-1), 1) := by decide +kernel
theorem dX10_sheet_9 : decode cX10_sheet 9 = .ok (.invokevirtual 134, 3) := by decide +kernel
theorem dX10_sheet_12 : decode cX10_sheet 12 = .ok (.ireturn, 1) := by decide +kernel
theorem dX10_sheet_13 : decode cX10_sheet 13 = .ok (.iload_n 2, 1) := by decide +kernel
theorem dX10_sheet_14 : decode cX10_sheet 14 = .ok (.i2l, 1) := by decide +kernel
theorem dX10_sheet_15 : decode cX10_sheet 15 = .ok (.lconst 0, 1) := by decide +kernel
theorem dX10_sheet_16 : decode cX10_sheet 16 = .ok (.ldc2_w 93, 3) := by decide +kernel
theorem dX10_sheet_19 : decode cX10_sheet 19 = .ok (.invokestatic 79, 3) := by decide +kernel
theorem dX10_sheet_22 : decode cX10_sheet 22 = .ok (.ifCond .eq 9, 3) := by decide +kernel
theorem dX10_sheet_25 : decode cX10_sheet 25 = .ok (.iload_n 3, 1) := by decide +kernel
theorem dX10_sheet_26 : decode cX10_sheet 26 = .ok (.bipush 40, 2) := by decide +kernel
theorem dX10_sheet_28 : decode cX10_sheet 28 = .ok (.if_icmp .le 10, 3) := by decide +kernel
theorem dX10_sheet_31 : decode cX10_sheet 31 = .ok (.aload_n 0, 1) := by decide +kernel
theorem dX10_sheet_32 : decode cX10_sheet 32 = .ok (.bipush (-2), 2) := by decide +kernel
theorem dX10_sheet_34 : decode cX10_sheet 34 = .ok (.invokevirtual 134, 3) := by decide +kernel
theorem dX10_sheet_37 : decode cX10_sheet 37 = .ok (.ireturn, 1) := by decide +kernel
theorem dX10_sheet_38 : decode cX10_sheet 38 = .ok (.iload_n 3, 1) := by decide +kernel
theorem dX10_sheet_39 : decode cX10_sheet 39 = .ok (.ifCond .ge 9, 3) := by decide +kernel
theorem dX10_sheet_42 : decode cX10_sheet 42 = .ok (.aload_n 0, 1) := by decide +kernel
theorem dX10_sheet_43 : decode cX10_sheet 43 = .ok (.iconst 4, 1) := by decide +kernel
theorem dX10_sheet_44 : decode cX10_sheet 44 = .ok (.invokevirtual 138, 3) := by decide +kernel
theorem dX10_sheet_47 : decode cX10_sheet 47 = .ok (.ireturn, 1) := by decide +kernel
theorem dX10_sheet_48 : decode cX10_sheet 48 = .ok (.aload_n 0, 1) := by decide +kernel
theorem dX10_sheet_49 : decode cX10_sheet 49 = .ok (.getfield 17, 3) := by decide +kernel
theorem dX10_sheet_52 : decode cX10_sheet 52 = .ok (.iload_n 1, 1) := by decide +kernel
theorem dX10_sheet_53 : decode cX10_sheet 53 = .ok (.iload_n 3, 1) := by decide +kernel
theorem dX10_sheet_54 : decode cX10_sheet 54 = .ok (.iastore, 1) := by decide +kernel
theorem dX10_sheet_55 : decode cX10_sheet 55 = .ok (.aload_n 0, 1) := by decide +kernel
theorem dX10_sheet_56 : decode cX10_sheet 56 = .ok (.getfield 20, 3) := by decide +kernel
theorem dX10_sheet_59 : decode cX10_sheet 59 = .ok (.iload_n 1, 1) := by decide +kernel
theorem dX10_sheet_60 : decode cX10_sheet 60 = .ok (.iload_n 2, 1) := by decide +kernel
theorem dX10_sheet_61 : decode cX10_sheet 61 = .ok (.iastore, 1) := by decide +kernel
theorem dX10_sheet_62 : decode cX10_sheet 62 = .ok (.iconst 0, 1) := by decide +kernel
theorem dX10_sheet_63 : decode cX10_sheet 63 = .ok (.istore 4, 2) := by decide +kernel
theorem dX10_sheet_65 : decode cX10_sheet 65 = .ok (.iload 4, 2) := by decide +kernel
theorem dX10_sheet_67 : decode cX10_sheet 67 = .ok (.iload_n 3, 1) := by decide +kernel
theorem dX10_sheet_68 : decode cX10_sheet 68 = .ok (.if_icmp .ge 22, 3) := by decide +kernel
theorem dX10_sheet_71 : decode cX10_sheet 71 = .ok (.aload_n 0, 1) := by decide +kernel
theorem dX10_sheet_72 : decode cX10_sheet 72 = .ok (.getfield 23, 3) := by decide +kernel
theorem dX10_sheet_75 : decode cX10_sheet 75 = .ok (.bipush 40, 2) := by decide +kernel
theorem dX10_sheet_77 : decode cX10_sheet 77 = .ok (.iload_n 1, 1) := by decide +kernel
theorem dX10_sheet_78 : decode cX10_sheet 78 = .ok (.imul, 1) := by decide +kernel
theorem dX10_sheet_79 : decode cX10_sheet 79 = .ok (.iload 4, 2) := by decide +kernel
theorem dX10_sheet_81 : decode cX10_sheet 81 = .ok (.iadd, 1) := by decide +kernel
theorem dX10_sheet_82 : decode cX10_sheet 82 = .ok (.lconst 0, 1) := by decide +kernel
theorem dX10_sheet_83 : decode cX10_sheet 83 = .ok (.lastore, 1) := by decide +kernel
theorem dX10_sheet_84 : decode cX10_sheet 84 = .ok (.iinc 4 1, 3) := by decide +kernel
theorem dX10_sheet_87 : decode cX10_sheet 87 = .ok (.goto (-22), 3) := by decide +kernel
theorem dX10_sheet_90 : decode cX10_sheet 90 = .ok (.aload_n 0, 1) := by decide +kernel
theorem dX10_sheet_91 : decode cX10_sheet 91 = .ok (.iconst 1, 1) := by decide +kernel
theorem dX10_sheet_92 : decode cX10_sheet 92 = .ok (.invokevirtual 134, 3) := by decide +kernel
theorem dX10_sheet_95 : decode cX10_sheet 95 = .ok (.ireturn, 1) := by decide +kernel
set_option maxRecDepth 20000 in
theorem ggX10_lose_X10_noSheet : GoodIn wsX10_lose wsX10_noSheet := goodIn_r _ [5, 6, 7, 8, 4, 9] (by decide +kernel) (by decide +kernel)
set_option maxRecDepth 20000 in
theorem gX10_lose_X10_noSheet : GoodIn wsX10_lose (va_wsS RX10 131 yX10_noSheet wsX10_noSheet) := goodIn_app (goodIn_of _ (by decide +kernel)) ggX10_lose_X10_noSheet
theorem dX10_lose_0 : decode cX10_lose 0 = .ok (.iload_n 1, 1) := by decide +kernel
theorem dX10_lose_1 : decode cX10_lose 1 = .ok (.invokestatic 131, 3) := by decide +kernel
theorem dX10_lose_4 : decode cX10_lose 4 = .ok (.ifCond .eq 5, 3) := by decide +kernel
theorem dX10_lose_7 : decode cX10_lose 7 = .ok (.iconst (-1), 1) := by decide +kernel
theorem dX10_lose_8 : decode cX10_lose 8 = .ok (.ireturn, 1) := by decide +kernel
theorem dX10_lose_9 : decode cX10_lose 9 = .ok (.aload_n 0, 1) := by decide +kernel
theorem dX10_lose_10 : decode cX10_lose 10 = .ok (.getfield 17, 3) := by decide +kernel
theorem dX10_lose_13 : decode cX10_lose 13 = .ok (.iload_n 1, 1) := by decide +kernel
theorem dX10_lose_14 : decode cX10_lose 14 = .ok (.iaload, 1) := by decide +kernel
theorem dX10_lose_15 : decode cX10_lose 15 = .ok (.ifCond .ge 7, 3) := by decide +kernel
theorem dX10_lose_18 : decode cX10_lose 18 = .ok (.iconst 0, 1) := by decide +kernel
theorem dX10_lose_19 : decode cX10_lose 19 = .ok (.goto 4, 3) := by decide +kernel
theorem dX10_lose_22 : decode cX10_lose 22 = .ok (.iconst 1, 1) := by decide +kernel
theorem dX10_lose_23 : decode cX10_lose 23 = .ok (.istore_n 2, 1) := by decide +kernel
theorem dX10_lose_24 : decode cX10_lose 24 = .ok (.aload_n 0, 1) := by decide +kernel
theorem dX10_lose_25 : decode cX10_lose 25 = .ok (.getfield 17, 3) := by decide +kernel
theorem dX10_lose_28 : decode cX10_lose 28 = .ok (.iload_n 1, 1) := by decide +kernel
theorem dX10_lose_29 : decode cX10_lose 29 = .ok (.iconst (-1), 1) := by decide +kernel
theorem dX10_lose_30 : decode cX10_lose 30 = .ok (.iastore, 1) := by decide +kernel
theorem dX10_lose_31 : decode cX10_lose 31 = .ok (.iload_n 2, 1) := by decide +kernel
theorem dX10_lose_32 : decode cX10_lose 32 = .ok (.ireturn, 1) := by decide +kernel
set_option maxRecDepth 20000 in
theorem ggX10_noCell_X10_in : GoodIn wsX10_noCell wsX10_in := goodIn_r _ [5] (by decide +kernel) (by decide +kernel)
set_option maxRecDepth 20000 in
theorem gX10_noCell_X10_in : GoodIn wsX10_noCell (va_wsS RX10 79 yX10_in wsX10_in) := goodIn_app (goodIn_of _ (by decide +kernel)) ggX10_noCell_X10_in
theorem dX10_noCell_0 : decode cX10_noCell 0 = .ok (.aload_n 0, 1) := by decide +kernel
theorem dX10_noCell_1 : decode cX10_noCell 1 = .ok (.getfield 17, 3) := by decide +kernel
theorem dX10_noCell_4 : decode cX10_noCell 4 = .ok (.iload_n 1, 1) := by decide +kernel
theorem dX10_noCell_5 : decode cX10_noCell 5 = .ok (.iaload, 1) := by decide +kernel
theorem dX10_noCell_6 : decode cX10_noCell 6 = .ok (.ifCond .ge 7, 3) := by decide +kernel
theorem dX10_noCell_9 : decode cX10_noCell 9 = .ok (.iconst 1, 1) := by decide +kernel
theorem dX10_noCell_10 : decode cX10_noCell 10 = .ok (.goto 26, 3) := by decide +kernel
theorem dX10_noCell_13 : decode cX10_noCell 13 = .ok (.iload_n 2, 1) := by decide +kernel
theorem dX10_noCell_14 : decode cX10_noCell 14 = .ok (.i2l, 1) := by decide +kernel
theorem dX10_noCell_15 : decode cX10_noCell 15 = .ok (.lconst 0, 1) := by decide +kernel
theorem dX10_noCell_16 : decode cX10_noCell 16 = .ok (.aload_n 0, 1) := by decide +kernel
theorem dX10_noCell_17 : decode cX10_noCell 17 = .ok (.getfield 17, 3) := by decide +kernel
theorem dX10_noCell_20 : decode cX10_noCell 20 = .ok (.iload_n 1, 1) := by decide +kernel
theorem dX10_noCell_21 : decode cX10_noCell 21 = .ok (.iaload, 1) := by decide +kernel
theorem dX10_noCell_22 : decode cX10_noCell 22 = .ok (.i2l, 1) := by decide +kernel
theorem dX10_noCell_23 : decode cX10_noCell 23 = .ok (.lconst 1, 1) := by decide +kernel
theorem dX10_noCell_24 : decode cX10_noCell 24 = .ok (.lsub, 1) := by decide +kernel
theorem dX10_noCell_25 : decode cX10_noCell 25 = .ok (.invokestatic 79, 3) := by decide +kernel
theorem dX10_noCell_28 : decode cX10_noCell 28 = .ok (.ifCond .eq 7, 3) := by decide +kernel
theorem dX10_noCell_31 : decode cX10_noCell 31 = .ok (.iconst 0, 1) := by decide +kernel
theorem dX10_noCell_32 : decode cX10_noCell 32 = .ok (.goto 4, 3) := by decide +kernel
theorem dX10_noCell_35 : decode cX10_noCell 35 = .ok (.iconst 3, 1) := by decide +kernel
theorem dX10_noCell_36 : decode cX10_noCell 36 = .ok (.ireturn, 1) := by decide +kernel
set_option maxRecDepth 20000 in
theorem ggX10_put_X10_noSheet : GoodIn wsX10_put wsX10_noSheet := goodIn_r _ [6, 7, 8, 9, 5, 10] (by decide +kernel) (by decide +kernel)
set_option maxRecDepth 20000 in
theorem gX10_put_X10_noSheet : GoodIn wsX10_put (va_wsS RX10 131 yX10_noSheet wsX10_noSheet) := goodIn_app (goodIn_of _ (by decide +kernel)) ggX10_put_X10_noSheet
set_option maxRecDepth 20000 in
theorem ggX10_put_X10_refused : GoodIn wsX10_put wsX10_refused := goodIn_r _ [14, 15, 25, 26, 27, 28, 29, 30, 31, 32, 33, 34, 35, 36, 37, 38, 39, 40, 41, 42, 43, 44, 45, 46, 47, 48, 49] (by decide +kernel) (by decide +kernel)
set_option maxRecDepth 20000 in
theorem gX10_put_X10_refused : GoodIn wsX10_put (wsV RX10 134 RX10 yX10_refused wsX10_refused) := goodIn_app (goodIn_of _ (by decide +kernel)) ggX10_put_X10_refused
set_option maxRecDepth 20000 in
theorem ggX10_put_X10_noCell : GoodIn wsX10_put wsX10_noCell := goodIn_r _ [19, 20, 8, 9, 5, 10, 25, 26, 27, 28, 29, 30, 31, 32, 33, 34, 35, 36, 37, 38, 39, 40, 41, 42, 43, 44, 45, 46, 47, 48, 49] (by decide +kernel) (by decide +kernel)
set_option maxRecDepth 20000 in
theorem gX10_put_X10_noCell : GoodIn wsX10_put (wsV RX10 141 RX10 yX10_noCell wsX10_noCell) := goodIn_app (goodIn_of _ (by decide +kernel)) ggX10_put_X10_noCell
set_option maxRecDepth 20000 in
theorem ggX10_put_X10_failed : GoodIn wsX10_put wsX10_failed := goodIn_r _ [24, 15, 25, 26, 27, 28, 29, 30, 31, 32, 33, 34, 35, 36, 37, 38, 39, 40, 41, 42, 43, 44, 45, 46, 47, 48, 49] (by decide +kernel) (by decide +kernel)
set_option maxRecDepth 20000 in
theorem gX10_put_X10_failed : GoodIn wsX10_put (wsV RX10 138 RX10 yX10_failed wsX10_failed) := goodIn_app (goodIn_of _ (by decide +kernel)) ggX10_put_X10_failed
theorem dX10_put_0 : decode cX10_put 0 = .ok (.iload_n 1, 1) := by decide +kernel
theorem dX10_put_1 : decode cX10_put 1 = .ok (.invokestatic 131, 3) := by decide +kernel
theorem dX10_put_4 : decode cX10_put 4 = .ok (.ifCond .eq 9, 3) := by decide +kernel
theorem dX10_put_7 : decode cX10_put 7 = .ok (.aload_n 0, 1) := by decide +kernel
theorem dX10_put_8 : decode cX10_put 8 = .ok (.iconst (-1), 1) := by decide +kernel
theorem dX10_put_9 : decode cX10_put 9 = .ok (.invokevirtual 134, 3) := by decide +kernel
theorem dX10_put_12 : decode cX10_put 12 = .ok (.ireturn, 1) := by decide +kernel
theorem dX10_put_13 : decode cX10_put 13 = .ok (.aload_n 0, 1) := by decide +kernel
theorem dX10_put_14 : decode cX10_put 14 = .ok (.iload_n 1, 1) := by decide +kernel
theorem dX10_put_15 : decode cX10_put 15 = .ok (.iload_n 2, 1) := by decide +kernel
theorem dX10_put_16 : decode cX10_put 16 = .ok (.invokevirtual 141, 3) := by decide +kernel
theorem dX10_put_19 : decode cX10_put 19 = .ok (.ifCond .le 14, 3) := by decide +kernel
theorem dX10_put_22 : decode cX10_put 22 = .ok (.aload_n 0, 1) := by decide +kernel
theorem dX10_put_23 : decode cX10_put 23 = .ok (.aload_n 0, 1) := by decide +kernel
theorem dX10_put_24 : decode cX10_put 24 = .ok (.iload_n 1, 1) := by decide +kernel
theorem dX10_put_25 : decode cX10_put 25 = .ok (.iload_n 2, 1) := by decide +kernel
theorem dX10_put_26 : decode cX10_put 26 = .ok (.invokevirtual 141, 3) := by decide +kernel
theorem dX10_put_29 : decode cX10_put 29 = .ok (.invokevirtual 138, 3) := by decide +kernel
theorem dX10_put_32 : decode cX10_put 32 = .ok (.ireturn, 1) := by decide +kernel
theorem dX10_put_33 : decode cX10_put 33 = .ok (.aload_n 0, 1) := by decide +kernel
theorem dX10_put_34 : decode cX10_put 34 = .ok (.getfield 23, 3) := by decide +kernel
theorem dX10_put_37 : decode cX10_put 37 = .ok (.bipush 40, 2) := by decide +kernel
theorem dX10_put_39 : decode cX10_put 39 = .ok (.iload_n 1, 1) := by decide +kernel
theorem dX10_put_40 : decode cX10_put 40 = .ok (.imul, 1) := by decide +kernel
theorem dX10_put_41 : decode cX10_put 41 = .ok (.iload_n 2, 1) := by decide +kernel
theorem dX10_put_42 : decode cX10_put 42 = .ok (.iadd, 1) := by decide +kernel
theorem dX10_put_43 : decode cX10_put 43 = .ok (.aload_n 0, 1) := by decide +kernel
theorem dX10_put_44 : decode cX10_put 44 = .ok (.getfield 20, 3) := by decide +kernel
theorem dX10_put_47 : decode cX10_put 47 = .ok (.iload_n 1, 1) := by decide +kernel
theorem dX10_put_48 : decode cX10_put 48 = .ok (.iaload, 1) := by decide +kernel
theorem dX10_put_49 : decode cX10_put 49 = .ok (.ifCond .ne 10, 3) := by decide +kernel
theorem dX10_put_52 : decode cX10_put 52 = .ok (.lload_n 3, 1) := by decide +kernel
theorem dX10_put_53 : decode cX10_put 53 = .ok (.l2i, 1) := by decide +kernel
theorem dX10_put_54 : decode cX10_put 54 = .ok (.i2b, 1) := by decide +kernel
theorem dX10_put_55 : decode cX10_put 55 = .ok (.i2l, 1) := by decide +kernel
theorem dX10_put_56 : decode cX10_put 56 = .ok (.goto 20, 3) := by decide +kernel
theorem dX10_put_59 : decode cX10_put 59 = .ok (.aload_n 0, 1) := by decide +kernel
theorem dX10_put_60 : decode cX10_put 60 = .ok (.getfield 20, 3) := by decide +kernel
theorem dX10_put_63 : decode cX10_put 63 = .ok (.iload_n 1, 1) := by decide +kernel
theorem dX10_put_64 : decode cX10_put 64 = .ok (.iaload, 1) := by decide +kernel
theorem dX10_put_65 : decode cX10_put 65 = .ok (.iconst 1, 1) := by decide +kernel
theorem dX10_put_66 : decode cX10_put 66 = .ok (.if_icmp .ne 9, 3) := by decide +kernel
theorem dX10_put_69 : decode cX10_put 69 = .ok (.lload_n 3, 1) := by decide +kernel
theorem dX10_put_70 : decode cX10_put 70 = .ok (.l2i, 1) := by decide +kernel
theorem dX10_put_71 : decode cX10_put 71 = .ok (.i2l, 1) := by decide +kernel
theorem dX10_put_72 : decode cX10_put 72 = .ok (.goto 4, 3) := by decide +kernel
theorem dX10_put_75 : decode cX10_put 75 = .ok (.lload_n 3, 1) := by decide +kernel
theorem dX10_put_76 : decode cX10_put 76 = .ok (.lastore, 1) := by decide +kernel
theorem dX10_put_77 : decode cX10_put 77 = .ok (.aload_n 0, 1) := by decide +kernel
theorem dX10_put_78 : decode cX10_put 78 = .ok (.iconst 1, 1) := by decide +kernel
theorem dX10_put_79 : decode cX10_put 79 = .ok (.invokevirtual 134, 3) := by decide +kernel
theorem dX10_put_82 : decode cX10_put 82 = .ok (.ireturn, 1) := by decide +kernel
set_option maxRecDepth 20000 in
theorem ggX10_cell_X10_noSheet : GoodIn wsX10_cell wsX10_noSheet := goodIn_r _ [9, 10, 11, 12, 8, 13] (by decide +kernel) (by decide +kernel)
set_option maxRecDepth 20000 in
theorem gX10_cell_X10_noSheet : GoodIn wsX10_cell (va_wsS RX10 131 yX10_noSheet wsX10_noSheet) := goodIn_app (goodIn_of _ (by decide +kernel)) ggX10_cell_X10_noSheet
set_option maxRecDepth 20000 in
theorem ggX10_cell_X10_in : GoodIn wsX10_cell wsX10_in := goodIn_r _ [13] (by decide +kernel) (by decide +kernel)
set_option maxRecDepth 20000 in
theorem gX10_cell_X10_in : GoodIn wsX10_cell (va_wsS RX10 79 yX10_in wsX10_in) := goodIn_app (goodIn_of _ (by decide +kernel)) ggX10_cell_X10_in
set_option maxRecDepth 20000 in
theorem ggX10_cell_X10_lost : GoodIn wsX10_cell wsX10_lost := goodIn_r _ [16, 17] (by decide +kernel) (by decide +kernel)
set_option maxRecDepth 20000 in
theorem gX10_cell_X10_lost : GoodIn wsX10_cell (va_wsS RX10 75 yX10_lost wsX10_lost) := goodIn_app (goodIn_of _ (by decide +kernel)) ggX10_cell_X10_lost
set_option maxRecDepth 20000 in
theorem ggX10_cell_X10_failedLong : GoodIn wsX10_cell wsX10_failedLong := goodIn_r _ [21, 1, 14, 15, 8, 16, 17, 26, 27, 28, 29, 30, 31, 32, 33, 34, 35, 36, 37, 38, 39, 40, 41, 42, 43, 44, 45, 46, 47, 48, 49, 50] (by decide +kernel) (by decide +kernel)
set_option maxRecDepth 20000 in
theorem gX10_cell_X10_failedLong : GoodIn wsX10_cell (wsV RX10 145 RX10 yX10_failedLong wsX10_failedLong) := goodIn_app (goodIn_of _ (by decide +kernel)) ggX10_cell_X10_failedLong
set_option maxRecDepth 20000 in
theorem ggX10_cell_X10_noCell : GoodIn wsX10_cell wsX10_noCell := goodIn_r _ [25, 3, 11, 12, 8, 13, 26, 27, 28, 29, 30, 31, 32, 33, 34, 35, 36, 37, 38, 39, 40, 41, 42, 43, 44, 45, 46, 47, 48, 49, 50] (by decide +kernel) (by decide +kernel)
set_option maxRecDepth 20000 in
theorem gX10_cell_X10_noCell : GoodIn wsX10_cell (wsV RX10 141 RX10 yX10_noCell wsX10_noCell) := goodIn_app (goodIn_of _ (by decide +kernel)) ggX10_cell_X10_noCell
theorem dX10_cell_0 : decode cX10_cell 0 = .ok (.aload_n 0, 1) := by decide +kernel
theorem dX10_cell_1 : decode cX10_cell 1 = .ok (.iconst 0, 1) := by decide +kernel
theorem dX10_cell_2 : decode cX10_cell 2 = .ok (.putfield 72, 3) := by decide +kernel
theorem dX10_cell_5 : decode cX10_cell 5 = .ok (.iload_n 1, 1) := by decide +kernel
theorem dX10_cell_6 : decode cX10_cell 6 = .ok (.invokestatic 131, 3) := by decide +kernel
theorem dX10_cell_9 : decode cX10_cell 9 = .ok (.ifCond .ne 15, 3) := by decide +kernel
theorem dX10_cell_12 : decode cX10_cell 12 = .ok (.iload_n 3, 1) := by decide +kernel
theorem dX10_cell_13 : decode cX10_cell 13 = .ok (.i2l, 1) := by decide +kernel
theorem dX10_cell_14 : decode cX10_cell 14 = .ok (.lconst 0, 1) := by decide +kernel
theorem dX10_cell_15 : decode cX10_cell 15 = .ok (.ldc2_w 93, 3) := by decide +kernel
theorem dX10_cell_18 : decode cX10_cell 18 = .ok (.invokestatic 79, 3) := by decide +kernel
theorem dX10_cell_21 : decode cX10_cell 21 = .ok (.ifCond .ne 7, 3) := by decide +kernel
theorem dX10_cell_24 : decode cX10_cell 24 = .ok (.invokestatic 75, 3) := by decide +kernel
theorem dX10_cell_27 : decode cX10_cell 27 = .ok (.lreturn, 1) := by decide +kernel
theorem dX10_cell_28 : decode cX10_cell 28 = .ok (.aload_n 0, 1) := by decide +kernel
theorem dX10_cell_29 : decode cX10_cell 29 = .ok (.getfield 17, 3) := by decide +kernel
theorem dX10_cell_32 : decode cX10_cell 32 = .ok (.iload_n 1, 1) := by decide +kernel
theorem dX10_cell_33 : decode cX10_cell 33 = .ok (.iaload, 1) := by decide +kernel
theorem dX10_cell_34 : decode cX10_cell 34 = .ok (.ifCond .lt 19, 3) := by decide +kernel
theorem dX10_cell_37 : decode cX10_cell 37 = .ok (.aload_n 0, 1) := by decide +kernel
theorem dX10_cell_38 : decode cX10_cell 38 = .ok (.getfield 20, 3) := by decide +kernel
theorem dX10_cell_41 : decode cX10_cell 41 = .ok (.iload_n 1, 1) := by decide +kernel
