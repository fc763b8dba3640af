set_option maxRecDepth 20000 in
theorem ggX7_turnAcross_X7_multiplyOut : GoodIn wsX7_turnAcross wsX7_multiplyOut := goodIn_r _ [12, 3, 4, 5, 6, 7, 13, 14, 15, 16, 17, 18, 19, 20, 21, 22] (by decide +kernel) (by decide +kernel)
set_option maxRecDepth 20000 in
theorem gX7_turnAcross_X7_multiplyOut : GoodIn wsX7_turnAcross (wsV RX7 112 RX7 yX7_multiplyOut wsX7_multiplyOut) := goodIn_app (goodIn_of _ (by decide +kernel)) ggX7_turnAcross_X7_multiplyOut
theorem dX7_turnAcross_0 : decode cX7_turnAcross 0 = .ok (.aload_n 0, 1) := by decide +kernel
theorem dX7_turnAcross_1 : decode cX7_turnAcross 1 = .ok (.getfield 15, 3) := by decide +kernel
theorem dX7_turnAcross_4 : decode cX7_turnAcross 4 = .ok (.iconst 0, 1) := by decide +kernel
theorem dX7_turnAcross_5 : decode cX7_turnAcross 5 = .ok (.invokestatic 93, 3) := by decide +kernel
theorem dX7_turnAcross_8 : decode cX7_turnAcross 8 = .ok (.iconst 0, 1) := by decide +kernel
theorem dX7_turnAcross_9 : decode cX7_turnAcross 9 = .ok (.istore_n 3, 1) := by decide +kernel
theorem dX7_turnAcross_10 : decode cX7_turnAcross 10 = .ok (.iload_n 3, 1) := by decide +kernel
theorem dX7_turnAcross_11 : decode cX7_turnAcross 11 = .ok (.iload_n 1, 1) := by decide +kernel
theorem dX7_turnAcross_12 : decode cX7_turnAcross 12 = .ok (.if_icmp .gt 63, 3) := by decide +kernel
theorem dX7_turnAcross_15 : decode cX7_turnAcross 15 = .ok (.aload_n 0, 1) := by decide +kernel
theorem dX7_turnAcross_16 : decode cX7_turnAcross 16 = .ok (.getfield 25, 3) := by decide +kernel
theorem dX7_turnAcross_19 : decode cX7_turnAcross 19 = .ok (.iload_n 3, 1) := by decide +kernel
theorem dX7_turnAcross_20 : decode cX7_turnAcross 20 = .ok (.iaload, 1) := by decide +kernel
theorem dX7_turnAcross_21 : decode cX7_turnAcross 21 = .ok (.ifCond .eq 48, 3) := by decide +kernel
theorem dX7_turnAcross_24 : decode cX7_turnAcross 24 = .ok (.aload_n 0, 1) := by decide +kernel
theorem dX7_turnAcross_25 : decode cX7_turnAcross 25 = .ok (.iload_n 3, 1) := by decide +kernel
theorem dX7_turnAcross_26 : decode cX7_turnAcross 26 = .ok (.iload_n 1, 1) := by decide +kernel
theorem dX7_turnAcross_27 : decode cX7_turnAcross 27 = .ok (.invokevirtual 112, 3) := by decide +kernel
theorem dX7_turnAcross_30 : decode cX7_turnAcross 30 = .ok (.iconst 0, 1) := by decide +kernel
theorem dX7_turnAcross_31 : decode cX7_turnAcross 31 = .ok (.istore 4, 2) := by decide +kernel
theorem dX7_turnAcross_33 : decode cX7_turnAcross 33 = .ok (.iload 4, 2) := by decide +kernel
theorem dX7_turnAcross_35 : decode cX7_turnAcross 35 = .ok (.iload_n 1, 1) := by decide +kernel
theorem dX7_turnAcross_36 : decode cX7_turnAcross 36 = .ok (.if_icmp .gt 33, 3) := by decide +kernel
theorem dX7_turnAcross_39 : decode cX7_turnAcross 39 = .ok (.aload_n 0, 1) := by decide +kernel
theorem dX7_turnAcross_40 : decode cX7_turnAcross 40 = .ok (.getfield 15, 3) := by decide +kernel
theorem dX7_turnAcross_43 : decode cX7_turnAcross 43 = .ok (.iload 4, 2) := by decide +kernel
theorem dX7_turnAcross_45 : decode cX7_turnAcross 45 = .ok (.dup2, 1) := by decide +kernel
theorem dX7_turnAcross_46 : decode cX7_turnAcross 46 = .ok (.iaload, 1) := by decide +kernel
theorem dX7_turnAcross_47 : decode cX7_turnAcross 47 = .ok (.aload_n 0, 1) := by decide +kernel
theorem dX7_turnAcross_48 : decode cX7_turnAcross 48 = .ok (.getfield 25, 3) := by decide +kernel
theorem dX7_turnAcross_51 : decode cX7_turnAcross 51 = .ok (.iload_n 3, 1) := by decide +kernel
theorem dX7_turnAcross_52 : decode cX7_turnAcross 52 = .ok (.iaload, 1) := by decide +kernel
theorem dX7_turnAcross_53 : decode cX7_turnAcross 53 = .ok (.aload_n 0, 1) := by decide +kernel
theorem dX7_turnAcross_54 : decode cX7_turnAcross 54 = .ok (.getfield 28, 3) := by decide +kernel
theorem dX7_turnAcross_57 : decode cX7_turnAcross 57 = .ok (.iload 4, 2) := by decide +kernel
theorem dX7_turnAcross_59 : decode cX7_turnAcross 59 = .ok (.iaload, 1) := by decide +kernel
theorem dX7_turnAcross_60 : decode cX7_turnAcross 60 = .ok (.imul, 1) := by decide +kernel
theorem dX7_turnAcross_61 : decode cX7_turnAcross 61 = .ok (.iadd, 1) := by decide +kernel
theorem dX7_turnAcross_62 : decode cX7_turnAcross 62 = .ok (.iastore, 1) := by decide +kernel
theorem dX7_turnAcross_63 : decode cX7_turnAcross 63 = .ok (.iinc 4 1, 3) := by decide +kernel
theorem dX7_turnAcross_66 : decode cX7_turnAcross 66 = .ok (.goto (-33), 3) := by decide +kernel
theorem dX7_turnAcross_69 : decode cX7_turnAcross 69 = .ok (.iinc 3 1, 3) := by decide +kernel
theorem dX7_turnAcross_72 : decode cX7_turnAcross 72 = .ok (.goto (-62), 3) := by decide +kernel
theorem dX7_turnAcross_75 : decode cX7_turnAcross 75 = .ok (.iconst 0, 1) := by decide +kernel
theorem dX7_turnAcross_76 : decode cX7_turnAcross 76 = .ok (.istore_n 3, 1) := by decide +kernel
theorem dX7_turnAcross_77 : decode cX7_turnAcross 77 = .ok (.iload_n 3, 1) := by decide +kernel
theorem dX7_turnAcross_78 : decode cX7_turnAcross 78 = .ok (.iload_n 1, 1) := by decide +kernel
theorem dX7_turnAcross_79 : decode cX7_turnAcross 79 = .ok (.if_icmp .gt 19, 3) := by decide +kernel
theorem dX7_turnAcross_82 : decode cX7_turnAcross 82 = .ok (.aload_n 0, 1) := by decide +kernel
theorem dX7_turnAcross_83 : decode cX7_turnAcross 83 = .ok (.getfield 15, 3) := by decide +kernel
theorem dX7_turnAcross_86 : decode cX7_turnAcross 86 = .ok (.iload_n 3, 1) := by decide +kernel
theorem dX7_turnAcross_87 : decode cX7_turnAcross 87 = .ok (.dup2, 1) := by decide +kernel
theorem dX7_turnAcross_88 : decode cX7_turnAcross 88 = .ok (.iaload, 1) := by decide +kernel
theorem dX7_turnAcross_89 : decode cX7_turnAcross 89 = .ok (.iload_n 2, 1) := by decide +kernel
theorem dX7_turnAcross_90 : decode cX7_turnAcross 90 = .ok (.ishr, 1) := by decide +kernel
theorem dX7_turnAcross_91 : decode cX7_turnAcross 91 = .ok (.iastore, 1) := by decide +kernel
theorem dX7_turnAcross_92 : decode cX7_turnAcross 92 = .ok (.iinc 3 1, 3) := by decide +kernel
theorem dX7_turnAcross_95 : decode cX7_turnAcross 95 = .ok (.goto (-18), 3) := by decide +kernel
theorem dX7_turnAcross_98 : decode cX7_turnAcross 98 = .ok (.return_, 1) := by decide +kernel
set_option maxRecDepth 20000 in
theorem ggX7_multiplyOut_J7_fill_53178 : GoodIn wsX7_multiplyOut wsJ7_fill_53178 := goodIn_r _ [5] (by decide +kernel) (by decide +kernel)
set_option maxRecDepth 20000 in
theorem gX7_multiplyOut_J7_fill_53178 : GoodIn wsX7_multiplyOut (va_wsS RX7 93 yJ7_fill_53178 wsJ7_fill_53178) := goodIn_app (goodIn_of _ (by decide +kernel)) ggX7_multiplyOut_J7_fill_53178
theorem dX7_multiplyOut_0 : decode cX7_multiplyOut 0 = .ok (.aload_n 0, 1) := by decide +kernel
theorem dX7_multiplyOut_1 : decode cX7_multiplyOut 1 = .ok (.getfield 28, 3) := by decide +kernel
theorem dX7_multiplyOut_4 : decode cX7_multiplyOut 4 = .ok (.iconst 0, 1) := by decide +kernel
theorem dX7_multiplyOut_5 : decode cX7_multiplyOut 5 = .ok (.invokestatic 93, 3) := by decide +kernel
theorem dX7_multiplyOut_8 : decode cX7_multiplyOut 8 = .ok (.aload_n 0, 1) := by decide +kernel
theorem dX7_multiplyOut_9 : decode cX7_multiplyOut 9 = .ok (.getfield 28, 3) := by decide +kernel
theorem dX7_multiplyOut_12 : decode cX7_multiplyOut 12 = .ok (.iconst 0, 1) := by decide +kernel
theorem dX7_multiplyOut_13 : decode cX7_multiplyOut 13 = .ok (.iconst 1, 1) := by decide +kernel
theorem dX7_multiplyOut_14 : decode cX7_multiplyOut 14 = .ok (.iastore, 1) := by decide +kernel
theorem dX7_multiplyOut_15 : decode cX7_multiplyOut 15 = .ok (.iconst 0, 1) := by decide +kernel
theorem dX7_multiplyOut_16 : decode cX7_multiplyOut 16 = .ok (.istore_n 3, 1) := by decide +kernel
theorem dX7_multiplyOut_17 : decode cX7_multiplyOut 17 = .ok (.iload_n 3, 1) := by decide +kernel
theorem dX7_multiplyOut_18 : decode cX7_multiplyOut 18 = .ok (.iload_n 2, 1) := by decide +kernel
theorem dX7_multiplyOut_19 : decode cX7_multiplyOut 19 = .ok (.if_icmp .ge 63, 3) := by decide +kernel
theorem dX7_multiplyOut_22 : decode cX7_multiplyOut 22 = .ok (.iload_n 3, 1) := by decide +kernel
theorem dX7_multiplyOut_23 : decode cX7_multiplyOut 23 = .ok (.iconst 1, 1) := by decide +kernel
theorem dX7_multiplyOut_24 : decode cX7_multiplyOut 24 = .ok (.iadd, 1) := by decide +kernel
theorem dX7_multiplyOut_25 : decode cX7_multiplyOut 25 = .ok (.istore 4, 2) := by decide +kernel
theorem dX7_multiplyOut_27 : decode cX7_multiplyOut 27 = .ok (.iload 4, 2) := by decide +kernel
theorem dX7_multiplyOut_29 : decode cX7_multiplyOut 29 = .ok (.iconst 1, 1) := by decide +kernel
theorem dX7_multiplyOut_30 : decode cX7_multiplyOut 30 = .ok (.if_icmp .lt 46, 3) := by decide +kernel
theorem dX7_multiplyOut_33 : decode cX7_multiplyOut 33 = .ok (.aload_n 0, 1) := by decide +kernel
theorem dX7_multiplyOut_34 : decode cX7_multiplyOut 34 = .ok (.getfield 28, 3) := by decide +kernel
theorem dX7_multiplyOut_37 : decode cX7_multiplyOut 37 = .ok (.iload 4, 2) := by decide +kernel
theorem dX7_multiplyOut_39 : decode cX7_multiplyOut 39 = .ok (.dup2, 1) := by decide +kernel
theorem dX7_multiplyOut_40 : decode cX7_multiplyOut 40 = .ok (.iaload, 1) := by decide +kernel
theorem dX7_multiplyOut_41 : decode cX7_multiplyOut 41 = .ok (.iload_n 3, 1) := by decide +kernel
theorem dX7_multiplyOut_42 : decode cX7_multiplyOut 42 = .ok (.iload_n 1, 1) := by decide +kernel
theorem dX7_multiplyOut_43 : decode cX7_multiplyOut 43 = .ok (.if_icmp .ge 16, 3) := by decide +kernel
theorem dX7_multiplyOut_46 : decode cX7_multiplyOut 46 = .ok (.aload_n 0, 1) := by decide +kernel
theorem dX7_multiplyOut_47 : decode cX7_multiplyOut 47 = .ok (.getfield 28, 3) := by decide +kernel
theorem dX7_multiplyOut_50 : decode cX7_multiplyOut 50 = .ok (.iload 4, 2) := by decide +kernel
theorem dX7_multiplyOut_52 : decode cX7_multiplyOut 52 = .ok (.iconst 1, 1) := by decide +kernel
theorem dX7_multiplyOut_53 : decode cX7_multiplyOut 53 = .ok (.isub, 1) := by decide +kernel
theorem dX7_multiplyOut_54 : decode cX7_multiplyOut 54 = .ok (.iaload, 1) := by decide +kernel
theorem dX7_multiplyOut_55 : decode cX7_multiplyOut 55 = .ok (.ineg, 1) := by decide +kernel
theorem dX7_multiplyOut_56 : decode cX7_multiplyOut 56 = .ok (.goto 12, 3) := by decide +kernel
theorem dX7_multiplyOut_59 : decode cX7_multiplyOut 59 = .ok (.aload_n 0, 1) := by decide +kernel
theorem dX7_multiplyOut_60 : decode cX7_multiplyOut 60 = .ok (.getfield 28, 3) := by decide +kernel
theorem dX7_multiplyOut_63 : decode cX7_multiplyOut 63 = .ok (.iload 4, 2) := by decide +kernel
theorem dX7_multiplyOut_65 : decode cX7_multiplyOut 65 = .ok (.iconst 1, 1) := by decide +kernel
theorem dX7_multiplyOut_66 : decode cX7_multiplyOut 66 = .ok (.isub, 1) := by decide +kernel
theorem dX7_multiplyOut_67 : decode cX7_multiplyOut 67 = .ok (.iaload, 1) := by decide +kernel
theorem dX7_multiplyOut_68 : decode cX7_multiplyOut 68 = .ok (.iadd, 1) := by decide +kernel
theorem dX7_multiplyOut_69 : decode cX7_multiplyOut 69 = .ok (.iastore, 1) := by decide +kernel
theorem dX7_multiplyOut_70 : decode cX7_multiplyOut 70 = .ok (.iinc 4 (-1), 3) := by decide +kernel
theorem dX7_multiplyOut_73 : decode cX7_multiplyOut 73 = .ok (.goto (-46), 3) := by decide +kernel
theorem dX7_multiplyOut_76 : decode cX7_multiplyOut 76 = .ok (.iinc 3 1, 3) := by decide +kernel
theorem dX7_multiplyOut_79 : decode cX7_multiplyOut 79 = .ok (.goto (-62), 3) := by decide +kernel
theorem dX7_multiplyOut_82 : decode cX7_multiplyOut 82 = .ok (.return_, 1) := by decide +kernel
set_option maxRecDepth 20000 in
theorem ggX7_countFailures_X7_lostPlaces : GoodIn wsX7_countFailures wsX7_lostPlaces := goodIn_r _ [8] (by decide +kernel) (by decide +kernel)
set_option maxRecDepth 20000 in
theorem gX7_countFailures_X7_lostPlaces : GoodIn wsX7_countFailures (va_wsS RX7 115 yX7_lostPlaces wsX7_lostPlaces) := goodIn_app (goodIn_of _ (by decide +kernel)) ggX7_countFailures_X7_lostPlaces
set_option maxRecDepth 20000 in
theorem ggX7_countFailures_J7_fill_53178 : GoodIn wsX7_countFailures wsJ7_fill_53178 := goodIn_r _ [12] (by decide +kernel) (by decide +kernel)
set_option maxRecDepth 20000 in
theorem gX7_countFailures_J7_fill_53178 : GoodIn wsX7_countFailures (va_wsS RX7 93 yJ7_fill_53178 wsJ7_fill_53178) := goodIn_app (goodIn_of _ (by decide +kernel)) ggX7_countFailures_J7_fill_53178
set_option maxRecDepth 20000 in
theorem ggX7_countFailures_J6_bitCount_0f7a4 : GoodIn wsX7_countFailures wsJ6_bitCount_0f7a4 := goodIn_r _ [16, 17, 18, 19] (by decide +kernel) (by decide +kernel)
set_option maxRecDepth 20000 in
theorem gX7_countFailures_J6_bitCount_0f7a4 : GoodIn wsX7_countFailures (va_wsS RX7 119 yJ6_bitCount_0f7a4 wsJ6_bitCount_0f7a4) := goodIn_app (goodIn_of _ (by decide +kernel)) ggX7_countFailures_J6_bitCount_0f7a4
theorem dX7_countFailures_0 : decode cX7_countFailures 0 = .ok (.aload_n 1, 1) := by decide +kernel
theorem dX7_countFailures_1 : decode cX7_countFailures 1 = .ok (.getfield 54, 3) := by decide +kernel
theorem dX7_countFailures_4 : decode cX7_countFailures 4 = .ok (.iconst 2, 1) := by decide +kernel
theorem dX7_countFailures_5 : decode cX7_countFailures 5 = .ok (.idiv, 1) := by decide +kernel
theorem dX7_countFailures_6 : decode cX7_countFailures 6 = .ok (.istore_n 2, 1) := by decide +kernel
theorem dX7_countFailures_7 : decode cX7_countFailures 7 = .ok (.iconst 1, 1) := by decide +kernel
theorem dX7_countFailures_8 : decode cX7_countFailures 8 = .ok (.iload_n 2, 1) := by decide +kernel
theorem dX7_countFailures_9 : decode cX7_countFailures 9 = .ok (.ishl, 1) := by decide +kernel
theorem dX7_countFailures_10 : decode cX7_countFailures 10 = .ok (.istore_n 3, 1) := by decide +kernel
theorem dX7_countFailures_11 : decode cX7_countFailures 11 = .ok (.aload_n 1, 1) := by decide +kernel
theorem dX7_countFailures_12 : decode cX7_countFailures 12 = .ok (.getfield 44, 3) := by decide +kernel
theorem dX7_countFailures_15 : decode cX7_countFailures 15 = .ok (.iload_n 3, 1) := by decide +kernel
theorem dX7_countFailures_16 : decode cX7_countFailures 16 = .ok (.iconst 1, 1) := by decide +kernel
theorem dX7_countFailures_17 : decode cX7_countFailures 17 = .ok (.isub, 1) := by decide +kernel
theorem dX7_countFailures_18 : decode cX7_countFailures 18 = .ok (.i2l, 1) := by decide +kernel
theorem dX7_countFailures_19 : decode cX7_countFailures 19 = .ok (.land, 1) := by decide +kernel
theorem dX7_countFailures_20 : decode cX7_countFailures 20 = .ok (.l2i, 1) := by decide +kernel
theorem dX7_countFailures_21 : decode cX7_countFailures 21 = .ok (.istore 4, 2) := by decide +kernel
theorem dX7_countFailures_23 : decode cX7_countFailures 23 = .ok (.aload_n 1, 1) := by decide +kernel
theorem dX7_countFailures_24 : decode cX7_countFailures 24 = .ok (.getfield 44, 3) := by decide +kernel
theorem dX7_countFailures_27 : decode cX7_countFailures 27 = .ok (.iload_n 2, 1) := by decide +kernel
theorem dX7_countFailures_28 : decode cX7_countFailures 28 = .ok (.lushr, 1) := by decide +kernel
theorem dX7_countFailures_29 : decode cX7_countFailures 29 = .ok (.l2i, 1) := by decide +kernel
theorem dX7_countFailures_30 : decode cX7_countFailures 30 = .ok (.istore 5, 2) := by decide +kernel
theorem dX7_countFailures_32 : decode cX7_countFailures 32 = .ok (.iconst 0, 1) := by decide +kernel
theorem dX7_countFailures_33 : decode cX7_countFailures 33 = .ok (.istore 6, 2) := by decide +kernel
theorem dX7_countFailures_35 : decode cX7_countFailures 35 = .ok (.iload 6, 2) := by decide +kernel
theorem dX7_countFailures_37 : decode cX7_countFailures 37 = .ok (.iload_n 3, 1) := by decide +kernel
theorem dX7_countFailures_38 : decode cX7_countFailures 38 = .ok (.if_icmp .ge 22, 3) := by decide +kernel
theorem dX7_countFailures_41 : decode cX7_countFailures 41 = .ok (.aload_n 0, 1) := by decide +kernel
theorem dX7_countFailures_42 : decode cX7_countFailures 42 = .ok (.getfield 31, 3) := by decide +kernel
theorem dX7_countFailures_45 : decode cX7_countFailures 45 = .ok (.iload 6, 2) := by decide +kernel
theorem dX7_countFailures_47 : decode cX7_countFailures 47 = .ok (.iload 6, 2) := by decide +kernel
theorem dX7_countFailures_49 : decode cX7_countFailures 49 = .ok (.iload_n 2, 1) := by decide +kernel
theorem dX7_countFailures_50 : decode cX7_countFailures 50 = .ok (.invokestatic 115, 3) := by decide +kernel
theorem dX7_countFailures_53 : decode cX7_countFailures 53 = .ok (.iastore, 1) := by decide +kernel
theorem dX7_countFailures_54 : decode cX7_countFailures 54 = .ok (.iinc 6 1, 3) := by decide +kernel
theorem dX7_countFailures_57 : decode cX7_countFailures 57 = .ok (.goto (-22), 3) := by decide +kernel
theorem dX7_countFailures_60 : decode cX7_countFailures 60 = .ok (.aload_n 0, 1) := by decide +kernel
theorem dX7_countFailures_61 : decode cX7_countFailures 61 = .ok (.getfield 18, 3) := by decide +kernel
theorem dX7_countFailures_64 : decode cX7_countFailures 64 = .ok (.iconst 0, 1) := by decide +kernel
theorem dX7_countFailures_65 : decode cX7_countFailures 65 = .ok (.invokestatic 93, 3) := by decide +kernel
theorem dX7_countFailures_68 : decode cX7_countFailures 68 = .ok (.iconst 0, 1) := by decide +kernel
theorem dX7_countFailures_69 : decode cX7_countFailures 69 = .ok (.istore 6, 2) := by decide +kernel
theorem dX7_countFailures_71 : decode cX7_countFailures 71 = .ok (.iload 6, 2) := by decide +kernel
theorem dX7_countFailures_73 : decode cX7_countFailures 73 = .ok (.iload_n 3, 1) := by decide +kernel
theorem dX7_countFailures_74 : decode cX7_countFailures 74 = .ok (.if_icmp .ge 111, 3) := by decide +kernel
theorem dX7_countFailures_77 : decode cX7_countFailures 77 = .ok (.aload_n 0, 1) := by decide +kernel
theorem dX7_countFailures_78 : decode cX7_countFailures 78 = .ok (.getfield 31, 3) := by decide +kernel
theorem dX7_countFailures_81 : decode cX7_countFailures 81 = .ok (.iload 6, 2) := by decide +kernel
theorem dX7_countFailures_83 : decode cX7_countFailures 83 = .ok (.iaload, 1) := by decide +kernel
theorem dX7_countFailures_84 : decode cX7_countFailures 84 = .ok (.iload 4, 2) := by decide +kernel
theorem dX7_countFailures_86 : decode cX7_countFailures 86 = .ok (.iand, 1) := by decide +kernel
theorem dX7_countFailures_87 : decode cX7_countFailures 87 = .ok (.ifCond .eq 7, 3) := by decide +kernel
theorem dX7_countFailures_90 : decode cX7_countFailures 90 = .ok (.iconst 1, 1) := by decide +kernel
theorem dX7_countFailures_91 : decode cX7_countFailures 91 = .ok (.goto 4, 3) := by decide +kernel
theorem dX7_countFailures_94 : decode cX7_countFailures 94 = .ok (.iconst 0, 1) := by decide +kernel
theorem dX7_countFailures_95 : decode cX7_countFailures 95 = .ok (.istore 7, 2) := by decide +kernel
theorem dX7_countFailures_97 : decode cX7_countFailures 97 = .ok (.iload 6, 2) := by decide +kernel
theorem dX7_countFailures_99 : decode cX7_countFailures 99 = .ok (.invokestatic 119, 3) := by decide +kernel
theorem dX7_countFailures_102 : decode cX7_countFailures 102 = .ok (.istore 8, 2) := by decide +kernel
theorem dX7_countFailures_104 : decode cX7_countFailures 104 = .ok (.iload 6, 2) := by decide +kernel
theorem dX7_countFailures_106 : decode cX7_countFailures 106 = .ok (.istore 9, 2) := by decide +kernel
theorem dX7_countFailures_108 : decode cX7_countFailures 108 = .ok (.iconst 1, 1) := by decide +kernel
theorem dX7_countFailures_109 : decode cX7_countFailures 109 = .ok (.iload 8, 2) := by decide +kernel
theorem dX7_countFailures_111 : decode cX7_countFailures 111 = .ok (.ishl, 1) := by decide +kernel
theorem dX7_countFailures_112 : decode cX7_countFailures 112 = .ok (.istore 10, 2) := by decide +kernel
theorem dX7_countFailures_114 : decode cX7_countFailures 114 = .ok (.iload 10, 2) := by decide +kernel
theorem dX7_countFailures_116 : decode cX7_countFailures 116 = .ok (.ifCond .le 63, 3) := by decide +kernel
theorem dX7_countFailures_119 : decode cX7_countFailures 119 = .ok (.iload 7, 2) := by decide +kernel
theorem dX7_countFailures_121 : decode cX7_countFailures 121 = .ok (.ifCond .ne 16, 3) := by decide +kernel
theorem dX7_countFailures_124 : decode cX7_countFailures 124 = .ok (.aload_n 0, 1) := by decide +kernel
theorem dX7_countFailures_125 : decode cX7_countFailures 125 = .ok (.getfield 31, 3) := by decide +kernel
theorem dX7_countFailures_128 : decode cX7_countFailures 128 = .ok (.iload 9, 2) := by decide +kernel
theorem dX7_countFailures_130 : decode cX7_countFailures 130 = .ok (.iaload, 1) := by decide +kernel
theorem dX7_countFailures_131 : decode cX7_countFailures 131 = .ok (.iload 5, 2) := by decide +kernel
theorem dX7_countFailures_133 : decode cX7_countFailures 133 = .ok (.iand, 1) := by decide +kernel
theorem dX7_countFailures_134 : decode cX7_countFailures 134 = .ok (.ifCond .eq 30, 3) := by decide +kernel
theorem dX7_countFailures_137 : decode cX7_countFailures 137 = .ok (.iload 9, 2) := by decide +kernel
theorem dX7_countFailures_139 : decode cX7_countFailures 139 = .ok (.invokestatic 119, 3) := by decide +kernel
theorem dX7_countFailures_142 : decode cX7_countFailures 142 = .ok (.istore 11, 2) := by decide +kernel
theorem dX7_countFailures_144 : decode cX7_countFailures 144 = .ok (.aload_n 0, 1) := by decide +kernel
theorem dX7_countFailures_145 : decode cX7_countFailures 145 = .ok (.getfield 18, 3) := by decide +kernel
theorem dX7_countFailures_148 : decode cX7_countFailures 148 = .ok (.iload 8, 2) := by decide +kernel
theorem dX7_countFailures_150 : decode cX7_countFailures 150 = .ok (.iload 11, 2) := by decide +kernel
theorem dX7_countFailures_152 : decode cX7_countFailures 152 = .ok (.iadd, 1) := by decide +kernel
theorem dX7_countFailures_153 : decode cX7_countFailures 153 = .ok (.dup2, 1) := by decide +kernel
theorem dX7_countFailures_154 : decode cX7_countFailures 154 = .ok (.iaload, 1) := by decide +kernel
theorem dX7_countFailures_155 : decode cX7_countFailures 155 = .ok (.iconst 1, 1) := by decide +kernel
theorem dX7_countFailures_156 : decode cX7_countFailures 156 = .ok (.iload 8, 2) := by decide +kernel
theorem dX7_countFailures_158 : decode cX7_countFailures 158 = .ok (.iload 11, 2) := by decide +kernel
theorem dX7_countFailures_160 : decode cX7_countFailures 160 = .ok (.isub, 1) := by decide +kernel
theorem dX7_countFailures_161 : decode cX7_countFailures 161 = .ok (.ishl, 1) := by decide +kernel
theorem dX7_countFailures_162 : decode cX7_countFailures 162 = .ok (.iadd, 1) := by decide +kernel
theorem dX7_countFailures_163 : decode cX7_countFailures 163 = .ok (.iastore, 1) := by decide +kernel
theorem dX7_countFailures_164 : decode cX7_countFailures 164 = .ok (.iload 9, 2) := by decide +kernel
theorem dX7_countFailures_166 : decode cX7_countFailures 166 = .ok (.iconst 1, 1) := by decide +kernel
theorem dX7_countFailures_167 : decode cX7_countFailures 167 = .ok (.isub, 1) := by decide +kernel
theorem dX7_countFailures_168 : decode cX7_countFailures 168 = .ok (.iload 6, 2) := by decide +kernel
theorem dX7_countFailures_170 : decode cX7_countFailures 170 = .ok (.iand, 1) := by decide +kernel
theorem dX7_countFailures_171 : decode cX7_countFailures 171 = .ok (.istore 9, 2) := by decide +kernel
theorem dX7_countFailures_173 : decode cX7_countFailures 173 = .ok (.iinc 10 (-1), 3) := by decide +kernel
theorem dX7_countFailures_176 : decode cX7_countFailures 176 = .ok (.goto (-62), 3) := by decide +kernel
theorem dX7_countFailures_179 : decode cX7_countFailures 179 = .ok (.iinc 6 1, 3) := by decide +kernel
theorem dX7_countFailures_182 : decode cX7_countFailures 182 = .ok (.goto (-111), 3) := by decide +kernel
theorem dX7_countFailures_185 : decode cX7_countFailures 185 = .ok (.return_, 1) := by decide +kernel
theorem dX7_lostPlaces_0 : decode cX7_lostPlaces 0 = .ok (.iload_n 0, 1) := by decide +kernel
theorem dX7_lostPlaces_1 : decode cX7_lostPlaces 1 = .ok (.istore_n 2, 1) := by decide +kernel
theorem dX7_lostPlaces_2 : decode cX7_lostPlaces 2 = .ok (.getstatic 121, 3) := by decide +kernel
theorem dX7_lostPlaces_5 : decode cX7_lostPlaces 5 = .ok (.arraylength, 1) := by decide +kernel
theorem dX7_lostPlaces_6 : decode cX7_lostPlaces 6 = .ok (.iconst 1, 1) := by decide +kernel
theorem dX7_lostPlaces_7 : decode cX7_lostPlaces 7 = .ok (.isub, 1) := by decide +kernel
theorem dX7_lostPlaces_8 : decode cX7_lostPlaces 8 = .ok (.istore_n 3, 1) := by decide +kernel
theorem dX7_lostPlaces_9 : decode cX7_lostPlaces 9 = .ok (.iload_n 3, 1) := by decide +kernel
theorem dX7_lostPlaces_10 : decode cX7_lostPlaces 10 = .ok (.ifCond .lt 58, 3) := by decide +kernel
theorem dX7_lostPlaces_13 : decode cX7_lostPlaces 13 = .ok (.iconst 1, 1) := by decide +kernel
theorem dX7_lostPlaces_14 : decode cX7_lostPlaces 14 = .ok (.iload_n 3, 1) := by decide +kernel
theorem dX7_lostPlaces_15 : decode cX7_lostPlaces 15 = .ok (.ishl, 1) := by decide +kernel
theorem dX7_lostPlaces_16 : decode cX7_lostPlaces 16 = .ok (.istore 4, 2) := by decide +kernel
theorem dX7_lostPlaces_18 : decode cX7_lostPlaces 18 = .ok (.iload 4, 2) := by decide +kernel
theorem dX7_lostPlaces_20 : decode cX7_lostPlaces 20 = .ok (.iload_n 1, 1) := by decide +kernel
theorem dX7_lostPlaces_21 : decode cX7_lostPlaces 21 = .ok (.if_icmp .ge 41, 3) := by decide +kernel
theorem dX7_lostPlaces_24 : decode cX7_lostPlaces 24 = .ok (.iload_n 2, 1) := by decide +kernel
theorem dX7_lostPlaces_25 : decode cX7_lostPlaces 25 = .ok (.getstatic 121, 3) := by decide +kernel
theorem dX7_lostPlaces_28 : decode cX7_lostPlaces 28 = .ok (.iload_n 3, 1) := by decide +kernel
theorem dX7_lostPlaces_29 : decode cX7_lostPlaces 29 = .ok (.laload, 1) := by decide +kernel
theorem dX7_lostPlaces_30 : decode cX7_lostPlaces 30 = .ok (.l2i, 1) := by decide +kernel
theorem dX7_lostPlaces_31 : decode cX7_lostPlaces 31 = .ok (.iand, 1) := by decide +kernel
theorem dX7_lostPlaces_32 : decode cX7_lostPlaces 32 = .ok (.istore 5, 2) := by decide +kernel
theorem dX7_lostPlaces_34 : decode cX7_lostPlaces 34 = .ok (.iload_n 2, 1) := by decide +kernel
theorem dX7_lostPlaces_35 : decode cX7_lostPlaces 35 = .ok (.iload 4, 2) := by decide +kernel
theorem dX7_lostPlaces_37 : decode cX7_lostPlaces 37 = .ok (.iushr, 1) := by decide +kernel
theorem dX7_lostPlaces_38 : decode cX7_lostPlaces 38 = .ok (.getstatic 121, 3) := by decide +kernel
theorem dX7_lostPlaces_41 : decode cX7_lostPlaces 41 = .ok (.iload_n 3, 1) := by decide +kernel
theorem dX7_lostPlaces_42 : decode cX7_lostPlaces 42 = .ok (.laload, 1) := by decide +kernel
theorem dX7_lostPlaces_43 : decode cX7_lostPlaces 43 = .ok (.l2i, 1) := by decide +kernel
theorem dX7_lostPlaces_44 : decode cX7_lostPlaces 44 = .ok (.iand, 1) := by decide +kernel
theorem dX7_lostPlaces_45 : decode cX7_lostPlaces 45 = .ok (.istore 6, 2) := by decide +kernel
theorem dX7_lostPlaces_47 : decode cX7_lostPlaces 47 = .ok (.iload 5, 2) := by decide +kernel
theorem dX7_lostPlaces_49 : decode cX7_lostPlaces 49 = .ok (.iload 6, 2) := by decide +kernel
theorem dX7_lostPlaces_51 : decode cX7_lostPlaces 51 = .ok (.ior, 1) := by decide +kernel
theorem dX7_lostPlaces_52 : decode cX7_lostPlaces 52 = .ok (.iload 5, 2) := by decide +kernel
theorem dX7_lostPlaces_54 : decode cX7_lostPlaces 54 = .ok (.iload 6, 2) := by decide +kernel
theorem dX7_lostPlaces_56 : decode cX7_lostPlaces 56 = .ok (.iand, 1) := by decide +kernel
theorem dX7_lostPlaces_57 : decode cX7_lostPlaces 57 = .ok (.iload 4, 2) := by decide +kernel
theorem dX7_lostPlaces_59 : decode cX7_lostPlaces 59 = .ok (.ishl, 1) := by decide +kernel
theorem dX7_lostPlaces_60 : decode cX7_lostPlaces 60 = .ok (.ior, 1) := by decide +kernel
theorem dX7_lostPlaces_61 : decode cX7_lostPlaces 61 = .ok (.istore_n 2, 1) := by decide +kernel
theorem dX7_lostPlaces_62 : decode cX7_lostPlaces 62 = .ok (.iinc 3 (-1), 3) := by decide +kernel
theorem dX7_lostPlaces_65 : decode cX7_lostPlaces 65 = .ok (.goto (-56), 3) := by decide +kernel
theorem dX7_lostPlaces_68 : decode cX7_lostPlaces 68 = .ok (.iload_n 2, 1) := by decide +kernel
theorem dX7_lostPlaces_69 : decode cX7_lostPlaces 69 = .ok (.ireturn, 1) := by decide +kernel
theorem dX8_init_0 : decode cX8_init 0 = .ok (.aload_n 0, 1) := by decide +kernel
theorem dX8_init_1 : decode cX8_init 1 = .ok (.invokespecial 1, 3) := by decide +kernel
theorem dX8_init_4 : decode cX8_init 4 = .ok (.return_, 1) := by decide +kernel
theorem dX8_leave_0 : decode cX8_leave 0 = .ok (.aload_n 0, 1) := by decide +kernel
theorem dX8_leave_1 : decode cX8_leave 1 = .ok (.bipush 31, 2) := by decide +kernel
theorem dX8_leave_3 : decode cX8_leave 3 = .ok (.aload_n 0, 1) := by decide +kernel
theorem dX8_leave_4 : decode cX8_leave 4 = .ok (.getfield 7, 3) := by decide +kernel
theorem dX8_leave_7 : decode cX8_leave 7 = .ok (.imul, 1) := by decide +kernel
theorem dX8_leave_8 : decode cX8_leave 8 = .ok (.iload_n 1, 1) := by decide +kernel
theorem dX8_leave_9 : decode cX8_leave 9 = .ok (.iadd, 1) := by decide +kernel
theorem dX8_leave_10 : decode cX8_leave 10 = .ok (.putfield 7, 3) := by decide +kernel
theorem dX8_leave_13 : decode cX8_leave 13 = .ok (.return_, 1) := by decide +kernel
set_option maxRecDepth 20000 in
theorem ggX9_init_X4_init : GoodIn wsX9_init wsX4_init := goodIn_r _ [38, 39, 2, 3, 40, 41, 42, 43, 44, 79, 80, 81, 82, 83, 84] (by decide +kernel) (by decide +kernel)
set_option maxRecDepth 20000 in
theorem gX9_init_X4_init_n11 : GoodIn wsX9_init (wsX4_init) := ggX9_init_X4_init
set_option maxRecDepth 20000 in
theorem ggX9_init_X5_init : GoodIn wsX9_init wsX5_init := goodIn_r _ [46, 47, 2, 3, 48, 43, 49, 50, 94, 95, 96, 97, 98, 99, 100, 101] (by decide +kernel) (by decide +kernel)
set_option maxRecDepth 20000 in
theorem gX9_init_X5_init_n20 : GoodIn wsX9_init (wsX5_init) := ggX9_init_X5_init
set_option maxRecDepth 20000 in
theorem ggX9_init_X7_init : GoodIn wsX9_init wsX7_init := goodIn_r _ [52, 53, 2, 3, 54, 55, 56, 57, 43, 58, 59, 60, 61, 102, 103, 104, 105, 106, 107, 108, 109, 110, 111] (by decide +kernel) (by decide +kernel)
set_option maxRecDepth 20000 in
theorem gX9_init_X7_init_n27 : GoodIn wsX9_init (wsX7_init) := ggX9_init_X7_init
set_option maxRecDepth 20000 in
theorem ggX9_init_X6_init : GoodIn wsX9_init wsX6_init := goodIn_r _ [63, 64, 2, 3, 43, 65, 112, 113, 114, 115] (by decide +kernel) (by decide +kernel)
set_option maxRecDepth 20000 in
theorem gX9_init_X6_init_n38 : GoodIn wsX9_init (wsX6_init) := ggX9_init_X6_init
set_option maxRecDepth 20000 in
theorem ggX9_init_X8_init : GoodIn wsX9_init wsX8_init := goodIn_r _ [67, 68, 2, 3] (by decide +kernel) (by decide +kernel)
set_option maxRecDepth 20000 in
theorem gX9_init_X8_init_n41 : GoodIn wsX9_init (wsX8_init) := ggX9_init_X8_init
set_option maxRecDepth 20000 in
theorem ggX9_init_X1_init : GoodIn wsX9_init wsX1_init := goodIn_r _ [70, 71, 72, 73, 74, 2, 3] (by decide +kernel) (by decide +kernel)
set_option maxRecDepth 20000 in
theorem gX9_init_X1_init_n48 : GoodIn wsX9_init (wsX1_init) := ggX9_init_X1_init
set_option maxRecDepth 20000 in
theorem ggX9_init_X2_init : GoodIn wsX9_init wsX2_init := goodIn_r _ [76, 71, 72, 73, 74, 2, 3] (by decide +kernel) (by decide +kernel)
set_option maxRecDepth 20000 in
theorem gX9_init_X2_init_n55 : GoodIn wsX9_init (wsX2_init) := ggX9_init_X2_init
set_option maxRecDepth 20000 in
theorem ggX9_init_X0_init : GoodIn wsX9_init wsX0_init := goodIn_r _ [78, 75, 30, 76, 71, 72, 73, 74, 2, 3] (by decide +kernel) (by decide +kernel)
set_option maxRecDepth 20000 in
theorem gX9_init_X0_init_n62 : GoodIn wsX9_init (wsX0_init) := ggX9_init_X0_init
theorem dX9_init_0 : decode cX9_init 0 = .ok (.aload_n 0, 1) := by decide +kernel
theorem dX9_init_1 : decode cX9_init 1 = .ok (.invokespecial 3, 3) := by decide +kernel
theorem dX9_init_4 : decode cX9_init 4 = .ok (.aload_n 0, 1) := by decide +kernel
theorem dX9_init_5 : decode cX9_init 5 = .ok (.new 9, 3) := by decide +kernel
theorem dX9_init_8 : decode cX9_init 8 = .ok (.dup, 1) := by decide +kernel
theorem dX9_init_9 : decode cX9_init 9 = .ok (.invokespecial 11, 3) := by decide +kernel
theorem dX9_init_12 : decode cX9_init 12 = .ok (.putfield 12, 3) := by decide +kernel
theorem dX9_init_15 : decode cX9_init 15 = .ok (.aload_n 0, 1) := by decide +kernel
theorem dX9_init_16 : decode cX9_init 16 = .ok (.new 18, 3) := by decide +kernel
theorem dX9_init_19 : decode cX9_init 19 = .ok (.dup, 1) := by decide +kernel
theorem dX9_init_20 : decode cX9_init 20 = .ok (.invokespecial 20, 3) := by decide +kernel
theorem dX9_init_23 : decode cX9_init 23 = .ok (.putfield 21, 3) := by decide +kernel
theorem dX9_init_26 : decode cX9_init 26 = .ok (.aload_n 0, 1) := by decide +kernel
theorem dX9_init_27 : decode cX9_init 27 = .ok (.new 25, 3) := by decide +kernel
theorem dX9_init_30 : decode cX9_init 30 = .ok (.dup, 1) := by decide +kernel
theorem dX9_init_31 : decode cX9_init 31 = .ok (.invokespecial 27, 3) := by decide +kernel
theorem dX9_init_34 : decode cX9_init 34 = .ok (.putfield 28, 3) := by decide +kernel
theorem dX9_init_37 : decode cX9_init 37 = .ok (.aload_n 0, 1) := by decide +kernel
theorem dX9_init_38 : decode cX9_init 38 = .ok (.iconst 4, 1) := by decide +kernel
theorem dX9_init_39 : decode cX9_init 39 = .ok (.anewarray 32, 3) := by decide +kernel
theorem dX9_init_42 : decode cX9_init 42 = .ok (.putfield 34, 3) := by decide +kernel
theorem dX9_init_45 : decode cX9_init 45 = .ok (.iconst 0, 1) := by decide +kernel
theorem dX9_init_46 : decode cX9_init 46 = .ok (.istore_n 1, 1) := by decide +kernel
theorem dX9_init_47 : decode cX9_init 47 = .ok (.iload_n 1, 1) := by decide +kernel
theorem dX9_init_48 : decode cX9_init 48 = .ok (.iconst 4, 1) := by decide +kernel
theorem dX9_init_49 : decode cX9_init 49 = .ok (.if_icmp .ge 22, 3) := by decide +kernel
theorem dX9_init_52 : decode cX9_init 52 = .ok (.aload_n 0, 1) := by decide +kernel
theorem dX9_init_53 : decode cX9_init 53 = .ok (.getfield 34, 3) := by decide +kernel
theorem dX9_init_56 : decode cX9_init 56 = .ok (.iload_n 1, 1) := by decide +kernel
theorem dX9_init_57 : decode cX9_init 57 = .ok (.new 32, 3) := by decide +kernel
theorem dX9_init_60 : decode cX9_init 60 = .ok (.dup, 1) := by decide +kernel
theorem dX9_init_61 : decode cX9_init 61 = .ok (.invokespecial 38, 3) := by decide +kernel
theorem dX9_init_64 : decode cX9_init 64 = .ok (.aastore, 1) := by decide +kernel
theorem dX9_init_65 : decode cX9_init 65 = .ok (.iinc 1 1, 3) := by decide +kernel
theorem dX9_init_68 : decode cX9_init 68 = .ok (.goto (-21), 3) := by decide +kernel
theorem dX9_init_71 : decode cX9_init 71 = .ok (.aload_n 0, 1) := by decide +kernel
theorem dX9_init_72 : decode cX9_init 72 = .ok (.new 39, 3) := by decide +kernel
theorem dX9_init_75 : decode cX9_init 75 = .ok (.dup, 1) := by decide +kernel
theorem dX9_init_76 : decode cX9_init 76 = .ok (.invokespecial 41, 3) := by decide +kernel
theorem dX9_init_79 : decode cX9_init 79 = .ok (.putfield 42, 3) := by decide +kernel
theorem dX9_init_82 : decode cX9_init 82 = .ok (.aload_n 0, 1) := by decide +kernel
theorem dX9_init_83 : decode cX9_init 83 = .ok (.new 46, 3) := by decide +kernel
theorem dX9_init_86 : decode cX9_init 86 = .ok (.dup, 1) := by decide +kernel
theorem dX9_init_87 : decode cX9_init 87 = .ok (.invokespecial 48, 3) := by decide +kernel
theorem dX9_init_90 : decode cX9_init 90 = .ok (.putfield 49, 3) := by decide +kernel
theorem dX9_init_93 : decode cX9_init 93 = .ok (.aload_n 0, 1) := by decide +kernel
theorem dX9_init_94 : decode cX9_init 94 = .ok (.new 53, 3) := by decide +kernel
theorem dX9_init_97 : decode cX9_init 97 = .ok (.dup, 1) := by decide +kernel
theorem dX9_init_98 : decode cX9_init 98 = .ok (.invokespecial 55, 3) := by decide +kernel
theorem dX9_init_101 : decode cX9_init 101 = .ok (.putfield 56, 3) := by decide +kernel
theorem dX9_init_104 : decode cX9_init 104 = .ok (.aload_n 0, 1) := by decide +kernel
theorem dX9_init_105 : decode cX9_init 105 = .ok (.new 60, 3) := by decide +kernel
theorem dX9_init_108 : decode cX9_init 108 = .ok (.dup, 1) := by decide +kernel
theorem dX9_init_109 : decode cX9_init 109 = .ok (.invokespecial 62, 3) := by decide +kernel
theorem dX9_init_112 : decode cX9_init 112 = .ok (.putfield 63, 3) := by decide +kernel
theorem dX9_init_115 : decode cX9_init 115 = .ok (.aload_n 0, 1) := by decide +kernel
theorem dX9_init_116 : decode cX9_init 116 = .ok (.iconst 0, 1) := by decide +kernel
theorem dX9_init_117 : decode cX9_init 117 = .ok (.putfield 67, 3) := by decide +kernel
theorem dX9_init_120 : decode cX9_init 120 = .ok (.return_, 1) := by decide +kernel
set_option maxRecDepth 20000 in
theorem ggX9_size_X4_setAll : GoodIn wsX9_size wsX4_setAll := goodIn_r _ [7, 8, 9, 35, 36, 37, 38, 39, 40] (by decide +kernel) (by decide +kernel)
set_option maxRecDepth 20000 in
theorem gX9_size_X4_setAll : GoodIn wsX9_size (wsV RX9 74 RX4 yX4_setAll wsX4_setAll) := goodIn_app (goodIn_of _ (by decide +kernel)) ggX9_size_X4_setAll
set_option maxRecDepth 20000 in
theorem ggX9_size_X9_forgetWhatRestsOnPlaces : GoodIn wsX9_size wsX9_forgetWhatRestsOnPlaces := goodIn_r _ [14, 15, 16, 17, 18, 19, 20, 21, 22, 23, 24, 25, 26, 27, 28, 29, 30, 31, 32, 33, 34, 41, 42, 43, 44, 45, 46, 47, 48, 49, 50, 51, 52, 53, 54, 55, 56, 57, 58] (by decide +kernel) (by decide +kernel)
set_option maxRecDepth 20000 in
theorem gX9_size_X9_forgetWhatRestsOnPlaces : GoodIn wsX9_size (wsV RX9 78 RX9 yX9_forgetWhatRestsOnPlaces wsX9_forgetWhatRestsOnPlaces) := goodIn_app (goodIn_of _ (by decide +kernel)) ggX9_size_X9_forgetWhatRestsOnPlaces
theorem dX9_size_0 : decode cX9_size 0 = .ok (.iload_n 1, 1) := by decide +kernel
theorem dX9_size_1 : decode cX9_size 1 = .ok (.iconst 2, 1) := by decide +kernel
theorem dX9_size_2 : decode cX9_size 2 = .ok (.if_icmp .eq 29, 3) := by decide +kernel
theorem dX9_size_5 : decode cX9_size 5 = .ok (.iload_n 1, 1) := by decide +kernel
theorem dX9_size_6 : decode cX9_size 6 = .ok (.iconst 4, 1) := by decide +kernel
theorem dX9_size_7 : decode cX9_size 7 = .ok (.if_icmp .eq 24, 3) := by decide +kernel
theorem dX9_size_10 : decode cX9_size 10 = .ok (.iload_n 1, 1) := by decide +kernel
theorem dX9_size_11 : decode cX9_size 11 = .ok (.bipush 8, 2) := by decide +kernel
theorem dX9_size_13 : decode cX9_size 13 = .ok (.if_icmp .eq 18, 3) := by decide +kernel
theorem dX9_size_16 : decode cX9_size 16 = .ok (.iload_n 1, 1) := by decide +kernel
theorem dX9_size_17 : decode cX9_size 17 = .ok (.bipush 16, 2) := by decide +kernel
theorem dX9_size_19 : decode cX9_size 19 = .ok (.if_icmp .eq 12, 3) := by decide +kernel
theorem dX9_size_22 : decode cX9_size 22 = .ok (.iload_n 1, 1) := by decide +kernel
theorem dX9_size_23 : decode cX9_size 23 = .ok (.bipush 32, 2) := by decide +kernel
theorem dX9_size_25 : decode cX9_size 25 = .ok (.if_icmp .eq 6, 3) := by decide +kernel
theorem dX9_size_28 : decode cX9_size 28 = .ok (.bipush (-2), 2) := by decide +kernel
theorem dX9_size_30 : decode cX9_size 30 = .ok (.ireturn, 1) := by decide +kernel
theorem dX9_size_31 : decode cX9_size 31 = .ok (.aload_n 0, 1) := by decide +kernel
theorem dX9_size_32 : decode cX9_size 32 = .ok (.getfield 12, 3) := by decide +kernel
theorem dX9_size_35 : decode cX9_size 35 = .ok (.getfield 71, 3) := by decide +kernel
theorem dX9_size_38 : decode cX9_size 38 = .ok (.istore_n 2, 1) := by decide +kernel
theorem dX9_size_39 : decode cX9_size 39 = .ok (.aload_n 0, 1) := by decide +kernel
theorem dX9_size_40 : decode cX9_size 40 = .ok (.getfield 12, 3) := by decide +kernel
theorem dX9_size_43 : decode cX9_size 43 = .ok (.iload_n 1, 1) := by decide +kernel
theorem dX9_size_44 : decode cX9_size 44 = .ok (.putfield 71, 3) := by decide +kernel
theorem dX9_size_47 : decode cX9_size 47 = .ok (.aload_n 0, 1) := by decide +kernel
theorem dX9_size_48 : decode cX9_size 48 = .ok (.getfield 12, 3) := by decide +kernel
theorem dX9_size_51 : decode cX9_size 51 = .ok (.lconst 0, 1) := by decide +kernel
theorem dX9_size_52 : decode cX9_size 52 = .ok (.invokevirtual 74, 3) := by decide +kernel
theorem dX9_size_55 : decode cX9_size 55 = .ok (.aload_n 0, 1) := by decide +kernel
theorem dX9_size_56 : decode cX9_size 56 = .ok (.invokevirtual 78, 3) := by decide +kernel
theorem dX9_size_59 : decode cX9_size 59 = .ok (.iload_n 2, 1) := by decide +kernel
theorem dX9_size_60 : decode cX9_size 60 = .ok (.ireturn, 1) := by decide +kernel
theorem dX9_line_0 : decode cX9_line 0 = .ok (.iload_n 2, 1) := by decide +kernel
theorem dX9_line_1 : decode cX9_line 1 = .ok (.iconst 1, 1) := by decide +kernel
theorem dX9_line_2 : decode cX9_line 2 = .ok (.if_icmp .lt 18, 3) := by decide +kernel
theorem dX9_line_5 : decode cX9_line 5 = .ok (.iload_n 2, 1) := by decide +kernel
theorem dX9_line_6 : decode cX9_line 6 = .ok (.bipush 8, 2) := by decide +kernel
theorem dX9_line_8 : decode cX9_line 8 = .ok (.if_icmp .gt 12, 3) := by decide +kernel
theorem dX9_line_11 : decode cX9_line 11 = .ok (.iload_n 1, 1) := by decide +kernel
theorem dX9_line_12 : decode cX9_line 12 = .ok (.ifCond .lt 8, 3) := by decide +kernel
theorem dX9_line_15 : decode cX9_line 15 = .ok (.iload_n 1, 1) := by decide +kernel
theorem dX9_line_16 : decode cX9_line 16 = .ok (.iload_n 2, 1) := by decide +kernel
theorem dX9_line_17 : decode cX9_line 17 = .ok (.if_icmp .le 6, 3) := by decide +kernel
theorem dX9_line_20 : decode cX9_line 20 = .ok (.bipush (-2), 2) := by decide +kernel
theorem dX9_line_22 : decode cX9_line 22 = .ok (.ireturn, 1) := by decide +kernel
theorem dX9_line_23 : decode cX9_line 23 = .ok (.aload_n 0, 1) := by decide +kernel
theorem dX9_line_24 : decode cX9_line 24 = .ok (.getfield 12, 3) := by decide +kernel
theorem dX9_line_27 : decode cX9_line 27 = .ok (.iload_n 1, 1) := by decide +kernel
theorem dX9_line_28 : decode cX9_line 28 = .ok (.putfield 81, 3) := by decide +kernel
theorem dX9_line_31 : decode cX9_line 31 = .ok (.aload_n 0, 1) := by decide +kernel
theorem dX9_line_32 : decode cX9_line 32 = .ok (.getfield 12, 3) := by decide +kernel
theorem dX9_line_35 : decode cX9_line 35 = .ok (.iload_n 2, 1) := by decide +kernel
theorem dX9_line_36 : decode cX9_line 36 = .ok (.putfield 84, 3) := by decide +kernel
theorem dX9_line_39 : decode cX9_line 39 = .ok (.iconst 1, 1) := by decide +kernel
theorem dX9_line_40 : decode cX9_line 40 = .ok (.ireturn, 1) := by decide +kernel
set_option maxRecDepth 20000 in
theorem ggX9_share_X4_has : GoodIn wsX9_share wsX4_has := goodIn_r _ [7, 8, 35, 36, 37, 38, 39, 40] (by decide +kernel) (by decide +kernel)
set_option maxRecDepth 20000 in
theorem gX9_share_X4_has : GoodIn wsX9_share (wsV RX9 87 RX4 yX4_has wsX4_has) := goodIn_app (goodIn_of _ (by decide +kernel)) ggX9_share_X4_has
set_option maxRecDepth 20000 in
theorem ggX9_share_X4_upperNumber : GoodIn wsX9_share wsX4_upperNumber := goodIn_r _ [12, 13, 14, 15, 16, 6, 17, 8, 18, 19, 20, 21, 22, 23, 24, 25, 35, 36, 37, 38, 39, 40] (by decide +kernel) (by decide +kernel)
set_option maxRecDepth 20000 in
theorem gX9_share_X4_upperNumber : GoodIn wsX9_share (wsV RX9 91 RX4 yX4_upperNumber wsX4_upperNumber) := goodIn_app (goodIn_of _ (by decide +kernel)) ggX9_share_X4_upperNumber
theorem dX9_share_0 : decode cX9_share 0 = .ok (.aload_n 0, 1) := by decide +kernel
theorem dX9_share_1 : decode cX9_share 1 = .ok (.getfield 12, 3) := by decide +kernel
theorem dX9_share_4 : decode cX9_share 4 = .ok (.iload_n 1, 1) := by decide +kernel
theorem dX9_share_5 : decode cX9_share 5 = .ok (.invokevirtual 87, 3) := by decide +kernel
theorem dX9_share_8 : decode cX9_share 8 = .ok (.ifCond .eq 14, 3) := by decide +kernel
theorem dX9_share_11 : decode cX9_share 11 = .ok (.aload_n 0, 1) := by decide +kernel
theorem dX9_share_12 : decode cX9_share 12 = .ok (.getfield 12, 3) := by decide +kernel
theorem dX9_share_15 : decode cX9_share 15 = .ok (.iload_n 1, 1) := by decide +kernel
theorem dX9_share_16 : decode cX9_share 16 = .ok (.invokevirtual 91, 3) := by decide +kernel
theorem dX9_share_19 : decode cX9_share 19 = .ok (.goto 6, 3) := by decide +kernel
theorem dX9_share_22 : decode cX9_share 22 = .ok (.ldc2_w 95, 3) := by decide +kernel
theorem dX9_share_25 : decode cX9_share 25 = .ok (.lreturn, 1) := by decide +kernel
set_option maxRecDepth 20000 in
theorem ggX9_lower_X4_lowerNumber : GoodIn wsX9_lower wsX4_lowerNumber := goodIn_r _ [6, 7, 8, 9, 10, 20, 21, 22, 23, 24, 25] (by decide +kernel) (by decide +kernel)
set_option maxRecDepth 20000 in
theorem gX9_lower_X4_lowerNumber : GoodIn wsX9_lower (wsV RX9 97 RX4 yX4_lowerNumber wsX4_lowerNumber) := goodIn_app (goodIn_of _ (by decide +kernel)) ggX9_lower_X4_lowerNumber
theorem dX9_lower_0 : decode cX9_lower 0 = .ok (.aload_n 0, 1) := by decide +kernel
theorem dX9_lower_1 : decode cX9_lower 1 = .ok (.getfield 12, 3) := by decide +kernel
theorem dX9_lower_4 : decode cX9_lower 4 = .ok (.invokevirtual 97, 3) := by decide +kernel
theorem dX9_lower_7 : decode cX9_lower 7 = .ok (.lreturn, 1) := by decide +kernel
set_option maxRecDepth 20000 in
theorem ggX9_good_X4_has : GoodIn wsX9_good wsX4_has := goodIn_r _ [6, 7, 44, 45, 46, 47, 48, 49] (by decide +kernel) (by decide +kernel)
set_option maxRecDepth 20000 in
theorem gX9_good_X4_has : GoodIn wsX9_good (wsV RX9 87 RX4 yX4_has wsX4_has) := goodIn_app (goodIn_of _ (by decide +kernel)) ggX9_good_X4_has
set_option maxRecDepth 20000 in
theorem ggX9_good_X4_isGood : GoodIn wsX9_good wsX4_isGood := goodIn_r _ [11, 12, 44, 45, 46, 47, 48, 49] (by decide +kernel) (by decide +kernel)
set_option maxRecDepth 20000 in
theorem gX9_good_X4_isGood : GoodIn wsX9_good (wsV RX9 101 RX4 yX4_isGood wsX4_isGood) := goodIn_app (goodIn_of _ (by decide +kernel)) ggX9_good_X4_isGood
set_option maxRecDepth 20000 in
theorem ggX9_good_X4_setGood : GoodIn wsX9_good wsX4_setGood := goodIn_r _ [16, 12, 17, 18, 44, 45, 46, 47, 48, 49] (by decide +kernel) (by decide +kernel)
set_option maxRecDepth 20000 in
theorem gX9_good_X4_setGood : GoodIn wsX9_good (wsV RX9 104 RX4 yX4_setGood wsX4_setGood) := goodIn_app (goodIn_of _ (by decide +kernel)) ggX9_good_X4_setGood
set_option maxRecDepth 20000 in
theorem ggX9_good_X9_forgetWhatRestsOnPlaces : GoodIn wsX9_good wsX9_forgetWhatRestsOnPlaces := goodIn_r _ [23, 24, 25, 26, 27, 28, 29, 30, 31, 32, 33, 34, 35, 36, 37, 38, 39, 40, 41, 42, 43, 50, 51, 52, 53, 54, 55, 56, 57, 58, 59, 60, 61, 62, 63, 64, 65, 66, 67] (by decide +kernel) (by decide +kernel)
set_option maxRecDepth 20000 in
theorem gX9_good_X9_forgetWhatRestsOnPlaces : GoodIn wsX9_good (wsV RX9 78 RX9 yX9_forgetWhatRestsOnPlaces wsX9_forgetWhatRestsOnPlaces) := goodIn_app (goodIn_of _ (by decide +kernel)) ggX9_good_X9_forgetWhatRestsOnPlaces
theorem dX9_good_0 : decode cX9_good 0 = .ok (.aload_n 0, 1) := by decide +kernel
theorem dX9_good_1 : decode cX9_good 1 = .ok (.getfield 12, 3) := by decide +kernel
theorem dX9_good_4 : decode cX9_good 4 = .ok (.iload_n 1, 1) := by decide +kernel
theorem dX9_good_5 : decode cX9_good 5 = .ok (.invokevirtual 87, 3) := by decide +kernel
theorem dX9_good_8 : decode cX9_good 8 = .ok (.ifCond .ne 5, 3) := by decide +kernel
theorem dX9_good_11 : decode cX9_good 11 = .ok (.iconst (-1), 1) := by decide +kernel
theorem dX9_good_12 : decode cX9_good 12 = .ok (.ireturn, 1) := by decide +kernel
theorem dX9_good_13 : decode cX9_good 13 = .ok (.aload_n 0, 1) := by decide +kernel
theorem dX9_good_14 : decode cX9_good 14 = .ok (.getfield 12, 3) := by decide +kernel
theorem dX9_good_17 : decode cX9_good 17 = .ok (.iload_n 1, 1) := by decide +kernel
theorem dX9_good_18 : decode cX9_good 18 = .ok (.invokevirtual 101, 3) := by decide +kernel
theorem dX9_good_21 : decode cX9_good 21 = .ok (.ifCond .eq 7, 3) := by decide +kernel
theorem dX9_good_24 : decode cX9_good 24 = .ok (.iconst 0, 1) := by decide +kernel
theorem dX9_good_25 : decode cX9_good 25 = .ok (.goto 4, 3) := by decide +kernel
theorem dX9_good_28 : decode cX9_good 28 = .ok (.iconst 1, 1) := by decide +kernel
theorem dX9_good_29 : decode cX9_good 29 = .ok (.istore_n 2, 1) := by decide +kernel
theorem dX9_good_30 : decode cX9_good 30 = .ok (.aload_n 0, 1) := by decide +kernel
theorem dX9_good_31 : decode cX9_good 31 = .ok (.getfield 12, 3) := by decide +kernel
theorem dX9_good_34 : decode cX9_good 34 = .ok (.iload_n 1, 1) := by decide +kernel
theorem dX9_good_35 : decode cX9_good 35 = .ok (.invokevirtual 104, 3) := by decide +kernel
theorem dX9_good_38 : decode cX9_good 38 = .ok (.aload_n 0, 1) := by decide +kernel
theorem dX9_good_39 : decode cX9_good 39 = .ok (.invokevirtual 78, 3) := by decide +kernel
theorem dX9_good_42 : decode cX9_good 42 = .ok (.iload_n 2, 1) := by decide +kernel
theorem dX9_good_43 : decode cX9_good 43 = .ok (.ireturn, 1) := by decide +kernel
set_option maxRecDepth 20000 in
theorem ggX9_freeze_X4_has : GoodIn wsX9_freeze wsX4_has := goodIn_r _ [6, 7, 51, 52, 53, 54, 55, 56] (by decide +kernel) (by decide +kernel)
set_option maxRecDepth 20000 in
theorem gX9_freeze_X4_has : GoodIn wsX9_freeze (wsV RX9 87 RX4 yX4_has wsX4_has) := goodIn_app (goodIn_of _ (by decide +kernel)) ggX9_freeze_X4_has
set_option maxRecDepth 20000 in
theorem ggX9_freeze_X9_isBit : GoodIn wsX9_freeze wsX9_isBit := goodIn_r _ [11] (by decide +kernel) (by decide +kernel)
set_option maxRecDepth 20000 in
theorem gX9_freeze_X9_isBit : GoodIn wsX9_freeze (va_wsS RX9 108 yX9_isBit wsX9_isBit) := goodIn_app (goodIn_of _ (by decide +kernel)) ggX9_freeze_X9_isBit
set_option maxRecDepth 20000 in
theorem ggX9_freeze_X4_isGood : GoodIn wsX9_freeze wsX4_isGood := goodIn_r _ [15, 16, 51, 52, 53, 54, 55, 56] (by decide +kernel) (by decide +kernel)
set_option maxRecDepth 20000 in
theorem gX9_freeze_X4_isGood : GoodIn wsX9_freeze (wsV RX9 101 RX4 yX4_isGood wsX4_isGood) := goodIn_app (goodIn_of _ (by decide +kernel)) ggX9_freeze_X4_isGood
set_option maxRecDepth 20000 in
theorem ggX9_freeze_X4_frozenBit : GoodIn wsX9_freeze wsX4_frozenBit := goodIn_r _ [20, 21, 51, 52, 53, 54, 55, 56] (by decide +kernel) (by decide +kernel)
set_option maxRecDepth 20000 in
theorem gX9_freeze_X4_frozenBit : GoodIn wsX9_freeze (wsV RX9 111 RX4 yX4_frozenBit wsX4_frozenBit) := goodIn_app (goodIn_of _ (by decide +kernel)) ggX9_freeze_X4_frozenBit
set_option maxRecDepth 20000 in
theorem ggX9_freeze_X4_setFrozen : GoodIn wsX9_freeze wsX4_setFrozen := goodIn_r _ [25, 16, 26, 21, 51, 52, 53, 54, 55, 56] (by decide +kernel) (by decide +kernel)
set_option maxRecDepth 20000 in
theorem gX9_freeze_X4_setFrozen : GoodIn wsX9_freeze (wsV RX9 115 RX4 yX4_setFrozen wsX4_setFrozen) := goodIn_app (goodIn_of _ (by decide +kernel)) ggX9_freeze_X4_setFrozen
set_option maxRecDepth 20000 in
theorem ggX9_freeze_X9_forgetWhatRestsOnPlaces : GoodIn wsX9_freeze wsX9_forgetWhatRestsOnPlaces := goodIn_r _ [30, 31, 32, 33, 34, 35, 36, 37, 38, 39, 40, 41, 42, 43, 44, 45, 46, 47, 48, 49, 50, 57, 58, 59, 60, 61, 62, 63, 64, 65, 66, 67, 68, 69, 70, 71, 72, 73, 74] (by decide +kernel) (by decide +kernel)
set_option maxRecDepth 20000 in
theorem gX9_freeze_X9_forgetWhatRestsOnPlaces : GoodIn wsX9_freeze (wsV RX9 78 RX9 yX9_forgetWhatRestsOnPlaces wsX9_forgetWhatRestsOnPlaces) := goodIn_app (goodIn_of _ (by decide +kernel)) ggX9_freeze_X9_forgetWhatRestsOnPlaces
theorem dX9_freeze_0 : decode cX9_freeze 0 = .ok (.aload_n 0, 1) := by decide +kernel
theorem dX9_freeze_1 : decode cX9_freeze 1 = .ok (.getfield 12, 3) := by decide +kernel
theorem dX9_freeze_4 : decode cX9_freeze 4 = .ok (.iload_n 1, 1) := by decide +kernel
theorem dX9_freeze_5 : decode cX9_freeze 5 = .ok (.invokevirtual 87, 3) := by decide +kernel
theorem dX9_freeze_8 : decode cX9_freeze 8 = .ok (.ifCond .ne 5, 3) := by decide +kernel
theorem dX9_freeze_11 : decode cX9_freeze 11 = .ok (.iconst (-1), 1) := by decide +kernel
theorem dX9_freeze_12 : decode cX9_freeze 12 = .ok (.ireturn, 1) := by decide +kernel
theorem dX9_freeze_13 : decode cX9_freeze 13 = .ok (.iload_n 2, 1) := by decide +kernel
theorem dX9_freeze_14 : decode cX9_freeze 14 = .ok (.invokestatic 108, 3) := by decide +kernel
theorem dX9_freeze_17 : decode cX9_freeze 17 = .ok (.ifCond .ne 6, 3) := by decide +kernel
theorem dX9_freeze_20 : decode cX9_freeze 20 = .ok (.bipush (-2), 2) := by decide +kernel
theorem dX9_freeze_22 : decode cX9_freeze 22 = .ok (.ireturn, 1) := by decide +kernel
theorem dX9_freeze_23 : decode cX9_freeze 23 = .ok (.aload_n 0, 1) := by decide +kernel
theorem dX9_freeze_24 : decode cX9_freeze 24 = .ok (.getfield 12, 3) := by decide +kernel
theorem dX9_freeze_27 : decode cX9_freeze 27 = .ok (.iload_n 1, 1) := by decide +kernel
theorem dX9_freeze_28 : decode cX9_freeze 28 = .ok (.invokevirtual 101, 3) := by decide +kernel
theorem dX9_freeze_31 : decode cX9_freeze 31 = .ok (.ifCond .ne 19, 3) := by decide +kernel
theorem dX9_freeze_34 : decode cX9_freeze 34 = .ok (.aload_n 0, 1) := by decide +kernel
theorem dX9_freeze_35 : decode cX9_freeze 35 = .ok (.getfield 12, 3) := by decide +kernel
theorem dX9_freeze_38 : decode cX9_freeze 38 = .ok (.iload_n 1, 1) := by decide +kernel
theorem dX9_freeze_39 : decode cX9_freeze 39 = .ok (.invokevirtual 111, 3) := by decide +kernel
theorem dX9_freeze_42 : decode cX9_freeze 42 = .ok (.iload_n 2, 1) := by decide +kernel
theorem dX9_freeze_43 : decode cX9_freeze 43 = .ok (.if_icmp .ne 7, 3) := by decide +kernel
theorem dX9_freeze_46 : decode cX9_freeze 46 = .ok (.iconst 0, 1) := by decide +kernel
theorem dX9_freeze_47 : decode cX9_freeze 47 = .ok (.goto 4, 3) := by decide +kernel
theorem dX9_freeze_50 : decode cX9_freeze 50 = .ok (.iconst 1, 1) := by decide +kernel
theorem dX9_freeze_51 : decode cX9_freeze 51 = .ok (.istore_n 3, 1) := by decide +kernel
theorem dX9_freeze_52 : decode cX9_freeze 52 = .ok (.aload_n 0, 1) := by decide +kernel
theorem dX9_freeze_53 : decode cX9_freeze 53 = .ok (.getfield 12, 3) := by decide +kernel
theorem dX9_freeze_56 : decode cX9_freeze 56 = .ok (.iload_n 1, 1) := by decide +kernel
theorem dX9_freeze_57 : decode cX9_freeze 57 = .ok (.iload_n 2, 1) := by decide +kernel
theorem dX9_freeze_58 : decode cX9_freeze 58 = .ok (.invokevirtual 115, 3) := by decide +kernel
theorem dX9_freeze_61 : decode cX9_freeze 61 = .ok (.aload_n 0, 1) := by decide +kernel
theorem dX9_freeze_62 : decode cX9_freeze 62 = .ok (.invokevirtual 78, 3) := by decide +kernel
theorem dX9_freeze_65 : decode cX9_freeze 65 = .ok (.iload_n 3, 1) := by decide +kernel
theorem dX9_freeze_66 : decode cX9_freeze 66 = .ok (.ireturn, 1) := by decide +kernel
set_option maxRecDepth 20000 in
theorem ggX9_choose_X4_lowerNumber : GoodIn wsX9_choose wsX4_lowerNumber := goodIn_r _ [8, 9, 10, 11, 12, 60, 61, 62, 63, 64, 65] (by decide +kernel) (by decide +kernel)
set_option maxRecDepth 20000 in
theorem gX9_choose_X4_lowerNumber : GoodIn wsX9_choose (wsV RX9 97 RX4 yX4_lowerNumber wsX4_lowerNumber) := goodIn_app (goodIn_of _ (by decide +kernel)) ggX9_choose_X4_lowerNumber
set_option maxRecDepth 20000 in
theorem ggX9_choose_X4_takeLeastShares : GoodIn wsX9_choose wsX4_takeLeastShares := goodIn_r _ [16, 9, 17, 18, 19, 20, 7, 21, 22, 10, 23, 24, 25, 26, 27, 28, 29, 30, 31, 32, 33, 34, 60, 61, 62, 63, 64, 65] (by decide +kernel) (by decide +kernel)
set_option maxRecDepth 20000 in
theorem gX9_choose_X4_takeLeastShares : GoodIn wsX9_choose (wsV RX9 119 RX4 yX4_takeLeastShares wsX4_takeLeastShares) := goodIn_app (goodIn_of _ (by decide +kernel)) ggX9_choose_X4_takeLeastShares
set_option maxRecDepth 20000 in
theorem ggX9_choose_X9_forgetWhatRestsOnPlaces : GoodIn wsX9_choose wsX9_forgetWhatRestsOnPlaces := goodIn_r _ [39, 40, 41, 42, 43, 44, 45, 46, 47, 48, 49, 50, 51, 52, 53, 54, 55, 56, 57, 58, 59, 66, 67, 68, 69, 70, 71, 72, 73, 74, 75, 76, 77, 78, 79, 80, 81, 82, 83] (by decide +kernel) (by decide +kernel)
set_option maxRecDepth 20000 in
theorem gX9_choose_X9_forgetWhatRestsOnPlaces : GoodIn wsX9_choose (wsV RX9 78 RX9 yX9_forgetWhatRestsOnPlaces wsX9_forgetWhatRestsOnPlaces) := goodIn_app (goodIn_of _ (by decide +kernel)) ggX9_choose_X9_forgetWhatRestsOnPlaces
theorem dX9_choose_0 : decode cX9_choose 0 = .ok (.iload_n 1, 1) := by decide +kernel
theorem dX9_choose_1 : decode cX9_choose 1 = .ok (.ifCond .lt 28, 3) := by decide +kernel
theorem dX9_choose_4 : decode cX9_choose 4 = .ok (.iload_n 1, 1) := by decide +kernel
theorem dX9_choose_5 : decode cX9_choose 5 = .ok (.aload_n 0, 1) := by decide +kernel
theorem dX9_choose_6 : decode cX9_choose 6 = .ok (.getfield 12, 3) := by decide +kernel
theorem dX9_choose_9 : decode cX9_choose 9 = .ok (.getfield 71, 3) := by decide +kernel
theorem dX9_choose_12 : decode cX9_choose 12 = .ok (.if_icmp .gt 17, 3) := by decide +kernel
theorem dX9_choose_15 : decode cX9_choose 15 = .ok (.aload_n 0, 1) := by decide +kernel
theorem dX9_choose_16 : decode cX9_choose 16 = .ok (.getfield 12, 3) := by decide +kernel
theorem dX9_choose_19 : decode cX9_choose 19 = .ok (.invokevirtual 97, 3) := by decide +kernel
theorem dX9_choose_22 : decode cX9_choose 22 = .ok (.ldc2_w 95, 3) := by decide +kernel
theorem dX9_choose_25 : decode cX9_choose 25 = .ok (.lcmp, 1) := by decide +kernel
theorem dX9_choose_26 : decode cX9_choose 26 = .ok (.ifCond .ne 7, 3) := by decide +kernel
theorem dX9_choose_29 : decode cX9_choose 29 = .ok (.ldc2_w 95, 3) := by decide +kernel
theorem dX9_choose_32 : decode cX9_choose 32 = .ok (.lreturn, 1) := by decide +kernel
theorem dX9_choose_33 : decode cX9_choose 33 = .ok (.aload_n 0, 1) := by decide +kernel
theorem dX9_choose_34 : decode cX9_choose 34 = .ok (.getfield 12, 3) := by decide +kernel
theorem dX9_choose_37 : decode cX9_choose 37 = .ok (.iload_n 1, 1) := by decide +kernel
theorem dX9_choose_38 : decode cX9_choose 38 = .ok (.invokevirtual 119, 3) := by decide +kernel
theorem dX9_choose_41 : decode cX9_choose 41 = .ok (.lstore_n 2, 1) := by decide +kernel
theorem dX9_choose_42 : decode cX9_choose 42 = .ok (.aload_n 0, 1) := by decide +kernel
theorem dX9_choose_43 : decode cX9_choose 43 = .ok (.invokevirtual 78, 3) := by decide +kernel
theorem dX9_choose_46 : decode cX9_choose 46 = .ok (.lload_n 2, 1) := by decide +kernel
theorem dX9_choose_47 : decode cX9_choose 47 = .ok (.lreturn, 1) := by decide +kernel
set_option maxRecDepth 20000 in
theorem ggX9_about_X4_has : GoodIn wsX9_about wsX4_has := goodIn_r _ [6, 7, 38, 39, 40, 41, 42, 43] (by decide +kernel) (by decide +kernel)
set_option maxRecDepth 20000 in
theorem gX9_about_X4_has : GoodIn wsX9_about (wsV RX9 87 RX4 yX4_has wsX4_has) := goodIn_app (goodIn_of _ (by decide +kernel)) ggX9_about_X4_has
set_option maxRecDepth 20000 in
theorem ggX9_about_X4_isGood : GoodIn wsX9_about wsX4_isGood := goodIn_r _ [11, 12, 38, 39, 40, 41, 42, 43] (by decide +kernel) (by decide +kernel)
set_option maxRecDepth 20000 in
theorem gX9_about_X4_isGood : GoodIn wsX9_about (wsV RX9 101 RX4 yX4_isGood wsX4_isGood) := goodIn_app (goodIn_of _ (by decide +kernel)) ggX9_about_X4_isGood
set_option maxRecDepth 20000 in
theorem ggX9_about_X4_frozenBit : GoodIn wsX9_about wsX4_frozenBit := goodIn_r _ [16, 17, 38, 39, 40, 41, 42, 43] (by decide +kernel) (by decide +kernel)
set_option maxRecDepth 20000 in
theorem gX9_about_X4_frozenBit : GoodIn wsX9_about (wsV RX9 111 RX4 yX4_frozenBit wsX4_frozenBit) := goodIn_app (goodIn_of _ (by decide +kernel)) ggX9_about_X4_frozenBit
set_option maxRecDepth 20000 in
theorem ggX9_about_X4_messageBitOf : GoodIn wsX9_about wsX4_messageBitOf := goodIn_r _ [21, 12, 22, 23, 24, 25, 26, 27, 28, 38, 39, 40, 41, 42, 43] (by decide +kernel) (by decide +kernel)
set_option maxRecDepth 20000 in
theorem gX9_about_X4_messageBitOf : GoodIn wsX9_about (wsV RX9 122 RX4 yX4_messageBitOf wsX4_messageBitOf) := goodIn_app (goodIn_of _ (by decide +kernel)) ggX9_about_X4_messageBitOf
theorem dX9_about_0 : decode cX9_about 0 = .ok (.aload_n 0, 1) := by decide +kernel
theorem dX9_about_1 : decode cX9_about 1 = .ok (.getfield 12, 3) := by decide +kernel
theorem dX9_about_4 : decode cX9_about 4 = .ok (.iload_n 1, 1) := by decide +kernel
theorem dX9_about_5 : decode cX9_about 5 = .ok (.invokevirtual 87, 3) := by decide +kernel
theorem dX9_about_8 : decode cX9_about 8 = .ok (.ifCond .ne 5, 3) := by decide +kernel
theorem dX9_about_11 : decode cX9_about 11 = .ok (.iconst (-1), 1) := by decide +kernel
theorem dX9_about_12 : decode cX9_about 12 = .ok (.ireturn, 1) := by decide +kernel
theorem dX9_about_13 : decode cX9_about 13 = .ok (.aload_n 0, 1) := by decide +kernel
theorem dX9_about_14 : decode cX9_about 14 = .ok (.getfield 12, 3) := by decide +kernel
theorem dX9_about_17 : decode cX9_about 17 = .ok (.iload_n 1, 1) := by decide +kernel
theorem dX9_about_18 : decode cX9_about 18 = .ok (.invokevirtual 101, 3) := by decide +kernel
theorem dX9_about_21 : decode cX9_about 21 = .ok (.istore_n 3, 1) := by decide +kernel
theorem dX9_about_22 : decode cX9_about 22 = .ok (.iload_n 2, 1) := by decide +kernel
theorem dX9_about_23 : decode cX9_about 23 = .ok (.tableswitch 71 0 2 #[25, 35, 53], 25) := by decide +kernel
theorem dX9_about_48 : decode cX9_about 48 = .ok (.iload_n 3, 1) := by decide +kernel
theorem dX9_about_49 : decode cX9_about 49 = .ok (.ifCond .eq 7, 3) := by decide +kernel
theorem dX9_about_52 : decode cX9_about 52 = .ok (.iconst 1, 1) := by decide +kernel
theorem dX9_about_53 : decode cX9_about 53 = .ok (.goto 4, 3) := by decide +kernel
theorem dX9_about_56 : decode cX9_about 56 = .ok (.iconst 0, 1) := by decide +kernel
theorem dX9_about_57 : decode cX9_about 57 = .ok (.ireturn, 1) := by decide +kernel
theorem dX9_about_58 : decode cX9_about 58 = .ok (.iload_n 3, 1) := by decide +kernel
theorem dX9_about_59 : decode cX9_about 59 = .ok (.ifCond .eq 8, 3) := by decide +kernel
theorem dX9_about_62 : decode cX9_about 62 = .ok (.bipush (-9), 2) := by decide +kernel
theorem dX9_about_64 : decode cX9_about 64 = .ok (.goto 11, 3) := by decide +kernel
theorem dX9_about_67 : decode cX9_about 67 = .ok (.aload_n 0, 1) := by decide +kernel
theorem dX9_about_68 : decode cX9_about 68 = .ok (.getfield 12, 3) := by decide +kernel
theorem dX9_about_71 : decode cX9_about 71 = .ok (.iload_n 1, 1) := by decide +kernel
theorem dX9_about_72 : decode cX9_about 72 = .ok (.invokevirtual 111, 3) := by decide +kernel
theorem dX9_about_75 : decode cX9_about 75 = .ok (.ireturn, 1) := by decide +kernel
theorem dX9_about_76 : decode cX9_about 76 = .ok (.iload_n 3, 1) := by decide +kernel
theorem dX9_about_77 : decode cX9_about 77 = .ok (.ifCond .eq 14, 3) := by decide +kernel
theorem dX9_about_80 : decode cX9_about 80 = .ok (.aload_n 0, 1) := by decide +kernel
theorem dX9_about_81 : decode cX9_about 81 = .ok (.getfield 12, 3) := by decide +kernel
theorem dX9_about_84 : decode cX9_about 84 = .ok (.iload_n 1, 1) := by decide +kernel
theorem dX9_about_85 : decode cX9_about 85 = .ok (.invokevirtual 122, 3) := by decide +kernel
theorem dX9_about_88 : decode cX9_about 88 = .ok (.goto 5, 3) := by decide +kernel
theorem dX9_about_91 : decode cX9_about 91 = .ok (.bipush (-9), 2) := by decide +kernel
theorem dX9_about_93 : decode cX9_about 93 = .ok (.ireturn, 1) := by decide +kernel
theorem dX9_about_94 : decode cX9_about 94 = .ok (.bipush (-2), 2) := by decide +kernel
theorem dX9_about_96 : decode cX9_about 96 = .ok (.ireturn, 1) := by decide +kernel
set_option maxRecDepth 20000 in
theorem ggX9_word_X4_isMessage : GoodIn wsX9_word wsX4_isMessage := goodIn_r _ [7, 8, 9, 10, 6, 11, 12, 13, 14, 15, 16, 17, 18, 19, 47, 48, 49, 50, 51, 52] (by decide +kernel) (by decide +kernel)
set_option maxRecDepth 20000 in
theorem gX9_word_X4_isMessage : GoodIn wsX9_word (wsV RX9 125 RX4 yX4_isMessage wsX4_isMessage) := goodIn_app (goodIn_of _ (by decide +kernel)) ggX9_word_X4_isMessage
set_option maxRecDepth 20000 in
theorem ggX9_word_X4_wordOf : GoodIn wsX9_word wsX4_wordOf := goodIn_r _ [23, 24, 25, 26, 27, 28, 6, 29, 30, 31, 32, 33, 12, 34, 35, 36, 37, 47, 48, 49, 50, 51, 52] (by decide +kernel) (by decide +kernel)
set_option maxRecDepth 20000 in
theorem gX9_word_X4_wordOf : GoodIn wsX9_word (wsV RX9 129 RX4 yX4_wordOf wsX4_wordOf) := goodIn_app (goodIn_of _ (by decide +kernel)) ggX9_word_X4_wordOf
theorem dX9_word_0 : decode cX9_word 0 = .ok (.aload_n 0, 1) := by decide +kernel
theorem dX9_word_1 : decode cX9_word 1 = .ok (.getfield 12, 3) := by decide +kernel
theorem dX9_word_4 : decode cX9_word 4 = .ok (.lload_n 1, 1) := by decide +kernel
theorem dX9_word_5 : decode cX9_word 5 = .ok (.invokevirtual 125, 3) := by decide +kernel
theorem dX9_word_8 : decode cX9_word 8 = .ok (.ifCond .eq 14, 3) := by decide +kernel
theorem dX9_word_11 : decode cX9_word 11 = .ok (.aload_n 0, 1) := by decide +kernel
theorem dX9_word_12 : decode cX9_word 12 = .ok (.getfield 12, 3) := by decide +kernel
theorem dX9_word_15 : decode cX9_word 15 = .ok (.lload_n 1, 1) := by decide +kernel
theorem dX9_word_16 : decode cX9_word 16 = .ok (.invokevirtual 129, 3) := by decide +kernel
theorem dX9_word_19 : decode cX9_word 19 = .ok (.goto 6, 3) := by decide +kernel
theorem dX9_word_22 : decode cX9_word 22 = .ok (.ldc2_w 95, 3) := by decide +kernel
theorem dX9_word_25 : decode cX9_word 25 = .ok (.lreturn, 1) := by decide +kernel
set_option maxRecDepth 20000 in
theorem ggX9_fold_X4_isRow : GoodIn wsX9_fold wsX4_isRow := goodIn_r _ [8, 9, 10, 11, 7, 12, 13, 28, 29, 30, 31, 32, 33] (by decide +kernel) (by decide +kernel)
set_option maxRecDepth 20000 in
theorem gX9_fold_X4_isRow : GoodIn wsX9_fold (wsV RX9 133 RX4 yX4_isRow wsX4_isRow) := goodIn_app (goodIn_of _ (by decide +kernel)) ggX9_fold_X4_isRow
set_option maxRecDepth 20000 in
theorem ggX9_fold_X9_folded : GoodIn wsX9_fold wsX9_folded := goodIn_r _ [17, 18] (by decide +kernel) (by decide +kernel)
set_option maxRecDepth 20000 in
theorem gX9_fold_X9_folded : GoodIn wsX9_fold (va_wsS RX9 136 yX9_folded wsX9_folded) := goodIn_app (goodIn_of _ (by decide +kernel)) ggX9_fold_X9_folded
theorem dX9_fold_0 : decode cX9_fold 0 = .ok (.aload_n 0, 1) := by decide +kernel
theorem dX9_fold_1 : decode cX9_fold 1 = .ok (.getfield 12, 3) := by decide +kernel
theorem dX9_fold_4 : decode cX9_fold 4 = .ok (.lload_n 1, 1) := by decide +kernel
theorem dX9_fold_5 : decode cX9_fold 5 = .ok (.invokevirtual 133, 3) := by decide +kernel
