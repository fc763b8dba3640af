theorem dX5_passFrozen_25 : decode cX5_passFrozen 25 = .ok (.iload_n 1, 1) := by decide +kernel
theorem dX5_passFrozen_26 : decode cX5_passFrozen 26 = .ok (.iload_n 2, 1) := by decide +kernel
theorem dX5_passFrozen_27 : decode cX5_passFrozen 27 = .ok (.aload_n 0, 1) := by decide +kernel
theorem dX5_passFrozen_28 : decode cX5_passFrozen 28 = .ok (.getfield 15, 3) := by decide +kernel
theorem dX5_passFrozen_31 : decode cX5_passFrozen 31 = .ok (.iload 5, 2) := by decide +kernel
theorem dX5_passFrozen_33 : decode cX5_passFrozen 33 = .ok (.laload, 1) := by decide +kernel
theorem dX5_passFrozen_34 : decode cX5_passFrozen 34 = .ok (.invokevirtual 61, 3) := by decide +kernel
theorem dX5_passFrozen_37 : decode cX5_passFrozen 37 = .ok (.istore 6, 2) := by decide +kernel
theorem dX5_passFrozen_39 : decode cX5_passFrozen 39 = .ok (.iload 6, 2) := by decide +kernel
theorem dX5_passFrozen_41 : decode cX5_passFrozen 41 = .ok (.iconst 2, 1) := by decide +kernel
theorem dX5_passFrozen_42 : decode cX5_passFrozen 42 = .ok (.if_icmp .eq 9, 3) := by decide +kernel
theorem dX5_passFrozen_45 : decode cX5_passFrozen 45 = .ok (.iload 6, 2) := by decide +kernel
theorem dX5_passFrozen_47 : decode cX5_passFrozen 47 = .ok (.iload_n 3, 1) := by decide +kernel
theorem dX5_passFrozen_48 : decode cX5_passFrozen 48 = .ok (.if_icmp .ne 25, 3) := by decide +kernel
theorem dX5_passFrozen_51 : decode cX5_passFrozen 51 = .ok (.aload_n 0, 1) := by decide +kernel
theorem dX5_passFrozen_52 : decode cX5_passFrozen 52 = .ok (.getfield 19, 3) := by decide +kernel
theorem dX5_passFrozen_55 : decode cX5_passFrozen 55 = .ok (.iload 4, 2) := by decide +kernel
theorem dX5_passFrozen_57 : decode cX5_passFrozen 57 = .ok (.aload_n 0, 1) := by decide +kernel
theorem dX5_passFrozen_58 : decode cX5_passFrozen 58 = .ok (.getfield 15, 3) := by decide +kernel
theorem dX5_passFrozen_61 : decode cX5_passFrozen 61 = .ok (.iload 5, 2) := by decide +kernel
theorem dX5_passFrozen_63 : decode cX5_passFrozen 63 = .ok (.laload, 1) := by decide +kernel
theorem dX5_passFrozen_64 : decode cX5_passFrozen 64 = .ok (.iload_n 3, 1) := by decide +kernel
theorem dX5_passFrozen_65 : decode cX5_passFrozen 65 = .ok (.i2l, 1) := by decide +kernel
theorem dX5_passFrozen_66 : decode cX5_passFrozen 66 = .ok (.iload_n 2, 1) := by decide +kernel
theorem dX5_passFrozen_67 : decode cX5_passFrozen 67 = .ok (.lshl, 1) := by decide +kernel
theorem dX5_passFrozen_68 : decode cX5_passFrozen 68 = .ok (.lor, 1) := by decide +kernel
theorem dX5_passFrozen_69 : decode cX5_passFrozen 69 = .ok (.lastore, 1) := by decide +kernel
theorem dX5_passFrozen_70 : decode cX5_passFrozen 70 = .ok (.iinc 4 1, 3) := by decide +kernel
theorem dX5_passFrozen_73 : decode cX5_passFrozen 73 = .ok (.iinc 5 1, 3) := by decide +kernel
theorem dX5_passFrozen_76 : decode cX5_passFrozen 76 = .ok (.goto (-70), 3) := by decide +kernel
theorem dX5_passFrozen_79 : decode cX5_passFrozen 79 = .ok (.iload 4, 2) := by decide +kernel
theorem dX5_passFrozen_81 : decode cX5_passFrozen 81 = .ok (.ireturn, 1) := by decide +kernel
theorem dX5_turnTo_0 : decode cX5_turnTo 0 = .ok (.aload_n 0, 1) := by decide +kernel
theorem dX5_turnTo_1 : decode cX5_turnTo 1 = .ok (.getfield 15, 3) := by decide +kernel
theorem dX5_turnTo_4 : decode cX5_turnTo 4 = .ok (.astore_n 2, 1) := by decide +kernel
theorem dX5_turnTo_5 : decode cX5_turnTo 5 = .ok (.aload_n 0, 1) := by decide +kernel
theorem dX5_turnTo_6 : decode cX5_turnTo 6 = .ok (.aload_n 0, 1) := by decide +kernel
theorem dX5_turnTo_7 : decode cX5_turnTo 7 = .ok (.getfield 19, 3) := by decide +kernel
theorem dX5_turnTo_10 : decode cX5_turnTo 10 = .ok (.putfield 15, 3) := by decide +kernel
theorem dX5_turnTo_13 : decode cX5_turnTo 13 = .ok (.aload_n 0, 1) := by decide +kernel
theorem dX5_turnTo_14 : decode cX5_turnTo 14 = .ok (.aload_n 2, 1) := by decide +kernel
theorem dX5_turnTo_15 : decode cX5_turnTo 15 = .ok (.putfield 19, 3) := by decide +kernel
theorem dX5_turnTo_18 : decode cX5_turnTo 18 = .ok (.aload_n 0, 1) := by decide +kernel
theorem dX5_turnTo_19 : decode cX5_turnTo 19 = .ok (.iload_n 1, 1) := by decide +kernel
theorem dX5_turnTo_20 : decode cX5_turnTo 20 = .ok (.putfield 26, 3) := by decide +kernel
theorem dX5_turnTo_23 : decode cX5_turnTo 23 = .ok (.return_, 1) := by decide +kernel
set_option maxRecDepth 20000 in
theorem ggX5_bitTold_X9_folded : GoodIn wsX5_bitTold wsX9_folded := goodIn_r _ [6, 7] (by decide +kernel) (by decide +kernel)
set_option maxRecDepth 20000 in
theorem gX5_bitTold_X9_folded_n67 : GoodIn wsX5_bitTold (wsX9_folded) := ggX5_bitTold_X9_folded
theorem dX5_bitTold_0 : decode cX5_bitTold 0 = .ok (.aload_n 0, 1) := by decide +kernel
theorem dX5_bitTold_1 : decode cX5_bitTold 1 = .ok (.getfield 29, 3) := by decide +kernel
theorem dX5_bitTold_4 : decode cX5_bitTold 4 = .ok (.lstore 5, 2) := by decide +kernel
theorem dX5_bitTold_6 : decode cX5_bitTold 6 = .ok (.aload_n 0, 1) := by decide +kernel
theorem dX5_bitTold_7 : decode cX5_bitTold 7 = .ok (.getfield 33, 3) := by decide +kernel
theorem dX5_bitTold_10 : decode cX5_bitTold 10 = .ok (.lstore 7, 2) := by decide +kernel
theorem dX5_bitTold_12 : decode cX5_bitTold 12 = .ok (.lload_n 3, 1) := by decide +kernel
theorem dX5_bitTold_13 : decode cX5_bitTold 13 = .ok (.lstore 9, 2) := by decide +kernel
theorem dX5_bitTold_15 : decode cX5_bitTold 15 = .ok (.iload_n 1, 1) := by decide +kernel
theorem dX5_bitTold_16 : decode cX5_bitTold 16 = .ok (.iconst 2, 1) := by decide +kernel
theorem dX5_bitTold_17 : decode cX5_bitTold 17 = .ok (.idiv, 1) := by decide +kernel
theorem dX5_bitTold_18 : decode cX5_bitTold 18 = .ok (.istore 11, 2) := by decide +kernel
theorem dX5_bitTold_20 : decode cX5_bitTold 20 = .ok (.iload 11, 2) := by decide +kernel
theorem dX5_bitTold_22 : decode cX5_bitTold 22 = .ok (.iconst 1, 1) := by decide +kernel
theorem dX5_bitTold_23 : decode cX5_bitTold 23 = .ok (.if_icmp .lt 125, 3) := by decide +kernel
theorem dX5_bitTold_26 : decode cX5_bitTold 26 = .ok (.lconst 1, 1) := by decide +kernel
theorem dX5_bitTold_27 : decode cX5_bitTold 27 = .ok (.iload 11, 2) := by decide +kernel
theorem dX5_bitTold_29 : decode cX5_bitTold 29 = .ok (.lshl, 1) := by decide +kernel
theorem dX5_bitTold_30 : decode cX5_bitTold 30 = .ok (.lconst 1, 1) := by decide +kernel
theorem dX5_bitTold_31 : decode cX5_bitTold 31 = .ok (.lsub, 1) := by decide +kernel
theorem dX5_bitTold_32 : decode cX5_bitTold 32 = .ok (.lstore 12, 2) := by decide +kernel
theorem dX5_bitTold_34 : decode cX5_bitTold 34 = .ok (.lload 5, 2) := by decide +kernel
theorem dX5_bitTold_36 : decode cX5_bitTold 36 = .ok (.lload 12, 2) := by decide +kernel
theorem dX5_bitTold_38 : decode cX5_bitTold 38 = .ok (.land, 1) := by decide +kernel
theorem dX5_bitTold_39 : decode cX5_bitTold 39 = .ok (.lstore 14, 2) := by decide +kernel
theorem dX5_bitTold_41 : decode cX5_bitTold 41 = .ok (.lload 5, 2) := by decide +kernel
theorem dX5_bitTold_43 : decode cX5_bitTold 43 = .ok (.iload 11, 2) := by decide +kernel
theorem dX5_bitTold_45 : decode cX5_bitTold 45 = .ok (.lushr, 1) := by decide +kernel
theorem dX5_bitTold_46 : decode cX5_bitTold 46 = .ok (.lstore 16, 2) := by decide +kernel
theorem dX5_bitTold_48 : decode cX5_bitTold 48 = .ok (.lload 7, 2) := by decide +kernel
theorem dX5_bitTold_50 : decode cX5_bitTold 50 = .ok (.lload 12, 2) := by decide +kernel
theorem dX5_bitTold_52 : decode cX5_bitTold 52 = .ok (.land, 1) := by decide +kernel
theorem dX5_bitTold_53 : decode cX5_bitTold 53 = .ok (.lstore 18, 2) := by decide +kernel
theorem dX5_bitTold_55 : decode cX5_bitTold 55 = .ok (.lload 7, 2) := by decide +kernel
theorem dX5_bitTold_57 : decode cX5_bitTold 57 = .ok (.iload 11, 2) := by decide +kernel
theorem dX5_bitTold_59 : decode cX5_bitTold 59 = .ok (.lushr, 1) := by decide +kernel
theorem dX5_bitTold_60 : decode cX5_bitTold 60 = .ok (.lstore 20, 2) := by decide +kernel
theorem dX5_bitTold_62 : decode cX5_bitTold 62 = .ok (.iload_n 2, 1) := by decide +kernel
theorem dX5_bitTold_63 : decode cX5_bitTold 63 = .ok (.iload 11, 2) := by decide +kernel
theorem dX5_bitTold_65 : decode cX5_bitTold 65 = .ok (.iand, 1) := by decide +kernel
theorem dX5_bitTold_66 : decode cX5_bitTold 66 = .ok (.ifCond .ne 27, 3) := by decide +kernel
theorem dX5_bitTold_69 : decode cX5_bitTold 69 = .ok (.lload 18, 2) := by decide +kernel
theorem dX5_bitTold_71 : decode cX5_bitTold 71 = .ok (.lload 20, 2) := by decide +kernel
theorem dX5_bitTold_73 : decode cX5_bitTold 73 = .ok (.lor, 1) := by decide +kernel
theorem dX5_bitTold_74 : decode cX5_bitTold 74 = .ok (.lstore 7, 2) := by decide +kernel
theorem dX5_bitTold_76 : decode cX5_bitTold 76 = .ok (.lload 14, 2) := by decide +kernel
theorem dX5_bitTold_78 : decode cX5_bitTold 78 = .ok (.lload 16, 2) := by decide +kernel
theorem dX5_bitTold_80 : decode cX5_bitTold 80 = .ok (.lxor, 1) := by decide +kernel
theorem dX5_bitTold_81 : decode cX5_bitTold 81 = .ok (.lload 7, 2) := by decide +kernel
theorem dX5_bitTold_83 : decode cX5_bitTold 83 = .ok (.ldc2_w 65, 3) := by decide +kernel
theorem dX5_bitTold_86 : decode cX5_bitTold 86 = .ok (.lxor, 1) := by decide +kernel
theorem dX5_bitTold_87 : decode cX5_bitTold 87 = .ok (.land, 1) := by decide +kernel
theorem dX5_bitTold_88 : decode cX5_bitTold 88 = .ok (.lstore 5, 2) := by decide +kernel
theorem dX5_bitTold_90 : decode cX5_bitTold 90 = .ok (.goto 49, 3) := by decide +kernel
theorem dX5_bitTold_93 : decode cX5_bitTold 93 = .ok (.lload 9, 2) := by decide +kernel
theorem dX5_bitTold_95 : decode cX5_bitTold 95 = .ok (.lload 12, 2) := by decide +kernel
theorem dX5_bitTold_97 : decode cX5_bitTold 97 = .ok (.land, 1) := by decide +kernel
theorem dX5_bitTold_98 : decode cX5_bitTold 98 = .ok (.iload 11, 2) := by decide +kernel
theorem dX5_bitTold_100 : decode cX5_bitTold 100 = .ok (.invokestatic 67, 3) := by decide +kernel
theorem dX5_bitTold_103 : decode cX5_bitTold 103 = .ok (.lstore 22, 2) := by decide +kernel
theorem dX5_bitTold_105 : decode cX5_bitTold 105 = .ok (.lload 18, 2) := by decide +kernel
theorem dX5_bitTold_107 : decode cX5_bitTold 107 = .ok (.lload 20, 2) := by decide +kernel
theorem dX5_bitTold_109 : decode cX5_bitTold 109 = .ok (.land, 1) := by decide +kernel
theorem dX5_bitTold_110 : decode cX5_bitTold 110 = .ok (.lstore 7, 2) := by decide +kernel
theorem dX5_bitTold_112 : decode cX5_bitTold 112 = .ok (.lload 16, 2) := by decide +kernel
theorem dX5_bitTold_114 : decode cX5_bitTold 114 = .ok (.lload 14, 2) := by decide +kernel
theorem dX5_bitTold_116 : decode cX5_bitTold 116 = .ok (.lload 22, 2) := by decide +kernel
theorem dX5_bitTold_118 : decode cX5_bitTold 118 = .ok (.lxor, 1) := by decide +kernel
theorem dX5_bitTold_119 : decode cX5_bitTold 119 = .ok (.lload 20, 2) := by decide +kernel
theorem dX5_bitTold_121 : decode cX5_bitTold 121 = .ok (.land, 1) := by decide +kernel
theorem dX5_bitTold_122 : decode cX5_bitTold 122 = .ok (.lor, 1) := by decide +kernel
theorem dX5_bitTold_123 : decode cX5_bitTold 123 = .ok (.lload 7, 2) := by decide +kernel
theorem dX5_bitTold_125 : decode cX5_bitTold 125 = .ok (.ldc2_w 65, 3) := by decide +kernel
theorem dX5_bitTold_128 : decode cX5_bitTold 128 = .ok (.lxor, 1) := by decide +kernel
theorem dX5_bitTold_129 : decode cX5_bitTold 129 = .ok (.land, 1) := by decide +kernel
theorem dX5_bitTold_130 : decode cX5_bitTold 130 = .ok (.lstore 5, 2) := by decide +kernel
theorem dX5_bitTold_132 : decode cX5_bitTold 132 = .ok (.lload 9, 2) := by decide +kernel
theorem dX5_bitTold_134 : decode cX5_bitTold 134 = .ok (.iload 11, 2) := by decide +kernel
theorem dX5_bitTold_136 : decode cX5_bitTold 136 = .ok (.lushr, 1) := by decide +kernel
theorem dX5_bitTold_137 : decode cX5_bitTold 137 = .ok (.lstore 9, 2) := by decide +kernel
theorem dX5_bitTold_139 : decode cX5_bitTold 139 = .ok (.iload 11, 2) := by decide +kernel
theorem dX5_bitTold_141 : decode cX5_bitTold 141 = .ok (.iconst 2, 1) := by decide +kernel
theorem dX5_bitTold_142 : decode cX5_bitTold 142 = .ok (.idiv, 1) := by decide +kernel
theorem dX5_bitTold_143 : decode cX5_bitTold 143 = .ok (.istore 11, 2) := by decide +kernel
theorem dX5_bitTold_145 : decode cX5_bitTold 145 = .ok (.goto (-125), 3) := by decide +kernel
theorem dX5_bitTold_148 : decode cX5_bitTold 148 = .ok (.lload 7, 2) := by decide +kernel
theorem dX5_bitTold_150 : decode cX5_bitTold 150 = .ok (.lconst 0, 1) := by decide +kernel
theorem dX5_bitTold_151 : decode cX5_bitTold 151 = .ok (.lcmp, 1) := by decide +kernel
theorem dX5_bitTold_152 : decode cX5_bitTold 152 = .ok (.ifCond .eq 7, 3) := by decide +kernel
theorem dX5_bitTold_155 : decode cX5_bitTold 155 = .ok (.iconst 2, 1) := by decide +kernel
theorem dX5_bitTold_156 : decode cX5_bitTold 156 = .ok (.goto 6, 3) := by decide +kernel
theorem dX5_bitTold_159 : decode cX5_bitTold 159 = .ok (.lload 5, 2) := by decide +kernel
theorem dX5_bitTold_161 : decode cX5_bitTold 161 = .ok (.l2i, 1) := by decide +kernel
theorem dX5_bitTold_162 : decode cX5_bitTold 162 = .ok (.ireturn, 1) := by decide +kernel
set_option maxRecDepth 20000 in
theorem ggX5_firstThatMeetsCheck_X4_spread : GoodIn wsX5_firstThatMeetsCheck wsX4_spread := goodIn_r _ [8, 9, 10, 11, 12, 7, 13, 14, 30, 31, 32, 33, 34, 35] (by decide +kernel) (by decide +kernel)
set_option maxRecDepth 20000 in
theorem gX5_firstThatMeetsCheck_X4_spread : GoodIn wsX5_firstThatMeetsCheck (wsV RX5 74 RX4 yX4_spread wsX4_spread) := goodIn_app (goodIn_of _ (by decide +kernel)) ggX5_firstThatMeetsCheck_X4_spread
set_option maxRecDepth 20000 in
theorem ggX5_firstThatMeetsCheck_J13_bitCount_95d88 : GoodIn wsX5_firstThatMeetsCheck wsJ13_bitCount_95d88 := goodIn_r _ [18, 19, 20, 21] (by decide +kernel) (by decide +kernel)
set_option maxRecDepth 20000 in
theorem gX5_firstThatMeetsCheck_J13_bitCount_95d88 : GoodIn wsX5_firstThatMeetsCheck (va_wsS RX5 78 yJ13_bitCount_95d88 wsJ13_bitCount_95d88) := goodIn_app (goodIn_of _ (by decide +kernel)) ggX5_firstThatMeetsCheck_J13_bitCount_95d88
theorem dX5_firstThatMeetsCheck_0 : decode cX5_firstThatMeetsCheck 0 = .ok (.aload_n 1, 1) := by decide +kernel
theorem dX5_firstThatMeetsCheck_1 : decode cX5_firstThatMeetsCheck 1 = .ok (.aload_n 0, 1) := by decide +kernel
theorem dX5_firstThatMeetsCheck_2 : decode cX5_firstThatMeetsCheck 2 = .ok (.getfield 71, 3) := by decide +kernel
theorem dX5_firstThatMeetsCheck_5 : decode cX5_firstThatMeetsCheck 5 = .ok (.invokevirtual 74, 3) := by decide +kernel
theorem dX5_firstThatMeetsCheck_8 : decode cX5_firstThatMeetsCheck 8 = .ok (.lstore_n 2, 1) := by decide +kernel
theorem dX5_firstThatMeetsCheck_9 : decode cX5_firstThatMeetsCheck 9 = .ok (.iconst 0, 1) := by decide +kernel
theorem dX5_firstThatMeetsCheck_10 : decode cX5_firstThatMeetsCheck 10 = .ok (.istore 4, 2) := by decide +kernel
theorem dX5_firstThatMeetsCheck_12 : decode cX5_firstThatMeetsCheck 12 = .ok (.iload 4, 2) := by decide +kernel
theorem dX5_firstThatMeetsCheck_14 : decode cX5_firstThatMeetsCheck 14 = .ok (.aload_n 0, 1) := by decide +kernel
theorem dX5_firstThatMeetsCheck_15 : decode cX5_firstThatMeetsCheck 15 = .ok (.getfield 26, 3) := by decide +kernel
theorem dX5_firstThatMeetsCheck_18 : decode cX5_firstThatMeetsCheck 18 = .ok (.if_icmp .ge 29, 3) := by decide +kernel
theorem dX5_firstThatMeetsCheck_21 : decode cX5_firstThatMeetsCheck 21 = .ok (.aload_n 0, 1) := by decide +kernel
theorem dX5_firstThatMeetsCheck_22 : decode cX5_firstThatMeetsCheck 22 = .ok (.getfield 15, 3) := by decide +kernel
theorem dX5_firstThatMeetsCheck_25 : decode cX5_firstThatMeetsCheck 25 = .ok (.iload 4, 2) := by decide +kernel
theorem dX5_firstThatMeetsCheck_27 : decode cX5_firstThatMeetsCheck 27 = .ok (.laload, 1) := by decide +kernel
theorem dX5_firstThatMeetsCheck_28 : decode cX5_firstThatMeetsCheck 28 = .ok (.lload_n 2, 1) := by decide +kernel
theorem dX5_firstThatMeetsCheck_29 : decode cX5_firstThatMeetsCheck 29 = .ok (.land, 1) := by decide +kernel
theorem dX5_firstThatMeetsCheck_30 : decode cX5_firstThatMeetsCheck 30 = .ok (.invokestatic 78, 3) := by decide +kernel
theorem dX5_firstThatMeetsCheck_33 : decode cX5_firstThatMeetsCheck 33 = .ok (.iconst 1, 1) := by decide +kernel
theorem dX5_firstThatMeetsCheck_34 : decode cX5_firstThatMeetsCheck 34 = .ok (.iand, 1) := by decide +kernel
theorem dX5_firstThatMeetsCheck_35 : decode cX5_firstThatMeetsCheck 35 = .ok (.ifCond .ne 6, 3) := by decide +kernel
theorem dX5_firstThatMeetsCheck_38 : decode cX5_firstThatMeetsCheck 38 = .ok (.iload 4, 2) := by decide +kernel
theorem dX5_firstThatMeetsCheck_40 : decode cX5_firstThatMeetsCheck 40 = .ok (.ireturn, 1) := by decide +kernel
theorem dX5_firstThatMeetsCheck_41 : decode cX5_firstThatMeetsCheck 41 = .ok (.iinc 4 1, 3) := by decide +kernel
theorem dX5_firstThatMeetsCheck_44 : decode cX5_firstThatMeetsCheck 44 = .ok (.goto (-32), 3) := by decide +kernel
theorem dX5_firstThatMeetsCheck_47 : decode cX5_firstThatMeetsCheck 47 = .ok (.bipush (-9), 2) := by decide +kernel
theorem dX5_firstThatMeetsCheck_49 : decode cX5_firstThatMeetsCheck 49 = .ok (.ireturn, 1) := by decide +kernel
theorem dX6_init_0 : decode cX6_init 0 = .ok (.aload_n 0, 1) := by decide +kernel
theorem dX6_init_1 : decode cX6_init 1 = .ok (.invokespecial 3, 3) := by decide +kernel
theorem dX6_init_4 : decode cX6_init 4 = .ok (.aload_n 0, 1) := by decide +kernel
theorem dX6_init_5 : decode cX6_init 5 = .ok (.bipush 40, 2) := by decide +kernel
theorem dX6_init_7 : decode cX6_init 7 = .ok (.newarray .long, 2) := by decide +kernel
theorem dX6_init_9 : decode cX6_init 9 = .ok (.putfield 9, 3) := by decide +kernel
theorem dX6_init_12 : decode cX6_init 12 = .ok (.return_, 1) := by decide +kernel
set_option maxRecDepth 20000 in
theorem ggX6_begin_J7_fill_d0a16 : GoodIn wsX6_begin wsJ7_fill_d0a16 := goodIn_r _ [8] (by decide +kernel) (by decide +kernel)
set_option maxRecDepth 20000 in
theorem gX6_begin_J7_fill_d0a16 : GoodIn wsX6_begin (va_wsS RX6 26 yJ7_fill_d0a16 wsJ7_fill_d0a16) := goodIn_app (goodIn_of _ (by decide +kernel)) ggX6_begin_J7_fill_d0a16
theorem dX6_begin_0 : decode cX6_begin 0 = .ok (.aload_n 0, 1) := by decide +kernel
theorem dX6_begin_1 : decode cX6_begin 1 = .ok (.iconst 1, 1) := by decide +kernel
theorem dX6_begin_2 : decode cX6_begin 2 = .ok (.putfield 15, 3) := by decide +kernel
theorem dX6_begin_5 : decode cX6_begin 5 = .ok (.aload_n 0, 1) := by decide +kernel
theorem dX6_begin_6 : decode cX6_begin 6 = .ok (.iload_n 1, 1) := by decide +kernel
theorem dX6_begin_7 : decode cX6_begin 7 = .ok (.putfield 19, 3) := by decide +kernel
theorem dX6_begin_10 : decode cX6_begin 10 = .ok (.aload_n 0, 1) := by decide +kernel
theorem dX6_begin_11 : decode cX6_begin 11 = .ok (.iload_n 2, 1) := by decide +kernel
theorem dX6_begin_12 : decode cX6_begin 12 = .ok (.putfield 23, 3) := by decide +kernel
theorem dX6_begin_15 : decode cX6_begin 15 = .ok (.aload_n 0, 1) := by decide +kernel
theorem dX6_begin_16 : decode cX6_begin 16 = .ok (.getfield 9, 3) := by decide +kernel
theorem dX6_begin_19 : decode cX6_begin 19 = .ok (.lconst 0, 1) := by decide +kernel
theorem dX6_begin_20 : decode cX6_begin 20 = .ok (.invokestatic 26, 3) := by decide +kernel
theorem dX6_begin_23 : decode cX6_begin 23 = .ok (.return_, 1) := by decide +kernel
theorem dX6_hasCell_0 : decode cX6_hasCell 0 = .ok (.iload_n 1, 1) := by decide +kernel
theorem dX6_hasCell_1 : decode cX6_hasCell 1 = .ok (.ifCond .lt 15, 3) := by decide +kernel
theorem dX6_hasCell_4 : decode cX6_hasCell 4 = .ok (.iload_n 1, 1) := by decide +kernel
theorem dX6_hasCell_5 : decode cX6_hasCell 5 = .ok (.aload_n 0, 1) := by decide +kernel
theorem dX6_hasCell_6 : decode cX6_hasCell 6 = .ok (.getfield 23, 3) := by decide +kernel
theorem dX6_hasCell_9 : decode cX6_hasCell 9 = .ok (.if_icmp .ge 7, 3) := by decide +kernel
theorem dX6_hasCell_12 : decode cX6_hasCell 12 = .ok (.iconst 1, 1) := by decide +kernel
theorem dX6_hasCell_13 : decode cX6_hasCell 13 = .ok (.goto 4, 3) := by decide +kernel
theorem dX6_hasCell_16 : decode cX6_hasCell 16 = .ok (.iconst 0, 1) := by decide +kernel
theorem dX6_hasCell_17 : decode cX6_hasCell 17 = .ok (.ireturn, 1) := by decide +kernel
theorem dX6_hasCells_0 : decode cX6_hasCells 0 = .ok (.iload_n 1, 1) := by decide +kernel
theorem dX6_hasCells_1 : decode cX6_hasCells 1 = .ok (.ifCond .lt 29, 3) := by decide +kernel
theorem dX6_hasCells_4 : decode cX6_hasCells 4 = .ok (.iload_n 2, 1) := by decide +kernel
theorem dX6_hasCells_5 : decode cX6_hasCells 5 = .ok (.ifCond .lt 25, 3) := by decide +kernel
theorem dX6_hasCells_8 : decode cX6_hasCells 8 = .ok (.iload_n 1, 1) := by decide +kernel
theorem dX6_hasCells_9 : decode cX6_hasCells 9 = .ok (.aload_n 0, 1) := by decide +kernel
theorem dX6_hasCells_10 : decode cX6_hasCells 10 = .ok (.getfield 23, 3) := by decide +kernel
theorem dX6_hasCells_13 : decode cX6_hasCells 13 = .ok (.if_icmp .gt 17, 3) := by decide +kernel
theorem dX6_hasCells_16 : decode cX6_hasCells 16 = .ok (.iload_n 2, 1) := by decide +kernel
theorem dX6_hasCells_17 : decode cX6_hasCells 17 = .ok (.aload_n 0, 1) := by decide +kernel
theorem dX6_hasCells_18 : decode cX6_hasCells 18 = .ok (.getfield 23, 3) := by decide +kernel
theorem dX6_hasCells_21 : decode cX6_hasCells 21 = .ok (.iload_n 1, 1) := by decide +kernel
theorem dX6_hasCells_22 : decode cX6_hasCells 22 = .ok (.isub, 1) := by decide +kernel
theorem dX6_hasCells_23 : decode cX6_hasCells 23 = .ok (.if_icmp .gt 7, 3) := by decide +kernel
theorem dX6_hasCells_26 : decode cX6_hasCells 26 = .ok (.iconst 1, 1) := by decide +kernel
theorem dX6_hasCells_27 : decode cX6_hasCells 27 = .ok (.goto 4, 3) := by decide +kernel
theorem dX6_hasCells_30 : decode cX6_hasCells 30 = .ok (.iconst 0, 1) := by decide +kernel
theorem dX6_hasCells_31 : decode cX6_hasCells 31 = .ok (.ireturn, 1) := by decide +kernel
theorem dX6_cellAt_0 : decode cX6_cellAt 0 = .ok (.aload_n 0, 1) := by decide +kernel
theorem dX6_cellAt_1 : decode cX6_cellAt 1 = .ok (.getfield 9, 3) := by decide +kernel
theorem dX6_cellAt_4 : decode cX6_cellAt 4 = .ok (.iload_n 1, 1) := by decide +kernel
theorem dX6_cellAt_5 : decode cX6_cellAt 5 = .ok (.laload, 1) := by decide +kernel
theorem dX6_cellAt_6 : decode cX6_cellAt 6 = .ok (.lreturn, 1) := by decide +kernel
theorem dX6_setCell_0 : decode cX6_setCell 0 = .ok (.aload_n 0, 1) := by decide +kernel
theorem dX6_setCell_1 : decode cX6_setCell 1 = .ok (.getfield 19, 3) := by decide +kernel
theorem dX6_setCell_4 : decode cX6_setCell 4 = .ok (.ifCond .ne 16, 3) := by decide +kernel
theorem dX6_setCell_7 : decode cX6_setCell 7 = .ok (.aload_n 0, 1) := by decide +kernel
theorem dX6_setCell_8 : decode cX6_setCell 8 = .ok (.getfield 9, 3) := by decide +kernel
theorem dX6_setCell_11 : decode cX6_setCell 11 = .ok (.iload_n 1, 1) := by decide +kernel
theorem dX6_setCell_12 : decode cX6_setCell 12 = .ok (.lload_n 2, 1) := by decide +kernel
theorem dX6_setCell_13 : decode cX6_setCell 13 = .ok (.l2i, 1) := by decide +kernel
theorem dX6_setCell_14 : decode cX6_setCell 14 = .ok (.i2b, 1) := by decide +kernel
theorem dX6_setCell_15 : decode cX6_setCell 15 = .ok (.i2l, 1) := by decide +kernel
theorem dX6_setCell_16 : decode cX6_setCell 16 = .ok (.lastore, 1) := by decide +kernel
theorem dX6_setCell_17 : decode cX6_setCell 17 = .ok (.goto 30, 3) := by decide +kernel
theorem dX6_setCell_20 : decode cX6_setCell 20 = .ok (.aload_n 0, 1) := by decide +kernel
theorem dX6_setCell_21 : decode cX6_setCell 21 = .ok (.getfield 19, 3) := by decide +kernel
theorem dX6_setCell_24 : decode cX6_setCell 24 = .ok (.iconst 1, 1) := by decide +kernel
theorem dX6_setCell_25 : decode cX6_setCell 25 = .ok (.if_icmp .ne 15, 3) := by decide +kernel
theorem dX6_setCell_28 : decode cX6_setCell 28 = .ok (.aload_n 0, 1) := by decide +kernel
theorem dX6_setCell_29 : decode cX6_setCell 29 = .ok (.getfield 9, 3) := by decide +kernel
theorem dX6_setCell_32 : decode cX6_setCell 32 = .ok (.iload_n 1, 1) := by decide +kernel
theorem dX6_setCell_33 : decode cX6_setCell 33 = .ok (.lload_n 2, 1) := by decide +kernel
theorem dX6_setCell_34 : decode cX6_setCell 34 = .ok (.l2i, 1) := by decide +kernel
theorem dX6_setCell_35 : decode cX6_setCell 35 = .ok (.i2l, 1) := by decide +kernel
theorem dX6_setCell_36 : decode cX6_setCell 36 = .ok (.lastore, 1) := by decide +kernel
theorem dX6_setCell_37 : decode cX6_setCell 37 = .ok (.goto 10, 3) := by decide +kernel
theorem dX6_setCell_40 : decode cX6_setCell 40 = .ok (.aload_n 0, 1) := by decide +kernel
theorem dX6_setCell_41 : decode cX6_setCell 41 = .ok (.getfield 9, 3) := by decide +kernel
theorem dX6_setCell_44 : decode cX6_setCell 44 = .ok (.iload_n 1, 1) := by decide +kernel
theorem dX6_setCell_45 : decode cX6_setCell 45 = .ok (.lload_n 2, 1) := by decide +kernel
theorem dX6_setCell_46 : decode cX6_setCell 46 = .ok (.lastore, 1) := by decide +kernel
theorem dX6_setCell_47 : decode cX6_setCell 47 = .ok (.return_, 1) := by decide +kernel
theorem dX6_ones_0 : decode cX6_ones 0 = .ok (.lconst 0, 1) := by decide +kernel
theorem dX6_ones_1 : decode cX6_ones 1 = .ok (.lstore_n 2, 1) := by decide +kernel
theorem dX6_ones_2 : decode cX6_ones 2 = .ok (.iconst 0, 1) := by decide +kernel
theorem dX6_ones_3 : decode cX6_ones 3 = .ok (.istore 4, 2) := by decide +kernel
theorem dX6_ones_5 : decode cX6_ones 5 = .ok (.iload 4, 2) := by decide +kernel
theorem dX6_ones_7 : decode cX6_ones 7 = .ok (.iload_n 1, 1) := by decide +kernel
theorem dX6_ones_8 : decode cX6_ones 8 = .ok (.if_icmp .ge 28, 3) := by decide +kernel
theorem dX6_ones_11 : decode cX6_ones 11 = .ok (.aload_n 0, 1) := by decide +kernel
theorem dX6_ones_12 : decode cX6_ones 12 = .ok (.getfield 9, 3) := by decide +kernel
theorem dX6_ones_15 : decode cX6_ones 15 = .ok (.iload 4, 2) := by decide +kernel
theorem dX6_ones_17 : decode cX6_ones 17 = .ok (.laload, 1) := by decide +kernel
theorem dX6_ones_18 : decode cX6_ones 18 = .ok (.lconst 1, 1) := by decide +kernel
theorem dX6_ones_19 : decode cX6_ones 19 = .ok (.lcmp, 1) := by decide +kernel
theorem dX6_ones_20 : decode cX6_ones 20 = .ok (.ifCond .ne 10, 3) := by decide +kernel
theorem dX6_ones_23 : decode cX6_ones 23 = .ok (.lload_n 2, 1) := by decide +kernel
theorem dX6_ones_24 : decode cX6_ones 24 = .ok (.lconst 1, 1) := by decide +kernel
theorem dX6_ones_25 : decode cX6_ones 25 = .ok (.iload 4, 2) := by decide +kernel
theorem dX6_ones_27 : decode cX6_ones 27 = .ok (.lshl, 1) := by decide +kernel
theorem dX6_ones_28 : decode cX6_ones 28 = .ok (.lor, 1) := by decide +kernel
theorem dX6_ones_29 : decode cX6_ones 29 = .ok (.lstore_n 2, 1) := by decide +kernel
theorem dX6_ones_30 : decode cX6_ones 30 = .ok (.iinc 4 1, 3) := by decide +kernel
theorem dX6_ones_33 : decode cX6_ones 33 = .ok (.goto (-28), 3) := by decide +kernel
theorem dX6_ones_36 : decode cX6_ones 36 = .ok (.lload_n 2, 1) := by decide +kernel
theorem dX6_ones_37 : decode cX6_ones 37 = .ok (.lreturn, 1) := by decide +kernel
theorem dX6_lostSigns_0 : decode cX6_lostSigns 0 = .ok (.lconst 0, 1) := by decide +kernel
theorem dX6_lostSigns_1 : decode cX6_lostSigns 1 = .ok (.lstore_n 2, 1) := by decide +kernel
theorem dX6_lostSigns_2 : decode cX6_lostSigns 2 = .ok (.iconst 0, 1) := by decide +kernel
theorem dX6_lostSigns_3 : decode cX6_lostSigns 3 = .ok (.istore 4, 2) := by decide +kernel
theorem dX6_lostSigns_5 : decode cX6_lostSigns 5 = .ok (.iload 4, 2) := by decide +kernel
theorem dX6_lostSigns_7 : decode cX6_lostSigns 7 = .ok (.iload_n 1, 1) := by decide +kernel
theorem dX6_lostSigns_8 : decode cX6_lostSigns 8 = .ok (.if_icmp .ge 40, 3) := by decide +kernel
theorem dX6_lostSigns_11 : decode cX6_lostSigns 11 = .ok (.aload_n 0, 1) := by decide +kernel
theorem dX6_lostSigns_12 : decode cX6_lostSigns 12 = .ok (.getfield 9, 3) := by decide +kernel
theorem dX6_lostSigns_15 : decode cX6_lostSigns 15 = .ok (.iload 4, 2) := by decide +kernel
theorem dX6_lostSigns_17 : decode cX6_lostSigns 17 = .ok (.laload, 1) := by decide +kernel
theorem dX6_lostSigns_18 : decode cX6_lostSigns 18 = .ok (.lconst 0, 1) := by decide +kernel
theorem dX6_lostSigns_19 : decode cX6_lostSigns 19 = .ok (.lcmp, 1) := by decide +kernel
theorem dX6_lostSigns_20 : decode cX6_lostSigns 20 = .ok (.ifCond .eq 22, 3) := by decide +kernel
theorem dX6_lostSigns_23 : decode cX6_lostSigns 23 = .ok (.aload_n 0, 1) := by decide +kernel
theorem dX6_lostSigns_24 : decode cX6_lostSigns 24 = .ok (.getfield 9, 3) := by decide +kernel
theorem dX6_lostSigns_27 : decode cX6_lostSigns 27 = .ok (.iload 4, 2) := by decide +kernel
theorem dX6_lostSigns_29 : decode cX6_lostSigns 29 = .ok (.laload, 1) := by decide +kernel
theorem dX6_lostSigns_30 : decode cX6_lostSigns 30 = .ok (.lconst 1, 1) := by decide +kernel
theorem dX6_lostSigns_31 : decode cX6_lostSigns 31 = .ok (.lcmp, 1) := by decide +kernel
theorem dX6_lostSigns_32 : decode cX6_lostSigns 32 = .ok (.ifCond .eq 10, 3) := by decide +kernel
theorem dX6_lostSigns_35 : decode cX6_lostSigns 35 = .ok (.lload_n 2, 1) := by decide +kernel
theorem dX6_lostSigns_36 : decode cX6_lostSigns 36 = .ok (.lconst 1, 1) := by decide +kernel
theorem dX6_lostSigns_37 : decode cX6_lostSigns 37 = .ok (.iload 4, 2) := by decide +kernel
theorem dX6_lostSigns_39 : decode cX6_lostSigns 39 = .ok (.lshl, 1) := by decide +kernel
theorem dX6_lostSigns_40 : decode cX6_lostSigns 40 = .ok (.lor, 1) := by decide +kernel
theorem dX6_lostSigns_41 : decode cX6_lostSigns 41 = .ok (.lstore_n 2, 1) := by decide +kernel
theorem dX6_lostSigns_42 : decode cX6_lostSigns 42 = .ok (.iinc 4 1, 3) := by decide +kernel
theorem dX6_lostSigns_45 : decode cX6_lostSigns 45 = .ok (.goto (-40), 3) := by decide +kernel
theorem dX6_lostSigns_48 : decode cX6_lostSigns 48 = .ok (.lload_n 2, 1) := by decide +kernel
theorem dX6_lostSigns_49 : decode cX6_lostSigns 49 = .ok (.lreturn, 1) := by decide +kernel
theorem dX6_receive_0 : decode cX6_receive 0 = .ok (.iconst 0, 1) := by decide +kernel
theorem dX6_receive_1 : decode cX6_receive 1 = .ok (.istore 6, 2) := by decide +kernel
theorem dX6_receive_3 : decode cX6_receive 3 = .ok (.iload 6, 2) := by decide +kernel
theorem dX6_receive_5 : decode cX6_receive 5 = .ok (.iload 5, 2) := by decide +kernel
theorem dX6_receive_7 : decode cX6_receive 7 = .ok (.if_icmp .ge 39, 3) := by decide +kernel
theorem dX6_receive_10 : decode cX6_receive 10 = .ok (.aload_n 0, 1) := by decide +kernel
theorem dX6_receive_11 : decode cX6_receive 11 = .ok (.getfield 9, 3) := by decide +kernel
theorem dX6_receive_14 : decode cX6_receive 14 = .ok (.iload 6, 2) := by decide +kernel
theorem dX6_receive_16 : decode cX6_receive 16 = .ok (.lload_n 3, 1) := by decide +kernel
theorem dX6_receive_17 : decode cX6_receive 17 = .ok (.iload 6, 2) := by decide +kernel
theorem dX6_receive_19 : decode cX6_receive 19 = .ok (.lushr, 1) := by decide +kernel
theorem dX6_receive_20 : decode cX6_receive 20 = .ok (.lconst 1, 1) := by decide +kernel
theorem dX6_receive_21 : decode cX6_receive 21 = .ok (.land, 1) := by decide +kernel
theorem dX6_receive_22 : decode cX6_receive 22 = .ok (.lconst 0, 1) := by decide +kernel
theorem dX6_receive_23 : decode cX6_receive 23 = .ok (.lcmp, 1) := by decide +kernel
theorem dX6_receive_24 : decode cX6_receive 24 = .ok (.ifCond .eq 9, 3) := by decide +kernel
theorem dX6_receive_27 : decode cX6_receive 27 = .ok (.ldc2_w 32, 3) := by decide +kernel
theorem dX6_receive_30 : decode cX6_receive 30 = .ok (.goto 9, 3) := by decide +kernel
theorem dX6_receive_33 : decode cX6_receive 33 = .ok (.lload_n 1, 1) := by decide +kernel
theorem dX6_receive_34 : decode cX6_receive 34 = .ok (.iload 6, 2) := by decide +kernel
theorem dX6_receive_36 : decode cX6_receive 36 = .ok (.lushr, 1) := by decide +kernel
theorem dX6_receive_37 : decode cX6_receive 37 = .ok (.lconst 1, 1) := by decide +kernel
theorem dX6_receive_38 : decode cX6_receive 38 = .ok (.land, 1) := by decide +kernel
theorem dX6_receive_39 : decode cX6_receive 39 = .ok (.lastore, 1) := by decide +kernel
theorem dX6_receive_40 : decode cX6_receive 40 = .ok (.iinc 6 1, 3) := by decide +kernel
theorem dX6_receive_43 : decode cX6_receive 43 = .ok (.goto (-40), 3) := by decide +kernel
theorem dX6_receive_46 : decode cX6_receive 46 = .ok (.return_, 1) := by decide +kernel
theorem dX7_init_0 : decode cX7_init 0 = .ok (.aload_n 0, 1) := by decide +kernel
theorem dX7_init_1 : decode cX7_init 1 = .ok (.invokespecial 3, 3) := by decide +kernel
theorem dX7_init_4 : decode cX7_init 4 = .ok (.aload_n 0, 1) := by decide +kernel
theorem dX7_init_5 : decode cX7_init 5 = .ok (.bipush 33, 2) := by decide +kernel
theorem dX7_init_7 : decode cX7_init 7 = .ok (.newarray .int, 2) := by decide +kernel
theorem dX7_init_9 : decode cX7_init 9 = .ok (.putfield 9, 3) := by decide +kernel
theorem dX7_init_12 : decode cX7_init 12 = .ok (.aload_n 0, 1) := by decide +kernel
theorem dX7_init_13 : decode cX7_init 13 = .ok (.bipush 17, 2) := by decide +kernel
theorem dX7_init_15 : decode cX7_init 15 = .ok (.newarray .int, 2) := by decide +kernel
theorem dX7_init_17 : decode cX7_init 17 = .ok (.putfield 15, 3) := by decide +kernel
theorem dX7_init_20 : decode cX7_init 20 = .ok (.aload_n 0, 1) := by decide +kernel
theorem dX7_init_21 : decode cX7_init 21 = .ok (.bipush 17, 2) := by decide +kernel
theorem dX7_init_23 : decode cX7_init 23 = .ok (.newarray .int, 2) := by decide +kernel
theorem dX7_init_25 : decode cX7_init 25 = .ok (.putfield 18, 3) := by decide +kernel
theorem dX7_init_28 : decode cX7_init 28 = .ok (.aload_n 0, 1) := by decide +kernel
theorem dX7_init_29 : decode cX7_init 29 = .ok (.bipush 32, 2) := by decide +kernel
theorem dX7_init_31 : decode cX7_init 31 = .ok (.newarray .long, 2) := by decide +kernel
theorem dX7_init_33 : decode cX7_init 33 = .ok (.putfield 21, 3) := by decide +kernel
theorem dX7_init_36 : decode cX7_init 36 = .ok (.aload_n 0, 1) := by decide +kernel
theorem dX7_init_37 : decode cX7_init 37 = .ok (.bipush 17, 2) := by decide +kernel
theorem dX7_init_39 : decode cX7_init 39 = .ok (.newarray .int, 2) := by decide +kernel
theorem dX7_init_41 : decode cX7_init 41 = .ok (.putfield 25, 3) := by decide +kernel
theorem dX7_init_44 : decode cX7_init 44 = .ok (.aload_n 0, 1) := by decide +kernel
theorem dX7_init_45 : decode cX7_init 45 = .ok (.bipush 17, 2) := by decide +kernel
theorem dX7_init_47 : decode cX7_init 47 = .ok (.newarray .int, 2) := by decide +kernel
theorem dX7_init_49 : decode cX7_init 49 = .ok (.putfield 28, 3) := by decide +kernel
theorem dX7_init_52 : decode cX7_init 52 = .ok (.aload_n 0, 1) := by decide +kernel
theorem dX7_init_53 : decode cX7_init 53 = .ok (.sipush 256, 3) := by decide +kernel
theorem dX7_init_56 : decode cX7_init 56 = .ok (.newarray .int, 2) := by decide +kernel
theorem dX7_init_58 : decode cX7_init 58 = .ok (.putfield 31, 3) := by decide +kernel
theorem dX7_init_61 : decode cX7_init 61 = .ok (.return_, 1) := by decide +kernel
theorem dX7_forgetAll_0 : decode cX7_forgetAll 0 = .ok (.aload_n 0, 1) := by decide +kernel
theorem dX7_forgetAll_1 : decode cX7_forgetAll 1 = .ok (.iconst 0, 1) := by decide +kernel
theorem dX7_forgetAll_2 : decode cX7_forgetAll 2 = .ok (.putfield 34, 3) := by decide +kernel
theorem dX7_forgetAll_5 : decode cX7_forgetAll 5 = .ok (.aload_n 0, 1) := by decide +kernel
theorem dX7_forgetAll_6 : decode cX7_forgetAll 6 = .ok (.iconst 0, 1) := by decide +kernel
theorem dX7_forgetAll_7 : decode cX7_forgetAll 7 = .ok (.putfield 38, 3) := by decide +kernel
theorem dX7_forgetAll_10 : decode cX7_forgetAll 10 = .ok (.aload_n 0, 1) := by decide +kernel
theorem dX7_forgetAll_11 : decode cX7_forgetAll 11 = .ok (.iconst 0, 1) := by decide +kernel
theorem dX7_forgetAll_12 : decode cX7_forgetAll 12 = .ok (.putfield 41, 3) := by decide +kernel
theorem dX7_forgetAll_15 : decode cX7_forgetAll 15 = .ok (.return_, 1) := by decide +kernel
set_option maxRecDepth 20000 in
theorem ggX7_wordsWithOnes_X4_wordOf : GoodIn wsX7_wordsWithOnes wsX4_wordOf := goodIn_r _ [9, 10, 11, 12, 13, 14, 8, 15, 16, 17, 18, 19, 20, 21, 22, 23, 24, 61, 62, 63, 64, 65, 66] (by decide +kernel) (by decide +kernel)
set_option maxRecDepth 20000 in
theorem gX7_wordsWithOnes_X4_wordOf : GoodIn wsX7_wordsWithOnes (wsV RX7 50 RX4 yX4_wordOf wsX4_wordOf) := goodIn_app (goodIn_of _ (by decide +kernel)) ggX7_wordsWithOnes_X4_wordOf
set_option maxRecDepth 20000 in
theorem ggX7_wordsWithOnes_X7_countByOnes : GoodIn wsX7_wordsWithOnes wsX7_countByOnes := goodIn_r _ [29, 30, 31, 32, 33, 28, 34, 21, 22, 23, 24, 35, 36, 37, 38, 39, 40, 41, 42, 43, 44, 45, 46, 47, 48, 49, 50, 51, 52, 53, 54, 55, 56, 57, 58, 59, 60] (by decide +kernel) (by decide +kernel)
set_option maxRecDepth 20000 in
theorem gX7_wordsWithOnes_X7_countByOnes : GoodIn wsX7_wordsWithOnes (wsV RX7 58 RX7 yX7_countByOnes wsX7_countByOnes) := goodIn_app (goodIn_of _ (by decide +kernel)) ggX7_wordsWithOnes_X7_countByOnes
theorem dX7_wordsWithOnes_0 : decode cX7_wordsWithOnes 0 = .ok (.aload_n 0, 1) := by decide +kernel
theorem dX7_wordsWithOnes_1 : decode cX7_wordsWithOnes 1 = .ok (.getfield 34, 3) := by decide +kernel
theorem dX7_wordsWithOnes_4 : decode cX7_wordsWithOnes 4 = .ok (.ifCond .ne 29, 3) := by decide +kernel
theorem dX7_wordsWithOnes_7 : decode cX7_wordsWithOnes 7 = .ok (.aload_n 0, 1) := by decide +kernel
theorem dX7_wordsWithOnes_8 : decode cX7_wordsWithOnes 8 = .ok (.aload_n 1, 1) := by decide +kernel
theorem dX7_wordsWithOnes_9 : decode cX7_wordsWithOnes 9 = .ok (.getfield 44, 3) := by decide +kernel
theorem dX7_wordsWithOnes_12 : decode cX7_wordsWithOnes 12 = .ok (.aload_n 1, 1) := by decide +kernel
theorem dX7_wordsWithOnes_13 : decode cX7_wordsWithOnes 13 = .ok (.lconst 0, 1) := by decide +kernel
theorem dX7_wordsWithOnes_14 : decode cX7_wordsWithOnes 14 = .ok (.invokevirtual 50, 3) := by decide +kernel
theorem dX7_wordsWithOnes_17 : decode cX7_wordsWithOnes 17 = .ok (.aload_n 1, 1) := by decide +kernel
theorem dX7_wordsWithOnes_18 : decode cX7_wordsWithOnes 18 = .ok (.getfield 54, 3) := by decide +kernel
theorem dX7_wordsWithOnes_21 : decode cX7_wordsWithOnes 21 = .ok (.aload_n 0, 1) := by decide +kernel
theorem dX7_wordsWithOnes_22 : decode cX7_wordsWithOnes 22 = .ok (.getfield 9, 3) := by decide +kernel
theorem dX7_wordsWithOnes_25 : decode cX7_wordsWithOnes 25 = .ok (.invokevirtual 58, 3) := by decide +kernel
theorem dX7_wordsWithOnes_28 : decode cX7_wordsWithOnes 28 = .ok (.aload_n 0, 1) := by decide +kernel
theorem dX7_wordsWithOnes_29 : decode cX7_wordsWithOnes 29 = .ok (.iconst 1, 1) := by decide +kernel
theorem dX7_wordsWithOnes_30 : decode cX7_wordsWithOnes 30 = .ok (.putfield 34, 3) := by decide +kernel
theorem dX7_wordsWithOnes_33 : decode cX7_wordsWithOnes 33 = .ok (.aload_n 0, 1) := by decide +kernel
theorem dX7_wordsWithOnes_34 : decode cX7_wordsWithOnes 34 = .ok (.getfield 9, 3) := by decide +kernel
theorem dX7_wordsWithOnes_37 : decode cX7_wordsWithOnes 37 = .ok (.iload_n 2, 1) := by decide +kernel
theorem dX7_wordsWithOnes_38 : decode cX7_wordsWithOnes 38 = .ok (.iaload, 1) := by decide +kernel
theorem dX7_wordsWithOnes_39 : decode cX7_wordsWithOnes 39 = .ok (.ireturn, 1) := by decide +kernel
set_option maxRecDepth 20000 in
theorem ggX7_rowsAcross_X7_countAcross : GoodIn wsX7_rowsAcross wsX7_countAcross := goodIn_r _ [7, 8, 9, 10, 2, 11, 12, 13, 14, 15, 16, 17, 18, 19, 20, 21, 22, 23, 24, 25, 26, 27, 28, 29, 30, 31, 32, 33, 34, 35, 36, 37, 38, 39, 40, 6, 41, 42, 43, 44, 45, 46, 47, 48, 49, 50, 51, 52, 53, 54, 55, 56, 57, 58, 59, 60, 61, 62, 63, 64, 65, 66, 67, 68, 69, 80, 81, 82, 83, 84, 85, 70, 71, 72, 73, 74, 75, 76, 77, 78, 79] (by decide +kernel) (by decide +kernel)
set_option maxRecDepth 20000 in
theorem gX7_rowsAcross_X7_countAcross : GoodIn wsX7_rowsAcross (wsV RX7 62 RX7 yX7_countAcross wsX7_countAcross) := goodIn_app (goodIn_of _ (by decide +kernel)) ggX7_rowsAcross_X7_countAcross
theorem dX7_rowsAcross_0 : decode cX7_rowsAcross 0 = .ok (.aload_n 0, 1) := by decide +kernel
theorem dX7_rowsAcross_1 : decode cX7_rowsAcross 1 = .ok (.getfield 38, 3) := by decide +kernel
theorem dX7_rowsAcross_4 : decode cX7_rowsAcross 4 = .ok (.ifCond .ne 13, 3) := by decide +kernel
theorem dX7_rowsAcross_7 : decode cX7_rowsAcross 7 = .ok (.aload_n 0, 1) := by decide +kernel
theorem dX7_rowsAcross_8 : decode cX7_rowsAcross 8 = .ok (.aload_n 1, 1) := by decide +kernel
theorem dX7_rowsAcross_9 : decode cX7_rowsAcross 9 = .ok (.invokevirtual 62, 3) := by decide +kernel
theorem dX7_rowsAcross_12 : decode cX7_rowsAcross 12 = .ok (.aload_n 0, 1) := by decide +kernel
theorem dX7_rowsAcross_13 : decode cX7_rowsAcross 13 = .ok (.iconst 1, 1) := by decide +kernel
theorem dX7_rowsAcross_14 : decode cX7_rowsAcross 14 = .ok (.putfield 38, 3) := by decide +kernel
theorem dX7_rowsAcross_17 : decode cX7_rowsAcross 17 = .ok (.aload_n 0, 1) := by decide +kernel
theorem dX7_rowsAcross_18 : decode cX7_rowsAcross 18 = .ok (.getfield 15, 3) := by decide +kernel
theorem dX7_rowsAcross_21 : decode cX7_rowsAcross 21 = .ok (.iload_n 2, 1) := by decide +kernel
theorem dX7_rowsAcross_22 : decode cX7_rowsAcross 22 = .ok (.iaload, 1) := by decide +kernel
theorem dX7_rowsAcross_23 : decode cX7_rowsAcross 23 = .ok (.ireturn, 1) := by decide +kernel
set_option maxRecDepth 20000 in
theorem ggX7_failingSets_X7_countFailures : GoodIn wsX7_failingSets wsX7_countFailures := goodIn_r _ [7, 8, 9, 10, 2, 11, 12, 6, 13, 14, 15, 16, 17, 18, 19, 20, 21, 22, 23, 24, 35, 36, 37, 38, 39, 40, 25, 26, 27, 28, 29, 30, 31, 32, 33, 34] (by decide +kernel) (by decide +kernel)
set_option maxRecDepth 20000 in
theorem gX7_failingSets_X7_countFailures : GoodIn wsX7_failingSets (wsV RX7 66 RX7 yX7_countFailures wsX7_countFailures) := goodIn_app (goodIn_of _ (by decide +kernel)) ggX7_failingSets_X7_countFailures
theorem dX7_failingSets_0 : decode cX7_failingSets 0 = .ok (.aload_n 0, 1) := by decide +kernel
theorem dX7_failingSets_1 : decode cX7_failingSets 1 = .ok (.getfield 41, 3) := by decide +kernel
theorem dX7_failingSets_4 : decode cX7_failingSets 4 = .ok (.ifCond .ne 13, 3) := by decide +kernel
theorem dX7_failingSets_7 : decode cX7_failingSets 7 = .ok (.aload_n 0, 1) := by decide +kernel
theorem dX7_failingSets_8 : decode cX7_failingSets 8 = .ok (.aload_n 1, 1) := by decide +kernel
theorem dX7_failingSets_9 : decode cX7_failingSets 9 = .ok (.invokevirtual 66, 3) := by decide +kernel
theorem dX7_failingSets_12 : decode cX7_failingSets 12 = .ok (.aload_n 0, 1) := by decide +kernel
theorem dX7_failingSets_13 : decode cX7_failingSets 13 = .ok (.iconst 1, 1) := by decide +kernel
theorem dX7_failingSets_14 : decode cX7_failingSets 14 = .ok (.putfield 41, 3) := by decide +kernel
theorem dX7_failingSets_17 : decode cX7_failingSets 17 = .ok (.aload_n 0, 1) := by decide +kernel
theorem dX7_failingSets_18 : decode cX7_failingSets 18 = .ok (.getfield 18, 3) := by decide +kernel
theorem dX7_failingSets_21 : decode cX7_failingSets 21 = .ok (.iload_n 2, 1) := by decide +kernel
theorem dX7_failingSets_22 : decode cX7_failingSets 22 = .ok (.iaload, 1) := by decide +kernel
theorem dX7_failingSets_23 : decode cX7_failingSets 23 = .ok (.ireturn, 1) := by decide +kernel
set_option maxRecDepth 20000 in
theorem ggX7_nearestMessage_X7_prepareSteps : GoodIn wsX7_nearestMessage wsX7_prepareSteps := goodIn_r _ [8, 3, 9, 10, 11, 12, 52, 53, 54, 55, 56, 57, 58, 59, 60, 61] (by decide +kernel) (by decide +kernel)
set_option maxRecDepth 20000 in
theorem gX7_nearestMessage_X7_prepareSteps : GoodIn wsX7_nearestMessage (wsV RX7 69 RX7 yX7_prepareSteps wsX7_prepareSteps) := goodIn_app (goodIn_of _ (by decide +kernel)) ggX7_nearestMessage_X7_prepareSteps
set_option maxRecDepth 20000 in
theorem ggX7_nearestMessage_X4_wordOf : GoodIn wsX7_nearestMessage wsX4_wordOf := goodIn_r _ [17, 18, 19, 20, 21, 22, 16, 23, 24, 25, 26, 27, 28, 9, 10, 11, 12, 46, 47, 48, 49, 50, 51] (by decide +kernel) (by decide +kernel)
set_option maxRecDepth 20000 in
theorem gX7_nearestMessage_X4_wordOf : GoodIn wsX7_nearestMessage (wsV RX7 50 RX4 yX4_wordOf wsX4_wordOf) := goodIn_app (goodIn_of _ (by decide +kernel)) ggX7_nearestMessage_X4_wordOf
set_option maxRecDepth 20000 in
theorem ggX7_nearestMessage_J13_bitCount_95d88 : GoodIn wsX7_nearestMessage wsJ13_bitCount_95d88 := goodIn_r _ [32, 33, 34, 35] (by decide +kernel) (by decide +kernel)
set_option maxRecDepth 20000 in
theorem gX7_nearestMessage_J13_bitCount_95d88 : GoodIn wsX7_nearestMessage (va_wsS RX7 73 yJ13_bitCount_95d88 wsJ13_bitCount_95d88) := goodIn_app (goodIn_of _ (by decide +kernel)) ggX7_nearestMessage_J13_bitCount_95d88
set_option maxRecDepth 20000 in
theorem ggX7_nearestMessage_X4_goodCount : GoodIn wsX7_nearestMessage wsX4_goodCount := goodIn_r _ [39, 28, 40, 30, 31, 32, 33, 34, 35, 46, 47, 48, 49, 50, 51] (by decide +kernel) (by decide +kernel)
set_option maxRecDepth 20000 in
theorem gX7_nearestMessage_X4_goodCount : GoodIn wsX7_nearestMessage (wsV RX7 79 RX4 yX4_goodCount wsX4_goodCount) := goodIn_app (goodIn_of _ (by decide +kernel)) ggX7_nearestMessage_X4_goodCount
set_option maxRecDepth 20000 in
theorem ggX7_nearestMessage_J6_numberOfTrailingZeros_0f7a4 : GoodIn wsX7_nearestMessage wsJ6_numberOfTrailingZeros_0f7a4 := goodIn_r _ [44, 45] (by decide +kernel) (by decide +kernel)
set_option maxRecDepth 20000 in
theorem gX7_nearestMessage_J6_numberOfTrailingZeros_0f7a4 : GoodIn wsX7_nearestMessage (va_wsS RX7 83 yJ6_numberOfTrailingZeros_0f7a4 wsJ6_numberOfTrailingZeros_0f7a4) := goodIn_app (goodIn_of _ (by decide +kernel)) ggX7_nearestMessage_J6_numberOfTrailingZeros_0f7a4
theorem dX7_nearestMessage_0 : decode cX7_nearestMessage 0 = .ok (.aload_n 0, 1) := by decide +kernel
theorem dX7_nearestMessage_1 : decode cX7_nearestMessage 1 = .ok (.aload_n 1, 1) := by decide +kernel
theorem dX7_nearestMessage_2 : decode cX7_nearestMessage 2 = .ok (.getfield 44, 3) := by decide +kernel
theorem dX7_nearestMessage_5 : decode cX7_nearestMessage 5 = .ok (.aload_n 1, 1) := by decide +kernel
theorem dX7_nearestMessage_6 : decode cX7_nearestMessage 6 = .ok (.getfield 54, 3) := by decide +kernel
theorem dX7_nearestMessage_9 : decode cX7_nearestMessage 9 = .ok (.invokevirtual 69, 3) := by decide +kernel
theorem dX7_nearestMessage_12 : decode cX7_nearestMessage 12 = .ok (.aload_n 1, 1) := by decide +kernel
theorem dX7_nearestMessage_13 : decode cX7_nearestMessage 13 = .ok (.lconst 0, 1) := by decide +kernel
theorem dX7_nearestMessage_14 : decode cX7_nearestMessage 14 = .ok (.invokevirtual 50, 3) := by decide +kernel
theorem dX7_nearestMessage_17 : decode cX7_nearestMessage 17 = .ok (.lstore 6, 2) := by decide +kernel
theorem dX7_nearestMessage_19 : decode cX7_nearestMessage 19 = .ok (.lload 6, 2) := by decide +kernel
theorem dX7_nearestMessage_21 : decode cX7_nearestMessage 21 = .ok (.lload_n 2, 1) := by decide +kernel
theorem dX7_nearestMessage_22 : decode cX7_nearestMessage 22 = .ok (.lxor, 1) := by decide +kernel
theorem dX7_nearestMessage_23 : decode cX7_nearestMessage 23 = .ok (.lload 4, 2) := by decide +kernel
theorem dX7_nearestMessage_25 : decode cX7_nearestMessage 25 = .ok (.land, 1) := by decide +kernel
theorem dX7_nearestMessage_26 : decode cX7_nearestMessage 26 = .ok (.invokestatic 73, 3) := by decide +kernel
theorem dX7_nearestMessage_29 : decode cX7_nearestMessage 29 = .ok (.istore 8, 2) := by decide +kernel
theorem dX7_nearestMessage_31 : decode cX7_nearestMessage 31 = .ok (.iconst 0, 1) := by decide +kernel
theorem dX7_nearestMessage_32 : decode cX7_nearestMessage 32 = .ok (.istore 9, 2) := by decide +kernel
theorem dX7_nearestMessage_34 : decode cX7_nearestMessage 34 = .ok (.iconst 1, 1) := by decide +kernel
theorem dX7_nearestMessage_35 : decode cX7_nearestMessage 35 = .ok (.aload_n 1, 1) := by decide +kernel
theorem dX7_nearestMessage_36 : decode cX7_nearestMessage 36 = .ok (.invokevirtual 79, 3) := by decide +kernel
theorem dX7_nearestMessage_39 : decode cX7_nearestMessage 39 = .ok (.ishl, 1) := by decide +kernel
theorem dX7_nearestMessage_40 : decode cX7_nearestMessage 40 = .ok (.istore 10, 2) := by decide +kernel
theorem dX7_nearestMessage_42 : decode cX7_nearestMessage 42 = .ok (.iconst 1, 1) := by decide +kernel
theorem dX7_nearestMessage_43 : decode cX7_nearestMessage 43 = .ok (.istore 11, 2) := by decide +kernel
theorem dX7_nearestMessage_45 : decode cX7_nearestMessage 45 = .ok (.iload 11, 2) := by decide +kernel
theorem dX7_nearestMessage_47 : decode cX7_nearestMessage 47 = .ok (.iload 10, 2) := by decide +kernel
theorem dX7_nearestMessage_49 : decode cX7_nearestMessage 49 = .ok (.if_icmp .ge 51, 3) := by decide +kernel
theorem dX7_nearestMessage_52 : decode cX7_nearestMessage 52 = .ok (.lload 6, 2) := by decide +kernel
theorem dX7_nearestMessage_54 : decode cX7_nearestMessage 54 = .ok (.aload_n 0, 1) := by decide +kernel
theorem dX7_nearestMessage_55 : decode cX7_nearestMessage 55 = .ok (.getfield 21, 3) := by decide +kernel
theorem dX7_nearestMessage_58 : decode cX7_nearestMessage 58 = .ok (.iload 11, 2) := by decide +kernel
theorem dX7_nearestMessage_60 : decode cX7_nearestMessage 60 = .ok (.invokestatic 83, 3) := by decide +kernel
theorem dX7_nearestMessage_63 : decode cX7_nearestMessage 63 = .ok (.laload, 1) := by decide +kernel
theorem dX7_nearestMessage_64 : decode cX7_nearestMessage 64 = .ok (.lxor, 1) := by decide +kernel
theorem dX7_nearestMessage_65 : decode cX7_nearestMessage 65 = .ok (.lstore 6, 2) := by decide +kernel
theorem dX7_nearestMessage_67 : decode cX7_nearestMessage 67 = .ok (.lload 6, 2) := by decide +kernel
theorem dX7_nearestMessage_69 : decode cX7_nearestMessage 69 = .ok (.lload_n 2, 1) := by decide +kernel
theorem dX7_nearestMessage_70 : decode cX7_nearestMessage 70 = .ok (.lxor, 1) := by decide +kernel
theorem dX7_nearestMessage_71 : decode cX7_nearestMessage 71 = .ok (.lload 4, 2) := by decide +kernel
theorem dX7_nearestMessage_73 : decode cX7_nearestMessage 73 = .ok (.land, 1) := by decide +kernel
theorem dX7_nearestMessage_74 : decode cX7_nearestMessage 74 = .ok (.invokestatic 73, 3) := by decide +kernel
theorem dX7_nearestMessage_77 : decode cX7_nearestMessage 77 = .ok (.istore 12, 2) := by decide +kernel
theorem dX7_nearestMessage_79 : decode cX7_nearestMessage 79 = .ok (.iload 12, 2) := by decide +kernel
theorem dX7_nearestMessage_81 : decode cX7_nearestMessage 81 = .ok (.iload 8, 2) := by decide +kernel
theorem dX7_nearestMessage_83 : decode cX7_nearestMessage 83 = .ok (.if_icmp .ge 11, 3) := by decide +kernel
theorem dX7_nearestMessage_86 : decode cX7_nearestMessage 86 = .ok (.iload 12, 2) := by decide +kernel
theorem dX7_nearestMessage_88 : decode cX7_nearestMessage 88 = .ok (.istore 8, 2) := by decide +kernel
theorem dX7_nearestMessage_90 : decode cX7_nearestMessage 90 = .ok (.iload 11, 2) := by decide +kernel
theorem dX7_nearestMessage_92 : decode cX7_nearestMessage 92 = .ok (.istore 9, 2) := by decide +kernel
theorem dX7_nearestMessage_94 : decode cX7_nearestMessage 94 = .ok (.iinc 11 1, 3) := by decide +kernel
theorem dX7_nearestMessage_97 : decode cX7_nearestMessage 97 = .ok (.goto (-52), 3) := by decide +kernel
theorem dX7_nearestMessage_100 : decode cX7_nearestMessage 100 = .ok (.iload 9, 2) := by decide +kernel
theorem dX7_nearestMessage_102 : decode cX7_nearestMessage 102 = .ok (.i2l, 1) := by decide +kernel
theorem dX7_nearestMessage_103 : decode cX7_nearestMessage 103 = .ok (.lreturn, 1) := by decide +kernel
set_option maxRecDepth 20000 in
theorem ggX7_prepareSteps_X9_folded : GoodIn wsX7_prepareSteps wsX9_folded := goodIn_r _ [4, 5] (by decide +kernel) (by decide +kernel)
set_option maxRecDepth 20000 in
theorem gX7_prepareSteps_X9_folded_n89 : GoodIn wsX7_prepareSteps (wsX9_folded) := ggX7_prepareSteps_X9_folded
theorem dX7_prepareSteps_0 : decode cX7_prepareSteps 0 = .ok (.lconst 0, 1) := by decide +kernel
theorem dX7_prepareSteps_1 : decode cX7_prepareSteps 1 = .ok (.lstore 4, 2) := by decide +kernel
theorem dX7_prepareSteps_3 : decode cX7_prepareSteps 3 = .ok (.iconst 0, 1) := by decide +kernel
theorem dX7_prepareSteps_4 : decode cX7_prepareSteps 4 = .ok (.istore 6, 2) := by decide +kernel
theorem dX7_prepareSteps_6 : decode cX7_prepareSteps 6 = .ok (.iconst 0, 1) := by decide +kernel
theorem dX7_prepareSteps_7 : decode cX7_prepareSteps 7 = .ok (.istore 7, 2) := by decide +kernel
theorem dX7_prepareSteps_9 : decode cX7_prepareSteps 9 = .ok (.iload 7, 2) := by decide +kernel
theorem dX7_prepareSteps_11 : decode cX7_prepareSteps 11 = .ok (.iload_n 3, 1) := by decide +kernel
theorem dX7_prepareSteps_12 : decode cX7_prepareSteps 12 = .ok (.if_icmp .ge 45, 3) := by decide +kernel
theorem dX7_prepareSteps_15 : decode cX7_prepareSteps 15 = .ok (.lload_n 1, 1) := by decide +kernel
theorem dX7_prepareSteps_16 : decode cX7_prepareSteps 16 = .ok (.iload 7, 2) := by decide +kernel
theorem dX7_prepareSteps_18 : decode cX7_prepareSteps 18 = .ok (.lushr, 1) := by decide +kernel
theorem dX7_prepareSteps_19 : decode cX7_prepareSteps 19 = .ok (.lconst 1, 1) := by decide +kernel
theorem dX7_prepareSteps_20 : decode cX7_prepareSteps 20 = .ok (.land, 1) := by decide +kernel
theorem dX7_prepareSteps_21 : decode cX7_prepareSteps 21 = .ok (.lconst 0, 1) := by decide +kernel
theorem dX7_prepareSteps_22 : decode cX7_prepareSteps 22 = .ok (.lcmp, 1) := by decide +kernel
theorem dX7_prepareSteps_23 : decode cX7_prepareSteps 23 = .ok (.ifCond .eq 28, 3) := by decide +kernel
theorem dX7_prepareSteps_26 : decode cX7_prepareSteps 26 = .ok (.lload 4, 2) := by decide +kernel
theorem dX7_prepareSteps_28 : decode cX7_prepareSteps 28 = .ok (.lconst 1, 1) := by decide +kernel
theorem dX7_prepareSteps_29 : decode cX7_prepareSteps 29 = .ok (.iload 7, 2) := by decide +kernel
theorem dX7_prepareSteps_31 : decode cX7_prepareSteps 31 = .ok (.lshl, 1) := by decide +kernel
theorem dX7_prepareSteps_32 : decode cX7_prepareSteps 32 = .ok (.lor, 1) := by decide +kernel
theorem dX7_prepareSteps_33 : decode cX7_prepareSteps 33 = .ok (.lstore 4, 2) := by decide +kernel
theorem dX7_prepareSteps_35 : decode cX7_prepareSteps 35 = .ok (.aload_n 0, 1) := by decide +kernel
theorem dX7_prepareSteps_36 : decode cX7_prepareSteps 36 = .ok (.getfield 21, 3) := by decide +kernel
theorem dX7_prepareSteps_39 : decode cX7_prepareSteps 39 = .ok (.iload 6, 2) := by decide +kernel
theorem dX7_prepareSteps_41 : decode cX7_prepareSteps 41 = .ok (.lload 4, 2) := by decide +kernel
theorem dX7_prepareSteps_43 : decode cX7_prepareSteps 43 = .ok (.iload_n 3, 1) := by decide +kernel
theorem dX7_prepareSteps_44 : decode cX7_prepareSteps 44 = .ok (.invokestatic 89, 3) := by decide +kernel
theorem dX7_prepareSteps_47 : decode cX7_prepareSteps 47 = .ok (.lastore, 1) := by decide +kernel
theorem dX7_prepareSteps_48 : decode cX7_prepareSteps 48 = .ok (.iinc 6 1, 3) := by decide +kernel
theorem dX7_prepareSteps_51 : decode cX7_prepareSteps 51 = .ok (.iinc 7 1, 3) := by decide +kernel
theorem dX7_prepareSteps_54 : decode cX7_prepareSteps 54 = .ok (.goto (-45), 3) := by decide +kernel
theorem dX7_prepareSteps_57 : decode cX7_prepareSteps 57 = .ok (.return_, 1) := by decide +kernel
set_option maxRecDepth 20000 in
theorem ggX7_countByOnes_X7_prepareSteps : GoodIn wsX7_countByOnes wsX7_prepareSteps := goodIn_r _ [6, 1, 7, 8, 9, 10, 27, 28, 29, 30, 31, 32, 33, 34, 35, 36] (by decide +kernel) (by decide +kernel)
set_option maxRecDepth 20000 in
theorem gX7_countByOnes_X7_prepareSteps : GoodIn wsX7_countByOnes (wsV RX7 69 RX7 yX7_prepareSteps wsX7_prepareSteps) := goodIn_app (goodIn_of _ (by decide +kernel)) ggX7_countByOnes_X7_prepareSteps
set_option maxRecDepth 20000 in
theorem ggX7_countByOnes_J7_fill_53178 : GoodIn wsX7_countByOnes wsJ7_fill_53178 := goodIn_r _ [14] (by decide +kernel) (by decide +kernel)
set_option maxRecDepth 20000 in
theorem gX7_countByOnes_J7_fill_53178 : GoodIn wsX7_countByOnes (va_wsS RX7 93 yJ7_fill_53178 wsJ7_fill_53178) := goodIn_app (goodIn_of _ (by decide +kernel)) ggX7_countByOnes_J7_fill_53178
set_option maxRecDepth 20000 in
theorem ggX7_countByOnes_J13_bitCount_95d88 : GoodIn wsX7_countByOnes wsJ13_bitCount_95d88 := goodIn_r _ [18, 19, 20, 21] (by decide +kernel) (by decide +kernel)
set_option maxRecDepth 20000 in
theorem gX7_countByOnes_J13_bitCount_95d88 : GoodIn wsX7_countByOnes (va_wsS RX7 73 yJ13_bitCount_95d88 wsJ13_bitCount_95d88) := goodIn_app (goodIn_of _ (by decide +kernel)) ggX7_countByOnes_J13_bitCount_95d88
set_option maxRecDepth 20000 in
theorem ggX7_countByOnes_J6_numberOfTrailingZeros_0f7a4 : GoodIn wsX7_countByOnes wsJ6_numberOfTrailingZeros_0f7a4 := goodIn_r _ [25, 26] (by decide +kernel) (by decide +kernel)
set_option maxRecDepth 20000 in
theorem gX7_countByOnes_J6_numberOfTrailingZeros_0f7a4 : GoodIn wsX7_countByOnes (va_wsS RX7 83 yJ6_numberOfTrailingZeros_0f7a4 wsJ6_numberOfTrailingZeros_0f7a4) := goodIn_app (goodIn_of _ (by decide +kernel)) ggX7_countByOnes_J6_numberOfTrailingZeros_0f7a4
theorem dX7_countByOnes_0 : decode cX7_countByOnes 0 = .ok (.aload_n 0, 1) := by decide +kernel
theorem dX7_countByOnes_1 : decode cX7_countByOnes 1 = .ok (.lload_n 1, 1) := by decide +kernel
theorem dX7_countByOnes_2 : decode cX7_countByOnes 2 = .ok (.iload 5, 2) := by decide +kernel
theorem dX7_countByOnes_4 : decode cX7_countByOnes 4 = .ok (.invokevirtual 69, 3) := by decide +kernel
theorem dX7_countByOnes_7 : decode cX7_countByOnes 7 = .ok (.aload 6, 2) := by decide +kernel
theorem dX7_countByOnes_9 : decode cX7_countByOnes 9 = .ok (.iconst 0, 1) := by decide +kernel
theorem dX7_countByOnes_10 : decode cX7_countByOnes 10 = .ok (.invokestatic 93, 3) := by decide +kernel
theorem dX7_countByOnes_13 : decode cX7_countByOnes 13 = .ok (.lload_n 3, 1) := by decide +kernel
theorem dX7_countByOnes_14 : decode cX7_countByOnes 14 = .ok (.lstore 7, 2) := by decide +kernel
theorem dX7_countByOnes_16 : decode cX7_countByOnes 16 = .ok (.aload 6, 2) := by decide +kernel
theorem dX7_countByOnes_18 : decode cX7_countByOnes 18 = .ok (.lload 7, 2) := by decide +kernel
theorem dX7_countByOnes_20 : decode cX7_countByOnes 20 = .ok (.invokestatic 73, 3) := by decide +kernel
theorem dX7_countByOnes_23 : decode cX7_countByOnes 23 = .ok (.dup2, 1) := by decide +kernel
theorem dX7_countByOnes_24 : decode cX7_countByOnes 24 = .ok (.iaload, 1) := by decide +kernel
theorem dX7_countByOnes_25 : decode cX7_countByOnes 25 = .ok (.iconst 1, 1) := by decide +kernel
theorem dX7_countByOnes_26 : decode cX7_countByOnes 26 = .ok (.iadd, 1) := by decide +kernel
theorem dX7_countByOnes_27 : decode cX7_countByOnes 27 = .ok (.iastore, 1) := by decide +kernel
theorem dX7_countByOnes_28 : decode cX7_countByOnes 28 = .ok (.iconst 1, 1) := by decide +kernel
theorem dX7_countByOnes_29 : decode cX7_countByOnes 29 = .ok (.lload_n 1, 1) := by decide +kernel
theorem dX7_countByOnes_30 : decode cX7_countByOnes 30 = .ok (.invokestatic 73, 3) := by decide +kernel
theorem dX7_countByOnes_33 : decode cX7_countByOnes 33 = .ok (.ishl, 1) := by decide +kernel
theorem dX7_countByOnes_34 : decode cX7_countByOnes 34 = .ok (.istore 9, 2) := by decide +kernel
theorem dX7_countByOnes_36 : decode cX7_countByOnes 36 = .ok (.iconst 1, 1) := by decide +kernel
theorem dX7_countByOnes_37 : decode cX7_countByOnes 37 = .ok (.istore 10, 2) := by decide +kernel
theorem dX7_countByOnes_39 : decode cX7_countByOnes 39 = .ok (.iload 10, 2) := by decide +kernel
theorem dX7_countByOnes_41 : decode cX7_countByOnes 41 = .ok (.iload 9, 2) := by decide +kernel
theorem dX7_countByOnes_43 : decode cX7_countByOnes 43 = .ok (.if_icmp .ge 36, 3) := by decide +kernel
theorem dX7_countByOnes_46 : decode cX7_countByOnes 46 = .ok (.lload 7, 2) := by decide +kernel
theorem dX7_countByOnes_48 : decode cX7_countByOnes 48 = .ok (.aload_n 0, 1) := by decide +kernel
theorem dX7_countByOnes_49 : decode cX7_countByOnes 49 = .ok (.getfield 21, 3) := by decide +kernel
theorem dX7_countByOnes_52 : decode cX7_countByOnes 52 = .ok (.iload 10, 2) := by decide +kernel
theorem dX7_countByOnes_54 : decode cX7_countByOnes 54 = .ok (.invokestatic 83, 3) := by decide +kernel
theorem dX7_countByOnes_57 : decode cX7_countByOnes 57 = .ok (.laload, 1) := by decide +kernel
theorem dX7_countByOnes_58 : decode cX7_countByOnes 58 = .ok (.lxor, 1) := by decide +kernel
theorem dX7_countByOnes_59 : decode cX7_countByOnes 59 = .ok (.lstore 7, 2) := by decide +kernel
theorem dX7_countByOnes_61 : decode cX7_countByOnes 61 = .ok (.aload 6, 2) := by decide +kernel
theorem dX7_countByOnes_63 : decode cX7_countByOnes 63 = .ok (.lload 7, 2) := by decide +kernel
theorem dX7_countByOnes_65 : decode cX7_countByOnes 65 = .ok (.invokestatic 73, 3) := by decide +kernel
theorem dX7_countByOnes_68 : decode cX7_countByOnes 68 = .ok (.dup2, 1) := by decide +kernel
theorem dX7_countByOnes_69 : decode cX7_countByOnes 69 = .ok (.iaload, 1) := by decide +kernel
theorem dX7_countByOnes_70 : decode cX7_countByOnes 70 = .ok (.iconst 1, 1) := by decide +kernel
theorem dX7_countByOnes_71 : decode cX7_countByOnes 71 = .ok (.iadd, 1) := by decide +kernel
theorem dX7_countByOnes_72 : decode cX7_countByOnes 72 = .ok (.iastore, 1) := by decide +kernel
theorem dX7_countByOnes_73 : decode cX7_countByOnes 73 = .ok (.iinc 10 1, 3) := by decide +kernel
theorem dX7_countByOnes_76 : decode cX7_countByOnes 76 = .ok (.goto (-37), 3) := by decide +kernel
theorem dX7_countByOnes_79 : decode cX7_countByOnes 79 = .ok (.return_, 1) := by decide +kernel
set_option maxRecDepth 20000 in
theorem ggX7_countAcross_X4_goodCount : GoodIn wsX7_countAcross wsX4_goodCount := goodIn_r _ [10, 11, 12, 13, 14, 15, 16, 17, 18, 65, 66, 67, 68, 69, 70] (by decide +kernel) (by decide +kernel)
set_option maxRecDepth 20000 in
theorem gX7_countAcross_X4_goodCount : GoodIn wsX7_countAcross (wsV RX7 79 RX4 yX4_goodCount wsX4_goodCount) := goodIn_app (goodIn_of _ (by decide +kernel)) ggX7_countAcross_X4_goodCount
set_option maxRecDepth 20000 in
theorem ggX7_countAcross_X4_allPlaces : GoodIn wsX7_countAcross wsX4_allPlaces := goodIn_r _ [22, 23, 65, 66, 67, 68, 69, 70] (by decide +kernel) (by decide +kernel)
set_option maxRecDepth 20000 in
theorem gX7_countAcross_X4_allPlaces : GoodIn wsX7_countAcross (wsV RX7 99 RX4 yX4_allPlaces wsX4_allPlaces) := goodIn_app (goodIn_of _ (by decide +kernel)) ggX7_countAcross_X4_allPlaces
set_option maxRecDepth 20000 in
theorem ggX7_countAcross_J13_reverse_067f4 : GoodIn wsX7_countAcross wsJ13_reverse_067f4 := goodIn_r _ [26, 16, 17, 18, 27, 28, 14, 29, 30, 31] (by decide +kernel) (by decide +kernel)
set_option maxRecDepth 20000 in
theorem gX7_countAcross_J13_reverse_067f4 : GoodIn wsX7_countAcross (va_wsS RX7 105 yJ13_reverse_067f4 wsJ13_reverse_067f4) := goodIn_app (goodIn_of _ (by decide +kernel)) ggX7_countAcross_J13_reverse_067f4
set_option maxRecDepth 20000 in
theorem ggX7_countAcross_X7_countByOnes : GoodIn wsX7_countAcross wsX7_countByOnes := goodIn_r _ [36, 37, 38, 39, 40, 35, 41, 42, 43, 44, 45, 46, 47, 48, 49, 50, 13, 14, 15, 16, 17, 18, 51, 52, 53, 54, 55, 71, 72, 73, 74, 75, 76, 77, 78, 79, 80] (by decide +kernel) (by decide +kernel)
set_option maxRecDepth 20000 in
theorem gX7_countAcross_X7_countByOnes : GoodIn wsX7_countAcross (wsV RX7 58 RX7 yX7_countByOnes wsX7_countByOnes) := goodIn_app (goodIn_of _ (by decide +kernel)) ggX7_countAcross_X7_countByOnes
set_option maxRecDepth 20000 in
theorem ggX7_countAcross_X7_turnAcross : GoodIn wsX7_countAcross wsX7_turnAcross := goodIn_r _ [59, 4, 5, 60, 46, 47, 48, 49, 61, 62, 63, 35, 64, 71, 72, 73, 74, 75, 76, 77, 78, 79, 80] (by decide +kernel) (by decide +kernel)
set_option maxRecDepth 20000 in
theorem gX7_countAcross_X7_turnAcross : GoodIn wsX7_countAcross (wsV RX7 108 RX7 yX7_turnAcross wsX7_turnAcross) := goodIn_app (goodIn_of _ (by decide +kernel)) ggX7_countAcross_X7_turnAcross
theorem dX7_countAcross_0 : decode cX7_countAcross 0 = .ok (.aload_n 1, 1) := by decide +kernel
theorem dX7_countAcross_1 : decode cX7_countAcross 1 = .ok (.getfield 54, 3) := by decide +kernel
theorem dX7_countAcross_4 : decode cX7_countAcross 4 = .ok (.istore_n 2, 1) := by decide +kernel
theorem dX7_countAcross_5 : decode cX7_countAcross 5 = .ok (.aload_n 1, 1) := by decide +kernel
theorem dX7_countAcross_6 : decode cX7_countAcross 6 = .ok (.invokevirtual 79, 3) := by decide +kernel
theorem dX7_countAcross_9 : decode cX7_countAcross 9 = .ok (.iconst 2, 1) := by decide +kernel
theorem dX7_countAcross_10 : decode cX7_countAcross 10 = .ok (.imul, 1) := by decide +kernel
theorem dX7_countAcross_11 : decode cX7_countAcross 11 = .ok (.iload_n 2, 1) := by decide +kernel
theorem dX7_countAcross_12 : decode cX7_countAcross 12 = .ok (.if_icmp .lt 39, 3) := by decide +kernel
theorem dX7_countAcross_15 : decode cX7_countAcross 15 = .ok (.aload_n 1, 1) := by decide +kernel
theorem dX7_countAcross_16 : decode cX7_countAcross 16 = .ok (.invokevirtual 99, 3) := by decide +kernel
theorem dX7_countAcross_19 : decode cX7_countAcross 19 = .ok (.aload_n 1, 1) := by decide +kernel
theorem dX7_countAcross_20 : decode cX7_countAcross 20 = .ok (.getfield 44, 3) := by decide +kernel
theorem dX7_countAcross_23 : decode cX7_countAcross 23 = .ok (.ldc2_w 103, 3) := by decide +kernel
theorem dX7_countAcross_26 : decode cX7_countAcross 26 = .ok (.lxor, 1) := by decide +kernel
theorem dX7_countAcross_27 : decode cX7_countAcross 27 = .ok (.land, 1) := by decide +kernel
theorem dX7_countAcross_28 : decode cX7_countAcross 28 = .ok (.lstore_n 3, 1) := by decide +kernel
theorem dX7_countAcross_29 : decode cX7_countAcross 29 = .ok (.aload_n 0, 1) := by decide +kernel
theorem dX7_countAcross_30 : decode cX7_countAcross 30 = .ok (.lload_n 3, 1) := by decide +kernel
theorem dX7_countAcross_31 : decode cX7_countAcross 31 = .ok (.invokestatic 105, 3) := by decide +kernel
theorem dX7_countAcross_34 : decode cX7_countAcross 34 = .ok (.bipush 64, 2) := by decide +kernel
theorem dX7_countAcross_36 : decode cX7_countAcross 36 = .ok (.iload_n 2, 1) := by decide +kernel
theorem dX7_countAcross_37 : decode cX7_countAcross 37 = .ok (.isub, 1) := by decide +kernel
theorem dX7_countAcross_38 : decode cX7_countAcross 38 = .ok (.lushr, 1) := by decide +kernel
theorem dX7_countAcross_39 : decode cX7_countAcross 39 = .ok (.lconst 0, 1) := by decide +kernel
theorem dX7_countAcross_40 : decode cX7_countAcross 40 = .ok (.iload_n 2, 1) := by decide +kernel
theorem dX7_countAcross_41 : decode cX7_countAcross 41 = .ok (.aload_n 0, 1) := by decide +kernel
theorem dX7_countAcross_42 : decode cX7_countAcross 42 = .ok (.getfield 15, 3) := by decide +kernel
theorem dX7_countAcross_45 : decode cX7_countAcross 45 = .ok (.invokevirtual 58, 3) := by decide +kernel
theorem dX7_countAcross_48 : decode cX7_countAcross 48 = .ok (.goto 26, 3) := by decide +kernel
theorem dX7_countAcross_51 : decode cX7_countAcross 51 = .ok (.aload_n 0, 1) := by decide +kernel
theorem dX7_countAcross_52 : decode cX7_countAcross 52 = .ok (.aload_n 1, 1) := by decide +kernel
theorem dX7_countAcross_53 : decode cX7_countAcross 53 = .ok (.getfield 44, 3) := by decide +kernel
theorem dX7_countAcross_56 : decode cX7_countAcross 56 = .ok (.lconst 0, 1) := by decide +kernel
theorem dX7_countAcross_57 : decode cX7_countAcross 57 = .ok (.iload_n 2, 1) := by decide +kernel
theorem dX7_countAcross_58 : decode cX7_countAcross 58 = .ok (.aload_n 0, 1) := by decide +kernel
theorem dX7_countAcross_59 : decode cX7_countAcross 59 = .ok (.getfield 25, 3) := by decide +kernel
theorem dX7_countAcross_62 : decode cX7_countAcross 62 = .ok (.invokevirtual 58, 3) := by decide +kernel
theorem dX7_countAcross_65 : decode cX7_countAcross 65 = .ok (.aload_n 0, 1) := by decide +kernel
theorem dX7_countAcross_66 : decode cX7_countAcross 66 = .ok (.iload_n 2, 1) := by decide +kernel
theorem dX7_countAcross_67 : decode cX7_countAcross 67 = .ok (.aload_n 1, 1) := by decide +kernel
theorem dX7_countAcross_68 : decode cX7_countAcross 68 = .ok (.invokevirtual 79, 3) := by decide +kernel
theorem dX7_countAcross_71 : decode cX7_countAcross 71 = .ok (.invokevirtual 108, 3) := by decide +kernel
theorem dX7_countAcross_74 : decode cX7_countAcross 74 = .ok (.return_, 1) := by decide +kernel
set_option maxRecDepth 20000 in
theorem ggX7_turnAcross_J7_fill_53178 : GoodIn wsX7_turnAcross wsJ7_fill_53178 := goodIn_r _ [7] (by decide +kernel) (by decide +kernel)
set_option maxRecDepth 20000 in
theorem gX7_turnAcross_J7_fill_53178 : GoodIn wsX7_turnAcross (va_wsS RX7 93 yJ7_fill_53178 wsJ7_fill_53178) := goodIn_app (goodIn_of _ (by decide +kernel)) ggX7_turnAcross_J7_fill_53178
