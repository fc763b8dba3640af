theorem dX9_copy_54 : decode cX9_copy 54 = .ok (.invokevirtual 162, 3) := by decide +kernel
theorem dX9_copy_57 : decode cX9_copy 57 = .ok (.ireturn, 1) := by decide +kernel
theorem dX9_copy_58 : decode cX9_copy 58 = .ok (.aload 6, 2) := by decide +kernel
theorem dX9_copy_60 : decode cX9_copy 60 = .ok (.getfield 249, 3) := by decide +kernel
theorem dX9_copy_63 : decode cX9_copy 63 = .ok (.aload 7, 2) := by decide +kernel
theorem dX9_copy_65 : decode cX9_copy 65 = .ok (.getfield 249, 3) := by decide +kernel
theorem dX9_copy_68 : decode cX9_copy 68 = .ok (.if_icmp .eq 9, 3) := by decide +kernel
theorem dX9_copy_71 : decode cX9_copy 71 = .ok (.aload_n 0, 1) := by decide +kernel
theorem dX9_copy_72 : decode cX9_copy 72 = .ok (.iconst 2, 1) := by decide +kernel
theorem dX9_copy_73 : decode cX9_copy 73 = .ok (.invokevirtual 162, 3) := by decide +kernel
theorem dX9_copy_76 : decode cX9_copy 76 = .ok (.ireturn, 1) := by decide +kernel
theorem dX9_copy_77 : decode cX9_copy 77 = .ok (.aload 6, 2) := by decide +kernel
theorem dX9_copy_79 : decode cX9_copy 79 = .ok (.iload_n 2, 1) := by decide +kernel
theorem dX9_copy_80 : decode cX9_copy 80 = .ok (.iload 5, 2) := by decide +kernel
theorem dX9_copy_82 : decode cX9_copy 82 = .ok (.invokevirtual 252, 3) := by decide +kernel
theorem dX9_copy_85 : decode cX9_copy 85 = .ok (.ifCond .eq 15, 3) := by decide +kernel
theorem dX9_copy_88 : decode cX9_copy 88 = .ok (.aload 7, 2) := by decide +kernel
theorem dX9_copy_90 : decode cX9_copy 90 = .ok (.iload 4, 2) := by decide +kernel
theorem dX9_copy_92 : decode cX9_copy 92 = .ok (.iload 5, 2) := by decide +kernel
theorem dX9_copy_94 : decode cX9_copy 94 = .ok (.invokevirtual 252, 3) := by decide +kernel
theorem dX9_copy_97 : decode cX9_copy 97 = .ok (.ifCond .ne 9, 3) := by decide +kernel
theorem dX9_copy_100 : decode cX9_copy 100 = .ok (.aload_n 0, 1) := by decide +kernel
theorem dX9_copy_101 : decode cX9_copy 101 = .ok (.iconst 3, 1) := by decide +kernel
theorem dX9_copy_102 : decode cX9_copy 102 = .ok (.invokevirtual 162, 3) := by decide +kernel
theorem dX9_copy_105 : decode cX9_copy 105 = .ok (.ireturn, 1) := by decide +kernel
theorem dX9_copy_106 : decode cX9_copy 106 = .ok (.aload 6, 2) := by decide +kernel
theorem dX9_copy_108 : decode cX9_copy 108 = .ok (.getfield 256, 3) := by decide +kernel
theorem dX9_copy_111 : decode cX9_copy 111 = .ok (.iload_n 2, 1) := by decide +kernel
theorem dX9_copy_112 : decode cX9_copy 112 = .ok (.aload 7, 2) := by decide +kernel
theorem dX9_copy_114 : decode cX9_copy 114 = .ok (.getfield 256, 3) := by decide +kernel
theorem dX9_copy_117 : decode cX9_copy 117 = .ok (.iload 4, 2) := by decide +kernel
theorem dX9_copy_119 : decode cX9_copy 119 = .ok (.iload 5, 2) := by decide +kernel
theorem dX9_copy_121 : decode cX9_copy 121 = .ok (.invokestatic 260, 3) := by decide +kernel
theorem dX9_copy_124 : decode cX9_copy 124 = .ok (.aload_n 0, 1) := by decide +kernel
theorem dX9_copy_125 : decode cX9_copy 125 = .ok (.iload 5, 2) := by decide +kernel
theorem dX9_copy_127 : decode cX9_copy 127 = .ok (.invokevirtual 152, 3) := by decide +kernel
theorem dX9_copy_130 : decode cX9_copy 130 = .ok (.ireturn, 1) := by decide +kernel
set_option maxRecDepth 20000 in
theorem ggX9_tell_X4_has : GoodIn wsX9_tell wsX4_has := goodIn_r _ [7, 8, 78, 79, 80, 81, 82, 83] (by decide +kernel) (by decide +kernel)
set_option maxRecDepth 20000 in
theorem gX9_tell_X4_has : GoodIn wsX9_tell (wsV RX9 87 RX4 yX4_has wsX4_has) := goodIn_app (goodIn_of _ (by decide +kernel)) ggX9_tell_X4_has
set_option maxRecDepth 20000 in
theorem ggX9_tell_X9_partOf : GoodIn wsX9_tell wsX9_partOf := goodIn_r _ [13, 1, 14, 15, 16, 17, 18, 19, 6, 20, 21, 22, 23, 24, 25, 26, 27, 28, 29, 30, 8, 31, 32, 33, 34, 35, 36, 37, 38, 69, 70, 71, 72, 73, 74, 75, 76, 77, 78, 79, 80, 81, 82, 83] (by decide +kernel) (by decide +kernel)
set_option maxRecDepth 20000 in
theorem gX9_tell_X9_partOf : GoodIn wsX9_tell (wsV RX9 266 RX9 yX9_partOf wsX9_partOf) := goodIn_app (goodIn_of _ (by decide +kernel)) ggX9_tell_X9_partOf
set_option maxRecDepth 20000 in
theorem ggX9_tell_X0_telling : GoodIn wsX9_tell wsX0_telling := goodIn_r _ [44, 45, 46, 47, 48, 49, 50, 51, 52, 53, 54, 55, 56, 57, 84] (by decide +kernel) (by decide +kernel)
set_option maxRecDepth 20000 in
theorem gX9_tell_X0_telling_u270X0 : GoodIn wsX9_tell (va_wsU RX9 270 RX0 "PlainLines$Part" ⟨"PlainLines$Part", "telling", "(LPlainLines$Places;LPlainLines$Trail;I)I"⟩ yX0_telling wsX0_telling) := goodIn_app (goodIn_of _ (by decide +kernel)) ggX9_tell_X0_telling
set_option maxRecDepth 20000 in
theorem ggX9_tell_X1_telling : GoodIn wsX9_tell wsX1_telling := goodIn_r _ [61, 62, 46, 47, 48, 49, 50, 63, 64, 65, 6, 66, 67, 84, 78, 79, 80, 81, 82, 83] (by decide +kernel) (by decide +kernel)
set_option maxRecDepth 20000 in
theorem gX9_tell_X1_telling_u270X1 : GoodIn wsX9_tell (va_wsU RX9 270 RX1 "PlainLines$Part" ⟨"PlainLines$Part", "telling", "(LPlainLines$Places;LPlainLines$Trail;I)I"⟩ yX1_telling wsX1_telling) := goodIn_app (goodIn_of _ (by decide +kernel)) ggX9_tell_X1_telling
set_option maxRecDepth 20000 in
theorem ggX9_tell_X2_telling : GoodIn wsX9_tell wsX2_telling := goodIn_r _ [56, 57, 46, 47, 48, 49, 50, 84] (by decide +kernel) (by decide +kernel)
set_option maxRecDepth 20000 in
theorem gX9_tell_X2_telling_u270X2 : GoodIn wsX9_tell (va_wsU RX9 270 RX2 "PlainLines$Part" ⟨"PlainLines$Part", "telling", "(LPlainLines$Places;LPlainLines$Trail;I)I"⟩ yX2_telling wsX2_telling) := goodIn_app (goodIn_of _ (by decide +kernel)) ggX9_tell_X2_telling
theorem dX9_tell_0 : decode cX9_tell 0 = .ok (.aload_n 0, 1) := by decide +kernel
theorem dX9_tell_1 : decode cX9_tell 1 = .ok (.getfield 12, 3) := by decide +kernel
theorem dX9_tell_4 : decode cX9_tell 4 = .ok (.iload_n 1, 1) := by decide +kernel
theorem dX9_tell_5 : decode cX9_tell 5 = .ok (.invokevirtual 87, 3) := by decide +kernel
theorem dX9_tell_8 : decode cX9_tell 8 = .ok (.ifCond .eq 23, 3) := by decide +kernel
theorem dX9_tell_11 : decode cX9_tell 11 = .ok (.aload_n 0, 1) := by decide +kernel
theorem dX9_tell_12 : decode cX9_tell 12 = .ok (.iload_n 1, 1) := by decide +kernel
theorem dX9_tell_13 : decode cX9_tell 13 = .ok (.invokevirtual 266, 3) := by decide +kernel
theorem dX9_tell_16 : decode cX9_tell 16 = .ok (.aload_n 0, 1) := by decide +kernel
theorem dX9_tell_17 : decode cX9_tell 17 = .ok (.getfield 12, 3) := by decide +kernel
theorem dX9_tell_20 : decode cX9_tell 20 = .ok (.aload_n 0, 1) := by decide +kernel
theorem dX9_tell_21 : decode cX9_tell 21 = .ok (.getfield 42, 3) := by decide +kernel
theorem dX9_tell_24 : decode cX9_tell 24 = .ok (.iload_n 1, 1) := by decide +kernel
theorem dX9_tell_25 : decode cX9_tell 25 = .ok (.invokevirtual 270, 3) := by decide +kernel
theorem dX9_tell_28 : decode cX9_tell 28 = .ok (.goto 4, 3) := by decide +kernel
theorem dX9_tell_31 : decode cX9_tell 31 = .ok (.iconst (-1), 1) := by decide +kernel
theorem dX9_tell_32 : decode cX9_tell 32 = .ok (.ireturn, 1) := by decide +kernel
set_option maxRecDepth 20000 in
theorem ggX9_weigh_X4_has : GoodIn wsX9_weigh wsX4_has := goodIn_r _ [7, 8, 68, 69, 70, 71, 72, 73] (by decide +kernel) (by decide +kernel)
set_option maxRecDepth 20000 in
theorem gX9_weigh_X4_has : GoodIn wsX9_weigh (wsV RX9 87 RX4 yX4_has wsX4_has) := goodIn_app (goodIn_of _ (by decide +kernel)) ggX9_weigh_X4_has
set_option maxRecDepth 20000 in
theorem ggX9_weigh_X9_partOf : GoodIn wsX9_weigh wsX9_partOf := goodIn_r _ [13, 1, 14, 15, 16, 17, 18, 19, 6, 20, 21, 22, 23, 24, 25, 26, 27, 28, 29, 30, 8, 31, 32, 33, 34, 35, 36, 37, 38, 59, 60, 61, 62, 63, 64, 65, 66, 67, 68, 69, 70, 71, 72, 73] (by decide +kernel) (by decide +kernel)
set_option maxRecDepth 20000 in
theorem gX9_weigh_X9_partOf : GoodIn wsX9_weigh (wsV RX9 266 RX9 yX9_partOf wsX9_partOf) := goodIn_app (goodIn_of _ (by decide +kernel)) ggX9_weigh_X9_partOf
set_option maxRecDepth 20000 in
theorem ggX9_weigh_X2_weighing : GoodIn wsX9_weigh wsX2_weighing := goodIn_r _ [45, 46, 47, 48, 49, 50, 51, 52, 68, 69, 70, 71, 72, 73, 74] (by decide +kernel) (by decide +kernel)
set_option maxRecDepth 20000 in
theorem gX9_weigh_X2_weighing_u276X0 : GoodIn wsX9_weigh (va_wsO RX9 276 RX0 "PlainLines$Part" ⟨"PlainLines$Part", "weighing", "(LPlainLines$Places;LPlainLines$Trail;I)I"⟩ yX2_weighing wsX2_weighing) := goodIn_app (goodIn_of _ (by decide +kernel)) ggX9_weigh_X2_weighing
set_option maxRecDepth 20000 in
theorem ggX9_weigh_X3_weighing : GoodIn wsX9_weigh wsX3_weighing := goodIn_r _ [53, 57, 48, 49, 50, 51, 52, 74] (by decide +kernel) (by decide +kernel)
set_option maxRecDepth 20000 in
theorem gX9_weigh_X3_weighing_u276X1 : GoodIn wsX9_weigh (va_wsU RX9 276 RX1 "PlainLines$Part" ⟨"PlainLines$Part", "weighing", "(LPlainLines$Places;LPlainLines$Trail;I)I"⟩ yX3_weighing wsX3_weighing) := goodIn_app (goodIn_of _ (by decide +kernel)) ggX9_weigh_X3_weighing
set_option maxRecDepth 20000 in
theorem gX9_weigh_X2_weighing_u276X2 : GoodIn wsX9_weigh (va_wsO RX9 276 RX2 "PlainLines$Part" ⟨"PlainLines$Part", "weighing", "(LPlainLines$Places;LPlainLines$Trail;I)I"⟩ yX2_weighing wsX2_weighing) := goodIn_app (goodIn_of _ (by decide +kernel)) ggX9_weigh_X2_weighing
theorem dX9_weigh_0 : decode cX9_weigh 0 = .ok (.aload_n 0, 1) := by decide +kernel
theorem dX9_weigh_1 : decode cX9_weigh 1 = .ok (.getfield 12, 3) := by decide +kernel
theorem dX9_weigh_4 : decode cX9_weigh 4 = .ok (.iload_n 1, 1) := by decide +kernel
theorem dX9_weigh_5 : decode cX9_weigh 5 = .ok (.invokevirtual 87, 3) := by decide +kernel
theorem dX9_weigh_8 : decode cX9_weigh 8 = .ok (.ifCond .eq 23, 3) := by decide +kernel
theorem dX9_weigh_11 : decode cX9_weigh 11 = .ok (.aload_n 0, 1) := by decide +kernel
theorem dX9_weigh_12 : decode cX9_weigh 12 = .ok (.iload_n 1, 1) := by decide +kernel
theorem dX9_weigh_13 : decode cX9_weigh 13 = .ok (.invokevirtual 266, 3) := by decide +kernel
theorem dX9_weigh_16 : decode cX9_weigh 16 = .ok (.aload_n 0, 1) := by decide +kernel
theorem dX9_weigh_17 : decode cX9_weigh 17 = .ok (.getfield 12, 3) := by decide +kernel
theorem dX9_weigh_20 : decode cX9_weigh 20 = .ok (.aload_n 0, 1) := by decide +kernel
theorem dX9_weigh_21 : decode cX9_weigh 21 = .ok (.getfield 42, 3) := by decide +kernel
theorem dX9_weigh_24 : decode cX9_weigh 24 = .ok (.iload_n 1, 1) := by decide +kernel
theorem dX9_weigh_25 : decode cX9_weigh 25 = .ok (.invokevirtual 276, 3) := by decide +kernel
theorem dX9_weigh_28 : decode cX9_weigh 28 = .ok (.goto 4, 3) := by decide +kernel
theorem dX9_weigh_31 : decode cX9_weigh 31 = .ok (.iconst (-1), 1) := by decide +kernel
theorem dX9_weigh_32 : decode cX9_weigh 32 = .ok (.ireturn, 1) := by decide +kernel
set_option maxRecDepth 20000 in
theorem ggX9_as_X4_has : GoodIn wsX9_as wsX4_has := goodIn_r _ [6, 7, 62, 63, 64, 65, 66, 67] (by decide +kernel) (by decide +kernel)
set_option maxRecDepth 20000 in
theorem gX9_as_X4_has : GoodIn wsX9_as (wsV RX9 87 RX4 yX4_has wsX4_has) := goodIn_app (goodIn_of _ (by decide +kernel)) ggX9_as_X4_has
set_option maxRecDepth 20000 in
theorem ggX9_as_X9_faultless : GoodIn wsX9_as wsX9_faultless := goodIn_r _ [12, 13, 53, 54, 55, 56, 57, 58, 59, 60, 61] (by decide +kernel) (by decide +kernel)
set_option maxRecDepth 20000 in
theorem gX9_as_X9_faultless : GoodIn wsX9_as (wsV RX9 152 RX9 yX9_faultless wsX9_faultless) := goodIn_app (goodIn_of _ (by decide +kernel)) ggX9_as_X9_faultless
set_option maxRecDepth 20000 in
theorem ggX9_as_X9_partOf : GoodIn wsX9_as wsX9_partOf := goodIn_r _ [17, 1, 18, 19, 20, 21, 22, 23, 5, 24, 25, 26, 27, 28, 29, 30, 31, 32, 33, 34, 7, 35, 36, 37, 38, 39, 40, 41, 42, 53, 54, 55, 56, 57, 58, 59, 60, 61, 62, 63, 64, 65, 66, 67] (by decide +kernel) (by decide +kernel)
set_option maxRecDepth 20000 in
theorem gX9_as_X9_partOf : GoodIn wsX9_as (wsV RX9 266 RX9 yX9_partOf wsX9_partOf) := goodIn_app (goodIn_of _ (by decide +kernel)) ggX9_as_X9_partOf
set_option maxRecDepth 20000 in
theorem ggX9_as_X9_isOfKind : GoodIn wsX9_as wsX9_isOfKind := goodIn_r _ [45, 46, 47, 48] (by decide +kernel) (by decide +kernel)
set_option maxRecDepth 20000 in
theorem gX9_as_X9_isOfKind : GoodIn wsX9_as (va_wsS RX9 279 yX9_isOfKind wsX9_isOfKind) := goodIn_app (goodIn_of _ (by decide +kernel)) ggX9_as_X9_isOfKind
set_option maxRecDepth 20000 in
theorem ggX9_as_X9_faulted : GoodIn wsX9_as wsX9_faulted := goodIn_r _ [52, 13, 53, 54, 55, 56, 57, 58, 59, 60, 61] (by decide +kernel) (by decide +kernel)
set_option maxRecDepth 20000 in
theorem gX9_as_X9_faulted : GoodIn wsX9_as (wsV RX9 162 RX9 yX9_faulted wsX9_faulted) := goodIn_app (goodIn_of _ (by decide +kernel)) ggX9_as_X9_faulted
theorem dX9_as_0 : decode cX9_as 0 = .ok (.aload_n 0, 1) := by decide +kernel
theorem dX9_as_1 : decode cX9_as 1 = .ok (.getfield 12, 3) := by decide +kernel
theorem dX9_as_4 : decode cX9_as 4 = .ok (.iload_n 1, 1) := by decide +kernel
theorem dX9_as_5 : decode cX9_as 5 = .ok (.invokevirtual 87, 3) := by decide +kernel
theorem dX9_as_8 : decode cX9_as 8 = .ok (.ifCond .ne 9, 3) := by decide +kernel
theorem dX9_as_11 : decode cX9_as 11 = .ok (.aload_n 0, 1) := by decide +kernel
theorem dX9_as_12 : decode cX9_as 12 = .ok (.iconst (-1), 1) := by decide +kernel
theorem dX9_as_13 : decode cX9_as 13 = .ok (.invokevirtual 152, 3) := by decide +kernel
theorem dX9_as_16 : decode cX9_as 16 = .ok (.ireturn, 1) := by decide +kernel
theorem dX9_as_17 : decode cX9_as 17 = .ok (.iload_n 2, 1) := by decide +kernel
theorem dX9_as_18 : decode cX9_as 18 = .ok (.ifCond .lt 8, 3) := by decide +kernel
theorem dX9_as_21 : decode cX9_as 21 = .ok (.iload_n 2, 1) := by decide +kernel
theorem dX9_as_22 : decode cX9_as 22 = .ok (.iconst 2, 1) := by decide +kernel
theorem dX9_as_23 : decode cX9_as 23 = .ok (.if_icmp .le 10, 3) := by decide +kernel
theorem dX9_as_26 : decode cX9_as 26 = .ok (.aload_n 0, 1) := by decide +kernel
theorem dX9_as_27 : decode cX9_as 27 = .ok (.bipush (-2), 2) := by decide +kernel
theorem dX9_as_29 : decode cX9_as 29 = .ok (.invokevirtual 152, 3) := by decide +kernel
theorem dX9_as_32 : decode cX9_as 32 = .ok (.ireturn, 1) := by decide +kernel
theorem dX9_as_33 : decode cX9_as 33 = .ok (.aload_n 0, 1) := by decide +kernel
theorem dX9_as_34 : decode cX9_as 34 = .ok (.iload_n 1, 1) := by decide +kernel
theorem dX9_as_35 : decode cX9_as 35 = .ok (.invokevirtual 266, 3) := by decide +kernel
theorem dX9_as_38 : decode cX9_as 38 = .ok (.iload_n 2, 1) := by decide +kernel
theorem dX9_as_39 : decode cX9_as 39 = .ok (.invokestatic 279, 3) := by decide +kernel
theorem dX9_as_42 : decode cX9_as 42 = .ok (.ifCond .eq 11, 3) := by decide +kernel
theorem dX9_as_45 : decode cX9_as 45 = .ok (.aload_n 0, 1) := by decide +kernel
theorem dX9_as_46 : decode cX9_as 46 = .ok (.iconst 1, 1) := by decide +kernel
theorem dX9_as_47 : decode cX9_as 47 = .ok (.invokevirtual 152, 3) := by decide +kernel
theorem dX9_as_50 : decode cX9_as 50 = .ok (.goto 8, 3) := by decide +kernel
theorem dX9_as_53 : decode cX9_as 53 = .ok (.aload_n 0, 1) := by decide +kernel
theorem dX9_as_54 : decode cX9_as 54 = .ok (.iconst 2, 1) := by decide +kernel
theorem dX9_as_55 : decode cX9_as 55 = .ok (.invokevirtual 162, 3) := by decide +kernel
theorem dX9_as_58 : decode cX9_as 58 = .ok (.ireturn, 1) := by decide +kernel
theorem dX9_trace_0 : decode cX9_trace 0 = .ok (.aload_n 0, 1) := by decide +kernel
theorem dX9_trace_1 : decode cX9_trace 1 = .ok (.getfield 42, 3) := by decide +kernel
theorem dX9_trace_4 : decode cX9_trace 4 = .ok (.getfield 283, 3) := by decide +kernel
theorem dX9_trace_7 : decode cX9_trace 7 = .ok (.ireturn, 1) := by decide +kernel
theorem dX9_fault_0 : decode cX9_fault 0 = .ok (.aload_n 0, 1) := by decide +kernel
theorem dX9_fault_1 : decode cX9_fault 1 = .ok (.getfield 67, 3) := by decide +kernel
theorem dX9_fault_4 : decode cX9_fault 4 = .ok (.ireturn, 1) := by decide +kernel
set_option maxRecDepth 20000 in
theorem ggX9_told_X4_goodCount : GoodIn wsX9_told wsX4_goodCount := goodIn_r _ [13, 14, 15, 16, 17, 18, 19, 20, 21, 31, 32, 33, 34, 35, 36] (by decide +kernel) (by decide +kernel)
set_option maxRecDepth 20000 in
theorem gX9_told_X4_goodCount : GoodIn wsX9_told (wsV RX9 195 RX4 yX4_goodCount wsX4_goodCount) := goodIn_app (goodIn_of _ (by decide +kernel)) ggX9_told_X4_goodCount
theorem dX9_told_0 : decode cX9_told 0 = .ok (.iload_n 1, 1) := by decide +kernel
theorem dX9_told_1 : decode cX9_told 1 = .ok (.tableswitch 102 0 5 #[39, 47, 55, 63, 71, 79], 39) := by decide +kernel
theorem dX9_told_40 : decode cX9_told 40 = .ok (.aload_n 0, 1) := by decide +kernel
theorem dX9_told_41 : decode cX9_told 41 = .ok (.getfield 12, 3) := by decide +kernel
theorem dX9_told_44 : decode cX9_told 44 = .ok (.getfield 71, 3) := by decide +kernel
theorem dX9_told_47 : decode cX9_told 47 = .ok (.ireturn, 1) := by decide +kernel
theorem dX9_told_48 : decode cX9_told 48 = .ok (.aload_n 0, 1) := by decide +kernel
theorem dX9_told_49 : decode cX9_told 49 = .ok (.getfield 12, 3) := by decide +kernel
theorem dX9_told_52 : decode cX9_told 52 = .ok (.invokevirtual 195, 3) := by decide +kernel
theorem dX9_told_55 : decode cX9_told 55 = .ok (.ireturn, 1) := by decide +kernel
theorem dX9_told_56 : decode cX9_told 56 = .ok (.aload_n 0, 1) := by decide +kernel
theorem dX9_told_57 : decode cX9_told 57 = .ok (.getfield 12, 3) := by decide +kernel
theorem dX9_told_60 : decode cX9_told 60 = .ok (.getfield 81, 3) := by decide +kernel
theorem dX9_told_63 : decode cX9_told 63 = .ok (.ireturn, 1) := by decide +kernel
theorem dX9_told_64 : decode cX9_told 64 = .ok (.aload_n 0, 1) := by decide +kernel
theorem dX9_told_65 : decode cX9_told 65 = .ok (.getfield 12, 3) := by decide +kernel
theorem dX9_told_68 : decode cX9_told 68 = .ok (.getfield 84, 3) := by decide +kernel
theorem dX9_told_71 : decode cX9_told 71 = .ok (.ireturn, 1) := by decide +kernel
theorem dX9_told_72 : decode cX9_told 72 = .ok (.aload_n 0, 1) := by decide +kernel
theorem dX9_told_73 : decode cX9_told 73 = .ok (.getfield 21, 3) := by decide +kernel
theorem dX9_told_76 : decode cX9_told 76 = .ok (.getfield 140, 3) := by decide +kernel
theorem dX9_told_79 : decode cX9_told 79 = .ok (.ireturn, 1) := by decide +kernel
theorem dX9_told_80 : decode cX9_told 80 = .ok (.aload_n 0, 1) := by decide +kernel
theorem dX9_told_81 : decode cX9_told 81 = .ok (.getfield 21, 3) := by decide +kernel
theorem dX9_told_84 : decode cX9_told 84 = .ok (.getfield 187, 3) := by decide +kernel
theorem dX9_told_87 : decode cX9_told 87 = .ok (.ifCond .eq 13, 3) := by decide +kernel
theorem dX9_told_90 : decode cX9_told 90 = .ok (.aload_n 0, 1) := by decide +kernel
theorem dX9_told_91 : decode cX9_told 91 = .ok (.getfield 21, 3) := by decide +kernel
theorem dX9_told_94 : decode cX9_told 94 = .ok (.getfield 175, 3) := by decide +kernel
theorem dX9_told_97 : decode cX9_told 97 = .ok (.goto 5, 3) := by decide +kernel
theorem dX9_told_100 : decode cX9_told 100 = .ok (.bipush (-9), 2) := by decide +kernel
theorem dX9_told_102 : decode cX9_told 102 = .ok (.ireturn, 1) := by decide +kernel
theorem dX9_told_103 : decode cX9_told 103 = .ok (.bipush (-2), 2) := by decide +kernel
theorem dX9_told_105 : decode cX9_told 105 = .ok (.ireturn, 1) := by decide +kernel
set_option maxRecDepth 20000 in
theorem ggX9_forgetWhatRestsOnPlaces_X7_forgetAll : GoodIn wsX9_forgetWhatRestsOnPlaces wsX7_forgetAll := goodIn_r _ [8, 9, 10, 11, 29, 30, 31, 32, 33, 34, 35, 36, 37, 38] (by decide +kernel) (by decide +kernel)
set_option maxRecDepth 20000 in
theorem gX9_forgetWhatRestsOnPlaces_X7_forgetAll : GoodIn wsX9_forgetWhatRestsOnPlaces (wsV RX9 286 RX7 yX7_forgetAll wsX7_forgetAll) := goodIn_app (goodIn_of _ (by decide +kernel)) ggX9_forgetWhatRestsOnPlaces_X7_forgetAll
theorem dX9_forgetWhatRestsOnPlaces_0 : decode cX9_forgetWhatRestsOnPlaces 0 = .ok (.aload_n 0, 1) := by decide +kernel
theorem dX9_forgetWhatRestsOnPlaces_1 : decode cX9_forgetWhatRestsOnPlaces 1 = .ok (.getfield 21, 3) := by decide +kernel
theorem dX9_forgetWhatRestsOnPlaces_4 : decode cX9_forgetWhatRestsOnPlaces 4 = .ok (.iconst 0, 1) := by decide +kernel
theorem dX9_forgetWhatRestsOnPlaces_5 : decode cX9_forgetWhatRestsOnPlaces 5 = .ok (.putfield 187, 3) := by decide +kernel
theorem dX9_forgetWhatRestsOnPlaces_8 : decode cX9_forgetWhatRestsOnPlaces 8 = .ok (.aload_n 0, 1) := by decide +kernel
theorem dX9_forgetWhatRestsOnPlaces_9 : decode cX9_forgetWhatRestsOnPlaces 9 = .ok (.getfield 28, 3) := by decide +kernel
theorem dX9_forgetWhatRestsOnPlaces_12 : decode cX9_forgetWhatRestsOnPlaces 12 = .ok (.invokevirtual 286, 3) := by decide +kernel
theorem dX9_forgetWhatRestsOnPlaces_15 : decode cX9_forgetWhatRestsOnPlaces 15 = .ok (.return_, 1) := by decide +kernel
theorem dX9_faulted_0 : decode cX9_faulted 0 = .ok (.aload_n 0, 1) := by decide +kernel
theorem dX9_faulted_1 : decode cX9_faulted 1 = .ok (.iload_n 1, 1) := by decide +kernel
theorem dX9_faulted_2 : decode cX9_faulted 2 = .ok (.putfield 67, 3) := by decide +kernel
theorem dX9_faulted_5 : decode cX9_faulted 5 = .ok (.bipush (-10), 2) := by decide +kernel
theorem dX9_faulted_7 : decode cX9_faulted 7 = .ok (.iload_n 1, 1) := by decide +kernel
theorem dX9_faulted_8 : decode cX9_faulted 8 = .ok (.isub, 1) := by decide +kernel
theorem dX9_faulted_9 : decode cX9_faulted 9 = .ok (.ireturn, 1) := by decide +kernel
theorem dX9_faultless_0 : decode cX9_faultless 0 = .ok (.aload_n 0, 1) := by decide +kernel
theorem dX9_faultless_1 : decode cX9_faultless 1 = .ok (.iconst 0, 1) := by decide +kernel
theorem dX9_faultless_2 : decode cX9_faultless 2 = .ok (.putfield 67, 3) := by decide +kernel
theorem dX9_faultless_5 : decode cX9_faultless 5 = .ok (.iload_n 1, 1) := by decide +kernel
theorem dX9_faultless_6 : decode cX9_faultless 6 = .ok (.ireturn, 1) := by decide +kernel
set_option maxRecDepth 20000 in
theorem ggX9_rowFlaw_X9_cellFlaw : GoodIn wsX9_rowFlaw wsX9_cellFlaw := goodIn_r _ [6, 7, 8, 9, 10, 11, 12, 13, 14, 30, 31, 32, 33] (by decide +kernel) (by decide +kernel)
set_option maxRecDepth 20000 in
theorem gX9_rowFlaw_X9_cellFlaw : GoodIn wsX9_rowFlaw (va_wsS RX9 242 yX9_cellFlaw wsX9_cellFlaw) := goodIn_app (goodIn_of _ (by decide +kernel)) ggX9_rowFlaw_X9_cellFlaw
theorem dX9_rowFlaw_0 : decode cX9_rowFlaw 0 = .ok (.aload_n 1, 1) := by decide +kernel
theorem dX9_rowFlaw_1 : decode cX9_rowFlaw 1 = .ok (.aload_n 0, 1) := by decide +kernel
theorem dX9_rowFlaw_2 : decode cX9_rowFlaw 2 = .ok (.getfield 12, 3) := by decide +kernel
theorem dX9_rowFlaw_5 : decode cX9_rowFlaw 5 = .ok (.getfield 71, 3) := by decide +kernel
theorem dX9_rowFlaw_8 : decode cX9_rowFlaw 8 = .ok (.iconst 1, 1) := by decide +kernel
theorem dX9_rowFlaw_9 : decode cX9_rowFlaw 9 = .ok (.isub, 1) := by decide +kernel
theorem dX9_rowFlaw_10 : decode cX9_rowFlaw 10 = .ok (.iload_n 2, 1) := by decide +kernel
theorem dX9_rowFlaw_11 : decode cX9_rowFlaw 11 = .ok (.invokestatic 242, 3) := by decide +kernel
theorem dX9_rowFlaw_14 : decode cX9_rowFlaw 14 = .ok (.ireturn, 1) := by decide +kernel
set_option maxRecDepth 20000 in
theorem ggX9_cellFlaw_X6_hasCell : GoodIn wsX9_cellFlaw wsX6_hasCell := goodIn_r _ [7, 8, 9, 10, 11, 12] (by decide +kernel) (by decide +kernel)
set_option maxRecDepth 20000 in
theorem gX9_cellFlaw_X6_hasCell : GoodIn wsX9_cellFlaw (wsV RX9 235 RX6 yX6_hasCell wsX6_hasCell) := goodIn_app (goodIn_of _ (by decide +kernel)) ggX9_cellFlaw_X6_hasCell
theorem dX9_cellFlaw_0 : decode cX9_cellFlaw 0 = .ok (.aload_n 0, 1) := by decide +kernel
theorem dX9_cellFlaw_1 : decode cX9_cellFlaw 1 = .ok (.getfield 212, 3) := by decide +kernel
theorem dX9_cellFlaw_4 : decode cX9_cellFlaw 4 = .ok (.ifCond .ne 5, 3) := by decide +kernel
theorem dX9_cellFlaw_7 : decode cX9_cellFlaw 7 = .ok (.iconst 1, 1) := by decide +kernel
theorem dX9_cellFlaw_8 : decode cX9_cellFlaw 8 = .ok (.ireturn, 1) := by decide +kernel
theorem dX9_cellFlaw_9 : decode cX9_cellFlaw 9 = .ok (.aload_n 0, 1) := by decide +kernel
theorem dX9_cellFlaw_10 : decode cX9_cellFlaw 10 = .ok (.getfield 249, 3) := by decide +kernel
theorem dX9_cellFlaw_13 : decode cX9_cellFlaw 13 = .ok (.iload_n 2, 1) := by decide +kernel
theorem dX9_cellFlaw_14 : decode cX9_cellFlaw 14 = .ok (.if_icmp .eq 5, 3) := by decide +kernel
theorem dX9_cellFlaw_17 : decode cX9_cellFlaw 17 = .ok (.iconst 2, 1) := by decide +kernel
theorem dX9_cellFlaw_18 : decode cX9_cellFlaw 18 = .ok (.ireturn, 1) := by decide +kernel
theorem dX9_cellFlaw_19 : decode cX9_cellFlaw 19 = .ok (.aload_n 0, 1) := by decide +kernel
theorem dX9_cellFlaw_20 : decode cX9_cellFlaw 20 = .ok (.iload_n 1, 1) := by decide +kernel
theorem dX9_cellFlaw_21 : decode cX9_cellFlaw 21 = .ok (.invokevirtual 235, 3) := by decide +kernel
theorem dX9_cellFlaw_24 : decode cX9_cellFlaw 24 = .ok (.ifCond .eq 7, 3) := by decide +kernel
theorem dX9_cellFlaw_27 : decode cX9_cellFlaw 27 = .ok (.iconst 0, 1) := by decide +kernel
theorem dX9_cellFlaw_28 : decode cX9_cellFlaw 28 = .ok (.goto 4, 3) := by decide +kernel
theorem dX9_cellFlaw_31 : decode cX9_cellFlaw 31 = .ok (.iconst 3, 1) := by decide +kernel
theorem dX9_cellFlaw_32 : decode cX9_cellFlaw 32 = .ok (.ireturn, 1) := by decide +kernel
set_option maxRecDepth 20000 in
theorem ggX9_partOf_X4_isGood : GoodIn wsX9_partOf wsX4_isGood := goodIn_r _ [9, 10, 38, 39, 40, 41, 42, 43] (by decide +kernel) (by decide +kernel)
set_option maxRecDepth 20000 in
theorem gX9_partOf_X4_isGood : GoodIn wsX9_partOf (wsV RX9 101 RX4 yX4_isGood wsX4_isGood) := goodIn_app (goodIn_of _ (by decide +kernel)) ggX9_partOf_X4_isGood
set_option maxRecDepth 20000 in
theorem ggX9_partOf_X4_upperNumber : GoodIn wsX9_partOf wsX4_upperNumber := goodIn_r _ [14, 15, 16, 17, 18, 8, 19, 20, 21, 22, 23, 24, 25, 26, 27, 28, 38, 39, 40, 41, 42, 43] (by decide +kernel) (by decide +kernel)
set_option maxRecDepth 20000 in
theorem gX9_partOf_X4_upperNumber : GoodIn wsX9_partOf (wsV RX9 91 RX4 yX4_upperNumber wsX4_upperNumber) := goodIn_app (goodIn_of _ (by decide +kernel)) ggX9_partOf_X4_upperNumber
theorem dX9_partOf_0 : decode cX9_partOf 0 = .ok (.aload_n 0, 1) := by decide +kernel
theorem dX9_partOf_1 : decode cX9_partOf 1 = .ok (.getfield 12, 3) := by decide +kernel
theorem dX9_partOf_4 : decode cX9_partOf 4 = .ok (.iload_n 1, 1) := by decide +kernel
theorem dX9_partOf_5 : decode cX9_partOf 5 = .ok (.invokevirtual 101, 3) := by decide +kernel
theorem dX9_partOf_8 : decode cX9_partOf 8 = .ok (.ifCond .ne 8, 3) := by decide +kernel
theorem dX9_partOf_11 : decode cX9_partOf 11 = .ok (.aload_n 0, 1) := by decide +kernel
theorem dX9_partOf_12 : decode cX9_partOf 12 = .ok (.getfield 49, 3) := by decide +kernel
theorem dX9_partOf_15 : decode cX9_partOf 15 = .ok (.areturn, 1) := by decide +kernel
theorem dX9_partOf_16 : decode cX9_partOf 16 = .ok (.aload_n 0, 1) := by decide +kernel
theorem dX9_partOf_17 : decode cX9_partOf 17 = .ok (.getfield 12, 3) := by decide +kernel
theorem dX9_partOf_20 : decode cX9_partOf 20 = .ok (.iload_n 1, 1) := by decide +kernel
theorem dX9_partOf_21 : decode cX9_partOf 21 = .ok (.invokevirtual 91, 3) := by decide +kernel
theorem dX9_partOf_24 : decode cX9_partOf 24 = .ok (.lconst 0, 1) := by decide +kernel
theorem dX9_partOf_25 : decode cX9_partOf 25 = .ok (.lcmp, 1) := by decide +kernel
theorem dX9_partOf_26 : decode cX9_partOf 26 = .ok (.ifCond .ne 10, 3) := by decide +kernel
theorem dX9_partOf_29 : decode cX9_partOf 29 = .ok (.aload_n 0, 1) := by decide +kernel
theorem dX9_partOf_30 : decode cX9_partOf 30 = .ok (.getfield 63, 3) := by decide +kernel
theorem dX9_partOf_33 : decode cX9_partOf 33 = .ok (.goto 7, 3) := by decide +kernel
theorem dX9_partOf_36 : decode cX9_partOf 36 = .ok (.aload_n 0, 1) := by decide +kernel
theorem dX9_partOf_37 : decode cX9_partOf 37 = .ok (.getfield 56, 3) := by decide +kernel
theorem dX9_partOf_40 : decode cX9_partOf 40 = .ok (.areturn, 1) := by decide +kernel
theorem dX9_isOfKind_0 : decode cX9_isOfKind 0 = .ok (.iload_n 1, 1) := by decide +kernel
theorem dX9_isOfKind_1 : decode cX9_isOfKind 1 = .ok (.lookupswitch 37 #[(0, 27), (1, 32)], 27) := by decide +kernel
theorem dX9_isOfKind_28 : decode cX9_isOfKind 28 = .ok (.aload_n 0, 1) := by decide +kernel
theorem dX9_isOfKind_29 : decode cX9_isOfKind 29 = .ok (.instanceof 46, 3) := by decide +kernel
theorem dX9_isOfKind_32 : decode cX9_isOfKind 32 = .ok (.ireturn, 1) := by decide +kernel
theorem dX9_isOfKind_33 : decode cX9_isOfKind 33 = .ok (.aload_n 0, 1) := by decide +kernel
theorem dX9_isOfKind_34 : decode cX9_isOfKind 34 = .ok (.instanceof 53, 3) := by decide +kernel
theorem dX9_isOfKind_37 : decode cX9_isOfKind 37 = .ok (.ireturn, 1) := by decide +kernel
theorem dX9_isOfKind_38 : decode cX9_isOfKind 38 = .ok (.aload_n 0, 1) := by decide +kernel
theorem dX9_isOfKind_39 : decode cX9_isOfKind 39 = .ok (.instanceof 60, 3) := by decide +kernel
theorem dX9_isOfKind_42 : decode cX9_isOfKind 42 = .ok (.ireturn, 1) := by decide +kernel
theorem dX9_isSheet_0 : decode cX9_isSheet 0 = .ok (.iload_n 0, 1) := by decide +kernel
theorem dX9_isSheet_1 : decode cX9_isSheet 1 = .ok (.ifCond .lt 12, 3) := by decide +kernel
theorem dX9_isSheet_4 : decode cX9_isSheet 4 = .ok (.iload_n 0, 1) := by decide +kernel
theorem dX9_isSheet_5 : decode cX9_isSheet 5 = .ok (.iconst 4, 1) := by decide +kernel
theorem dX9_isSheet_6 : decode cX9_isSheet 6 = .ok (.if_icmp .ge 7, 3) := by decide +kernel
theorem dX9_isSheet_9 : decode cX9_isSheet 9 = .ok (.iconst 1, 1) := by decide +kernel
theorem dX9_isSheet_10 : decode cX9_isSheet 10 = .ok (.goto 4, 3) := by decide +kernel
theorem dX9_isSheet_13 : decode cX9_isSheet 13 = .ok (.iconst 0, 1) := by decide +kernel
theorem dX9_isSheet_14 : decode cX9_isSheet 14 = .ok (.ireturn, 1) := by decide +kernel
theorem dX9_isLane_0 : decode cX9_isLane 0 = .ok (.iload_n 0, 1) := by decide +kernel
theorem dX9_isLane_1 : decode cX9_isLane 1 = .ok (.ifCond .lt 12, 3) := by decide +kernel
theorem dX9_isLane_4 : decode cX9_isLane 4 = .ok (.iload_n 0, 1) := by decide +kernel
theorem dX9_isLane_5 : decode cX9_isLane 5 = .ok (.iconst 2, 1) := by decide +kernel
theorem dX9_isLane_6 : decode cX9_isLane 6 = .ok (.if_icmp .gt 7, 3) := by decide +kernel
theorem dX9_isLane_9 : decode cX9_isLane 9 = .ok (.iconst 1, 1) := by decide +kernel
theorem dX9_isLane_10 : decode cX9_isLane 10 = .ok (.goto 4, 3) := by decide +kernel
theorem dX9_isLane_13 : decode cX9_isLane 13 = .ok (.iconst 0, 1) := by decide +kernel
theorem dX9_isLane_14 : decode cX9_isLane 14 = .ok (.ireturn, 1) := by decide +kernel
theorem dX9_isBit_0 : decode cX9_isBit 0 = .ok (.iload_n 0, 1) := by decide +kernel
theorem dX9_isBit_1 : decode cX9_isBit 1 = .ok (.ifCond .eq 8, 3) := by decide +kernel
theorem dX9_isBit_4 : decode cX9_isBit 4 = .ok (.iload_n 0, 1) := by decide +kernel
theorem dX9_isBit_5 : decode cX9_isBit 5 = .ok (.iconst 1, 1) := by decide +kernel
theorem dX9_isBit_6 : decode cX9_isBit 6 = .ok (.if_icmp .ne 7, 3) := by decide +kernel
theorem dX9_isBit_9 : decode cX9_isBit 9 = .ok (.iconst 1, 1) := by decide +kernel
theorem dX9_isBit_10 : decode cX9_isBit 10 = .ok (.goto 4, 3) := by decide +kernel
theorem dX9_isBit_13 : decode cX9_isBit 13 = .ok (.iconst 0, 1) := by decide +kernel
theorem dX9_isBit_14 : decode cX9_isBit 14 = .ok (.ireturn, 1) := by decide +kernel
theorem dX9_folded_0 : decode cX9_folded 0 = .ok (.lload_n 0, 1) := by decide +kernel
theorem dX9_folded_1 : decode cX9_folded 1 = .ok (.lstore_n 3, 1) := by decide +kernel
theorem dX9_folded_2 : decode cX9_folded 2 = .ok (.iconst 0, 1) := by decide +kernel
theorem dX9_folded_3 : decode cX9_folded 3 = .ok (.istore 5, 2) := by decide +kernel
theorem dX9_folded_5 : decode cX9_folded 5 = .ok (.iload 5, 2) := by decide +kernel
theorem dX9_folded_7 : decode cX9_folded 7 = .ok (.getstatic 289, 3) := by decide +kernel
theorem dX9_folded_10 : decode cX9_folded 10 = .ok (.arraylength, 1) := by decide +kernel
theorem dX9_folded_11 : decode cX9_folded 11 = .ok (.if_icmp .ge 33, 3) := by decide +kernel
theorem dX9_folded_14 : decode cX9_folded 14 = .ok (.iconst 1, 1) := by decide +kernel
theorem dX9_folded_15 : decode cX9_folded 15 = .ok (.iload 5, 2) := by decide +kernel
theorem dX9_folded_17 : decode cX9_folded 17 = .ok (.ishl, 1) := by decide +kernel
theorem dX9_folded_18 : decode cX9_folded 18 = .ok (.iload_n 2, 1) := by decide +kernel
theorem dX9_folded_19 : decode cX9_folded 19 = .ok (.if_icmp .ge 25, 3) := by decide +kernel
theorem dX9_folded_22 : decode cX9_folded 22 = .ok (.lload_n 3, 1) := by decide +kernel
theorem dX9_folded_23 : decode cX9_folded 23 = .ok (.lload_n 3, 1) := by decide +kernel
theorem dX9_folded_24 : decode cX9_folded 24 = .ok (.iconst 1, 1) := by decide +kernel
theorem dX9_folded_25 : decode cX9_folded 25 = .ok (.iload 5, 2) := by decide +kernel
theorem dX9_folded_27 : decode cX9_folded 27 = .ok (.ishl, 1) := by decide +kernel
theorem dX9_folded_28 : decode cX9_folded 28 = .ok (.lushr, 1) := by decide +kernel
theorem dX9_folded_29 : decode cX9_folded 29 = .ok (.getstatic 289, 3) := by decide +kernel
theorem dX9_folded_32 : decode cX9_folded 32 = .ok (.iload 5, 2) := by decide +kernel
theorem dX9_folded_34 : decode cX9_folded 34 = .ok (.laload, 1) := by decide +kernel
theorem dX9_folded_35 : decode cX9_folded 35 = .ok (.land, 1) := by decide +kernel
theorem dX9_folded_36 : decode cX9_folded 36 = .ok (.lxor, 1) := by decide +kernel
theorem dX9_folded_37 : decode cX9_folded 37 = .ok (.lstore_n 3, 1) := by decide +kernel
theorem dX9_folded_38 : decode cX9_folded 38 = .ok (.iinc 5 1, 3) := by decide +kernel
theorem dX9_folded_41 : decode cX9_folded 41 = .ok (.goto (-36), 3) := by decide +kernel
theorem dX9_folded_44 : decode cX9_folded 44 = .ok (.lload_n 3, 1) := by decide +kernel
theorem dX9_folded_45 : decode cX9_folded 45 = .ok (.lreturn, 1) := by decide +kernel
theorem dX10_init_0 : decode cX10_init 0 = .ok (.aload_n 0, 1) := by decide +kernel
theorem dX10_init_1 : decode cX10_init 1 = .ok (.invokespecial 1, 3) := by decide +kernel
theorem dX10_init_4 : decode cX10_init 4 = .ok (.aload_n 0, 1) := by decide +kernel
theorem dX10_init_5 : decode cX10_init 5 = .ok (.bipush 32, 2) := by decide +kernel
theorem dX10_init_7 : decode cX10_init 7 = .ok (.newarray .boolean, 2) := by decide +kernel
theorem dX10_init_9 : decode cX10_init 9 = .ok (.putfield 7, 3) := by decide +kernel
theorem dX10_init_12 : decode cX10_init 12 = .ok (.aload_n 0, 1) := by decide +kernel
theorem dX10_init_13 : decode cX10_init 13 = .ok (.bipush 32, 2) := by decide +kernel
theorem dX10_init_15 : decode cX10_init 15 = .ok (.newarray .int, 2) := by decide +kernel
theorem dX10_init_17 : decode cX10_init 17 = .ok (.putfield 13, 3) := by decide +kernel
theorem dX10_init_20 : decode cX10_init 20 = .ok (.aload_n 0, 1) := by decide +kernel
theorem dX10_init_21 : decode cX10_init 21 = .ok (.iconst 4, 1) := by decide +kernel
theorem dX10_init_22 : decode cX10_init 22 = .ok (.newarray .int, 2) := by decide +kernel
theorem dX10_init_24 : decode cX10_init 24 = .ok (.putfield 17, 3) := by decide +kernel
theorem dX10_init_27 : decode cX10_init 27 = .ok (.aload_n 0, 1) := by decide +kernel
theorem dX10_init_28 : decode cX10_init 28 = .ok (.iconst 4, 1) := by decide +kernel
theorem dX10_init_29 : decode cX10_init 29 = .ok (.newarray .int, 2) := by decide +kernel
theorem dX10_init_31 : decode cX10_init 31 = .ok (.putfield 20, 3) := by decide +kernel
theorem dX10_init_34 : decode cX10_init 34 = .ok (.aload_n 0, 1) := by decide +kernel
theorem dX10_init_35 : decode cX10_init 35 = .ok (.sipush 160, 3) := by decide +kernel
theorem dX10_init_38 : decode cX10_init 38 = .ok (.newarray .long, 2) := by decide +kernel
theorem dX10_init_40 : decode cX10_init 40 = .ok (.putfield 23, 3) := by decide +kernel
theorem dX10_init_43 : decode cX10_init 43 = .ok (.aload_n 0, 1) := by decide +kernel
theorem dX10_init_44 : decode cX10_init 44 = .ok (.bipush 40, 2) := by decide +kernel
theorem dX10_init_46 : decode cX10_init 46 = .ok (.newarray .long, 2) := by decide +kernel
theorem dX10_init_48 : decode cX10_init 48 = .ok (.putfield 27, 3) := by decide +kernel
theorem dX10_init_51 : decode cX10_init 51 = .ok (.aload_n 0, 1) := by decide +kernel
theorem dX10_init_52 : decode cX10_init 52 = .ok (.bipush 32, 2) := by decide +kernel
theorem dX10_init_54 : decode cX10_init 54 = .ok (.newarray .int, 2) := by decide +kernel
theorem dX10_init_56 : decode cX10_init 56 = .ok (.putfield 30, 3) := by decide +kernel
theorem dX10_init_59 : decode cX10_init 59 = .ok (.aload_n 0, 1) := by decide +kernel
theorem dX10_init_60 : decode cX10_init 60 = .ok (.bipush 32, 2) := by decide +kernel
theorem dX10_init_62 : decode cX10_init 62 = .ok (.newarray .int, 2) := by decide +kernel
theorem dX10_init_64 : decode cX10_init 64 = .ok (.putfield 33, 3) := by decide +kernel
theorem dX10_init_67 : decode cX10_init 67 = .ok (.aload_n 0, 1) := by decide +kernel
theorem dX10_init_68 : decode cX10_init 68 = .ok (.bipush 64, 2) := by decide +kernel
theorem dX10_init_70 : decode cX10_init 70 = .ok (.newarray .long, 2) := by decide +kernel
theorem dX10_init_72 : decode cX10_init 72 = .ok (.putfield 36, 3) := by decide +kernel
theorem dX10_init_75 : decode cX10_init 75 = .ok (.aload_n 0, 1) := by decide +kernel
theorem dX10_init_76 : decode cX10_init 76 = .ok (.sipush 130, 3) := by decide +kernel
theorem dX10_init_79 : decode cX10_init 79 = .ok (.newarray .long, 2) := by decide +kernel
theorem dX10_init_81 : decode cX10_init 81 = .ok (.putfield 39, 3) := by decide +kernel
theorem dX10_init_84 : decode cX10_init 84 = .ok (.aload_n 0, 1) := by decide +kernel
theorem dX10_init_85 : decode cX10_init 85 = .ok (.bipush 33, 2) := by decide +kernel
theorem dX10_init_87 : decode cX10_init 87 = .ok (.newarray .int, 2) := by decide +kernel
theorem dX10_init_89 : decode cX10_init 89 = .ok (.putfield 42, 3) := by decide +kernel
theorem dX10_init_92 : decode cX10_init 92 = .ok (.aload_n 0, 1) := by decide +kernel
theorem dX10_init_93 : decode cX10_init 93 = .ok (.bipush 33, 2) := by decide +kernel
theorem dX10_init_95 : decode cX10_init 95 = .ok (.newarray .int, 2) := by decide +kernel
theorem dX10_init_97 : decode cX10_init 97 = .ok (.putfield 45, 3) := by decide +kernel
theorem dX10_init_100 : decode cX10_init 100 = .ok (.aload_n 0, 1) := by decide +kernel
theorem dX10_init_101 : decode cX10_init 101 = .ok (.bipush 33, 2) := by decide +kernel
theorem dX10_init_103 : decode cX10_init 103 = .ok (.newarray .int, 2) := by decide +kernel
theorem dX10_init_105 : decode cX10_init 105 = .ok (.putfield 48, 3) := by decide +kernel
theorem dX10_init_108 : decode cX10_init 108 = .ok (.aload_n 0, 1) := by decide +kernel
theorem dX10_init_109 : decode cX10_init 109 = .ok (.bipush 32, 2) := by decide +kernel
theorem dX10_init_111 : decode cX10_init 111 = .ok (.newarray .long, 2) := by decide +kernel
theorem dX10_init_113 : decode cX10_init 113 = .ok (.putfield 51, 3) := by decide +kernel
theorem dX10_init_116 : decode cX10_init 116 = .ok (.aload_n 0, 1) := by decide +kernel
theorem dX10_init_117 : decode cX10_init 117 = .ok (.bipush 8, 2) := by decide +kernel
theorem dX10_init_119 : decode cX10_init 119 = .ok (.putfield 54, 3) := by decide +kernel
theorem dX10_init_122 : decode cX10_init 122 = .ok (.aload_n 0, 1) := by decide +kernel
theorem dX10_init_123 : decode cX10_init 123 = .ok (.iconst 1, 1) := by decide +kernel
theorem dX10_init_124 : decode cX10_init 124 = .ok (.putfield 58, 3) := by decide +kernel
theorem dX10_init_127 : decode cX10_init 127 = .ok (.aload_n 0, 1) := by decide +kernel
theorem dX10_init_128 : decode cX10_init 128 = .ok (.iconst 2, 1) := by decide +kernel
theorem dX10_init_129 : decode cX10_init 129 = .ok (.putfield 61, 3) := by decide +kernel
theorem dX10_init_132 : decode cX10_init 132 = .ok (.aload_n 0, 1) := by decide +kernel
theorem dX10_init_133 : decode cX10_init 133 = .ok (.iconst 1, 1) := by decide +kernel
theorem dX10_init_134 : decode cX10_init 134 = .ok (.putfield 64, 3) := by decide +kernel
theorem dX10_init_137 : decode cX10_init 137 = .ok (.aload_n 0, 1) := by decide +kernel
theorem dX10_init_138 : decode cX10_init 138 = .ok (.bipush (-9), 2) := by decide +kernel
theorem dX10_init_140 : decode cX10_init 140 = .ok (.putfield 67, 3) := by decide +kernel
theorem dX10_init_143 : decode cX10_init 143 = .ok (.iconst 0, 1) := by decide +kernel
theorem dX10_init_144 : decode cX10_init 144 = .ok (.istore_n 1, 1) := by decide +kernel
theorem dX10_init_145 : decode cX10_init 145 = .ok (.iload_n 1, 1) := by decide +kernel
theorem dX10_init_146 : decode cX10_init 146 = .ok (.iconst 4, 1) := by decide +kernel
theorem dX10_init_147 : decode cX10_init 147 = .ok (.if_icmp .ge 16, 3) := by decide +kernel
theorem dX10_init_150 : decode cX10_init 150 = .ok (.aload_n 0, 1) := by decide +kernel
theorem dX10_init_151 : decode cX10_init 151 = .ok (.getfield 17, 3) := by decide +kernel
theorem dX10_init_154 : decode cX10_init 154 = .ok (.iload_n 1, 1) := by decide +kernel
theorem dX10_init_155 : decode cX10_init 155 = .ok (.iconst (-1), 1) := by decide +kernel
theorem dX10_init_156 : decode cX10_init 156 = .ok (.iastore, 1) := by decide +kernel
theorem dX10_init_157 : decode cX10_init 157 = .ok (.iinc 1 1, 3) := by decide +kernel
theorem dX10_init_160 : decode cX10_init 160 = .ok (.goto (-15), 3) := by decide +kernel
theorem dX10_init_163 : decode cX10_init 163 = .ok (.return_, 1) := by decide +kernel
theorem dX10_in_0 : decode cX10_in 0 = .ok (.lload_n 0, 1) := by decide +kernel
theorem dX10_in_1 : decode cX10_in 1 = .ok (.lload_n 2, 1) := by decide +kernel
theorem dX10_in_2 : decode cX10_in 2 = .ok (.lcmp, 1) := by decide +kernel
theorem dX10_in_3 : decode cX10_in 3 = .ok (.ifCond .lt 14, 3) := by decide +kernel
theorem dX10_in_6 : decode cX10_in 6 = .ok (.lload_n 0, 1) := by decide +kernel
theorem dX10_in_7 : decode cX10_in 7 = .ok (.lload 4, 2) := by decide +kernel
theorem dX10_in_9 : decode cX10_in 9 = .ok (.lcmp, 1) := by decide +kernel
theorem dX10_in_10 : decode cX10_in 10 = .ok (.ifCond .gt 7, 3) := by decide +kernel
theorem dX10_in_13 : decode cX10_in 13 = .ok (.iconst 1, 1) := by decide +kernel
theorem dX10_in_14 : decode cX10_in 14 = .ok (.goto 4, 3) := by decide +kernel
theorem dX10_in_17 : decode cX10_in 17 = .ok (.iconst 0, 1) := by decide +kernel
theorem dX10_in_18 : decode cX10_in 18 = .ok (.ireturn, 1) := by decide +kernel
theorem dX10_lost_0 : decode cX10_lost 0 = .ok (.ldc2_w 70, 3) := by decide +kernel
theorem dX10_lost_3 : decode cX10_lost 3 = .ok (.lreturn, 1) := by decide +kernel
theorem dX10_refused_0 : decode cX10_refused 0 = .ok (.aload_n 0, 1) := by decide +kernel
theorem dX10_refused_1 : decode cX10_refused 1 = .ok (.iconst 0, 1) := by decide +kernel
theorem dX10_refused_2 : decode cX10_refused 2 = .ok (.putfield 72, 3) := by decide +kernel
theorem dX10_refused_5 : decode cX10_refused 5 = .ok (.iload_n 1, 1) := by decide +kernel
theorem dX10_refused_6 : decode cX10_refused 6 = .ok (.ireturn, 1) := by decide +kernel
theorem dX10_failed_0 : decode cX10_failed 0 = .ok (.aload_n 0, 1) := by decide +kernel
theorem dX10_failed_1 : decode cX10_failed 1 = .ok (.iload_n 1, 1) := by decide +kernel
theorem dX10_failed_2 : decode cX10_failed 2 = .ok (.putfield 72, 3) := by decide +kernel
theorem dX10_failed_5 : decode cX10_failed 5 = .ok (.bipush (-10), 2) := by decide +kernel
theorem dX10_failed_7 : decode cX10_failed 7 = .ok (.iload_n 1, 1) := by decide +kernel
theorem dX10_failed_8 : decode cX10_failed 8 = .ok (.isub, 1) := by decide +kernel
theorem dX10_failed_9 : decode cX10_failed 9 = .ok (.ireturn, 1) := by decide +kernel
set_option maxRecDepth 20000 in
theorem ggX10_failedLong_X10_lost : GoodIn wsX10_failedLong wsX10_lost := goodIn_r _ [5, 6] (by decide +kernel) (by decide +kernel)
set_option maxRecDepth 20000 in
theorem gX10_failedLong_X10_lost : GoodIn wsX10_failedLong (va_wsS RX10 75 yX10_lost wsX10_lost) := goodIn_app (goodIn_of _ (by decide +kernel)) ggX10_failedLong_X10_lost
theorem dX10_failedLong_0 : decode cX10_failedLong 0 = .ok (.aload_n 0, 1) := by decide +kernel
theorem dX10_failedLong_1 : decode cX10_failedLong 1 = .ok (.iload_n 1, 1) := by decide +kernel
theorem dX10_failedLong_2 : decode cX10_failedLong 2 = .ok (.putfield 72, 3) := by decide +kernel
theorem dX10_failedLong_5 : decode cX10_failedLong 5 = .ok (.invokestatic 75, 3) := by decide +kernel
theorem dX10_failedLong_8 : decode cX10_failedLong 8 = .ok (.lreturn, 1) := by decide +kernel
set_option maxRecDepth 20000 in
theorem ggX10_noPlace_X10_in : GoodIn wsX10_noPlace wsX10_in := goodIn_r _ [5] (by decide +kernel) (by decide +kernel)
set_option maxRecDepth 20000 in
theorem gX10_noPlace_X10_in : GoodIn wsX10_noPlace (va_wsS RX10 79 yX10_in wsX10_in) := goodIn_app (goodIn_of _ (by decide +kernel)) ggX10_noPlace_X10_in
theorem dX10_noPlace_0 : decode cX10_noPlace 0 = .ok (.iload_n 1, 1) := by decide +kernel
theorem dX10_noPlace_1 : decode cX10_noPlace 1 = .ok (.i2l, 1) := by decide +kernel
theorem dX10_noPlace_2 : decode cX10_noPlace 2 = .ok (.lconst 0, 1) := by decide +kernel
theorem dX10_noPlace_3 : decode cX10_noPlace 3 = .ok (.aload_n 0, 1) := by decide +kernel
theorem dX10_noPlace_4 : decode cX10_noPlace 4 = .ok (.getfield 54, 3) := by decide +kernel
theorem dX10_noPlace_7 : decode cX10_noPlace 7 = .ok (.i2l, 1) := by decide +kernel
theorem dX10_noPlace_8 : decode cX10_noPlace 8 = .ok (.lconst 1, 1) := by decide +kernel
theorem dX10_noPlace_9 : decode cX10_noPlace 9 = .ok (.lsub, 1) := by decide +kernel
theorem dX10_noPlace_10 : decode cX10_noPlace 10 = .ok (.invokestatic 79, 3) := by decide +kernel
theorem dX10_noPlace_13 : decode cX10_noPlace 13 = .ok (.ifCond .ne 7, 3) := by decide +kernel
theorem dX10_noPlace_16 : decode cX10_noPlace 16 = .ok (.iconst 1, 1) := by decide +kernel
theorem dX10_noPlace_17 : decode cX10_noPlace 17 = .ok (.goto 4, 3) := by decide +kernel
theorem dX10_noPlace_20 : decode cX10_noPlace 20 = .ok (.iconst 0, 1) := by decide +kernel
theorem dX10_noPlace_21 : decode cX10_noPlace 21 = .ok (.ireturn, 1) := by decide +kernel
theorem dX10_all_0 : decode cX10_all 0 = .ok (.lconst 1, 1) := by decide +kernel
theorem dX10_all_1 : decode cX10_all 1 = .ok (.aload_n 0, 1) := by decide +kernel
theorem dX10_all_2 : decode cX10_all 2 = .ok (.getfield 54, 3) := by decide +kernel
theorem dX10_all_5 : decode cX10_all 5 = .ok (.lshl, 1) := by decide +kernel
theorem dX10_all_6 : decode cX10_all 6 = .ok (.lconst 1, 1) := by decide +kernel
theorem dX10_all_7 : decode cX10_all 7 = .ok (.lsub, 1) := by decide +kernel
theorem dX10_all_8 : decode cX10_all 8 = .ok (.lreturn, 1) := by decide +kernel
theorem dX10_size_0 : decode cX10_size 0 = .ok (.iload_n 1, 1) := by decide +kernel
theorem dX10_size_1 : decode cX10_size 1 = .ok (.iconst 2, 1) := by decide +kernel
theorem dX10_size_2 : decode cX10_size 2 = .ok (.if_icmp .eq 29, 3) := by decide +kernel
theorem dX10_size_5 : decode cX10_size 5 = .ok (.iload_n 1, 1) := by decide +kernel
theorem dX10_size_6 : decode cX10_size 6 = .ok (.iconst 4, 1) := by decide +kernel
theorem dX10_size_7 : decode cX10_size 7 = .ok (.if_icmp .eq 24, 3) := by decide +kernel
theorem dX10_size_10 : decode cX10_size 10 = .ok (.iload_n 1, 1) := by decide +kernel
theorem dX10_size_11 : decode cX10_size 11 = .ok (.bipush 8, 2) := by decide +kernel
theorem dX10_size_13 : decode cX10_size 13 = .ok (.if_icmp .eq 18, 3) := by decide +kernel
theorem dX10_size_16 : decode cX10_size 16 = .ok (.iload_n 1, 1) := by decide +kernel
theorem dX10_size_17 : decode cX10_size 17 = .ok (.bipush 16, 2) := by decide +kernel
theorem dX10_size_19 : decode cX10_size 19 = .ok (.if_icmp .eq 12, 3) := by decide +kernel
theorem dX10_size_22 : decode cX10_size 22 = .ok (.iload_n 1, 1) := by decide +kernel
theorem dX10_size_23 : decode cX10_size 23 = .ok (.bipush 32, 2) := by decide +kernel
theorem dX10_size_25 : decode cX10_size 25 = .ok (.if_icmp .eq 6, 3) := by decide +kernel
theorem dX10_size_28 : decode cX10_size 28 = .ok (.bipush (-2), 2) := by decide +kernel
theorem dX10_size_30 : decode cX10_size 30 = .ok (.ireturn, 1) := by decide +kernel
theorem dX10_size_31 : decode cX10_size 31 = .ok (.aload_n 0, 1) := by decide +kernel
theorem dX10_size_32 : decode cX10_size 32 = .ok (.getfield 54, 3) := by decide +kernel
theorem dX10_size_35 : decode cX10_size 35 = .ok (.istore_n 2, 1) := by decide +kernel
theorem dX10_size_36 : decode cX10_size 36 = .ok (.aload_n 0, 1) := by decide +kernel
theorem dX10_size_37 : decode cX10_size 37 = .ok (.iload_n 1, 1) := by decide +kernel
theorem dX10_size_38 : decode cX10_size 38 = .ok (.putfield 54, 3) := by decide +kernel
theorem dX10_size_41 : decode cX10_size 41 = .ok (.iconst 0, 1) := by decide +kernel
theorem dX10_size_42 : decode cX10_size 42 = .ok (.istore_n 3, 1) := by decide +kernel
theorem dX10_size_43 : decode cX10_size 43 = .ok (.iload_n 3, 1) := by decide +kernel
theorem dX10_size_44 : decode cX10_size 44 = .ok (.bipush 32, 2) := by decide +kernel
theorem dX10_size_46 : decode cX10_size 46 = .ok (.if_icmp .ge 23, 3) := by decide +kernel
theorem dX10_size_49 : decode cX10_size 49 = .ok (.aload_n 0, 1) := by decide +kernel
theorem dX10_size_50 : decode cX10_size 50 = .ok (.getfield 7, 3) := by decide +kernel
theorem dX10_size_53 : decode cX10_size 53 = .ok (.iload_n 3, 1) := by decide +kernel
theorem dX10_size_54 : decode cX10_size 54 = .ok (.iconst 0, 1) := by decide +kernel
theorem dX10_size_55 : decode cX10_size 55 = .ok (.bastore, 1) := by decide +kernel
theorem dX10_size_56 : decode cX10_size 56 = .ok (.aload_n 0, 1) := by decide +kernel
theorem dX10_size_57 : decode cX10_size 57 = .ok (.getfield 13, 3) := by decide +kernel
theorem dX10_size_60 : decode cX10_size 60 = .ok (.iload_n 3, 1) := by decide +kernel
theorem dX10_size_61 : decode cX10_size 61 = .ok (.iconst 0, 1) := by decide +kernel
theorem dX10_size_62 : decode cX10_size 62 = .ok (.iastore, 1) := by decide +kernel
theorem dX10_size_63 : decode cX10_size 63 = .ok (.iinc 3 1, 3) := by decide +kernel
theorem dX10_size_66 : decode cX10_size 66 = .ok (.goto (-23), 3) := by decide +kernel
theorem dX10_size_69 : decode cX10_size 69 = .ok (.aload_n 0, 1) := by decide +kernel
theorem dX10_size_70 : decode cX10_size 70 = .ok (.bipush (-9), 2) := by decide +kernel
theorem dX10_size_72 : decode cX10_size 72 = .ok (.putfield 67, 3) := by decide +kernel
theorem dX10_size_75 : decode cX10_size 75 = .ok (.aload_n 0, 1) := by decide +kernel
theorem dX10_size_76 : decode cX10_size 76 = .ok (.iconst 0, 1) := by decide +kernel
theorem dX10_size_77 : decode cX10_size 77 = .ok (.putfield 83, 3) := by decide +kernel
theorem dX10_size_80 : decode cX10_size 80 = .ok (.iload_n 2, 1) := by decide +kernel
theorem dX10_size_81 : decode cX10_size 81 = .ok (.ireturn, 1) := by decide +kernel
set_option maxRecDepth 20000 in
theorem ggX10_line_X10_in : GoodIn wsX10_line wsX10_in := goodIn_r _ [7] (by decide +kernel) (by decide +kernel)
set_option maxRecDepth 20000 in
theorem gX10_line_X10_in : GoodIn wsX10_line (va_wsS RX10 79 yX10_in wsX10_in) := goodIn_app (goodIn_of _ (by decide +kernel)) ggX10_line_X10_in
theorem dX10_line_0 : decode cX10_line 0 = .ok (.iload_n 2, 1) := by decide +kernel
theorem dX10_line_1 : decode cX10_line 1 = .ok (.i2l, 1) := by decide +kernel
theorem dX10_line_2 : decode cX10_line 2 = .ok (.lconst 1, 1) := by decide +kernel
theorem dX10_line_3 : decode cX10_line 3 = .ok (.ldc2_w 87, 3) := by decide +kernel
theorem dX10_line_6 : decode cX10_line 6 = .ok (.invokestatic 79, 3) := by decide +kernel
theorem dX10_line_9 : decode cX10_line 9 = .ok (.ifCond .eq 14, 3) := by decide +kernel
theorem dX10_line_12 : decode cX10_line 12 = .ok (.iload_n 1, 1) := by decide +kernel
theorem dX10_line_13 : decode cX10_line 13 = .ok (.i2l, 1) := by decide +kernel
theorem dX10_line_14 : decode cX10_line 14 = .ok (.lconst 0, 1) := by decide +kernel
theorem dX10_line_15 : decode cX10_line 15 = .ok (.iload_n 2, 1) := by decide +kernel
theorem dX10_line_16 : decode cX10_line 16 = .ok (.i2l, 1) := by decide +kernel
theorem dX10_line_17 : decode cX10_line 17 = .ok (.invokestatic 79, 3) := by decide +kernel
theorem dX10_line_20 : decode cX10_line 20 = .ok (.ifCond .ne 6, 3) := by decide +kernel
theorem dX10_line_23 : decode cX10_line 23 = .ok (.bipush (-2), 2) := by decide +kernel
theorem dX10_line_25 : decode cX10_line 25 = .ok (.ireturn, 1) := by decide +kernel
theorem dX10_line_26 : decode cX10_line 26 = .ok (.aload_n 0, 1) := by decide +kernel
theorem dX10_line_27 : decode cX10_line 27 = .ok (.iload_n 1, 1) := by decide +kernel
theorem dX10_line_28 : decode cX10_line 28 = .ok (.putfield 58, 3) := by decide +kernel
theorem dX10_line_31 : decode cX10_line 31 = .ok (.aload_n 0, 1) := by decide +kernel
theorem dX10_line_32 : decode cX10_line 32 = .ok (.iload_n 2, 1) := by decide +kernel
theorem dX10_line_33 : decode cX10_line 33 = .ok (.putfield 61, 3) := by decide +kernel
theorem dX10_line_36 : decode cX10_line 36 = .ok (.iconst 1, 1) := by decide +kernel
theorem dX10_line_37 : decode cX10_line 37 = .ok (.ireturn, 1) := by decide +kernel
theorem dX10_lowest_0 : decode cX10_lowest 0 = .ok (.lconst 1, 1) := by decide +kernel
theorem dX10_lowest_1 : decode cX10_lowest 1 = .ok (.lstore_n 1, 1) := by decide +kernel
theorem dX10_lowest_2 : decode cX10_lowest 2 = .ok (.iconst 0, 1) := by decide +kernel
theorem dX10_lowest_3 : decode cX10_lowest 3 = .ok (.istore_n 3, 1) := by decide +kernel
theorem dX10_lowest_4 : decode cX10_lowest 4 = .ok (.iload_n 3, 1) := by decide +kernel
theorem dX10_lowest_5 : decode cX10_lowest 5 = .ok (.aload_n 0, 1) := by decide +kernel
theorem dX10_lowest_6 : decode cX10_lowest 6 = .ok (.getfield 54, 3) := by decide +kernel
theorem dX10_lowest_9 : decode cX10_lowest 9 = .ok (.if_icmp .ge 29, 3) := by decide +kernel
theorem dX10_lowest_12 : decode cX10_lowest 12 = .ok (.lload_n 1, 1) := by decide +kernel
theorem dX10_lowest_13 : decode cX10_lowest 13 = .ok (.aload_n 0, 1) := by decide +kernel
theorem dX10_lowest_14 : decode cX10_lowest 14 = .ok (.getfield 61, 3) := by decide +kernel
theorem dX10_lowest_17 : decode cX10_lowest 17 = .ok (.i2l, 1) := by decide +kernel
theorem dX10_lowest_18 : decode cX10_lowest 18 = .ok (.lmul, 1) := by decide +kernel
theorem dX10_lowest_19 : decode cX10_lowest 19 = .ok (.lstore_n 1, 1) := by decide +kernel
theorem dX10_lowest_20 : decode cX10_lowest 20 = .ok (.lload_n 1, 1) := by decide +kernel
theorem dX10_lowest_21 : decode cX10_lowest 21 = .ok (.ldc2_w 89, 3) := by decide +kernel
theorem dX10_lowest_24 : decode cX10_lowest 24 = .ok (.lcmp, 1) := by decide +kernel
theorem dX10_lowest_25 : decode cX10_lowest 25 = .ok (.ifCond .le 7, 3) := by decide +kernel
theorem dX10_lowest_28 : decode cX10_lowest 28 = .ok (.ldc2_w 91, 3) := by decide +kernel
theorem dX10_lowest_31 : decode cX10_lowest 31 = .ok (.lreturn, 1) := by decide +kernel
theorem dX10_lowest_32 : decode cX10_lowest 32 = .ok (.iinc 3 1, 3) := by decide +kernel
theorem dX10_lowest_35 : decode cX10_lowest 35 = .ok (.goto (-31), 3) := by decide +kernel
theorem dX10_lowest_38 : decode cX10_lowest 38 = .ok (.lload_n 1, 1) := by decide +kernel
theorem dX10_lowest_39 : decode cX10_lowest 39 = .ok (.lreturn, 1) := by decide +kernel
theorem dX10_shareOf_0 : decode cX10_shareOf 0 = .ok (.aload_n 0, 1) := by decide +kernel
theorem dX10_shareOf_1 : decode cX10_shareOf 1 = .ok (.getfield 58, 3) := by decide +kernel
theorem dX10_shareOf_4 : decode cX10_shareOf 4 = .ok (.i2l, 1) := by decide +kernel
theorem dX10_shareOf_5 : decode cX10_shareOf 5 = .ok (.lstore_n 2, 1) := by decide +kernel
theorem dX10_shareOf_6 : decode cX10_shareOf 6 = .ok (.aload_n 0, 1) := by decide +kernel
theorem dX10_shareOf_7 : decode cX10_shareOf 7 = .ok (.getfield 61, 3) := by decide +kernel
theorem dX10_shareOf_10 : decode cX10_shareOf 10 = .ok (.i2l, 1) := by decide +kernel
theorem dX10_shareOf_11 : decode cX10_shareOf 11 = .ok (.lstore 4, 2) := by decide +kernel
theorem dX10_shareOf_13 : decode cX10_shareOf 13 = .ok (.aload_n 0, 1) := by decide +kernel
theorem dX10_shareOf_14 : decode cX10_shareOf 14 = .ok (.getfield 54, 3) := by decide +kernel
theorem dX10_shareOf_17 : decode cX10_shareOf 17 = .ok (.iconst 2, 1) := by decide +kernel
theorem dX10_shareOf_18 : decode cX10_shareOf 18 = .ok (.idiv, 1) := by decide +kernel
theorem dX10_shareOf_19 : decode cX10_shareOf 19 = .ok (.istore 6, 2) := by decide +kernel
theorem dX10_shareOf_21 : decode cX10_shareOf 21 = .ok (.iload 6, 2) := by decide +kernel
theorem dX10_shareOf_23 : decode cX10_shareOf 23 = .ok (.ifCond .le 45, 3) := by decide +kernel
theorem dX10_shareOf_26 : decode cX10_shareOf 26 = .ok (.iload_n 1, 1) := by decide +kernel
theorem dX10_shareOf_27 : decode cX10_shareOf 27 = .ok (.iload 6, 2) := by decide +kernel
theorem dX10_shareOf_29 : decode cX10_shareOf 29 = .ok (.iand, 1) := by decide +kernel
theorem dX10_shareOf_30 : decode cX10_shareOf 30 = .ok (.ifCond .ne 18, 3) := by decide +kernel
theorem dX10_shareOf_33 : decode cX10_shareOf 33 = .ok (.ldc2_w 93, 3) := by decide +kernel
theorem dX10_shareOf_36 : decode cX10_shareOf 36 = .ok (.lload_n 2, 1) := by decide +kernel
theorem dX10_shareOf_37 : decode cX10_shareOf 37 = .ok (.lmul, 1) := by decide +kernel
theorem dX10_shareOf_38 : decode cX10_shareOf 38 = .ok (.lload 4, 2) := by decide +kernel
theorem dX10_shareOf_40 : decode cX10_shareOf 40 = .ok (.lmul, 1) := by decide +kernel
theorem dX10_shareOf_41 : decode cX10_shareOf 41 = .ok (.lload_n 2, 1) := by decide +kernel
theorem dX10_shareOf_42 : decode cX10_shareOf 42 = .ok (.lload_n 2, 1) := by decide +kernel
theorem dX10_shareOf_43 : decode cX10_shareOf 43 = .ok (.lmul, 1) := by decide +kernel
theorem dX10_shareOf_44 : decode cX10_shareOf 44 = .ok (.lsub, 1) := by decide +kernel
theorem dX10_shareOf_45 : decode cX10_shareOf 45 = .ok (.goto 6, 3) := by decide +kernel
theorem dX10_shareOf_48 : decode cX10_shareOf 48 = .ok (.lload_n 2, 1) := by decide +kernel
theorem dX10_shareOf_49 : decode cX10_shareOf 49 = .ok (.lload_n 2, 1) := by decide +kernel
theorem dX10_shareOf_50 : decode cX10_shareOf 50 = .ok (.lmul, 1) := by decide +kernel
theorem dX10_shareOf_51 : decode cX10_shareOf 51 = .ok (.lstore_n 2, 1) := by decide +kernel
theorem dX10_shareOf_52 : decode cX10_shareOf 52 = .ok (.lload 4, 2) := by decide +kernel
theorem dX10_shareOf_54 : decode cX10_shareOf 54 = .ok (.lload 4, 2) := by decide +kernel
theorem dX10_shareOf_56 : decode cX10_shareOf 56 = .ok (.lmul, 1) := by decide +kernel
theorem dX10_shareOf_57 : decode cX10_shareOf 57 = .ok (.lstore 4, 2) := by decide +kernel
theorem dX10_shareOf_59 : decode cX10_shareOf 59 = .ok (.iload 6, 2) := by decide +kernel
theorem dX10_shareOf_61 : decode cX10_shareOf 61 = .ok (.iconst 2, 1) := by decide +kernel
theorem dX10_shareOf_62 : decode cX10_shareOf 62 = .ok (.idiv, 1) := by decide +kernel
theorem dX10_shareOf_63 : decode cX10_shareOf 63 = .ok (.istore 6, 2) := by decide +kernel
theorem dX10_shareOf_65 : decode cX10_shareOf 65 = .ok (.goto (-44), 3) := by decide +kernel
theorem dX10_shareOf_68 : decode cX10_shareOf 68 = .ok (.lload_n 2, 1) := by decide +kernel
theorem dX10_shareOf_69 : decode cX10_shareOf 69 = .ok (.lreturn, 1) := by decide +kernel
set_option maxRecDepth 20000 in
theorem ggX10_share_X10_noPlace : GoodIn wsX10_share wsX10_noPlace := goodIn_r _ [5, 6, 7, 8, 4, 9, 27, 28, 29, 30, 31, 32, 33, 34, 35, 36, 37, 38, 39, 40, 41, 42, 43, 44, 45, 46, 47, 48, 49, 50, 51] (by decide +kernel) (by decide +kernel)
set_option maxRecDepth 20000 in
theorem gX10_share_X10_noPlace : GoodIn wsX10_share (wsV RX10 95 RX10 yX10_noPlace wsX10_noPlace) := goodIn_app (goodIn_of _ (by decide +kernel)) ggX10_share_X10_noPlace
set_option maxRecDepth 20000 in
theorem ggX10_share_X10_lowest : GoodIn wsX10_share wsX10_lowest := goodIn_r _ [13, 6, 14, 15, 16, 27, 28, 29, 30, 31, 32, 33, 34, 35, 36, 37, 38, 39, 40, 41, 42, 43, 44, 45, 46, 47, 48, 49, 50, 51] (by decide +kernel) (by decide +kernel)
set_option maxRecDepth 20000 in
theorem gX10_share_X10_lowest : GoodIn wsX10_share (wsV RX10 99 RX10 yX10_lowest wsX10_lowest) := goodIn_app (goodIn_of _ (by decide +kernel)) ggX10_share_X10_lowest
set_option maxRecDepth 20000 in
theorem ggX10_share_X10_lost : GoodIn wsX10_share wsX10_lost := goodIn_r _ [19, 20] (by decide +kernel) (by decide +kernel)
set_option maxRecDepth 20000 in
theorem gX10_share_X10_lost : GoodIn wsX10_share (va_wsS RX10 75 yX10_lost wsX10_lost) := goodIn_app (goodIn_of _ (by decide +kernel)) ggX10_share_X10_lost
set_option maxRecDepth 20000 in
theorem ggX10_share_X10_shareOf : GoodIn wsX10_share wsX10_shareOf := goodIn_r _ [24, 25, 14, 6, 26, 27, 28, 29, 30, 31, 32, 33, 34, 35, 36, 37, 38, 39, 40, 41, 42, 43, 44, 45, 46, 47, 48, 49, 50, 51] (by decide +kernel) (by decide +kernel)
set_option maxRecDepth 20000 in
theorem gX10_share_X10_shareOf : GoodIn wsX10_share (wsV RX10 102 RX10 yX10_shareOf wsX10_shareOf) := goodIn_app (goodIn_of _ (by decide +kernel)) ggX10_share_X10_shareOf
theorem dX10_share_0 : decode cX10_share 0 = .ok (.aload_n 0, 1) := by decide +kernel
theorem dX10_share_1 : decode cX10_share 1 = .ok (.iload_n 1, 1) := by decide +kernel
theorem dX10_share_2 : decode cX10_share 2 = .ok (.invokevirtual 95, 3) := by decide +kernel
theorem dX10_share_5 : decode cX10_share 5 = .ok (.ifCond .ne 12, 3) := by decide +kernel
theorem dX10_share_8 : decode cX10_share 8 = .ok (.aload_n 0, 1) := by decide +kernel
theorem dX10_share_9 : decode cX10_share 9 = .ok (.invokevirtual 99, 3) := by decide +kernel
theorem dX10_share_12 : decode cX10_share 12 = .ok (.lconst 0, 1) := by decide +kernel
theorem dX10_share_13 : decode cX10_share 13 = .ok (.lcmp, 1) := by decide +kernel
theorem dX10_share_14 : decode cX10_share 14 = .ok (.ifCond .ge 9, 3) := by decide +kernel
theorem dX10_share_17 : decode cX10_share 17 = .ok (.invokestatic 75, 3) := by decide +kernel
theorem dX10_share_20 : decode cX10_share 20 = .ok (.goto 8, 3) := by decide +kernel
theorem dX10_share_23 : decode cX10_share 23 = .ok (.aload_n 0, 1) := by decide +kernel
theorem dX10_share_24 : decode cX10_share 24 = .ok (.iload_n 1, 1) := by decide +kernel
theorem dX10_share_25 : decode cX10_share 25 = .ok (.invokevirtual 102, 3) := by decide +kernel
theorem dX10_share_28 : decode cX10_share 28 = .ok (.lreturn, 1) := by decide +kernel
set_option maxRecDepth 20000 in
theorem ggX10_lower_X10_lowest : GoodIn wsX10_lower wsX10_lowest := goodIn_r _ [5, 6, 7, 8, 9, 14, 15, 16, 17, 18, 19, 20, 21, 22, 23, 24, 25, 26, 27, 28, 29, 30, 31, 32, 33, 34, 35, 36, 37, 38] (by decide +kernel) (by decide +kernel)
set_option maxRecDepth 20000 in
theorem gX10_lower_X10_lowest : GoodIn wsX10_lower (wsV RX10 99 RX10 yX10_lowest wsX10_lowest) := goodIn_app (goodIn_of _ (by decide +kernel)) ggX10_lower_X10_lowest
set_option maxRecDepth 20000 in
theorem ggX10_lower_X10_lost : GoodIn wsX10_lower wsX10_lost := goodIn_r _ [12, 13] (by decide +kernel) (by decide +kernel)
set_option maxRecDepth 20000 in
theorem gX10_lower_X10_lost : GoodIn wsX10_lower (va_wsS RX10 75 yX10_lost wsX10_lost) := goodIn_app (goodIn_of _ (by decide +kernel)) ggX10_lower_X10_lost
theorem dX10_lower_0 : decode cX10_lower 0 = .ok (.aload_n 0, 1) := by decide +kernel
theorem dX10_lower_1 : decode cX10_lower 1 = .ok (.invokevirtual 99, 3) := by decide +kernel
theorem dX10_lower_4 : decode cX10_lower 4 = .ok (.lstore_n 1, 1) := by decide +kernel
theorem dX10_lower_5 : decode cX10_lower 5 = .ok (.lload_n 1, 1) := by decide +kernel
theorem dX10_lower_6 : decode cX10_lower 6 = .ok (.lconst 0, 1) := by decide +kernel
theorem dX10_lower_7 : decode cX10_lower 7 = .ok (.lcmp, 1) := by decide +kernel
theorem dX10_lower_8 : decode cX10_lower 8 = .ok (.ifCond .ge 9, 3) := by decide +kernel
theorem dX10_lower_11 : decode cX10_lower 11 = .ok (.invokestatic 75, 3) := by decide +kernel
theorem dX10_lower_14 : decode cX10_lower 14 = .ok (.goto 4, 3) := by decide +kernel
theorem dX10_lower_17 : decode cX10_lower 17 = .ok (.lload_n 1, 1) := by decide +kernel
