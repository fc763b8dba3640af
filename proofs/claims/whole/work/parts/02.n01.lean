set_option maxRecDepth 20000 in
theorem ggX0_init_X2_init : GoodIn wsX0_init wsX2_init := goodIn_r _ [3, 4, 5, 6, 7, 8, 9] (by decide +kernel) (by decide +kernel)
set_option maxRecDepth 20000 in
theorem gX0_init_X2_init_n1 : GoodIn wsX0_init (wsX2_init) := ggX0_init_X2_init
theorem dX0_init_0 : decode cX0_init 0 = .ok (.aload_n 0, 1) := by decide +kernel
theorem dX0_init_1 : decode cX0_init 1 = .ok (.invokespecial 1, 3) := by decide +kernel
theorem dX0_init_4 : decode cX0_init 4 = .ok (.return_, 1) := by decide +kernel
set_option maxRecDepth 20000 in
theorem ggX0_telling_X8_leave : GoodIn wsX0_telling wsX8_leave := goodIn_r _ [5, 6, 14] (by decide +kernel) (by decide +kernel)
set_option maxRecDepth 20000 in
theorem gX0_telling_X8_leave : GoodIn wsX0_telling (wsV RX0 7 RX8 yX8_leave wsX8_leave) := goodIn_app (goodIn_of _ (by decide +kernel)) ggX0_telling_X8_leave
set_option maxRecDepth 20000 in
theorem ggX0_telling_X2_telling : GoodIn wsX0_telling wsX2_telling := goodIn_r _ [12, 13, 2, 3, 4, 5, 6, 14] (by decide +kernel) (by decide +kernel)
set_option maxRecDepth 20000 in
theorem gX0_telling_X2_telling_s13 : GoodIn wsX0_telling (va_wsSU RX0 13 yX2_telling wsX2_telling) := goodIn_app (goodIn_of _ (by decide +kernel)) ggX0_telling_X2_telling
theorem dX0_telling_0 : decode cX0_telling 0 = .ok (.aload_n 2, 1) := by decide +kernel
theorem dX0_telling_1 : decode cX0_telling 1 = .ok (.iconst 3, 1) := by decide +kernel
theorem dX0_telling_2 : decode cX0_telling 2 = .ok (.invokevirtual 7, 3) := by decide +kernel
theorem dX0_telling_5 : decode cX0_telling 5 = .ok (.iconst 2, 1) := by decide +kernel
theorem dX0_telling_6 : decode cX0_telling 6 = .ok (.aload_n 0, 1) := by decide +kernel
theorem dX0_telling_7 : decode cX0_telling 7 = .ok (.aload_n 1, 1) := by decide +kernel
theorem dX0_telling_8 : decode cX0_telling 8 = .ok (.aload_n 2, 1) := by decide +kernel
theorem dX0_telling_9 : decode cX0_telling 9 = .ok (.iload_n 3, 1) := by decide +kernel
theorem dX0_telling_10 : decode cX0_telling 10 = .ok (.invokespecial 13, 3) := by decide +kernel
theorem dX0_telling_13 : decode cX0_telling 13 = .ok (.imul, 1) := by decide +kernel
theorem dX0_telling_14 : decode cX0_telling 14 = .ok (.ireturn, 1) := by decide +kernel
set_option maxRecDepth 20000 in
theorem ggX1_init_X3_init : GoodIn wsX1_init wsX3_init := goodIn_r _ [3, 4, 5, 6] (by decide +kernel) (by decide +kernel)
set_option maxRecDepth 20000 in
theorem gX1_init_X3_init_n1 : GoodIn wsX1_init (wsX3_init) := ggX1_init_X3_init
theorem dX1_init_0 : decode cX1_init 0 = .ok (.aload_n 0, 1) := by decide +kernel
theorem dX1_init_1 : decode cX1_init 1 = .ok (.invokespecial 1, 3) := by decide +kernel
theorem dX1_init_4 : decode cX1_init 4 = .ok (.return_, 1) := by decide +kernel
set_option maxRecDepth 20000 in
theorem ggX1_telling_X8_leave : GoodIn wsX1_telling wsX8_leave := goodIn_r _ [5, 6, 13] (by decide +kernel) (by decide +kernel)
set_option maxRecDepth 20000 in
theorem gX1_telling_X8_leave : GoodIn wsX1_telling (wsV RX1 7 RX8 yX8_leave wsX8_leave) := goodIn_app (goodIn_of _ (by decide +kernel)) ggX1_telling_X8_leave
set_option maxRecDepth 20000 in
theorem ggX1_telling_X4_frozenBit : GoodIn wsX1_telling wsX4_frozenBit := goodIn_r _ [11, 12, 14, 15, 16, 17, 18, 19] (by decide +kernel) (by decide +kernel)
set_option maxRecDepth 20000 in
theorem gX1_telling_X4_frozenBit : GoodIn wsX1_telling (wsV RX1 13 RX4 yX4_frozenBit wsX4_frozenBit) := goodIn_app (goodIn_of _ (by decide +kernel)) ggX1_telling_X4_frozenBit
theorem dX1_telling_0 : decode cX1_telling 0 = .ok (.aload_n 2, 1) := by decide +kernel
theorem dX1_telling_1 : decode cX1_telling 1 = .ok (.iconst 1, 1) := by decide +kernel
theorem dX1_telling_2 : decode cX1_telling 2 = .ok (.invokevirtual 7, 3) := by decide +kernel
theorem dX1_telling_5 : decode cX1_telling 5 = .ok (.aload_n 1, 1) := by decide +kernel
theorem dX1_telling_6 : decode cX1_telling 6 = .ok (.iload_n 3, 1) := by decide +kernel
theorem dX1_telling_7 : decode cX1_telling 7 = .ok (.invokevirtual 13, 3) := by decide +kernel
theorem dX1_telling_10 : decode cX1_telling 10 = .ok (.ireturn, 1) := by decide +kernel
set_option maxRecDepth 20000 in
theorem ggX2_init_X3_init : GoodIn wsX2_init wsX3_init := goodIn_r _ [3, 4, 5, 6] (by decide +kernel) (by decide +kernel)
set_option maxRecDepth 20000 in
theorem gX2_init_X3_init_n1 : GoodIn wsX2_init (wsX3_init) := ggX2_init_X3_init
theorem dX2_init_0 : decode cX2_init 0 = .ok (.aload_n 0, 1) := by decide +kernel
theorem dX2_init_1 : decode cX2_init 1 = .ok (.invokespecial 1, 3) := by decide +kernel
theorem dX2_init_4 : decode cX2_init 4 = .ok (.return_, 1) := by decide +kernel
set_option maxRecDepth 20000 in
theorem ggX2_telling_X8_leave : GoodIn wsX2_telling wsX8_leave := goodIn_r _ [5, 6, 7] (by decide +kernel) (by decide +kernel)
set_option maxRecDepth 20000 in
theorem gX2_telling_X8_leave : GoodIn wsX2_telling (wsV RX2 7 RX8 yX8_leave wsX8_leave) := goodIn_app (goodIn_of _ (by decide +kernel)) ggX2_telling_X8_leave
theorem dX2_telling_0 : decode cX2_telling 0 = .ok (.aload_n 2, 1) := by decide +kernel
theorem dX2_telling_1 : decode cX2_telling 1 = .ok (.iconst 2, 1) := by decide +kernel
theorem dX2_telling_2 : decode cX2_telling 2 = .ok (.invokevirtual 7, 3) := by decide +kernel
theorem dX2_telling_5 : decode cX2_telling 5 = .ok (.iload_n 3, 1) := by decide +kernel
theorem dX2_telling_6 : decode cX2_telling 6 = .ok (.bipush 10, 2) := by decide +kernel
theorem dX2_telling_8 : decode cX2_telling 8 = .ok (.iadd, 1) := by decide +kernel
theorem dX2_telling_9 : decode cX2_telling 9 = .ok (.ireturn, 1) := by decide +kernel
set_option maxRecDepth 20000 in
theorem ggX2_weighing_X8_leave : GoodIn wsX2_weighing wsX8_leave := goodIn_r _ [6, 7, 14] (by decide +kernel) (by decide +kernel)
set_option maxRecDepth 20000 in
theorem gX2_weighing_X8_leave : GoodIn wsX2_weighing (wsV RX2 7 RX8 yX8_leave wsX8_leave) := goodIn_app (goodIn_of _ (by decide +kernel)) ggX2_weighing_X8_leave
theorem dX2_weighing_0 : decode cX2_weighing 0 = .ok (.aload_n 2, 1) := by decide +kernel
theorem dX2_weighing_1 : decode cX2_weighing 1 = .ok (.iconst 5, 1) := by decide +kernel
theorem dX2_weighing_2 : decode cX2_weighing 2 = .ok (.invokevirtual 7, 3) := by decide +kernel
theorem dX2_weighing_5 : decode cX2_weighing 5 = .ok (.aload_n 1, 1) := by decide +kernel
theorem dX2_weighing_6 : decode cX2_weighing 6 = .ok (.getfield 13, 3) := by decide +kernel
theorem dX2_weighing_9 : decode cX2_weighing 9 = .ok (.iload_n 3, 1) := by decide +kernel
theorem dX2_weighing_10 : decode cX2_weighing 10 = .ok (.isub, 1) := by decide +kernel
theorem dX2_weighing_11 : decode cX2_weighing 11 = .ok (.ireturn, 1) := by decide +kernel
theorem dX3_init_0 : decode cX3_init 0 = .ok (.aload_n 0, 1) := by decide +kernel
theorem dX3_init_1 : decode cX3_init 1 = .ok (.invokespecial 1, 3) := by decide +kernel
theorem dX3_init_4 : decode cX3_init 4 = .ok (.return_, 1) := by decide +kernel
set_option maxRecDepth 20000 in
theorem ggX3_weighing_X8_leave : GoodIn wsX3_weighing wsX8_leave := goodIn_r _ [5, 6, 7] (by decide +kernel) (by decide +kernel)
set_option maxRecDepth 20000 in
theorem gX3_weighing_X8_leave : GoodIn wsX3_weighing (wsV RX3 7 RX8 yX8_leave wsX8_leave) := goodIn_app (goodIn_of _ (by decide +kernel)) ggX3_weighing_X8_leave
theorem dX3_weighing_0 : decode cX3_weighing 0 = .ok (.aload_n 2, 1) := by decide +kernel
theorem dX3_weighing_1 : decode cX3_weighing 1 = .ok (.iconst 4, 1) := by decide +kernel
theorem dX3_weighing_2 : decode cX3_weighing 2 = .ok (.invokevirtual 7, 3) := by decide +kernel
theorem dX3_weighing_5 : decode cX3_weighing 5 = .ok (.iload_n 3, 1) := by decide +kernel
theorem dX3_weighing_6 : decode cX3_weighing 6 = .ok (.ireturn, 1) := by decide +kernel
theorem dX4_init_0 : decode cX4_init 0 = .ok (.aload_n 0, 1) := by decide +kernel
theorem dX4_init_1 : decode cX4_init 1 = .ok (.invokespecial 3, 3) := by decide +kernel
theorem dX4_init_4 : decode cX4_init 4 = .ok (.aload_n 0, 1) := by decide +kernel
theorem dX4_init_5 : decode cX4_init 5 = .ok (.bipush 8, 2) := by decide +kernel
theorem dX4_init_7 : decode cX4_init 7 = .ok (.putfield 9, 3) := by decide +kernel
theorem dX4_init_10 : decode cX4_init 10 = .ok (.aload_n 0, 1) := by decide +kernel
theorem dX4_init_11 : decode cX4_init 11 = .ok (.iconst 1, 1) := by decide +kernel
theorem dX4_init_12 : decode cX4_init 12 = .ok (.putfield 15, 3) := by decide +kernel
theorem dX4_init_15 : decode cX4_init 15 = .ok (.aload_n 0, 1) := by decide +kernel
theorem dX4_init_16 : decode cX4_init 16 = .ok (.iconst 2, 1) := by decide +kernel
theorem dX4_init_17 : decode cX4_init 17 = .ok (.putfield 18, 3) := by decide +kernel
theorem dX4_init_20 : decode cX4_init 20 = .ok (.aload_n 0, 1) := by decide +kernel
theorem dX4_init_21 : decode cX4_init 21 = .ok (.bipush 32, 2) := by decide +kernel
theorem dX4_init_23 : decode cX4_init 23 = .ok (.newarray .long, 2) := by decide +kernel
theorem dX4_init_25 : decode cX4_init 25 = .ok (.putfield 21, 3) := by decide +kernel
theorem dX4_init_28 : decode cX4_init 28 = .ok (.return_, 1) := by decide +kernel
theorem dX4_has_0 : decode cX4_has 0 = .ok (.iload_n 1, 1) := by decide +kernel
theorem dX4_has_1 : decode cX4_has 1 = .ok (.ifCond .lt 15, 3) := by decide +kernel
theorem dX4_has_4 : decode cX4_has 4 = .ok (.iload_n 1, 1) := by decide +kernel
theorem dX4_has_5 : decode cX4_has 5 = .ok (.aload_n 0, 1) := by decide +kernel
theorem dX4_has_6 : decode cX4_has 6 = .ok (.getfield 9, 3) := by decide +kernel
theorem dX4_has_9 : decode cX4_has 9 = .ok (.if_icmp .ge 7, 3) := by decide +kernel
theorem dX4_has_12 : decode cX4_has 12 = .ok (.iconst 1, 1) := by decide +kernel
theorem dX4_has_13 : decode cX4_has 13 = .ok (.goto 4, 3) := by decide +kernel
theorem dX4_has_16 : decode cX4_has 16 = .ok (.iconst 0, 1) := by decide +kernel
theorem dX4_has_17 : decode cX4_has 17 = .ok (.ireturn, 1) := by decide +kernel
theorem dX4_isGood_0 : decode cX4_isGood 0 = .ok (.aload_n 0, 1) := by decide +kernel
theorem dX4_isGood_1 : decode cX4_isGood 1 = .ok (.getfield 25, 3) := by decide +kernel
theorem dX4_isGood_4 : decode cX4_isGood 4 = .ok (.iload_n 1, 1) := by decide +kernel
theorem dX4_isGood_5 : decode cX4_isGood 5 = .ok (.lushr, 1) := by decide +kernel
theorem dX4_isGood_6 : decode cX4_isGood 6 = .ok (.lconst 1, 1) := by decide +kernel
theorem dX4_isGood_7 : decode cX4_isGood 7 = .ok (.land, 1) := by decide +kernel
theorem dX4_isGood_8 : decode cX4_isGood 8 = .ok (.lconst 0, 1) := by decide +kernel
theorem dX4_isGood_9 : decode cX4_isGood 9 = .ok (.lcmp, 1) := by decide +kernel
theorem dX4_isGood_10 : decode cX4_isGood 10 = .ok (.ifCond .eq 7, 3) := by decide +kernel
theorem dX4_isGood_13 : decode cX4_isGood 13 = .ok (.iconst 1, 1) := by decide +kernel
theorem dX4_isGood_14 : decode cX4_isGood 14 = .ok (.goto 4, 3) := by decide +kernel
theorem dX4_isGood_17 : decode cX4_isGood 17 = .ok (.iconst 0, 1) := by decide +kernel
theorem dX4_isGood_18 : decode cX4_isGood 18 = .ok (.ireturn, 1) := by decide +kernel
theorem dX4_frozenBit_0 : decode cX4_frozenBit 0 = .ok (.aload_n 0, 1) := by decide +kernel
theorem dX4_frozenBit_1 : decode cX4_frozenBit 1 = .ok (.getfield 29, 3) := by decide +kernel
theorem dX4_frozenBit_4 : decode cX4_frozenBit 4 = .ok (.iload_n 1, 1) := by decide +kernel
theorem dX4_frozenBit_5 : decode cX4_frozenBit 5 = .ok (.lushr, 1) := by decide +kernel
theorem dX4_frozenBit_6 : decode cX4_frozenBit 6 = .ok (.lconst 1, 1) := by decide +kernel
theorem dX4_frozenBit_7 : decode cX4_frozenBit 7 = .ok (.land, 1) := by decide +kernel
theorem dX4_frozenBit_8 : decode cX4_frozenBit 8 = .ok (.l2i, 1) := by decide +kernel
theorem dX4_frozenBit_9 : decode cX4_frozenBit 9 = .ok (.ireturn, 1) := by decide +kernel
set_option maxRecDepth 20000 in
theorem ggX4_goodCount_J13_bitCount_95d88 : GoodIn wsX4_goodCount wsJ13_bitCount_95d88 := goodIn_r _ [5, 6, 7, 8] (by decide +kernel) (by decide +kernel)
set_option maxRecDepth 20000 in
theorem gX4_goodCount_J13_bitCount_95d88 : GoodIn wsX4_goodCount (va_wsS RX4 32 yJ13_bitCount_95d88 wsJ13_bitCount_95d88) := goodIn_app (goodIn_of _ (by decide +kernel)) ggX4_goodCount_J13_bitCount_95d88
theorem dX4_goodCount_0 : decode cX4_goodCount 0 = .ok (.aload_n 0, 1) := by decide +kernel
theorem dX4_goodCount_1 : decode cX4_goodCount 1 = .ok (.getfield 25, 3) := by decide +kernel
theorem dX4_goodCount_4 : decode cX4_goodCount 4 = .ok (.invokestatic 32, 3) := by decide +kernel
theorem dX4_goodCount_7 : decode cX4_goodCount 7 = .ok (.ireturn, 1) := by decide +kernel
set_option maxRecDepth 20000 in
theorem ggX4_messageBitOf_J13_bitCount_95d88 : GoodIn wsX4_messageBitOf wsJ13_bitCount_95d88 := goodIn_r _ [5, 6, 7, 8] (by decide +kernel) (by decide +kernel)
set_option maxRecDepth 20000 in
theorem gX4_messageBitOf_J13_bitCount_95d88 : GoodIn wsX4_messageBitOf (va_wsS RX4 32 yJ13_bitCount_95d88 wsJ13_bitCount_95d88) := goodIn_app (goodIn_of _ (by decide +kernel)) ggX4_messageBitOf_J13_bitCount_95d88
theorem dX4_messageBitOf_0 : decode cX4_messageBitOf 0 = .ok (.aload_n 0, 1) := by decide +kernel
theorem dX4_messageBitOf_1 : decode cX4_messageBitOf 1 = .ok (.getfield 25, 3) := by decide +kernel
theorem dX4_messageBitOf_4 : decode cX4_messageBitOf 4 = .ok (.lconst 1, 1) := by decide +kernel
theorem dX4_messageBitOf_5 : decode cX4_messageBitOf 5 = .ok (.iload_n 1, 1) := by decide +kernel
theorem dX4_messageBitOf_6 : decode cX4_messageBitOf 6 = .ok (.lshl, 1) := by decide +kernel
theorem dX4_messageBitOf_7 : decode cX4_messageBitOf 7 = .ok (.lconst 1, 1) := by decide +kernel
theorem dX4_messageBitOf_8 : decode cX4_messageBitOf 8 = .ok (.lsub, 1) := by decide +kernel
theorem dX4_messageBitOf_9 : decode cX4_messageBitOf 9 = .ok (.land, 1) := by decide +kernel
theorem dX4_messageBitOf_10 : decode cX4_messageBitOf 10 = .ok (.invokestatic 32, 3) := by decide +kernel
theorem dX4_messageBitOf_13 : decode cX4_messageBitOf 13 = .ok (.ireturn, 1) := by decide +kernel
theorem dX4_allPlaces_0 : decode cX4_allPlaces 0 = .ok (.lconst 1, 1) := by decide +kernel
theorem dX4_allPlaces_1 : decode cX4_allPlaces 1 = .ok (.aload_n 0, 1) := by decide +kernel
theorem dX4_allPlaces_2 : decode cX4_allPlaces 2 = .ok (.getfield 9, 3) := by decide +kernel
theorem dX4_allPlaces_5 : decode cX4_allPlaces 5 = .ok (.lshl, 1) := by decide +kernel
theorem dX4_allPlaces_6 : decode cX4_allPlaces 6 = .ok (.lconst 1, 1) := by decide +kernel
theorem dX4_allPlaces_7 : decode cX4_allPlaces 7 = .ok (.lsub, 1) := by decide +kernel
theorem dX4_allPlaces_8 : decode cX4_allPlaces 8 = .ok (.lreturn, 1) := by decide +kernel
set_option maxRecDepth 20000 in
theorem ggX4_isRow_X4_allPlaces : GoodIn wsX4_isRow wsX4_allPlaces := goodIn_r _ [5, 6, 7, 8, 9, 10, 11, 12] (by decide +kernel) (by decide +kernel)
set_option maxRecDepth 20000 in
theorem gX4_isRow_X4_allPlaces : GoodIn wsX4_isRow (wsV RX4 38 RX4 yX4_allPlaces wsX4_allPlaces) := goodIn_app (goodIn_of _ (by decide +kernel)) ggX4_isRow_X4_allPlaces
theorem dX4_isRow_0 : decode cX4_isRow 0 = .ok (.lload_n 1, 1) := by decide +kernel
theorem dX4_isRow_1 : decode cX4_isRow 1 = .ok (.lconst 0, 1) := by decide +kernel
theorem dX4_isRow_2 : decode cX4_isRow 2 = .ok (.lcmp, 1) := by decide +kernel
theorem dX4_isRow_3 : decode cX4_isRow 3 = .ok (.ifCond .lt 16, 3) := by decide +kernel
theorem dX4_isRow_6 : decode cX4_isRow 6 = .ok (.lload_n 1, 1) := by decide +kernel
theorem dX4_isRow_7 : decode cX4_isRow 7 = .ok (.aload_n 0, 1) := by decide +kernel
theorem dX4_isRow_8 : decode cX4_isRow 8 = .ok (.invokevirtual 38, 3) := by decide +kernel
theorem dX4_isRow_11 : decode cX4_isRow 11 = .ok (.lcmp, 1) := by decide +kernel
theorem dX4_isRow_12 : decode cX4_isRow 12 = .ok (.ifCond .gt 7, 3) := by decide +kernel
theorem dX4_isRow_15 : decode cX4_isRow 15 = .ok (.iconst 1, 1) := by decide +kernel
theorem dX4_isRow_16 : decode cX4_isRow 16 = .ok (.goto 4, 3) := by decide +kernel
theorem dX4_isRow_19 : decode cX4_isRow 19 = .ok (.iconst 0, 1) := by decide +kernel
theorem dX4_isRow_20 : decode cX4_isRow 20 = .ok (.ireturn, 1) := by decide +kernel
set_option maxRecDepth 20000 in
theorem ggX4_isMessage_X4_goodCount : GoodIn wsX4_isMessage wsX4_goodCount := goodIn_r _ [5, 6, 7, 8, 9, 10, 11, 12, 13, 14, 15, 16, 17, 18, 19] (by decide +kernel) (by decide +kernel)
set_option maxRecDepth 20000 in
theorem gX4_isMessage_X4_goodCount : GoodIn wsX4_isMessage (wsV RX4 42 RX4 yX4_goodCount wsX4_goodCount) := goodIn_app (goodIn_of _ (by decide +kernel)) ggX4_isMessage_X4_goodCount
theorem dX4_isMessage_0 : decode cX4_isMessage 0 = .ok (.lload_n 1, 1) := by decide +kernel
theorem dX4_isMessage_1 : decode cX4_isMessage 1 = .ok (.lconst 0, 1) := by decide +kernel
theorem dX4_isMessage_2 : decode cX4_isMessage 2 = .ok (.lcmp, 1) := by decide +kernel
theorem dX4_isMessage_3 : decode cX4_isMessage 3 = .ok (.ifCond .lt 18, 3) := by decide +kernel
theorem dX4_isMessage_6 : decode cX4_isMessage 6 = .ok (.lload_n 1, 1) := by decide +kernel
theorem dX4_isMessage_7 : decode cX4_isMessage 7 = .ok (.lconst 1, 1) := by decide +kernel
theorem dX4_isMessage_8 : decode cX4_isMessage 8 = .ok (.aload_n 0, 1) := by decide +kernel
theorem dX4_isMessage_9 : decode cX4_isMessage 9 = .ok (.invokevirtual 42, 3) := by decide +kernel
theorem dX4_isMessage_12 : decode cX4_isMessage 12 = .ok (.lshl, 1) := by decide +kernel
theorem dX4_isMessage_13 : decode cX4_isMessage 13 = .ok (.lcmp, 1) := by decide +kernel
theorem dX4_isMessage_14 : decode cX4_isMessage 14 = .ok (.ifCond .ge 7, 3) := by decide +kernel
theorem dX4_isMessage_17 : decode cX4_isMessage 17 = .ok (.iconst 1, 1) := by decide +kernel
theorem dX4_isMessage_18 : decode cX4_isMessage 18 = .ok (.goto 4, 3) := by decide +kernel
theorem dX4_isMessage_21 : decode cX4_isMessage 21 = .ok (.iconst 0, 1) := by decide +kernel
theorem dX4_isMessage_22 : decode cX4_isMessage 22 = .ok (.ireturn, 1) := by decide +kernel
theorem dX4_setAll_0 : decode cX4_setAll 0 = .ok (.aload_n 0, 1) := by decide +kernel
theorem dX4_setAll_1 : decode cX4_setAll 1 = .ok (.lload_n 1, 1) := by decide +kernel
theorem dX4_setAll_2 : decode cX4_setAll 2 = .ok (.putfield 25, 3) := by decide +kernel
theorem dX4_setAll_5 : decode cX4_setAll 5 = .ok (.aload_n 0, 1) := by decide +kernel
theorem dX4_setAll_6 : decode cX4_setAll 6 = .ok (.lconst 0, 1) := by decide +kernel
theorem dX4_setAll_7 : decode cX4_setAll 7 = .ok (.putfield 29, 3) := by decide +kernel
theorem dX4_setAll_10 : decode cX4_setAll 10 = .ok (.return_, 1) := by decide +kernel
theorem dX4_setGood_0 : decode cX4_setGood 0 = .ok (.aload_n 0, 1) := by decide +kernel
theorem dX4_setGood_1 : decode cX4_setGood 1 = .ok (.dup, 1) := by decide +kernel
theorem dX4_setGood_2 : decode cX4_setGood 2 = .ok (.getfield 25, 3) := by decide +kernel
theorem dX4_setGood_5 : decode cX4_setGood 5 = .ok (.lconst 1, 1) := by decide +kernel
theorem dX4_setGood_6 : decode cX4_setGood 6 = .ok (.iload_n 1, 1) := by decide +kernel
theorem dX4_setGood_7 : decode cX4_setGood 7 = .ok (.lshl, 1) := by decide +kernel
theorem dX4_setGood_8 : decode cX4_setGood 8 = .ok (.lor, 1) := by decide +kernel
theorem dX4_setGood_9 : decode cX4_setGood 9 = .ok (.putfield 25, 3) := by decide +kernel
theorem dX4_setGood_12 : decode cX4_setGood 12 = .ok (.aload_n 0, 1) := by decide +kernel
theorem dX4_setGood_13 : decode cX4_setGood 13 = .ok (.dup, 1) := by decide +kernel
theorem dX4_setGood_14 : decode cX4_setGood 14 = .ok (.getfield 29, 3) := by decide +kernel
theorem dX4_setGood_17 : decode cX4_setGood 17 = .ok (.lconst 1, 1) := by decide +kernel
theorem dX4_setGood_18 : decode cX4_setGood 18 = .ok (.iload_n 1, 1) := by decide +kernel
theorem dX4_setGood_19 : decode cX4_setGood 19 = .ok (.lshl, 1) := by decide +kernel
theorem dX4_setGood_20 : decode cX4_setGood 20 = .ok (.ldc2_w 46, 3) := by decide +kernel
theorem dX4_setGood_23 : decode cX4_setGood 23 = .ok (.lxor, 1) := by decide +kernel
theorem dX4_setGood_24 : decode cX4_setGood 24 = .ok (.land, 1) := by decide +kernel
theorem dX4_setGood_25 : decode cX4_setGood 25 = .ok (.putfield 29, 3) := by decide +kernel
theorem dX4_setGood_28 : decode cX4_setGood 28 = .ok (.return_, 1) := by decide +kernel
theorem dX4_setFrozen_0 : decode cX4_setFrozen 0 = .ok (.aload_n 0, 1) := by decide +kernel
theorem dX4_setFrozen_1 : decode cX4_setFrozen 1 = .ok (.dup, 1) := by decide +kernel
theorem dX4_setFrozen_2 : decode cX4_setFrozen 2 = .ok (.getfield 25, 3) := by decide +kernel
theorem dX4_setFrozen_5 : decode cX4_setFrozen 5 = .ok (.lconst 1, 1) := by decide +kernel
theorem dX4_setFrozen_6 : decode cX4_setFrozen 6 = .ok (.iload_n 1, 1) := by decide +kernel
theorem dX4_setFrozen_7 : decode cX4_setFrozen 7 = .ok (.lshl, 1) := by decide +kernel
theorem dX4_setFrozen_8 : decode cX4_setFrozen 8 = .ok (.ldc2_w 46, 3) := by decide +kernel
theorem dX4_setFrozen_11 : decode cX4_setFrozen 11 = .ok (.lxor, 1) := by decide +kernel
theorem dX4_setFrozen_12 : decode cX4_setFrozen 12 = .ok (.land, 1) := by decide +kernel
theorem dX4_setFrozen_13 : decode cX4_setFrozen 13 = .ok (.putfield 25, 3) := by decide +kernel
theorem dX4_setFrozen_16 : decode cX4_setFrozen 16 = .ok (.aload_n 0, 1) := by decide +kernel
theorem dX4_setFrozen_17 : decode cX4_setFrozen 17 = .ok (.aload_n 0, 1) := by decide +kernel
theorem dX4_setFrozen_18 : decode cX4_setFrozen 18 = .ok (.getfield 29, 3) := by decide +kernel
theorem dX4_setFrozen_21 : decode cX4_setFrozen 21 = .ok (.lconst 1, 1) := by decide +kernel
theorem dX4_setFrozen_22 : decode cX4_setFrozen 22 = .ok (.iload_n 1, 1) := by decide +kernel
theorem dX4_setFrozen_23 : decode cX4_setFrozen 23 = .ok (.lshl, 1) := by decide +kernel
theorem dX4_setFrozen_24 : decode cX4_setFrozen 24 = .ok (.ldc2_w 46, 3) := by decide +kernel
theorem dX4_setFrozen_27 : decode cX4_setFrozen 27 = .ok (.lxor, 1) := by decide +kernel
theorem dX4_setFrozen_28 : decode cX4_setFrozen 28 = .ok (.land, 1) := by decide +kernel
theorem dX4_setFrozen_29 : decode cX4_setFrozen 29 = .ok (.iload_n 2, 1) := by decide +kernel
theorem dX4_setFrozen_30 : decode cX4_setFrozen 30 = .ok (.i2l, 1) := by decide +kernel
theorem dX4_setFrozen_31 : decode cX4_setFrozen 31 = .ok (.iload_n 1, 1) := by decide +kernel
theorem dX4_setFrozen_32 : decode cX4_setFrozen 32 = .ok (.lshl, 1) := by decide +kernel
theorem dX4_setFrozen_33 : decode cX4_setFrozen 33 = .ok (.lor, 1) := by decide +kernel
theorem dX4_setFrozen_34 : decode cX4_setFrozen 34 = .ok (.putfield 29, 3) := by decide +kernel
theorem dX4_setFrozen_37 : decode cX4_setFrozen 37 = .ok (.return_, 1) := by decide +kernel
set_option maxRecDepth 20000 in
theorem ggX4_wordOf_X4_spread : GoodIn wsX4_wordOf wsX4_spread := goodIn_r _ [7, 2, 8, 9, 10, 6, 11, 12, 17, 18, 19, 20, 21, 22] (by decide +kernel) (by decide +kernel)
set_option maxRecDepth 20000 in
theorem gX4_wordOf_X4_spread : GoodIn wsX4_wordOf (wsV RX4 48 RX4 yX4_spread wsX4_spread) := goodIn_app (goodIn_of _ (by decide +kernel)) ggX4_wordOf_X4_spread
set_option maxRecDepth 20000 in
theorem ggX4_wordOf_X9_folded : GoodIn wsX4_wordOf wsX9_folded := goodIn_r _ [15, 16] (by decide +kernel) (by decide +kernel)
set_option maxRecDepth 20000 in
theorem gX4_wordOf_X9_folded_n52 : GoodIn wsX4_wordOf (wsX9_folded) := ggX4_wordOf_X9_folded
theorem dX4_wordOf_0 : decode cX4_wordOf 0 = .ok (.aload_n 0, 1) := by decide +kernel
theorem dX4_wordOf_1 : decode cX4_wordOf 1 = .ok (.lload_n 1, 1) := by decide +kernel
theorem dX4_wordOf_2 : decode cX4_wordOf 2 = .ok (.invokevirtual 48, 3) := by decide +kernel
theorem dX4_wordOf_5 : decode cX4_wordOf 5 = .ok (.aload_n 0, 1) := by decide +kernel
theorem dX4_wordOf_6 : decode cX4_wordOf 6 = .ok (.getfield 29, 3) := by decide +kernel
theorem dX4_wordOf_9 : decode cX4_wordOf 9 = .ok (.lor, 1) := by decide +kernel
theorem dX4_wordOf_10 : decode cX4_wordOf 10 = .ok (.aload_n 0, 1) := by decide +kernel
theorem dX4_wordOf_11 : decode cX4_wordOf 11 = .ok (.getfield 9, 3) := by decide +kernel
theorem dX4_wordOf_14 : decode cX4_wordOf 14 = .ok (.invokestatic 52, 3) := by decide +kernel
theorem dX4_wordOf_17 : decode cX4_wordOf 17 = .ok (.lreturn, 1) := by decide +kernel
set_option maxRecDepth 20000 in
theorem ggX4_spread_X4_isGood : GoodIn wsX4_spread wsX4_isGood := goodIn_r _ [6, 7, 8, 9, 10, 11, 12, 13] (by decide +kernel) (by decide +kernel)
set_option maxRecDepth 20000 in
theorem gX4_spread_X4_isGood : GoodIn wsX4_spread (wsV RX4 56 RX4 yX4_isGood wsX4_isGood) := goodIn_app (goodIn_of _ (by decide +kernel)) ggX4_spread_X4_isGood
theorem dX4_spread_0 : decode cX4_spread 0 = .ok (.lconst 0, 1) := by decide +kernel
theorem dX4_spread_1 : decode cX4_spread 1 = .ok (.lstore_n 3, 1) := by decide +kernel
theorem dX4_spread_2 : decode cX4_spread 2 = .ok (.lload_n 1, 1) := by decide +kernel
theorem dX4_spread_3 : decode cX4_spread 3 = .ok (.lstore 5, 2) := by decide +kernel
theorem dX4_spread_5 : decode cX4_spread 5 = .ok (.iconst 0, 1) := by decide +kernel
theorem dX4_spread_6 : decode cX4_spread 6 = .ok (.istore 7, 2) := by decide +kernel
theorem dX4_spread_8 : decode cX4_spread 8 = .ok (.iload 7, 2) := by decide +kernel
theorem dX4_spread_10 : decode cX4_spread 10 = .ok (.aload_n 0, 1) := by decide +kernel
theorem dX4_spread_11 : decode cX4_spread 11 = .ok (.getfield 9, 3) := by decide +kernel
theorem dX4_spread_14 : decode cX4_spread 14 = .ok (.if_icmp .ge 34, 3) := by decide +kernel
theorem dX4_spread_17 : decode cX4_spread 17 = .ok (.aload_n 0, 1) := by decide +kernel
theorem dX4_spread_18 : decode cX4_spread 18 = .ok (.iload 7, 2) := by decide +kernel
theorem dX4_spread_20 : decode cX4_spread 20 = .ok (.invokevirtual 56, 3) := by decide +kernel
theorem dX4_spread_23 : decode cX4_spread 23 = .ok (.ifCond .eq 19, 3) := by decide +kernel
theorem dX4_spread_26 : decode cX4_spread 26 = .ok (.lload_n 3, 1) := by decide +kernel
theorem dX4_spread_27 : decode cX4_spread 27 = .ok (.lload 5, 2) := by decide +kernel
theorem dX4_spread_29 : decode cX4_spread 29 = .ok (.lconst 1, 1) := by decide +kernel
theorem dX4_spread_30 : decode cX4_spread 30 = .ok (.land, 1) := by decide +kernel
theorem dX4_spread_31 : decode cX4_spread 31 = .ok (.iload 7, 2) := by decide +kernel
theorem dX4_spread_33 : decode cX4_spread 33 = .ok (.lshl, 1) := by decide +kernel
theorem dX4_spread_34 : decode cX4_spread 34 = .ok (.lor, 1) := by decide +kernel
theorem dX4_spread_35 : decode cX4_spread 35 = .ok (.lstore_n 3, 1) := by decide +kernel
theorem dX4_spread_36 : decode cX4_spread 36 = .ok (.lload 5, 2) := by decide +kernel
theorem dX4_spread_38 : decode cX4_spread 38 = .ok (.iconst 1, 1) := by decide +kernel
theorem dX4_spread_39 : decode cX4_spread 39 = .ok (.lushr, 1) := by decide +kernel
theorem dX4_spread_40 : decode cX4_spread 40 = .ok (.lstore 5, 2) := by decide +kernel
theorem dX4_spread_42 : decode cX4_spread 42 = .ok (.iinc 7 1, 3) := by decide +kernel
theorem dX4_spread_45 : decode cX4_spread 45 = .ok (.goto (-37), 3) := by decide +kernel
theorem dX4_spread_48 : decode cX4_spread 48 = .ok (.lload_n 3, 1) := by decide +kernel
theorem dX4_spread_49 : decode cX4_spread 49 = .ok (.lreturn, 1) := by decide +kernel
set_option maxRecDepth 20000 in
theorem ggX4_messageIn_X4_isGood : GoodIn wsX4_messageIn wsX4_isGood := goodIn_r _ [6, 7, 8, 9, 10, 11, 12, 13] (by decide +kernel) (by decide +kernel)
set_option maxRecDepth 20000 in
theorem gX4_messageIn_X4_isGood : GoodIn wsX4_messageIn (wsV RX4 56 RX4 yX4_isGood wsX4_isGood) := goodIn_app (goodIn_of _ (by decide +kernel)) ggX4_messageIn_X4_isGood
theorem dX4_messageIn_0 : decode cX4_messageIn 0 = .ok (.lconst 0, 1) := by decide +kernel
theorem dX4_messageIn_1 : decode cX4_messageIn 1 = .ok (.lstore_n 3, 1) := by decide +kernel
theorem dX4_messageIn_2 : decode cX4_messageIn 2 = .ok (.iconst 0, 1) := by decide +kernel
theorem dX4_messageIn_3 : decode cX4_messageIn 3 = .ok (.istore 5, 2) := by decide +kernel
theorem dX4_messageIn_5 : decode cX4_messageIn 5 = .ok (.iconst 0, 1) := by decide +kernel
theorem dX4_messageIn_6 : decode cX4_messageIn 6 = .ok (.istore 6, 2) := by decide +kernel
theorem dX4_messageIn_8 : decode cX4_messageIn 8 = .ok (.iload 6, 2) := by decide +kernel
theorem dX4_messageIn_10 : decode cX4_messageIn 10 = .ok (.aload_n 0, 1) := by decide +kernel
theorem dX4_messageIn_11 : decode cX4_messageIn 11 = .ok (.getfield 9, 3) := by decide +kernel
theorem dX4_messageIn_14 : decode cX4_messageIn 14 = .ok (.if_icmp .ge 33, 3) := by decide +kernel
theorem dX4_messageIn_17 : decode cX4_messageIn 17 = .ok (.aload_n 0, 1) := by decide +kernel
theorem dX4_messageIn_18 : decode cX4_messageIn 18 = .ok (.iload 6, 2) := by decide +kernel
theorem dX4_messageIn_20 : decode cX4_messageIn 20 = .ok (.invokevirtual 56, 3) := by decide +kernel
theorem dX4_messageIn_23 : decode cX4_messageIn 23 = .ok (.ifCond .eq 18, 3) := by decide +kernel
theorem dX4_messageIn_26 : decode cX4_messageIn 26 = .ok (.lload_n 3, 1) := by decide +kernel
theorem dX4_messageIn_27 : decode cX4_messageIn 27 = .ok (.lload_n 1, 1) := by decide +kernel
theorem dX4_messageIn_28 : decode cX4_messageIn 28 = .ok (.iload 6, 2) := by decide +kernel
theorem dX4_messageIn_30 : decode cX4_messageIn 30 = .ok (.lushr, 1) := by decide +kernel
theorem dX4_messageIn_31 : decode cX4_messageIn 31 = .ok (.lconst 1, 1) := by decide +kernel
theorem dX4_messageIn_32 : decode cX4_messageIn 32 = .ok (.land, 1) := by decide +kernel
theorem dX4_messageIn_33 : decode cX4_messageIn 33 = .ok (.iload 5, 2) := by decide +kernel
theorem dX4_messageIn_35 : decode cX4_messageIn 35 = .ok (.lshl, 1) := by decide +kernel
theorem dX4_messageIn_36 : decode cX4_messageIn 36 = .ok (.lor, 1) := by decide +kernel
theorem dX4_messageIn_37 : decode cX4_messageIn 37 = .ok (.lstore_n 3, 1) := by decide +kernel
theorem dX4_messageIn_38 : decode cX4_messageIn 38 = .ok (.iinc 5 1, 3) := by decide +kernel
theorem dX4_messageIn_41 : decode cX4_messageIn 41 = .ok (.iinc 6 1, 3) := by decide +kernel
theorem dX4_messageIn_44 : decode cX4_messageIn 44 = .ok (.goto (-36), 3) := by decide +kernel
theorem dX4_messageIn_47 : decode cX4_messageIn 47 = .ok (.lload_n 3, 1) := by decide +kernel
theorem dX4_messageIn_48 : decode cX4_messageIn 48 = .ok (.lreturn, 1) := by decide +kernel
theorem dX4_lowerNumber_0 : decode cX4_lowerNumber 0 = .ok (.lconst 1, 1) := by decide +kernel
theorem dX4_lowerNumber_1 : decode cX4_lowerNumber 1 = .ok (.lstore_n 1, 1) := by decide +kernel
theorem dX4_lowerNumber_2 : decode cX4_lowerNumber 2 = .ok (.iconst 0, 1) := by decide +kernel
theorem dX4_lowerNumber_3 : decode cX4_lowerNumber 3 = .ok (.istore_n 3, 1) := by decide +kernel
theorem dX4_lowerNumber_4 : decode cX4_lowerNumber 4 = .ok (.iload_n 3, 1) := by decide +kernel
theorem dX4_lowerNumber_5 : decode cX4_lowerNumber 5 = .ok (.aload_n 0, 1) := by decide +kernel
theorem dX4_lowerNumber_6 : decode cX4_lowerNumber 6 = .ok (.getfield 9, 3) := by decide +kernel
theorem dX4_lowerNumber_9 : decode cX4_lowerNumber 9 = .ok (.if_icmp .ge 29, 3) := by decide +kernel
theorem dX4_lowerNumber_12 : decode cX4_lowerNumber 12 = .ok (.lload_n 1, 1) := by decide +kernel
theorem dX4_lowerNumber_13 : decode cX4_lowerNumber 13 = .ok (.aload_n 0, 1) := by decide +kernel
theorem dX4_lowerNumber_14 : decode cX4_lowerNumber 14 = .ok (.getfield 18, 3) := by decide +kernel
theorem dX4_lowerNumber_17 : decode cX4_lowerNumber 17 = .ok (.i2l, 1) := by decide +kernel
theorem dX4_lowerNumber_18 : decode cX4_lowerNumber 18 = .ok (.lmul, 1) := by decide +kernel
theorem dX4_lowerNumber_19 : decode cX4_lowerNumber 19 = .ok (.lstore_n 1, 1) := by decide +kernel
theorem dX4_lowerNumber_20 : decode cX4_lowerNumber 20 = .ok (.lload_n 1, 1) := by decide +kernel
theorem dX4_lowerNumber_21 : decode cX4_lowerNumber 21 = .ok (.ldc2_w 60, 3) := by decide +kernel
theorem dX4_lowerNumber_24 : decode cX4_lowerNumber 24 = .ok (.lcmp, 1) := by decide +kernel
theorem dX4_lowerNumber_25 : decode cX4_lowerNumber 25 = .ok (.ifCond .le 7, 3) := by decide +kernel
theorem dX4_lowerNumber_28 : decode cX4_lowerNumber 28 = .ok (.ldc2_w 62, 3) := by decide +kernel
theorem dX4_lowerNumber_31 : decode cX4_lowerNumber 31 = .ok (.lreturn, 1) := by decide +kernel
theorem dX4_lowerNumber_32 : decode cX4_lowerNumber 32 = .ok (.iinc 3 1, 3) := by decide +kernel
theorem dX4_lowerNumber_35 : decode cX4_lowerNumber 35 = .ok (.goto (-31), 3) := by decide +kernel
theorem dX4_lowerNumber_38 : decode cX4_lowerNumber 38 = .ok (.lload_n 1, 1) := by decide +kernel
theorem dX4_lowerNumber_39 : decode cX4_lowerNumber 39 = .ok (.lreturn, 1) := by decide +kernel
set_option maxRecDepth 20000 in
theorem ggX4_upperNumber_X4_lowerNumber : GoodIn wsX4_upperNumber wsX4_lowerNumber := goodIn_r _ [6, 7, 8, 9, 1, 16, 17, 18, 19, 20, 21] (by decide +kernel) (by decide +kernel)
set_option maxRecDepth 20000 in
theorem gX4_upperNumber_X4_lowerNumber : GoodIn wsX4_upperNumber (wsV RX4 64 RX4 yX4_lowerNumber wsX4_lowerNumber) := goodIn_app (goodIn_of _ (by decide +kernel)) ggX4_upperNumber_X4_lowerNumber
set_option maxRecDepth 20000 in
theorem ggX4_upperNumber_X4_upperBelowLimit : GoodIn wsX4_upperNumber wsX4_upperBelowLimit := goodIn_r _ [13, 14, 8, 7, 15, 16, 17, 18, 19, 20, 21] (by decide +kernel) (by decide +kernel)
set_option maxRecDepth 20000 in
theorem gX4_upperNumber_X4_upperBelowLimit : GoodIn wsX4_upperNumber (wsV RX4 67 RX4 yX4_upperBelowLimit wsX4_upperBelowLimit) := goodIn_app (goodIn_of _ (by decide +kernel)) ggX4_upperNumber_X4_upperBelowLimit
theorem dX4_upperNumber_0 : decode cX4_upperNumber 0 = .ok (.aload_n 0, 1) := by decide +kernel
theorem dX4_upperNumber_1 : decode cX4_upperNumber 1 = .ok (.invokevirtual 64, 3) := by decide +kernel
theorem dX4_upperNumber_4 : decode cX4_upperNumber 4 = .ok (.ldc2_w 62, 3) := by decide +kernel
theorem dX4_upperNumber_7 : decode cX4_upperNumber 7 = .ok (.lcmp, 1) := by decide +kernel
theorem dX4_upperNumber_8 : decode cX4_upperNumber 8 = .ok (.ifCond .ne 9, 3) := by decide +kernel
theorem dX4_upperNumber_11 : decode cX4_upperNumber 11 = .ok (.ldc2_w 62, 3) := by decide +kernel
theorem dX4_upperNumber_14 : decode cX4_upperNumber 14 = .ok (.goto 8, 3) := by decide +kernel
theorem dX4_upperNumber_17 : decode cX4_upperNumber 17 = .ok (.aload_n 0, 1) := by decide +kernel
theorem dX4_upperNumber_18 : decode cX4_upperNumber 18 = .ok (.iload_n 1, 1) := by decide +kernel
theorem dX4_upperNumber_19 : decode cX4_upperNumber 19 = .ok (.invokevirtual 67, 3) := by decide +kernel
theorem dX4_upperNumber_22 : decode cX4_upperNumber 22 = .ok (.lreturn, 1) := by decide +kernel
theorem dX4_upperBelowLimit_0 : decode cX4_upperBelowLimit 0 = .ok (.aload_n 0, 1) := by decide +kernel
theorem dX4_upperBelowLimit_1 : decode cX4_upperBelowLimit 1 = .ok (.getfield 15, 3) := by decide +kernel
theorem dX4_upperBelowLimit_4 : decode cX4_upperBelowLimit 4 = .ok (.i2l, 1) := by decide +kernel
theorem dX4_upperBelowLimit_5 : decode cX4_upperBelowLimit 5 = .ok (.lstore_n 2, 1) := by decide +kernel
theorem dX4_upperBelowLimit_6 : decode cX4_upperBelowLimit 6 = .ok (.aload_n 0, 1) := by decide +kernel
theorem dX4_upperBelowLimit_7 : decode cX4_upperBelowLimit 7 = .ok (.getfield 18, 3) := by decide +kernel
theorem dX4_upperBelowLimit_10 : decode cX4_upperBelowLimit 10 = .ok (.i2l, 1) := by decide +kernel
theorem dX4_upperBelowLimit_11 : decode cX4_upperBelowLimit 11 = .ok (.lstore 4, 2) := by decide +kernel
theorem dX4_upperBelowLimit_13 : decode cX4_upperBelowLimit 13 = .ok (.aload_n 0, 1) := by decide +kernel
theorem dX4_upperBelowLimit_14 : decode cX4_upperBelowLimit 14 = .ok (.getfield 9, 3) := by decide +kernel
theorem dX4_upperBelowLimit_17 : decode cX4_upperBelowLimit 17 = .ok (.iconst 2, 1) := by decide +kernel
theorem dX4_upperBelowLimit_18 : decode cX4_upperBelowLimit 18 = .ok (.idiv, 1) := by decide +kernel
theorem dX4_upperBelowLimit_19 : decode cX4_upperBelowLimit 19 = .ok (.istore 6, 2) := by decide +kernel
theorem dX4_upperBelowLimit_21 : decode cX4_upperBelowLimit 21 = .ok (.iload 6, 2) := by decide +kernel
theorem dX4_upperBelowLimit_23 : decode cX4_upperBelowLimit 23 = .ok (.iconst 1, 1) := by decide +kernel
theorem dX4_upperBelowLimit_24 : decode cX4_upperBelowLimit 24 = .ok (.if_icmp .lt 48, 3) := by decide +kernel
theorem dX4_upperBelowLimit_27 : decode cX4_upperBelowLimit 27 = .ok (.lload_n 2, 1) := by decide +kernel
theorem dX4_upperBelowLimit_28 : decode cX4_upperBelowLimit 28 = .ok (.lload_n 2, 1) := by decide +kernel
theorem dX4_upperBelowLimit_29 : decode cX4_upperBelowLimit 29 = .ok (.lmul, 1) := by decide +kernel
theorem dX4_upperBelowLimit_30 : decode cX4_upperBelowLimit 30 = .ok (.lstore 7, 2) := by decide +kernel
theorem dX4_upperBelowLimit_32 : decode cX4_upperBelowLimit 32 = .ok (.iload_n 1, 1) := by decide +kernel
theorem dX4_upperBelowLimit_33 : decode cX4_upperBelowLimit 33 = .ok (.iload 6, 2) := by decide +kernel
theorem dX4_upperBelowLimit_35 : decode cX4_upperBelowLimit 35 = .ok (.iand, 1) := by decide +kernel
theorem dX4_upperBelowLimit_36 : decode cX4_upperBelowLimit 36 = .ok (.ifCond .ne 17, 3) := by decide +kernel
theorem dX4_upperBelowLimit_39 : decode cX4_upperBelowLimit 39 = .ok (.ldc2_w 71, 3) := by decide +kernel
theorem dX4_upperBelowLimit_42 : decode cX4_upperBelowLimit 42 = .ok (.lload_n 2, 1) := by decide +kernel
theorem dX4_upperBelowLimit_43 : decode cX4_upperBelowLimit 43 = .ok (.lmul, 1) := by decide +kernel
theorem dX4_upperBelowLimit_44 : decode cX4_upperBelowLimit 44 = .ok (.lload 4, 2) := by decide +kernel
theorem dX4_upperBelowLimit_46 : decode cX4_upperBelowLimit 46 = .ok (.lmul, 1) := by decide +kernel
theorem dX4_upperBelowLimit_47 : decode cX4_upperBelowLimit 47 = .ok (.lload 7, 2) := by decide +kernel
theorem dX4_upperBelowLimit_49 : decode cX4_upperBelowLimit 49 = .ok (.lsub, 1) := by decide +kernel
theorem dX4_upperBelowLimit_50 : decode cX4_upperBelowLimit 50 = .ok (.goto 5, 3) := by decide +kernel
theorem dX4_upperBelowLimit_53 : decode cX4_upperBelowLimit 53 = .ok (.lload 7, 2) := by decide +kernel
theorem dX4_upperBelowLimit_55 : decode cX4_upperBelowLimit 55 = .ok (.lstore_n 2, 1) := by decide +kernel
theorem dX4_upperBelowLimit_56 : decode cX4_upperBelowLimit 56 = .ok (.lload 4, 2) := by decide +kernel
theorem dX4_upperBelowLimit_58 : decode cX4_upperBelowLimit 58 = .ok (.lload 4, 2) := by decide +kernel
theorem dX4_upperBelowLimit_60 : decode cX4_upperBelowLimit 60 = .ok (.lmul, 1) := by decide +kernel
theorem dX4_upperBelowLimit_61 : decode cX4_upperBelowLimit 61 = .ok (.lstore 4, 2) := by decide +kernel
theorem dX4_upperBelowLimit_63 : decode cX4_upperBelowLimit 63 = .ok (.iload 6, 2) := by decide +kernel
theorem dX4_upperBelowLimit_65 : decode cX4_upperBelowLimit 65 = .ok (.iconst 2, 1) := by decide +kernel
theorem dX4_upperBelowLimit_66 : decode cX4_upperBelowLimit 66 = .ok (.idiv, 1) := by decide +kernel
theorem dX4_upperBelowLimit_67 : decode cX4_upperBelowLimit 67 = .ok (.istore 6, 2) := by decide +kernel
theorem dX4_upperBelowLimit_69 : decode cX4_upperBelowLimit 69 = .ok (.goto (-48), 3) := by decide +kernel
theorem dX4_upperBelowLimit_72 : decode cX4_upperBelowLimit 72 = .ok (.lload_n 2, 1) := by decide +kernel
theorem dX4_upperBelowLimit_73 : decode cX4_upperBelowLimit 73 = .ok (.lreturn, 1) := by decide +kernel
set_option maxRecDepth 20000 in
theorem ggX4_takeLeastShares_X4_upperBelowLimit : GoodIn wsX4_takeLeastShares wsX4_upperBelowLimit := goodIn_r _ [7, 8, 9, 1, 10, 22, 23, 24, 25, 26, 27] (by decide +kernel) (by decide +kernel)
set_option maxRecDepth 20000 in
theorem gX4_takeLeastShares_X4_upperBelowLimit : GoodIn wsX4_takeLeastShares (wsV RX4 67 RX4 yX4_upperBelowLimit wsX4_upperBelowLimit) := goodIn_app (goodIn_of _ (by decide +kernel)) ggX4_takeLeastShares_X4_upperBelowLimit
set_option maxRecDepth 20000 in
theorem ggX4_takeLeastShares_X4_leastBeside : GoodIn wsX4_takeLeastShares wsX4_leastBeside := goodIn_r _ [14, 15, 1, 2, 22, 23, 24, 25, 26, 27] (by decide +kernel) (by decide +kernel)
set_option maxRecDepth 20000 in
theorem gX4_takeLeastShares_X4_leastBeside : GoodIn wsX4_takeLeastShares (wsV RX4 73 RX4 yX4_leastBeside wsX4_leastBeside) := goodIn_app (goodIn_of _ (by decide +kernel)) ggX4_takeLeastShares_X4_leastBeside
set_option maxRecDepth 20000 in
theorem ggX4_takeLeastShares_X4_setAll : GoodIn wsX4_takeLeastShares wsX4_setAll := goodIn_r _ [19, 20, 21, 22, 23, 24, 25, 26, 27] (by decide +kernel) (by decide +kernel)
set_option maxRecDepth 20000 in
theorem gX4_takeLeastShares_X4_setAll : GoodIn wsX4_takeLeastShares (wsV RX4 76 RX4 yX4_setAll wsX4_setAll) := goodIn_app (goodIn_of _ (by decide +kernel)) ggX4_takeLeastShares_X4_setAll
theorem dX4_takeLeastShares_0 : decode cX4_takeLeastShares 0 = .ok (.iconst 0, 1) := by decide +kernel
theorem dX4_takeLeastShares_1 : decode cX4_takeLeastShares 1 = .ok (.istore_n 2, 1) := by decide +kernel
theorem dX4_takeLeastShares_2 : decode cX4_takeLeastShares 2 = .ok (.iload_n 2, 1) := by decide +kernel
theorem dX4_takeLeastShares_3 : decode cX4_takeLeastShares 3 = .ok (.aload_n 0, 1) := by decide +kernel
theorem dX4_takeLeastShares_4 : decode cX4_takeLeastShares 4 = .ok (.getfield 9, 3) := by decide +kernel
theorem dX4_takeLeastShares_7 : decode cX4_takeLeastShares 7 = .ok (.if_icmp .ge 20, 3) := by decide +kernel
theorem dX4_takeLeastShares_10 : decode cX4_takeLeastShares 10 = .ok (.aload_n 0, 1) := by decide +kernel
theorem dX4_takeLeastShares_11 : decode cX4_takeLeastShares 11 = .ok (.getfield 21, 3) := by decide +kernel
theorem dX4_takeLeastShares_14 : decode cX4_takeLeastShares 14 = .ok (.iload_n 2, 1) := by decide +kernel
theorem dX4_takeLeastShares_15 : decode cX4_takeLeastShares 15 = .ok (.aload_n 0, 1) := by decide +kernel
theorem dX4_takeLeastShares_16 : decode cX4_takeLeastShares 16 = .ok (.iload_n 2, 1) := by decide +kernel
theorem dX4_takeLeastShares_17 : decode cX4_takeLeastShares 17 = .ok (.invokevirtual 67, 3) := by decide +kernel
theorem dX4_takeLeastShares_20 : decode cX4_takeLeastShares 20 = .ok (.lastore, 1) := by decide +kernel
theorem dX4_takeLeastShares_21 : decode cX4_takeLeastShares 21 = .ok (.iinc 2 1, 3) := by decide +kernel
theorem dX4_takeLeastShares_24 : decode cX4_takeLeastShares 24 = .ok (.goto (-22), 3) := by decide +kernel
theorem dX4_takeLeastShares_27 : decode cX4_takeLeastShares 27 = .ok (.lconst 0, 1) := by decide +kernel
theorem dX4_takeLeastShares_28 : decode cX4_takeLeastShares 28 = .ok (.lstore_n 2, 1) := by decide +kernel
theorem dX4_takeLeastShares_29 : decode cX4_takeLeastShares 29 = .ok (.lconst 0, 1) := by decide +kernel
theorem dX4_takeLeastShares_30 : decode cX4_takeLeastShares 30 = .ok (.lstore 4, 2) := by decide +kernel
theorem dX4_takeLeastShares_32 : decode cX4_takeLeastShares 32 = .ok (.iconst 0, 1) := by decide +kernel
theorem dX4_takeLeastShares_33 : decode cX4_takeLeastShares 33 = .ok (.istore 6, 2) := by decide +kernel
theorem dX4_takeLeastShares_35 : decode cX4_takeLeastShares 35 = .ok (.iload 6, 2) := by decide +kernel
theorem dX4_takeLeastShares_37 : decode cX4_takeLeastShares 37 = .ok (.iload_n 1, 1) := by decide +kernel
theorem dX4_takeLeastShares_38 : decode cX4_takeLeastShares 38 = .ok (.if_icmp .ge 35, 3) := by decide +kernel
theorem dX4_takeLeastShares_41 : decode cX4_takeLeastShares 41 = .ok (.aload_n 0, 1) := by decide +kernel
theorem dX4_takeLeastShares_42 : decode cX4_takeLeastShares 42 = .ok (.lload_n 2, 1) := by decide +kernel
theorem dX4_takeLeastShares_43 : decode cX4_takeLeastShares 43 = .ok (.invokevirtual 73, 3) := by decide +kernel
theorem dX4_takeLeastShares_46 : decode cX4_takeLeastShares 46 = .ok (.istore 7, 2) := by decide +kernel
theorem dX4_takeLeastShares_48 : decode cX4_takeLeastShares 48 = .ok (.lload_n 2, 1) := by decide +kernel
theorem dX4_takeLeastShares_49 : decode cX4_takeLeastShares 49 = .ok (.lconst 1, 1) := by decide +kernel
theorem dX4_takeLeastShares_50 : decode cX4_takeLeastShares 50 = .ok (.iload 7, 2) := by decide +kernel
theorem dX4_takeLeastShares_52 : decode cX4_takeLeastShares 52 = .ok (.lshl, 1) := by decide +kernel
theorem dX4_takeLeastShares_53 : decode cX4_takeLeastShares 53 = .ok (.lor, 1) := by decide +kernel
theorem dX4_takeLeastShares_54 : decode cX4_takeLeastShares 54 = .ok (.lstore_n 2, 1) := by decide +kernel
theorem dX4_takeLeastShares_55 : decode cX4_takeLeastShares 55 = .ok (.lload 4, 2) := by decide +kernel
theorem dX4_takeLeastShares_57 : decode cX4_takeLeastShares 57 = .ok (.aload_n 0, 1) := by decide +kernel
theorem dX4_takeLeastShares_58 : decode cX4_takeLeastShares 58 = .ok (.getfield 21, 3) := by decide +kernel
theorem dX4_takeLeastShares_61 : decode cX4_takeLeastShares 61 = .ok (.iload 7, 2) := by decide +kernel
theorem dX4_takeLeastShares_63 : decode cX4_takeLeastShares 63 = .ok (.laload, 1) := by decide +kernel
theorem dX4_takeLeastShares_64 : decode cX4_takeLeastShares 64 = .ok (.ladd, 1) := by decide +kernel
theorem dX4_takeLeastShares_65 : decode cX4_takeLeastShares 65 = .ok (.lstore 4, 2) := by decide +kernel
theorem dX4_takeLeastShares_67 : decode cX4_takeLeastShares 67 = .ok (.iinc 6 1, 3) := by decide +kernel
theorem dX4_takeLeastShares_70 : decode cX4_takeLeastShares 70 = .ok (.goto (-35), 3) := by decide +kernel
theorem dX4_takeLeastShares_73 : decode cX4_takeLeastShares 73 = .ok (.aload_n 0, 1) := by decide +kernel
theorem dX4_takeLeastShares_74 : decode cX4_takeLeastShares 74 = .ok (.lload_n 2, 1) := by decide +kernel
theorem dX4_takeLeastShares_75 : decode cX4_takeLeastShares 75 = .ok (.invokevirtual 76, 3) := by decide +kernel
theorem dX4_takeLeastShares_78 : decode cX4_takeLeastShares 78 = .ok (.lload 4, 2) := by decide +kernel
theorem dX4_takeLeastShares_80 : decode cX4_takeLeastShares 80 = .ok (.lreturn, 1) := by decide +kernel
theorem dX4_leastBeside_0 : decode cX4_leastBeside 0 = .ok (.iconst 0, 1) := by decide +kernel
theorem dX4_leastBeside_1 : decode cX4_leastBeside 1 = .ok (.istore_n 3, 1) := by decide +kernel
theorem dX4_leastBeside_2 : decode cX4_leastBeside 2 = .ok (.ldc2_w 80, 3) := by decide +kernel
theorem dX4_leastBeside_5 : decode cX4_leastBeside 5 = .ok (.lstore 4, 2) := by decide +kernel
theorem dX4_leastBeside_7 : decode cX4_leastBeside 7 = .ok (.iconst 0, 1) := by decide +kernel
theorem dX4_leastBeside_8 : decode cX4_leastBeside 8 = .ok (.istore 6, 2) := by decide +kernel
theorem dX4_leastBeside_10 : decode cX4_leastBeside 10 = .ok (.iload 6, 2) := by decide +kernel
theorem dX4_leastBeside_12 : decode cX4_leastBeside 12 = .ok (.aload_n 0, 1) := by decide +kernel
theorem dX4_leastBeside_13 : decode cX4_leastBeside 13 = .ok (.getfield 9, 3) := by decide +kernel
theorem dX4_leastBeside_16 : decode cX4_leastBeside 16 = .ok (.if_icmp .ge 45, 3) := by decide +kernel
theorem dX4_leastBeside_19 : decode cX4_leastBeside 19 = .ok (.lload_n 1, 1) := by decide +kernel
theorem dX4_leastBeside_20 : decode cX4_leastBeside 20 = .ok (.iload 6, 2) := by decide +kernel
theorem dX4_leastBeside_22 : decode cX4_leastBeside 22 = .ok (.lushr, 1) := by decide +kernel
theorem dX4_leastBeside_23 : decode cX4_leastBeside 23 = .ok (.lconst 1, 1) := by decide +kernel
theorem dX4_leastBeside_24 : decode cX4_leastBeside 24 = .ok (.land, 1) := by decide +kernel
theorem dX4_leastBeside_25 : decode cX4_leastBeside 25 = .ok (.lconst 0, 1) := by decide +kernel
theorem dX4_leastBeside_26 : decode cX4_leastBeside 26 = .ok (.lcmp, 1) := by decide +kernel
theorem dX4_leastBeside_27 : decode cX4_leastBeside 27 = .ok (.ifCond .ne 28, 3) := by decide +kernel
theorem dX4_leastBeside_30 : decode cX4_leastBeside 30 = .ok (.aload_n 0, 1) := by decide +kernel
theorem dX4_leastBeside_31 : decode cX4_leastBeside 31 = .ok (.getfield 21, 3) := by decide +kernel
theorem dX4_leastBeside_34 : decode cX4_leastBeside 34 = .ok (.iload 6, 2) := by decide +kernel
theorem dX4_leastBeside_36 : decode cX4_leastBeside 36 = .ok (.laload, 1) := by decide +kernel
theorem dX4_leastBeside_37 : decode cX4_leastBeside 37 = .ok (.lload 4, 2) := by decide +kernel
theorem dX4_leastBeside_39 : decode cX4_leastBeside 39 = .ok (.lcmp, 1) := by decide +kernel
theorem dX4_leastBeside_40 : decode cX4_leastBeside 40 = .ok (.ifCond .gt 15, 3) := by decide +kernel
theorem dX4_leastBeside_43 : decode cX4_leastBeside 43 = .ok (.iload 6, 2) := by decide +kernel
theorem dX4_leastBeside_45 : decode cX4_leastBeside 45 = .ok (.istore_n 3, 1) := by decide +kernel
theorem dX4_leastBeside_46 : decode cX4_leastBeside 46 = .ok (.aload_n 0, 1) := by decide +kernel
theorem dX4_leastBeside_47 : decode cX4_leastBeside 47 = .ok (.getfield 21, 3) := by decide +kernel
theorem dX4_leastBeside_50 : decode cX4_leastBeside 50 = .ok (.iload 6, 2) := by decide +kernel
theorem dX4_leastBeside_52 : decode cX4_leastBeside 52 = .ok (.laload, 1) := by decide +kernel
theorem dX4_leastBeside_53 : decode cX4_leastBeside 53 = .ok (.lstore 4, 2) := by decide +kernel
theorem dX4_leastBeside_55 : decode cX4_leastBeside 55 = .ok (.iinc 6 1, 3) := by decide +kernel
theorem dX4_leastBeside_58 : decode cX4_leastBeside 58 = .ok (.goto (-48), 3) := by decide +kernel
theorem dX4_leastBeside_61 : decode cX4_leastBeside 61 = .ok (.iload_n 3, 1) := by decide +kernel
theorem dX4_leastBeside_62 : decode cX4_leastBeside 62 = .ok (.ireturn, 1) := by decide +kernel
theorem dX5_init_0 : decode cX5_init 0 = .ok (.aload_n 0, 1) := by decide +kernel
theorem dX5_init_1 : decode cX5_init 1 = .ok (.invokespecial 3, 3) := by decide +kernel
theorem dX5_init_4 : decode cX5_init 4 = .ok (.aload_n 0, 1) := by decide +kernel
theorem dX5_init_5 : decode cX5_init 5 = .ok (.iconst 1, 1) := by decide +kernel
theorem dX5_init_6 : decode cX5_init 6 = .ok (.putfield 9, 3) := by decide +kernel
theorem dX5_init_9 : decode cX5_init 9 = .ok (.aload_n 0, 1) := by decide +kernel
theorem dX5_init_10 : decode cX5_init 10 = .ok (.bipush 64, 2) := by decide +kernel
theorem dX5_init_12 : decode cX5_init 12 = .ok (.newarray .long, 2) := by decide +kernel
theorem dX5_init_14 : decode cX5_init 14 = .ok (.putfield 15, 3) := by decide +kernel
theorem dX5_init_17 : decode cX5_init 17 = .ok (.aload_n 0, 1) := by decide +kernel
theorem dX5_init_18 : decode cX5_init 18 = .ok (.bipush 64, 2) := by decide +kernel
theorem dX5_init_20 : decode cX5_init 20 = .ok (.newarray .long, 2) := by decide +kernel
theorem dX5_init_22 : decode cX5_init 22 = .ok (.putfield 19, 3) := by decide +kernel
theorem dX5_init_25 : decode cX5_init 25 = .ok (.return_, 1) := by decide +kernel
theorem dX5_hasPath_0 : decode cX5_hasPath 0 = .ok (.aload_n 0, 1) := by decide +kernel
theorem dX5_hasPath_1 : decode cX5_hasPath 1 = .ok (.getfield 22, 3) := by decide +kernel
theorem dX5_hasPath_4 : decode cX5_hasPath 4 = .ok (.ifCond .eq 19, 3) := by decide +kernel
theorem dX5_hasPath_7 : decode cX5_hasPath 7 = .ok (.iload_n 1, 1) := by decide +kernel
theorem dX5_hasPath_8 : decode cX5_hasPath 8 = .ok (.ifCond .lt 15, 3) := by decide +kernel
theorem dX5_hasPath_11 : decode cX5_hasPath 11 = .ok (.iload_n 1, 1) := by decide +kernel
theorem dX5_hasPath_12 : decode cX5_hasPath 12 = .ok (.aload_n 0, 1) := by decide +kernel
theorem dX5_hasPath_13 : decode cX5_hasPath 13 = .ok (.getfield 26, 3) := by decide +kernel
theorem dX5_hasPath_16 : decode cX5_hasPath 16 = .ok (.if_icmp .ge 7, 3) := by decide +kernel
theorem dX5_hasPath_19 : decode cX5_hasPath 19 = .ok (.iconst 1, 1) := by decide +kernel
theorem dX5_hasPath_20 : decode cX5_hasPath 20 = .ok (.goto 4, 3) := by decide +kernel
theorem dX5_hasPath_23 : decode cX5_hasPath 23 = .ok (.iconst 0, 1) := by decide +kernel
theorem dX5_hasPath_24 : decode cX5_hasPath 24 = .ok (.ireturn, 1) := by decide +kernel
theorem dX5_rowOf_0 : decode cX5_rowOf 0 = .ok (.aload_n 0, 1) := by decide +kernel
theorem dX5_rowOf_1 : decode cX5_rowOf 1 = .ok (.getfield 15, 3) := by decide +kernel
theorem dX5_rowOf_4 : decode cX5_rowOf 4 = .ok (.iload_n 1, 1) := by decide +kernel
theorem dX5_rowOf_5 : decode cX5_rowOf 5 = .ok (.laload, 1) := by decide +kernel
theorem dX5_rowOf_6 : decode cX5_rowOf 6 = .ok (.lreturn, 1) := by decide +kernel
set_option maxRecDepth 20000 in
theorem ggX5_readRow_X4_isGood : GoodIn wsX5_readRow wsX4_isGood := goodIn_r _ [11, 12, 50, 51, 52, 53, 54, 55] (by decide +kernel) (by decide +kernel)
set_option maxRecDepth 20000 in
theorem gX5_readRow_X4_isGood : GoodIn wsX5_readRow (wsV RX5 41 RX4 yX4_isGood wsX4_isGood) := goodIn_app (goodIn_of _ (by decide +kernel)) ggX5_readRow_X4_isGood
set_option maxRecDepth 20000 in
theorem ggX5_readRow_X5_passGood : GoodIn wsX5_readRow wsX5_passGood := goodIn_r _ [17, 4, 18, 3, 19, 20, 21, 22, 16, 23, 1, 2, 24, 25, 26, 27, 28, 42, 43, 44, 45, 46, 47, 48, 49] (by decide +kernel) (by decide +kernel)
set_option maxRecDepth 20000 in
theorem gX5_readRow_X5_passGood : GoodIn wsX5_readRow (wsV RX5 45 RX5 yX5_passGood wsX5_passGood) := goodIn_app (goodIn_of _ (by decide +kernel)) ggX5_readRow_X5_passGood
set_option maxRecDepth 20000 in
theorem ggX5_readRow_X4_frozenBit : GoodIn wsX5_readRow wsX4_frozenBit := goodIn_r _ [32, 33, 50, 51, 52, 53, 54, 55] (by decide +kernel) (by decide +kernel)
set_option maxRecDepth 20000 in
theorem gX5_readRow_X4_frozenBit : GoodIn wsX5_readRow (wsV RX5 49 RX4 yX4_frozenBit wsX4_frozenBit) := goodIn_app (goodIn_of _ (by decide +kernel)) ggX5_readRow_X4_frozenBit
set_option maxRecDepth 20000 in
theorem ggX5_readRow_X5_passFrozen : GoodIn wsX5_readRow wsX5_passFrozen := goodIn_r _ [37, 4, 18, 3, 19, 20, 21, 22, 16, 23, 1, 2, 24, 25, 26, 27, 28, 42, 43, 44, 45, 46, 47, 48, 49] (by decide +kernel) (by decide +kernel)
set_option maxRecDepth 20000 in
theorem gX5_readRow_X5_passFrozen : GoodIn wsX5_readRow (wsV RX5 53 RX5 yX5_passFrozen wsX5_passFrozen) := goodIn_app (goodIn_of _ (by decide +kernel)) ggX5_readRow_X5_passFrozen
set_option maxRecDepth 20000 in
theorem ggX5_readRow_X5_turnTo : GoodIn wsX5_readRow wsX5_turnTo := goodIn_r _ [41, 3, 19, 4, 42, 43, 44, 45, 46, 47, 48, 49] (by decide +kernel) (by decide +kernel)
set_option maxRecDepth 20000 in
theorem gX5_readRow_X5_turnTo : GoodIn wsX5_readRow (wsV RX5 57 RX5 yX5_turnTo wsX5_turnTo) := goodIn_app (goodIn_of _ (by decide +kernel)) ggX5_readRow_X5_turnTo
theorem dX5_readRow_0 : decode cX5_readRow 0 = .ok (.aload_n 0, 1) := by decide +kernel
theorem dX5_readRow_1 : decode cX5_readRow 1 = .ok (.lload_n 2, 1) := by decide +kernel
theorem dX5_readRow_2 : decode cX5_readRow 2 = .ok (.putfield 29, 3) := by decide +kernel
theorem dX5_readRow_5 : decode cX5_readRow 5 = .ok (.aload_n 0, 1) := by decide +kernel
theorem dX5_readRow_6 : decode cX5_readRow 6 = .ok (.lload 4, 2) := by decide +kernel
theorem dX5_readRow_8 : decode cX5_readRow 8 = .ok (.putfield 33, 3) := by decide +kernel
theorem dX5_readRow_11 : decode cX5_readRow 11 = .ok (.aload_n 0, 1) := by decide +kernel
theorem dX5_readRow_12 : decode cX5_readRow 12 = .ok (.getfield 15, 3) := by decide +kernel
theorem dX5_readRow_15 : decode cX5_readRow 15 = .ok (.iconst 0, 1) := by decide +kernel
theorem dX5_readRow_16 : decode cX5_readRow 16 = .ok (.lconst 0, 1) := by decide +kernel
theorem dX5_readRow_17 : decode cX5_readRow 17 = .ok (.lastore, 1) := by decide +kernel
theorem dX5_readRow_18 : decode cX5_readRow 18 = .ok (.aload_n 0, 1) := by decide +kernel
theorem dX5_readRow_19 : decode cX5_readRow 19 = .ok (.iconst 1, 1) := by decide +kernel
theorem dX5_readRow_20 : decode cX5_readRow 20 = .ok (.putfield 26, 3) := by decide +kernel
theorem dX5_readRow_23 : decode cX5_readRow 23 = .ok (.iconst 0, 1) := by decide +kernel
theorem dX5_readRow_24 : decode cX5_readRow 24 = .ok (.istore 6, 2) := by decide +kernel
theorem dX5_readRow_26 : decode cX5_readRow 26 = .ok (.iload 6, 2) := by decide +kernel
theorem dX5_readRow_28 : decode cX5_readRow 28 = .ok (.aload_n 1, 1) := by decide +kernel
theorem dX5_readRow_29 : decode cX5_readRow 29 = .ok (.getfield 36, 3) := by decide +kernel
theorem dX5_readRow_32 : decode cX5_readRow 32 = .ok (.if_icmp .ge 55, 3) := by decide +kernel
theorem dX5_readRow_35 : decode cX5_readRow 35 = .ok (.aload_n 1, 1) := by decide +kernel
theorem dX5_readRow_36 : decode cX5_readRow 36 = .ok (.iload 6, 2) := by decide +kernel
theorem dX5_readRow_38 : decode cX5_readRow 38 = .ok (.invokevirtual 41, 3) := by decide +kernel
theorem dX5_readRow_41 : decode cX5_readRow 41 = .ok (.ifCond .eq 16, 3) := by decide +kernel
theorem dX5_readRow_44 : decode cX5_readRow 44 = .ok (.aload_n 0, 1) := by decide +kernel
theorem dX5_readRow_45 : decode cX5_readRow 45 = .ok (.aload_n 1, 1) := by decide +kernel
theorem dX5_readRow_46 : decode cX5_readRow 46 = .ok (.getfield 36, 3) := by decide +kernel
theorem dX5_readRow_49 : decode cX5_readRow 49 = .ok (.iload 6, 2) := by decide +kernel
theorem dX5_readRow_51 : decode cX5_readRow 51 = .ok (.invokevirtual 45, 3) := by decide +kernel
theorem dX5_readRow_54 : decode cX5_readRow 54 = .ok (.goto 19, 3) := by decide +kernel
theorem dX5_readRow_57 : decode cX5_readRow 57 = .ok (.aload_n 0, 1) := by decide +kernel
theorem dX5_readRow_58 : decode cX5_readRow 58 = .ok (.aload_n 1, 1) := by decide +kernel
theorem dX5_readRow_59 : decode cX5_readRow 59 = .ok (.getfield 36, 3) := by decide +kernel
theorem dX5_readRow_62 : decode cX5_readRow 62 = .ok (.iload 6, 2) := by decide +kernel
theorem dX5_readRow_64 : decode cX5_readRow 64 = .ok (.aload_n 1, 1) := by decide +kernel
theorem dX5_readRow_65 : decode cX5_readRow 65 = .ok (.iload 6, 2) := by decide +kernel
theorem dX5_readRow_67 : decode cX5_readRow 67 = .ok (.invokevirtual 49, 3) := by decide +kernel
theorem dX5_readRow_70 : decode cX5_readRow 70 = .ok (.invokevirtual 53, 3) := by decide +kernel
theorem dX5_readRow_73 : decode cX5_readRow 73 = .ok (.istore 7, 2) := by decide +kernel
theorem dX5_readRow_75 : decode cX5_readRow 75 = .ok (.aload_n 0, 1) := by decide +kernel
theorem dX5_readRow_76 : decode cX5_readRow 76 = .ok (.iload 7, 2) := by decide +kernel
theorem dX5_readRow_78 : decode cX5_readRow 78 = .ok (.invokevirtual 57, 3) := by decide +kernel
theorem dX5_readRow_81 : decode cX5_readRow 81 = .ok (.iinc 6 1, 3) := by decide +kernel
theorem dX5_readRow_84 : decode cX5_readRow 84 = .ok (.goto (-58), 3) := by decide +kernel
theorem dX5_readRow_87 : decode cX5_readRow 87 = .ok (.aload_n 0, 1) := by decide +kernel
theorem dX5_readRow_88 : decode cX5_readRow 88 = .ok (.iconst 1, 1) := by decide +kernel
theorem dX5_readRow_89 : decode cX5_readRow 89 = .ok (.putfield 22, 3) := by decide +kernel
theorem dX5_readRow_92 : decode cX5_readRow 92 = .ok (.return_, 1) := by decide +kernel
set_option maxRecDepth 20000 in
theorem ggX5_passGood_X5_bitTold : GoodIn wsX5_passGood wsX5_bitTold := goodIn_r _ [9, 10, 11, 12, 13, 14, 15, 16, 17, 18, 19, 20, 21, 22, 23, 24] (by decide +kernel) (by decide +kernel)
set_option maxRecDepth 20000 in
theorem gX5_passGood_X5_bitTold : GoodIn wsX5_passGood (wsV RX5 61 RX5 yX5_bitTold wsX5_bitTold) := goodIn_app (goodIn_of _ (by decide +kernel)) ggX5_passGood_X5_bitTold
theorem dX5_passGood_0 : decode cX5_passGood 0 = .ok (.iconst 0, 1) := by decide +kernel
theorem dX5_passGood_1 : decode cX5_passGood 1 = .ok (.istore_n 3, 1) := by decide +kernel
theorem dX5_passGood_2 : decode cX5_passGood 2 = .ok (.iconst 0, 1) := by decide +kernel
theorem dX5_passGood_3 : decode cX5_passGood 3 = .ok (.istore 4, 2) := by decide +kernel
theorem dX5_passGood_5 : decode cX5_passGood 5 = .ok (.iload 4, 2) := by decide +kernel
theorem dX5_passGood_7 : decode cX5_passGood 7 = .ok (.aload_n 0, 1) := by decide +kernel
theorem dX5_passGood_8 : decode cX5_passGood 8 = .ok (.getfield 26, 3) := by decide +kernel
theorem dX5_passGood_11 : decode cX5_passGood 11 = .ok (.if_icmp .ge 87, 3) := by decide +kernel
theorem dX5_passGood_14 : decode cX5_passGood 14 = .ok (.iload_n 3, 1) := by decide +kernel
theorem dX5_passGood_15 : decode cX5_passGood 15 = .ok (.aload_n 0, 1) := by decide +kernel
theorem dX5_passGood_16 : decode cX5_passGood 16 = .ok (.getfield 9, 3) := by decide +kernel
theorem dX5_passGood_19 : decode cX5_passGood 19 = .ok (.if_icmp .ge 79, 3) := by decide +kernel
theorem dX5_passGood_22 : decode cX5_passGood 22 = .ok (.aload_n 0, 1) := by decide +kernel
theorem dX5_passGood_23 : decode cX5_passGood 23 = .ok (.iload_n 1, 1) := by decide +kernel
theorem dX5_passGood_24 : decode cX5_passGood 24 = .ok (.iload_n 2, 1) := by decide +kernel
theorem dX5_passGood_25 : decode cX5_passGood 25 = .ok (.aload_n 0, 1) := by decide +kernel
theorem dX5_passGood_26 : decode cX5_passGood 26 = .ok (.getfield 15, 3) := by decide +kernel
theorem dX5_passGood_29 : decode cX5_passGood 29 = .ok (.iload 4, 2) := by decide +kernel
theorem dX5_passGood_31 : decode cX5_passGood 31 = .ok (.laload, 1) := by decide +kernel
theorem dX5_passGood_32 : decode cX5_passGood 32 = .ok (.invokevirtual 61, 3) := by decide +kernel
theorem dX5_passGood_35 : decode cX5_passGood 35 = .ok (.istore 5, 2) := by decide +kernel
theorem dX5_passGood_37 : decode cX5_passGood 37 = .ok (.iload 5, 2) := by decide +kernel
theorem dX5_passGood_39 : decode cX5_passGood 39 = .ok (.iconst 1, 1) := by decide +kernel
theorem dX5_passGood_40 : decode cX5_passGood 40 = .ok (.if_icmp .eq 19, 3) := by decide +kernel
theorem dX5_passGood_43 : decode cX5_passGood 43 = .ok (.aload_n 0, 1) := by decide +kernel
theorem dX5_passGood_44 : decode cX5_passGood 44 = .ok (.getfield 19, 3) := by decide +kernel
theorem dX5_passGood_47 : decode cX5_passGood 47 = .ok (.iload_n 3, 1) := by decide +kernel
theorem dX5_passGood_48 : decode cX5_passGood 48 = .ok (.aload_n 0, 1) := by decide +kernel
theorem dX5_passGood_49 : decode cX5_passGood 49 = .ok (.getfield 15, 3) := by decide +kernel
theorem dX5_passGood_52 : decode cX5_passGood 52 = .ok (.iload 4, 2) := by decide +kernel
theorem dX5_passGood_54 : decode cX5_passGood 54 = .ok (.laload, 1) := by decide +kernel
theorem dX5_passGood_55 : decode cX5_passGood 55 = .ok (.lastore, 1) := by decide +kernel
theorem dX5_passGood_56 : decode cX5_passGood 56 = .ok (.iinc 3 1, 3) := by decide +kernel
theorem dX5_passGood_59 : decode cX5_passGood 59 = .ok (.iload 5, 2) := by decide +kernel
theorem dX5_passGood_61 : decode cX5_passGood 61 = .ok (.ifCond .eq 31, 3) := by decide +kernel
theorem dX5_passGood_64 : decode cX5_passGood 64 = .ok (.iload_n 3, 1) := by decide +kernel
theorem dX5_passGood_65 : decode cX5_passGood 65 = .ok (.aload_n 0, 1) := by decide +kernel
theorem dX5_passGood_66 : decode cX5_passGood 66 = .ok (.getfield 9, 3) := by decide +kernel
theorem dX5_passGood_69 : decode cX5_passGood 69 = .ok (.if_icmp .ge 23, 3) := by decide +kernel
theorem dX5_passGood_72 : decode cX5_passGood 72 = .ok (.aload_n 0, 1) := by decide +kernel
theorem dX5_passGood_73 : decode cX5_passGood 73 = .ok (.getfield 19, 3) := by decide +kernel
theorem dX5_passGood_76 : decode cX5_passGood 76 = .ok (.iload_n 3, 1) := by decide +kernel
theorem dX5_passGood_77 : decode cX5_passGood 77 = .ok (.aload_n 0, 1) := by decide +kernel
theorem dX5_passGood_78 : decode cX5_passGood 78 = .ok (.getfield 15, 3) := by decide +kernel
theorem dX5_passGood_81 : decode cX5_passGood 81 = .ok (.iload 4, 2) := by decide +kernel
theorem dX5_passGood_83 : decode cX5_passGood 83 = .ok (.laload, 1) := by decide +kernel
theorem dX5_passGood_84 : decode cX5_passGood 84 = .ok (.lconst 1, 1) := by decide +kernel
theorem dX5_passGood_85 : decode cX5_passGood 85 = .ok (.iload_n 2, 1) := by decide +kernel
theorem dX5_passGood_86 : decode cX5_passGood 86 = .ok (.lshl, 1) := by decide +kernel
theorem dX5_passGood_87 : decode cX5_passGood 87 = .ok (.lor, 1) := by decide +kernel
theorem dX5_passGood_88 : decode cX5_passGood 88 = .ok (.lastore, 1) := by decide +kernel
theorem dX5_passGood_89 : decode cX5_passGood 89 = .ok (.iinc 3 1, 3) := by decide +kernel
theorem dX5_passGood_92 : decode cX5_passGood 92 = .ok (.iinc 4 1, 3) := by decide +kernel
theorem dX5_passGood_95 : decode cX5_passGood 95 = .ok (.goto (-90), 3) := by decide +kernel
theorem dX5_passGood_98 : decode cX5_passGood 98 = .ok (.iload_n 3, 1) := by decide +kernel
theorem dX5_passGood_99 : decode cX5_passGood 99 = .ok (.ireturn, 1) := by decide +kernel
set_option maxRecDepth 20000 in
theorem ggX5_passFrozen_X5_bitTold : GoodIn wsX5_passFrozen wsX5_bitTold := goodIn_r _ [9, 10, 11, 12, 13, 14, 15, 16, 17, 18, 19, 20, 21, 22, 23, 24] (by decide +kernel) (by decide +kernel)
set_option maxRecDepth 20000 in
theorem gX5_passFrozen_X5_bitTold : GoodIn wsX5_passFrozen (wsV RX5 61 RX5 yX5_bitTold wsX5_bitTold) := goodIn_app (goodIn_of _ (by decide +kernel)) ggX5_passFrozen_X5_bitTold
theorem dX5_passFrozen_0 : decode cX5_passFrozen 0 = .ok (.iconst 0, 1) := by decide +kernel
theorem dX5_passFrozen_1 : decode cX5_passFrozen 1 = .ok (.istore 4, 2) := by decide +kernel
theorem dX5_passFrozen_3 : decode cX5_passFrozen 3 = .ok (.iconst 0, 1) := by decide +kernel
theorem dX5_passFrozen_4 : decode cX5_passFrozen 4 = .ok (.istore 5, 2) := by decide +kernel
theorem dX5_passFrozen_6 : decode cX5_passFrozen 6 = .ok (.iload 5, 2) := by decide +kernel
theorem dX5_passFrozen_8 : decode cX5_passFrozen 8 = .ok (.aload_n 0, 1) := by decide +kernel
theorem dX5_passFrozen_9 : decode cX5_passFrozen 9 = .ok (.getfield 26, 3) := by decide +kernel
theorem dX5_passFrozen_12 : decode cX5_passFrozen 12 = .ok (.if_icmp .ge 67, 3) := by decide +kernel
theorem dX5_passFrozen_15 : decode cX5_passFrozen 15 = .ok (.iload 4, 2) := by decide +kernel
theorem dX5_passFrozen_17 : decode cX5_passFrozen 17 = .ok (.aload_n 0, 1) := by decide +kernel
theorem dX5_passFrozen_18 : decode cX5_passFrozen 18 = .ok (.getfield 9, 3) := by decide +kernel
theorem dX5_passFrozen_21 : decode cX5_passFrozen 21 = .ok (.if_icmp .ge 58, 3) := by decide +kernel
theorem dX5_passFrozen_24 : decode cX5_passFrozen 24 = .ok (.aload_n 0, 1) := by decide +kernel
