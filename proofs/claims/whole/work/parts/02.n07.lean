theorem dX10_cell_42 : decode cX10_cell 42 = .ok (.iaload, 1) := by decide +kernel
theorem dX10_cell_43 : decode cX10_cell 43 = .ok (.iload_n 3, 1) := by decide +kernel
theorem dX10_cell_44 : decode cX10_cell 44 = .ok (.if_icmp .eq 9, 3) := by decide +kernel
theorem dX10_cell_47 : decode cX10_cell 47 = .ok (.aload_n 0, 1) := by decide +kernel
theorem dX10_cell_48 : decode cX10_cell 48 = .ok (.iconst 2, 1) := by decide +kernel
theorem dX10_cell_49 : decode cX10_cell 49 = .ok (.invokevirtual 145, 3) := by decide +kernel
theorem dX10_cell_52 : decode cX10_cell 52 = .ok (.lreturn, 1) := by decide +kernel
theorem dX10_cell_53 : decode cX10_cell 53 = .ok (.aload_n 0, 1) := by decide +kernel
theorem dX10_cell_54 : decode cX10_cell 54 = .ok (.iload_n 1, 1) := by decide +kernel
theorem dX10_cell_55 : decode cX10_cell 55 = .ok (.iload_n 2, 1) := by decide +kernel
theorem dX10_cell_56 : decode cX10_cell 56 = .ok (.invokevirtual 141, 3) := by decide +kernel
theorem dX10_cell_59 : decode cX10_cell 59 = .ok (.ifCond .le 16, 3) := by decide +kernel
theorem dX10_cell_62 : decode cX10_cell 62 = .ok (.aload_n 0, 1) := by decide +kernel
theorem dX10_cell_63 : decode cX10_cell 63 = .ok (.aload_n 0, 1) := by decide +kernel
theorem dX10_cell_64 : decode cX10_cell 64 = .ok (.iload_n 1, 1) := by decide +kernel
theorem dX10_cell_65 : decode cX10_cell 65 = .ok (.iload_n 2, 1) := by decide +kernel
theorem dX10_cell_66 : decode cX10_cell 66 = .ok (.invokevirtual 141, 3) := by decide +kernel
theorem dX10_cell_69 : decode cX10_cell 69 = .ok (.invokevirtual 145, 3) := by decide +kernel
theorem dX10_cell_72 : decode cX10_cell 72 = .ok (.goto 14, 3) := by decide +kernel
theorem dX10_cell_75 : decode cX10_cell 75 = .ok (.aload_n 0, 1) := by decide +kernel
theorem dX10_cell_76 : decode cX10_cell 76 = .ok (.getfield 23, 3) := by decide +kernel
theorem dX10_cell_79 : decode cX10_cell 79 = .ok (.bipush 40, 2) := by decide +kernel
theorem dX10_cell_81 : decode cX10_cell 81 = .ok (.iload_n 1, 1) := by decide +kernel
theorem dX10_cell_82 : decode cX10_cell 82 = .ok (.imul, 1) := by decide +kernel
theorem dX10_cell_83 : decode cX10_cell 83 = .ok (.iload_n 2, 1) := by decide +kernel
theorem dX10_cell_84 : decode cX10_cell 84 = .ok (.iadd, 1) := by decide +kernel
theorem dX10_cell_85 : decode cX10_cell 85 = .ok (.laload, 1) := by decide +kernel
theorem dX10_cell_86 : decode cX10_cell 86 = .ok (.lreturn, 1) := by decide +kernel
theorem dX10_isBeyond_0 : decode cX10_isBeyond 0 = .ok (.iload_n 0, 1) := by decide +kernel
theorem dX10_isBeyond_1 : decode cX10_isBeyond 1 = .ok (.ifCond .lt 18, 3) := by decide +kernel
theorem dX10_isBeyond_4 : decode cX10_isBeyond 4 = .ok (.iload_n 1, 1) := by decide +kernel
theorem dX10_isBeyond_5 : decode cX10_isBeyond 5 = .ok (.ifCond .lt 14, 3) := by decide +kernel
theorem dX10_isBeyond_8 : decode cX10_isBeyond 8 = .ok (.iload_n 0, 1) := by decide +kernel
theorem dX10_isBeyond_9 : decode cX10_isBeyond 9 = .ok (.i2l, 1) := by decide +kernel
theorem dX10_isBeyond_10 : decode cX10_isBeyond 10 = .ok (.iload_n 1, 1) := by decide +kernel
theorem dX10_isBeyond_11 : decode cX10_isBeyond 11 = .ok (.i2l, 1) := by decide +kernel
theorem dX10_isBeyond_12 : decode cX10_isBeyond 12 = .ok (.ladd, 1) := by decide +kernel
theorem dX10_isBeyond_13 : decode cX10_isBeyond 13 = .ok (.iload_n 2, 1) := by decide +kernel
theorem dX10_isBeyond_14 : decode cX10_isBeyond 14 = .ok (.i2l, 1) := by decide +kernel
theorem dX10_isBeyond_15 : decode cX10_isBeyond 15 = .ok (.lcmp, 1) := by decide +kernel
theorem dX10_isBeyond_16 : decode cX10_isBeyond 16 = .ok (.ifCond .le 7, 3) := by decide +kernel
theorem dX10_isBeyond_19 : decode cX10_isBeyond 19 = .ok (.iconst 1, 1) := by decide +kernel
theorem dX10_isBeyond_20 : decode cX10_isBeyond 20 = .ok (.goto 4, 3) := by decide +kernel
theorem dX10_isBeyond_23 : decode cX10_isBeyond 23 = .ok (.iconst 0, 1) := by decide +kernel
theorem dX10_isBeyond_24 : decode cX10_isBeyond 24 = .ok (.ireturn, 1) := by decide +kernel
set_option maxRecDepth 20000 in
theorem ggX10_copy_X10_noSheet : GoodIn wsX10_copy wsX10_noSheet := goodIn_r _ [8, 9, 10, 11, 7, 12] (by decide +kernel) (by decide +kernel)
set_option maxRecDepth 20000 in
theorem gX10_copy_X10_noSheet : GoodIn wsX10_copy (va_wsS RX10 131 yX10_noSheet wsX10_noSheet) := goodIn_app (goodIn_of _ (by decide +kernel)) ggX10_copy_X10_noSheet
set_option maxRecDepth 20000 in
theorem ggX10_copy_X10_refused : GoodIn wsX10_copy wsX10_refused := goodIn_r _ [16, 17, 25, 26, 27, 28, 29, 30, 31, 32, 33, 34, 35, 36, 37, 38, 39, 40, 41, 42, 43, 44, 45, 46, 47, 48, 49] (by decide +kernel) (by decide +kernel)
set_option maxRecDepth 20000 in
theorem gX10_copy_X10_refused : GoodIn wsX10_copy (wsV RX10 134 RX10 yX10_refused wsX10_refused) := goodIn_app (goodIn_of _ (by decide +kernel)) ggX10_copy_X10_refused
set_option maxRecDepth 20000 in
theorem ggX10_copy_X10_failed : GoodIn wsX10_copy wsX10_failed := goodIn_r _ [21, 17, 25, 26, 27, 28, 29, 30, 31, 32, 33, 34, 35, 36, 37, 38, 39, 40, 41, 42, 43, 44, 45, 46, 47, 48, 49] (by decide +kernel) (by decide +kernel)
set_option maxRecDepth 20000 in
theorem gX10_copy_X10_failed : GoodIn wsX10_copy (wsV RX10 138 RX10 yX10_failed wsX10_failed) := goodIn_app (goodIn_of _ (by decide +kernel)) ggX10_copy_X10_failed
set_option maxRecDepth 20000 in
theorem ggX10_copy_X10_isBeyond : GoodIn wsX10_copy wsX10_isBeyond := goodIn_r _ [24] (by decide +kernel) (by decide +kernel)
set_option maxRecDepth 20000 in
theorem gX10_copy_X10_isBeyond : GoodIn wsX10_copy (va_wsS RX10 148 yX10_isBeyond wsX10_isBeyond) := goodIn_app (goodIn_of _ (by decide +kernel)) ggX10_copy_X10_isBeyond
theorem dX10_copy_0 : decode cX10_copy 0 = .ok (.iload_n 1, 1) := by decide +kernel
theorem dX10_copy_1 : decode cX10_copy 1 = .ok (.invokestatic 131, 3) := by decide +kernel
theorem dX10_copy_4 : decode cX10_copy 4 = .ok (.ifCond .ne 10, 3) := by decide +kernel
theorem dX10_copy_7 : decode cX10_copy 7 = .ok (.iload_n 3, 1) := by decide +kernel
theorem dX10_copy_8 : decode cX10_copy 8 = .ok (.invokestatic 131, 3) := by decide +kernel
theorem dX10_copy_11 : decode cX10_copy 11 = .ok (.ifCond .eq 9, 3) := by decide +kernel
theorem dX10_copy_14 : decode cX10_copy 14 = .ok (.aload_n 0, 1) := by decide +kernel
theorem dX10_copy_15 : decode cX10_copy 15 = .ok (.iconst (-1), 1) := by decide +kernel
theorem dX10_copy_16 : decode cX10_copy 16 = .ok (.invokevirtual 134, 3) := by decide +kernel
theorem dX10_copy_19 : decode cX10_copy 19 = .ok (.ireturn, 1) := by decide +kernel
theorem dX10_copy_20 : decode cX10_copy 20 = .ok (.aload_n 0, 1) := by decide +kernel
theorem dX10_copy_21 : decode cX10_copy 21 = .ok (.getfield 17, 3) := by decide +kernel
theorem dX10_copy_24 : decode cX10_copy 24 = .ok (.iload_n 1, 1) := by decide +kernel
theorem dX10_copy_25 : decode cX10_copy 25 = .ok (.iaload, 1) := by decide +kernel
theorem dX10_copy_26 : decode cX10_copy 26 = .ok (.ifCond .lt 12, 3) := by decide +kernel
theorem dX10_copy_29 : decode cX10_copy 29 = .ok (.aload_n 0, 1) := by decide +kernel
theorem dX10_copy_30 : decode cX10_copy 30 = .ok (.getfield 17, 3) := by decide +kernel
theorem dX10_copy_33 : decode cX10_copy 33 = .ok (.iload_n 3, 1) := by decide +kernel
theorem dX10_copy_34 : decode cX10_copy 34 = .ok (.iaload, 1) := by decide +kernel
theorem dX10_copy_35 : decode cX10_copy 35 = .ok (.ifCond .ge 9, 3) := by decide +kernel
theorem dX10_copy_38 : decode cX10_copy 38 = .ok (.aload_n 0, 1) := by decide +kernel
theorem dX10_copy_39 : decode cX10_copy 39 = .ok (.iconst 1, 1) := by decide +kernel
theorem dX10_copy_40 : decode cX10_copy 40 = .ok (.invokevirtual 138, 3) := by decide +kernel
theorem dX10_copy_43 : decode cX10_copy 43 = .ok (.ireturn, 1) := by decide +kernel
theorem dX10_copy_44 : decode cX10_copy 44 = .ok (.aload_n 0, 1) := by decide +kernel
theorem dX10_copy_45 : decode cX10_copy 45 = .ok (.getfield 20, 3) := by decide +kernel
theorem dX10_copy_48 : decode cX10_copy 48 = .ok (.iload_n 1, 1) := by decide +kernel
theorem dX10_copy_49 : decode cX10_copy 49 = .ok (.iaload, 1) := by decide +kernel
theorem dX10_copy_50 : decode cX10_copy 50 = .ok (.aload_n 0, 1) := by decide +kernel
theorem dX10_copy_51 : decode cX10_copy 51 = .ok (.getfield 20, 3) := by decide +kernel
theorem dX10_copy_54 : decode cX10_copy 54 = .ok (.iload_n 3, 1) := by decide +kernel
theorem dX10_copy_55 : decode cX10_copy 55 = .ok (.iaload, 1) := by decide +kernel
theorem dX10_copy_56 : decode cX10_copy 56 = .ok (.if_icmp .eq 9, 3) := by decide +kernel
theorem dX10_copy_59 : decode cX10_copy 59 = .ok (.aload_n 0, 1) := by decide +kernel
theorem dX10_copy_60 : decode cX10_copy 60 = .ok (.iconst 2, 1) := by decide +kernel
theorem dX10_copy_61 : decode cX10_copy 61 = .ok (.invokevirtual 138, 3) := by decide +kernel
theorem dX10_copy_64 : decode cX10_copy 64 = .ok (.ireturn, 1) := by decide +kernel
theorem dX10_copy_65 : decode cX10_copy 65 = .ok (.iload_n 2, 1) := by decide +kernel
theorem dX10_copy_66 : decode cX10_copy 66 = .ok (.iload 5, 2) := by decide +kernel
theorem dX10_copy_68 : decode cX10_copy 68 = .ok (.aload_n 0, 1) := by decide +kernel
theorem dX10_copy_69 : decode cX10_copy 69 = .ok (.getfield 17, 3) := by decide +kernel
theorem dX10_copy_72 : decode cX10_copy 72 = .ok (.iload_n 1, 1) := by decide +kernel
theorem dX10_copy_73 : decode cX10_copy 73 = .ok (.iaload, 1) := by decide +kernel
theorem dX10_copy_74 : decode cX10_copy 74 = .ok (.invokestatic 148, 3) := by decide +kernel
theorem dX10_copy_77 : decode cX10_copy 77 = .ok (.ifCond .ne 19, 3) := by decide +kernel
theorem dX10_copy_80 : decode cX10_copy 80 = .ok (.iload 4, 2) := by decide +kernel
theorem dX10_copy_82 : decode cX10_copy 82 = .ok (.iload 5, 2) := by decide +kernel
theorem dX10_copy_84 : decode cX10_copy 84 = .ok (.aload_n 0, 1) := by decide +kernel
theorem dX10_copy_85 : decode cX10_copy 85 = .ok (.getfield 17, 3) := by decide +kernel
theorem dX10_copy_88 : decode cX10_copy 88 = .ok (.iload_n 3, 1) := by decide +kernel
theorem dX10_copy_89 : decode cX10_copy 89 = .ok (.iaload, 1) := by decide +kernel
theorem dX10_copy_90 : decode cX10_copy 90 = .ok (.invokestatic 148, 3) := by decide +kernel
theorem dX10_copy_93 : decode cX10_copy 93 = .ok (.ifCond .eq 9, 3) := by decide +kernel
theorem dX10_copy_96 : decode cX10_copy 96 = .ok (.aload_n 0, 1) := by decide +kernel
theorem dX10_copy_97 : decode cX10_copy 97 = .ok (.iconst 3, 1) := by decide +kernel
theorem dX10_copy_98 : decode cX10_copy 98 = .ok (.invokevirtual 138, 3) := by decide +kernel
theorem dX10_copy_101 : decode cX10_copy 101 = .ok (.ireturn, 1) := by decide +kernel
theorem dX10_copy_102 : decode cX10_copy 102 = .ok (.iconst 0, 1) := by decide +kernel
theorem dX10_copy_103 : decode cX10_copy 103 = .ok (.istore 6, 2) := by decide +kernel
theorem dX10_copy_105 : decode cX10_copy 105 = .ok (.iload 6, 2) := by decide +kernel
theorem dX10_copy_107 : decode cX10_copy 107 = .ok (.iload 5, 2) := by decide +kernel
theorem dX10_copy_109 : decode cX10_copy 109 = .ok (.if_icmp .ge 30, 3) := by decide +kernel
theorem dX10_copy_112 : decode cX10_copy 112 = .ok (.aload_n 0, 1) := by decide +kernel
theorem dX10_copy_113 : decode cX10_copy 113 = .ok (.getfield 27, 3) := by decide +kernel
theorem dX10_copy_116 : decode cX10_copy 116 = .ok (.iload 6, 2) := by decide +kernel
theorem dX10_copy_118 : decode cX10_copy 118 = .ok (.aload_n 0, 1) := by decide +kernel
theorem dX10_copy_119 : decode cX10_copy 119 = .ok (.getfield 23, 3) := by decide +kernel
theorem dX10_copy_122 : decode cX10_copy 122 = .ok (.bipush 40, 2) := by decide +kernel
theorem dX10_copy_124 : decode cX10_copy 124 = .ok (.iload_n 1, 1) := by decide +kernel
theorem dX10_copy_125 : decode cX10_copy 125 = .ok (.imul, 1) := by decide +kernel
theorem dX10_copy_126 : decode cX10_copy 126 = .ok (.iload_n 2, 1) := by decide +kernel
theorem dX10_copy_127 : decode cX10_copy 127 = .ok (.iadd, 1) := by decide +kernel
theorem dX10_copy_128 : decode cX10_copy 128 = .ok (.iload 6, 2) := by decide +kernel
theorem dX10_copy_130 : decode cX10_copy 130 = .ok (.iadd, 1) := by decide +kernel
theorem dX10_copy_131 : decode cX10_copy 131 = .ok (.laload, 1) := by decide +kernel
theorem dX10_copy_132 : decode cX10_copy 132 = .ok (.lastore, 1) := by decide +kernel
theorem dX10_copy_133 : decode cX10_copy 133 = .ok (.iinc 6 1, 3) := by decide +kernel
theorem dX10_copy_136 : decode cX10_copy 136 = .ok (.goto (-31), 3) := by decide +kernel
theorem dX10_copy_139 : decode cX10_copy 139 = .ok (.iconst 0, 1) := by decide +kernel
theorem dX10_copy_140 : decode cX10_copy 140 = .ok (.istore 6, 2) := by decide +kernel
theorem dX10_copy_142 : decode cX10_copy 142 = .ok (.iload 6, 2) := by decide +kernel
theorem dX10_copy_144 : decode cX10_copy 144 = .ok (.iload 5, 2) := by decide +kernel
theorem dX10_copy_146 : decode cX10_copy 146 = .ok (.if_icmp .ge 31, 3) := by decide +kernel
theorem dX10_copy_149 : decode cX10_copy 149 = .ok (.aload_n 0, 1) := by decide +kernel
theorem dX10_copy_150 : decode cX10_copy 150 = .ok (.getfield 23, 3) := by decide +kernel
theorem dX10_copy_153 : decode cX10_copy 153 = .ok (.bipush 40, 2) := by decide +kernel
theorem dX10_copy_155 : decode cX10_copy 155 = .ok (.iload_n 3, 1) := by decide +kernel
theorem dX10_copy_156 : decode cX10_copy 156 = .ok (.imul, 1) := by decide +kernel
theorem dX10_copy_157 : decode cX10_copy 157 = .ok (.iload 4, 2) := by decide +kernel
theorem dX10_copy_159 : decode cX10_copy 159 = .ok (.iadd, 1) := by decide +kernel
theorem dX10_copy_160 : decode cX10_copy 160 = .ok (.iload 6, 2) := by decide +kernel
theorem dX10_copy_162 : decode cX10_copy 162 = .ok (.iadd, 1) := by decide +kernel
theorem dX10_copy_163 : decode cX10_copy 163 = .ok (.aload_n 0, 1) := by decide +kernel
theorem dX10_copy_164 : decode cX10_copy 164 = .ok (.getfield 27, 3) := by decide +kernel
theorem dX10_copy_167 : decode cX10_copy 167 = .ok (.iload 6, 2) := by decide +kernel
theorem dX10_copy_169 : decode cX10_copy 169 = .ok (.laload, 1) := by decide +kernel
theorem dX10_copy_170 : decode cX10_copy 170 = .ok (.lastore, 1) := by decide +kernel
theorem dX10_copy_171 : decode cX10_copy 171 = .ok (.iinc 6 1, 3) := by decide +kernel
theorem dX10_copy_174 : decode cX10_copy 174 = .ok (.goto (-32), 3) := by decide +kernel
theorem dX10_copy_177 : decode cX10_copy 177 = .ok (.aload_n 0, 1) := by decide +kernel
theorem dX10_copy_178 : decode cX10_copy 178 = .ok (.iload 5, 2) := by decide +kernel
theorem dX10_copy_180 : decode cX10_copy 180 = .ok (.invokevirtual 134, 3) := by decide +kernel
theorem dX10_copy_183 : decode cX10_copy 183 = .ok (.ireturn, 1) := by decide +kernel
theorem dX10_faultOf_0 : decode cX10_faultOf 0 = .ok (.aload_n 0, 1) := by decide +kernel
theorem dX10_faultOf_1 : decode cX10_faultOf 1 = .ok (.getfield 17, 3) := by decide +kernel
theorem dX10_faultOf_4 : decode cX10_faultOf 4 = .ok (.iload_n 1, 1) := by decide +kernel
theorem dX10_faultOf_5 : decode cX10_faultOf 5 = .ok (.iaload, 1) := by decide +kernel
theorem dX10_faultOf_6 : decode cX10_faultOf 6 = .ok (.ifCond .lt 15, 3) := by decide +kernel
theorem dX10_faultOf_9 : decode cX10_faultOf 9 = .ok (.aload_n 0, 1) := by decide +kernel
theorem dX10_faultOf_10 : decode cX10_faultOf 10 = .ok (.getfield 20, 3) := by decide +kernel
theorem dX10_faultOf_13 : decode cX10_faultOf 13 = .ok (.iload_n 1, 1) := by decide +kernel
theorem dX10_faultOf_14 : decode cX10_faultOf 14 = .ok (.iaload, 1) := by decide +kernel
theorem dX10_faultOf_15 : decode cX10_faultOf 15 = .ok (.iload_n 2, 1) := by decide +kernel
theorem dX10_faultOf_16 : decode cX10_faultOf 16 = .ok (.if_icmp .eq 5, 3) := by decide +kernel
theorem dX10_faultOf_19 : decode cX10_faultOf 19 = .ok (.iconst 2, 1) := by decide +kernel
theorem dX10_faultOf_20 : decode cX10_faultOf 20 = .ok (.ireturn, 1) := by decide +kernel
theorem dX10_faultOf_21 : decode cX10_faultOf 21 = .ok (.aload_n 0, 1) := by decide +kernel
theorem dX10_faultOf_22 : decode cX10_faultOf 22 = .ok (.getfield 17, 3) := by decide +kernel
theorem dX10_faultOf_25 : decode cX10_faultOf 25 = .ok (.iload_n 1, 1) := by decide +kernel
theorem dX10_faultOf_26 : decode cX10_faultOf 26 = .ok (.iaload, 1) := by decide +kernel
theorem dX10_faultOf_27 : decode cX10_faultOf 27 = .ok (.ifCond .ge 7, 3) := by decide +kernel
theorem dX10_faultOf_30 : decode cX10_faultOf 30 = .ok (.iconst 1, 1) := by decide +kernel
theorem dX10_faultOf_31 : decode cX10_faultOf 31 = .ok (.goto 21, 3) := by decide +kernel
theorem dX10_faultOf_34 : decode cX10_faultOf 34 = .ok (.aload_n 0, 1) := by decide +kernel
theorem dX10_faultOf_35 : decode cX10_faultOf 35 = .ok (.getfield 17, 3) := by decide +kernel
theorem dX10_faultOf_38 : decode cX10_faultOf 38 = .ok (.iload_n 1, 1) := by decide +kernel
theorem dX10_faultOf_39 : decode cX10_faultOf 39 = .ok (.iaload, 1) := by decide +kernel
theorem dX10_faultOf_40 : decode cX10_faultOf 40 = .ok (.aload_n 0, 1) := by decide +kernel
theorem dX10_faultOf_41 : decode cX10_faultOf 41 = .ok (.getfield 54, 3) := by decide +kernel
theorem dX10_faultOf_44 : decode cX10_faultOf 44 = .ok (.if_icmp .ge 7, 3) := by decide +kernel
theorem dX10_faultOf_47 : decode cX10_faultOf 47 = .ok (.iconst 3, 1) := by decide +kernel
theorem dX10_faultOf_48 : decode cX10_faultOf 48 = .ok (.goto 4, 3) := by decide +kernel
theorem dX10_faultOf_51 : decode cX10_faultOf 51 = .ok (.iconst 0, 1) := by decide +kernel
theorem dX10_faultOf_52 : decode cX10_faultOf 52 = .ok (.ireturn, 1) := by decide +kernel
theorem dX10_laySeen_0 : decode cX10_laySeen 0 = .ok (.iconst 0, 1) := by decide +kernel
theorem dX10_laySeen_1 : decode cX10_laySeen 1 = .ok (.istore_n 2, 1) := by decide +kernel
theorem dX10_laySeen_2 : decode cX10_laySeen 2 = .ok (.iload_n 2, 1) := by decide +kernel
theorem dX10_laySeen_3 : decode cX10_laySeen 3 = .ok (.aload_n 0, 1) := by decide +kernel
theorem dX10_laySeen_4 : decode cX10_laySeen 4 = .ok (.getfield 54, 3) := by decide +kernel
theorem dX10_laySeen_7 : decode cX10_laySeen 7 = .ok (.if_icmp .ge 48, 3) := by decide +kernel
theorem dX10_laySeen_10 : decode cX10_laySeen 10 = .ok (.aload_n 0, 1) := by decide +kernel
theorem dX10_laySeen_11 : decode cX10_laySeen 11 = .ok (.getfield 23, 3) := by decide +kernel
theorem dX10_laySeen_14 : decode cX10_laySeen 14 = .ok (.bipush 40, 2) := by decide +kernel
theorem dX10_laySeen_16 : decode cX10_laySeen 16 = .ok (.iload_n 1, 1) := by decide +kernel
theorem dX10_laySeen_17 : decode cX10_laySeen 17 = .ok (.imul, 1) := by decide +kernel
theorem dX10_laySeen_18 : decode cX10_laySeen 18 = .ok (.iload_n 2, 1) := by decide +kernel
theorem dX10_laySeen_19 : decode cX10_laySeen 19 = .ok (.iadd, 1) := by decide +kernel
theorem dX10_laySeen_20 : decode cX10_laySeen 20 = .ok (.laload, 1) := by decide +kernel
theorem dX10_laySeen_21 : decode cX10_laySeen 21 = .ok (.lstore_n 3, 1) := by decide +kernel
theorem dX10_laySeen_22 : decode cX10_laySeen 22 = .ok (.aload_n 0, 1) := by decide +kernel
theorem dX10_laySeen_23 : decode cX10_laySeen 23 = .ok (.getfield 30, 3) := by decide +kernel
theorem dX10_laySeen_26 : decode cX10_laySeen 26 = .ok (.iload_n 2, 1) := by decide +kernel
theorem dX10_laySeen_27 : decode cX10_laySeen 27 = .ok (.lload_n 3, 1) := by decide +kernel
theorem dX10_laySeen_28 : decode cX10_laySeen 28 = .ok (.lconst 0, 1) := by decide +kernel
theorem dX10_laySeen_29 : decode cX10_laySeen 29 = .ok (.lcmp, 1) := by decide +kernel
theorem dX10_laySeen_30 : decode cX10_laySeen 30 = .ok (.ifCond .ne 7, 3) := by decide +kernel
theorem dX10_laySeen_33 : decode cX10_laySeen 33 = .ok (.iconst 0, 1) := by decide +kernel
theorem dX10_laySeen_34 : decode cX10_laySeen 34 = .ok (.goto 14, 3) := by decide +kernel
theorem dX10_laySeen_37 : decode cX10_laySeen 37 = .ok (.lload_n 3, 1) := by decide +kernel
theorem dX10_laySeen_38 : decode cX10_laySeen 38 = .ok (.lconst 1, 1) := by decide +kernel
theorem dX10_laySeen_39 : decode cX10_laySeen 39 = .ok (.lcmp, 1) := by decide +kernel
theorem dX10_laySeen_40 : decode cX10_laySeen 40 = .ok (.ifCond .ne 7, 3) := by decide +kernel
theorem dX10_laySeen_43 : decode cX10_laySeen 43 = .ok (.iconst 1, 1) := by decide +kernel
theorem dX10_laySeen_44 : decode cX10_laySeen 44 = .ok (.goto 4, 3) := by decide +kernel
theorem dX10_laySeen_47 : decode cX10_laySeen 47 = .ok (.iconst 2, 1) := by decide +kernel
theorem dX10_laySeen_48 : decode cX10_laySeen 48 = .ok (.iastore, 1) := by decide +kernel
theorem dX10_laySeen_49 : decode cX10_laySeen 49 = .ok (.iinc 2 1, 3) := by decide +kernel
theorem dX10_laySeen_52 : decode cX10_laySeen 52 = .ok (.goto (-50), 3) := by decide +kernel
theorem dX10_laySeen_55 : decode cX10_laySeen 55 = .ok (.return_, 1) := by decide +kernel
set_option maxRecDepth 20000 in
theorem ggX10_theBit_X10_folded : GoodIn wsX10_theBit wsX10_folded := goodIn_r _ [7] (by decide +kernel) (by decide +kernel)
set_option maxRecDepth 20000 in
theorem gX10_theBit_X10_folded : GoodIn wsX10_theBit (va_wsS RX10 122 yX10_folded wsX10_folded) := goodIn_app (goodIn_of _ (by decide +kernel)) ggX10_theBit_X10_folded
theorem dX10_theBit_0 : decode cX10_theBit 0 = .ok (.iconst 0, 1) := by decide +kernel
theorem dX10_theBit_1 : decode cX10_theBit 1 = .ok (.istore 4, 2) := by decide +kernel
theorem dX10_theBit_3 : decode cX10_theBit 3 = .ok (.iload 4, 2) := by decide +kernel
theorem dX10_theBit_5 : decode cX10_theBit 5 = .ok (.aload_n 0, 1) := by decide +kernel
theorem dX10_theBit_6 : decode cX10_theBit 6 = .ok (.getfield 54, 3) := by decide +kernel
theorem dX10_theBit_9 : decode cX10_theBit 9 = .ok (.if_icmp .ge 23, 3) := by decide +kernel
theorem dX10_theBit_12 : decode cX10_theBit 12 = .ok (.aload_n 0, 1) := by decide +kernel
theorem dX10_theBit_13 : decode cX10_theBit 13 = .ok (.getfield 33, 3) := by decide +kernel
theorem dX10_theBit_16 : decode cX10_theBit 16 = .ok (.iload 4, 2) := by decide +kernel
theorem dX10_theBit_18 : decode cX10_theBit 18 = .ok (.aload_n 0, 1) := by decide +kernel
theorem dX10_theBit_19 : decode cX10_theBit 19 = .ok (.getfield 30, 3) := by decide +kernel
theorem dX10_theBit_22 : decode cX10_theBit 22 = .ok (.iload 4, 2) := by decide +kernel
theorem dX10_theBit_24 : decode cX10_theBit 24 = .ok (.iaload, 1) := by decide +kernel
theorem dX10_theBit_25 : decode cX10_theBit 25 = .ok (.iastore, 1) := by decide +kernel
theorem dX10_theBit_26 : decode cX10_theBit 26 = .ok (.iinc 4 1, 3) := by decide +kernel
theorem dX10_theBit_29 : decode cX10_theBit 29 = .ok (.goto (-26), 3) := by decide +kernel
theorem dX10_theBit_32 : decode cX10_theBit 32 = .ok (.iconst 0, 1) := by decide +kernel
theorem dX10_theBit_33 : decode cX10_theBit 33 = .ok (.istore 4, 2) := by decide +kernel
theorem dX10_theBit_35 : decode cX10_theBit 35 = .ok (.iload_n 3, 1) := by decide +kernel
theorem dX10_theBit_36 : decode cX10_theBit 36 = .ok (.istore 5, 2) := by decide +kernel
theorem dX10_theBit_38 : decode cX10_theBit 38 = .ok (.aload_n 0, 1) := by decide +kernel
theorem dX10_theBit_39 : decode cX10_theBit 39 = .ok (.getfield 54, 3) := by decide +kernel
theorem dX10_theBit_42 : decode cX10_theBit 42 = .ok (.iconst 2, 1) := by decide +kernel
theorem dX10_theBit_43 : decode cX10_theBit 43 = .ok (.idiv, 1) := by decide +kernel
theorem dX10_theBit_44 : decode cX10_theBit 44 = .ok (.istore 6, 2) := by decide +kernel
theorem dX10_theBit_46 : decode cX10_theBit 46 = .ok (.iload 6, 2) := by decide +kernel
theorem dX10_theBit_48 : decode cX10_theBit 48 = .ok (.ifCond .le 209, 3) := by decide +kernel
theorem dX10_theBit_51 : decode cX10_theBit 51 = .ok (.iload 5, 2) := by decide +kernel
theorem dX10_theBit_53 : decode cX10_theBit 53 = .ok (.iload 6, 2) := by decide +kernel
theorem dX10_theBit_55 : decode cX10_theBit 55 = .ok (.if_icmp .ge 76, 3) := by decide +kernel
theorem dX10_theBit_58 : decode cX10_theBit 58 = .ok (.iconst 0, 1) := by decide +kernel
theorem dX10_theBit_59 : decode cX10_theBit 59 = .ok (.istore 7, 2) := by decide +kernel
theorem dX10_theBit_61 : decode cX10_theBit 61 = .ok (.iload 7, 2) := by decide +kernel
theorem dX10_theBit_63 : decode cX10_theBit 63 = .ok (.iload 6, 2) := by decide +kernel
theorem dX10_theBit_65 : decode cX10_theBit 65 = .ok (.if_icmp .ge 63, 3) := by decide +kernel
theorem dX10_theBit_68 : decode cX10_theBit 68 = .ok (.aload_n 0, 1) := by decide +kernel
theorem dX10_theBit_69 : decode cX10_theBit 69 = .ok (.getfield 33, 3) := by decide +kernel
theorem dX10_theBit_72 : decode cX10_theBit 72 = .ok (.iload 7, 2) := by decide +kernel
theorem dX10_theBit_74 : decode cX10_theBit 74 = .ok (.aload_n 0, 1) := by decide +kernel
theorem dX10_theBit_75 : decode cX10_theBit 75 = .ok (.getfield 33, 3) := by decide +kernel
theorem dX10_theBit_78 : decode cX10_theBit 78 = .ok (.iload 7, 2) := by decide +kernel
theorem dX10_theBit_80 : decode cX10_theBit 80 = .ok (.iaload, 1) := by decide +kernel
theorem dX10_theBit_81 : decode cX10_theBit 81 = .ok (.iconst 2, 1) := by decide +kernel
theorem dX10_theBit_82 : decode cX10_theBit 82 = .ok (.if_icmp .eq 17, 3) := by decide +kernel
theorem dX10_theBit_85 : decode cX10_theBit 85 = .ok (.aload_n 0, 1) := by decide +kernel
theorem dX10_theBit_86 : decode cX10_theBit 86 = .ok (.getfield 33, 3) := by decide +kernel
theorem dX10_theBit_89 : decode cX10_theBit 89 = .ok (.iload 7, 2) := by decide +kernel
theorem dX10_theBit_91 : decode cX10_theBit 91 = .ok (.iload 6, 2) := by decide +kernel
theorem dX10_theBit_93 : decode cX10_theBit 93 = .ok (.iadd, 1) := by decide +kernel
theorem dX10_theBit_94 : decode cX10_theBit 94 = .ok (.iaload, 1) := by decide +kernel
theorem dX10_theBit_95 : decode cX10_theBit 95 = .ok (.iconst 2, 1) := by decide +kernel
theorem dX10_theBit_96 : decode cX10_theBit 96 = .ok (.if_icmp .ne 7, 3) := by decide +kernel
theorem dX10_theBit_99 : decode cX10_theBit 99 = .ok (.iconst 2, 1) := by decide +kernel
theorem dX10_theBit_100 : decode cX10_theBit 100 = .ok (.goto 21, 3) := by decide +kernel
theorem dX10_theBit_103 : decode cX10_theBit 103 = .ok (.aload_n 0, 1) := by decide +kernel
theorem dX10_theBit_104 : decode cX10_theBit 104 = .ok (.getfield 33, 3) := by decide +kernel
theorem dX10_theBit_107 : decode cX10_theBit 107 = .ok (.iload 7, 2) := by decide +kernel
theorem dX10_theBit_109 : decode cX10_theBit 109 = .ok (.iaload, 1) := by decide +kernel
theorem dX10_theBit_110 : decode cX10_theBit 110 = .ok (.aload_n 0, 1) := by decide +kernel
theorem dX10_theBit_111 : decode cX10_theBit 111 = .ok (.getfield 33, 3) := by decide +kernel
theorem dX10_theBit_114 : decode cX10_theBit 114 = .ok (.iload 7, 2) := by decide +kernel
theorem dX10_theBit_116 : decode cX10_theBit 116 = .ok (.iload 6, 2) := by decide +kernel
theorem dX10_theBit_118 : decode cX10_theBit 118 = .ok (.iadd, 1) := by decide +kernel
theorem dX10_theBit_119 : decode cX10_theBit 119 = .ok (.iaload, 1) := by decide +kernel
theorem dX10_theBit_120 : decode cX10_theBit 120 = .ok (.ixor, 1) := by decide +kernel
theorem dX10_theBit_121 : decode cX10_theBit 121 = .ok (.iastore, 1) := by decide +kernel
theorem dX10_theBit_122 : decode cX10_theBit 122 = .ok (.iinc 7 1, 3) := by decide +kernel
theorem dX10_theBit_125 : decode cX10_theBit 125 = .ok (.goto (-64), 3) := by decide +kernel
theorem dX10_theBit_128 : decode cX10_theBit 128 = .ok (.goto 120, 3) := by decide +kernel
theorem dX10_theBit_131 : decode cX10_theBit 131 = .ok (.lload_n 1, 1) := by decide +kernel
theorem dX10_theBit_132 : decode cX10_theBit 132 = .ok (.iload 4, 2) := by decide +kernel
theorem dX10_theBit_134 : decode cX10_theBit 134 = .ok (.lshr, 1) := by decide +kernel
theorem dX10_theBit_135 : decode cX10_theBit 135 = .ok (.lconst 1, 1) := by decide +kernel
theorem dX10_theBit_136 : decode cX10_theBit 136 = .ok (.iload 6, 2) := by decide +kernel
theorem dX10_theBit_138 : decode cX10_theBit 138 = .ok (.lshl, 1) := by decide +kernel
theorem dX10_theBit_139 : decode cX10_theBit 139 = .ok (.lconst 1, 1) := by decide +kernel
theorem dX10_theBit_140 : decode cX10_theBit 140 = .ok (.lsub, 1) := by decide +kernel
theorem dX10_theBit_141 : decode cX10_theBit 141 = .ok (.land, 1) := by decide +kernel
theorem dX10_theBit_142 : decode cX10_theBit 142 = .ok (.iload 6, 2) := by decide +kernel
theorem dX10_theBit_144 : decode cX10_theBit 144 = .ok (.invokestatic 122, 3) := by decide +kernel
theorem dX10_theBit_147 : decode cX10_theBit 147 = .ok (.lstore 7, 2) := by decide +kernel
theorem dX10_theBit_149 : decode cX10_theBit 149 = .ok (.iconst 0, 1) := by decide +kernel
theorem dX10_theBit_150 : decode cX10_theBit 150 = .ok (.istore 9, 2) := by decide +kernel
theorem dX10_theBit_152 : decode cX10_theBit 152 = .ok (.iload 9, 2) := by decide +kernel
theorem dX10_theBit_154 : decode cX10_theBit 154 = .ok (.iload 6, 2) := by decide +kernel
theorem dX10_theBit_156 : decode cX10_theBit 156 = .ok (.if_icmp .ge 78, 3) := by decide +kernel
theorem dX10_theBit_159 : decode cX10_theBit 159 = .ok (.aload_n 0, 1) := by decide +kernel
theorem dX10_theBit_160 : decode cX10_theBit 160 = .ok (.getfield 33, 3) := by decide +kernel
theorem dX10_theBit_163 : decode cX10_theBit 163 = .ok (.iload 9, 2) := by decide +kernel
theorem dX10_theBit_165 : decode cX10_theBit 165 = .ok (.iaload, 1) := by decide +kernel
theorem dX10_theBit_166 : decode cX10_theBit 166 = .ok (.iconst 2, 1) := by decide +kernel
theorem dX10_theBit_167 : decode cX10_theBit 167 = .ok (.if_icmp .ne 7, 3) := by decide +kernel
theorem dX10_theBit_170 : decode cX10_theBit 170 = .ok (.iconst 2, 1) := by decide +kernel
theorem dX10_theBit_171 : decode cX10_theBit 171 = .ok (.goto 19, 3) := by decide +kernel
theorem dX10_theBit_174 : decode cX10_theBit 174 = .ok (.aload_n 0, 1) := by decide +kernel
theorem dX10_theBit_175 : decode cX10_theBit 175 = .ok (.getfield 33, 3) := by decide +kernel
theorem dX10_theBit_178 : decode cX10_theBit 178 = .ok (.iload 9, 2) := by decide +kernel
theorem dX10_theBit_180 : decode cX10_theBit 180 = .ok (.iaload, 1) := by decide +kernel
theorem dX10_theBit_181 : decode cX10_theBit 181 = .ok (.lload 7, 2) := by decide +kernel
theorem dX10_theBit_183 : decode cX10_theBit 183 = .ok (.iload 9, 2) := by decide +kernel
theorem dX10_theBit_185 : decode cX10_theBit 185 = .ok (.lshr, 1) := by decide +kernel
theorem dX10_theBit_186 : decode cX10_theBit 186 = .ok (.lconst 1, 1) := by decide +kernel
theorem dX10_theBit_187 : decode cX10_theBit 187 = .ok (.land, 1) := by decide +kernel
theorem dX10_theBit_188 : decode cX10_theBit 188 = .ok (.l2i, 1) := by decide +kernel
theorem dX10_theBit_189 : decode cX10_theBit 189 = .ok (.ixor, 1) := by decide +kernel
theorem dX10_theBit_190 : decode cX10_theBit 190 = .ok (.istore 10, 2) := by decide +kernel
theorem dX10_theBit_192 : decode cX10_theBit 192 = .ok (.aload_n 0, 1) := by decide +kernel
theorem dX10_theBit_193 : decode cX10_theBit 193 = .ok (.getfield 33, 3) := by decide +kernel
theorem dX10_theBit_196 : decode cX10_theBit 196 = .ok (.iload 9, 2) := by decide +kernel
theorem dX10_theBit_198 : decode cX10_theBit 198 = .ok (.aload_n 0, 1) := by decide +kernel
theorem dX10_theBit_199 : decode cX10_theBit 199 = .ok (.getfield 33, 3) := by decide +kernel
theorem dX10_theBit_202 : decode cX10_theBit 202 = .ok (.iload 9, 2) := by decide +kernel
theorem dX10_theBit_204 : decode cX10_theBit 204 = .ok (.iload 6, 2) := by decide +kernel
theorem dX10_theBit_206 : decode cX10_theBit 206 = .ok (.iadd, 1) := by decide +kernel
theorem dX10_theBit_207 : decode cX10_theBit 207 = .ok (.iaload, 1) := by decide +kernel
theorem dX10_theBit_208 : decode cX10_theBit 208 = .ok (.iconst 2, 1) := by decide +kernel
theorem dX10_theBit_209 : decode cX10_theBit 209 = .ok (.if_icmp .ne 8, 3) := by decide +kernel
theorem dX10_theBit_212 : decode cX10_theBit 212 = .ok (.iload 10, 2) := by decide +kernel
theorem dX10_theBit_214 : decode cX10_theBit 214 = .ok (.goto 13, 3) := by decide +kernel
theorem dX10_theBit_217 : decode cX10_theBit 217 = .ok (.aload_n 0, 1) := by decide +kernel
theorem dX10_theBit_218 : decode cX10_theBit 218 = .ok (.getfield 33, 3) := by decide +kernel
theorem dX10_theBit_221 : decode cX10_theBit 221 = .ok (.iload 9, 2) := by decide +kernel
theorem dX10_theBit_223 : decode cX10_theBit 223 = .ok (.iload 6, 2) := by decide +kernel
theorem dX10_theBit_225 : decode cX10_theBit 225 = .ok (.iadd, 1) := by decide +kernel
theorem dX10_theBit_226 : decode cX10_theBit 226 = .ok (.iaload, 1) := by decide +kernel
theorem dX10_theBit_227 : decode cX10_theBit 227 = .ok (.iastore, 1) := by decide +kernel
theorem dX10_theBit_228 : decode cX10_theBit 228 = .ok (.iinc 9 1, 3) := by decide +kernel
theorem dX10_theBit_231 : decode cX10_theBit 231 = .ok (.goto (-79), 3) := by decide +kernel
theorem dX10_theBit_234 : decode cX10_theBit 234 = .ok (.iload 4, 2) := by decide +kernel
theorem dX10_theBit_236 : decode cX10_theBit 236 = .ok (.iload 6, 2) := by decide +kernel
theorem dX10_theBit_238 : decode cX10_theBit 238 = .ok (.iadd, 1) := by decide +kernel
theorem dX10_theBit_239 : decode cX10_theBit 239 = .ok (.istore 4, 2) := by decide +kernel
theorem dX10_theBit_241 : decode cX10_theBit 241 = .ok (.iload 5, 2) := by decide +kernel
theorem dX10_theBit_243 : decode cX10_theBit 243 = .ok (.iload 6, 2) := by decide +kernel
theorem dX10_theBit_245 : decode cX10_theBit 245 = .ok (.isub, 1) := by decide +kernel
theorem dX10_theBit_246 : decode cX10_theBit 246 = .ok (.istore 5, 2) := by decide +kernel
theorem dX10_theBit_248 : decode cX10_theBit 248 = .ok (.iload 6, 2) := by decide +kernel
theorem dX10_theBit_250 : decode cX10_theBit 250 = .ok (.iconst 2, 1) := by decide +kernel
theorem dX10_theBit_251 : decode cX10_theBit 251 = .ok (.idiv, 1) := by decide +kernel
theorem dX10_theBit_252 : decode cX10_theBit 252 = .ok (.istore 6, 2) := by decide +kernel
theorem dX10_theBit_254 : decode cX10_theBit 254 = .ok (.goto (-208), 3) := by decide +kernel
theorem dX10_theBit_257 : decode cX10_theBit 257 = .ok (.aload_n 0, 1) := by decide +kernel
theorem dX10_theBit_258 : decode cX10_theBit 258 = .ok (.getfield 33, 3) := by decide +kernel
theorem dX10_theBit_261 : decode cX10_theBit 261 = .ok (.iconst 0, 1) := by decide +kernel
theorem dX10_theBit_262 : decode cX10_theBit 262 = .ok (.iaload, 1) := by decide +kernel
theorem dX10_theBit_263 : decode cX10_theBit 263 = .ok (.ireturn, 1) := by decide +kernel
theorem dX10_goOn_0 : decode cX10_goOn 0 = .ok (.aload_n 0, 1) := by decide +kernel
theorem dX10_goOn_1 : decode cX10_goOn 1 = .ok (.getfield 39, 3) := by decide +kernel
theorem dX10_goOn_4 : decode cX10_goOn 4 = .ok (.aload_n 0, 1) := by decide +kernel
theorem dX10_goOn_5 : decode cX10_goOn 5 = .ok (.getfield 152, 3) := by decide +kernel
theorem dX10_goOn_8 : decode cX10_goOn 8 = .ok (.lload_n 1, 1) := by decide +kernel
theorem dX10_goOn_9 : decode cX10_goOn 9 = .ok (.lload 4, 2) := by decide +kernel
theorem dX10_goOn_11 : decode cX10_goOn 11 = .ok (.iload_n 3, 1) := by decide +kernel
theorem dX10_goOn_12 : decode cX10_goOn 12 = .ok (.lshl, 1) := by decide +kernel
theorem dX10_goOn_13 : decode cX10_goOn 13 = .ok (.lor, 1) := by decide +kernel
theorem dX10_goOn_14 : decode cX10_goOn 14 = .ok (.lastore, 1) := by decide +kernel
theorem dX10_goOn_15 : decode cX10_goOn 15 = .ok (.aload_n 0, 1) := by decide +kernel
theorem dX10_goOn_16 : decode cX10_goOn 16 = .ok (.dup, 1) := by decide +kernel
theorem dX10_goOn_17 : decode cX10_goOn 17 = .ok (.getfield 152, 3) := by decide +kernel
theorem dX10_goOn_20 : decode cX10_goOn 20 = .ok (.iconst 1, 1) := by decide +kernel
theorem dX10_goOn_21 : decode cX10_goOn 21 = .ok (.iadd, 1) := by decide +kernel
theorem dX10_goOn_22 : decode cX10_goOn 22 = .ok (.putfield 152, 3) := by decide +kernel
theorem dX10_goOn_25 : decode cX10_goOn 25 = .ok (.return_, 1) := by decide +kernel
set_option maxRecDepth 20000 in
theorem ggX10_goPlace_X10_theBit : GoodIn wsX10_goPlace wsX10_theBit := goodIn_r _ [12, 13, 14, 15, 16, 17, 11, 18, 23, 24, 25, 26, 27, 28, 29, 30, 31, 32, 33, 34, 35, 36, 37, 38, 39, 40, 41, 42, 43, 44, 45, 46, 47] (by decide +kernel) (by decide +kernel)
set_option maxRecDepth 20000 in
theorem gX10_goPlace_X10_theBit : GoodIn wsX10_goPlace (wsV RX10 155 RX10 yX10_theBit wsX10_theBit) := goodIn_app (goodIn_of _ (by decide +kernel)) ggX10_goPlace_X10_theBit
set_option maxRecDepth 20000 in
theorem ggX10_goPlace_X10_goOn : GoodIn wsX10_goPlace wsX10_goOn := goodIn_r _ [22, 7, 1, 23, 24, 25, 26, 27, 28, 29, 30, 31, 32, 33, 34, 35, 36, 37, 38, 39, 40, 41, 42, 43, 44, 45, 46, 47] (by decide +kernel) (by decide +kernel)
set_option maxRecDepth 20000 in
theorem gX10_goPlace_X10_goOn : GoodIn wsX10_goPlace (wsV RX10 159 RX10 yX10_goOn wsX10_goOn) := goodIn_app (goodIn_of _ (by decide +kernel)) ggX10_goPlace_X10_goOn
theorem dX10_goPlace_0 : decode cX10_goPlace 0 = .ok (.aload_n 0, 1) := by decide +kernel
theorem dX10_goPlace_1 : decode cX10_goPlace 1 = .ok (.iconst 0, 1) := by decide +kernel
theorem dX10_goPlace_2 : decode cX10_goPlace 2 = .ok (.putfield 152, 3) := by decide +kernel
theorem dX10_goPlace_5 : decode cX10_goPlace 5 = .ok (.iconst 0, 1) := by decide +kernel
theorem dX10_goPlace_6 : decode cX10_goPlace 6 = .ok (.istore_n 2, 1) := by decide +kernel
theorem dX10_goPlace_7 : decode cX10_goPlace 7 = .ok (.iload_n 2, 1) := by decide +kernel
theorem dX10_goPlace_8 : decode cX10_goPlace 8 = .ok (.aload_n 0, 1) := by decide +kernel
theorem dX10_goPlace_9 : decode cX10_goPlace 9 = .ok (.getfield 67, 3) := by decide +kernel
theorem dX10_goPlace_12 : decode cX10_goPlace 12 = .ok (.if_icmp .ge 105, 3) := by decide +kernel
theorem dX10_goPlace_15 : decode cX10_goPlace 15 = .ok (.aload_n 0, 1) := by decide +kernel
theorem dX10_goPlace_16 : decode cX10_goPlace 16 = .ok (.aload_n 0, 1) := by decide +kernel
theorem dX10_goPlace_17 : decode cX10_goPlace 17 = .ok (.getfield 36, 3) := by decide +kernel
theorem dX10_goPlace_20 : decode cX10_goPlace 20 = .ok (.iload_n 2, 1) := by decide +kernel
theorem dX10_goPlace_21 : decode cX10_goPlace 21 = .ok (.laload, 1) := by decide +kernel
theorem dX10_goPlace_22 : decode cX10_goPlace 22 = .ok (.iload_n 1, 1) := by decide +kernel
theorem dX10_goPlace_23 : decode cX10_goPlace 23 = .ok (.invokevirtual 155, 3) := by decide +kernel
theorem dX10_goPlace_26 : decode cX10_goPlace 26 = .ok (.istore_n 3, 1) := by decide +kernel
theorem dX10_goPlace_27 : decode cX10_goPlace 27 = .ok (.aload_n 0, 1) := by decide +kernel
theorem dX10_goPlace_28 : decode cX10_goPlace 28 = .ok (.getfield 7, 3) := by decide +kernel
theorem dX10_goPlace_31 : decode cX10_goPlace 31 = .ok (.iload_n 1, 1) := by decide +kernel
theorem dX10_goPlace_32 : decode cX10_goPlace 32 = .ok (.baload, 1) := by decide +kernel
theorem dX10_goPlace_33 : decode cX10_goPlace 33 = .ok (.ifCond .eq 45, 3) := by decide +kernel
theorem dX10_goPlace_36 : decode cX10_goPlace 36 = .ok (.aload_n 0, 1) := by decide +kernel
theorem dX10_goPlace_37 : decode cX10_goPlace 37 = .ok (.aload_n 0, 1) := by decide +kernel
theorem dX10_goPlace_38 : decode cX10_goPlace 38 = .ok (.getfield 36, 3) := by decide +kernel
theorem dX10_goPlace_41 : decode cX10_goPlace 41 = .ok (.iload_n 2, 1) := by decide +kernel
theorem dX10_goPlace_42 : decode cX10_goPlace 42 = .ok (.laload, 1) := by decide +kernel
theorem dX10_goPlace_43 : decode cX10_goPlace 43 = .ok (.iload_n 1, 1) := by decide +kernel
theorem dX10_goPlace_44 : decode cX10_goPlace 44 = .ok (.iload_n 3, 1) := by decide +kernel
theorem dX10_goPlace_45 : decode cX10_goPlace 45 = .ok (.iconst 2, 1) := by decide +kernel
theorem dX10_goPlace_46 : decode cX10_goPlace 46 = .ok (.if_icmp .ne 7, 3) := by decide +kernel
theorem dX10_goPlace_49 : decode cX10_goPlace 49 = .ok (.lconst 0, 1) := by decide +kernel
theorem dX10_goPlace_50 : decode cX10_goPlace 50 = .ok (.goto 5, 3) := by decide +kernel
theorem dX10_goPlace_53 : decode cX10_goPlace 53 = .ok (.iload_n 3, 1) := by decide +kernel
theorem dX10_goPlace_54 : decode cX10_goPlace 54 = .ok (.i2l, 1) := by decide +kernel
theorem dX10_goPlace_55 : decode cX10_goPlace 55 = .ok (.invokevirtual 159, 3) := by decide +kernel
theorem dX10_goPlace_58 : decode cX10_goPlace 58 = .ok (.iload_n 3, 1) := by decide +kernel
theorem dX10_goPlace_59 : decode cX10_goPlace 59 = .ok (.iconst 2, 1) := by decide +kernel
theorem dX10_goPlace_60 : decode cX10_goPlace 60 = .ok (.if_icmp .ne 51, 3) := by decide +kernel
theorem dX10_goPlace_63 : decode cX10_goPlace 63 = .ok (.aload_n 0, 1) := by decide +kernel
theorem dX10_goPlace_64 : decode cX10_goPlace 64 = .ok (.aload_n 0, 1) := by decide +kernel
theorem dX10_goPlace_65 : decode cX10_goPlace 65 = .ok (.getfield 36, 3) := by decide +kernel
theorem dX10_goPlace_68 : decode cX10_goPlace 68 = .ok (.iload_n 2, 1) := by decide +kernel
theorem dX10_goPlace_69 : decode cX10_goPlace 69 = .ok (.laload, 1) := by decide +kernel
theorem dX10_goPlace_70 : decode cX10_goPlace 70 = .ok (.iload_n 1, 1) := by decide +kernel
theorem dX10_goPlace_71 : decode cX10_goPlace 71 = .ok (.lconst 1, 1) := by decide +kernel
theorem dX10_goPlace_72 : decode cX10_goPlace 72 = .ok (.invokevirtual 159, 3) := by decide +kernel
theorem dX10_goPlace_75 : decode cX10_goPlace 75 = .ok (.goto 36, 3) := by decide +kernel
theorem dX10_goPlace_78 : decode cX10_goPlace 78 = .ok (.iload_n 3, 1) := by decide +kernel
theorem dX10_goPlace_79 : decode cX10_goPlace 79 = .ok (.iconst 2, 1) := by decide +kernel
theorem dX10_goPlace_80 : decode cX10_goPlace 80 = .ok (.if_icmp .eq 13, 3) := by decide +kernel
theorem dX10_goPlace_83 : decode cX10_goPlace 83 = .ok (.iload_n 3, 1) := by decide +kernel
theorem dX10_goPlace_84 : decode cX10_goPlace 84 = .ok (.aload_n 0, 1) := by decide +kernel
theorem dX10_goPlace_85 : decode cX10_goPlace 85 = .ok (.getfield 13, 3) := by decide +kernel
theorem dX10_goPlace_88 : decode cX10_goPlace 88 = .ok (.iload_n 1, 1) := by decide +kernel
theorem dX10_goPlace_89 : decode cX10_goPlace 89 = .ok (.iaload, 1) := by decide +kernel
theorem dX10_goPlace_90 : decode cX10_goPlace 90 = .ok (.if_icmp .ne 21, 3) := by decide +kernel
theorem dX10_goPlace_93 : decode cX10_goPlace 93 = .ok (.aload_n 0, 1) := by decide +kernel
theorem dX10_goPlace_94 : decode cX10_goPlace 94 = .ok (.aload_n 0, 1) := by decide +kernel
theorem dX10_goPlace_95 : decode cX10_goPlace 95 = .ok (.getfield 36, 3) := by decide +kernel
theorem dX10_goPlace_98 : decode cX10_goPlace 98 = .ok (.iload_n 2, 1) := by decide +kernel
theorem dX10_goPlace_99 : decode cX10_goPlace 99 = .ok (.laload, 1) := by decide +kernel
theorem dX10_goPlace_100 : decode cX10_goPlace 100 = .ok (.iload_n 1, 1) := by decide +kernel
theorem dX10_goPlace_101 : decode cX10_goPlace 101 = .ok (.aload_n 0, 1) := by decide +kernel
theorem dX10_goPlace_102 : decode cX10_goPlace 102 = .ok (.getfield 13, 3) := by decide +kernel
theorem dX10_goPlace_105 : decode cX10_goPlace 105 = .ok (.iload_n 1, 1) := by decide +kernel
theorem dX10_goPlace_106 : decode cX10_goPlace 106 = .ok (.iaload, 1) := by decide +kernel
theorem dX10_goPlace_107 : decode cX10_goPlace 107 = .ok (.i2l, 1) := by decide +kernel
theorem dX10_goPlace_108 : decode cX10_goPlace 108 = .ok (.invokevirtual 159, 3) := by decide +kernel
theorem dX10_goPlace_111 : decode cX10_goPlace 111 = .ok (.iinc 2 1, 3) := by decide +kernel
theorem dX10_goPlace_114 : decode cX10_goPlace 114 = .ok (.goto (-107), 3) := by decide +kernel
theorem dX10_goPlace_117 : decode cX10_goPlace 117 = .ok (.aload_n 0, 1) := by decide +kernel
theorem dX10_goPlace_118 : decode cX10_goPlace 118 = .ok (.aload_n 0, 1) := by decide +kernel
theorem dX10_goPlace_119 : decode cX10_goPlace 119 = .ok (.getfield 152, 3) := by decide +kernel
theorem dX10_goPlace_122 : decode cX10_goPlace 122 = .ok (.aload_n 0, 1) := by decide +kernel
theorem dX10_goPlace_123 : decode cX10_goPlace 123 = .ok (.getfield 64, 3) := by decide +kernel
theorem dX10_goPlace_126 : decode cX10_goPlace 126 = .ok (.if_icmp .ge 10, 3) := by decide +kernel
theorem dX10_goPlace_129 : decode cX10_goPlace 129 = .ok (.aload_n 0, 1) := by decide +kernel
theorem dX10_goPlace_130 : decode cX10_goPlace 130 = .ok (.getfield 152, 3) := by decide +kernel
theorem dX10_goPlace_133 : decode cX10_goPlace 133 = .ok (.goto 7, 3) := by decide +kernel
theorem dX10_goPlace_136 : decode cX10_goPlace 136 = .ok (.aload_n 0, 1) := by decide +kernel
theorem dX10_goPlace_137 : decode cX10_goPlace 137 = .ok (.getfield 64, 3) := by decide +kernel
theorem dX10_goPlace_140 : decode cX10_goPlace 140 = .ok (.putfield 67, 3) := by decide +kernel
theorem dX10_goPlace_143 : decode cX10_goPlace 143 = .ok (.iconst 0, 1) := by decide +kernel
theorem dX10_goPlace_144 : decode cX10_goPlace 144 = .ok (.istore_n 2, 1) := by decide +kernel
theorem dX10_goPlace_145 : decode cX10_goPlace 145 = .ok (.iload_n 2, 1) := by decide +kernel
theorem dX10_goPlace_146 : decode cX10_goPlace 146 = .ok (.aload_n 0, 1) := by decide +kernel
theorem dX10_goPlace_147 : decode cX10_goPlace 147 = .ok (.getfield 67, 3) := by decide +kernel
theorem dX10_goPlace_150 : decode cX10_goPlace 150 = .ok (.if_icmp .ge 21, 3) := by decide +kernel
theorem dX10_goPlace_153 : decode cX10_goPlace 153 = .ok (.aload_n 0, 1) := by decide +kernel
theorem dX10_goPlace_154 : decode cX10_goPlace 154 = .ok (.getfield 36, 3) := by decide +kernel
theorem dX10_goPlace_157 : decode cX10_goPlace 157 = .ok (.iload_n 2, 1) := by decide +kernel
theorem dX10_goPlace_158 : decode cX10_goPlace 158 = .ok (.aload_n 0, 1) := by decide +kernel
theorem dX10_goPlace_159 : decode cX10_goPlace 159 = .ok (.getfield 39, 3) := by decide +kernel
theorem dX10_goPlace_162 : decode cX10_goPlace 162 = .ok (.iload_n 2, 1) := by decide +kernel
theorem dX10_goPlace_163 : decode cX10_goPlace 163 = .ok (.laload, 1) := by decide +kernel
theorem dX10_goPlace_164 : decode cX10_goPlace 164 = .ok (.lastore, 1) := by decide +kernel
theorem dX10_goPlace_165 : decode cX10_goPlace 165 = .ok (.iinc 2 1, 3) := by decide +kernel
theorem dX10_goPlace_168 : decode cX10_goPlace 168 = .ok (.goto (-23), 3) := by decide +kernel
theorem dX10_goPlace_171 : decode cX10_goPlace 171 = .ok (.return_, 1) := by decide +kernel
set_option maxRecDepth 20000 in
theorem ggX10_wide_X10_in : GoodIn wsX10_wide wsX10_in := goodIn_r _ [6] (by decide +kernel) (by decide +kernel)
set_option maxRecDepth 20000 in
theorem gX10_wide_X10_in : GoodIn wsX10_wide (va_wsS RX10 79 yX10_in wsX10_in) := goodIn_app (goodIn_of _ (by decide +kernel)) ggX10_wide_X10_in
theorem dX10_wide_0 : decode cX10_wide 0 = .ok (.iload_n 1, 1) := by decide +kernel
theorem dX10_wide_1 : decode cX10_wide 1 = .ok (.i2l, 1) := by decide +kernel
theorem dX10_wide_2 : decode cX10_wide 2 = .ok (.lconst 1, 1) := by decide +kernel
theorem dX10_wide_3 : decode cX10_wide 3 = .ok (.ldc2_w 163, 3) := by decide +kernel
theorem dX10_wide_6 : decode cX10_wide 6 = .ok (.invokestatic 79, 3) := by decide +kernel
theorem dX10_wide_9 : decode cX10_wide 9 = .ok (.ifCond .ne 6, 3) := by decide +kernel
theorem dX10_wide_12 : decode cX10_wide 12 = .ok (.bipush (-2), 2) := by decide +kernel
theorem dX10_wide_14 : decode cX10_wide 14 = .ok (.ireturn, 1) := by decide +kernel
theorem dX10_wide_15 : decode cX10_wide 15 = .ok (.aload_n 0, 1) := by decide +kernel
theorem dX10_wide_16 : decode cX10_wide 16 = .ok (.getfield 64, 3) := by decide +kernel
theorem dX10_wide_19 : decode cX10_wide 19 = .ok (.istore_n 2, 1) := by decide +kernel
theorem dX10_wide_20 : decode cX10_wide 20 = .ok (.aload_n 0, 1) := by decide +kernel
theorem dX10_wide_21 : decode cX10_wide 21 = .ok (.iload_n 1, 1) := by decide +kernel
theorem dX10_wide_22 : decode cX10_wide 22 = .ok (.putfield 64, 3) := by decide +kernel
theorem dX10_wide_25 : decode cX10_wide 25 = .ok (.iload_n 2, 1) := by decide +kernel
theorem dX10_wide_26 : decode cX10_wide 26 = .ok (.ireturn, 1) := by decide +kernel
set_option maxRecDepth 20000 in
theorem ggX10_check_X10_in : GoodIn wsX10_check wsX10_in := goodIn_r _ [6] (by decide +kernel) (by decide +kernel)
set_option maxRecDepth 20000 in
theorem gX10_check_X10_in : GoodIn wsX10_check (va_wsS RX10 79 yX10_in wsX10_in) := goodIn_app (goodIn_of _ (by decide +kernel)) ggX10_check_X10_in
theorem dX10_check_0 : decode cX10_check 0 = .ok (.lload_n 1, 1) := by decide +kernel
theorem dX10_check_1 : decode cX10_check 1 = .ok (.lconst 0, 1) := by decide +kernel
theorem dX10_check_2 : decode cX10_check 2 = .ok (.ldc2_w 165, 3) := by decide +kernel
theorem dX10_check_5 : decode cX10_check 5 = .ok (.invokestatic 79, 3) := by decide +kernel
theorem dX10_check_8 : decode cX10_check 8 = .ok (.ifCond .ne 6, 3) := by decide +kernel
theorem dX10_check_11 : decode cX10_check 11 = .ok (.bipush (-2), 2) := by decide +kernel
theorem dX10_check_13 : decode cX10_check 13 = .ok (.ireturn, 1) := by decide +kernel
theorem dX10_check_14 : decode cX10_check 14 = .ok (.aload_n 0, 1) := by decide +kernel
theorem dX10_check_15 : decode cX10_check 15 = .ok (.lload_n 1, 1) := by decide +kernel
theorem dX10_check_16 : decode cX10_check 16 = .ok (.putfield 167, 3) := by decide +kernel
theorem dX10_check_19 : decode cX10_check 19 = .ok (.iconst 1, 1) := by decide +kernel
theorem dX10_check_20 : decode cX10_check 20 = .ok (.ireturn, 1) := by decide +kernel
set_option maxRecDepth 20000 in
theorem ggX10_read_X10_noSheet : GoodIn wsX10_read wsX10_noSheet := goodIn_r _ [8, 9, 10, 11, 7, 12] (by decide +kernel) (by decide +kernel)
set_option maxRecDepth 20000 in
theorem gX10_read_X10_noSheet : GoodIn wsX10_read (va_wsS RX10 131 yX10_noSheet wsX10_noSheet) := goodIn_app (goodIn_of _ (by decide +kernel)) ggX10_read_X10_noSheet
set_option maxRecDepth 20000 in
theorem ggX10_read_X10_refused : GoodIn wsX10_read wsX10_refused := goodIn_r _ [16, 17, 55, 56, 57, 58, 59, 60, 61, 62, 63, 64, 65, 66, 67, 68, 69, 70, 71, 72, 73, 74, 75, 76, 77, 78, 79] (by decide +kernel) (by decide +kernel)
set_option maxRecDepth 20000 in
theorem gX10_read_X10_refused : GoodIn wsX10_read (wsV RX10 134 RX10 yX10_refused wsX10_refused) := goodIn_app (goodIn_of _ (by decide +kernel)) ggX10_read_X10_refused
set_option maxRecDepth 20000 in
theorem ggX10_read_X10_in : GoodIn wsX10_read wsX10_in := goodIn_r _ [12] (by decide +kernel) (by decide +kernel)
set_option maxRecDepth 20000 in
theorem gX10_read_X10_in : GoodIn wsX10_read (va_wsS RX10 79 yX10_in wsX10_in) := goodIn_app (goodIn_of _ (by decide +kernel)) ggX10_read_X10_in
set_option maxRecDepth 20000 in
theorem ggX10_read_X10_faultOf : GoodIn wsX10_read wsX10_faultOf := goodIn_r _ [21, 22, 23, 4, 55, 56, 57, 58, 59, 60, 61, 62, 63, 64, 65, 66, 67, 68, 69, 70, 71, 72, 73, 74, 75, 76, 77, 78, 79] (by decide +kernel) (by decide +kernel)
set_option maxRecDepth 20000 in
theorem gX10_read_X10_faultOf : GoodIn wsX10_read (wsV RX10 171 RX10 yX10_faultOf wsX10_faultOf) := goodIn_app (goodIn_of _ (by decide +kernel)) ggX10_read_X10_faultOf
set_option maxRecDepth 20000 in
theorem ggX10_read_X10_failed : GoodIn wsX10_read wsX10_failed := goodIn_r _ [27, 17, 55, 56, 57, 58, 59, 60, 61, 62, 63, 64, 65, 66, 67, 68, 69, 70, 71, 72, 73, 74, 75, 76, 77, 78, 79] (by decide +kernel) (by decide +kernel)
set_option maxRecDepth 20000 in
theorem gX10_read_X10_failed : GoodIn wsX10_read (wsV RX10 138 RX10 yX10_failed wsX10_failed) := goodIn_app (goodIn_of _ (by decide +kernel)) ggX10_read_X10_failed
set_option maxRecDepth 20000 in
theorem ggX10_read_X10_laySeen : GoodIn wsX10_read wsX10_laySeen := goodIn_r _ [31, 4, 32, 33, 55, 56, 57, 58, 59, 60, 61, 62, 63, 64, 65, 66, 67, 68, 69, 70, 71, 72, 73, 74, 75, 76, 77, 78, 79] (by decide +kernel) (by decide +kernel)
set_option maxRecDepth 20000 in
theorem gX10_read_X10_laySeen : GoodIn wsX10_read (wsV RX10 174 RX10 yX10_laySeen wsX10_laySeen) := goodIn_app (goodIn_of _ (by decide +kernel)) ggX10_read_X10_laySeen
set_option maxRecDepth 20000 in
theorem ggX10_read_X10_goPlace : GoodIn wsX10_read wsX10_goPlace := goodIn_r _ [37, 38, 2, 3, 39, 40, 41, 42, 43, 44, 45, 7, 46, 4, 47, 33, 48, 49, 50, 51, 52, 53, 54, 55, 56, 57, 58, 59, 60, 61, 62, 63, 64, 65, 66, 67, 68, 69, 70, 71, 72, 73, 74, 75, 76, 77, 78, 79] (by decide +kernel) (by decide +kernel)
set_option maxRecDepth 20000 in
theorem gX10_read_X10_goPlace : GoodIn wsX10_read (wsV RX10 178 RX10 yX10_goPlace wsX10_goPlace) := goodIn_app (goodIn_of _ (by decide +kernel)) ggX10_read_X10_goPlace
theorem dX10_read_0 : decode cX10_read 0 = .ok (.iload_n 1, 1) := by decide +kernel
theorem dX10_read_1 : decode cX10_read 1 = .ok (.invokestatic 131, 3) := by decide +kernel
theorem dX10_read_4 : decode cX10_read 4 = .ok (.ifCond .eq 9, 3) := by decide +kernel
theorem dX10_read_7 : decode cX10_read 7 = .ok (.aload_n 0, 1) := by decide +kernel
theorem dX10_read_8 : decode cX10_read 8 = .ok (.iconst (-1), 1) := by decide +kernel
theorem dX10_read_9 : decode cX10_read 9 = .ok (.invokevirtual 134, 3) := by decide +kernel
theorem dX10_read_12 : decode cX10_read 12 = .ok (.ireturn, 1) := by decide +kernel
theorem dX10_read_13 : decode cX10_read 13 = .ok (.iload_n 2, 1) := by decide +kernel
theorem dX10_read_14 : decode cX10_read 14 = .ok (.i2l, 1) := by decide +kernel
theorem dX10_read_15 : decode cX10_read 15 = .ok (.lconst 0, 1) := by decide +kernel
theorem dX10_read_16 : decode cX10_read 16 = .ok (.ldc2_w 93, 3) := by decide +kernel
theorem dX10_read_19 : decode cX10_read 19 = .ok (.invokestatic 79, 3) := by decide +kernel
theorem dX10_read_22 : decode cX10_read 22 = .ok (.ifCond .ne 10, 3) := by decide +kernel
theorem dX10_read_25 : decode cX10_read 25 = .ok (.aload_n 0, 1) := by decide +kernel
theorem dX10_read_26 : decode cX10_read 26 = .ok (.bipush (-2), 2) := by decide +kernel
theorem dX10_read_28 : decode cX10_read 28 = .ok (.invokevirtual 134, 3) := by decide +kernel
theorem dX10_read_31 : decode cX10_read 31 = .ok (.ireturn, 1) := by decide +kernel
theorem dX10_read_32 : decode cX10_read 32 = .ok (.aload_n 0, 1) := by decide +kernel
theorem dX10_read_33 : decode cX10_read 33 = .ok (.iload_n 1, 1) := by decide +kernel
theorem dX10_read_34 : decode cX10_read 34 = .ok (.iload_n 2, 1) := by decide +kernel
theorem dX10_read_35 : decode cX10_read 35 = .ok (.invokevirtual 171, 3) := by decide +kernel
theorem dX10_read_38 : decode cX10_read 38 = .ok (.istore_n 3, 1) := by decide +kernel
theorem dX10_read_39 : decode cX10_read 39 = .ok (.iload_n 3, 1) := by decide +kernel
theorem dX10_read_40 : decode cX10_read 40 = .ok (.ifCond .le 9, 3) := by decide +kernel
theorem dX10_read_43 : decode cX10_read 43 = .ok (.aload_n 0, 1) := by decide +kernel
theorem dX10_read_44 : decode cX10_read 44 = .ok (.iload_n 3, 1) := by decide +kernel
theorem dX10_read_45 : decode cX10_read 45 = .ok (.invokevirtual 138, 3) := by decide +kernel
theorem dX10_read_48 : decode cX10_read 48 = .ok (.ireturn, 1) := by decide +kernel
theorem dX10_read_49 : decode cX10_read 49 = .ok (.aload_n 0, 1) := by decide +kernel
theorem dX10_read_50 : decode cX10_read 50 = .ok (.iload_n 1, 1) := by decide +kernel
theorem dX10_read_51 : decode cX10_read 51 = .ok (.invokevirtual 174, 3) := by decide +kernel
theorem dX10_read_54 : decode cX10_read 54 = .ok (.aload_n 0, 1) := by decide +kernel
theorem dX10_read_55 : decode cX10_read 55 = .ok (.iconst 1, 1) := by decide +kernel
theorem dX10_read_56 : decode cX10_read 56 = .ok (.putfield 67, 3) := by decide +kernel
theorem dX10_read_59 : decode cX10_read 59 = .ok (.aload_n 0, 1) := by decide +kernel
theorem dX10_read_60 : decode cX10_read 60 = .ok (.getfield 36, 3) := by decide +kernel
theorem dX10_read_63 : decode cX10_read 63 = .ok (.iconst 0, 1) := by decide +kernel
theorem dX10_read_64 : decode cX10_read 64 = .ok (.lconst 0, 1) := by decide +kernel
theorem dX10_read_65 : decode cX10_read 65 = .ok (.lastore, 1) := by decide +kernel
theorem dX10_read_66 : decode cX10_read 66 = .ok (.iconst 0, 1) := by decide +kernel
theorem dX10_read_67 : decode cX10_read 67 = .ok (.istore 4, 2) := by decide +kernel
theorem dX10_read_69 : decode cX10_read 69 = .ok (.iload 4, 2) := by decide +kernel
theorem dX10_read_71 : decode cX10_read 71 = .ok (.aload_n 0, 1) := by decide +kernel
theorem dX10_read_72 : decode cX10_read 72 = .ok (.getfield 54, 3) := by decide +kernel
theorem dX10_read_75 : decode cX10_read 75 = .ok (.if_icmp .ge 15, 3) := by decide +kernel
theorem dX10_read_78 : decode cX10_read 78 = .ok (.aload_n 0, 1) := by decide +kernel
theorem dX10_read_79 : decode cX10_read 79 = .ok (.iload 4, 2) := by decide +kernel
theorem dX10_read_81 : decode cX10_read 81 = .ok (.invokevirtual 178, 3) := by decide +kernel
theorem dX10_read_84 : decode cX10_read 84 = .ok (.iinc 4 1, 3) := by decide +kernel
theorem dX10_read_87 : decode cX10_read 87 = .ok (.goto (-18), 3) := by decide +kernel
theorem dX10_read_90 : decode cX10_read 90 = .ok (.aload_n 0, 1) := by decide +kernel
theorem dX10_read_91 : decode cX10_read 91 = .ok (.aload_n 0, 1) := by decide +kernel
theorem dX10_read_92 : decode cX10_read 92 = .ok (.getfield 67, 3) := by decide +kernel
theorem dX10_read_95 : decode cX10_read 95 = .ok (.invokevirtual 134, 3) := by decide +kernel
theorem dX10_read_98 : decode cX10_read 98 = .ok (.ireturn, 1) := by decide +kernel
theorem dX10_messageOf_0 : decode cX10_messageOf 0 = .ok (.lconst 0, 1) := by decide +kernel
theorem dX10_messageOf_1 : decode cX10_messageOf 1 = .ok (.lstore_n 3, 1) := by decide +kernel
theorem dX10_messageOf_2 : decode cX10_messageOf 2 = .ok (.iconst 0, 1) := by decide +kernel
theorem dX10_messageOf_3 : decode cX10_messageOf 3 = .ok (.istore 5, 2) := by decide +kernel
theorem dX10_messageOf_5 : decode cX10_messageOf 5 = .ok (.iconst 0, 1) := by decide +kernel
theorem dX10_messageOf_6 : decode cX10_messageOf 6 = .ok (.istore 6, 2) := by decide +kernel
theorem dX10_messageOf_8 : decode cX10_messageOf 8 = .ok (.iload 6, 2) := by decide +kernel
theorem dX10_messageOf_10 : decode cX10_messageOf 10 = .ok (.aload_n 0, 1) := by decide +kernel
theorem dX10_messageOf_11 : decode cX10_messageOf 11 = .ok (.getfield 54, 3) := by decide +kernel
theorem dX10_messageOf_14 : decode cX10_messageOf 14 = .ok (.if_icmp .ge 34, 3) := by decide +kernel
theorem dX10_messageOf_17 : decode cX10_messageOf 17 = .ok (.aload_n 0, 1) := by decide +kernel
theorem dX10_messageOf_18 : decode cX10_messageOf 18 = .ok (.getfield 7, 3) := by decide +kernel
theorem dX10_messageOf_21 : decode cX10_messageOf 21 = .ok (.iload 6, 2) := by decide +kernel
theorem dX10_messageOf_23 : decode cX10_messageOf 23 = .ok (.baload, 1) := by decide +kernel
theorem dX10_messageOf_24 : decode cX10_messageOf 24 = .ok (.ifCond .eq 18, 3) := by decide +kernel
theorem dX10_messageOf_27 : decode cX10_messageOf 27 = .ok (.lload_n 3, 1) := by decide +kernel
theorem dX10_messageOf_28 : decode cX10_messageOf 28 = .ok (.lload_n 1, 1) := by decide +kernel
theorem dX10_messageOf_29 : decode cX10_messageOf 29 = .ok (.iload 6, 2) := by decide +kernel
theorem dX10_messageOf_31 : decode cX10_messageOf 31 = .ok (.lshr, 1) := by decide +kernel
theorem dX10_messageOf_32 : decode cX10_messageOf 32 = .ok (.lconst 1, 1) := by decide +kernel
theorem dX10_messageOf_33 : decode cX10_messageOf 33 = .ok (.land, 1) := by decide +kernel
theorem dX10_messageOf_34 : decode cX10_messageOf 34 = .ok (.iload 5, 2) := by decide +kernel
theorem dX10_messageOf_36 : decode cX10_messageOf 36 = .ok (.lshl, 1) := by decide +kernel
theorem dX10_messageOf_37 : decode cX10_messageOf 37 = .ok (.lor, 1) := by decide +kernel
theorem dX10_messageOf_38 : decode cX10_messageOf 38 = .ok (.lstore_n 3, 1) := by decide +kernel
theorem dX10_messageOf_39 : decode cX10_messageOf 39 = .ok (.iinc 5 1, 3) := by decide +kernel
theorem dX10_messageOf_42 : decode cX10_messageOf 42 = .ok (.iinc 6 1, 3) := by decide +kernel
theorem dX10_messageOf_45 : decode cX10_messageOf 45 = .ok (.goto (-37), 3) := by decide +kernel
theorem dX10_messageOf_48 : decode cX10_messageOf 48 = .ok (.lload_n 3, 1) := by decide +kernel
theorem dX10_messageOf_49 : decode cX10_messageOf 49 = .ok (.lreturn, 1) := by decide +kernel
set_option maxRecDepth 20000 in
theorem ggX10_path_X10_in : GoodIn wsX10_path wsX10_in := goodIn_r _ [6] (by decide +kernel) (by decide +kernel)
set_option maxRecDepth 20000 in
theorem gX10_path_X10_in : GoodIn wsX10_path (va_wsS RX10 79 yX10_in wsX10_in) := goodIn_app (goodIn_of _ (by decide +kernel)) ggX10_path_X10_in
set_option maxRecDepth 20000 in
theorem ggX10_path_X10_lost : GoodIn wsX10_path wsX10_lost := goodIn_r _ [9, 10] (by decide +kernel) (by decide +kernel)
set_option maxRecDepth 20000 in
theorem gX10_path_X10_lost : GoodIn wsX10_path (va_wsS RX10 75 yX10_lost wsX10_lost) := goodIn_app (goodIn_of _ (by decide +kernel)) ggX10_path_X10_lost
set_option maxRecDepth 20000 in
theorem ggX10_path_X10_messageOf : GoodIn wsX10_path wsX10_messageOf := goodIn_r _ [14, 15, 16, 17, 18, 19, 20, 21, 22, 23, 24, 25, 26, 27, 28, 29, 30, 31, 32, 33, 34, 35, 36, 37, 38, 39, 40, 41] (by decide +kernel) (by decide +kernel)
set_option maxRecDepth 20000 in
theorem gX10_path_X10_messageOf : GoodIn wsX10_path (wsV RX10 181 RX10 yX10_messageOf wsX10_messageOf) := goodIn_app (goodIn_of _ (by decide +kernel)) ggX10_path_X10_messageOf
theorem dX10_path_0 : decode cX10_path 0 = .ok (.aload_n 0, 1) := by decide +kernel
theorem dX10_path_1 : decode cX10_path 1 = .ok (.getfield 67, 3) := by decide +kernel
theorem dX10_path_4 : decode cX10_path 4 = .ok (.ifCond .lt 19, 3) := by decide +kernel
theorem dX10_path_7 : decode cX10_path 7 = .ok (.iload_n 1, 1) := by decide +kernel
theorem dX10_path_8 : decode cX10_path 8 = .ok (.i2l, 1) := by decide +kernel
theorem dX10_path_9 : decode cX10_path 9 = .ok (.lconst 0, 1) := by decide +kernel
theorem dX10_path_10 : decode cX10_path 10 = .ok (.aload_n 0, 1) := by decide +kernel
theorem dX10_path_11 : decode cX10_path 11 = .ok (.getfield 67, 3) := by decide +kernel
theorem dX10_path_14 : decode cX10_path 14 = .ok (.i2l, 1) := by decide +kernel
theorem dX10_path_15 : decode cX10_path 15 = .ok (.lconst 1, 1) := by decide +kernel
theorem dX10_path_16 : decode cX10_path 16 = .ok (.lsub, 1) := by decide +kernel
theorem dX10_path_17 : decode cX10_path 17 = .ok (.invokestatic 79, 3) := by decide +kernel
theorem dX10_path_20 : decode cX10_path 20 = .ok (.ifCond .ne 9, 3) := by decide +kernel
theorem dX10_path_23 : decode cX10_path 23 = .ok (.invokestatic 75, 3) := by decide +kernel
theorem dX10_path_26 : decode cX10_path 26 = .ok (.goto 13, 3) := by decide +kernel
theorem dX10_path_29 : decode cX10_path 29 = .ok (.aload_n 0, 1) := by decide +kernel
theorem dX10_path_30 : decode cX10_path 30 = .ok (.aload_n 0, 1) := by decide +kernel
theorem dX10_path_31 : decode cX10_path 31 = .ok (.getfield 36, 3) := by decide +kernel
theorem dX10_path_34 : decode cX10_path 34 = .ok (.iload_n 1, 1) := by decide +kernel
theorem dX10_path_35 : decode cX10_path 35 = .ok (.laload, 1) := by decide +kernel
theorem dX10_path_36 : decode cX10_path 36 = .ok (.invokevirtual 181, 3) := by decide +kernel
theorem dX10_path_39 : decode cX10_path 39 = .ok (.lreturn, 1) := by decide +kernel
theorem dX10_ones_0 : decode cX10_ones 0 = .ok (.iconst 0, 1) := by decide +kernel
theorem dX10_ones_1 : decode cX10_ones 1 = .ok (.istore_n 2, 1) := by decide +kernel
theorem dX10_ones_2 : decode cX10_ones 2 = .ok (.iconst 0, 1) := by decide +kernel
theorem dX10_ones_3 : decode cX10_ones 3 = .ok (.istore_n 3, 1) := by decide +kernel
theorem dX10_ones_4 : decode cX10_ones 4 = .ok (.iload_n 3, 1) := by decide +kernel
theorem dX10_ones_5 : decode cX10_ones 5 = .ok (.bipush 33, 2) := by decide +kernel
theorem dX10_ones_7 : decode cX10_ones 7 = .ok (.if_icmp .ge 18, 3) := by decide +kernel
theorem dX10_ones_10 : decode cX10_ones 10 = .ok (.iload_n 2, 1) := by decide +kernel
theorem dX10_ones_11 : decode cX10_ones 11 = .ok (.lload_n 0, 1) := by decide +kernel
theorem dX10_ones_12 : decode cX10_ones 12 = .ok (.iload_n 3, 1) := by decide +kernel
theorem dX10_ones_13 : decode cX10_ones 13 = .ok (.lshr, 1) := by decide +kernel
theorem dX10_ones_14 : decode cX10_ones 14 = .ok (.lconst 1, 1) := by decide +kernel
