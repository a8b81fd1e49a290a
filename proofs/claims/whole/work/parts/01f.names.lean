theorem dX7_areOne_25 : decode cX7_areOne 25 = .ok (.iload_n 1, 1) := by decide +kernel
theorem dX7_areOne_26 : decode cX7_areOne 26 = .ok (.iadd, 1) := by decide +kernel
theorem dX7_areOne_27 : decode cX7_areOne 27 = .ok (.iaload, 1) := by decide +kernel
theorem dX7_areOne_28 : decode cX7_areOne 28 = .ok (.aload_n 0, 1) := by decide +kernel
theorem dX7_areOne_29 : decode cX7_areOne 29 = .ok (.getfield 28, 3) := by decide +kernel
theorem dX7_areOne_32 : decode cX7_areOne 32 = .ok (.bipush 8, 2) := by decide +kernel
theorem dX7_areOne_34 : decode cX7_areOne 34 = .ok (.iload_n 2, 1) := by decide +kernel
theorem dX7_areOne_35 : decode cX7_areOne 35 = .ok (.iadd, 1) := by decide +kernel
theorem dX7_areOne_36 : decode cX7_areOne 36 = .ok (.iaload, 1) := by decide +kernel
theorem dX7_areOne_37 : decode cX7_areOne 37 = .ok (.if_icmp .ne 7, 3) := by decide +kernel
theorem dX7_areOne_40 : decode cX7_areOne 40 = .ok (.iconst 1, 1) := by decide +kernel
theorem dX7_areOne_41 : decode cX7_areOne 41 = .ok (.goto 4, 3) := by decide +kernel
theorem dX7_areOne_44 : decode cX7_areOne 44 = .ok (.iconst 0, 1) := by decide +kernel
theorem dX7_areOne_45 : decode cX7_areOne 45 = .ok (.ireturn, 1) := by decide +kernel
set_option maxRecDepth 20000 in
theorem ggX7_handsOf_X7_areOne : GoodIn wsX7_handsOf wsX7_areOne := goodIn_r _ [7, 8, 12, 13, 14, 15, 16, 17, 18, 19, 20, 21, 22, 23, 24, 25, 26, 27, 28, 29, 30, 31, 32, 33, 34, 35, 36, 37, 38, 39] (by decide +kernel) (by decide +kernel)
set_option maxRecDepth 20000 in
theorem gX7_handsOf_X7_areOne : GoodIn wsX7_handsOf (wsV RX7 146 RX7 yX7_areOne wsX7_areOne) := goodIn_app (goodIn_of _ (by decide +kernel)) ggX7_handsOf_X7_areOne
set_option maxRecDepth 20000 in
theorem ggX7_handsOf_X7_greater : GoodIn wsX7_handsOf wsX7_greater := goodIn_r _ [11] (by decide +kernel) (by decide +kernel)
set_option maxRecDepth 20000 in
theorem gX7_handsOf_X7_greater : GoodIn wsX7_handsOf (va_wsS RX7 150 yX7_greater wsX7_greater) := goodIn_app (goodIn_of _ (by decide +kernel)) ggX7_handsOf_X7_greater
theorem dX7_handsOf_0 : decode cX7_handsOf 0 = .ok (.iconst 0, 1) := by decide +kernel
theorem dX7_handsOf_1 : decode cX7_handsOf 1 = .ok (.istore_n 2, 1) := by decide +kernel
theorem dX7_handsOf_2 : decode cX7_handsOf 2 = .ok (.iconst 0, 1) := by decide +kernel
theorem dX7_handsOf_3 : decode cX7_handsOf 3 = .ok (.istore_n 3, 1) := by decide +kernel
theorem dX7_handsOf_4 : decode cX7_handsOf 4 = .ok (.iload_n 3, 1) := by decide +kernel
theorem dX7_handsOf_5 : decode cX7_handsOf 5 = .ok (.aload_n 0, 1) := by decide +kernel
theorem dX7_handsOf_6 : decode cX7_handsOf 6 = .ok (.getfield 133, 3) := by decide +kernel
theorem dX7_handsOf_9 : decode cX7_handsOf 9 = .ok (.if_icmp .ge 33, 3) := by decide +kernel
theorem dX7_handsOf_12 : decode cX7_handsOf 12 = .ok (.aload_n 0, 1) := by decide +kernel
theorem dX7_handsOf_13 : decode cX7_handsOf 13 = .ok (.iload_n 1, 1) := by decide +kernel
theorem dX7_handsOf_14 : decode cX7_handsOf 14 = .ok (.iload_n 3, 1) := by decide +kernel
theorem dX7_handsOf_15 : decode cX7_handsOf 15 = .ok (.invokevirtual 146, 3) := by decide +kernel
theorem dX7_handsOf_18 : decode cX7_handsOf 18 = .ok (.ifCond .eq 16, 3) := by decide +kernel
theorem dX7_handsOf_21 : decode cX7_handsOf 21 = .ok (.iload_n 2, 1) := by decide +kernel
theorem dX7_handsOf_22 : decode cX7_handsOf 22 = .ok (.aload_n 0, 1) := by decide +kernel
theorem dX7_handsOf_23 : decode cX7_handsOf 23 = .ok (.getfield 22, 3) := by decide +kernel
theorem dX7_handsOf_26 : decode cX7_handsOf 26 = .ok (.iload_n 3, 1) := by decide +kernel
theorem dX7_handsOf_27 : decode cX7_handsOf 27 = .ok (.iaload, 1) := by decide +kernel
theorem dX7_handsOf_28 : decode cX7_handsOf 28 = .ok (.invokestatic 150, 3) := by decide +kernel
theorem dX7_handsOf_31 : decode cX7_handsOf 31 = .ok (.goto 4, 3) := by decide +kernel
theorem dX7_handsOf_34 : decode cX7_handsOf 34 = .ok (.iload_n 2, 1) := by decide +kernel
theorem dX7_handsOf_35 : decode cX7_handsOf 35 = .ok (.istore_n 2, 1) := by decide +kernel
theorem dX7_handsOf_36 : decode cX7_handsOf 36 = .ok (.iinc 3 1, 3) := by decide +kernel
theorem dX7_handsOf_39 : decode cX7_handsOf 39 = .ok (.goto (-35), 3) := by decide +kernel
theorem dX7_handsOf_42 : decode cX7_handsOf 42 = .ok (.iload_n 2, 1) := by decide +kernel
theorem dX7_handsOf_43 : decode cX7_handsOf 43 = .ok (.ireturn, 1) := by decide +kernel
theorem dX7_ones_0 : decode cX7_ones 0 = .ok (.iconst 0, 1) := by decide +kernel
theorem dX7_ones_1 : decode cX7_ones 1 = .ok (.istore_n 1, 1) := by decide +kernel
theorem dX7_ones_2 : decode cX7_ones 2 = .ok (.iconst 0, 1) := by decide +kernel
theorem dX7_ones_3 : decode cX7_ones 3 = .ok (.istore_n 2, 1) := by decide +kernel
theorem dX7_ones_4 : decode cX7_ones 4 = .ok (.iload_n 2, 1) := by decide +kernel
theorem dX7_ones_5 : decode cX7_ones 5 = .ok (.bipush 8, 2) := by decide +kernel
theorem dX7_ones_7 : decode cX7_ones 7 = .ok (.if_icmp .ge 17, 3) := by decide +kernel
theorem dX7_ones_10 : decode cX7_ones 10 = .ok (.iload_n 1, 1) := by decide +kernel
theorem dX7_ones_11 : decode cX7_ones 11 = .ok (.iload_n 0, 1) := by decide +kernel
theorem dX7_ones_12 : decode cX7_ones 12 = .ok (.iload_n 2, 1) := by decide +kernel
theorem dX7_ones_13 : decode cX7_ones 13 = .ok (.ishr, 1) := by decide +kernel
theorem dX7_ones_14 : decode cX7_ones 14 = .ok (.iconst 1, 1) := by decide +kernel
theorem dX7_ones_15 : decode cX7_ones 15 = .ok (.iand, 1) := by decide +kernel
theorem dX7_ones_16 : decode cX7_ones 16 = .ok (.iadd, 1) := by decide +kernel
theorem dX7_ones_17 : decode cX7_ones 17 = .ok (.istore_n 1, 1) := by decide +kernel
theorem dX7_ones_18 : decode cX7_ones 18 = .ok (.iinc 2 1, 3) := by decide +kernel
theorem dX7_ones_21 : decode cX7_ones 21 = .ok (.goto (-17), 3) := by decide +kernel
theorem dX7_ones_24 : decode cX7_ones 24 = .ok (.iload_n 1, 1) := by decide +kernel
theorem dX7_ones_25 : decode cX7_ones 25 = .ok (.ireturn, 1) := by decide +kernel
theorem dX7_isJob_0 : decode cX7_isJob 0 = .ok (.aload_n 0, 1) := by decide +kernel
theorem dX7_isJob_1 : decode cX7_isJob 1 = .ok (.getfield 28, 3) := by decide +kernel
theorem dX7_isJob_4 : decode cX7_isJob 4 = .ok (.bipush 8, 2) := by decide +kernel
theorem dX7_isJob_6 : decode cX7_isJob 6 = .ok (.iload_n 1, 1) := by decide +kernel
theorem dX7_isJob_7 : decode cX7_isJob 7 = .ok (.iadd, 1) := by decide +kernel
theorem dX7_isJob_8 : decode cX7_isJob 8 = .ok (.iaload, 1) := by decide +kernel
theorem dX7_isJob_9 : decode cX7_isJob 9 = .ok (.bipush (-9), 2) := by decide +kernel
theorem dX7_isJob_11 : decode cX7_isJob 11 = .ok (.if_icmp .eq 16, 3) := by decide +kernel
theorem dX7_isJob_14 : decode cX7_isJob 14 = .ok (.aload_n 0, 1) := by decide +kernel
theorem dX7_isJob_15 : decode cX7_isJob 15 = .ok (.getfield 28, 3) := by decide +kernel
theorem dX7_isJob_18 : decode cX7_isJob 18 = .ok (.bipush 8, 2) := by decide +kernel
theorem dX7_isJob_20 : decode cX7_isJob 20 = .ok (.iload_n 1, 1) := by decide +kernel
theorem dX7_isJob_21 : decode cX7_isJob 21 = .ok (.iadd, 1) := by decide +kernel
theorem dX7_isJob_22 : decode cX7_isJob 22 = .ok (.iaload, 1) := by decide +kernel
theorem dX7_isJob_23 : decode cX7_isJob 23 = .ok (.iload_n 1, 1) := by decide +kernel
theorem dX7_isJob_24 : decode cX7_isJob 24 = .ok (.if_icmp .ne 7, 3) := by decide +kernel
theorem dX7_isJob_27 : decode cX7_isJob 27 = .ok (.iconst 1, 1) := by decide +kernel
theorem dX7_isJob_28 : decode cX7_isJob 28 = .ok (.goto 4, 3) := by decide +kernel
theorem dX7_isJob_31 : decode cX7_isJob 31 = .ok (.iconst 0, 1) := by decide +kernel
theorem dX7_isJob_32 : decode cX7_isJob 32 = .ok (.ireturn, 1) := by decide +kernel
set_option maxRecDepth 20000 in
theorem ggX7_lifted_X7_in : GoodIn wsX7_lifted wsX7_in := goodIn_r _ [8] (by decide +kernel) (by decide +kernel)
set_option maxRecDepth 20000 in
theorem gX7_lifted_X7_in : GoodIn wsX7_lifted (va_wsS RX7 60 yX7_in wsX7_in) := goodIn_app (goodIn_of _ (by decide +kernel)) ggX7_lifted_X7_in
set_option maxRecDepth 20000 in
theorem ggX7_lifted_X7_isThing : GoodIn wsX7_lifted wsX7_isThing := goodIn_r _ [12, 4, 5, 6, 7, 8, 33, 34, 35, 36, 37, 38, 39, 40, 41, 42, 43, 44, 45, 46, 47, 48, 49, 50, 51, 52, 53, 54, 55, 56, 57, 58, 59, 60] (by decide +kernel) (by decide +kernel)
set_option maxRecDepth 20000 in
theorem gX7_lifted_X7_isThing : GoodIn wsX7_lifted (wsV RX7 143 RX7 yX7_isThing wsX7_isThing) := goodIn_app (goodIn_of _ (by decide +kernel)) ggX7_lifted_X7_isThing
set_option maxRecDepth 20000 in
theorem ggX7_lifted_X7_isRoom : GoodIn wsX7_lifted wsX7_isRoom := goodIn_r _ [16, 17, 5, 6, 7, 8, 33, 34, 35, 36, 37, 38, 39, 40, 41, 42, 43, 44, 45, 46, 47, 48, 49, 50, 51, 52, 53, 54, 55, 56, 57, 58, 59, 60] (by decide +kernel) (by decide +kernel)
set_option maxRecDepth 20000 in
theorem gX7_lifted_X7_isRoom : GoodIn wsX7_lifted (wsV RX7 153 RX7 yX7_isRoom wsX7_isRoom) := goodIn_app (goodIn_of _ (by decide +kernel)) ggX7_lifted_X7_isRoom
set_option maxRecDepth 20000 in
theorem ggX7_lifted_X7_ones : GoodIn wsX7_lifted wsX7_ones := goodIn_r _ [20] (by decide +kernel) (by decide +kernel)
set_option maxRecDepth 20000 in
theorem gX7_lifted_X7_ones : GoodIn wsX7_lifted (va_wsS RX7 156 yX7_ones wsX7_ones) := goodIn_app (goodIn_of _ (by decide +kernel)) ggX7_lifted_X7_ones
set_option maxRecDepth 20000 in
theorem ggX7_lifted_X7_handsOf : GoodIn wsX7_lifted wsX7_handsOf := goodIn_r _ [24, 4, 25, 26, 27, 28, 7, 29, 3, 30, 31, 32, 33, 34, 35, 36, 37, 38, 39, 40, 41, 42, 43, 44, 45, 46, 47, 48, 49, 50, 51, 52, 53, 54, 55, 56, 57, 58, 59, 60] (by decide +kernel) (by decide +kernel)
set_option maxRecDepth 20000 in
theorem gX7_lifted_X7_handsOf : GoodIn wsX7_lifted (wsV RX7 159 RX7 yX7_handsOf wsX7_handsOf) := goodIn_app (goodIn_of _ (by decide +kernel)) ggX7_lifted_X7_handsOf
set_option maxRecDepth 20000 in
theorem ggX7_lifted_X7_areOne : GoodIn wsX7_lifted wsX7_areOne := goodIn_r _ [29, 3, 33, 34, 35, 36, 37, 38, 39, 40, 41, 42, 43, 44, 45, 46, 47, 48, 49, 50, 51, 52, 53, 54, 55, 56, 57, 58, 59, 60] (by decide +kernel) (by decide +kernel)
set_option maxRecDepth 20000 in
theorem gX7_lifted_X7_areOne : GoodIn wsX7_lifted (wsV RX7 146 RX7 yX7_areOne wsX7_areOne) := goodIn_app (goodIn_of _ (by decide +kernel)) ggX7_lifted_X7_areOne
theorem dX7_lifted_0 : decode cX7_lifted 0 = .ok (.aload_n 0, 1) := by decide +kernel
theorem dX7_lifted_1 : decode cX7_lifted 1 = .ok (.iconst 0, 1) := by decide +kernel
theorem dX7_lifted_2 : decode cX7_lifted 2 = .ok (.putfield 57, 3) := by decide +kernel
theorem dX7_lifted_5 : decode cX7_lifted 5 = .ok (.iload_n 1, 1) := by decide +kernel
theorem dX7_lifted_6 : decode cX7_lifted 6 = .ok (.iconst 0, 1) := by decide +kernel
theorem dX7_lifted_7 : decode cX7_lifted 7 = .ok (.iconst 1, 1) := by decide +kernel
theorem dX7_lifted_8 : decode cX7_lifted 8 = .ok (.aload_n 0, 1) := by decide +kernel
theorem dX7_lifted_9 : decode cX7_lifted 9 = .ok (.getfield 130, 3) := by decide +kernel
theorem dX7_lifted_12 : decode cX7_lifted 12 = .ok (.ishl, 1) := by decide +kernel
theorem dX7_lifted_13 : decode cX7_lifted 13 = .ok (.iconst 1, 1) := by decide +kernel
theorem dX7_lifted_14 : decode cX7_lifted 14 = .ok (.isub, 1) := by decide +kernel
theorem dX7_lifted_15 : decode cX7_lifted 15 = .ok (.invokestatic 60, 3) := by decide +kernel
theorem dX7_lifted_18 : decode cX7_lifted 18 = .ok (.ifCond .eq 19, 3) := by decide +kernel
theorem dX7_lifted_21 : decode cX7_lifted 21 = .ok (.aload_n 0, 1) := by decide +kernel
theorem dX7_lifted_22 : decode cX7_lifted 22 = .ok (.iload_n 2, 1) := by decide +kernel
theorem dX7_lifted_23 : decode cX7_lifted 23 = .ok (.invokevirtual 143, 3) := by decide +kernel
theorem dX7_lifted_26 : decode cX7_lifted 26 = .ok (.ifCond .eq 11, 3) := by decide +kernel
theorem dX7_lifted_29 : decode cX7_lifted 29 = .ok (.aload_n 0, 1) := by decide +kernel
theorem dX7_lifted_30 : decode cX7_lifted 30 = .ok (.iload_n 3, 1) := by decide +kernel
theorem dX7_lifted_31 : decode cX7_lifted 31 = .ok (.invokevirtual 153, 3) := by decide +kernel
theorem dX7_lifted_34 : decode cX7_lifted 34 = .ok (.ifCond .ne 5, 3) := by decide +kernel
theorem dX7_lifted_37 : decode cX7_lifted 37 = .ok (.iconst (-1), 1) := by decide +kernel
theorem dX7_lifted_38 : decode cX7_lifted 38 = .ok (.ireturn, 1) := by decide +kernel
theorem dX7_lifted_39 : decode cX7_lifted 39 = .ok (.aload_n 0, 1) := by decide +kernel
theorem dX7_lifted_40 : decode cX7_lifted 40 = .ok (.getfield 28, 3) := by decide +kernel
theorem dX7_lifted_43 : decode cX7_lifted 43 = .ok (.iload_n 2, 1) := by decide +kernel
theorem dX7_lifted_44 : decode cX7_lifted 44 = .ok (.iaload, 1) := by decide +kernel
theorem dX7_lifted_45 : decode cX7_lifted 45 = .ok (.iload_n 3, 1) := by decide +kernel
theorem dX7_lifted_46 : decode cX7_lifted 46 = .ok (.if_icmp .eq 19, 3) := by decide +kernel
theorem dX7_lifted_49 : decode cX7_lifted 49 = .ok (.iload_n 1, 1) := by decide +kernel
theorem dX7_lifted_50 : decode cX7_lifted 50 = .ok (.invokestatic 156, 3) := by decide +kernel
theorem dX7_lifted_53 : decode cX7_lifted 53 = .ok (.aload_n 0, 1) := by decide +kernel
theorem dX7_lifted_54 : decode cX7_lifted 54 = .ok (.iload_n 2, 1) := by decide +kernel
theorem dX7_lifted_55 : decode cX7_lifted 55 = .ok (.invokevirtual 159, 3) := by decide +kernel
theorem dX7_lifted_58 : decode cX7_lifted 58 = .ok (.if_icmp .ne 7, 3) := by decide +kernel
theorem dX7_lifted_61 : decode cX7_lifted 61 = .ok (.iconst 1, 1) := by decide +kernel
theorem dX7_lifted_62 : decode cX7_lifted 62 = .ok (.goto 4, 3) := by decide +kernel
theorem dX7_lifted_65 : decode cX7_lifted 65 = .ok (.iconst 0, 1) := by decide +kernel
theorem dX7_lifted_66 : decode cX7_lifted 66 = .ok (.istore 4, 2) := by decide +kernel
theorem dX7_lifted_68 : decode cX7_lifted 68 = .ok (.iconst 0, 1) := by decide +kernel
theorem dX7_lifted_69 : decode cX7_lifted 69 = .ok (.istore 5, 2) := by decide +kernel
theorem dX7_lifted_71 : decode cX7_lifted 71 = .ok (.iload 5, 2) := by decide +kernel
theorem dX7_lifted_73 : decode cX7_lifted 73 = .ok (.aload_n 0, 1) := by decide +kernel
theorem dX7_lifted_74 : decode cX7_lifted 74 = .ok (.getfield 130, 3) := by decide +kernel
theorem dX7_lifted_77 : decode cX7_lifted 77 = .ok (.if_icmp .ge 43, 3) := by decide +kernel
theorem dX7_lifted_80 : decode cX7_lifted 80 = .ok (.iload 4, 2) := by decide +kernel
theorem dX7_lifted_82 : decode cX7_lifted 82 = .ok (.ifCond .eq 29, 3) := by decide +kernel
theorem dX7_lifted_85 : decode cX7_lifted 85 = .ok (.iload_n 1, 1) := by decide +kernel
theorem dX7_lifted_86 : decode cX7_lifted 86 = .ok (.iload 5, 2) := by decide +kernel
theorem dX7_lifted_88 : decode cX7_lifted 88 = .ok (.ishr, 1) := by decide +kernel
theorem dX7_lifted_89 : decode cX7_lifted 89 = .ok (.iconst 1, 1) := by decide +kernel
theorem dX7_lifted_90 : decode cX7_lifted 90 = .ok (.iand, 1) := by decide +kernel
theorem dX7_lifted_91 : decode cX7_lifted 91 = .ok (.ifCond .eq 16, 3) := by decide +kernel
theorem dX7_lifted_94 : decode cX7_lifted 94 = .ok (.aload_n 0, 1) := by decide +kernel
theorem dX7_lifted_95 : decode cX7_lifted 95 = .ok (.getfield 28, 3) := by decide +kernel
theorem dX7_lifted_98 : decode cX7_lifted 98 = .ok (.bipush 16, 2) := by decide +kernel
theorem dX7_lifted_100 : decode cX7_lifted 100 = .ok (.iload 5, 2) := by decide +kernel
theorem dX7_lifted_102 : decode cX7_lifted 102 = .ok (.iadd, 1) := by decide +kernel
theorem dX7_lifted_103 : decode cX7_lifted 103 = .ok (.iaload, 1) := by decide +kernel
theorem dX7_lifted_104 : decode cX7_lifted 104 = .ok (.ifCond .le 7, 3) := by decide +kernel
theorem dX7_lifted_107 : decode cX7_lifted 107 = .ok (.iconst 1, 1) := by decide +kernel
theorem dX7_lifted_108 : decode cX7_lifted 108 = .ok (.goto 4, 3) := by decide +kernel
theorem dX7_lifted_111 : decode cX7_lifted 111 = .ok (.iconst 0, 1) := by decide +kernel
theorem dX7_lifted_112 : decode cX7_lifted 112 = .ok (.istore 4, 2) := by decide +kernel
theorem dX7_lifted_114 : decode cX7_lifted 114 = .ok (.iinc 5 1, 3) := by decide +kernel
theorem dX7_lifted_117 : decode cX7_lifted 117 = .ok (.goto (-46), 3) := by decide +kernel
theorem dX7_lifted_120 : decode cX7_lifted 120 = .ok (.iload 4, 2) := by decide +kernel
theorem dX7_lifted_122 : decode cX7_lifted 122 = .ok (.ifCond .ne 6, 3) := by decide +kernel
theorem dX7_lifted_125 : decode cX7_lifted 125 = .ok (.bipush (-2), 2) := by decide +kernel
theorem dX7_lifted_127 : decode cX7_lifted 127 = .ok (.ireturn, 1) := by decide +kernel
theorem dX7_lifted_128 : decode cX7_lifted 128 = .ok (.iconst 0, 1) := by decide +kernel
theorem dX7_lifted_129 : decode cX7_lifted 129 = .ok (.istore 5, 2) := by decide +kernel
theorem dX7_lifted_131 : decode cX7_lifted 131 = .ok (.iload 5, 2) := by decide +kernel
theorem dX7_lifted_133 : decode cX7_lifted 133 = .ok (.aload_n 0, 1) := by decide +kernel
theorem dX7_lifted_134 : decode cX7_lifted 134 = .ok (.getfield 130, 3) := by decide +kernel
theorem dX7_lifted_137 : decode cX7_lifted 137 = .ok (.if_icmp .ge 28, 3) := by decide +kernel
theorem dX7_lifted_140 : decode cX7_lifted 140 = .ok (.aload_n 0, 1) := by decide +kernel
theorem dX7_lifted_141 : decode cX7_lifted 141 = .ok (.getfield 28, 3) := by decide +kernel
theorem dX7_lifted_144 : decode cX7_lifted 144 = .ok (.bipush 16, 2) := by decide +kernel
theorem dX7_lifted_146 : decode cX7_lifted 146 = .ok (.iload 5, 2) := by decide +kernel
theorem dX7_lifted_148 : decode cX7_lifted 148 = .ok (.iadd, 1) := by decide +kernel
theorem dX7_lifted_149 : decode cX7_lifted 149 = .ok (.dup2, 1) := by decide +kernel
theorem dX7_lifted_150 : decode cX7_lifted 150 = .ok (.iaload, 1) := by decide +kernel
theorem dX7_lifted_151 : decode cX7_lifted 151 = .ok (.iload_n 1, 1) := by decide +kernel
theorem dX7_lifted_152 : decode cX7_lifted 152 = .ok (.iload 5, 2) := by decide +kernel
theorem dX7_lifted_154 : decode cX7_lifted 154 = .ok (.ishr, 1) := by decide +kernel
theorem dX7_lifted_155 : decode cX7_lifted 155 = .ok (.iconst 1, 1) := by decide +kernel
theorem dX7_lifted_156 : decode cX7_lifted 156 = .ok (.iand, 1) := by decide +kernel
theorem dX7_lifted_157 : decode cX7_lifted 157 = .ok (.isub, 1) := by decide +kernel
theorem dX7_lifted_158 : decode cX7_lifted 158 = .ok (.iastore, 1) := by decide +kernel
theorem dX7_lifted_159 : decode cX7_lifted 159 = .ok (.iinc 5 1, 3) := by decide +kernel
theorem dX7_lifted_162 : decode cX7_lifted 162 = .ok (.goto (-31), 3) := by decide +kernel
theorem dX7_lifted_165 : decode cX7_lifted 165 = .ok (.iconst 0, 1) := by decide +kernel
theorem dX7_lifted_166 : decode cX7_lifted 166 = .ok (.istore 5, 2) := by decide +kernel
theorem dX7_lifted_168 : decode cX7_lifted 168 = .ok (.iconst 0, 1) := by decide +kernel
theorem dX7_lifted_169 : decode cX7_lifted 169 = .ok (.istore 6, 2) := by decide +kernel
theorem dX7_lifted_171 : decode cX7_lifted 171 = .ok (.iload 6, 2) := by decide +kernel
theorem dX7_lifted_173 : decode cX7_lifted 173 = .ok (.aload_n 0, 1) := by decide +kernel
theorem dX7_lifted_174 : decode cX7_lifted 174 = .ok (.getfield 133, 3) := by decide +kernel
theorem dX7_lifted_177 : decode cX7_lifted 177 = .ok (.if_icmp .ge 30, 3) := by decide +kernel
theorem dX7_lifted_180 : decode cX7_lifted 180 = .ok (.aload_n 0, 1) := by decide +kernel
theorem dX7_lifted_181 : decode cX7_lifted 181 = .ok (.iload_n 2, 1) := by decide +kernel
theorem dX7_lifted_182 : decode cX7_lifted 182 = .ok (.iload 6, 2) := by decide +kernel
theorem dX7_lifted_184 : decode cX7_lifted 184 = .ok (.invokevirtual 146, 3) := by decide +kernel
theorem dX7_lifted_187 : decode cX7_lifted 187 = .ok (.ifCond .eq 14, 3) := by decide +kernel
theorem dX7_lifted_190 : decode cX7_lifted 190 = .ok (.aload_n 0, 1) := by decide +kernel
theorem dX7_lifted_191 : decode cX7_lifted 191 = .ok (.getfield 28, 3) := by decide +kernel
theorem dX7_lifted_194 : decode cX7_lifted 194 = .ok (.iload 6, 2) := by decide +kernel
theorem dX7_lifted_196 : decode cX7_lifted 196 = .ok (.iload_n 3, 1) := by decide +kernel
theorem dX7_lifted_197 : decode cX7_lifted 197 = .ok (.iastore, 1) := by decide +kernel
theorem dX7_lifted_198 : decode cX7_lifted 198 = .ok (.iinc 5 1, 3) := by decide +kernel
theorem dX7_lifted_201 : decode cX7_lifted 201 = .ok (.iinc 6 1, 3) := by decide +kernel
theorem dX7_lifted_204 : decode cX7_lifted 204 = .ok (.goto (-33), 3) := by decide +kernel
theorem dX7_lifted_207 : decode cX7_lifted 207 = .ok (.iload 5, 2) := by decide +kernel
theorem dX7_lifted_209 : decode cX7_lifted 209 = .ok (.ireturn, 1) := by decide +kernel
set_option maxRecDepth 20000 in
theorem ggX7_tied_X7_isPerson : GoodIn wsX7_tied wsX7_isPerson := goodIn_r _ [8, 9, 10, 11, 7, 12, 16, 17, 18, 19, 20, 21, 22, 23, 24, 25, 26, 27, 28, 29, 30, 31, 32, 33, 34, 35, 36, 37, 38, 39, 40, 41, 42, 43] (by decide +kernel) (by decide +kernel)
set_option maxRecDepth 20000 in
theorem gX7_tied_X7_isPerson : GoodIn wsX7_tied (wsV RX7 139 RX7 yX7_isPerson wsX7_isPerson) := goodIn_app (goodIn_of _ (by decide +kernel)) ggX7_tied_X7_isPerson
set_option maxRecDepth 20000 in
theorem ggX7_tied_X7_in : GoodIn wsX7_tied wsX7_in := goodIn_r _ [12] (by decide +kernel) (by decide +kernel)
set_option maxRecDepth 20000 in
theorem gX7_tied_X7_in : GoodIn wsX7_tied (va_wsS RX7 60 yX7_in wsX7_in) := goodIn_app (goodIn_of _ (by decide +kernel)) ggX7_tied_X7_in
set_option maxRecDepth 20000 in
theorem ggX7_tied_X7_ones : GoodIn wsX7_tied wsX7_ones := goodIn_r _ [15] (by decide +kernel) (by decide +kernel)
set_option maxRecDepth 20000 in
theorem gX7_tied_X7_ones : GoodIn wsX7_tied (va_wsS RX7 156 yX7_ones wsX7_ones) := goodIn_app (goodIn_of _ (by decide +kernel)) ggX7_tied_X7_ones
theorem dX7_tied_0 : decode cX7_tied 0 = .ok (.aload_n 0, 1) := by decide +kernel
theorem dX7_tied_1 : decode cX7_tied 1 = .ok (.iconst 0, 1) := by decide +kernel
theorem dX7_tied_2 : decode cX7_tied 2 = .ok (.putfield 57, 3) := by decide +kernel
theorem dX7_tied_5 : decode cX7_tied 5 = .ok (.aload_n 0, 1) := by decide +kernel
theorem dX7_tied_6 : decode cX7_tied 6 = .ok (.iload_n 1, 1) := by decide +kernel
theorem dX7_tied_7 : decode cX7_tied 7 = .ok (.invokevirtual 139, 3) := by decide +kernel
theorem dX7_tied_10 : decode cX7_tied 10 = .ok (.ifCond .eq 27, 3) := by decide +kernel
theorem dX7_tied_13 : decode cX7_tied 13 = .ok (.iload_n 2, 1) := by decide +kernel
theorem dX7_tied_14 : decode cX7_tied 14 = .ok (.iconst 0, 1) := by decide +kernel
theorem dX7_tied_15 : decode cX7_tied 15 = .ok (.iconst 1, 1) := by decide +kernel
theorem dX7_tied_16 : decode cX7_tied 16 = .ok (.aload_n 0, 1) := by decide +kernel
theorem dX7_tied_17 : decode cX7_tied 17 = .ok (.getfield 133, 3) := by decide +kernel
theorem dX7_tied_20 : decode cX7_tied 20 = .ok (.ishl, 1) := by decide +kernel
theorem dX7_tied_21 : decode cX7_tied 21 = .ok (.iconst 1, 1) := by decide +kernel
theorem dX7_tied_22 : decode cX7_tied 22 = .ok (.isub, 1) := by decide +kernel
theorem dX7_tied_23 : decode cX7_tied 23 = .ok (.invokestatic 60, 3) := by decide +kernel
theorem dX7_tied_26 : decode cX7_tied 26 = .ok (.ifCond .eq 11, 3) := by decide +kernel
theorem dX7_tied_29 : decode cX7_tied 29 = .ok (.iload_n 2, 1) := by decide +kernel
theorem dX7_tied_30 : decode cX7_tied 30 = .ok (.invokestatic 156, 3) := by decide +kernel
theorem dX7_tied_33 : decode cX7_tied 33 = .ok (.iconst 2, 1) := by decide +kernel
theorem dX7_tied_34 : decode cX7_tied 34 = .ok (.if_icmp .ge 5, 3) := by decide +kernel
theorem dX7_tied_37 : decode cX7_tied 37 = .ok (.iconst (-1), 1) := by decide +kernel
theorem dX7_tied_38 : decode cX7_tied 38 = .ok (.ireturn, 1) := by decide +kernel
theorem dX7_tied_39 : decode cX7_tied 39 = .ok (.bipush (-9), 2) := by decide +kernel
theorem dX7_tied_41 : decode cX7_tied 41 = .ok (.istore_n 3, 1) := by decide +kernel
theorem dX7_tied_42 : decode cX7_tied 42 = .ok (.aload_n 0, 1) := by decide +kernel
theorem dX7_tied_43 : decode cX7_tied 43 = .ok (.getfield 28, 3) := by decide +kernel
theorem dX7_tied_46 : decode cX7_tied 46 = .ok (.bipush 16, 2) := by decide +kernel
theorem dX7_tied_48 : decode cX7_tied 48 = .ok (.iload_n 1, 1) := by decide +kernel
theorem dX7_tied_49 : decode cX7_tied 49 = .ok (.iadd, 1) := by decide +kernel
theorem dX7_tied_50 : decode cX7_tied 50 = .ok (.iaload, 1) := by decide +kernel
theorem dX7_tied_51 : decode cX7_tied 51 = .ok (.ifCond .le 7, 3) := by decide +kernel
theorem dX7_tied_54 : decode cX7_tied 54 = .ok (.iconst 1, 1) := by decide +kernel
theorem dX7_tied_55 : decode cX7_tied 55 = .ok (.goto 4, 3) := by decide +kernel
theorem dX7_tied_58 : decode cX7_tied 58 = .ok (.iconst 0, 1) := by decide +kernel
theorem dX7_tied_59 : decode cX7_tied 59 = .ok (.istore 4, 2) := by decide +kernel
theorem dX7_tied_61 : decode cX7_tied 61 = .ok (.iconst 0, 1) := by decide +kernel
theorem dX7_tied_62 : decode cX7_tied 62 = .ok (.istore 5, 2) := by decide +kernel
theorem dX7_tied_64 : decode cX7_tied 64 = .ok (.iload 5, 2) := by decide +kernel
theorem dX7_tied_66 : decode cX7_tied 66 = .ok (.aload_n 0, 1) := by decide +kernel
theorem dX7_tied_67 : decode cX7_tied 67 = .ok (.getfield 133, 3) := by decide +kernel
theorem dX7_tied_70 : decode cX7_tied 70 = .ok (.if_icmp .ge 75, 3) := by decide +kernel
theorem dX7_tied_73 : decode cX7_tied 73 = .ok (.iload_n 2, 1) := by decide +kernel
theorem dX7_tied_74 : decode cX7_tied 74 = .ok (.iload 5, 2) := by decide +kernel
theorem dX7_tied_76 : decode cX7_tied 76 = .ok (.ishr, 1) := by decide +kernel
theorem dX7_tied_77 : decode cX7_tied 77 = .ok (.iconst 1, 1) := by decide +kernel
theorem dX7_tied_78 : decode cX7_tied 78 = .ok (.iand, 1) := by decide +kernel
theorem dX7_tied_79 : decode cX7_tied 79 = .ok (.iconst 1, 1) := by decide +kernel
theorem dX7_tied_80 : decode cX7_tied 80 = .ok (.if_icmp .ne 59, 3) := by decide +kernel
theorem dX7_tied_83 : decode cX7_tied 83 = .ok (.iload_n 3, 1) := by decide +kernel
theorem dX7_tied_84 : decode cX7_tied 84 = .ok (.bipush (-9), 2) := by decide +kernel
theorem dX7_tied_86 : decode cX7_tied 86 = .ok (.if_icmp .ne 8, 3) := by decide +kernel
theorem dX7_tied_89 : decode cX7_tied 89 = .ok (.iload 5, 2) := by decide +kernel
theorem dX7_tied_91 : decode cX7_tied 91 = .ok (.goto 4, 3) := by decide +kernel
theorem dX7_tied_94 : decode cX7_tied 94 = .ok (.iload_n 3, 1) := by decide +kernel
theorem dX7_tied_95 : decode cX7_tied 95 = .ok (.istore_n 3, 1) := by decide +kernel
theorem dX7_tied_96 : decode cX7_tied 96 = .ok (.iload 4, 2) := by decide +kernel
theorem dX7_tied_98 : decode cX7_tied 98 = .ok (.ifCond .eq 38, 3) := by decide +kernel
theorem dX7_tied_101 : decode cX7_tied 101 = .ok (.aload_n 0, 1) := by decide +kernel
theorem dX7_tied_102 : decode cX7_tied 102 = .ok (.getfield 28, 3) := by decide +kernel
theorem dX7_tied_105 : decode cX7_tied 105 = .ok (.bipush 8, 2) := by decide +kernel
theorem dX7_tied_107 : decode cX7_tied 107 = .ok (.iload 5, 2) := by decide +kernel
theorem dX7_tied_109 : decode cX7_tied 109 = .ok (.iadd, 1) := by decide +kernel
theorem dX7_tied_110 : decode cX7_tied 110 = .ok (.iaload, 1) := by decide +kernel
theorem dX7_tied_111 : decode cX7_tied 111 = .ok (.bipush (-9), 2) := by decide +kernel
theorem dX7_tied_113 : decode cX7_tied 113 = .ok (.if_icmp .ne 23, 3) := by decide +kernel
theorem dX7_tied_116 : decode cX7_tied 116 = .ok (.aload_n 0, 1) := by decide +kernel
theorem dX7_tied_117 : decode cX7_tied 117 = .ok (.getfield 28, 3) := by decide +kernel
theorem dX7_tied_120 : decode cX7_tied 120 = .ok (.iload 5, 2) := by decide +kernel
theorem dX7_tied_122 : decode cX7_tied 122 = .ok (.iaload, 1) := by decide +kernel
theorem dX7_tied_123 : decode cX7_tied 123 = .ok (.aload_n 0, 1) := by decide +kernel
theorem dX7_tied_124 : decode cX7_tied 124 = .ok (.getfield 28, 3) := by decide +kernel
theorem dX7_tied_127 : decode cX7_tied 127 = .ok (.iload_n 3, 1) := by decide +kernel
theorem dX7_tied_128 : decode cX7_tied 128 = .ok (.iaload, 1) := by decide +kernel
theorem dX7_tied_129 : decode cX7_tied 129 = .ok (.if_icmp .ne 7, 3) := by decide +kernel
theorem dX7_tied_132 : decode cX7_tied 132 = .ok (.iconst 1, 1) := by decide +kernel
theorem dX7_tied_133 : decode cX7_tied 133 = .ok (.goto 4, 3) := by decide +kernel
theorem dX7_tied_136 : decode cX7_tied 136 = .ok (.iconst 0, 1) := by decide +kernel
theorem dX7_tied_137 : decode cX7_tied 137 = .ok (.istore 4, 2) := by decide +kernel
theorem dX7_tied_139 : decode cX7_tied 139 = .ok (.iinc 5 1, 3) := by decide +kernel
theorem dX7_tied_142 : decode cX7_tied 142 = .ok (.goto (-78), 3) := by decide +kernel
theorem dX7_tied_145 : decode cX7_tied 145 = .ok (.iload 4, 2) := by decide +kernel
theorem dX7_tied_147 : decode cX7_tied 147 = .ok (.ifCond .ne 6, 3) := by decide +kernel
theorem dX7_tied_150 : decode cX7_tied 150 = .ok (.bipush (-2), 2) := by decide +kernel
theorem dX7_tied_152 : decode cX7_tied 152 = .ok (.ireturn, 1) := by decide +kernel
theorem dX7_tied_153 : decode cX7_tied 153 = .ok (.aload_n 0, 1) := by decide +kernel
theorem dX7_tied_154 : decode cX7_tied 154 = .ok (.getfield 28, 3) := by decide +kernel
theorem dX7_tied_157 : decode cX7_tied 157 = .ok (.bipush 16, 2) := by decide +kernel
theorem dX7_tied_159 : decode cX7_tied 159 = .ok (.iload_n 1, 1) := by decide +kernel
theorem dX7_tied_160 : decode cX7_tied 160 = .ok (.iadd, 1) := by decide +kernel
theorem dX7_tied_161 : decode cX7_tied 161 = .ok (.dup2, 1) := by decide +kernel
theorem dX7_tied_162 : decode cX7_tied 162 = .ok (.iaload, 1) := by decide +kernel
theorem dX7_tied_163 : decode cX7_tied 163 = .ok (.iconst 1, 1) := by decide +kernel
theorem dX7_tied_164 : decode cX7_tied 164 = .ok (.isub, 1) := by decide +kernel
theorem dX7_tied_165 : decode cX7_tied 165 = .ok (.iastore, 1) := by decide +kernel
theorem dX7_tied_166 : decode cX7_tied 166 = .ok (.iconst 0, 1) := by decide +kernel
theorem dX7_tied_167 : decode cX7_tied 167 = .ok (.istore 5, 2) := by decide +kernel
theorem dX7_tied_169 : decode cX7_tied 169 = .ok (.iload 5, 2) := by decide +kernel
theorem dX7_tied_171 : decode cX7_tied 171 = .ok (.aload_n 0, 1) := by decide +kernel
theorem dX7_tied_172 : decode cX7_tied 172 = .ok (.getfield 133, 3) := by decide +kernel
theorem dX7_tied_175 : decode cX7_tied 175 = .ok (.if_icmp .ge 43, 3) := by decide +kernel
theorem dX7_tied_178 : decode cX7_tied 178 = .ok (.aload_n 0, 1) := by decide +kernel
theorem dX7_tied_179 : decode cX7_tied 179 = .ok (.getfield 28, 3) := by decide +kernel
theorem dX7_tied_182 : decode cX7_tied 182 = .ok (.bipush 8, 2) := by decide +kernel
theorem dX7_tied_184 : decode cX7_tied 184 = .ok (.iload 5, 2) := by decide +kernel
theorem dX7_tied_186 : decode cX7_tied 186 = .ok (.iadd, 1) := by decide +kernel
theorem dX7_tied_187 : decode cX7_tied 187 = .ok (.iload_n 2, 1) := by decide +kernel
theorem dX7_tied_188 : decode cX7_tied 188 = .ok (.iload 5, 2) := by decide +kernel
theorem dX7_tied_190 : decode cX7_tied 190 = .ok (.ishr, 1) := by decide +kernel
theorem dX7_tied_191 : decode cX7_tied 191 = .ok (.iconst 1, 1) := by decide +kernel
theorem dX7_tied_192 : decode cX7_tied 192 = .ok (.iand, 1) := by decide +kernel
theorem dX7_tied_193 : decode cX7_tied 193 = .ok (.iconst 1, 1) := by decide +kernel
theorem dX7_tied_194 : decode cX7_tied 194 = .ok (.if_icmp .ne 7, 3) := by decide +kernel
theorem dX7_tied_197 : decode cX7_tied 197 = .ok (.iload_n 3, 1) := by decide +kernel
theorem dX7_tied_198 : decode cX7_tied 198 = .ok (.goto 13, 3) := by decide +kernel
theorem dX7_tied_201 : decode cX7_tied 201 = .ok (.aload_n 0, 1) := by decide +kernel
theorem dX7_tied_202 : decode cX7_tied 202 = .ok (.getfield 28, 3) := by decide +kernel
theorem dX7_tied_205 : decode cX7_tied 205 = .ok (.bipush 8, 2) := by decide +kernel
theorem dX7_tied_207 : decode cX7_tied 207 = .ok (.iload 5, 2) := by decide +kernel
theorem dX7_tied_209 : decode cX7_tied 209 = .ok (.iadd, 1) := by decide +kernel
theorem dX7_tied_210 : decode cX7_tied 210 = .ok (.iaload, 1) := by decide +kernel
theorem dX7_tied_211 : decode cX7_tied 211 = .ok (.iastore, 1) := by decide +kernel
theorem dX7_tied_212 : decode cX7_tied 212 = .ok (.iinc 5 1, 3) := by decide +kernel
theorem dX7_tied_215 : decode cX7_tied 215 = .ok (.goto (-46), 3) := by decide +kernel
theorem dX7_tied_218 : decode cX7_tied 218 = .ok (.iload_n 3, 1) := by decide +kernel
theorem dX7_tied_219 : decode cX7_tied 219 = .ok (.ireturn, 1) := by decide +kernel
set_option maxRecDepth 20000 in
theorem ggX7_untied_X7_isThing : GoodIn wsX7_untied wsX7_isThing := goodIn_r _ [8, 3, 9, 10, 7, 11, 12, 13, 14, 15, 16, 17, 18, 19, 20, 21, 22, 23, 24, 25, 26, 27, 28, 29, 30, 31, 32, 33, 34, 35, 36, 37, 38, 39] (by decide +kernel) (by decide +kernel)
set_option maxRecDepth 20000 in
theorem gX7_untied_X7_isThing : GoodIn wsX7_untied (wsV RX7 143 RX7 yX7_isThing wsX7_isThing) := goodIn_app (goodIn_of _ (by decide +kernel)) ggX7_untied_X7_isThing
theorem dX7_untied_0 : decode cX7_untied 0 = .ok (.aload_n 0, 1) := by decide +kernel
theorem dX7_untied_1 : decode cX7_untied 1 = .ok (.iconst 0, 1) := by decide +kernel
theorem dX7_untied_2 : decode cX7_untied 2 = .ok (.putfield 57, 3) := by decide +kernel
theorem dX7_untied_5 : decode cX7_untied 5 = .ok (.aload_n 0, 1) := by decide +kernel
theorem dX7_untied_6 : decode cX7_untied 6 = .ok (.iload_n 1, 1) := by decide +kernel
theorem dX7_untied_7 : decode cX7_untied 7 = .ok (.invokevirtual 143, 3) := by decide +kernel
theorem dX7_untied_10 : decode cX7_untied 10 = .ok (.ifCond .ne 5, 3) := by decide +kernel
theorem dX7_untied_13 : decode cX7_untied 13 = .ok (.iconst (-1), 1) := by decide +kernel
theorem dX7_untied_14 : decode cX7_untied 14 = .ok (.ireturn, 1) := by decide +kernel
theorem dX7_untied_15 : decode cX7_untied 15 = .ok (.aload_n 0, 1) := by decide +kernel
theorem dX7_untied_16 : decode cX7_untied 16 = .ok (.getfield 28, 3) := by decide +kernel
theorem dX7_untied_19 : decode cX7_untied 19 = .ok (.bipush 8, 2) := by decide +kernel
theorem dX7_untied_21 : decode cX7_untied 21 = .ok (.iload_n 1, 1) := by decide +kernel
theorem dX7_untied_22 : decode cX7_untied 22 = .ok (.iadd, 1) := by decide +kernel
theorem dX7_untied_23 : decode cX7_untied 23 = .ok (.iaload, 1) := by decide +kernel
theorem dX7_untied_24 : decode cX7_untied 24 = .ok (.istore_n 2, 1) := by decide +kernel
theorem dX7_untied_25 : decode cX7_untied 25 = .ok (.iload_n 2, 1) := by decide +kernel
theorem dX7_untied_26 : decode cX7_untied 26 = .ok (.bipush (-9), 2) := by decide +kernel
theorem dX7_untied_28 : decode cX7_untied 28 = .ok (.if_icmp .ne 6, 3) := by decide +kernel
theorem dX7_untied_31 : decode cX7_untied 31 = .ok (.bipush (-2), 2) := by decide +kernel
theorem dX7_untied_33 : decode cX7_untied 33 = .ok (.ireturn, 1) := by decide +kernel
theorem dX7_untied_34 : decode cX7_untied 34 = .ok (.iconst 0, 1) := by decide +kernel
theorem dX7_untied_35 : decode cX7_untied 35 = .ok (.istore_n 3, 1) := by decide +kernel
theorem dX7_untied_36 : decode cX7_untied 36 = .ok (.iconst 0, 1) := by decide +kernel
theorem dX7_untied_37 : decode cX7_untied 37 = .ok (.istore 4, 2) := by decide +kernel
theorem dX7_untied_39 : decode cX7_untied 39 = .ok (.iload 4, 2) := by decide +kernel
theorem dX7_untied_41 : decode cX7_untied 41 = .ok (.aload_n 0, 1) := by decide +kernel
theorem dX7_untied_42 : decode cX7_untied 42 = .ok (.getfield 133, 3) := by decide +kernel
theorem dX7_untied_45 : decode cX7_untied 45 = .ok (.if_icmp .ge 38, 3) := by decide +kernel
theorem dX7_untied_48 : decode cX7_untied 48 = .ok (.aload_n 0, 1) := by decide +kernel
theorem dX7_untied_49 : decode cX7_untied 49 = .ok (.getfield 28, 3) := by decide +kernel
theorem dX7_untied_52 : decode cX7_untied 52 = .ok (.bipush 8, 2) := by decide +kernel
theorem dX7_untied_54 : decode cX7_untied 54 = .ok (.iload 4, 2) := by decide +kernel
theorem dX7_untied_56 : decode cX7_untied 56 = .ok (.iadd, 1) := by decide +kernel
theorem dX7_untied_57 : decode cX7_untied 57 = .ok (.iaload, 1) := by decide +kernel
theorem dX7_untied_58 : decode cX7_untied 58 = .ok (.iload_n 2, 1) := by decide +kernel
theorem dX7_untied_59 : decode cX7_untied 59 = .ok (.if_icmp .ne 18, 3) := by decide +kernel
theorem dX7_untied_62 : decode cX7_untied 62 = .ok (.aload_n 0, 1) := by decide +kernel
theorem dX7_untied_63 : decode cX7_untied 63 = .ok (.getfield 28, 3) := by decide +kernel
theorem dX7_untied_66 : decode cX7_untied 66 = .ok (.bipush 8, 2) := by decide +kernel
theorem dX7_untied_68 : decode cX7_untied 68 = .ok (.iload 4, 2) := by decide +kernel
theorem dX7_untied_70 : decode cX7_untied 70 = .ok (.iadd, 1) := by decide +kernel
theorem dX7_untied_71 : decode cX7_untied 71 = .ok (.bipush (-9), 2) := by decide +kernel
theorem dX7_untied_73 : decode cX7_untied 73 = .ok (.iastore, 1) := by decide +kernel
theorem dX7_untied_74 : decode cX7_untied 74 = .ok (.iinc 3 1, 3) := by decide +kernel
theorem dX7_untied_77 : decode cX7_untied 77 = .ok (.iinc 4 1, 3) := by decide +kernel
theorem dX7_untied_80 : decode cX7_untied 80 = .ok (.goto (-41), 3) := by decide +kernel
theorem dX7_untied_83 : decode cX7_untied 83 = .ok (.iload_n 3, 1) := by decide +kernel
theorem dX7_untied_84 : decode cX7_untied 84 = .ok (.ireturn, 1) := by decide +kernel
set_option maxRecDepth 20000 in
theorem ggX7_dropped_X7_isPerson : GoodIn wsX7_dropped wsX7_isPerson := goodIn_r _ [7, 8, 9, 10, 6, 11, 12, 13, 14, 15, 16, 17, 18, 19, 20, 21, 22, 23, 24, 25, 26, 27, 28, 29, 30, 31, 32, 33, 34, 35, 36, 37, 38, 39] (by decide +kernel) (by decide +kernel)
set_option maxRecDepth 20000 in
theorem gX7_dropped_X7_isPerson : GoodIn wsX7_dropped (wsV RX7 139 RX7 yX7_isPerson wsX7_isPerson) := goodIn_app (goodIn_of _ (by decide +kernel)) ggX7_dropped_X7_isPerson
theorem dX7_dropped_0 : decode cX7_dropped 0 = .ok (.aload_n 0, 1) := by decide +kernel
theorem dX7_dropped_1 : decode cX7_dropped 1 = .ok (.iconst 0, 1) := by decide +kernel
theorem dX7_dropped_2 : decode cX7_dropped 2 = .ok (.putfield 57, 3) := by decide +kernel
theorem dX7_dropped_5 : decode cX7_dropped 5 = .ok (.aload_n 0, 1) := by decide +kernel
theorem dX7_dropped_6 : decode cX7_dropped 6 = .ok (.iload_n 1, 1) := by decide +kernel
theorem dX7_dropped_7 : decode cX7_dropped 7 = .ok (.invokevirtual 139, 3) := by decide +kernel
theorem dX7_dropped_10 : decode cX7_dropped 10 = .ok (.ifCond .ne 5, 3) := by decide +kernel
theorem dX7_dropped_13 : decode cX7_dropped 13 = .ok (.iconst (-1), 1) := by decide +kernel
theorem dX7_dropped_14 : decode cX7_dropped 14 = .ok (.ireturn, 1) := by decide +kernel
theorem dX7_dropped_15 : decode cX7_dropped 15 = .ok (.aload_n 0, 1) := by decide +kernel
theorem dX7_dropped_16 : decode cX7_dropped 16 = .ok (.getfield 28, 3) := by decide +kernel
theorem dX7_dropped_19 : decode cX7_dropped 19 = .ok (.bipush 16, 2) := by decide +kernel
theorem dX7_dropped_21 : decode cX7_dropped 21 = .ok (.iload_n 1, 1) := by decide +kernel
theorem dX7_dropped_22 : decode cX7_dropped 22 = .ok (.iadd, 1) := by decide +kernel
theorem dX7_dropped_23 : decode cX7_dropped 23 = .ok (.iaload, 1) := by decide +kernel
theorem dX7_dropped_24 : decode cX7_dropped 24 = .ok (.ifCond .ne 6, 3) := by decide +kernel
theorem dX7_dropped_27 : decode cX7_dropped 27 = .ok (.bipush (-2), 2) := by decide +kernel
theorem dX7_dropped_29 : decode cX7_dropped 29 = .ok (.ireturn, 1) := by decide +kernel
theorem dX7_dropped_30 : decode cX7_dropped 30 = .ok (.aload_n 0, 1) := by decide +kernel
theorem dX7_dropped_31 : decode cX7_dropped 31 = .ok (.getfield 28, 3) := by decide +kernel
theorem dX7_dropped_34 : decode cX7_dropped 34 = .ok (.bipush 16, 2) := by decide +kernel
theorem dX7_dropped_36 : decode cX7_dropped 36 = .ok (.iload_n 1, 1) := by decide +kernel
theorem dX7_dropped_37 : decode cX7_dropped 37 = .ok (.iadd, 1) := by decide +kernel
theorem dX7_dropped_38 : decode cX7_dropped 38 = .ok (.dup2, 1) := by decide +kernel
theorem dX7_dropped_39 : decode cX7_dropped 39 = .ok (.iaload, 1) := by decide +kernel
theorem dX7_dropped_40 : decode cX7_dropped 40 = .ok (.iconst 1, 1) := by decide +kernel
theorem dX7_dropped_41 : decode cX7_dropped 41 = .ok (.isub, 1) := by decide +kernel
theorem dX7_dropped_42 : decode cX7_dropped 42 = .ok (.iastore, 1) := by decide +kernel
theorem dX7_dropped_43 : decode cX7_dropped 43 = .ok (.aload_n 0, 1) := by decide +kernel
theorem dX7_dropped_44 : decode cX7_dropped 44 = .ok (.getfield 28, 3) := by decide +kernel
theorem dX7_dropped_47 : decode cX7_dropped 47 = .ok (.bipush 16, 2) := by decide +kernel
theorem dX7_dropped_49 : decode cX7_dropped 49 = .ok (.iload_n 1, 1) := by decide +kernel
theorem dX7_dropped_50 : decode cX7_dropped 50 = .ok (.iadd, 1) := by decide +kernel
theorem dX7_dropped_51 : decode cX7_dropped 51 = .ok (.iaload, 1) := by decide +kernel
theorem dX7_dropped_52 : decode cX7_dropped 52 = .ok (.ireturn, 1) := by decide +kernel
set_option maxRecDepth 20000 in
theorem ggX7_slept_X7_rested : GoodIn wsX7_slept wsX7_rested := goodIn_r _ [7, 2, 8, 9, 10, 11, 12, 13, 14, 15, 16, 17, 18, 19, 20, 21, 22, 23, 24, 25, 26, 27, 28, 29, 30, 31, 32, 33, 34, 35, 36, 37] (by decide +kernel) (by decide +kernel)
set_option maxRecDepth 20000 in
theorem gX7_slept_X7_rested : GoodIn wsX7_slept (wsV RX7 136 RX7 yX7_rested wsX7_rested) := goodIn_app (goodIn_of _ (by decide +kernel)) ggX7_slept_X7_rested
theorem dX7_slept_0 : decode cX7_slept 0 = .ok (.aload_n 0, 1) := by decide +kernel
theorem dX7_slept_1 : decode cX7_slept 1 = .ok (.iconst 0, 1) := by decide +kernel
theorem dX7_slept_2 : decode cX7_slept 2 = .ok (.putfield 57, 3) := by decide +kernel
theorem dX7_slept_5 : decode cX7_slept 5 = .ok (.aload_n 0, 1) := by decide +kernel
theorem dX7_slept_6 : decode cX7_slept 6 = .ok (.getfield 28, 3) := by decide +kernel
theorem dX7_slept_9 : decode cX7_slept 9 = .ok (.bipush 20, 2) := by decide +kernel
theorem dX7_slept_11 : decode cX7_slept 11 = .ok (.iaload, 1) := by decide +kernel
theorem dX7_slept_12 : decode cX7_slept 12 = .ok (.bipush 99, 2) := by decide +kernel
theorem dX7_slept_14 : decode cX7_slept 14 = .ok (.if_icmp .ne 6, 3) := by decide +kernel
theorem dX7_slept_17 : decode cX7_slept 17 = .ok (.bipush (-2), 2) := by decide +kernel
theorem dX7_slept_19 : decode cX7_slept 19 = .ok (.ireturn, 1) := by decide +kernel
theorem dX7_slept_20 : decode cX7_slept 20 = .ok (.aload_n 0, 1) := by decide +kernel
theorem dX7_slept_21 : decode cX7_slept 21 = .ok (.invokevirtual 136, 3) := by decide +kernel
theorem dX7_slept_24 : decode cX7_slept 24 = .ok (.aload_n 0, 1) := by decide +kernel
theorem dX7_slept_25 : decode cX7_slept 25 = .ok (.getfield 28, 3) := by decide +kernel
theorem dX7_slept_28 : decode cX7_slept 28 = .ok (.bipush 20, 2) := by decide +kernel
theorem dX7_slept_30 : decode cX7_slept 30 = .ok (.dup2, 1) := by decide +kernel
theorem dX7_slept_31 : decode cX7_slept 31 = .ok (.iaload, 1) := by decide +kernel
theorem dX7_slept_32 : decode cX7_slept 32 = .ok (.iconst 1, 1) := by decide +kernel
theorem dX7_slept_33 : decode cX7_slept 33 = .ok (.iadd, 1) := by decide +kernel
theorem dX7_slept_34 : decode cX7_slept 34 = .ok (.iastore, 1) := by decide +kernel
theorem dX7_slept_35 : decode cX7_slept 35 = .ok (.aload_n 0, 1) := by decide +kernel
theorem dX7_slept_36 : decode cX7_slept 36 = .ok (.getfield 28, 3) := by decide +kernel
theorem dX7_slept_39 : decode cX7_slept 39 = .ok (.bipush 20, 2) := by decide +kernel
theorem dX7_slept_41 : decode cX7_slept 41 = .ok (.iaload, 1) := by decide +kernel
theorem dX7_slept_42 : decode cX7_slept 42 = .ok (.ireturn, 1) := by decide +kernel
set_option maxRecDepth 20000 in
theorem ggX7_wantedAt_X7_areOne : GoodIn wsX7_wantedAt wsX7_areOne := goodIn_r _ [8, 9, 10, 11, 12, 13, 14, 15, 16, 17, 18, 19, 20, 21, 22, 23, 24, 25, 26, 27, 28, 29, 30, 31, 32, 33, 34, 35, 36, 37] (by decide +kernel) (by decide +kernel)
set_option maxRecDepth 20000 in
theorem gX7_wantedAt_X7_areOne : GoodIn wsX7_wantedAt (wsV RX7 146 RX7 yX7_areOne wsX7_areOne) := goodIn_app (goodIn_of _ (by decide +kernel)) ggX7_wantedAt_X7_areOne
theorem dX7_wantedAt_0 : decode cX7_wantedAt 0 = .ok (.bipush (-9), 2) := by decide +kernel
theorem dX7_wantedAt_2 : decode cX7_wantedAt 2 = .ok (.istore_n 2, 1) := by decide +kernel
theorem dX7_wantedAt_3 : decode cX7_wantedAt 3 = .ok (.iconst 0, 1) := by decide +kernel
theorem dX7_wantedAt_4 : decode cX7_wantedAt 4 = .ok (.istore_n 3, 1) := by decide +kernel
theorem dX7_wantedAt_5 : decode cX7_wantedAt 5 = .ok (.iload_n 3, 1) := by decide +kernel
theorem dX7_wantedAt_6 : decode cX7_wantedAt 6 = .ok (.aload_n 0, 1) := by decide +kernel
theorem dX7_wantedAt_7 : decode cX7_wantedAt 7 = .ok (.getfield 133, 3) := by decide +kernel
theorem dX7_wantedAt_10 : decode cX7_wantedAt 10 = .ok (.if_icmp .ge 57, 3) := by decide +kernel
theorem dX7_wantedAt_13 : decode cX7_wantedAt 13 = .ok (.aload_n 0, 1) := by decide +kernel
theorem dX7_wantedAt_14 : decode cX7_wantedAt 14 = .ok (.iload_n 1, 1) := by decide +kernel
theorem dX7_wantedAt_15 : decode cX7_wantedAt 15 = .ok (.iload_n 3, 1) := by decide +kernel
theorem dX7_wantedAt_16 : decode cX7_wantedAt 16 = .ok (.invokevirtual 146, 3) := by decide +kernel
theorem dX7_wantedAt_19 : decode cX7_wantedAt 19 = .ok (.ifCond .eq 42, 3) := by decide +kernel
theorem dX7_wantedAt_22 : decode cX7_wantedAt 22 = .ok (.aload_n 0, 1) := by decide +kernel
theorem dX7_wantedAt_23 : decode cX7_wantedAt 23 = .ok (.getfield 25, 3) := by decide +kernel
theorem dX7_wantedAt_26 : decode cX7_wantedAt 26 = .ok (.iload_n 3, 1) := by decide +kernel
theorem dX7_wantedAt_27 : decode cX7_wantedAt 27 = .ok (.iaload, 1) := by decide +kernel
theorem dX7_wantedAt_28 : decode cX7_wantedAt 28 = .ok (.bipush (-9), 2) := by decide +kernel
theorem dX7_wantedAt_30 : decode cX7_wantedAt 30 = .ok (.if_icmp .eq 31, 3) := by decide +kernel
theorem dX7_wantedAt_33 : decode cX7_wantedAt 33 = .ok (.iload_n 2, 1) := by decide +kernel
theorem dX7_wantedAt_34 : decode cX7_wantedAt 34 = .ok (.bipush (-9), 2) := by decide +kernel
theorem dX7_wantedAt_36 : decode cX7_wantedAt 36 = .ok (.if_icmp .eq 13, 3) := by decide +kernel
theorem dX7_wantedAt_39 : decode cX7_wantedAt 39 = .ok (.iload_n 2, 1) := by decide +kernel
theorem dX7_wantedAt_40 : decode cX7_wantedAt 40 = .ok (.aload_n 0, 1) := by decide +kernel
theorem dX7_wantedAt_41 : decode cX7_wantedAt 41 = .ok (.getfield 25, 3) := by decide +kernel
theorem dX7_wantedAt_44 : decode cX7_wantedAt 44 = .ok (.iload_n 3, 1) := by decide +kernel
theorem dX7_wantedAt_45 : decode cX7_wantedAt 45 = .ok (.iaload, 1) := by decide +kernel
theorem dX7_wantedAt_46 : decode cX7_wantedAt 46 = .ok (.if_icmp .ne 12, 3) := by decide +kernel
theorem dX7_wantedAt_49 : decode cX7_wantedAt 49 = .ok (.aload_n 0, 1) := by decide +kernel
theorem dX7_wantedAt_50 : decode cX7_wantedAt 50 = .ok (.getfield 25, 3) := by decide +kernel
theorem dX7_wantedAt_53 : decode cX7_wantedAt 53 = .ok (.iload_n 3, 1) := by decide +kernel
theorem dX7_wantedAt_54 : decode cX7_wantedAt 54 = .ok (.iaload, 1) := by decide +kernel
theorem dX7_wantedAt_55 : decode cX7_wantedAt 55 = .ok (.goto 5, 3) := by decide +kernel
theorem dX7_wantedAt_58 : decode cX7_wantedAt 58 = .ok (.ldc 162, 2) := by decide +kernel
theorem dX7_wantedAt_60 : decode cX7_wantedAt 60 = .ok (.istore_n 2, 1) := by decide +kernel
theorem dX7_wantedAt_61 : decode cX7_wantedAt 61 = .ok (.iinc 3 1, 3) := by decide +kernel
theorem dX7_wantedAt_64 : decode cX7_wantedAt 64 = .ok (.goto (-59), 3) := by decide +kernel
theorem dX7_wantedAt_67 : decode cX7_wantedAt 67 = .ok (.iload_n 2, 1) := by decide +kernel
theorem dX7_wantedAt_68 : decode cX7_wantedAt 68 = .ok (.ireturn, 1) := by decide +kernel
set_option maxRecDepth 20000 in
theorem ggX7_isDue_X7_areOne : GoodIn wsX7_isDue wsX7_areOne := goodIn_r _ [8, 3, 9, 10, 11, 12, 13, 14, 15, 16, 17, 18, 19, 20, 21, 22, 23, 24, 25, 26, 27, 28, 29, 30, 31, 32, 33, 34, 35, 36] (by decide +kernel) (by decide +kernel)
set_option maxRecDepth 20000 in
theorem gX7_isDue_X7_areOne : GoodIn wsX7_isDue (wsV RX7 146 RX7 yX7_areOne wsX7_areOne) := goodIn_app (goodIn_of _ (by decide +kernel)) ggX7_isDue_X7_areOne
theorem dX7_isDue_0 : decode cX7_isDue 0 = .ok (.iconst 0, 1) := by decide +kernel
theorem dX7_isDue_1 : decode cX7_isDue 1 = .ok (.istore_n 2, 1) := by decide +kernel
theorem dX7_isDue_2 : decode cX7_isDue 2 = .ok (.iconst 0, 1) := by decide +kernel
theorem dX7_isDue_3 : decode cX7_isDue 3 = .ok (.istore_n 3, 1) := by decide +kernel
theorem dX7_isDue_4 : decode cX7_isDue 4 = .ok (.iload_n 3, 1) := by decide +kernel
theorem dX7_isDue_5 : decode cX7_isDue 5 = .ok (.aload_n 0, 1) := by decide +kernel
theorem dX7_isDue_6 : decode cX7_isDue 6 = .ok (.getfield 133, 3) := by decide +kernel
theorem dX7_isDue_9 : decode cX7_isDue 9 = .ok (.if_icmp .ge 54, 3) := by decide +kernel
theorem dX7_isDue_12 : decode cX7_isDue 12 = .ok (.iload_n 2, 1) := by decide +kernel
theorem dX7_isDue_13 : decode cX7_isDue 13 = .ok (.ifCond .ne 38, 3) := by decide +kernel
theorem dX7_isDue_16 : decode cX7_isDue 16 = .ok (.aload_n 0, 1) := by decide +kernel
theorem dX7_isDue_17 : decode cX7_isDue 17 = .ok (.iload_n 1, 1) := by decide +kernel
theorem dX7_isDue_18 : decode cX7_isDue 18 = .ok (.iload_n 3, 1) := by decide +kernel
theorem dX7_isDue_19 : decode cX7_isDue 19 = .ok (.invokevirtual 146, 3) := by decide +kernel
theorem dX7_isDue_22 : decode cX7_isDue 22 = .ok (.ifCond .eq 33, 3) := by decide +kernel
theorem dX7_isDue_25 : decode cX7_isDue 25 = .ok (.aload_n 0, 1) := by decide +kernel
theorem dX7_isDue_26 : decode cX7_isDue 26 = .ok (.getfield 25, 3) := by decide +kernel
theorem dX7_isDue_29 : decode cX7_isDue 29 = .ok (.iload_n 3, 1) := by decide +kernel
theorem dX7_isDue_30 : decode cX7_isDue 30 = .ok (.iaload, 1) := by decide +kernel
theorem dX7_isDue_31 : decode cX7_isDue 31 = .ok (.bipush (-9), 2) := by decide +kernel
theorem dX7_isDue_33 : decode cX7_isDue 33 = .ok (.if_icmp .eq 22, 3) := by decide +kernel
theorem dX7_isDue_36 : decode cX7_isDue 36 = .ok (.aload_n 0, 1) := by decide +kernel
theorem dX7_isDue_37 : decode cX7_isDue 37 = .ok (.getfield 25, 3) := by decide +kernel
theorem dX7_isDue_40 : decode cX7_isDue 40 = .ok (.iload_n 3, 1) := by decide +kernel
theorem dX7_isDue_41 : decode cX7_isDue 41 = .ok (.iaload, 1) := by decide +kernel
theorem dX7_isDue_42 : decode cX7_isDue 42 = .ok (.aload_n 0, 1) := by decide +kernel
theorem dX7_isDue_43 : decode cX7_isDue 43 = .ok (.getfield 28, 3) := by decide +kernel
theorem dX7_isDue_46 : decode cX7_isDue 46 = .ok (.iload_n 3, 1) := by decide +kernel
theorem dX7_isDue_47 : decode cX7_isDue 47 = .ok (.iaload, 1) := by decide +kernel
theorem dX7_isDue_48 : decode cX7_isDue 48 = .ok (.if_icmp .eq 7, 3) := by decide +kernel
theorem dX7_isDue_51 : decode cX7_isDue 51 = .ok (.iconst 1, 1) := by decide +kernel
theorem dX7_isDue_52 : decode cX7_isDue 52 = .ok (.goto 4, 3) := by decide +kernel
theorem dX7_isDue_55 : decode cX7_isDue 55 = .ok (.iconst 0, 1) := by decide +kernel
theorem dX7_isDue_56 : decode cX7_isDue 56 = .ok (.istore_n 2, 1) := by decide +kernel
theorem dX7_isDue_57 : decode cX7_isDue 57 = .ok (.iinc 3 1, 3) := by decide +kernel
theorem dX7_isDue_60 : decode cX7_isDue 60 = .ok (.goto (-56), 3) := by decide +kernel
theorem dX7_isDue_63 : decode cX7_isDue 63 = .ok (.iload_n 2, 1) := by decide +kernel
theorem dX7_isDue_64 : decode cX7_isDue 64 = .ok (.ireturn, 1) := by decide +kernel
set_option maxRecDepth 20000 in
theorem ggX7_barred_X7_wantedAt : GoodIn wsX7_barred wsX7_wantedAt := goodIn_r _ [8, 1, 9, 3, 10, 11, 12, 7, 13, 2, 14, 15, 16, 17, 18, 19, 20, 21, 22, 23, 24, 25, 26, 27, 28, 29, 30, 31, 32, 33, 34, 35, 36, 37, 38, 39, 40, 41] (by decide +kernel) (by decide +kernel)
set_option maxRecDepth 20000 in
theorem gX7_barred_X7_wantedAt : GoodIn wsX7_barred (wsV RX7 163 RX7 yX7_wantedAt wsX7_wantedAt) := goodIn_app (goodIn_of _ (by decide +kernel)) ggX7_barred_X7_wantedAt
theorem dX7_barred_0 : decode cX7_barred 0 = .ok (.iconst 0, 1) := by decide +kernel
theorem dX7_barred_1 : decode cX7_barred 1 = .ok (.istore_n 1, 1) := by decide +kernel
theorem dX7_barred_2 : decode cX7_barred 2 = .ok (.iconst 0, 1) := by decide +kernel
theorem dX7_barred_3 : decode cX7_barred 3 = .ok (.istore_n 2, 1) := by decide +kernel
theorem dX7_barred_4 : decode cX7_barred 4 = .ok (.iload_n 2, 1) := by decide +kernel
theorem dX7_barred_5 : decode cX7_barred 5 = .ok (.aload_n 0, 1) := by decide +kernel
theorem dX7_barred_6 : decode cX7_barred 6 = .ok (.getfield 133, 3) := by decide +kernel
theorem dX7_barred_9 : decode cX7_barred 9 = .ok (.if_icmp .ge 43, 3) := by decide +kernel
theorem dX7_barred_12 : decode cX7_barred 12 = .ok (.iload_n 1, 1) := by decide +kernel
theorem dX7_barred_13 : decode cX7_barred 13 = .ok (.aload_n 0, 1) := by decide +kernel
theorem dX7_barred_14 : decode cX7_barred 14 = .ok (.getfield 28, 3) := by decide +kernel
theorem dX7_barred_17 : decode cX7_barred 17 = .ok (.bipush 8, 2) := by decide +kernel
theorem dX7_barred_19 : decode cX7_barred 19 = .ok (.iload_n 2, 1) := by decide +kernel
theorem dX7_barred_20 : decode cX7_barred 20 = .ok (.iadd, 1) := by decide +kernel
theorem dX7_barred_21 : decode cX7_barred 21 = .ok (.iaload, 1) := by decide +kernel
theorem dX7_barred_22 : decode cX7_barred 22 = .ok (.bipush (-9), 2) := by decide +kernel
theorem dX7_barred_24 : decode cX7_barred 24 = .ok (.if_icmp .eq 19, 3) := by decide +kernel
theorem dX7_barred_27 : decode cX7_barred 27 = .ok (.aload_n 0, 1) := by decide +kernel
theorem dX7_barred_28 : decode cX7_barred 28 = .ok (.iload_n 2, 1) := by decide +kernel
theorem dX7_barred_29 : decode cX7_barred 29 = .ok (.invokevirtual 163, 3) := by decide +kernel
theorem dX7_barred_32 : decode cX7_barred 32 = .ok (.ldc 162, 2) := by decide +kernel
theorem dX7_barred_34 : decode cX7_barred 34 = .ok (.if_icmp .ne 9, 3) := by decide +kernel
theorem dX7_barred_37 : decode cX7_barred 37 = .ok (.iconst 1, 1) := by decide +kernel
theorem dX7_barred_38 : decode cX7_barred 38 = .ok (.iload_n 2, 1) := by decide +kernel
theorem dX7_barred_39 : decode cX7_barred 39 = .ok (.ishl, 1) := by decide +kernel
theorem dX7_barred_40 : decode cX7_barred 40 = .ok (.goto 4, 3) := by decide +kernel
theorem dX7_barred_43 : decode cX7_barred 43 = .ok (.iconst 0, 1) := by decide +kernel
theorem dX7_barred_44 : decode cX7_barred 44 = .ok (.ior, 1) := by decide +kernel
theorem dX7_barred_45 : decode cX7_barred 45 = .ok (.istore_n 1, 1) := by decide +kernel
theorem dX7_barred_46 : decode cX7_barred 46 = .ok (.iinc 2 1, 3) := by decide +kernel
theorem dX7_barred_49 : decode cX7_barred 49 = .ok (.goto (-45), 3) := by decide +kernel
theorem dX7_barred_52 : decode cX7_barred 52 = .ok (.iload_n 1, 1) := by decide +kernel
theorem dX7_barred_53 : decode cX7_barred 53 = .ok (.ireturn, 1) := by decide +kernel
theorem dX7_singles_0 : decode cX7_singles 0 = .ok (.iconst 0, 1) := by decide +kernel
theorem dX7_singles_1 : decode cX7_singles 1 = .ok (.istore_n 3, 1) := by decide +kernel
theorem dX7_singles_2 : decode cX7_singles 2 = .ok (.iconst 0, 1) := by decide +kernel
theorem dX7_singles_3 : decode cX7_singles 3 = .ok (.istore 4, 2) := by decide +kernel
theorem dX7_singles_5 : decode cX7_singles 5 = .ok (.iload 4, 2) := by decide +kernel
theorem dX7_singles_7 : decode cX7_singles 7 = .ok (.aload_n 0, 1) := by decide +kernel
theorem dX7_singles_8 : decode cX7_singles 8 = .ok (.getfield 133, 3) := by decide +kernel
theorem dX7_singles_11 : decode cX7_singles 11 = .ok (.if_icmp .ge 62, 3) := by decide +kernel
theorem dX7_singles_14 : decode cX7_singles 14 = .ok (.iload_n 3, 1) := by decide +kernel
theorem dX7_singles_15 : decode cX7_singles 15 = .ok (.aload_n 0, 1) := by decide +kernel
theorem dX7_singles_16 : decode cX7_singles 16 = .ok (.getfield 28, 3) := by decide +kernel
theorem dX7_singles_19 : decode cX7_singles 19 = .ok (.bipush 8, 2) := by decide +kernel
theorem dX7_singles_21 : decode cX7_singles 21 = .ok (.iload 4, 2) := by decide +kernel
theorem dX7_singles_23 : decode cX7_singles 23 = .ok (.iadd, 1) := by decide +kernel
theorem dX7_singles_24 : decode cX7_singles 24 = .ok (.iaload, 1) := by decide +kernel
theorem dX7_singles_25 : decode cX7_singles 25 = .ok (.bipush (-9), 2) := by decide +kernel
theorem dX7_singles_27 : decode cX7_singles 27 = .ok (.if_icmp .ne 37, 3) := by decide +kernel
theorem dX7_singles_30 : decode cX7_singles 30 = .ok (.aload_n 0, 1) := by decide +kernel
theorem dX7_singles_31 : decode cX7_singles 31 = .ok (.getfield 28, 3) := by decide +kernel
theorem dX7_singles_34 : decode cX7_singles 34 = .ok (.iload 4, 2) := by decide +kernel
theorem dX7_singles_36 : decode cX7_singles 36 = .ok (.iaload, 1) := by decide +kernel
theorem dX7_singles_37 : decode cX7_singles 37 = .ok (.iload_n 1, 1) := by decide +kernel
theorem dX7_singles_38 : decode cX7_singles 38 = .ok (.if_icmp .ne 26, 3) := by decide +kernel
theorem dX7_singles_41 : decode cX7_singles 41 = .ok (.aload_n 0, 1) := by decide +kernel
theorem dX7_singles_42 : decode cX7_singles 42 = .ok (.getfield 25, 3) := by decide +kernel
theorem dX7_singles_45 : decode cX7_singles 45 = .ok (.iload 4, 2) := by decide +kernel
theorem dX7_singles_47 : decode cX7_singles 47 = .ok (.iaload, 1) := by decide +kernel
theorem dX7_singles_48 : decode cX7_singles 48 = .ok (.iload_n 2, 1) := by decide +kernel
theorem dX7_singles_49 : decode cX7_singles 49 = .ok (.if_icmp .ne 15, 3) := by decide +kernel
theorem dX7_singles_52 : decode cX7_singles 52 = .ok (.iload_n 1, 1) := by decide +kernel
theorem dX7_singles_53 : decode cX7_singles 53 = .ok (.iload_n 2, 1) := by decide +kernel
theorem dX7_singles_54 : decode cX7_singles 54 = .ok (.if_icmp .eq 10, 3) := by decide +kernel
theorem dX7_singles_57 : decode cX7_singles 57 = .ok (.iconst 1, 1) := by decide +kernel
theorem dX7_singles_58 : decode cX7_singles 58 = .ok (.iload 4, 2) := by decide +kernel
theorem dX7_singles_60 : decode cX7_singles 60 = .ok (.ishl, 1) := by decide +kernel
theorem dX7_singles_61 : decode cX7_singles 61 = .ok (.goto 4, 3) := by decide +kernel
theorem dX7_singles_64 : decode cX7_singles 64 = .ok (.iconst 0, 1) := by decide +kernel
theorem dX7_singles_65 : decode cX7_singles 65 = .ok (.ior, 1) := by decide +kernel
theorem dX7_singles_66 : decode cX7_singles 66 = .ok (.istore_n 3, 1) := by decide +kernel
theorem dX7_singles_67 : decode cX7_singles 67 = .ok (.iinc 4 1, 3) := by decide +kernel
theorem dX7_singles_70 : decode cX7_singles 70 = .ok (.goto (-65), 3) := by decide +kernel
theorem dX7_singles_73 : decode cX7_singles 73 = .ok (.iload_n 3, 1) := by decide +kernel
theorem dX7_singles_74 : decode cX7_singles 74 = .ok (.ireturn, 1) := by decide +kernel
set_option maxRecDepth 20000 in
theorem ggX7_liftsBy_X7_greater : GoodIn wsX7_liftsBy wsX7_greater := goodIn_r _ [6] (by decide +kernel) (by decide +kernel)
set_option maxRecDepth 20000 in
theorem gX7_liftsBy_X7_greater : GoodIn wsX7_liftsBy (va_wsS RX7 150 yX7_greater wsX7_greater) := goodIn_app (goodIn_of _ (by decide +kernel)) ggX7_liftsBy_X7_greater
theorem dX7_liftsBy_0 : decode cX7_liftsBy 0 = .ok (.iconst 0, 1) := by decide +kernel
theorem dX7_liftsBy_1 : decode cX7_liftsBy 1 = .ok (.istore_n 3, 1) := by decide +kernel
theorem dX7_liftsBy_2 : decode cX7_liftsBy 2 = .ok (.iconst 0, 1) := by decide +kernel
theorem dX7_liftsBy_3 : decode cX7_liftsBy 3 = .ok (.istore 4, 2) := by decide +kernel
theorem dX7_liftsBy_5 : decode cX7_liftsBy 5 = .ok (.iconst 0, 1) := by decide +kernel
theorem dX7_liftsBy_6 : decode cX7_liftsBy 6 = .ok (.istore 5, 2) := by decide +kernel
theorem dX7_liftsBy_8 : decode cX7_liftsBy 8 = .ok (.iload 5, 2) := by decide +kernel
theorem dX7_liftsBy_10 : decode cX7_liftsBy 10 = .ok (.aload_n 0, 1) := by decide +kernel
theorem dX7_liftsBy_11 : decode cX7_liftsBy 11 = .ok (.getfield 133, 3) := by decide +kernel
theorem dX7_liftsBy_14 : decode cX7_liftsBy 14 = .ok (.if_icmp .ge 71, 3) := by decide +kernel
theorem dX7_liftsBy_17 : decode cX7_liftsBy 17 = .ok (.iload_n 3, 1) := by decide +kernel
theorem dX7_liftsBy_18 : decode cX7_liftsBy 18 = .ok (.iload_n 1, 1) := by decide +kernel
theorem dX7_liftsBy_19 : decode cX7_liftsBy 19 = .ok (.iload 5, 2) := by decide +kernel
theorem dX7_liftsBy_21 : decode cX7_liftsBy 21 = .ok (.ishr, 1) := by decide +kernel
theorem dX7_liftsBy_22 : decode cX7_liftsBy 22 = .ok (.iconst 1, 1) := by decide +kernel
theorem dX7_liftsBy_23 : decode cX7_liftsBy 23 = .ok (.iand, 1) := by decide +kernel
theorem dX7_liftsBy_24 : decode cX7_liftsBy 24 = .ok (.iconst 1, 1) := by decide +kernel
theorem dX7_liftsBy_25 : decode cX7_liftsBy 25 = .ok (.if_icmp .ne 22, 3) := by decide +kernel
theorem dX7_liftsBy_28 : decode cX7_liftsBy 28 = .ok (.iload_n 2, 1) := by decide +kernel
theorem dX7_liftsBy_29 : decode cX7_liftsBy 29 = .ok (.iload 5, 2) := by decide +kernel
theorem dX7_liftsBy_31 : decode cX7_liftsBy 31 = .ok (.ishr, 1) := by decide +kernel
theorem dX7_liftsBy_32 : decode cX7_liftsBy 32 = .ok (.iconst 1, 1) := by decide +kernel
theorem dX7_liftsBy_33 : decode cX7_liftsBy 33 = .ok (.iand, 1) := by decide +kernel
theorem dX7_liftsBy_34 : decode cX7_liftsBy 34 = .ok (.ifCond .ne 13, 3) := by decide +kernel
theorem dX7_liftsBy_37 : decode cX7_liftsBy 37 = .ok (.aload_n 0, 1) := by decide +kernel
theorem dX7_liftsBy_38 : decode cX7_liftsBy 38 = .ok (.getfield 22, 3) := by decide +kernel
theorem dX7_liftsBy_41 : decode cX7_liftsBy 41 = .ok (.iload 5, 2) := by decide +kernel
theorem dX7_liftsBy_43 : decode cX7_liftsBy 43 = .ok (.iaload, 1) := by decide +kernel
theorem dX7_liftsBy_44 : decode cX7_liftsBy 44 = .ok (.goto 4, 3) := by decide +kernel
theorem dX7_liftsBy_47 : decode cX7_liftsBy 47 = .ok (.iconst 0, 1) := by decide +kernel
theorem dX7_liftsBy_48 : decode cX7_liftsBy 48 = .ok (.iadd, 1) := by decide +kernel
theorem dX7_liftsBy_49 : decode cX7_liftsBy 49 = .ok (.istore_n 3, 1) := by decide +kernel
theorem dX7_liftsBy_50 : decode cX7_liftsBy 50 = .ok (.iload_n 2, 1) := by decide +kernel
theorem dX7_liftsBy_51 : decode cX7_liftsBy 51 = .ok (.iload 5, 2) := by decide +kernel
theorem dX7_liftsBy_53 : decode cX7_liftsBy 53 = .ok (.ishr, 1) := by decide +kernel
theorem dX7_liftsBy_54 : decode cX7_liftsBy 54 = .ok (.iconst 1, 1) := by decide +kernel
theorem dX7_liftsBy_55 : decode cX7_liftsBy 55 = .ok (.iand, 1) := by decide +kernel
theorem dX7_liftsBy_56 : decode cX7_liftsBy 56 = .ok (.iconst 1, 1) := by decide +kernel
theorem dX7_liftsBy_57 : decode cX7_liftsBy 57 = .ok (.if_icmp .ne 18, 3) := by decide +kernel
theorem dX7_liftsBy_60 : decode cX7_liftsBy 60 = .ok (.iload 4, 2) := by decide +kernel
theorem dX7_liftsBy_62 : decode cX7_liftsBy 62 = .ok (.aload_n 0, 1) := by decide +kernel
theorem dX7_liftsBy_63 : decode cX7_liftsBy 63 = .ok (.getfield 22, 3) := by decide +kernel
theorem dX7_liftsBy_66 : decode cX7_liftsBy 66 = .ok (.iload 5, 2) := by decide +kernel
theorem dX7_liftsBy_68 : decode cX7_liftsBy 68 = .ok (.iaload, 1) := by decide +kernel
theorem dX7_liftsBy_69 : decode cX7_liftsBy 69 = .ok (.invokestatic 150, 3) := by decide +kernel
theorem dX7_liftsBy_72 : decode cX7_liftsBy 72 = .ok (.goto 5, 3) := by decide +kernel
theorem dX7_liftsBy_75 : decode cX7_liftsBy 75 = .ok (.iload 4, 2) := by decide +kernel
theorem dX7_liftsBy_77 : decode cX7_liftsBy 77 = .ok (.istore 4, 2) := by decide +kernel
theorem dX7_liftsBy_79 : decode cX7_liftsBy 79 = .ok (.iinc 5 1, 3) := by decide +kernel
theorem dX7_liftsBy_82 : decode cX7_liftsBy 82 = .ok (.goto (-74), 3) := by decide +kernel
theorem dX7_liftsBy_85 : decode cX7_liftsBy 85 = .ok (.iload_n 2, 1) := by decide +kernel
theorem dX7_liftsBy_86 : decode cX7_liftsBy 86 = .ok (.ifCond .ne 7, 3) := by decide +kernel
theorem dX7_liftsBy_89 : decode cX7_liftsBy 89 = .ok (.iload_n 3, 1) := by decide +kernel
theorem dX7_liftsBy_90 : decode cX7_liftsBy 90 = .ok (.goto 9, 3) := by decide +kernel
theorem dX7_liftsBy_93 : decode cX7_liftsBy 93 = .ok (.iload_n 3, 1) := by decide +kernel
theorem dX7_liftsBy_94 : decode cX7_liftsBy 94 = .ok (.iconst 1, 1) := by decide +kernel
theorem dX7_liftsBy_95 : decode cX7_liftsBy 95 = .ok (.iadd, 1) := by decide +kernel
theorem dX7_liftsBy_96 : decode cX7_liftsBy 96 = .ok (.iload 4, 2) := by decide +kernel
theorem dX7_liftsBy_98 : decode cX7_liftsBy 98 = .ok (.iadd, 1) := by decide +kernel
theorem dX7_liftsBy_99 : decode cX7_liftsBy 99 = .ok (.ireturn, 1) := by decide +kernel
set_option maxRecDepth 20000 in
theorem ggX7_fewest_X7_in : GoodIn wsX7_fewest wsX7_in := goodIn_r _ [8] (by decide +kernel) (by decide +kernel)
set_option maxRecDepth 20000 in
theorem gX7_fewest_X7_in : GoodIn wsX7_fewest (va_wsS RX7 60 yX7_in wsX7_in) := goodIn_app (goodIn_of _ (by decide +kernel)) ggX7_fewest_X7_in
set_option maxRecDepth 20000 in
theorem ggX7_fewest_X7_barred : GoodIn wsX7_fewest wsX7_barred := goodIn_r _ [12, 2, 3, 13, 14, 15, 16, 7, 17, 18, 19, 20, 21, 22, 46, 47, 48, 49, 50, 51, 52, 53, 54, 55, 56, 57, 58, 59, 60, 61, 62, 63, 64, 65, 66, 67, 68, 69, 70, 71, 72, 73] (by decide +kernel) (by decide +kernel)
set_option maxRecDepth 20000 in
theorem gX7_fewest_X7_barred : GoodIn wsX7_fewest (wsV RX7 166 RX7 yX7_barred wsX7_barred) := goodIn_app (goodIn_of _ (by decide +kernel)) ggX7_fewest_X7_barred
set_option maxRecDepth 20000 in
theorem ggX7_fewest_X7_isDue : GoodIn wsX7_fewest wsX7_isDue := goodIn_r _ [26, 2, 18, 3, 19, 20, 21, 7, 22, 46, 47, 48, 49, 50, 51, 52, 53, 54, 55, 56, 57, 58, 59, 60, 61, 62, 63, 64, 65, 66, 67, 68, 69, 70, 71, 72, 73] (by decide +kernel) (by decide +kernel)
set_option maxRecDepth 20000 in
theorem gX7_fewest_X7_isDue : GoodIn wsX7_fewest (wsV RX7 170 RX7 yX7_isDue wsX7_isDue) := goodIn_app (goodIn_of _ (by decide +kernel)) ggX7_fewest_X7_isDue
set_option maxRecDepth 20000 in
theorem ggX7_fewest_X7_handsOf : GoodIn wsX7_fewest wsX7_handsOf := goodIn_r _ [30, 2, 31, 19, 20, 21, 7, 22, 3, 32, 33, 34, 46, 47, 48, 49, 50, 51, 52, 53, 54, 55, 56, 57, 58, 59, 60, 61, 62, 63, 64, 65, 66, 67, 68, 69, 70, 71, 72, 73] (by decide +kernel) (by decide +kernel)
set_option maxRecDepth 20000 in
theorem gX7_fewest_X7_handsOf : GoodIn wsX7_fewest (wsV RX7 159 RX7 yX7_handsOf wsX7_handsOf) := goodIn_app (goodIn_of _ (by decide +kernel)) ggX7_fewest_X7_handsOf
set_option maxRecDepth 20000 in
theorem ggX7_fewest_X7_singles : GoodIn wsX7_fewest wsX7_singles := goodIn_r _ [38, 2, 3, 18, 46, 47, 48, 49, 50, 51, 52, 53, 54, 55, 56, 57, 58, 59, 60, 61, 62, 63, 64, 65, 66, 67, 68, 69, 70, 71, 72, 73] (by decide +kernel) (by decide +kernel)
set_option maxRecDepth 20000 in
theorem gX7_fewest_X7_singles : GoodIn wsX7_fewest (wsV RX7 173 RX7 yX7_singles wsX7_singles) := goodIn_app (goodIn_of _ (by decide +kernel)) ggX7_fewest_X7_singles
set_option maxRecDepth 20000 in
theorem ggX7_fewest_X7_liftsBy : GoodIn wsX7_fewest wsX7_liftsBy := goodIn_r _ [42, 2, 31, 32, 33, 7, 34, 46, 47, 48, 49, 50, 51, 52, 53, 54, 55, 56, 57, 58, 59, 60, 61, 62, 63, 64, 65, 66, 67, 68, 69, 70, 71, 72, 73] (by decide +kernel) (by decide +kernel)
set_option maxRecDepth 20000 in
theorem gX7_fewest_X7_liftsBy : GoodIn wsX7_fewest (wsV RX7 176 RX7 yX7_liftsBy wsX7_liftsBy) := goodIn_app (goodIn_of _ (by decide +kernel)) ggX7_fewest_X7_liftsBy
set_option maxRecDepth 20000 in
theorem ggX7_fewest_X7_ones : GoodIn wsX7_fewest wsX7_ones := goodIn_r _ [45] (by decide +kernel) (by decide +kernel)
set_option maxRecDepth 20000 in
theorem gX7_fewest_X7_ones : GoodIn wsX7_fewest (va_wsS RX7 156 yX7_ones wsX7_ones) := goodIn_app (goodIn_of _ (by decide +kernel)) ggX7_fewest_X7_ones
theorem dX7_fewest_0 : decode cX7_fewest 0 = .ok (.aload_n 0, 1) := by decide +kernel
theorem dX7_fewest_1 : decode cX7_fewest 1 = .ok (.iconst 0, 1) := by decide +kernel
theorem dX7_fewest_2 : decode cX7_fewest 2 = .ok (.putfield 57, 3) := by decide +kernel
theorem dX7_fewest_5 : decode cX7_fewest 5 = .ok (.iload_n 1, 1) := by decide +kernel
theorem dX7_fewest_6 : decode cX7_fewest 6 = .ok (.iconst 0, 1) := by decide +kernel
theorem dX7_fewest_7 : decode cX7_fewest 7 = .ok (.iconst 1, 1) := by decide +kernel
theorem dX7_fewest_8 : decode cX7_fewest 8 = .ok (.invokestatic 60, 3) := by decide +kernel
theorem dX7_fewest_11 : decode cX7_fewest 11 = .ok (.ifCond .ne 5, 3) := by decide +kernel
theorem dX7_fewest_14 : decode cX7_fewest 14 = .ok (.iconst (-1), 1) := by decide +kernel
theorem dX7_fewest_15 : decode cX7_fewest 15 = .ok (.ireturn, 1) := by decide +kernel
theorem dX7_fewest_16 : decode cX7_fewest 16 = .ok (.aload_n 0, 1) := by decide +kernel
theorem dX7_fewest_17 : decode cX7_fewest 17 = .ok (.invokevirtual 166, 3) := by decide +kernel
theorem dX7_fewest_20 : decode cX7_fewest 20 = .ok (.ifCond .eq 6, 3) := by decide +kernel
theorem dX7_fewest_23 : decode cX7_fewest 23 = .ok (.bipush (-9), 2) := by decide +kernel
theorem dX7_fewest_25 : decode cX7_fewest 25 = .ok (.ireturn, 1) := by decide +kernel
theorem dX7_fewest_26 : decode cX7_fewest 26 = .ok (.iconst 0, 1) := by decide +kernel
theorem dX7_fewest_27 : decode cX7_fewest 27 = .ok (.istore_n 2, 1) := by decide +kernel
theorem dX7_fewest_28 : decode cX7_fewest 28 = .ok (.iconst 0, 1) := by decide +kernel
theorem dX7_fewest_29 : decode cX7_fewest 29 = .ok (.istore_n 3, 1) := by decide +kernel
theorem dX7_fewest_30 : decode cX7_fewest 30 = .ok (.iconst 0, 1) := by decide +kernel
theorem dX7_fewest_31 : decode cX7_fewest 31 = .ok (.istore 4, 2) := by decide +kernel
theorem dX7_fewest_33 : decode cX7_fewest 33 = .ok (.iload 4, 2) := by decide +kernel
theorem dX7_fewest_35 : decode cX7_fewest 35 = .ok (.aload_n 0, 1) := by decide +kernel
theorem dX7_fewest_36 : decode cX7_fewest 36 = .ok (.getfield 133, 3) := by decide +kernel
theorem dX7_fewest_39 : decode cX7_fewest 39 = .ok (.if_icmp .ge 46, 3) := by decide +kernel
theorem dX7_fewest_42 : decode cX7_fewest 42 = .ok (.iload_n 2, 1) := by decide +kernel
theorem dX7_fewest_43 : decode cX7_fewest 43 = .ok (.aload_n 0, 1) := by decide +kernel
theorem dX7_fewest_44 : decode cX7_fewest 44 = .ok (.getfield 28, 3) := by decide +kernel
theorem dX7_fewest_47 : decode cX7_fewest 47 = .ok (.bipush 8, 2) := by decide +kernel
theorem dX7_fewest_49 : decode cX7_fewest 49 = .ok (.iload 4, 2) := by decide +kernel
theorem dX7_fewest_51 : decode cX7_fewest 51 = .ok (.iadd, 1) := by decide +kernel
theorem dX7_fewest_52 : decode cX7_fewest 52 = .ok (.iaload, 1) := by decide +kernel
theorem dX7_fewest_53 : decode cX7_fewest 53 = .ok (.iload 4, 2) := by decide +kernel
theorem dX7_fewest_55 : decode cX7_fewest 55 = .ok (.if_icmp .ne 21, 3) := by decide +kernel
theorem dX7_fewest_58 : decode cX7_fewest 58 = .ok (.aload_n 0, 1) := by decide +kernel
theorem dX7_fewest_59 : decode cX7_fewest 59 = .ok (.iload 4, 2) := by decide +kernel
theorem dX7_fewest_61 : decode cX7_fewest 61 = .ok (.invokevirtual 170, 3) := by decide +kernel
theorem dX7_fewest_64 : decode cX7_fewest 64 = .ok (.ifCond .eq 12, 3) := by decide +kernel
theorem dX7_fewest_67 : decode cX7_fewest 67 = .ok (.aload_n 0, 1) := by decide +kernel
theorem dX7_fewest_68 : decode cX7_fewest 68 = .ok (.iload 4, 2) := by decide +kernel
theorem dX7_fewest_70 : decode cX7_fewest 70 = .ok (.invokevirtual 159, 3) := by decide +kernel
theorem dX7_fewest_73 : decode cX7_fewest 73 = .ok (.goto 4, 3) := by decide +kernel
theorem dX7_fewest_76 : decode cX7_fewest 76 = .ok (.iconst 0, 1) := by decide +kernel
theorem dX7_fewest_77 : decode cX7_fewest 77 = .ok (.iadd, 1) := by decide +kernel
theorem dX7_fewest_78 : decode cX7_fewest 78 = .ok (.istore_n 2, 1) := by decide +kernel
theorem dX7_fewest_79 : decode cX7_fewest 79 = .ok (.iinc 4 1, 3) := by decide +kernel
theorem dX7_fewest_82 : decode cX7_fewest 82 = .ok (.goto (-49), 3) := by decide +kernel
theorem dX7_fewest_85 : decode cX7_fewest 85 = .ok (.iconst 0, 1) := by decide +kernel
theorem dX7_fewest_86 : decode cX7_fewest 86 = .ok (.istore 4, 2) := by decide +kernel
theorem dX7_fewest_88 : decode cX7_fewest 88 = .ok (.iload 4, 2) := by decide +kernel
theorem dX7_fewest_90 : decode cX7_fewest 90 = .ok (.aload_n 0, 1) := by decide +kernel
theorem dX7_fewest_91 : decode cX7_fewest 91 = .ok (.getfield 50, 3) := by decide +kernel
theorem dX7_fewest_94 : decode cX7_fewest 94 = .ok (.if_icmp .ge 146, 3) := by decide +kernel
theorem dX7_fewest_97 : decode cX7_fewest 97 = .ok (.iconst 0, 1) := by decide +kernel
theorem dX7_fewest_98 : decode cX7_fewest 98 = .ok (.istore 5, 2) := by decide +kernel
theorem dX7_fewest_100 : decode cX7_fewest 100 = .ok (.iload 5, 2) := by decide +kernel
theorem dX7_fewest_102 : decode cX7_fewest 102 = .ok (.aload_n 0, 1) := by decide +kernel
theorem dX7_fewest_103 : decode cX7_fewest 103 = .ok (.getfield 50, 3) := by decide +kernel
theorem dX7_fewest_106 : decode cX7_fewest 106 = .ok (.if_icmp .ge 128, 3) := by decide +kernel
theorem dX7_fewest_109 : decode cX7_fewest 109 = .ok (.aload_n 0, 1) := by decide +kernel
theorem dX7_fewest_110 : decode cX7_fewest 110 = .ok (.iload 4, 2) := by decide +kernel
theorem dX7_fewest_112 : decode cX7_fewest 112 = .ok (.iload 5, 2) := by decide +kernel
theorem dX7_fewest_114 : decode cX7_fewest 114 = .ok (.invokevirtual 173, 3) := by decide +kernel
theorem dX7_fewest_117 : decode cX7_fewest 117 = .ok (.istore 6, 2) := by decide +kernel
theorem dX7_fewest_119 : decode cX7_fewest 119 = .ok (.aload_n 0, 1) := by decide +kernel
theorem dX7_fewest_120 : decode cX7_fewest 120 = .ok (.iload 6, 2) := by decide +kernel
theorem dX7_fewest_122 : decode cX7_fewest 122 = .ok (.iconst 0, 1) := by decide +kernel
theorem dX7_fewest_123 : decode cX7_fewest 123 = .ok (.invokevirtual 176, 3) := by decide +kernel
theorem dX7_fewest_126 : decode cX7_fewest 126 = .ok (.istore 7, 2) := by decide +kernel
theorem dX7_fewest_128 : decode cX7_fewest 128 = .ok (.iload 7, 2) := by decide +kernel
theorem dX7_fewest_130 : decode cX7_fewest 130 = .ok (.istore 8, 2) := by decide +kernel
theorem dX7_fewest_132 : decode cX7_fewest 132 = .ok (.iconst 1, 1) := by decide +kernel
theorem dX7_fewest_133 : decode cX7_fewest 133 = .ok (.istore 9, 2) := by decide +kernel
theorem dX7_fewest_135 : decode cX7_fewest 135 = .ok (.iload 9, 2) := by decide +kernel
theorem dX7_fewest_137 : decode cX7_fewest 137 = .ok (.sipush 256, 3) := by decide +kernel
theorem dX7_fewest_140 : decode cX7_fewest 140 = .ok (.if_icmp .ge 68, 3) := by decide +kernel
theorem dX7_fewest_143 : decode cX7_fewest 143 = .ok (.iload 9, 2) := by decide +kernel
theorem dX7_fewest_145 : decode cX7_fewest 145 = .ok (.iload 6, 2) := by decide +kernel
theorem dX7_fewest_147 : decode cX7_fewest 147 = .ok (.iconst (-1), 1) := by decide +kernel
theorem dX7_fewest_148 : decode cX7_fewest 148 = .ok (.ixor, 1) := by decide +kernel
theorem dX7_fewest_149 : decode cX7_fewest 149 = .ok (.iand, 1) := by decide +kernel
theorem dX7_fewest_150 : decode cX7_fewest 150 = .ok (.ifCond .ne 16, 3) := by decide +kernel
theorem dX7_fewest_153 : decode cX7_fewest 153 = .ok (.iload 9, 2) := by decide +kernel
theorem dX7_fewest_155 : decode cX7_fewest 155 = .ok (.invokestatic 156, 3) := by decide +kernel
theorem dX7_fewest_158 : decode cX7_fewest 158 = .ok (.iconst 1, 1) := by decide +kernel
theorem dX7_fewest_159 : decode cX7_fewest 159 = .ok (.if_icmp .le 7, 3) := by decide +kernel
theorem dX7_fewest_162 : decode cX7_fewest 162 = .ok (.iconst 1, 1) := by decide +kernel
theorem dX7_fewest_163 : decode cX7_fewest 163 = .ok (.goto 4, 3) := by decide +kernel
theorem dX7_fewest_166 : decode cX7_fewest 166 = .ok (.iconst 0, 1) := by decide +kernel
theorem dX7_fewest_167 : decode cX7_fewest 167 = .ok (.istore 10, 2) := by decide +kernel
theorem dX7_fewest_169 : decode cX7_fewest 169 = .ok (.iload 10, 2) := by decide +kernel
theorem dX7_fewest_171 : decode cX7_fewest 171 = .ok (.ifCond .eq 27, 3) := by decide +kernel
theorem dX7_fewest_174 : decode cX7_fewest 174 = .ok (.aload_n 0, 1) := by decide +kernel
theorem dX7_fewest_175 : decode cX7_fewest 175 = .ok (.iload 6, 2) := by decide +kernel
theorem dX7_fewest_177 : decode cX7_fewest 177 = .ok (.iload 9, 2) := by decide +kernel
theorem dX7_fewest_179 : decode cX7_fewest 179 = .ok (.invokevirtual 176, 3) := by decide +kernel
theorem dX7_fewest_182 : decode cX7_fewest 182 = .ok (.iload 8, 2) := by decide +kernel
theorem dX7_fewest_184 : decode cX7_fewest 184 = .ok (.if_icmp .ge 14, 3) := by decide +kernel
theorem dX7_fewest_187 : decode cX7_fewest 187 = .ok (.aload_n 0, 1) := by decide +kernel
theorem dX7_fewest_188 : decode cX7_fewest 188 = .ok (.iload 6, 2) := by decide +kernel
theorem dX7_fewest_190 : decode cX7_fewest 190 = .ok (.iload 9, 2) := by decide +kernel
theorem dX7_fewest_192 : decode cX7_fewest 192 = .ok (.invokevirtual 176, 3) := by decide +kernel
theorem dX7_fewest_195 : decode cX7_fewest 195 = .ok (.goto 5, 3) := by decide +kernel
theorem dX7_fewest_198 : decode cX7_fewest 198 = .ok (.iload 8, 2) := by decide +kernel
theorem dX7_fewest_200 : decode cX7_fewest 200 = .ok (.istore 8, 2) := by decide +kernel
theorem dX7_fewest_202 : decode cX7_fewest 202 = .ok (.iinc 9 1, 3) := by decide +kernel
theorem dX7_fewest_205 : decode cX7_fewest 205 = .ok (.goto (-70), 3) := by decide +kernel
theorem dX7_fewest_208 : decode cX7_fewest 208 = .ok (.iload_n 2, 1) := by decide +kernel
theorem dX7_fewest_209 : decode cX7_fewest 209 = .ok (.iload 8, 2) := by decide +kernel
theorem dX7_fewest_211 : decode cX7_fewest 211 = .ok (.iadd, 1) := by decide +kernel
theorem dX7_fewest_212 : decode cX7_fewest 212 = .ok (.istore_n 2, 1) := by decide +kernel
theorem dX7_fewest_213 : decode cX7_fewest 213 = .ok (.iload_n 3, 1) := by decide +kernel
theorem dX7_fewest_214 : decode cX7_fewest 214 = .ok (.iload 8, 2) := by decide +kernel
theorem dX7_fewest_216 : decode cX7_fewest 216 = .ok (.iload 7, 2) := by decide +kernel
theorem dX7_fewest_218 : decode cX7_fewest 218 = .ok (.if_icmp .ge 7, 3) := by decide +kernel
theorem dX7_fewest_221 : decode cX7_fewest 221 = .ok (.iconst 1, 1) := by decide +kernel
theorem dX7_fewest_222 : decode cX7_fewest 222 = .ok (.goto 4, 3) := by decide +kernel
theorem dX7_fewest_225 : decode cX7_fewest 225 = .ok (.iconst 0, 1) := by decide +kernel
theorem dX7_fewest_226 : decode cX7_fewest 226 = .ok (.iadd, 1) := by decide +kernel
theorem dX7_fewest_227 : decode cX7_fewest 227 = .ok (.istore_n 3, 1) := by decide +kernel
theorem dX7_fewest_228 : decode cX7_fewest 228 = .ok (.iinc 5 1, 3) := by decide +kernel
theorem dX7_fewest_231 : decode cX7_fewest 231 = .ok (.goto (-131), 3) := by decide +kernel
theorem dX7_fewest_234 : decode cX7_fewest 234 = .ok (.iinc 4 1, 3) := by decide +kernel
theorem dX7_fewest_237 : decode cX7_fewest 237 = .ok (.goto (-149), 3) := by decide +kernel
theorem dX7_fewest_240 : decode cX7_fewest 240 = .ok (.iload_n 1, 1) := by decide +kernel
theorem dX7_fewest_241 : decode cX7_fewest 241 = .ok (.ifCond .ne 7, 3) := by decide +kernel
theorem dX7_fewest_244 : decode cX7_fewest 244 = .ok (.iload_n 2, 1) := by decide +kernel
theorem dX7_fewest_245 : decode cX7_fewest 245 = .ok (.goto 4, 3) := by decide +kernel
theorem dX7_fewest_248 : decode cX7_fewest 248 = .ok (.iload_n 3, 1) := by decide +kernel
theorem dX7_fewest_249 : decode cX7_fewest 249 = .ok (.ireturn, 1) := by decide +kernel
set_option maxRecDepth 20000 in
theorem ggX7_gathersDue_X7_isJob : GoodIn wsX7_gathersDue wsX7_isJob := goodIn_r _ [8, 9, 27, 28, 29, 30, 31, 32, 33, 34, 35, 36, 37, 38, 39, 40, 41, 42, 43, 44, 45, 46, 47, 48, 49, 50, 51, 52, 53, 54] (by decide +kernel) (by decide +kernel)
set_option maxRecDepth 20000 in
theorem gX7_gathersDue_X7_isJob : GoodIn wsX7_gathersDue (wsV RX7 182 RX7 yX7_isJob wsX7_isJob) := goodIn_app (goodIn_of _ (by decide +kernel)) ggX7_gathersDue_X7_isJob
set_option maxRecDepth 20000 in
theorem ggX7_gathersDue_X7_isDue : GoodIn wsX7_gathersDue wsX7_isDue := goodIn_r _ [13, 2, 14, 9, 15, 16, 17, 7, 18, 27, 28, 29, 30, 31, 32, 33, 34, 35, 36, 37, 38, 39, 40, 41, 42, 43, 44, 45, 46, 47, 48, 49, 50, 51, 52, 53, 54] (by decide +kernel) (by decide +kernel)
set_option maxRecDepth 20000 in
theorem gX7_gathersDue_X7_isDue : GoodIn wsX7_gathersDue (wsV RX7 170 RX7 yX7_isDue wsX7_isDue) := goodIn_app (goodIn_of _ (by decide +kernel)) ggX7_gathersDue_X7_isDue
set_option maxRecDepth 20000 in
theorem ggX7_gathersDue_X7_handsOf : GoodIn wsX7_gathersDue wsX7_handsOf := goodIn_r _ [22, 2, 23, 15, 16, 17, 7, 18, 9, 24, 25, 26, 27, 28, 29, 30, 31, 32, 33, 34, 35, 36, 37, 38, 39, 40, 41, 42, 43, 44, 45, 46, 47, 48, 49, 50, 51, 52, 53, 54] (by decide +kernel) (by decide +kernel)
set_option maxRecDepth 20000 in
theorem gX7_gathersDue_X7_handsOf : GoodIn wsX7_gathersDue (wsV RX7 159 RX7 yX7_handsOf wsX7_handsOf) := goodIn_app (goodIn_of _ (by decide +kernel)) ggX7_gathersDue_X7_handsOf
theorem dX7_gathersDue_0 : decode cX7_gathersDue 0 = .ok (.aload_n 0, 1) := by decide +kernel
theorem dX7_gathersDue_1 : decode cX7_gathersDue 1 = .ok (.iconst 0, 1) := by decide +kernel
theorem dX7_gathersDue_2 : decode cX7_gathersDue 2 = .ok (.putfield 179, 3) := by decide +kernel
theorem dX7_gathersDue_5 : decode cX7_gathersDue 5 = .ok (.iconst 0, 1) := by decide +kernel
theorem dX7_gathersDue_6 : decode cX7_gathersDue 6 = .ok (.istore_n 1, 1) := by decide +kernel
theorem dX7_gathersDue_7 : decode cX7_gathersDue 7 = .ok (.iload_n 1, 1) := by decide +kernel
theorem dX7_gathersDue_8 : decode cX7_gathersDue 8 = .ok (.aload_n 0, 1) := by decide +kernel
theorem dX7_gathersDue_9 : decode cX7_gathersDue 9 = .ok (.getfield 133, 3) := by decide +kernel
theorem dX7_gathersDue_12 : decode cX7_gathersDue 12 = .ok (.if_icmp .ge 49, 3) := by decide +kernel
theorem dX7_gathersDue_15 : decode cX7_gathersDue 15 = .ok (.aload_n 0, 1) := by decide +kernel
theorem dX7_gathersDue_16 : decode cX7_gathersDue 16 = .ok (.iload_n 1, 1) := by decide +kernel
theorem dX7_gathersDue_17 : decode cX7_gathersDue 17 = .ok (.invokevirtual 182, 3) := by decide +kernel
theorem dX7_gathersDue_20 : decode cX7_gathersDue 20 = .ok (.ifCond .eq 35, 3) := by decide +kernel
theorem dX7_gathersDue_23 : decode cX7_gathersDue 23 = .ok (.aload_n 0, 1) := by decide +kernel
theorem dX7_gathersDue_24 : decode cX7_gathersDue 24 = .ok (.iload_n 1, 1) := by decide +kernel
theorem dX7_gathersDue_25 : decode cX7_gathersDue 25 = .ok (.invokevirtual 170, 3) := by decide +kernel
theorem dX7_gathersDue_28 : decode cX7_gathersDue 28 = .ok (.ifCond .eq 27, 3) := by decide +kernel
theorem dX7_gathersDue_31 : decode cX7_gathersDue 31 = .ok (.aload_n 0, 1) := by decide +kernel
theorem dX7_gathersDue_32 : decode cX7_gathersDue 32 = .ok (.getfield 38, 3) := by decide +kernel
theorem dX7_gathersDue_35 : decode cX7_gathersDue 35 = .ok (.aload_n 0, 1) := by decide +kernel
theorem dX7_gathersDue_36 : decode cX7_gathersDue 36 = .ok (.getfield 179, 3) := by decide +kernel
theorem dX7_gathersDue_39 : decode cX7_gathersDue 39 = .ok (.aload_n 0, 1) := by decide +kernel
theorem dX7_gathersDue_40 : decode cX7_gathersDue 40 = .ok (.iload_n 1, 1) := by decide +kernel
theorem dX7_gathersDue_41 : decode cX7_gathersDue 41 = .ok (.invokevirtual 159, 3) := by decide +kernel
theorem dX7_gathersDue_44 : decode cX7_gathersDue 44 = .ok (.iastore, 1) := by decide +kernel
theorem dX7_gathersDue_45 : decode cX7_gathersDue 45 = .ok (.aload_n 0, 1) := by decide +kernel
theorem dX7_gathersDue_46 : decode cX7_gathersDue 46 = .ok (.dup, 1) := by decide +kernel
theorem dX7_gathersDue_47 : decode cX7_gathersDue 47 = .ok (.getfield 179, 3) := by decide +kernel
theorem dX7_gathersDue_50 : decode cX7_gathersDue 50 = .ok (.iconst 1, 1) := by decide +kernel
theorem dX7_gathersDue_51 : decode cX7_gathersDue 51 = .ok (.iadd, 1) := by decide +kernel
theorem dX7_gathersDue_52 : decode cX7_gathersDue 52 = .ok (.putfield 179, 3) := by decide +kernel
theorem dX7_gathersDue_55 : decode cX7_gathersDue 55 = .ok (.iinc 1 1, 3) := by decide +kernel
theorem dX7_gathersDue_58 : decode cX7_gathersDue 58 = .ok (.goto (-51), 3) := by decide +kernel
theorem dX7_gathersDue_61 : decode cX7_gathersDue 61 = .ok (.return_, 1) := by decide +kernel
theorem dX7_powerOfTen_0 : decode cX7_powerOfTen 0 = .ok (.iload_n 0, 1) := by decide +kernel
theorem dX7_powerOfTen_1 : decode cX7_powerOfTen 1 = .ok (.ifCond .ne 7, 3) := by decide +kernel
theorem dX7_powerOfTen_4 : decode cX7_powerOfTen 4 = .ok (.iconst 1, 1) := by decide +kernel
theorem dX7_powerOfTen_5 : decode cX7_powerOfTen 5 = .ok (.goto 26, 3) := by decide +kernel
theorem dX7_powerOfTen_8 : decode cX7_powerOfTen 8 = .ok (.iload_n 0, 1) := by decide +kernel
theorem dX7_powerOfTen_9 : decode cX7_powerOfTen 9 = .ok (.iconst 1, 1) := by decide +kernel
theorem dX7_powerOfTen_10 : decode cX7_powerOfTen 10 = .ok (.if_icmp .ne 8, 3) := by decide +kernel
theorem dX7_powerOfTen_13 : decode cX7_powerOfTen 13 = .ok (.bipush 10, 2) := by decide +kernel
theorem dX7_powerOfTen_15 : decode cX7_powerOfTen 15 = .ok (.goto 16, 3) := by decide +kernel
theorem dX7_powerOfTen_18 : decode cX7_powerOfTen 18 = .ok (.iload_n 0, 1) := by decide +kernel
theorem dX7_powerOfTen_19 : decode cX7_powerOfTen 19 = .ok (.iconst 2, 1) := by decide +kernel
theorem dX7_powerOfTen_20 : decode cX7_powerOfTen 20 = .ok (.if_icmp .ne 8, 3) := by decide +kernel
theorem dX7_powerOfTen_23 : decode cX7_powerOfTen 23 = .ok (.bipush 100, 2) := by decide +kernel
theorem dX7_powerOfTen_25 : decode cX7_powerOfTen 25 = .ok (.goto 6, 3) := by decide +kernel
theorem dX7_powerOfTen_28 : decode cX7_powerOfTen 28 = .ok (.sipush 1000, 3) := by decide +kernel
theorem dX7_powerOfTen_31 : decode cX7_powerOfTen 31 = .ok (.ireturn, 1) := by decide +kernel
set_option maxRecDepth 20000 in
theorem ggX7_cheapestBy_X7_gathersDue : GoodIn wsX7_cheapestBy wsX7_gathersDue := goodIn_r _ [10, 3, 11, 5, 12, 13, 14, 9, 15, 16, 17, 18, 19, 20, 21, 22, 23, 24, 25, 26, 27, 28, 29, 30, 31, 32, 33, 45, 46, 47, 48, 49, 50, 51, 52, 53, 54, 55, 56, 57, 58, 59, 60, 61, 62, 63, 64, 65, 66, 67, 68, 69, 70, 71, 72] (by decide +kernel) (by decide +kernel)
set_option maxRecDepth 20000 in
theorem gX7_cheapestBy_X7_gathersDue : GoodIn wsX7_cheapestBy (wsV RX7 185 RX7 yX7_gathersDue wsX7_gathersDue) := goodIn_app (goodIn_of _ (by decide +kernel)) ggX7_cheapestBy_X7_gathersDue
set_option maxRecDepth 20000 in
theorem ggX7_cheapestBy_X7_powerOfTen : GoodIn wsX7_cheapestBy wsX7_powerOfTen := goodIn_r _ [36] (by decide +kernel) (by decide +kernel)
set_option maxRecDepth 20000 in
theorem gX7_cheapestBy_X7_powerOfTen : GoodIn wsX7_cheapestBy (va_wsS RX7 188 yX7_powerOfTen wsX7_powerOfTen) := goodIn_app (goodIn_of _ (by decide +kernel)) ggX7_cheapestBy_X7_powerOfTen
set_option maxRecDepth 20000 in
theorem ggX7_cheapestBy_X7_ones : GoodIn wsX7_cheapestBy wsX7_ones := goodIn_r _ [39] (by decide +kernel) (by decide +kernel)
set_option maxRecDepth 20000 in
theorem gX7_cheapestBy_X7_ones : GoodIn wsX7_cheapestBy (va_wsS RX7 156 yX7_ones wsX7_ones) := goodIn_app (goodIn_of _ (by decide +kernel)) ggX7_cheapestBy_X7_ones
set_option maxRecDepth 20000 in
theorem ggX7_cheapestBy_X7_liftsAll : GoodIn wsX7_cheapestBy wsX7_liftsAll := goodIn_r _ [43, 1, 44, 2, 16, 4, 34, 35, 9, 36, 45, 46, 47, 48, 49, 50, 51, 52, 53, 54, 55, 56, 57, 58, 59, 60, 61, 62, 63, 64, 65, 66, 67, 68, 69, 70, 71, 72] (by decide +kernel) (by decide +kernel)
set_option maxRecDepth 20000 in
theorem gX7_cheapestBy_X7_liftsAll : GoodIn wsX7_cheapestBy (wsV RX7 191 RX7 yX7_liftsAll wsX7_liftsAll) := goodIn_app (goodIn_of _ (by decide +kernel)) ggX7_cheapestBy_X7_liftsAll
theorem dX7_cheapestBy_0 : decode cX7_cheapestBy 0 = .ok (.aload_n 0, 1) := by decide +kernel
theorem dX7_cheapestBy_1 : decode cX7_cheapestBy 1 = .ok (.invokevirtual 185, 3) := by decide +kernel
theorem dX7_cheapestBy_4 : decode cX7_cheapestBy 4 = .ok (.aload_n 0, 1) := by decide +kernel
theorem dX7_cheapestBy_5 : decode cX7_cheapestBy 5 = .ok (.getfield 130, 3) := by decide +kernel
theorem dX7_cheapestBy_8 : decode cX7_cheapestBy 8 = .ok (.iconst 4, 1) := by decide +kernel
theorem dX7_cheapestBy_9 : decode cX7_cheapestBy 9 = .ok (.if_icmp .ne 9, 3) := by decide +kernel
theorem dX7_cheapestBy_12 : decode cX7_cheapestBy 12 = .ok (.sipush 10000, 3) := by decide +kernel
theorem dX7_cheapestBy_15 : decode cX7_cheapestBy 15 = .ok (.goto 10, 3) := by decide +kernel
theorem dX7_cheapestBy_18 : decode cX7_cheapestBy 18 = .ok (.aload_n 0, 1) := by decide +kernel
theorem dX7_cheapestBy_19 : decode cX7_cheapestBy 19 = .ok (.getfield 130, 3) := by decide +kernel
theorem dX7_cheapestBy_22 : decode cX7_cheapestBy 22 = .ok (.invokestatic 188, 3) := by decide +kernel
theorem dX7_cheapestBy_25 : decode cX7_cheapestBy 25 = .ok (.istore_n 2, 1) := by decide +kernel
theorem dX7_cheapestBy_26 : decode cX7_cheapestBy 26 = .ok (.iconst 0, 1) := by decide +kernel
theorem dX7_cheapestBy_27 : decode cX7_cheapestBy 27 = .ok (.istore_n 3, 1) := by decide +kernel
theorem dX7_cheapestBy_28 : decode cX7_cheapestBy 28 = .ok (.iload_n 3, 1) := by decide +kernel
theorem dX7_cheapestBy_29 : decode cX7_cheapestBy 29 = .ok (.iload_n 2, 1) := by decide +kernel
theorem dX7_cheapestBy_30 : decode cX7_cheapestBy 30 = .ok (.if_icmp .ge 25, 3) := by decide +kernel
theorem dX7_cheapestBy_33 : decode cX7_cheapestBy 33 = .ok (.aload_n 0, 1) := by decide +kernel
theorem dX7_cheapestBy_34 : decode cX7_cheapestBy 34 = .ok (.getfield 41, 3) := by decide +kernel
theorem dX7_cheapestBy_37 : decode cX7_cheapestBy 37 = .ok (.iload_n 3, 1) := by decide +kernel
theorem dX7_cheapestBy_38 : decode cX7_cheapestBy 38 = .ok (.iload_n 3, 1) := by decide +kernel
theorem dX7_cheapestBy_39 : decode cX7_cheapestBy 39 = .ok (.ifCond .ne 7, 3) := by decide +kernel
theorem dX7_cheapestBy_42 : decode cX7_cheapestBy 42 = .ok (.iconst 0, 1) := by decide +kernel
theorem dX7_cheapestBy_43 : decode cX7_cheapestBy 43 = .ok (.goto 5, 3) := by decide +kernel
theorem dX7_cheapestBy_46 : decode cX7_cheapestBy 46 = .ok (.bipush (-9), 2) := by decide +kernel
theorem dX7_cheapestBy_48 : decode cX7_cheapestBy 48 = .ok (.iastore, 1) := by decide +kernel
theorem dX7_cheapestBy_49 : decode cX7_cheapestBy 49 = .ok (.iinc 3 1, 3) := by decide +kernel
theorem dX7_cheapestBy_52 : decode cX7_cheapestBy 52 = .ok (.goto (-24), 3) := by decide +kernel
theorem dX7_cheapestBy_55 : decode cX7_cheapestBy 55 = .ok (.iconst 0, 1) := by decide +kernel
theorem dX7_cheapestBy_56 : decode cX7_cheapestBy 56 = .ok (.istore_n 3, 1) := by decide +kernel
theorem dX7_cheapestBy_57 : decode cX7_cheapestBy 57 = .ok (.iload_n 3, 1) := by decide +kernel
theorem dX7_cheapestBy_58 : decode cX7_cheapestBy 58 = .ok (.aload_n 0, 1) := by decide +kernel
theorem dX7_cheapestBy_59 : decode cX7_cheapestBy 59 = .ok (.getfield 179, 3) := by decide +kernel
theorem dX7_cheapestBy_62 : decode cX7_cheapestBy 62 = .ok (.if_icmp .ge 107, 3) := by decide +kernel
theorem dX7_cheapestBy_65 : decode cX7_cheapestBy 65 = .ok (.iconst 0, 1) := by decide +kernel
theorem dX7_cheapestBy_66 : decode cX7_cheapestBy 66 = .ok (.istore 4, 2) := by decide +kernel
theorem dX7_cheapestBy_68 : decode cX7_cheapestBy 68 = .ok (.iload 4, 2) := by decide +kernel
theorem dX7_cheapestBy_70 : decode cX7_cheapestBy 70 = .ok (.iload_n 2, 1) := by decide +kernel
theorem dX7_cheapestBy_71 : decode cX7_cheapestBy 71 = .ok (.if_icmp .ge 18, 3) := by decide +kernel
theorem dX7_cheapestBy_74 : decode cX7_cheapestBy 74 = .ok (.aload_n 0, 1) := by decide +kernel
theorem dX7_cheapestBy_75 : decode cX7_cheapestBy 75 = .ok (.getfield 44, 3) := by decide +kernel
theorem dX7_cheapestBy_78 : decode cX7_cheapestBy 78 = .ok (.iload 4, 2) := by decide +kernel
theorem dX7_cheapestBy_80 : decode cX7_cheapestBy 80 = .ok (.bipush (-9), 2) := by decide +kernel
theorem dX7_cheapestBy_82 : decode cX7_cheapestBy 82 = .ok (.iastore, 1) := by decide +kernel
theorem dX7_cheapestBy_83 : decode cX7_cheapestBy 83 = .ok (.iinc 4 1, 3) := by decide +kernel
theorem dX7_cheapestBy_86 : decode cX7_cheapestBy 86 = .ok (.goto (-18), 3) := by decide +kernel
theorem dX7_cheapestBy_89 : decode cX7_cheapestBy 89 = .ok (.iconst 0, 1) := by decide +kernel
theorem dX7_cheapestBy_90 : decode cX7_cheapestBy 90 = .ok (.istore 4, 2) := by decide +kernel
theorem dX7_cheapestBy_92 : decode cX7_cheapestBy 92 = .ok (.iload 4, 2) := by decide +kernel
theorem dX7_cheapestBy_94 : decode cX7_cheapestBy 94 = .ok (.bipush 16, 2) := by decide +kernel
theorem dX7_cheapestBy_96 : decode cX7_cheapestBy 96 = .ok (.if_icmp .ge 38, 3) := by decide +kernel
theorem dX7_cheapestBy_99 : decode cX7_cheapestBy 99 = .ok (.iload 4, 2) := by decide +kernel
theorem dX7_cheapestBy_101 : decode cX7_cheapestBy 101 = .ok (.iload_n 1, 1) := by decide +kernel
theorem dX7_cheapestBy_102 : decode cX7_cheapestBy 102 = .ok (.iconst (-1), 1) := by decide +kernel
theorem dX7_cheapestBy_103 : decode cX7_cheapestBy 103 = .ok (.ixor, 1) := by decide +kernel
theorem dX7_cheapestBy_104 : decode cX7_cheapestBy 104 = .ok (.iand, 1) := by decide +kernel
theorem dX7_cheapestBy_105 : decode cX7_cheapestBy 105 = .ok (.ifCond .ne 23, 3) := by decide +kernel
theorem dX7_cheapestBy_108 : decode cX7_cheapestBy 108 = .ok (.iload 4, 2) := by decide +kernel
theorem dX7_cheapestBy_110 : decode cX7_cheapestBy 110 = .ok (.invokestatic 156, 3) := by decide +kernel
theorem dX7_cheapestBy_113 : decode cX7_cheapestBy 113 = .ok (.aload_n 0, 1) := by decide +kernel
theorem dX7_cheapestBy_114 : decode cX7_cheapestBy 114 = .ok (.getfield 38, 3) := by decide +kernel
theorem dX7_cheapestBy_117 : decode cX7_cheapestBy 117 = .ok (.iload_n 3, 1) := by decide +kernel
theorem dX7_cheapestBy_118 : decode cX7_cheapestBy 118 = .ok (.iaload, 1) := by decide +kernel
theorem dX7_cheapestBy_119 : decode cX7_cheapestBy 119 = .ok (.if_icmp .ne 9, 3) := by decide +kernel
theorem dX7_cheapestBy_122 : decode cX7_cheapestBy 122 = .ok (.aload_n 0, 1) := by decide +kernel
theorem dX7_cheapestBy_123 : decode cX7_cheapestBy 123 = .ok (.iload 4, 2) := by decide +kernel
theorem dX7_cheapestBy_125 : decode cX7_cheapestBy 125 = .ok (.invokevirtual 191, 3) := by decide +kernel
theorem dX7_cheapestBy_128 : decode cX7_cheapestBy 128 = .ok (.iinc 4 1, 3) := by decide +kernel
theorem dX7_cheapestBy_131 : decode cX7_cheapestBy 131 = .ok (.goto (-39), 3) := by decide +kernel
theorem dX7_cheapestBy_134 : decode cX7_cheapestBy 134 = .ok (.iconst 0, 1) := by decide +kernel
theorem dX7_cheapestBy_135 : decode cX7_cheapestBy 135 = .ok (.istore 4, 2) := by decide +kernel
theorem dX7_cheapestBy_137 : decode cX7_cheapestBy 137 = .ok (.iload 4, 2) := by decide +kernel
theorem dX7_cheapestBy_139 : decode cX7_cheapestBy 139 = .ok (.iload_n 2, 1) := by decide +kernel
theorem dX7_cheapestBy_140 : decode cX7_cheapestBy 140 = .ok (.if_icmp .ge 23, 3) := by decide +kernel
theorem dX7_cheapestBy_143 : decode cX7_cheapestBy 143 = .ok (.aload_n 0, 1) := by decide +kernel
theorem dX7_cheapestBy_144 : decode cX7_cheapestBy 144 = .ok (.getfield 41, 3) := by decide +kernel
theorem dX7_cheapestBy_147 : decode cX7_cheapestBy 147 = .ok (.iload 4, 2) := by decide +kernel
