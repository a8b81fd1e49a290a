set_option maxRecDepth 20000 in
theorem ggX7_init_X7_begins : GoodIn wsX7_init wsX7_begins := goodIn_r _ [24, 11, 25, 8, 26, 27, 28, 23, 29, 30, 6, 31, 32, 33, 34, 35, 36, 37, 38, 39, 40, 41, 42, 43, 44, 45, 46, 47, 48, 49, 50, 51, 52, 53, 54, 55, 56, 57, 58] (by decide +kernel) (by decide +kernel)
set_option maxRecDepth 20000 in
theorem gX7_init_X7_begins : GoodIn wsX7_init (wsV RX7 54 RX7 yX7_begins wsX7_begins) := goodIn_app (goodIn_of _ (by decide +kernel)) ggX7_init_X7_begins
theorem dX7_init_0 : decode cX7_init 0 = .ok (.aload_n 0, 1) := by decide +kernel
theorem dX7_init_1 : decode cX7_init 1 = .ok (.invokespecial 1, 3) := by decide +kernel
theorem dX7_init_4 : decode cX7_init 4 = .ok (.aload_n 0, 1) := by decide +kernel
theorem dX7_init_5 : decode cX7_init 5 = .ok (.sipush 300, 3) := by decide +kernel
theorem dX7_init_8 : decode cX7_init 8 = .ok (.newarray .int, 2) := by decide +kernel
theorem dX7_init_10 : decode cX7_init 10 = .ok (.putfield 7, 3) := by decide +kernel
theorem dX7_init_13 : decode cX7_init 13 = .ok (.aload_n 0, 1) := by decide +kernel
theorem dX7_init_14 : decode cX7_init 14 = .ok (.bipush 8, 2) := by decide +kernel
theorem dX7_init_16 : decode cX7_init 16 = .ok (.newarray .int, 2) := by decide +kernel
theorem dX7_init_18 : decode cX7_init 18 = .ok (.putfield 13, 3) := by decide +kernel
theorem dX7_init_21 : decode cX7_init 21 = .ok (.aload_n 0, 1) := by decide +kernel
theorem dX7_init_22 : decode cX7_init 22 = .ok (.bipush 8, 2) := by decide +kernel
theorem dX7_init_24 : decode cX7_init 24 = .ok (.newarray .int, 2) := by decide +kernel
theorem dX7_init_26 : decode cX7_init 26 = .ok (.putfield 16, 3) := by decide +kernel
theorem dX7_init_29 : decode cX7_init 29 = .ok (.aload_n 0, 1) := by decide +kernel
theorem dX7_init_30 : decode cX7_init 30 = .ok (.bipush 16, 2) := by decide +kernel
theorem dX7_init_32 : decode cX7_init 32 = .ok (.newarray .int, 2) := by decide +kernel
theorem dX7_init_34 : decode cX7_init 34 = .ok (.putfield 19, 3) := by decide +kernel
theorem dX7_init_37 : decode cX7_init 37 = .ok (.aload_n 0, 1) := by decide +kernel
theorem dX7_init_38 : decode cX7_init 38 = .ok (.bipush 16, 2) := by decide +kernel
theorem dX7_init_40 : decode cX7_init 40 = .ok (.newarray .int, 2) := by decide +kernel
theorem dX7_init_42 : decode cX7_init 42 = .ok (.putfield 22, 3) := by decide +kernel
theorem dX7_init_45 : decode cX7_init 45 = .ok (.aload_n 0, 1) := by decide +kernel
theorem dX7_init_46 : decode cX7_init 46 = .ok (.bipush 16, 2) := by decide +kernel
theorem dX7_init_48 : decode cX7_init 48 = .ok (.newarray .int, 2) := by decide +kernel
theorem dX7_init_50 : decode cX7_init 50 = .ok (.putfield 25, 3) := by decide +kernel
theorem dX7_init_53 : decode cX7_init 53 = .ok (.aload_n 0, 1) := by decide +kernel
theorem dX7_init_54 : decode cX7_init 54 = .ok (.bipush 21, 2) := by decide +kernel
theorem dX7_init_56 : decode cX7_init 56 = .ok (.newarray .int, 2) := by decide +kernel
theorem dX7_init_58 : decode cX7_init 58 = .ok (.putfield 28, 3) := by decide +kernel
theorem dX7_init_61 : decode cX7_init 61 = .ok (.aload_n 0, 1) := by decide +kernel
theorem dX7_init_62 : decode cX7_init 62 = .ok (.bipush 42, 2) := by decide +kernel
theorem dX7_init_64 : decode cX7_init 64 = .ok (.newarray .int, 2) := by decide +kernel
theorem dX7_init_66 : decode cX7_init 66 = .ok (.putfield 31, 3) := by decide +kernel
theorem dX7_init_69 : decode cX7_init 69 = .ok (.aload_n 0, 1) := by decide +kernel
theorem dX7_init_70 : decode cX7_init 70 = .ok (.iconst 2, 1) := by decide +kernel
theorem dX7_init_71 : decode cX7_init 71 = .ok (.newarray .boolean, 2) := by decide +kernel
theorem dX7_init_73 : decode cX7_init 73 = .ok (.putfield 34, 3) := by decide +kernel
theorem dX7_init_76 : decode cX7_init 76 = .ok (.aload_n 0, 1) := by decide +kernel
theorem dX7_init_77 : decode cX7_init 77 = .ok (.bipush 8, 2) := by decide +kernel
theorem dX7_init_79 : decode cX7_init 79 = .ok (.newarray .int, 2) := by decide +kernel
theorem dX7_init_81 : decode cX7_init 81 = .ok (.putfield 38, 3) := by decide +kernel
theorem dX7_init_84 : decode cX7_init 84 = .ok (.aload_n 0, 1) := by decide +kernel
theorem dX7_init_85 : decode cX7_init 85 = .ok (.sipush 10000, 3) := by decide +kernel
theorem dX7_init_88 : decode cX7_init 88 = .ok (.newarray .int, 2) := by decide +kernel
theorem dX7_init_90 : decode cX7_init 90 = .ok (.putfield 41, 3) := by decide +kernel
theorem dX7_init_93 : decode cX7_init 93 = .ok (.aload_n 0, 1) := by decide +kernel
theorem dX7_init_94 : decode cX7_init 94 = .ok (.sipush 10000, 3) := by decide +kernel
theorem dX7_init_97 : decode cX7_init 97 = .ok (.newarray .int, 2) := by decide +kernel
theorem dX7_init_99 : decode cX7_init 99 = .ok (.putfield 44, 3) := by decide +kernel
theorem dX7_init_102 : decode cX7_init 102 = .ok (.aload_n 0, 1) := by decide +kernel
theorem dX7_init_103 : decode cX7_init 103 = .ok (.iconst 4, 1) := by decide +kernel
theorem dX7_init_104 : decode cX7_init 104 = .ok (.newarray .int, 2) := by decide +kernel
theorem dX7_init_106 : decode cX7_init 106 = .ok (.putfield 47, 3) := by decide +kernel
theorem dX7_init_109 : decode cX7_init 109 = .ok (.aload_n 0, 1) := by decide +kernel
theorem dX7_init_110 : decode cX7_init 110 = .ok (.iconst 4, 1) := by decide +kernel
theorem dX7_init_111 : decode cX7_init 111 = .ok (.putfield 50, 3) := by decide +kernel
theorem dX7_init_114 : decode cX7_init 114 = .ok (.aload_n 0, 1) := by decide +kernel
theorem dX7_init_115 : decode cX7_init 115 = .ok (.invokevirtual 54, 3) := by decide +kernel
theorem dX7_init_118 : decode cX7_init 118 = .ok (.return_, 1) := by decide +kernel
theorem dX7_in_0 : decode cX7_in 0 = .ok (.iload_n 0, 1) := by decide +kernel
theorem dX7_in_1 : decode cX7_in 1 = .ok (.iload_n 1, 1) := by decide +kernel
theorem dX7_in_2 : decode cX7_in 2 = .ok (.if_icmp .lt 12, 3) := by decide +kernel
theorem dX7_in_5 : decode cX7_in 5 = .ok (.iload_n 0, 1) := by decide +kernel
theorem dX7_in_6 : decode cX7_in 6 = .ok (.iload_n 2, 1) := by decide +kernel
theorem dX7_in_7 : decode cX7_in 7 = .ok (.if_icmp .gt 7, 3) := by decide +kernel
theorem dX7_in_10 : decode cX7_in 10 = .ok (.iconst 1, 1) := by decide +kernel
theorem dX7_in_11 : decode cX7_in 11 = .ok (.goto 4, 3) := by decide +kernel
theorem dX7_in_14 : decode cX7_in 14 = .ok (.iconst 0, 1) := by decide +kernel
theorem dX7_in_15 : decode cX7_in 15 = .ok (.ireturn, 1) := by decide +kernel
theorem dX7_greater_0 : decode cX7_greater 0 = .ok (.iload_n 0, 1) := by decide +kernel
theorem dX7_greater_1 : decode cX7_greater 1 = .ok (.iload_n 1, 1) := by decide +kernel
theorem dX7_greater_2 : decode cX7_greater 2 = .ok (.if_icmp .le 7, 3) := by decide +kernel
theorem dX7_greater_5 : decode cX7_greater 5 = .ok (.iload_n 0, 1) := by decide +kernel
theorem dX7_greater_6 : decode cX7_greater 6 = .ok (.goto 4, 3) := by decide +kernel
theorem dX7_greater_9 : decode cX7_greater 9 = .ok (.iload_n 1, 1) := by decide +kernel
theorem dX7_greater_10 : decode cX7_greater 10 = .ok (.ireturn, 1) := by decide +kernel
set_option maxRecDepth 20000 in
theorem ggX7_type_X7_in : GoodIn wsX7_type wsX7_in := goodIn_r _ [8] (by decide +kernel) (by decide +kernel)
set_option maxRecDepth 20000 in
theorem gX7_type_X7_in : GoodIn wsX7_type (va_wsS RX7 60 yX7_in wsX7_in) := goodIn_app (goodIn_of _ (by decide +kernel)) ggX7_type_X7_in
theorem dX7_type_0 : decode cX7_type 0 = .ok (.aload_n 0, 1) := by decide +kernel
theorem dX7_type_1 : decode cX7_type 1 = .ok (.iconst 0, 1) := by decide +kernel
theorem dX7_type_2 : decode cX7_type 2 = .ok (.putfield 57, 3) := by decide +kernel
theorem dX7_type_5 : decode cX7_type 5 = .ok (.iload_n 3, 1) := by decide +kernel
theorem dX7_type_6 : decode cX7_type 6 = .ok (.iconst 1, 1) := by decide +kernel
theorem dX7_type_7 : decode cX7_type 7 = .ok (.bipush 8, 2) := by decide +kernel
theorem dX7_type_9 : decode cX7_type 9 = .ok (.invokestatic 60, 3) := by decide +kernel
theorem dX7_type_12 : decode cX7_type 12 = .ok (.ifCond .ne 5, 3) := by decide +kernel
theorem dX7_type_15 : decode cX7_type 15 = .ok (.iconst (-1), 1) := by decide +kernel
theorem dX7_type_16 : decode cX7_type 16 = .ok (.ireturn, 1) := by decide +kernel
theorem dX7_type_17 : decode cX7_type 17 = .ok (.aload_n 0, 1) := by decide +kernel
theorem dX7_type_18 : decode cX7_type 18 = .ok (.getfield 64, 3) := by decide +kernel
theorem dX7_type_21 : decode cX7_type 21 = .ok (.iload_n 3, 1) := by decide +kernel
theorem dX7_type_22 : decode cX7_type 22 = .ok (.iadd, 1) := by decide +kernel
theorem dX7_type_23 : decode cX7_type 23 = .ok (.sipush 300, 3) := by decide +kernel
theorem dX7_type_26 : decode cX7_type 26 = .ok (.if_icmp .le 6, 3) := by decide +kernel
theorem dX7_type_29 : decode cX7_type 29 = .ok (.bipush (-3), 2) := by decide +kernel
theorem dX7_type_31 : decode cX7_type 31 = .ok (.ireturn, 1) := by decide +kernel
theorem dX7_type_32 : decode cX7_type 32 = .ok (.iload_n 3, 1) := by decide +kernel
theorem dX7_type_33 : decode cX7_type 33 = .ok (.iconst 1, 1) := by decide +kernel
theorem dX7_type_34 : decode cX7_type 34 = .ok (.isub, 1) := by decide +kernel
theorem dX7_type_35 : decode cX7_type 35 = .ok (.istore 4, 2) := by decide +kernel
theorem dX7_type_37 : decode cX7_type 37 = .ok (.iload 4, 2) := by decide +kernel
theorem dX7_type_39 : decode cX7_type 39 = .ok (.ifCond .lt 40, 3) := by decide +kernel
theorem dX7_type_42 : decode cX7_type 42 = .ok (.aload_n 0, 1) := by decide +kernel
theorem dX7_type_43 : decode cX7_type 43 = .ok (.getfield 7, 3) := by decide +kernel
theorem dX7_type_46 : decode cX7_type 46 = .ok (.aload_n 0, 1) := by decide +kernel
theorem dX7_type_47 : decode cX7_type 47 = .ok (.getfield 64, 3) := by decide +kernel
theorem dX7_type_50 : decode cX7_type 50 = .ok (.lload_n 1, 1) := by decide +kernel
theorem dX7_type_51 : decode cX7_type 51 = .ok (.bipush 8, 2) := by decide +kernel
theorem dX7_type_53 : decode cX7_type 53 = .ok (.iload 4, 2) := by decide +kernel
theorem dX7_type_55 : decode cX7_type 55 = .ok (.imul, 1) := by decide +kernel
theorem dX7_type_56 : decode cX7_type 56 = .ok (.lshr, 1) := by decide +kernel
theorem dX7_type_57 : decode cX7_type 57 = .ok (.ldc2_w 67, 3) := by decide +kernel
theorem dX7_type_60 : decode cX7_type 60 = .ok (.land, 1) := by decide +kernel
theorem dX7_type_61 : decode cX7_type 61 = .ok (.l2i, 1) := by decide +kernel
theorem dX7_type_62 : decode cX7_type 62 = .ok (.iastore, 1) := by decide +kernel
theorem dX7_type_63 : decode cX7_type 63 = .ok (.aload_n 0, 1) := by decide +kernel
theorem dX7_type_64 : decode cX7_type 64 = .ok (.dup, 1) := by decide +kernel
theorem dX7_type_65 : decode cX7_type 65 = .ok (.getfield 64, 3) := by decide +kernel
theorem dX7_type_68 : decode cX7_type 68 = .ok (.iconst 1, 1) := by decide +kernel
theorem dX7_type_69 : decode cX7_type 69 = .ok (.iadd, 1) := by decide +kernel
theorem dX7_type_70 : decode cX7_type 70 = .ok (.putfield 64, 3) := by decide +kernel
theorem dX7_type_73 : decode cX7_type 73 = .ok (.iinc 4 (-1), 3) := by decide +kernel
theorem dX7_type_76 : decode cX7_type 76 = .ok (.goto (-39), 3) := by decide +kernel
theorem dX7_type_79 : decode cX7_type 79 = .ok (.aload_n 0, 1) := by decide +kernel
theorem dX7_type_80 : decode cX7_type 80 = .ok (.getfield 64, 3) := by decide +kernel
theorem dX7_type_83 : decode cX7_type 83 = .ok (.ireturn, 1) := by decide +kernel
theorem dX7_clear_0 : decode cX7_clear 0 = .ok (.aload_n 0, 1) := by decide +kernel
theorem dX7_clear_1 : decode cX7_clear 1 = .ok (.iconst 0, 1) := by decide +kernel
theorem dX7_clear_2 : decode cX7_clear 2 = .ok (.putfield 57, 3) := by decide +kernel
theorem dX7_clear_5 : decode cX7_clear 5 = .ok (.aload_n 0, 1) := by decide +kernel
theorem dX7_clear_6 : decode cX7_clear 6 = .ok (.getfield 64, 3) := by decide +kernel
theorem dX7_clear_9 : decode cX7_clear 9 = .ok (.istore_n 1, 1) := by decide +kernel
theorem dX7_clear_10 : decode cX7_clear 10 = .ok (.aload_n 0, 1) := by decide +kernel
theorem dX7_clear_11 : decode cX7_clear 11 = .ok (.iconst 0, 1) := by decide +kernel
theorem dX7_clear_12 : decode cX7_clear 12 = .ok (.putfield 64, 3) := by decide +kernel
theorem dX7_clear_15 : decode cX7_clear 15 = .ok (.iload_n 1, 1) := by decide +kernel
theorem dX7_clear_16 : decode cX7_clear 16 = .ok (.ireturn, 1) := by decide +kernel
theorem dX7_byteAt_0 : decode cX7_byteAt 0 = .ok (.iload_n 1, 1) := by decide +kernel
theorem dX7_byteAt_1 : decode cX7_byteAt 1 = .ok (.aload_n 0, 1) := by decide +kernel
theorem dX7_byteAt_2 : decode cX7_byteAt 2 = .ok (.getfield 64, 3) := by decide +kernel
theorem dX7_byteAt_5 : decode cX7_byteAt 5 = .ok (.if_icmp .ge 12, 3) := by decide +kernel
theorem dX7_byteAt_8 : decode cX7_byteAt 8 = .ok (.aload_n 0, 1) := by decide +kernel
theorem dX7_byteAt_9 : decode cX7_byteAt 9 = .ok (.getfield 7, 3) := by decide +kernel
theorem dX7_byteAt_12 : decode cX7_byteAt 12 = .ok (.iload_n 1, 1) := by decide +kernel
theorem dX7_byteAt_13 : decode cX7_byteAt 13 = .ok (.iaload, 1) := by decide +kernel
theorem dX7_byteAt_14 : decode cX7_byteAt 14 = .ok (.goto 4, 3) := by decide +kernel
theorem dX7_byteAt_17 : decode cX7_byteAt 17 = .ok (.iconst (-1), 1) := by decide +kernel
theorem dX7_byteAt_18 : decode cX7_byteAt 18 = .ok (.ireturn, 1) := by decide +kernel
theorem dX7_add_0 : decode cX7_add 0 = .ok (.iload_n 2, 1) := by decide +kernel
theorem dX7_add_1 : decode cX7_add 1 = .ok (.ifCond .ne 7, 3) := by decide +kernel
theorem dX7_add_4 : decode cX7_add 4 = .ok (.lload_n 0, 1) := by decide +kernel
theorem dX7_add_5 : decode cX7_add 5 = .ok (.goto 11, 3) := by decide +kernel
theorem dX7_add_8 : decode cX7_add 8 = .ok (.ldc2_w 69, 3) := by decide +kernel
theorem dX7_add_11 : decode cX7_add 11 = .ok (.lload_n 0, 1) := by decide +kernel
theorem dX7_add_12 : decode cX7_add 12 = .ok (.lmul, 1) := by decide +kernel
theorem dX7_add_13 : decode cX7_add 13 = .ok (.iload_n 2, 1) := by decide +kernel
theorem dX7_add_14 : decode cX7_add 14 = .ok (.i2l, 1) := by decide +kernel
theorem dX7_add_15 : decode cX7_add 15 = .ok (.ladd, 1) := by decide +kernel
theorem dX7_add_16 : decode cX7_add 16 = .ok (.lreturn, 1) := by decide +kernel
set_option maxRecDepth 20000 in
theorem ggX7_named_X7_add : GoodIn wsX7_named wsX7_add := goodIn_r _ [4, 5] (by decide +kernel) (by decide +kernel)
set_option maxRecDepth 20000 in
theorem gX7_named_X7_add : GoodIn wsX7_named (va_wsS RX7 71 yX7_add wsX7_add) := goodIn_app (goodIn_of _ (by decide +kernel)) ggX7_named_X7_add
theorem dX7_named_0 : decode cX7_named 0 = .ok (.lconst 0, 1) := by decide +kernel
theorem dX7_named_1 : decode cX7_named 1 = .ok (.iload_n 0, 1) := by decide +kernel
theorem dX7_named_2 : decode cX7_named 2 = .ok (.invokestatic 71, 3) := by decide +kernel
theorem dX7_named_5 : decode cX7_named 5 = .ok (.iload_n 1, 1) := by decide +kernel
theorem dX7_named_6 : decode cX7_named 6 = .ok (.invokestatic 71, 3) := by decide +kernel
theorem dX7_named_9 : decode cX7_named 9 = .ok (.iload_n 2, 1) := by decide +kernel
theorem dX7_named_10 : decode cX7_named 10 = .ok (.invokestatic 71, 3) := by decide +kernel
theorem dX7_named_13 : decode cX7_named 13 = .ok (.iload_n 3, 1) := by decide +kernel
theorem dX7_named_14 : decode cX7_named 14 = .ok (.invokestatic 71, 3) := by decide +kernel
theorem dX7_named_17 : decode cX7_named 17 = .ok (.iload 4, 2) := by decide +kernel
theorem dX7_named_19 : decode cX7_named 19 = .ok (.invokestatic 71, 3) := by decide +kernel
theorem dX7_named_22 : decode cX7_named 22 = .ok (.iload 5, 2) := by decide +kernel
theorem dX7_named_24 : decode cX7_named 24 = .ok (.invokestatic 71, 3) := by decide +kernel
theorem dX7_named_27 : decode cX7_named 27 = .ok (.lreturn, 1) := by decide +kernel
set_option maxRecDepth 20000 in
theorem ggX7_wordOf_X7_named : GoodIn wsX7_wordOf wsX7_named := goodIn_r _ [4, 5, 6, 3, 7, 8] (by decide +kernel) (by decide +kernel)
set_option maxRecDepth 20000 in
theorem gX7_wordOf_X7_named : GoodIn wsX7_wordOf (va_wsS RX7 75 yX7_named wsX7_named) := goodIn_app (goodIn_of _ (by decide +kernel)) ggX7_wordOf_X7_named
theorem dX7_wordOf_0 : decode cX7_wordOf 0 = .ok (.lload_n 0, 1) := by decide +kernel
theorem dX7_wordOf_1 : decode cX7_wordOf 1 = .ok (.bipush 114, 2) := by decide +kernel
theorem dX7_wordOf_3 : decode cX7_wordOf 3 = .ok (.bipush 111, 2) := by decide +kernel
theorem dX7_wordOf_5 : decode cX7_wordOf 5 = .ok (.bipush 111, 2) := by decide +kernel
theorem dX7_wordOf_7 : decode cX7_wordOf 7 = .ok (.bipush 109, 2) := by decide +kernel
theorem dX7_wordOf_9 : decode cX7_wordOf 9 = .ok (.bipush 115, 2) := by decide +kernel
theorem dX7_wordOf_11 : decode cX7_wordOf 11 = .ok (.iconst 0, 1) := by decide +kernel
theorem dX7_wordOf_12 : decode cX7_wordOf 12 = .ok (.invokestatic 75, 3) := by decide +kernel
theorem dX7_wordOf_15 : decode cX7_wordOf 15 = .ok (.lcmp, 1) := by decide +kernel
theorem dX7_wordOf_16 : decode cX7_wordOf 16 = .ok (.ifCond .ne 7, 3) := by decide +kernel
theorem dX7_wordOf_19 : decode cX7_wordOf 19 = .ok (.iconst 0, 1) := by decide +kernel
theorem dX7_wordOf_20 : decode cX7_wordOf 20 = .ok (.goto 29, 3) := by decide +kernel
theorem dX7_wordOf_23 : decode cX7_wordOf 23 = .ok (.lload_n 0, 1) := by decide +kernel
theorem dX7_wordOf_24 : decode cX7_wordOf 24 = .ok (.bipush 112, 2) := by decide +kernel
theorem dX7_wordOf_26 : decode cX7_wordOf 26 = .ok (.bipush 101, 2) := by decide +kernel
theorem dX7_wordOf_28 : decode cX7_wordOf 28 = .ok (.bipush 114, 2) := by decide +kernel
theorem dX7_wordOf_30 : decode cX7_wordOf 30 = .ok (.bipush 115, 2) := by decide +kernel
theorem dX7_wordOf_32 : decode cX7_wordOf 32 = .ok (.bipush 111, 2) := by decide +kernel
theorem dX7_wordOf_34 : decode cX7_wordOf 34 = .ok (.bipush 110, 2) := by decide +kernel
theorem dX7_wordOf_36 : decode cX7_wordOf 36 = .ok (.invokestatic 75, 3) := by decide +kernel
theorem dX7_wordOf_39 : decode cX7_wordOf 39 = .ok (.lcmp, 1) := by decide +kernel
theorem dX7_wordOf_40 : decode cX7_wordOf 40 = .ok (.ifCond .ne 7, 3) := by decide +kernel
theorem dX7_wordOf_43 : decode cX7_wordOf 43 = .ok (.iconst 1, 1) := by decide +kernel
theorem dX7_wordOf_44 : decode cX7_wordOf 44 = .ok (.goto 5, 3) := by decide +kernel
theorem dX7_wordOf_47 : decode cX7_wordOf 47 = .ok (.bipush (-9), 2) := by decide +kernel
theorem dX7_wordOf_49 : decode cX7_wordOf 49 = .ok (.istore_n 2, 1) := by decide +kernel
theorem dX7_wordOf_50 : decode cX7_wordOf 50 = .ok (.iload_n 2, 1) := by decide +kernel
theorem dX7_wordOf_51 : decode cX7_wordOf 51 = .ok (.bipush (-9), 2) := by decide +kernel
theorem dX7_wordOf_53 : decode cX7_wordOf 53 = .ok (.if_icmp .eq 7, 3) := by decide +kernel
theorem dX7_wordOf_56 : decode cX7_wordOf 56 = .ok (.iload_n 2, 1) := by decide +kernel
theorem dX7_wordOf_57 : decode cX7_wordOf 57 = .ok (.goto 50, 3) := by decide +kernel
theorem dX7_wordOf_60 : decode cX7_wordOf 60 = .ok (.lload_n 0, 1) := by decide +kernel
theorem dX7_wordOf_61 : decode cX7_wordOf 61 = .ok (.bipush 116, 2) := by decide +kernel
theorem dX7_wordOf_63 : decode cX7_wordOf 63 = .ok (.bipush 104, 2) := by decide +kernel
theorem dX7_wordOf_65 : decode cX7_wordOf 65 = .ok (.bipush 105, 2) := by decide +kernel
theorem dX7_wordOf_67 : decode cX7_wordOf 67 = .ok (.bipush 110, 2) := by decide +kernel
theorem dX7_wordOf_69 : decode cX7_wordOf 69 = .ok (.bipush 103, 2) := by decide +kernel
theorem dX7_wordOf_71 : decode cX7_wordOf 71 = .ok (.iconst 0, 1) := by decide +kernel
theorem dX7_wordOf_72 : decode cX7_wordOf 72 = .ok (.invokestatic 75, 3) := by decide +kernel
theorem dX7_wordOf_75 : decode cX7_wordOf 75 = .ok (.lcmp, 1) := by decide +kernel
theorem dX7_wordOf_76 : decode cX7_wordOf 76 = .ok (.ifCond .ne 7, 3) := by decide +kernel
theorem dX7_wordOf_79 : decode cX7_wordOf 79 = .ok (.iconst 2, 1) := by decide +kernel
theorem dX7_wordOf_80 : decode cX7_wordOf 80 = .ok (.goto 27, 3) := by decide +kernel
theorem dX7_wordOf_83 : decode cX7_wordOf 83 = .ok (.lload_n 0, 1) := by decide +kernel
theorem dX7_wordOf_84 : decode cX7_wordOf 84 = .ok (.bipush 116, 2) := by decide +kernel
theorem dX7_wordOf_86 : decode cX7_wordOf 86 = .ok (.bipush 97, 2) := by decide +kernel
theorem dX7_wordOf_88 : decode cX7_wordOf 88 = .ok (.bipush 115, 2) := by decide +kernel
theorem dX7_wordOf_90 : decode cX7_wordOf 90 = .ok (.bipush 107, 2) := by decide +kernel
theorem dX7_wordOf_92 : decode cX7_wordOf 92 = .ok (.iconst 0, 1) := by decide +kernel
theorem dX7_wordOf_93 : decode cX7_wordOf 93 = .ok (.iconst 0, 1) := by decide +kernel
theorem dX7_wordOf_94 : decode cX7_wordOf 94 = .ok (.invokestatic 75, 3) := by decide +kernel
theorem dX7_wordOf_97 : decode cX7_wordOf 97 = .ok (.lcmp, 1) := by decide +kernel
theorem dX7_wordOf_98 : decode cX7_wordOf 98 = .ok (.ifCond .ne 7, 3) := by decide +kernel
theorem dX7_wordOf_101 : decode cX7_wordOf 101 = .ok (.iconst 3, 1) := by decide +kernel
theorem dX7_wordOf_102 : decode cX7_wordOf 102 = .ok (.goto 5, 3) := by decide +kernel
theorem dX7_wordOf_105 : decode cX7_wordOf 105 = .ok (.bipush (-9), 2) := by decide +kernel
theorem dX7_wordOf_107 : decode cX7_wordOf 107 = .ok (.ireturn, 1) := by decide +kernel
set_option maxRecDepth 20000 in
theorem ggX7_advances_X7_byteAt : GoodIn wsX7_advances wsX7_byteAt := goodIn_r _ [9, 10, 11, 25, 26, 27, 28, 29, 30, 31, 32, 33, 34, 35, 36, 37, 38, 39, 40, 41, 42, 43, 44, 45, 46, 47, 48, 49, 50, 51, 52] (by decide +kernel) (by decide +kernel)
set_option maxRecDepth 20000 in
theorem gX7_advances_X7_byteAt : GoodIn wsX7_advances (wsV RX7 82 RX7 yX7_byteAt wsX7_byteAt) := goodIn_app (goodIn_of _ (by decide +kernel)) ggX7_advances_X7_byteAt
set_option maxRecDepth 20000 in
theorem ggX7_advances_X7_in : GoodIn wsX7_advances wsX7_in := goodIn_r _ [14] (by decide +kernel) (by decide +kernel)
set_option maxRecDepth 20000 in
theorem gX7_advances_X7_in : GoodIn wsX7_advances (va_wsS RX7 60 yX7_in wsX7_in) := goodIn_app (goodIn_of _ (by decide +kernel)) ggX7_advances_X7_in
set_option maxRecDepth 20000 in
theorem ggX7_advances_X7_add : GoodIn wsX7_advances wsX7_add := goodIn_r _ [17, 18] (by decide +kernel) (by decide +kernel)
set_option maxRecDepth 20000 in
theorem gX7_advances_X7_add : GoodIn wsX7_advances (va_wsS RX7 71 yX7_add wsX7_add) := goodIn_app (goodIn_of _ (by decide +kernel)) ggX7_advances_X7_add
set_option maxRecDepth 20000 in
theorem ggX7_advances_X7_wordOf : GoodIn wsX7_advances wsX7_wordOf := goodIn_r _ [21, 22, 23, 8, 24, 15, 16, 17, 18] (by decide +kernel) (by decide +kernel)
set_option maxRecDepth 20000 in
theorem gX7_advances_X7_wordOf : GoodIn wsX7_advances (va_wsS RX7 92 yX7_wordOf wsX7_wordOf) := goodIn_app (goodIn_of _ (by decide +kernel)) ggX7_advances_X7_wordOf
theorem dX7_advances_0 : decode cX7_advances 0 = .ok (.aload_n 0, 1) := by decide +kernel
theorem dX7_advances_1 : decode cX7_advances 1 = .ok (.aload_n 0, 1) := by decide +kernel
theorem dX7_advances_2 : decode cX7_advances 2 = .ok (.getfield 79, 3) := by decide +kernel
theorem dX7_advances_5 : decode cX7_advances 5 = .ok (.invokevirtual 82, 3) := by decide +kernel
theorem dX7_advances_8 : decode cX7_advances 8 = .ok (.bipush 32, 2) := by decide +kernel
theorem dX7_advances_10 : decode cX7_advances 10 = .ok (.if_icmp .ne 16, 3) := by decide +kernel
theorem dX7_advances_13 : decode cX7_advances 13 = .ok (.aload_n 0, 1) := by decide +kernel
theorem dX7_advances_14 : decode cX7_advances 14 = .ok (.dup, 1) := by decide +kernel
theorem dX7_advances_15 : decode cX7_advances 15 = .ok (.getfield 79, 3) := by decide +kernel
theorem dX7_advances_18 : decode cX7_advances 18 = .ok (.iconst 1, 1) := by decide +kernel
theorem dX7_advances_19 : decode cX7_advances 19 = .ok (.iadd, 1) := by decide +kernel
theorem dX7_advances_20 : decode cX7_advances 20 = .ok (.putfield 79, 3) := by decide +kernel
theorem dX7_advances_23 : decode cX7_advances 23 = .ok (.goto (-23), 3) := by decide +kernel
theorem dX7_advances_26 : decode cX7_advances 26 = .ok (.aload_n 0, 1) := by decide +kernel
theorem dX7_advances_27 : decode cX7_advances 27 = .ok (.aload_n 0, 1) := by decide +kernel
theorem dX7_advances_28 : decode cX7_advances 28 = .ok (.getfield 79, 3) := by decide +kernel
theorem dX7_advances_31 : decode cX7_advances 31 = .ok (.putfield 86, 3) := by decide +kernel
theorem dX7_advances_34 : decode cX7_advances 34 = .ok (.aload_n 0, 1) := by decide +kernel
theorem dX7_advances_35 : decode cX7_advances 35 = .ok (.aload_n 0, 1) := by decide +kernel
theorem dX7_advances_36 : decode cX7_advances 36 = .ok (.getfield 79, 3) := by decide +kernel
theorem dX7_advances_39 : decode cX7_advances 39 = .ok (.invokevirtual 82, 3) := by decide +kernel
theorem dX7_advances_42 : decode cX7_advances 42 = .ok (.istore_n 1, 1) := by decide +kernel
theorem dX7_advances_43 : decode cX7_advances 43 = .ok (.iload_n 1, 1) := by decide +kernel
theorem dX7_advances_44 : decode cX7_advances 44 = .ok (.ifCond .ge 11, 3) := by decide +kernel
theorem dX7_advances_47 : decode cX7_advances 47 = .ok (.aload_n 0, 1) := by decide +kernel
theorem dX7_advances_48 : decode cX7_advances 48 = .ok (.iconst 0, 1) := by decide +kernel
theorem dX7_advances_49 : decode cX7_advances 49 = .ok (.putfield 89, 3) := by decide +kernel
theorem dX7_advances_52 : decode cX7_advances 52 = .ok (.goto 258, 3) := by decide +kernel
theorem dX7_advances_55 : decode cX7_advances 55 = .ok (.iload_n 1, 1) := by decide +kernel
theorem dX7_advances_56 : decode cX7_advances 56 = .ok (.bipush 97, 2) := by decide +kernel
theorem dX7_advances_58 : decode cX7_advances 58 = .ok (.bipush 122, 2) := by decide +kernel
theorem dX7_advances_60 : decode cX7_advances 60 = .ok (.invokestatic 60, 3) := by decide +kernel
theorem dX7_advances_63 : decode cX7_advances 63 = .ok (.ifCond .eq 96, 3) := by decide +kernel
theorem dX7_advances_66 : decode cX7_advances 66 = .ok (.lconst 0, 1) := by decide +kernel
theorem dX7_advances_67 : decode cX7_advances 67 = .ok (.lstore_n 2, 1) := by decide +kernel
theorem dX7_advances_68 : decode cX7_advances 68 = .ok (.aload_n 0, 1) := by decide +kernel
theorem dX7_advances_69 : decode cX7_advances 69 = .ok (.aload_n 0, 1) := by decide +kernel
theorem dX7_advances_70 : decode cX7_advances 70 = .ok (.getfield 79, 3) := by decide +kernel
theorem dX7_advances_73 : decode cX7_advances 73 = .ok (.invokevirtual 82, 3) := by decide +kernel
theorem dX7_advances_76 : decode cX7_advances 76 = .ok (.bipush 97, 2) := by decide +kernel
theorem dX7_advances_78 : decode cX7_advances 78 = .ok (.bipush 122, 2) := by decide +kernel
theorem dX7_advances_80 : decode cX7_advances 80 = .ok (.invokestatic 60, 3) := by decide +kernel
theorem dX7_advances_83 : decode cX7_advances 83 = .ok (.ifCond .eq 47, 3) := by decide +kernel
theorem dX7_advances_86 : decode cX7_advances 86 = .ok (.aload_n 0, 1) := by decide +kernel
theorem dX7_advances_87 : decode cX7_advances 87 = .ok (.getfield 79, 3) := by decide +kernel
theorem dX7_advances_90 : decode cX7_advances 90 = .ok (.aload_n 0, 1) := by decide +kernel
theorem dX7_advances_91 : decode cX7_advances 91 = .ok (.getfield 86, 3) := by decide +kernel
theorem dX7_advances_94 : decode cX7_advances 94 = .ok (.isub, 1) := by decide +kernel
theorem dX7_advances_95 : decode cX7_advances 95 = .ok (.bipush 7, 2) := by decide +kernel
theorem dX7_advances_97 : decode cX7_advances 97 = .ok (.if_icmp .ge 18, 3) := by decide +kernel
theorem dX7_advances_100 : decode cX7_advances 100 = .ok (.lload_n 2, 1) := by decide +kernel
theorem dX7_advances_101 : decode cX7_advances 101 = .ok (.aload_n 0, 1) := by decide +kernel
theorem dX7_advances_102 : decode cX7_advances 102 = .ok (.aload_n 0, 1) := by decide +kernel
theorem dX7_advances_103 : decode cX7_advances 103 = .ok (.getfield 79, 3) := by decide +kernel
theorem dX7_advances_106 : decode cX7_advances 106 = .ok (.invokevirtual 82, 3) := by decide +kernel
theorem dX7_advances_109 : decode cX7_advances 109 = .ok (.invokestatic 71, 3) := by decide +kernel
theorem dX7_advances_112 : decode cX7_advances 112 = .ok (.goto 4, 3) := by decide +kernel
theorem dX7_advances_115 : decode cX7_advances 115 = .ok (.lload_n 2, 1) := by decide +kernel
theorem dX7_advances_116 : decode cX7_advances 116 = .ok (.lstore_n 2, 1) := by decide +kernel
theorem dX7_advances_117 : decode cX7_advances 117 = .ok (.aload_n 0, 1) := by decide +kernel
theorem dX7_advances_118 : decode cX7_advances 118 = .ok (.dup, 1) := by decide +kernel
theorem dX7_advances_119 : decode cX7_advances 119 = .ok (.getfield 79, 3) := by decide +kernel
theorem dX7_advances_122 : decode cX7_advances 122 = .ok (.iconst 1, 1) := by decide +kernel
theorem dX7_advances_123 : decode cX7_advances 123 = .ok (.iadd, 1) := by decide +kernel
theorem dX7_advances_124 : decode cX7_advances 124 = .ok (.putfield 79, 3) := by decide +kernel
theorem dX7_advances_127 : decode cX7_advances 127 = .ok (.goto (-59), 3) := by decide +kernel
theorem dX7_advances_130 : decode cX7_advances 130 = .ok (.aload_n 0, 1) := by decide +kernel
theorem dX7_advances_131 : decode cX7_advances 131 = .ok (.lload_n 2, 1) := by decide +kernel
theorem dX7_advances_132 : decode cX7_advances 132 = .ok (.invokestatic 92, 3) := by decide +kernel
theorem dX7_advances_135 : decode cX7_advances 135 = .ok (.putfield 96, 3) := by decide +kernel
theorem dX7_advances_138 : decode cX7_advances 138 = .ok (.aload_n 0, 1) := by decide +kernel
theorem dX7_advances_139 : decode cX7_advances 139 = .ok (.aload_n 0, 1) := by decide +kernel
theorem dX7_advances_140 : decode cX7_advances 140 = .ok (.getfield 96, 3) := by decide +kernel
theorem dX7_advances_143 : decode cX7_advances 143 = .ok (.bipush (-9), 2) := by decide +kernel
theorem dX7_advances_145 : decode cX7_advances 145 = .ok (.if_icmp .ne 7, 3) := by decide +kernel
theorem dX7_advances_148 : decode cX7_advances 148 = .ok (.iconst 4, 1) := by decide +kernel
theorem dX7_advances_149 : decode cX7_advances 149 = .ok (.goto 4, 3) := by decide +kernel
theorem dX7_advances_152 : decode cX7_advances 152 = .ok (.iconst 1, 1) := by decide +kernel
theorem dX7_advances_153 : decode cX7_advances 153 = .ok (.putfield 89, 3) := by decide +kernel
theorem dX7_advances_156 : decode cX7_advances 156 = .ok (.goto 154, 3) := by decide +kernel
theorem dX7_advances_159 : decode cX7_advances 159 = .ok (.iload_n 1, 1) := by decide +kernel
theorem dX7_advances_160 : decode cX7_advances 160 = .ok (.bipush 48, 2) := by decide +kernel
theorem dX7_advances_162 : decode cX7_advances 162 = .ok (.bipush 57, 2) := by decide +kernel
theorem dX7_advances_164 : decode cX7_advances 164 = .ok (.invokestatic 60, 3) := by decide +kernel
theorem dX7_advances_167 : decode cX7_advances 167 = .ok (.ifCond .eq 118, 3) := by decide +kernel
theorem dX7_advances_170 : decode cX7_advances 170 = .ok (.aload_n 0, 1) := by decide +kernel
theorem dX7_advances_171 : decode cX7_advances 171 = .ok (.iconst 0, 1) := by decide +kernel
theorem dX7_advances_172 : decode cX7_advances 172 = .ok (.putfield 96, 3) := by decide +kernel
theorem dX7_advances_175 : decode cX7_advances 175 = .ok (.aload_n 0, 1) := by decide +kernel
theorem dX7_advances_176 : decode cX7_advances 176 = .ok (.aload_n 0, 1) := by decide +kernel
theorem dX7_advances_177 : decode cX7_advances 177 = .ok (.getfield 79, 3) := by decide +kernel
theorem dX7_advances_180 : decode cX7_advances 180 = .ok (.invokevirtual 82, 3) := by decide +kernel
theorem dX7_advances_183 : decode cX7_advances 183 = .ok (.bipush 48, 2) := by decide +kernel
theorem dX7_advances_185 : decode cX7_advances 185 = .ok (.bipush 57, 2) := by decide +kernel
theorem dX7_advances_187 : decode cX7_advances 187 = .ok (.invokestatic 60, 3) := by decide +kernel
theorem dX7_advances_190 : decode cX7_advances 190 = .ok (.ifCond .eq 55, 3) := by decide +kernel
theorem dX7_advances_193 : decode cX7_advances 193 = .ok (.aload_n 0, 1) := by decide +kernel
theorem dX7_advances_194 : decode cX7_advances 194 = .ok (.aload_n 0, 1) := by decide +kernel
theorem dX7_advances_195 : decode cX7_advances 195 = .ok (.getfield 96, 3) := by decide +kernel
theorem dX7_advances_198 : decode cX7_advances 198 = .ok (.bipush 99, 2) := by decide +kernel
theorem dX7_advances_200 : decode cX7_advances 200 = .ok (.if_icmp .le 10, 3) := by decide +kernel
theorem dX7_advances_203 : decode cX7_advances 203 = .ok (.aload_n 0, 1) := by decide +kernel
theorem dX7_advances_204 : decode cX7_advances 204 = .ok (.getfield 96, 3) := by decide +kernel
theorem dX7_advances_207 : decode cX7_advances 207 = .ok (.goto 22, 3) := by decide +kernel
theorem dX7_advances_210 : decode cX7_advances 210 = .ok (.bipush 10, 2) := by decide +kernel
theorem dX7_advances_212 : decode cX7_advances 212 = .ok (.aload_n 0, 1) := by decide +kernel
theorem dX7_advances_213 : decode cX7_advances 213 = .ok (.getfield 96, 3) := by decide +kernel
theorem dX7_advances_216 : decode cX7_advances 216 = .ok (.imul, 1) := by decide +kernel
theorem dX7_advances_217 : decode cX7_advances 217 = .ok (.aload_n 0, 1) := by decide +kernel
theorem dX7_advances_218 : decode cX7_advances 218 = .ok (.aload_n 0, 1) := by decide +kernel
theorem dX7_advances_219 : decode cX7_advances 219 = .ok (.getfield 79, 3) := by decide +kernel
theorem dX7_advances_222 : decode cX7_advances 222 = .ok (.invokevirtual 82, 3) := by decide +kernel
theorem dX7_advances_225 : decode cX7_advances 225 = .ok (.iadd, 1) := by decide +kernel
theorem dX7_advances_226 : decode cX7_advances 226 = .ok (.bipush 48, 2) := by decide +kernel
theorem dX7_advances_228 : decode cX7_advances 228 = .ok (.isub, 1) := by decide +kernel
theorem dX7_advances_229 : decode cX7_advances 229 = .ok (.putfield 96, 3) := by decide +kernel
theorem dX7_advances_232 : decode cX7_advances 232 = .ok (.aload_n 0, 1) := by decide +kernel
theorem dX7_advances_233 : decode cX7_advances 233 = .ok (.dup, 1) := by decide +kernel
theorem dX7_advances_234 : decode cX7_advances 234 = .ok (.getfield 79, 3) := by decide +kernel
theorem dX7_advances_237 : decode cX7_advances 237 = .ok (.iconst 1, 1) := by decide +kernel
theorem dX7_advances_238 : decode cX7_advances 238 = .ok (.iadd, 1) := by decide +kernel
theorem dX7_advances_239 : decode cX7_advances 239 = .ok (.putfield 79, 3) := by decide +kernel
theorem dX7_advances_242 : decode cX7_advances 242 = .ok (.goto (-67), 3) := by decide +kernel
theorem dX7_advances_245 : decode cX7_advances 245 = .ok (.aload_n 0, 1) := by decide +kernel
theorem dX7_advances_246 : decode cX7_advances 246 = .ok (.aload_n 0, 1) := by decide +kernel
theorem dX7_advances_247 : decode cX7_advances 247 = .ok (.getfield 96, 3) := by decide +kernel
theorem dX7_advances_250 : decode cX7_advances 250 = .ok (.bipush 99, 2) := by decide +kernel
theorem dX7_advances_252 : decode cX7_advances 252 = .ok (.if_icmp .gt 22, 3) := by decide +kernel
theorem dX7_advances_255 : decode cX7_advances 255 = .ok (.iload_n 1, 1) := by decide +kernel
theorem dX7_advances_256 : decode cX7_advances 256 = .ok (.bipush 48, 2) := by decide +kernel
theorem dX7_advances_258 : decode cX7_advances 258 = .ok (.if_icmp .ne 20, 3) := by decide +kernel
theorem dX7_advances_261 : decode cX7_advances 261 = .ok (.aload_n 0, 1) := by decide +kernel
theorem dX7_advances_262 : decode cX7_advances 262 = .ok (.getfield 79, 3) := by decide +kernel
theorem dX7_advances_265 : decode cX7_advances 265 = .ok (.aload_n 0, 1) := by decide +kernel
theorem dX7_advances_266 : decode cX7_advances 266 = .ok (.getfield 86, 3) := by decide +kernel
theorem dX7_advances_269 : decode cX7_advances 269 = .ok (.isub, 1) := by decide +kernel
theorem dX7_advances_270 : decode cX7_advances 270 = .ok (.iconst 1, 1) := by decide +kernel
theorem dX7_advances_271 : decode cX7_advances 271 = .ok (.if_icmp .le 7, 3) := by decide +kernel
theorem dX7_advances_274 : decode cX7_advances 274 = .ok (.iconst 4, 1) := by decide +kernel
theorem dX7_advances_275 : decode cX7_advances 275 = .ok (.goto 4, 3) := by decide +kernel
theorem dX7_advances_278 : decode cX7_advances 278 = .ok (.iconst 2, 1) := by decide +kernel
theorem dX7_advances_279 : decode cX7_advances 279 = .ok (.putfield 89, 3) := by decide +kernel
theorem dX7_advances_282 : decode cX7_advances 282 = .ok (.goto 28, 3) := by decide +kernel
theorem dX7_advances_285 : decode cX7_advances 285 = .ok (.aload_n 0, 1) := by decide +kernel
theorem dX7_advances_286 : decode cX7_advances 286 = .ok (.dup, 1) := by decide +kernel
theorem dX7_advances_287 : decode cX7_advances 287 = .ok (.getfield 79, 3) := by decide +kernel
theorem dX7_advances_290 : decode cX7_advances 290 = .ok (.iconst 1, 1) := by decide +kernel
theorem dX7_advances_291 : decode cX7_advances 291 = .ok (.iadd, 1) := by decide +kernel
theorem dX7_advances_292 : decode cX7_advances 292 = .ok (.putfield 79, 3) := by decide +kernel
theorem dX7_advances_295 : decode cX7_advances 295 = .ok (.aload_n 0, 1) := by decide +kernel
theorem dX7_advances_296 : decode cX7_advances 296 = .ok (.iload_n 1, 1) := by decide +kernel
theorem dX7_advances_297 : decode cX7_advances 297 = .ok (.bipush 59, 2) := by decide +kernel
theorem dX7_advances_299 : decode cX7_advances 299 = .ok (.if_icmp .ne 7, 3) := by decide +kernel
theorem dX7_advances_302 : decode cX7_advances 302 = .ok (.iconst 3, 1) := by decide +kernel
theorem dX7_advances_303 : decode cX7_advances 303 = .ok (.goto 4, 3) := by decide +kernel
theorem dX7_advances_306 : decode cX7_advances 306 = .ok (.iconst 4, 1) := by decide +kernel
theorem dX7_advances_307 : decode cX7_advances 307 = .ok (.putfield 89, 3) := by decide +kernel
theorem dX7_advances_310 : decode cX7_advances 310 = .ok (.return_, 1) := by decide +kernel
theorem dX7_isWell_0 : decode cX7_isWell 0 = .ok (.aload_n 0, 1) := by decide +kernel
theorem dX7_isWell_1 : decode cX7_isWell 1 = .ok (.getfield 99, 3) := by decide +kernel
theorem dX7_isWell_4 : decode cX7_isWell 4 = .ok (.ifCond .ge 7, 3) := by decide +kernel
theorem dX7_isWell_7 : decode cX7_isWell 7 = .ok (.iconst 1, 1) := by decide +kernel
theorem dX7_isWell_8 : decode cX7_isWell 8 = .ok (.goto 4, 3) := by decide +kernel
theorem dX7_isWell_11 : decode cX7_isWell 11 = .ok (.iconst 0, 1) := by decide +kernel
theorem dX7_isWell_12 : decode cX7_isWell 12 = .ok (.ireturn, 1) := by decide +kernel
set_option maxRecDepth 20000 in
theorem ggX7_takes_X7_isWell : GoodIn wsX7_takes wsX7_isWell := goodIn_r _ [8, 2, 34, 35, 36, 37, 38, 39, 40, 41, 42, 43, 44, 45, 46, 47, 48, 49, 50, 51, 52, 53, 54, 55, 56, 57, 58, 59, 60, 61] (by decide +kernel) (by decide +kernel)
set_option maxRecDepth 20000 in
theorem gX7_takes_X7_isWell : GoodIn wsX7_takes (wsV RX7 102 RX7 yX7_isWell wsX7_isWell) := goodIn_app (goodIn_of _ (by decide +kernel)) ggX7_takes_X7_isWell
set_option maxRecDepth 20000 in
theorem ggX7_takes_X7_advances : GoodIn wsX7_takes wsX7_advances := goodIn_r _ [12, 13, 1, 14, 3, 15, 16, 17, 7, 18, 19, 20, 21, 22, 23, 24, 25, 26, 27, 28, 29, 30, 31, 32, 33, 34, 35, 36, 37, 38, 39, 40, 41, 42, 43, 44, 45, 46, 47, 48, 49, 50, 51, 52, 53, 54, 55, 56, 57, 58, 59, 60, 61] (by decide +kernel) (by decide +kernel)
set_option maxRecDepth 20000 in
theorem gX7_takes_X7_advances : GoodIn wsX7_takes (wsV RX7 106 RX7 yX7_advances wsX7_advances) := goodIn_app (goodIn_of _ (by decide +kernel)) ggX7_takes_X7_advances
theorem dX7_takes_0 : decode cX7_takes 0 = .ok (.aload_n 0, 1) := by decide +kernel
theorem dX7_takes_1 : decode cX7_takes 1 = .ok (.invokevirtual 102, 3) := by decide +kernel
theorem dX7_takes_4 : decode cX7_takes 4 = .ok (.ifCond .ne 5, 3) := by decide +kernel
theorem dX7_takes_7 : decode cX7_takes 7 = .ok (.iconst 0, 1) := by decide +kernel
theorem dX7_takes_8 : decode cX7_takes 8 = .ok (.ireturn, 1) := by decide +kernel
theorem dX7_takes_9 : decode cX7_takes 9 = .ok (.iload_n 1, 1) := by decide +kernel
theorem dX7_takes_10 : decode cX7_takes 10 = .ok (.ifCond .ne 13, 3) := by decide +kernel
theorem dX7_takes_13 : decode cX7_takes 13 = .ok (.aload_n 0, 1) := by decide +kernel
theorem dX7_takes_14 : decode cX7_takes 14 = .ok (.aload_n 0, 1) := by decide +kernel
theorem dX7_takes_15 : decode cX7_takes 15 = .ok (.getfield 86, 3) := by decide +kernel
theorem dX7_takes_18 : decode cX7_takes 18 = .ok (.putfield 99, 3) := by decide +kernel
theorem dX7_takes_21 : decode cX7_takes 21 = .ok (.iconst 0, 1) := by decide +kernel
theorem dX7_takes_22 : decode cX7_takes 22 = .ok (.ireturn, 1) := by decide +kernel
theorem dX7_takes_23 : decode cX7_takes 23 = .ok (.aload_n 0, 1) := by decide +kernel
theorem dX7_takes_24 : decode cX7_takes 24 = .ok (.getfield 96, 3) := by decide +kernel
theorem dX7_takes_27 : decode cX7_takes 27 = .ok (.istore_n 2, 1) := by decide +kernel
theorem dX7_takes_28 : decode cX7_takes 28 = .ok (.aload_n 0, 1) := by decide +kernel
theorem dX7_takes_29 : decode cX7_takes 29 = .ok (.invokevirtual 106, 3) := by decide +kernel
theorem dX7_takes_32 : decode cX7_takes 32 = .ok (.iload_n 2, 1) := by decide +kernel
theorem dX7_takes_33 : decode cX7_takes 33 = .ok (.ireturn, 1) := by decide +kernel
set_option maxRecDepth 20000 in
theorem ggX7_number_X7_in : GoodIn wsX7_number wsX7_in := goodIn_r _ [6] (by decide +kernel) (by decide +kernel)
set_option maxRecDepth 20000 in
theorem gX7_number_X7_in : GoodIn wsX7_number (va_wsS RX7 60 yX7_in wsX7_in) := goodIn_app (goodIn_of _ (by decide +kernel)) ggX7_number_X7_in
set_option maxRecDepth 20000 in
theorem ggX7_number_X7_takes : GoodIn wsX7_number wsX7_takes := goodIn_r _ [10, 11, 12, 2, 13, 14, 15, 5, 16, 17, 18, 19, 20, 21, 1, 22, 23, 24, 25, 26, 27, 3, 4, 6, 28, 29, 30, 31, 32, 33, 34, 35, 36, 37, 38, 39, 40, 41, 42, 43, 44, 45, 46, 47, 48, 49, 50, 51, 52, 53, 54, 55, 56, 57, 58, 59, 60, 61, 62, 63, 64, 65] (by decide +kernel) (by decide +kernel)
set_option maxRecDepth 20000 in
theorem gX7_number_X7_takes : GoodIn wsX7_number (wsV RX7 109 RX7 yX7_takes wsX7_takes) := goodIn_app (goodIn_of _ (by decide +kernel)) ggX7_number_X7_takes
theorem dX7_number_0 : decode cX7_number 0 = .ok (.aload_n 0, 1) := by decide +kernel
theorem dX7_number_1 : decode cX7_number 1 = .ok (.aload_n 0, 1) := by decide +kernel
theorem dX7_number_2 : decode cX7_number 2 = .ok (.getfield 89, 3) := by decide +kernel
theorem dX7_number_5 : decode cX7_number 5 = .ok (.iconst 2, 1) := by decide +kernel
theorem dX7_number_6 : decode cX7_number 6 = .ok (.if_icmp .ne 19, 3) := by decide +kernel
theorem dX7_number_9 : decode cX7_number 9 = .ok (.aload_n 0, 1) := by decide +kernel
theorem dX7_number_10 : decode cX7_number 10 = .ok (.getfield 96, 3) := by decide +kernel
theorem dX7_number_13 : decode cX7_number 13 = .ok (.iload_n 1, 1) := by decide +kernel
theorem dX7_number_14 : decode cX7_number 14 = .ok (.iload_n 2, 1) := by decide +kernel
theorem dX7_number_15 : decode cX7_number 15 = .ok (.invokestatic 60, 3) := by decide +kernel
theorem dX7_number_18 : decode cX7_number 18 = .ok (.ifCond .eq 7, 3) := by decide +kernel
theorem dX7_number_21 : decode cX7_number 21 = .ok (.iconst 1, 1) := by decide +kernel
theorem dX7_number_22 : decode cX7_number 22 = .ok (.goto 4, 3) := by decide +kernel
theorem dX7_number_25 : decode cX7_number 25 = .ok (.iconst 0, 1) := by decide +kernel
theorem dX7_number_26 : decode cX7_number 26 = .ok (.invokevirtual 109, 3) := by decide +kernel
theorem dX7_number_29 : decode cX7_number 29 = .ok (.ireturn, 1) := by decide +kernel
set_option maxRecDepth 20000 in
theorem ggX7_readsItem_X7_number : GoodIn wsX7_readsItem wsX7_number := goodIn_r _ [13, 14, 15, 16, 17, 12, 18, 19, 20, 21, 22, 23, 24, 25, 26, 27, 28, 29, 30, 31, 32, 33, 34, 35, 36, 37, 38, 39, 40, 41, 42, 43, 44, 45, 46, 47, 48, 49, 50, 51, 52, 53, 54, 55, 56, 57, 58, 59, 60, 61, 62, 63, 64, 65, 66, 67, 68, 69, 70, 71, 72, 73, 74, 75, 76, 77] (by decide +kernel) (by decide +kernel)
set_option maxRecDepth 20000 in
theorem gX7_readsItem_X7_number : GoodIn wsX7_readsItem (wsV RX7 113 RX7 yX7_number wsX7_number) := goodIn_app (goodIn_of _ (by decide +kernel)) ggX7_readsItem_X7_number
set_option maxRecDepth 20000 in
theorem ggX7_readsItem_X7_isWell : GoodIn wsX7_readsItem wsX7_isWell := goodIn_r _ [28, 24, 50, 51, 52, 53, 54, 55, 56, 57, 58, 59, 60, 61, 62, 63, 64, 65, 66, 67, 68, 69, 70, 71, 72, 73, 74, 75, 76, 77] (by decide +kernel) (by decide +kernel)
set_option maxRecDepth 20000 in
theorem gX7_readsItem_X7_isWell : GoodIn wsX7_readsItem (wsV RX7 102 RX7 yX7_isWell wsX7_isWell) := goodIn_app (goodIn_of _ (by decide +kernel)) ggX7_readsItem_X7_isWell
theorem dX7_readsItem_0 : decode cX7_readsItem 0 = .ok (.iload_n 1, 1) := by decide +kernel
theorem dX7_readsItem_1 : decode cX7_readsItem 1 = .ok (.ifCond .ne 33, 3) := by decide +kernel
theorem dX7_readsItem_4 : decode cX7_readsItem 4 = .ok (.aload_n 0, 1) := by decide +kernel
theorem dX7_readsItem_5 : decode cX7_readsItem 5 = .ok (.iconst 2, 1) := by decide +kernel
theorem dX7_readsItem_6 : decode cX7_readsItem 6 = .ok (.bipush 6, 2) := by decide +kernel
theorem dX7_readsItem_8 : decode cX7_readsItem 8 = .ok (.invokevirtual 113, 3) := by decide +kernel
theorem dX7_readsItem_11 : decode cX7_readsItem 11 = .ok (.istore_n 2, 1) := by decide +kernel
theorem dX7_readsItem_12 : decode cX7_readsItem 12 = .ok (.aload_n 0, 1) := by decide +kernel
theorem dX7_readsItem_13 : decode cX7_readsItem 13 = .ok (.aload_n 0, 1) := by decide +kernel
theorem dX7_readsItem_14 : decode cX7_readsItem 14 = .ok (.invokevirtual 102, 3) := by decide +kernel
theorem dX7_readsItem_17 : decode cX7_readsItem 17 = .ok (.ifCond .eq 7, 3) := by decide +kernel
theorem dX7_readsItem_20 : decode cX7_readsItem 20 = .ok (.iload_n 2, 1) := by decide +kernel
theorem dX7_readsItem_21 : decode cX7_readsItem 21 = .ok (.goto 7, 3) := by decide +kernel
theorem dX7_readsItem_24 : decode cX7_readsItem 24 = .ok (.aload_n 0, 1) := by decide +kernel
theorem dX7_readsItem_25 : decode cX7_readsItem 25 = .ok (.getfield 117, 3) := by decide +kernel
theorem dX7_readsItem_28 : decode cX7_readsItem 28 = .ok (.putfield 117, 3) := by decide +kernel
theorem dX7_readsItem_31 : decode cX7_readsItem 31 = .ok (.goto 171, 3) := by decide +kernel
theorem dX7_readsItem_34 : decode cX7_readsItem 34 = .ok (.iload_n 1, 1) := by decide +kernel
theorem dX7_readsItem_35 : decode cX7_readsItem 35 = .ok (.iconst 1, 1) := by decide +kernel
theorem dX7_readsItem_36 : decode cX7_readsItem 36 = .ok (.if_icmp .ne 52, 3) := by decide +kernel
theorem dX7_readsItem_39 : decode cX7_readsItem 39 = .ok (.aload_n 0, 1) := by decide +kernel
theorem dX7_readsItem_40 : decode cX7_readsItem 40 = .ok (.getfield 13, 3) := by decide +kernel
theorem dX7_readsItem_43 : decode cX7_readsItem 43 = .ok (.iconst 4, 1) := by decide +kernel
theorem dX7_readsItem_44 : decode cX7_readsItem 44 = .ok (.aload_n 0, 1) := by decide +kernel
theorem dX7_readsItem_45 : decode cX7_readsItem 45 = .ok (.getfield 120, 3) := by decide +kernel
theorem dX7_readsItem_48 : decode cX7_readsItem 48 = .ok (.iadd, 1) := by decide +kernel
theorem dX7_readsItem_49 : decode cX7_readsItem 49 = .ok (.aload_n 0, 1) := by decide +kernel
theorem dX7_readsItem_50 : decode cX7_readsItem 50 = .ok (.iconst 1, 1) := by decide +kernel
theorem dX7_readsItem_51 : decode cX7_readsItem 51 = .ok (.bipush 9, 2) := by decide +kernel
theorem dX7_readsItem_53 : decode cX7_readsItem 53 = .ok (.invokevirtual 113, 3) := by decide +kernel
theorem dX7_readsItem_56 : decode cX7_readsItem 56 = .ok (.iastore, 1) := by decide +kernel
theorem dX7_readsItem_57 : decode cX7_readsItem 57 = .ok (.aload_n 0, 1) := by decide +kernel
theorem dX7_readsItem_58 : decode cX7_readsItem 58 = .ok (.getfield 16, 3) := by decide +kernel
theorem dX7_readsItem_61 : decode cX7_readsItem 61 = .ok (.iconst 4, 1) := by decide +kernel
theorem dX7_readsItem_62 : decode cX7_readsItem 62 = .ok (.aload_n 0, 1) := by decide +kernel
theorem dX7_readsItem_63 : decode cX7_readsItem 63 = .ok (.getfield 120, 3) := by decide +kernel
theorem dX7_readsItem_66 : decode cX7_readsItem 66 = .ok (.iadd, 1) := by decide +kernel
theorem dX7_readsItem_67 : decode cX7_readsItem 67 = .ok (.aload_n 0, 1) := by decide +kernel
theorem dX7_readsItem_68 : decode cX7_readsItem 68 = .ok (.iconst 0, 1) := by decide +kernel
theorem dX7_readsItem_69 : decode cX7_readsItem 69 = .ok (.bipush 9, 2) := by decide +kernel
theorem dX7_readsItem_71 : decode cX7_readsItem 71 = .ok (.invokevirtual 113, 3) := by decide +kernel
theorem dX7_readsItem_74 : decode cX7_readsItem 74 = .ok (.iastore, 1) := by decide +kernel
theorem dX7_readsItem_75 : decode cX7_readsItem 75 = .ok (.aload_n 0, 1) := by decide +kernel
theorem dX7_readsItem_76 : decode cX7_readsItem 76 = .ok (.dup, 1) := by decide +kernel
theorem dX7_readsItem_77 : decode cX7_readsItem 77 = .ok (.getfield 120, 3) := by decide +kernel
theorem dX7_readsItem_80 : decode cX7_readsItem 80 = .ok (.iconst 1, 1) := by decide +kernel
theorem dX7_readsItem_81 : decode cX7_readsItem 81 = .ok (.iadd, 1) := by decide +kernel
theorem dX7_readsItem_82 : decode cX7_readsItem 82 = .ok (.putfield 120, 3) := by decide +kernel
theorem dX7_readsItem_85 : decode cX7_readsItem 85 = .ok (.goto 117, 3) := by decide +kernel
theorem dX7_readsItem_88 : decode cX7_readsItem 88 = .ok (.iload_n 1, 1) := by decide +kernel
theorem dX7_readsItem_89 : decode cX7_readsItem 89 = .ok (.iconst 2, 1) := by decide +kernel
theorem dX7_readsItem_90 : decode cX7_readsItem 90 = .ok (.if_icmp .ne 71, 3) := by decide +kernel
theorem dX7_readsItem_93 : decode cX7_readsItem 93 = .ok (.aload_n 0, 1) := by decide +kernel
theorem dX7_readsItem_94 : decode cX7_readsItem 94 = .ok (.getfield 19, 3) := by decide +kernel
theorem dX7_readsItem_97 : decode cX7_readsItem 97 = .ok (.bipush 8, 2) := by decide +kernel
theorem dX7_readsItem_99 : decode cX7_readsItem 99 = .ok (.aload_n 0, 1) := by decide +kernel
theorem dX7_readsItem_100 : decode cX7_readsItem 100 = .ok (.getfield 123, 3) := by decide +kernel
theorem dX7_readsItem_103 : decode cX7_readsItem 103 = .ok (.iadd, 1) := by decide +kernel
theorem dX7_readsItem_104 : decode cX7_readsItem 104 = .ok (.aload_n 0, 1) := by decide +kernel
theorem dX7_readsItem_105 : decode cX7_readsItem 105 = .ok (.iconst 0, 1) := by decide +kernel
theorem dX7_readsItem_106 : decode cX7_readsItem 106 = .ok (.aload_n 0, 1) := by decide +kernel
theorem dX7_readsItem_107 : decode cX7_readsItem 107 = .ok (.getfield 117, 3) := by decide +kernel
theorem dX7_readsItem_110 : decode cX7_readsItem 110 = .ok (.iconst 1, 1) := by decide +kernel
theorem dX7_readsItem_111 : decode cX7_readsItem 111 = .ok (.isub, 1) := by decide +kernel
theorem dX7_readsItem_112 : decode cX7_readsItem 112 = .ok (.invokevirtual 113, 3) := by decide +kernel
theorem dX7_readsItem_115 : decode cX7_readsItem 115 = .ok (.iastore, 1) := by decide +kernel
theorem dX7_readsItem_116 : decode cX7_readsItem 116 = .ok (.aload_n 0, 1) := by decide +kernel
theorem dX7_readsItem_117 : decode cX7_readsItem 117 = .ok (.getfield 22, 3) := by decide +kernel
theorem dX7_readsItem_120 : decode cX7_readsItem 120 = .ok (.bipush 8, 2) := by decide +kernel
theorem dX7_readsItem_122 : decode cX7_readsItem 122 = .ok (.aload_n 0, 1) := by decide +kernel
theorem dX7_readsItem_123 : decode cX7_readsItem 123 = .ok (.getfield 123, 3) := by decide +kernel
theorem dX7_readsItem_126 : decode cX7_readsItem 126 = .ok (.iadd, 1) := by decide +kernel
theorem dX7_readsItem_127 : decode cX7_readsItem 127 = .ok (.aload_n 0, 1) := by decide +kernel
theorem dX7_readsItem_128 : decode cX7_readsItem 128 = .ok (.iconst 1, 1) := by decide +kernel
theorem dX7_readsItem_129 : decode cX7_readsItem 129 = .ok (.iconst 3, 1) := by decide +kernel
theorem dX7_readsItem_130 : decode cX7_readsItem 130 = .ok (.invokevirtual 113, 3) := by decide +kernel
theorem dX7_readsItem_133 : decode cX7_readsItem 133 = .ok (.iastore, 1) := by decide +kernel
theorem dX7_readsItem_134 : decode cX7_readsItem 134 = .ok (.aload_n 0, 1) := by decide +kernel
theorem dX7_readsItem_135 : decode cX7_readsItem 135 = .ok (.getfield 25, 3) := by decide +kernel
theorem dX7_readsItem_138 : decode cX7_readsItem 138 = .ok (.bipush 8, 2) := by decide +kernel
theorem dX7_readsItem_140 : decode cX7_readsItem 140 = .ok (.aload_n 0, 1) := by decide +kernel
theorem dX7_readsItem_141 : decode cX7_readsItem 141 = .ok (.getfield 123, 3) := by decide +kernel
theorem dX7_readsItem_144 : decode cX7_readsItem 144 = .ok (.iadd, 1) := by decide +kernel
theorem dX7_readsItem_145 : decode cX7_readsItem 145 = .ok (.bipush (-9), 2) := by decide +kernel
theorem dX7_readsItem_147 : decode cX7_readsItem 147 = .ok (.iastore, 1) := by decide +kernel
theorem dX7_readsItem_148 : decode cX7_readsItem 148 = .ok (.aload_n 0, 1) := by decide +kernel
theorem dX7_readsItem_149 : decode cX7_readsItem 149 = .ok (.dup, 1) := by decide +kernel
theorem dX7_readsItem_150 : decode cX7_readsItem 150 = .ok (.getfield 123, 3) := by decide +kernel
theorem dX7_readsItem_153 : decode cX7_readsItem 153 = .ok (.iconst 1, 1) := by decide +kernel
theorem dX7_readsItem_154 : decode cX7_readsItem 154 = .ok (.iadd, 1) := by decide +kernel
theorem dX7_readsItem_155 : decode cX7_readsItem 155 = .ok (.putfield 123, 3) := by decide +kernel
theorem dX7_readsItem_158 : decode cX7_readsItem 158 = .ok (.goto 44, 3) := by decide +kernel
theorem dX7_readsItem_161 : decode cX7_readsItem 161 = .ok (.aload_n 0, 1) := by decide +kernel
theorem dX7_readsItem_162 : decode cX7_readsItem 162 = .ok (.iconst 0, 1) := by decide +kernel
theorem dX7_readsItem_163 : decode cX7_readsItem 163 = .ok (.aload_n 0, 1) := by decide +kernel
theorem dX7_readsItem_164 : decode cX7_readsItem 164 = .ok (.getfield 123, 3) := by decide +kernel
theorem dX7_readsItem_167 : decode cX7_readsItem 167 = .ok (.iconst 1, 1) := by decide +kernel
theorem dX7_readsItem_168 : decode cX7_readsItem 168 = .ok (.isub, 1) := by decide +kernel
theorem dX7_readsItem_169 : decode cX7_readsItem 169 = .ok (.invokevirtual 113, 3) := by decide +kernel
theorem dX7_readsItem_172 : decode cX7_readsItem 172 = .ok (.istore_n 2, 1) := by decide +kernel
theorem dX7_readsItem_173 : decode cX7_readsItem 173 = .ok (.aload_n 0, 1) := by decide +kernel
theorem dX7_readsItem_174 : decode cX7_readsItem 174 = .ok (.iconst 0, 1) := by decide +kernel
theorem dX7_readsItem_175 : decode cX7_readsItem 175 = .ok (.aload_n 0, 1) := by decide +kernel
theorem dX7_readsItem_176 : decode cX7_readsItem 176 = .ok (.getfield 117, 3) := by decide +kernel
theorem dX7_readsItem_179 : decode cX7_readsItem 179 = .ok (.iconst 1, 1) := by decide +kernel
theorem dX7_readsItem_180 : decode cX7_readsItem 180 = .ok (.isub, 1) := by decide +kernel
theorem dX7_readsItem_181 : decode cX7_readsItem 181 = .ok (.invokevirtual 113, 3) := by decide +kernel
theorem dX7_readsItem_184 : decode cX7_readsItem 184 = .ok (.istore_n 3, 1) := by decide +kernel
theorem dX7_readsItem_185 : decode cX7_readsItem 185 = .ok (.aload_n 0, 1) := by decide +kernel
theorem dX7_readsItem_186 : decode cX7_readsItem 186 = .ok (.invokevirtual 102, 3) := by decide +kernel
theorem dX7_readsItem_189 : decode cX7_readsItem 189 = .ok (.ifCond .eq 13, 3) := by decide +kernel
theorem dX7_readsItem_192 : decode cX7_readsItem 192 = .ok (.aload_n 0, 1) := by decide +kernel
theorem dX7_readsItem_193 : decode cX7_readsItem 193 = .ok (.getfield 25, 3) := by decide +kernel
theorem dX7_readsItem_196 : decode cX7_readsItem 196 = .ok (.bipush 8, 2) := by decide +kernel
theorem dX7_readsItem_198 : decode cX7_readsItem 198 = .ok (.iload_n 2, 1) := by decide +kernel
theorem dX7_readsItem_199 : decode cX7_readsItem 199 = .ok (.iadd, 1) := by decide +kernel
theorem dX7_readsItem_200 : decode cX7_readsItem 200 = .ok (.iload_n 3, 1) := by decide +kernel
theorem dX7_readsItem_201 : decode cX7_readsItem 201 = .ok (.iastore, 1) := by decide +kernel
theorem dX7_readsItem_202 : decode cX7_readsItem 202 = .ok (.return_, 1) := by decide +kernel
set_option maxRecDepth 20000 in
theorem ggX7_house_X7_advances : GoodIn wsX7_house wsX7_advances := goodIn_r _ [23, 3, 24, 7, 8, 25, 26, 27, 22, 28, 17, 29, 30, 31, 32, 33, 34, 35, 36, 37, 38, 39, 40, 41, 42, 68, 69, 70, 71, 72, 73, 74, 75, 76, 77, 78, 79, 80, 81, 82, 83, 84, 85, 86, 87, 88, 89, 90, 91, 92, 93, 94, 95] (by decide +kernel) (by decide +kernel)
set_option maxRecDepth 20000 in
theorem gX7_house_X7_advances : GoodIn wsX7_house (wsV RX7 106 RX7 yX7_advances wsX7_advances) := goodIn_app (goodIn_of _ (by decide +kernel)) ggX7_house_X7_advances
set_option maxRecDepth 20000 in
theorem ggX7_house_X7_isWell : GoodIn wsX7_house wsX7_isWell := goodIn_r _ [46, 2, 68, 69, 70, 71, 72, 73, 74, 75, 76, 77, 78, 79, 80, 81, 82, 83, 84, 85, 86, 87, 88, 89, 90, 91, 92, 93, 94, 95] (by decide +kernel) (by decide +kernel)
set_option maxRecDepth 20000 in
theorem gX7_house_X7_isWell : GoodIn wsX7_house (wsV RX7 102 RX7 yX7_isWell wsX7_isWell) := goodIn_app (goodIn_of _ (by decide +kernel)) ggX7_house_X7_isWell
set_option maxRecDepth 20000 in
theorem ggX7_house_X7_takes : GoodIn wsX7_house wsX7_takes := goodIn_r _ [50, 24, 2, 8, 43, 44, 45, 22, 46, 19, 20, 21, 23, 3, 7, 25, 26, 27, 28, 17, 29, 30, 31, 32, 33, 34, 35, 36, 37, 38, 39, 40, 41, 42, 68, 69, 70, 71, 72, 73, 74, 75, 76, 77, 78, 79, 80, 81, 82, 83, 84, 85, 86, 87, 88, 89, 90, 91, 92, 93, 94, 95] (by decide +kernel) (by decide +kernel)
set_option maxRecDepth 20000 in
theorem gX7_house_X7_takes : GoodIn wsX7_house (wsV RX7 109 RX7 yX7_takes wsX7_takes) := goodIn_app (goodIn_of _ (by decide +kernel)) ggX7_house_X7_takes
set_option maxRecDepth 20000 in
theorem ggX7_house_X7_readsItem : GoodIn wsX7_house wsX7_readsItem := goodIn_r _ [54, 4, 12, 5, 13, 14, 6, 15, 16, 55, 56, 57, 22, 58, 7, 8, 30, 31, 32, 47, 48, 49, 50, 24, 2, 43, 44, 45, 46, 19, 20, 21, 23, 3, 25, 26, 27, 28, 17, 29, 33, 34, 35, 36, 37, 38, 39, 40, 41, 42, 68, 69, 70, 71, 72, 73, 74, 75, 76, 77, 78, 79, 80, 81, 82, 83, 84, 85, 86, 87, 88, 89, 90, 91, 92, 93, 94, 95] (by decide +kernel) (by decide +kernel)
set_option maxRecDepth 20000 in
theorem gX7_house_X7_readsItem : GoodIn wsX7_house (wsV RX7 126 RX7 yX7_readsItem wsX7_readsItem) := goodIn_app (goodIn_of _ (by decide +kernel)) ggX7_house_X7_readsItem
set_option maxRecDepth 20000 in
theorem ggX7_house_X7_begins : GoodIn wsX7_house wsX7_begins := goodIn_r _ [62, 63, 11, 14, 64, 65, 66, 22, 67, 10, 12, 68, 69, 70, 71, 72, 73, 74, 75, 76, 77, 78, 79, 80, 81, 82, 83, 84, 85, 86, 87, 88, 89, 90, 91, 92, 93, 94, 95] (by decide +kernel) (by decide +kernel)
set_option maxRecDepth 20000 in
theorem gX7_house_X7_begins : GoodIn wsX7_house (wsV RX7 54 RX7 yX7_begins wsX7_begins) := goodIn_app (goodIn_of _ (by decide +kernel)) ggX7_house_X7_begins
theorem dX7_house_0 : decode cX7_house 0 = .ok (.aload_n 0, 1) := by decide +kernel
theorem dX7_house_1 : decode cX7_house 1 = .ok (.iconst 0, 1) := by decide +kernel
theorem dX7_house_2 : decode cX7_house 2 = .ok (.putfield 57, 3) := by decide +kernel
theorem dX7_house_5 : decode cX7_house 5 = .ok (.aload_n 0, 1) := by decide +kernel
theorem dX7_house_6 : decode cX7_house 6 = .ok (.iconst (-1), 1) := by decide +kernel
theorem dX7_house_7 : decode cX7_house 7 = .ok (.putfield 99, 3) := by decide +kernel
theorem dX7_house_10 : decode cX7_house 10 = .ok (.aload_n 0, 1) := by decide +kernel
theorem dX7_house_11 : decode cX7_house 11 = .ok (.iconst 0, 1) := by decide +kernel
theorem dX7_house_12 : decode cX7_house 12 = .ok (.putfield 79, 3) := by decide +kernel
theorem dX7_house_15 : decode cX7_house 15 = .ok (.iconst 0, 1) := by decide +kernel
theorem dX7_house_16 : decode cX7_house 16 = .ok (.istore_n 1, 1) := by decide +kernel
theorem dX7_house_17 : decode cX7_house 17 = .ok (.aload_n 0, 1) := by decide +kernel
theorem dX7_house_18 : decode cX7_house 18 = .ok (.iconst 4, 1) := by decide +kernel
theorem dX7_house_19 : decode cX7_house 19 = .ok (.putfield 117, 3) := by decide +kernel
theorem dX7_house_22 : decode cX7_house 22 = .ok (.aload_n 0, 1) := by decide +kernel
theorem dX7_house_23 : decode cX7_house 23 = .ok (.iconst 0, 1) := by decide +kernel
theorem dX7_house_24 : decode cX7_house 24 = .ok (.putfield 120, 3) := by decide +kernel
theorem dX7_house_27 : decode cX7_house 27 = .ok (.aload_n 0, 1) := by decide +kernel
theorem dX7_house_28 : decode cX7_house 28 = .ok (.iconst 0, 1) := by decide +kernel
theorem dX7_house_29 : decode cX7_house 29 = .ok (.putfield 123, 3) := by decide +kernel
theorem dX7_house_32 : decode cX7_house 32 = .ok (.aload_n 0, 1) := by decide +kernel
theorem dX7_house_33 : decode cX7_house 33 = .ok (.invokevirtual 106, 3) := by decide +kernel
theorem dX7_house_36 : decode cX7_house 36 = .ok (.aload_n 0, 1) := by decide +kernel
theorem dX7_house_37 : decode cX7_house 37 = .ok (.invokevirtual 102, 3) := by decide +kernel
theorem dX7_house_40 : decode cX7_house 40 = .ok (.ifCond .eq 134, 3) := by decide +kernel
theorem dX7_house_43 : decode cX7_house 43 = .ok (.aload_n 0, 1) := by decide +kernel
theorem dX7_house_44 : decode cX7_house 44 = .ok (.getfield 89, 3) := by decide +kernel
theorem dX7_house_47 : decode cX7_house 47 = .ok (.ifCond .eq 127, 3) := by decide +kernel
theorem dX7_house_50 : decode cX7_house 50 = .ok (.aload_n 0, 1) := by decide +kernel
theorem dX7_house_51 : decode cX7_house 51 = .ok (.getfield 96, 3) := by decide +kernel
theorem dX7_house_54 : decode cX7_house 54 = .ok (.ifCond .ne 15, 3) := by decide +kernel
theorem dX7_house_57 : decode cX7_house 57 = .ok (.iload_n 1, 1) := by decide +kernel
theorem dX7_house_58 : decode cX7_house 58 = .ok (.ifCond .ne 7, 3) := by decide +kernel
theorem dX7_house_61 : decode cX7_house 61 = .ok (.iconst 1, 1) := by decide +kernel
theorem dX7_house_62 : decode cX7_house 62 = .ok (.goto 53, 3) := by decide +kernel
theorem dX7_house_65 : decode cX7_house 65 = .ok (.iconst 0, 1) := by decide +kernel
theorem dX7_house_66 : decode cX7_house 66 = .ok (.goto 49, 3) := by decide +kernel
theorem dX7_house_69 : decode cX7_house 69 = .ok (.aload_n 0, 1) := by decide +kernel
theorem dX7_house_70 : decode cX7_house 70 = .ok (.getfield 96, 3) := by decide +kernel
theorem dX7_house_73 : decode cX7_house 73 = .ok (.iconst 1, 1) := by decide +kernel
theorem dX7_house_74 : decode cX7_house 74 = .ok (.if_icmp .ne 19, 3) := by decide +kernel
theorem dX7_house_77 : decode cX7_house 77 = .ok (.aload_n 0, 1) := by decide +kernel
theorem dX7_house_78 : decode cX7_house 78 = .ok (.getfield 120, 3) := by decide +kernel
theorem dX7_house_81 : decode cX7_house 81 = .ok (.iconst 4, 1) := by decide +kernel
theorem dX7_house_82 : decode cX7_house 82 = .ok (.if_icmp .ge 7, 3) := by decide +kernel
theorem dX7_house_85 : decode cX7_house 85 = .ok (.iconst 1, 1) := by decide +kernel
theorem dX7_house_86 : decode cX7_house 86 = .ok (.goto 29, 3) := by decide +kernel
theorem dX7_house_89 : decode cX7_house 89 = .ok (.iconst 0, 1) := by decide +kernel
theorem dX7_house_90 : decode cX7_house 90 = .ok (.goto 25, 3) := by decide +kernel
theorem dX7_house_93 : decode cX7_house 93 = .ok (.aload_n 0, 1) := by decide +kernel
theorem dX7_house_94 : decode cX7_house 94 = .ok (.getfield 96, 3) := by decide +kernel
theorem dX7_house_97 : decode cX7_house 97 = .ok (.iconst 3, 1) := by decide +kernel
theorem dX7_house_98 : decode cX7_house 98 = .ok (.if_icmp .eq 12, 3) := by decide +kernel
theorem dX7_house_101 : decode cX7_house 101 = .ok (.aload_n 0, 1) := by decide +kernel
theorem dX7_house_102 : decode cX7_house 102 = .ok (.getfield 123, 3) := by decide +kernel
theorem dX7_house_105 : decode cX7_house 105 = .ok (.bipush 8, 2) := by decide +kernel
theorem dX7_house_107 : decode cX7_house 107 = .ok (.if_icmp .ge 7, 3) := by decide +kernel
theorem dX7_house_110 : decode cX7_house 110 = .ok (.iconst 1, 1) := by decide +kernel
theorem dX7_house_111 : decode cX7_house 111 = .ok (.goto 4, 3) := by decide +kernel
theorem dX7_house_114 : decode cX7_house 114 = .ok (.iconst 0, 1) := by decide +kernel
theorem dX7_house_115 : decode cX7_house 115 = .ok (.istore_n 2, 1) := by decide +kernel
theorem dX7_house_116 : decode cX7_house 116 = .ok (.aload_n 0, 1) := by decide +kernel
theorem dX7_house_117 : decode cX7_house 117 = .ok (.aload_n 0, 1) := by decide +kernel
theorem dX7_house_118 : decode cX7_house 118 = .ok (.getfield 89, 3) := by decide +kernel
theorem dX7_house_121 : decode cX7_house 121 = .ok (.iconst 1, 1) := by decide +kernel
theorem dX7_house_122 : decode cX7_house 122 = .ok (.if_icmp .ne 11, 3) := by decide +kernel
theorem dX7_house_125 : decode cX7_house 125 = .ok (.iload_n 2, 1) := by decide +kernel
theorem dX7_house_126 : decode cX7_house 126 = .ok (.ifCond .eq 7, 3) := by decide +kernel
theorem dX7_house_129 : decode cX7_house 129 = .ok (.iconst 1, 1) := by decide +kernel
theorem dX7_house_130 : decode cX7_house 130 = .ok (.goto 4, 3) := by decide +kernel
theorem dX7_house_133 : decode cX7_house 133 = .ok (.iconst 0, 1) := by decide +kernel
theorem dX7_house_134 : decode cX7_house 134 = .ok (.invokevirtual 109, 3) := by decide +kernel
theorem dX7_house_137 : decode cX7_house 137 = .ok (.istore_n 3, 1) := by decide +kernel
theorem dX7_house_138 : decode cX7_house 138 = .ok (.aload_n 0, 1) := by decide +kernel
theorem dX7_house_139 : decode cX7_house 139 = .ok (.invokevirtual 102, 3) := by decide +kernel
theorem dX7_house_142 : decode cX7_house 142 = .ok (.ifCond .eq 8, 3) := by decide +kernel
theorem dX7_house_145 : decode cX7_house 145 = .ok (.aload_n 0, 1) := by decide +kernel
theorem dX7_house_146 : decode cX7_house 146 = .ok (.iload_n 3, 1) := by decide +kernel
theorem dX7_house_147 : decode cX7_house 147 = .ok (.invokevirtual 126, 3) := by decide +kernel
theorem dX7_house_150 : decode cX7_house 150 = .ok (.aload_n 0, 1) := by decide +kernel
theorem dX7_house_151 : decode cX7_house 151 = .ok (.aload_n 0, 1) := by decide +kernel
theorem dX7_house_152 : decode cX7_house 152 = .ok (.getfield 89, 3) := by decide +kernel
theorem dX7_house_155 : decode cX7_house 155 = .ok (.iconst 3, 1) := by decide +kernel
theorem dX7_house_156 : decode cX7_house 156 = .ok (.if_icmp .ne 7, 3) := by decide +kernel
theorem dX7_house_159 : decode cX7_house 159 = .ok (.iconst 1, 1) := by decide +kernel
theorem dX7_house_160 : decode cX7_house 160 = .ok (.goto 4, 3) := by decide +kernel
theorem dX7_house_163 : decode cX7_house 163 = .ok (.iconst 0, 1) := by decide +kernel
theorem dX7_house_164 : decode cX7_house 164 = .ok (.invokevirtual 109, 3) := by decide +kernel
theorem dX7_house_167 : decode cX7_house 167 = .ok (.pop, 1) := by decide +kernel
theorem dX7_house_168 : decode cX7_house 168 = .ok (.iinc 1 1, 3) := by decide +kernel
theorem dX7_house_171 : decode cX7_house 171 = .ok (.goto (-135), 3) := by decide +kernel
theorem dX7_house_174 : decode cX7_house 174 = .ok (.aload_n 0, 1) := by decide +kernel
theorem dX7_house_175 : decode cX7_house 175 = .ok (.invokevirtual 102, 3) := by decide +kernel
theorem dX7_house_178 : decode cX7_house 178 = .ok (.ifCond .ne 11, 3) := by decide +kernel
theorem dX7_house_181 : decode cX7_house 181 = .ok (.bipush (-10), 2) := by decide +kernel
theorem dX7_house_183 : decode cX7_house 183 = .ok (.aload_n 0, 1) := by decide +kernel
theorem dX7_house_184 : decode cX7_house 184 = .ok (.getfield 99, 3) := by decide +kernel
theorem dX7_house_187 : decode cX7_house 187 = .ok (.isub, 1) := by decide +kernel
theorem dX7_house_188 : decode cX7_house 188 = .ok (.ireturn, 1) := by decide +kernel
theorem dX7_house_189 : decode cX7_house 189 = .ok (.aload_n 0, 1) := by decide +kernel
theorem dX7_house_190 : decode cX7_house 190 = .ok (.aload_n 0, 1) := by decide +kernel
theorem dX7_house_191 : decode cX7_house 191 = .ok (.getfield 117, 3) := by decide +kernel
theorem dX7_house_194 : decode cX7_house 194 = .ok (.putfield 50, 3) := by decide +kernel
theorem dX7_house_197 : decode cX7_house 197 = .ok (.aload_n 0, 1) := by decide +kernel
theorem dX7_house_198 : decode cX7_house 198 = .ok (.aload_n 0, 1) := by decide +kernel
theorem dX7_house_199 : decode cX7_house 199 = .ok (.getfield 120, 3) := by decide +kernel
theorem dX7_house_202 : decode cX7_house 202 = .ok (.putfield 130, 3) := by decide +kernel
theorem dX7_house_205 : decode cX7_house 205 = .ok (.aload_n 0, 1) := by decide +kernel
theorem dX7_house_206 : decode cX7_house 206 = .ok (.aload_n 0, 1) := by decide +kernel
theorem dX7_house_207 : decode cX7_house 207 = .ok (.getfield 123, 3) := by decide +kernel
theorem dX7_house_210 : decode cX7_house 210 = .ok (.putfield 133, 3) := by decide +kernel
theorem dX7_house_213 : decode cX7_house 213 = .ok (.iconst 0, 1) := by decide +kernel
theorem dX7_house_214 : decode cX7_house 214 = .ok (.istore_n 2, 1) := by decide +kernel
theorem dX7_house_215 : decode cX7_house 215 = .ok (.iload_n 2, 1) := by decide +kernel
theorem dX7_house_216 : decode cX7_house 216 = .ok (.iconst 4, 1) := by decide +kernel
theorem dX7_house_217 : decode cX7_house 217 = .ok (.if_icmp .ge 37, 3) := by decide +kernel
theorem dX7_house_220 : decode cX7_house 220 = .ok (.aload_n 0, 1) := by decide +kernel
theorem dX7_house_221 : decode cX7_house 221 = .ok (.getfield 13, 3) := by decide +kernel
theorem dX7_house_224 : decode cX7_house 224 = .ok (.iload_n 2, 1) := by decide +kernel
theorem dX7_house_225 : decode cX7_house 225 = .ok (.aload_n 0, 1) := by decide +kernel
theorem dX7_house_226 : decode cX7_house 226 = .ok (.getfield 13, 3) := by decide +kernel
theorem dX7_house_229 : decode cX7_house 229 = .ok (.iconst 4, 1) := by decide +kernel
theorem dX7_house_230 : decode cX7_house 230 = .ok (.iload_n 2, 1) := by decide +kernel
theorem dX7_house_231 : decode cX7_house 231 = .ok (.iadd, 1) := by decide +kernel
theorem dX7_house_232 : decode cX7_house 232 = .ok (.iaload, 1) := by decide +kernel
theorem dX7_house_233 : decode cX7_house 233 = .ok (.iastore, 1) := by decide +kernel
theorem dX7_house_234 : decode cX7_house 234 = .ok (.aload_n 0, 1) := by decide +kernel
theorem dX7_house_235 : decode cX7_house 235 = .ok (.getfield 16, 3) := by decide +kernel
theorem dX7_house_238 : decode cX7_house 238 = .ok (.iload_n 2, 1) := by decide +kernel
theorem dX7_house_239 : decode cX7_house 239 = .ok (.aload_n 0, 1) := by decide +kernel
theorem dX7_house_240 : decode cX7_house 240 = .ok (.getfield 16, 3) := by decide +kernel
theorem dX7_house_243 : decode cX7_house 243 = .ok (.iconst 4, 1) := by decide +kernel
theorem dX7_house_244 : decode cX7_house 244 = .ok (.iload_n 2, 1) := by decide +kernel
theorem dX7_house_245 : decode cX7_house 245 = .ok (.iadd, 1) := by decide +kernel
theorem dX7_house_246 : decode cX7_house 246 = .ok (.iaload, 1) := by decide +kernel
theorem dX7_house_247 : decode cX7_house 247 = .ok (.iastore, 1) := by decide +kernel
theorem dX7_house_248 : decode cX7_house 248 = .ok (.iinc 2 1, 3) := by decide +kernel
theorem dX7_house_251 : decode cX7_house 251 = .ok (.goto (-36), 3) := by decide +kernel
theorem dX7_house_254 : decode cX7_house 254 = .ok (.iconst 0, 1) := by decide +kernel
theorem dX7_house_255 : decode cX7_house 255 = .ok (.istore_n 2, 1) := by decide +kernel
theorem dX7_house_256 : decode cX7_house 256 = .ok (.iload_n 2, 1) := by decide +kernel
theorem dX7_house_257 : decode cX7_house 257 = .ok (.bipush 8, 2) := by decide +kernel
theorem dX7_house_259 : decode cX7_house 259 = .ok (.if_icmp .ge 54, 3) := by decide +kernel
theorem dX7_house_262 : decode cX7_house 262 = .ok (.aload_n 0, 1) := by decide +kernel
theorem dX7_house_263 : decode cX7_house 263 = .ok (.getfield 19, 3) := by decide +kernel
theorem dX7_house_266 : decode cX7_house 266 = .ok (.iload_n 2, 1) := by decide +kernel
theorem dX7_house_267 : decode cX7_house 267 = .ok (.aload_n 0, 1) := by decide +kernel
theorem dX7_house_268 : decode cX7_house 268 = .ok (.getfield 19, 3) := by decide +kernel
theorem dX7_house_271 : decode cX7_house 271 = .ok (.bipush 8, 2) := by decide +kernel
theorem dX7_house_273 : decode cX7_house 273 = .ok (.iload_n 2, 1) := by decide +kernel
theorem dX7_house_274 : decode cX7_house 274 = .ok (.iadd, 1) := by decide +kernel
theorem dX7_house_275 : decode cX7_house 275 = .ok (.iaload, 1) := by decide +kernel
theorem dX7_house_276 : decode cX7_house 276 = .ok (.iastore, 1) := by decide +kernel
theorem dX7_house_277 : decode cX7_house 277 = .ok (.aload_n 0, 1) := by decide +kernel
theorem dX7_house_278 : decode cX7_house 278 = .ok (.getfield 22, 3) := by decide +kernel
theorem dX7_house_281 : decode cX7_house 281 = .ok (.iload_n 2, 1) := by decide +kernel
theorem dX7_house_282 : decode cX7_house 282 = .ok (.aload_n 0, 1) := by decide +kernel
theorem dX7_house_283 : decode cX7_house 283 = .ok (.getfield 22, 3) := by decide +kernel
theorem dX7_house_286 : decode cX7_house 286 = .ok (.bipush 8, 2) := by decide +kernel
theorem dX7_house_288 : decode cX7_house 288 = .ok (.iload_n 2, 1) := by decide +kernel
theorem dX7_house_289 : decode cX7_house 289 = .ok (.iadd, 1) := by decide +kernel
theorem dX7_house_290 : decode cX7_house 290 = .ok (.iaload, 1) := by decide +kernel
theorem dX7_house_291 : decode cX7_house 291 = .ok (.iastore, 1) := by decide +kernel
theorem dX7_house_292 : decode cX7_house 292 = .ok (.aload_n 0, 1) := by decide +kernel
theorem dX7_house_293 : decode cX7_house 293 = .ok (.getfield 25, 3) := by decide +kernel
theorem dX7_house_296 : decode cX7_house 296 = .ok (.iload_n 2, 1) := by decide +kernel
theorem dX7_house_297 : decode cX7_house 297 = .ok (.aload_n 0, 1) := by decide +kernel
theorem dX7_house_298 : decode cX7_house 298 = .ok (.getfield 25, 3) := by decide +kernel
theorem dX7_house_301 : decode cX7_house 301 = .ok (.bipush 8, 2) := by decide +kernel
theorem dX7_house_303 : decode cX7_house 303 = .ok (.iload_n 2, 1) := by decide +kernel
theorem dX7_house_304 : decode cX7_house 304 = .ok (.iadd, 1) := by decide +kernel
theorem dX7_house_305 : decode cX7_house 305 = .ok (.iaload, 1) := by decide +kernel
theorem dX7_house_306 : decode cX7_house 306 = .ok (.iastore, 1) := by decide +kernel
theorem dX7_house_307 : decode cX7_house 307 = .ok (.iinc 2 1, 3) := by decide +kernel
theorem dX7_house_310 : decode cX7_house 310 = .ok (.goto (-54), 3) := by decide +kernel
theorem dX7_house_313 : decode cX7_house 313 = .ok (.aload_n 0, 1) := by decide +kernel
theorem dX7_house_314 : decode cX7_house 314 = .ok (.iconst 0, 1) := by decide +kernel
theorem dX7_house_315 : decode cX7_house 315 = .ok (.putfield 64, 3) := by decide +kernel
theorem dX7_house_318 : decode cX7_house 318 = .ok (.aload_n 0, 1) := by decide +kernel
theorem dX7_house_319 : decode cX7_house 319 = .ok (.getfield 34, 3) := by decide +kernel
theorem dX7_house_322 : decode cX7_house 322 = .ok (.iconst 0, 1) := by decide +kernel
theorem dX7_house_323 : decode cX7_house 323 = .ok (.iconst 0, 1) := by decide +kernel
theorem dX7_house_324 : decode cX7_house 324 = .ok (.bastore, 1) := by decide +kernel
theorem dX7_house_325 : decode cX7_house 325 = .ok (.aload_n 0, 1) := by decide +kernel
theorem dX7_house_326 : decode cX7_house 326 = .ok (.getfield 34, 3) := by decide +kernel
theorem dX7_house_329 : decode cX7_house 329 = .ok (.iconst 1, 1) := by decide +kernel
theorem dX7_house_330 : decode cX7_house 330 = .ok (.iconst 0, 1) := by decide +kernel
theorem dX7_house_331 : decode cX7_house 331 = .ok (.bastore, 1) := by decide +kernel
theorem dX7_house_332 : decode cX7_house 332 = .ok (.aload_n 0, 1) := by decide +kernel
theorem dX7_house_333 : decode cX7_house 333 = .ok (.invokevirtual 54, 3) := by decide +kernel
theorem dX7_house_336 : decode cX7_house 336 = .ok (.iload_n 1, 1) := by decide +kernel
theorem dX7_house_337 : decode cX7_house 337 = .ok (.ireturn, 1) := by decide +kernel
set_option maxRecDepth 20000 in
theorem ggX7_begins_X7_rested : GoodIn wsX7_begins wsX7_rested := goodIn_r _ [8, 1, 9, 10, 11, 12, 13, 14, 15, 16, 17, 18, 19, 20, 21, 22, 23, 24, 25, 26, 27, 28, 29, 30, 31, 32, 33, 34, 35, 36, 37, 38] (by decide +kernel) (by decide +kernel)
set_option maxRecDepth 20000 in
theorem gX7_begins_X7_rested : GoodIn wsX7_begins (wsV RX7 136 RX7 yX7_rested wsX7_rested) := goodIn_app (goodIn_of _ (by decide +kernel)) ggX7_begins_X7_rested
theorem dX7_begins_0 : decode cX7_begins 0 = .ok (.iconst 0, 1) := by decide +kernel
theorem dX7_begins_1 : decode cX7_begins 1 = .ok (.istore_n 1, 1) := by decide +kernel
theorem dX7_begins_2 : decode cX7_begins 2 = .ok (.iload_n 1, 1) := by decide +kernel
theorem dX7_begins_3 : decode cX7_begins 3 = .ok (.bipush 8, 2) := by decide +kernel
theorem dX7_begins_5 : decode cX7_begins 5 = .ok (.if_icmp .ge 44, 3) := by decide +kernel
theorem dX7_begins_8 : decode cX7_begins 8 = .ok (.aload_n 0, 1) := by decide +kernel
theorem dX7_begins_9 : decode cX7_begins 9 = .ok (.getfield 28, 3) := by decide +kernel
theorem dX7_begins_12 : decode cX7_begins 12 = .ok (.iload_n 1, 1) := by decide +kernel
theorem dX7_begins_13 : decode cX7_begins 13 = .ok (.iload_n 1, 1) := by decide +kernel
theorem dX7_begins_14 : decode cX7_begins 14 = .ok (.aload_n 0, 1) := by decide +kernel
theorem dX7_begins_15 : decode cX7_begins 15 = .ok (.getfield 133, 3) := by decide +kernel
theorem dX7_begins_18 : decode cX7_begins 18 = .ok (.if_icmp .ge 12, 3) := by decide +kernel
theorem dX7_begins_21 : decode cX7_begins 21 = .ok (.aload_n 0, 1) := by decide +kernel
theorem dX7_begins_22 : decode cX7_begins 22 = .ok (.getfield 19, 3) := by decide +kernel
theorem dX7_begins_25 : decode cX7_begins 25 = .ok (.iload_n 1, 1) := by decide +kernel
theorem dX7_begins_26 : decode cX7_begins 26 = .ok (.iaload, 1) := by decide +kernel
theorem dX7_begins_27 : decode cX7_begins 27 = .ok (.goto 4, 3) := by decide +kernel
theorem dX7_begins_30 : decode cX7_begins 30 = .ok (.iconst 0, 1) := by decide +kernel
theorem dX7_begins_31 : decode cX7_begins 31 = .ok (.iastore, 1) := by decide +kernel
theorem dX7_begins_32 : decode cX7_begins 32 = .ok (.aload_n 0, 1) := by decide +kernel
theorem dX7_begins_33 : decode cX7_begins 33 = .ok (.getfield 28, 3) := by decide +kernel
theorem dX7_begins_36 : decode cX7_begins 36 = .ok (.bipush 8, 2) := by decide +kernel
theorem dX7_begins_38 : decode cX7_begins 38 = .ok (.iload_n 1, 1) := by decide +kernel
theorem dX7_begins_39 : decode cX7_begins 39 = .ok (.iadd, 1) := by decide +kernel
theorem dX7_begins_40 : decode cX7_begins 40 = .ok (.bipush (-9), 2) := by decide +kernel
theorem dX7_begins_42 : decode cX7_begins 42 = .ok (.iastore, 1) := by decide +kernel
theorem dX7_begins_43 : decode cX7_begins 43 = .ok (.iinc 1 1, 3) := by decide +kernel
theorem dX7_begins_46 : decode cX7_begins 46 = .ok (.goto (-44), 3) := by decide +kernel
theorem dX7_begins_49 : decode cX7_begins 49 = .ok (.aload_n 0, 1) := by decide +kernel
theorem dX7_begins_50 : decode cX7_begins 50 = .ok (.getfield 28, 3) := by decide +kernel
theorem dX7_begins_53 : decode cX7_begins 53 = .ok (.bipush 20, 2) := by decide +kernel
theorem dX7_begins_55 : decode cX7_begins 55 = .ok (.iconst 0, 1) := by decide +kernel
theorem dX7_begins_56 : decode cX7_begins 56 = .ok (.iastore, 1) := by decide +kernel
theorem dX7_begins_57 : decode cX7_begins 57 = .ok (.aload_n 0, 1) := by decide +kernel
theorem dX7_begins_58 : decode cX7_begins 58 = .ok (.invokevirtual 136, 3) := by decide +kernel
theorem dX7_begins_61 : decode cX7_begins 61 = .ok (.return_, 1) := by decide +kernel
theorem dX7_rested_0 : decode cX7_rested 0 = .ok (.iconst 0, 1) := by decide +kernel
theorem dX7_rested_1 : decode cX7_rested 1 = .ok (.istore_n 1, 1) := by decide +kernel
theorem dX7_rested_2 : decode cX7_rested 2 = .ok (.iload_n 1, 1) := by decide +kernel
theorem dX7_rested_3 : decode cX7_rested 3 = .ok (.iconst 4, 1) := by decide +kernel
theorem dX7_rested_4 : decode cX7_rested 4 = .ok (.if_icmp .ge 36, 3) := by decide +kernel
theorem dX7_rested_7 : decode cX7_rested 7 = .ok (.aload_n 0, 1) := by decide +kernel
theorem dX7_rested_8 : decode cX7_rested 8 = .ok (.getfield 28, 3) := by decide +kernel
theorem dX7_rested_11 : decode cX7_rested 11 = .ok (.bipush 16, 2) := by decide +kernel
theorem dX7_rested_13 : decode cX7_rested 13 = .ok (.iload_n 1, 1) := by decide +kernel
theorem dX7_rested_14 : decode cX7_rested 14 = .ok (.iadd, 1) := by decide +kernel
theorem dX7_rested_15 : decode cX7_rested 15 = .ok (.iload_n 1, 1) := by decide +kernel
theorem dX7_rested_16 : decode cX7_rested 16 = .ok (.aload_n 0, 1) := by decide +kernel
theorem dX7_rested_17 : decode cX7_rested 17 = .ok (.getfield 130, 3) := by decide +kernel
theorem dX7_rested_20 : decode cX7_rested 20 = .ok (.if_icmp .ge 12, 3) := by decide +kernel
theorem dX7_rested_23 : decode cX7_rested 23 = .ok (.aload_n 0, 1) := by decide +kernel
theorem dX7_rested_24 : decode cX7_rested 24 = .ok (.getfield 13, 3) := by decide +kernel
theorem dX7_rested_27 : decode cX7_rested 27 = .ok (.iload_n 1, 1) := by decide +kernel
theorem dX7_rested_28 : decode cX7_rested 28 = .ok (.iaload, 1) := by decide +kernel
theorem dX7_rested_29 : decode cX7_rested 29 = .ok (.goto 4, 3) := by decide +kernel
theorem dX7_rested_32 : decode cX7_rested 32 = .ok (.iconst 0, 1) := by decide +kernel
theorem dX7_rested_33 : decode cX7_rested 33 = .ok (.iastore, 1) := by decide +kernel
theorem dX7_rested_34 : decode cX7_rested 34 = .ok (.iinc 1 1, 3) := by decide +kernel
theorem dX7_rested_37 : decode cX7_rested 37 = .ok (.goto (-35), 3) := by decide +kernel
theorem dX7_rested_40 : decode cX7_rested 40 = .ok (.return_, 1) := by decide +kernel
set_option maxRecDepth 20000 in
theorem ggX7_isPerson_X7_in : GoodIn wsX7_isPerson wsX7_in := goodIn_r _ [5] (by decide +kernel) (by decide +kernel)
set_option maxRecDepth 20000 in
theorem gX7_isPerson_X7_in : GoodIn wsX7_isPerson (va_wsS RX7 60 yX7_in wsX7_in) := goodIn_app (goodIn_of _ (by decide +kernel)) ggX7_isPerson_X7_in
theorem dX7_isPerson_0 : decode cX7_isPerson 0 = .ok (.iload_n 1, 1) := by decide +kernel
theorem dX7_isPerson_1 : decode cX7_isPerson 1 = .ok (.iconst 0, 1) := by decide +kernel
theorem dX7_isPerson_2 : decode cX7_isPerson 2 = .ok (.aload_n 0, 1) := by decide +kernel
theorem dX7_isPerson_3 : decode cX7_isPerson 3 = .ok (.getfield 130, 3) := by decide +kernel
theorem dX7_isPerson_6 : decode cX7_isPerson 6 = .ok (.iconst 1, 1) := by decide +kernel
theorem dX7_isPerson_7 : decode cX7_isPerson 7 = .ok (.isub, 1) := by decide +kernel
theorem dX7_isPerson_8 : decode cX7_isPerson 8 = .ok (.invokestatic 60, 3) := by decide +kernel
theorem dX7_isPerson_11 : decode cX7_isPerson 11 = .ok (.ireturn, 1) := by decide +kernel
set_option maxRecDepth 20000 in
theorem ggX7_isThing_X7_in : GoodIn wsX7_isThing wsX7_in := goodIn_r _ [5] (by decide +kernel) (by decide +kernel)
set_option maxRecDepth 20000 in
theorem gX7_isThing_X7_in : GoodIn wsX7_isThing (va_wsS RX7 60 yX7_in wsX7_in) := goodIn_app (goodIn_of _ (by decide +kernel)) ggX7_isThing_X7_in
theorem dX7_isThing_0 : decode cX7_isThing 0 = .ok (.iload_n 1, 1) := by decide +kernel
theorem dX7_isThing_1 : decode cX7_isThing 1 = .ok (.iconst 0, 1) := by decide +kernel
theorem dX7_isThing_2 : decode cX7_isThing 2 = .ok (.aload_n 0, 1) := by decide +kernel
theorem dX7_isThing_3 : decode cX7_isThing 3 = .ok (.getfield 133, 3) := by decide +kernel
theorem dX7_isThing_6 : decode cX7_isThing 6 = .ok (.iconst 1, 1) := by decide +kernel
theorem dX7_isThing_7 : decode cX7_isThing 7 = .ok (.isub, 1) := by decide +kernel
theorem dX7_isThing_8 : decode cX7_isThing 8 = .ok (.invokestatic 60, 3) := by decide +kernel
theorem dX7_isThing_11 : decode cX7_isThing 11 = .ok (.ireturn, 1) := by decide +kernel
set_option maxRecDepth 20000 in
theorem ggX7_isRoom_X7_in : GoodIn wsX7_isRoom wsX7_in := goodIn_r _ [5] (by decide +kernel) (by decide +kernel)
set_option maxRecDepth 20000 in
theorem gX7_isRoom_X7_in : GoodIn wsX7_isRoom (va_wsS RX7 60 yX7_in wsX7_in) := goodIn_app (goodIn_of _ (by decide +kernel)) ggX7_isRoom_X7_in
theorem dX7_isRoom_0 : decode cX7_isRoom 0 = .ok (.iload_n 1, 1) := by decide +kernel
theorem dX7_isRoom_1 : decode cX7_isRoom 1 = .ok (.iconst 0, 1) := by decide +kernel
theorem dX7_isRoom_2 : decode cX7_isRoom 2 = .ok (.aload_n 0, 1) := by decide +kernel
theorem dX7_isRoom_3 : decode cX7_isRoom 3 = .ok (.getfield 50, 3) := by decide +kernel
theorem dX7_isRoom_6 : decode cX7_isRoom 6 = .ok (.iconst 1, 1) := by decide +kernel
theorem dX7_isRoom_7 : decode cX7_isRoom 7 = .ok (.isub, 1) := by decide +kernel
theorem dX7_isRoom_8 : decode cX7_isRoom 8 = .ok (.invokestatic 60, 3) := by decide +kernel
theorem dX7_isRoom_11 : decode cX7_isRoom 11 = .ok (.ireturn, 1) := by decide +kernel
set_option maxRecDepth 20000 in
theorem ggX7_person_X7_isPerson : GoodIn wsX7_person wsX7_isPerson := goodIn_r _ [9, 10, 11, 12, 8, 13, 14, 15, 16, 17, 18, 19, 20, 21, 22, 23, 24, 25, 26, 27, 28, 29, 30, 31, 32, 33, 34, 35, 36, 37, 38, 39, 40, 41] (by decide +kernel) (by decide +kernel)
set_option maxRecDepth 20000 in
theorem gX7_person_X7_isPerson : GoodIn wsX7_person (wsV RX7 139 RX7 yX7_isPerson wsX7_isPerson) := goodIn_app (goodIn_of _ (by decide +kernel)) ggX7_person_X7_isPerson
set_option maxRecDepth 20000 in
theorem ggX7_person_X7_in : GoodIn wsX7_person wsX7_in := goodIn_r _ [13] (by decide +kernel) (by decide +kernel)
set_option maxRecDepth 20000 in
theorem gX7_person_X7_in : GoodIn wsX7_person (va_wsS RX7 60 yX7_in wsX7_in) := goodIn_app (goodIn_of _ (by decide +kernel)) ggX7_person_X7_in
theorem dX7_person_0 : decode cX7_person 0 = .ok (.aload_n 0, 1) := by decide +kernel
theorem dX7_person_1 : decode cX7_person 1 = .ok (.iconst 0, 1) := by decide +kernel
theorem dX7_person_2 : decode cX7_person 2 = .ok (.putfield 57, 3) := by decide +kernel
theorem dX7_person_5 : decode cX7_person 5 = .ok (.aload_n 0, 1) := by decide +kernel
theorem dX7_person_6 : decode cX7_person 6 = .ok (.iload_n 1, 1) := by decide +kernel
theorem dX7_person_7 : decode cX7_person 7 = .ok (.invokevirtual 139, 3) := by decide +kernel
theorem dX7_person_10 : decode cX7_person 10 = .ok (.ifCond .eq 12, 3) := by decide +kernel
theorem dX7_person_13 : decode cX7_person 13 = .ok (.iload_n 2, 1) := by decide +kernel
theorem dX7_person_14 : decode cX7_person 14 = .ok (.iconst 0, 1) := by decide +kernel
theorem dX7_person_15 : decode cX7_person 15 = .ok (.iconst 2, 1) := by decide +kernel
theorem dX7_person_16 : decode cX7_person 16 = .ok (.invokestatic 60, 3) := by decide +kernel
theorem dX7_person_19 : decode cX7_person 19 = .ok (.ifCond .ne 5, 3) := by decide +kernel
theorem dX7_person_22 : decode cX7_person 22 = .ok (.iconst (-1), 1) := by decide +kernel
theorem dX7_person_23 : decode cX7_person 23 = .ok (.ireturn, 1) := by decide +kernel
theorem dX7_person_24 : decode cX7_person 24 = .ok (.iload_n 2, 1) := by decide +kernel
theorem dX7_person_25 : decode cX7_person 25 = .ok (.ifCond .ne 12, 3) := by decide +kernel
theorem dX7_person_28 : decode cX7_person 28 = .ok (.aload_n 0, 1) := by decide +kernel
theorem dX7_person_29 : decode cX7_person 29 = .ok (.getfield 13, 3) := by decide +kernel
theorem dX7_person_32 : decode cX7_person 32 = .ok (.iload_n 1, 1) := by decide +kernel
theorem dX7_person_33 : decode cX7_person 33 = .ok (.iaload, 1) := by decide +kernel
theorem dX7_person_34 : decode cX7_person 34 = .ok (.goto 26, 3) := by decide +kernel
theorem dX7_person_37 : decode cX7_person 37 = .ok (.iload_n 2, 1) := by decide +kernel
theorem dX7_person_38 : decode cX7_person 38 = .ok (.iconst 1, 1) := by decide +kernel
theorem dX7_person_39 : decode cX7_person 39 = .ok (.if_icmp .ne 12, 3) := by decide +kernel
theorem dX7_person_42 : decode cX7_person 42 = .ok (.aload_n 0, 1) := by decide +kernel
theorem dX7_person_43 : decode cX7_person 43 = .ok (.getfield 16, 3) := by decide +kernel
theorem dX7_person_46 : decode cX7_person 46 = .ok (.iload_n 1, 1) := by decide +kernel
theorem dX7_person_47 : decode cX7_person 47 = .ok (.iaload, 1) := by decide +kernel
theorem dX7_person_48 : decode cX7_person 48 = .ok (.goto 12, 3) := by decide +kernel
theorem dX7_person_51 : decode cX7_person 51 = .ok (.aload_n 0, 1) := by decide +kernel
theorem dX7_person_52 : decode cX7_person 52 = .ok (.getfield 28, 3) := by decide +kernel
theorem dX7_person_55 : decode cX7_person 55 = .ok (.bipush 16, 2) := by decide +kernel
theorem dX7_person_57 : decode cX7_person 57 = .ok (.iload_n 1, 1) := by decide +kernel
theorem dX7_person_58 : decode cX7_person 58 = .ok (.iadd, 1) := by decide +kernel
theorem dX7_person_59 : decode cX7_person 59 = .ok (.iaload, 1) := by decide +kernel
theorem dX7_person_60 : decode cX7_person 60 = .ok (.ireturn, 1) := by decide +kernel
set_option maxRecDepth 20000 in
theorem ggX7_thing_X7_isThing : GoodIn wsX7_thing wsX7_isThing := goodIn_r _ [9, 10, 11, 12, 8, 13, 14, 15, 16, 17, 18, 19, 20, 21, 22, 23, 24, 25, 26, 27, 28, 29, 30, 31, 32, 33, 34, 35, 36, 37, 38, 39, 40, 41] (by decide +kernel) (by decide +kernel)
set_option maxRecDepth 20000 in
theorem gX7_thing_X7_isThing : GoodIn wsX7_thing (wsV RX7 143 RX7 yX7_isThing wsX7_isThing) := goodIn_app (goodIn_of _ (by decide +kernel)) ggX7_thing_X7_isThing
set_option maxRecDepth 20000 in
theorem ggX7_thing_X7_in : GoodIn wsX7_thing wsX7_in := goodIn_r _ [13] (by decide +kernel) (by decide +kernel)
set_option maxRecDepth 20000 in
theorem gX7_thing_X7_in : GoodIn wsX7_thing (va_wsS RX7 60 yX7_in wsX7_in) := goodIn_app (goodIn_of _ (by decide +kernel)) ggX7_thing_X7_in
theorem dX7_thing_0 : decode cX7_thing 0 = .ok (.aload_n 0, 1) := by decide +kernel
theorem dX7_thing_1 : decode cX7_thing 1 = .ok (.iconst 0, 1) := by decide +kernel
theorem dX7_thing_2 : decode cX7_thing 2 = .ok (.putfield 57, 3) := by decide +kernel
theorem dX7_thing_5 : decode cX7_thing 5 = .ok (.aload_n 0, 1) := by decide +kernel
theorem dX7_thing_6 : decode cX7_thing 6 = .ok (.iload_n 1, 1) := by decide +kernel
theorem dX7_thing_7 : decode cX7_thing 7 = .ok (.invokevirtual 143, 3) := by decide +kernel
theorem dX7_thing_10 : decode cX7_thing 10 = .ok (.ifCond .eq 12, 3) := by decide +kernel
theorem dX7_thing_13 : decode cX7_thing 13 = .ok (.iload_n 2, 1) := by decide +kernel
theorem dX7_thing_14 : decode cX7_thing 14 = .ok (.iconst 0, 1) := by decide +kernel
theorem dX7_thing_15 : decode cX7_thing 15 = .ok (.iconst 3, 1) := by decide +kernel
theorem dX7_thing_16 : decode cX7_thing 16 = .ok (.invokestatic 60, 3) := by decide +kernel
theorem dX7_thing_19 : decode cX7_thing 19 = .ok (.ifCond .ne 5, 3) := by decide +kernel
theorem dX7_thing_22 : decode cX7_thing 22 = .ok (.iconst (-1), 1) := by decide +kernel
theorem dX7_thing_23 : decode cX7_thing 23 = .ok (.ireturn, 1) := by decide +kernel
theorem dX7_thing_24 : decode cX7_thing 24 = .ok (.iload_n 2, 1) := by decide +kernel
theorem dX7_thing_25 : decode cX7_thing 25 = .ok (.ifCond .ne 12, 3) := by decide +kernel
theorem dX7_thing_28 : decode cX7_thing 28 = .ok (.aload_n 0, 1) := by decide +kernel
theorem dX7_thing_29 : decode cX7_thing 29 = .ok (.getfield 28, 3) := by decide +kernel
theorem dX7_thing_32 : decode cX7_thing 32 = .ok (.iload_n 1, 1) := by decide +kernel
theorem dX7_thing_33 : decode cX7_thing 33 = .ok (.iaload, 1) := by decide +kernel
theorem dX7_thing_34 : decode cX7_thing 34 = .ok (.goto 40, 3) := by decide +kernel
theorem dX7_thing_37 : decode cX7_thing 37 = .ok (.iload_n 2, 1) := by decide +kernel
theorem dX7_thing_38 : decode cX7_thing 38 = .ok (.iconst 1, 1) := by decide +kernel
theorem dX7_thing_39 : decode cX7_thing 39 = .ok (.if_icmp .ne 12, 3) := by decide +kernel
theorem dX7_thing_42 : decode cX7_thing 42 = .ok (.aload_n 0, 1) := by decide +kernel
theorem dX7_thing_43 : decode cX7_thing 43 = .ok (.getfield 22, 3) := by decide +kernel
theorem dX7_thing_46 : decode cX7_thing 46 = .ok (.iload_n 1, 1) := by decide +kernel
theorem dX7_thing_47 : decode cX7_thing 47 = .ok (.iaload, 1) := by decide +kernel
theorem dX7_thing_48 : decode cX7_thing 48 = .ok (.goto 26, 3) := by decide +kernel
theorem dX7_thing_51 : decode cX7_thing 51 = .ok (.iload_n 2, 1) := by decide +kernel
theorem dX7_thing_52 : decode cX7_thing 52 = .ok (.iconst 2, 1) := by decide +kernel
theorem dX7_thing_53 : decode cX7_thing 53 = .ok (.if_icmp .ne 12, 3) := by decide +kernel
theorem dX7_thing_56 : decode cX7_thing 56 = .ok (.aload_n 0, 1) := by decide +kernel
theorem dX7_thing_57 : decode cX7_thing 57 = .ok (.getfield 25, 3) := by decide +kernel
theorem dX7_thing_60 : decode cX7_thing 60 = .ok (.iload_n 1, 1) := by decide +kernel
theorem dX7_thing_61 : decode cX7_thing 61 = .ok (.iaload, 1) := by decide +kernel
theorem dX7_thing_62 : decode cX7_thing 62 = .ok (.goto 12, 3) := by decide +kernel
theorem dX7_thing_65 : decode cX7_thing 65 = .ok (.aload_n 0, 1) := by decide +kernel
theorem dX7_thing_66 : decode cX7_thing 66 = .ok (.getfield 28, 3) := by decide +kernel
theorem dX7_thing_69 : decode cX7_thing 69 = .ok (.bipush 8, 2) := by decide +kernel
theorem dX7_thing_71 : decode cX7_thing 71 = .ok (.iload_n 1, 1) := by decide +kernel
theorem dX7_thing_72 : decode cX7_thing 72 = .ok (.iadd, 1) := by decide +kernel
theorem dX7_thing_73 : decode cX7_thing 73 = .ok (.iaload, 1) := by decide +kernel
theorem dX7_thing_74 : decode cX7_thing 74 = .ok (.ireturn, 1) := by decide +kernel
theorem dX7_areOne_0 : decode cX7_areOne 0 = .ok (.iload_n 1, 1) := by decide +kernel
theorem dX7_areOne_1 : decode cX7_areOne 1 = .ok (.iload_n 2, 1) := by decide +kernel
theorem dX7_areOne_2 : decode cX7_areOne 2 = .ok (.if_icmp .eq 38, 3) := by decide +kernel
theorem dX7_areOne_5 : decode cX7_areOne 5 = .ok (.aload_n 0, 1) := by decide +kernel
theorem dX7_areOne_6 : decode cX7_areOne 6 = .ok (.getfield 28, 3) := by decide +kernel
theorem dX7_areOne_9 : decode cX7_areOne 9 = .ok (.bipush 8, 2) := by decide +kernel
theorem dX7_areOne_11 : decode cX7_areOne 11 = .ok (.iload_n 1, 1) := by decide +kernel
theorem dX7_areOne_12 : decode cX7_areOne 12 = .ok (.iadd, 1) := by decide +kernel
theorem dX7_areOne_13 : decode cX7_areOne 13 = .ok (.iaload, 1) := by decide +kernel
theorem dX7_areOne_14 : decode cX7_areOne 14 = .ok (.bipush (-9), 2) := by decide +kernel
theorem dX7_areOne_16 : decode cX7_areOne 16 = .ok (.if_icmp .eq 28, 3) := by decide +kernel
theorem dX7_areOne_19 : decode cX7_areOne 19 = .ok (.aload_n 0, 1) := by decide +kernel
theorem dX7_areOne_20 : decode cX7_areOne 20 = .ok (.getfield 28, 3) := by decide +kernel
theorem dX7_areOne_23 : decode cX7_areOne 23 = .ok (.bipush 8, 2) := by decide +kernel
