theorem dX3_init_0 : decode cX3_init 0 = .ok (.aload_n 0, 1) := by decide +kernel
theorem dX3_init_1 : decode cX3_init 1 = .ok (.invokespecial 3, 3) := by decide +kernel
theorem dX3_init_4 : decode cX3_init 4 = .ok (.aload_n 0, 1) := by decide +kernel
theorem dX3_init_5 : decode cX3_init 5 = .ok (.sipush 300, 3) := by decide +kernel
theorem dX3_init_8 : decode cX3_init 8 = .ok (.newarray .byte, 2) := by decide +kernel
theorem dX3_init_10 : decode cX3_init 10 = .ok (.putfield 9, 3) := by decide +kernel
theorem dX3_init_13 : decode cX3_init 13 = .ok (.aload_n 0, 1) := by decide +kernel
theorem dX3_init_14 : decode cX3_init 14 = .ok (.iconst 0, 1) := by decide +kernel
theorem dX3_init_15 : decode cX3_init 15 = .ok (.putfield 15, 3) := by decide +kernel
theorem dX3_init_18 : decode cX3_init 18 = .ok (.aload_n 0, 1) := by decide +kernel
theorem dX3_init_19 : decode cX3_init 19 = .ok (.iconst 0, 1) := by decide +kernel
theorem dX3_init_20 : decode cX3_init 20 = .ok (.putfield 19, 3) := by decide +kernel
theorem dX3_init_23 : decode cX3_init 23 = .ok (.aload_n 0, 1) := by decide +kernel
theorem dX3_init_24 : decode cX3_init 24 = .ok (.iconst 0, 1) := by decide +kernel
theorem dX3_init_25 : decode cX3_init 25 = .ok (.putfield 22, 3) := by decide +kernel
theorem dX3_init_28 : decode cX3_init 28 = .ok (.aload_n 0, 1) := by decide +kernel
theorem dX3_init_29 : decode cX3_init 29 = .ok (.iconst 0, 1) := by decide +kernel
theorem dX3_init_30 : decode cX3_init 30 = .ok (.putfield 25, 3) := by decide +kernel
theorem dX3_init_33 : decode cX3_init 33 = .ok (.aload_n 0, 1) := by decide +kernel
theorem dX3_init_34 : decode cX3_init 34 = .ok (.iconst 0, 1) := by decide +kernel
theorem dX3_init_35 : decode cX3_init 35 = .ok (.putfield 28, 3) := by decide +kernel
theorem dX3_init_38 : decode cX3_init 38 = .ok (.return_, 1) := by decide +kernel
theorem dX3_add_0 : decode cX3_add 0 = .ok (.iload_n 3, 1) := by decide +kernel
theorem dX3_add_1 : decode cX3_add 1 = .ok (.iconst 1, 1) := by decide +kernel
theorem dX3_add_2 : decode cX3_add 2 = .ok (.isub, 1) := by decide +kernel
theorem dX3_add_3 : decode cX3_add 3 = .ok (.istore 4, 2) := by decide +kernel
theorem dX3_add_5 : decode cX3_add 5 = .ok (.iload 4, 2) := by decide +kernel
theorem dX3_add_7 : decode cX3_add 7 = .ok (.ifCond .lt 47, 3) := by decide +kernel
theorem dX3_add_10 : decode cX3_add 10 = .ok (.aload_n 0, 1) := by decide +kernel
theorem dX3_add_11 : decode cX3_add 11 = .ok (.getfield 15, 3) := by decide +kernel
theorem dX3_add_14 : decode cX3_add 14 = .ok (.sipush 300, 3) := by decide +kernel
theorem dX3_add_17 : decode cX3_add 17 = .ok (.if_icmp .ge 37, 3) := by decide +kernel
theorem dX3_add_20 : decode cX3_add 20 = .ok (.aload_n 0, 1) := by decide +kernel
theorem dX3_add_21 : decode cX3_add 21 = .ok (.getfield 9, 3) := by decide +kernel
theorem dX3_add_24 : decode cX3_add 24 = .ok (.aload_n 0, 1) := by decide +kernel
theorem dX3_add_25 : decode cX3_add 25 = .ok (.getfield 15, 3) := by decide +kernel
theorem dX3_add_28 : decode cX3_add 28 = .ok (.lload_n 1, 1) := by decide +kernel
theorem dX3_add_29 : decode cX3_add 29 = .ok (.bipush 8, 2) := by decide +kernel
theorem dX3_add_31 : decode cX3_add 31 = .ok (.iload 4, 2) := by decide +kernel
theorem dX3_add_33 : decode cX3_add 33 = .ok (.imul, 1) := by decide +kernel
theorem dX3_add_34 : decode cX3_add 34 = .ok (.lshr, 1) := by decide +kernel
theorem dX3_add_35 : decode cX3_add 35 = .ok (.l2i, 1) := by decide +kernel
theorem dX3_add_36 : decode cX3_add 36 = .ok (.i2b, 1) := by decide +kernel
theorem dX3_add_37 : decode cX3_add 37 = .ok (.bastore, 1) := by decide +kernel
theorem dX3_add_38 : decode cX3_add 38 = .ok (.aload_n 0, 1) := by decide +kernel
theorem dX3_add_39 : decode cX3_add 39 = .ok (.dup, 1) := by decide +kernel
theorem dX3_add_40 : decode cX3_add 40 = .ok (.getfield 15, 3) := by decide +kernel
theorem dX3_add_43 : decode cX3_add 43 = .ok (.iconst 1, 1) := by decide +kernel
theorem dX3_add_44 : decode cX3_add 44 = .ok (.iadd, 1) := by decide +kernel
theorem dX3_add_45 : decode cX3_add 45 = .ok (.putfield 15, 3) := by decide +kernel
theorem dX3_add_48 : decode cX3_add 48 = .ok (.iinc 4 (-1), 3) := by decide +kernel
theorem dX3_add_51 : decode cX3_add 51 = .ok (.goto (-46), 3) := by decide +kernel
theorem dX3_add_54 : decode cX3_add 54 = .ok (.return_, 1) := by decide +kernel
theorem dX3_empty_0 : decode cX3_empty 0 = .ok (.aload_n 0, 1) := by decide +kernel
theorem dX3_empty_1 : decode cX3_empty 1 = .ok (.iconst 0, 1) := by decide +kernel
theorem dX3_empty_2 : decode cX3_empty 2 = .ok (.putfield 15, 3) := by decide +kernel
theorem dX3_empty_5 : decode cX3_empty 5 = .ok (.return_, 1) := by decide +kernel
set_option maxRecDepth 20000 in
theorem ggX3_toFirst_X3_toNext : GoodIn wsX3_toFirst wsX3_toNext := goodIn_r _ [6, 1, 7, 8, 9, 10, 11, 12, 13, 5, 14, 15, 16, 17, 18, 19, 20, 21, 22, 23, 24, 25] (by decide +kernel) (by decide +kernel)
set_option maxRecDepth 20000 in
theorem gX3_toFirst_X3_toNext : GoodIn wsX3_toFirst (wsV RX3 31 RX3 yX3_toNext wsX3_toNext) := goodIn_app (goodIn_of _ (by decide +kernel)) ggX3_toFirst_X3_toNext
theorem dX3_toFirst_0 : decode cX3_toFirst 0 = .ok (.aload_n 0, 1) := by decide +kernel
theorem dX3_toFirst_1 : decode cX3_toFirst 1 = .ok (.iconst 0, 1) := by decide +kernel
theorem dX3_toFirst_2 : decode cX3_toFirst 2 = .ok (.putfield 25, 3) := by decide +kernel
theorem dX3_toFirst_5 : decode cX3_toFirst 5 = .ok (.aload_n 0, 1) := by decide +kernel
theorem dX3_toFirst_6 : decode cX3_toFirst 6 = .ok (.invokevirtual 31, 3) := by decide +kernel
theorem dX3_toFirst_9 : decode cX3_toFirst 9 = .ok (.return_, 1) := by decide +kernel
set_option maxRecDepth 20000 in
theorem ggX3_toNext_X3_endOfRun : GoodIn wsX3_toNext wsX3_endOfRun := goodIn_r _ [10, 3, 5, 16, 17, 18, 19, 20, 21] (by decide +kernel) (by decide +kernel)
set_option maxRecDepth 20000 in
theorem gX3_toNext_X3_endOfRun : GoodIn wsX3_toNext (wsV RX3 34 RX3 yX3_endOfRun wsX3_endOfRun) := goodIn_app (goodIn_of _ (by decide +kernel)) ggX3_toNext_X3_endOfRun
set_option maxRecDepth 20000 in
theorem ggX3_toNext_X3_takeNumber : GoodIn wsX3_toNext wsX3_takeNumber := goodIn_r _ [14, 1, 2, 5, 4, 15, 16, 17, 18, 19, 20, 21] (by decide +kernel) (by decide +kernel)
set_option maxRecDepth 20000 in
theorem gX3_toNext_X3_takeNumber : GoodIn wsX3_toNext (wsV RX3 38 RX3 yX3_takeNumber wsX3_takeNumber) := goodIn_app (goodIn_of _ (by decide +kernel)) ggX3_toNext_X3_takeNumber
theorem dX3_toNext_0 : decode cX3_toNext 0 = .ok (.aload_n 0, 1) := by decide +kernel
theorem dX3_toNext_1 : decode cX3_toNext 1 = .ok (.aload_n 0, 1) := by decide +kernel
theorem dX3_toNext_2 : decode cX3_toNext 2 = .ok (.aload_n 0, 1) := by decide +kernel
theorem dX3_toNext_3 : decode cX3_toNext 3 = .ok (.getfield 25, 3) := by decide +kernel
theorem dX3_toNext_6 : decode cX3_toNext 6 = .ok (.bipush 32, 2) := by decide +kernel
theorem dX3_toNext_8 : decode cX3_toNext 8 = .ok (.bipush 32, 2) := by decide +kernel
theorem dX3_toNext_10 : decode cX3_toNext 10 = .ok (.invokevirtual 34, 3) := by decide +kernel
theorem dX3_toNext_13 : decode cX3_toNext 13 = .ok (.putfield 22, 3) := by decide +kernel
theorem dX3_toNext_16 : decode cX3_toNext 16 = .ok (.aload_n 0, 1) := by decide +kernel
theorem dX3_toNext_17 : decode cX3_toNext 17 = .ok (.aload_n 0, 1) := by decide +kernel
theorem dX3_toNext_18 : decode cX3_toNext 18 = .ok (.getfield 22, 3) := by decide +kernel
theorem dX3_toNext_21 : decode cX3_toNext 21 = .ok (.bipush 97, 2) := by decide +kernel
theorem dX3_toNext_23 : decode cX3_toNext 23 = .ok (.bipush 122, 2) := by decide +kernel
theorem dX3_toNext_25 : decode cX3_toNext 25 = .ok (.invokevirtual 34, 3) := by decide +kernel
theorem dX3_toNext_28 : decode cX3_toNext 28 = .ok (.istore_n 1, 1) := by decide +kernel
theorem dX3_toNext_29 : decode cX3_toNext 29 = .ok (.aload_n 0, 1) := by decide +kernel
theorem dX3_toNext_30 : decode cX3_toNext 30 = .ok (.aload_n 0, 1) := by decide +kernel
theorem dX3_toNext_31 : decode cX3_toNext 31 = .ok (.getfield 22, 3) := by decide +kernel
theorem dX3_toNext_34 : decode cX3_toNext 34 = .ok (.bipush 48, 2) := by decide +kernel
theorem dX3_toNext_36 : decode cX3_toNext 36 = .ok (.bipush 57, 2) := by decide +kernel
theorem dX3_toNext_38 : decode cX3_toNext 38 = .ok (.invokevirtual 34, 3) := by decide +kernel
theorem dX3_toNext_41 : decode cX3_toNext 41 = .ok (.istore_n 2, 1) := by decide +kernel
theorem dX3_toNext_42 : decode cX3_toNext 42 = .ok (.aload_n 0, 1) := by decide +kernel
theorem dX3_toNext_43 : decode cX3_toNext 43 = .ok (.getfield 22, 3) := by decide +kernel
theorem dX3_toNext_46 : decode cX3_toNext 46 = .ok (.aload_n 0, 1) := by decide +kernel
theorem dX3_toNext_47 : decode cX3_toNext 47 = .ok (.getfield 15, 3) := by decide +kernel
theorem dX3_toNext_50 : decode cX3_toNext 50 = .ok (.if_icmp .lt 11, 3) := by decide +kernel
theorem dX3_toNext_53 : decode cX3_toNext 53 = .ok (.aload_n 0, 1) := by decide +kernel
theorem dX3_toNext_54 : decode cX3_toNext 54 = .ok (.iconst 0, 1) := by decide +kernel
theorem dX3_toNext_55 : decode cX3_toNext 55 = .ok (.putfield 19, 3) := by decide +kernel
theorem dX3_toNext_58 : decode cX3_toNext 58 = .ok (.goto 81, 3) := by decide +kernel
theorem dX3_toNext_61 : decode cX3_toNext 61 = .ok (.iload_n 1, 1) := by decide +kernel
theorem dX3_toNext_62 : decode cX3_toNext 62 = .ok (.aload_n 0, 1) := by decide +kernel
theorem dX3_toNext_63 : decode cX3_toNext 63 = .ok (.getfield 22, 3) := by decide +kernel
theorem dX3_toNext_66 : decode cX3_toNext 66 = .ok (.if_icmp .le 16, 3) := by decide +kernel
theorem dX3_toNext_69 : decode cX3_toNext 69 = .ok (.aload_n 0, 1) := by decide +kernel
theorem dX3_toNext_70 : decode cX3_toNext 70 = .ok (.iconst 1, 1) := by decide +kernel
theorem dX3_toNext_71 : decode cX3_toNext 71 = .ok (.putfield 19, 3) := by decide +kernel
theorem dX3_toNext_74 : decode cX3_toNext 74 = .ok (.aload_n 0, 1) := by decide +kernel
theorem dX3_toNext_75 : decode cX3_toNext 75 = .ok (.iload_n 1, 1) := by decide +kernel
theorem dX3_toNext_76 : decode cX3_toNext 76 = .ok (.putfield 25, 3) := by decide +kernel
theorem dX3_toNext_79 : decode cX3_toNext 79 = .ok (.goto 60, 3) := by decide +kernel
theorem dX3_toNext_82 : decode cX3_toNext 82 = .ok (.iload_n 2, 1) := by decide +kernel
theorem dX3_toNext_83 : decode cX3_toNext 83 = .ok (.aload_n 0, 1) := by decide +kernel
theorem dX3_toNext_84 : decode cX3_toNext 84 = .ok (.getfield 22, 3) := by decide +kernel
theorem dX3_toNext_87 : decode cX3_toNext 87 = .ok (.if_icmp .le 15, 3) := by decide +kernel
theorem dX3_toNext_90 : decode cX3_toNext 90 = .ok (.aload_n 0, 1) := by decide +kernel
theorem dX3_toNext_91 : decode cX3_toNext 91 = .ok (.iload_n 2, 1) := by decide +kernel
theorem dX3_toNext_92 : decode cX3_toNext 92 = .ok (.putfield 25, 3) := by decide +kernel
theorem dX3_toNext_95 : decode cX3_toNext 95 = .ok (.aload_n 0, 1) := by decide +kernel
theorem dX3_toNext_96 : decode cX3_toNext 96 = .ok (.invokevirtual 38, 3) := by decide +kernel
theorem dX3_toNext_99 : decode cX3_toNext 99 = .ok (.goto 40, 3) := by decide +kernel
theorem dX3_toNext_102 : decode cX3_toNext 102 = .ok (.aload_n 0, 1) := by decide +kernel
theorem dX3_toNext_103 : decode cX3_toNext 103 = .ok (.getfield 9, 3) := by decide +kernel
theorem dX3_toNext_106 : decode cX3_toNext 106 = .ok (.aload_n 0, 1) := by decide +kernel
theorem dX3_toNext_107 : decode cX3_toNext 107 = .ok (.getfield 22, 3) := by decide +kernel
theorem dX3_toNext_110 : decode cX3_toNext 110 = .ok (.baload, 1) := by decide +kernel
theorem dX3_toNext_111 : decode cX3_toNext 111 = .ok (.bipush 59, 2) := by decide +kernel
theorem dX3_toNext_113 : decode cX3_toNext 113 = .ok (.if_icmp .ne 21, 3) := by decide +kernel
theorem dX3_toNext_116 : decode cX3_toNext 116 = .ok (.aload_n 0, 1) := by decide +kernel
theorem dX3_toNext_117 : decode cX3_toNext 117 = .ok (.iconst 3, 1) := by decide +kernel
theorem dX3_toNext_118 : decode cX3_toNext 118 = .ok (.putfield 19, 3) := by decide +kernel
theorem dX3_toNext_121 : decode cX3_toNext 121 = .ok (.aload_n 0, 1) := by decide +kernel
theorem dX3_toNext_122 : decode cX3_toNext 122 = .ok (.aload_n 0, 1) := by decide +kernel
theorem dX3_toNext_123 : decode cX3_toNext 123 = .ok (.getfield 22, 3) := by decide +kernel
theorem dX3_toNext_126 : decode cX3_toNext 126 = .ok (.iconst 1, 1) := by decide +kernel
theorem dX3_toNext_127 : decode cX3_toNext 127 = .ok (.iadd, 1) := by decide +kernel
theorem dX3_toNext_128 : decode cX3_toNext 128 = .ok (.putfield 25, 3) := by decide +kernel
theorem dX3_toNext_131 : decode cX3_toNext 131 = .ok (.goto 8, 3) := by decide +kernel
theorem dX3_toNext_134 : decode cX3_toNext 134 = .ok (.aload_n 0, 1) := by decide +kernel
theorem dX3_toNext_135 : decode cX3_toNext 135 = .ok (.iconst 4, 1) := by decide +kernel
theorem dX3_toNext_136 : decode cX3_toNext 136 = .ok (.putfield 19, 3) := by decide +kernel
theorem dX3_toNext_139 : decode cX3_toNext 139 = .ok (.return_, 1) := by decide +kernel
set_option maxRecDepth 20000 in
theorem ggX3_isWord_J0_length_8abf5 : GoodIn wsX3_isWord wsJ0_length_8abf5 := goodIn_r _ [10, 11, 12, 13, 14, 9, 15, 16, 17] (by decide +kernel) (by decide +kernel)
set_option maxRecDepth 20000 in
theorem gX3_isWord_J0_length_8abf5 : GoodIn wsX3_isWord (wsV RX3 41 RJ0 yJ0_length_8abf5 wsJ0_length_8abf5) := goodIn_app (goodIn_of _ (by decide +kernel)) ggX3_isWord_J0_length_8abf5
set_option maxRecDepth 20000 in
theorem ggX3_isWord_J0_charAt_5068e : GoodIn wsX3_isWord wsJ0_charAt_5068e := goodIn_r _ [21, 11, 22, 23, 24, 9, 25, 16, 17, 26, 27, 28, 29, 30, 31, 32, 33, 34, 35, 36, 37, 38, 39, 40, 41, 42, 43, 44, 45, 46, 47, 48, 49, 50, 51, 52, 53, 54] (by decide +kernel) (by decide +kernel)
set_option maxRecDepth 20000 in
theorem gX3_isWord_J0_charAt_5068e : GoodIn wsX3_isWord (wsV RX3 46 RJ0 yJ0_charAt_5068e wsJ0_charAt_5068e) := goodIn_app (goodIn_of _ (by decide +kernel)) ggX3_isWord_J0_charAt_5068e
theorem dX3_isWord_0 : decode cX3_isWord 0 = .ok (.aload_n 0, 1) := by decide +kernel
theorem dX3_isWord_1 : decode cX3_isWord 1 = .ok (.getfield 19, 3) := by decide +kernel
theorem dX3_isWord_4 : decode cX3_isWord 4 = .ok (.iconst 1, 1) := by decide +kernel
theorem dX3_isWord_5 : decode cX3_isWord 5 = .ok (.if_icmp .ne 19, 3) := by decide +kernel
theorem dX3_isWord_8 : decode cX3_isWord 8 = .ok (.aload_n 0, 1) := by decide +kernel
theorem dX3_isWord_9 : decode cX3_isWord 9 = .ok (.getfield 25, 3) := by decide +kernel
theorem dX3_isWord_12 : decode cX3_isWord 12 = .ok (.aload_n 0, 1) := by decide +kernel
theorem dX3_isWord_13 : decode cX3_isWord 13 = .ok (.getfield 22, 3) := by decide +kernel
theorem dX3_isWord_16 : decode cX3_isWord 16 = .ok (.isub, 1) := by decide +kernel
theorem dX3_isWord_17 : decode cX3_isWord 17 = .ok (.aload_n 1, 1) := by decide +kernel
theorem dX3_isWord_18 : decode cX3_isWord 18 = .ok (.invokevirtual 41, 3) := by decide +kernel
theorem dX3_isWord_21 : decode cX3_isWord 21 = .ok (.if_icmp .eq 5, 3) := by decide +kernel
theorem dX3_isWord_24 : decode cX3_isWord 24 = .ok (.iconst 0, 1) := by decide +kernel
theorem dX3_isWord_25 : decode cX3_isWord 25 = .ok (.ireturn, 1) := by decide +kernel
theorem dX3_isWord_26 : decode cX3_isWord 26 = .ok (.iconst 0, 1) := by decide +kernel
theorem dX3_isWord_27 : decode cX3_isWord 27 = .ok (.istore_n 2, 1) := by decide +kernel
theorem dX3_isWord_28 : decode cX3_isWord 28 = .ok (.iload_n 2, 1) := by decide +kernel
theorem dX3_isWord_29 : decode cX3_isWord 29 = .ok (.aload_n 1, 1) := by decide +kernel
theorem dX3_isWord_30 : decode cX3_isWord 30 = .ok (.invokevirtual 41, 3) := by decide +kernel
theorem dX3_isWord_33 : decode cX3_isWord 33 = .ok (.if_icmp .ge 43, 3) := by decide +kernel
theorem dX3_isWord_36 : decode cX3_isWord 36 = .ok (.aload_n 0, 1) := by decide +kernel
theorem dX3_isWord_37 : decode cX3_isWord 37 = .ok (.getfield 22, 3) := by decide +kernel
theorem dX3_isWord_40 : decode cX3_isWord 40 = .ok (.iload_n 2, 1) := by decide +kernel
theorem dX3_isWord_41 : decode cX3_isWord 41 = .ok (.iadd, 1) := by decide +kernel
theorem dX3_isWord_42 : decode cX3_isWord 42 = .ok (.aload_n 0, 1) := by decide +kernel
theorem dX3_isWord_43 : decode cX3_isWord 43 = .ok (.getfield 15, 3) := by decide +kernel
theorem dX3_isWord_46 : decode cX3_isWord 46 = .ok (.if_icmp .ge 30, 3) := by decide +kernel
theorem dX3_isWord_49 : decode cX3_isWord 49 = .ok (.aload_n 0, 1) := by decide +kernel
theorem dX3_isWord_50 : decode cX3_isWord 50 = .ok (.getfield 9, 3) := by decide +kernel
theorem dX3_isWord_53 : decode cX3_isWord 53 = .ok (.aload_n 0, 1) := by decide +kernel
theorem dX3_isWord_54 : decode cX3_isWord 54 = .ok (.getfield 22, 3) := by decide +kernel
theorem dX3_isWord_57 : decode cX3_isWord 57 = .ok (.iload_n 2, 1) := by decide +kernel
theorem dX3_isWord_58 : decode cX3_isWord 58 = .ok (.iadd, 1) := by decide +kernel
theorem dX3_isWord_59 : decode cX3_isWord 59 = .ok (.baload, 1) := by decide +kernel
theorem dX3_isWord_60 : decode cX3_isWord 60 = .ok (.aload_n 1, 1) := by decide +kernel
theorem dX3_isWord_61 : decode cX3_isWord 61 = .ok (.iload_n 2, 1) := by decide +kernel
theorem dX3_isWord_62 : decode cX3_isWord 62 = .ok (.invokevirtual 46, 3) := by decide +kernel
theorem dX3_isWord_65 : decode cX3_isWord 65 = .ok (.if_icmp .eq 5, 3) := by decide +kernel
theorem dX3_isWord_68 : decode cX3_isWord 68 = .ok (.iconst 0, 1) := by decide +kernel
theorem dX3_isWord_69 : decode cX3_isWord 69 = .ok (.ireturn, 1) := by decide +kernel
theorem dX3_isWord_70 : decode cX3_isWord 70 = .ok (.iinc 2 1, 3) := by decide +kernel
theorem dX3_isWord_73 : decode cX3_isWord 73 = .ok (.goto (-45), 3) := by decide +kernel
theorem dX3_isWord_76 : decode cX3_isWord 76 = .ok (.iconst 1, 1) := by decide +kernel
theorem dX3_isWord_77 : decode cX3_isWord 77 = .ok (.ireturn, 1) := by decide +kernel
theorem dX3_isNumber_0 : decode cX3_isNumber 0 = .ok (.aload_n 0, 1) := by decide +kernel
theorem dX3_isNumber_1 : decode cX3_isNumber 1 = .ok (.getfield 19, 3) := by decide +kernel
theorem dX3_isNumber_4 : decode cX3_isNumber 4 = .ok (.iconst 2, 1) := by decide +kernel
theorem dX3_isNumber_5 : decode cX3_isNumber 5 = .ok (.if_icmp .ne 23, 3) := by decide +kernel
theorem dX3_isNumber_8 : decode cX3_isNumber 8 = .ok (.aload_n 0, 1) := by decide +kernel
theorem dX3_isNumber_9 : decode cX3_isNumber 9 = .ok (.getfield 28, 3) := by decide +kernel
theorem dX3_isNumber_12 : decode cX3_isNumber 12 = .ok (.iload_n 1, 1) := by decide +kernel
theorem dX3_isNumber_13 : decode cX3_isNumber 13 = .ok (.if_icmp .lt 15, 3) := by decide +kernel
theorem dX3_isNumber_16 : decode cX3_isNumber 16 = .ok (.aload_n 0, 1) := by decide +kernel
theorem dX3_isNumber_17 : decode cX3_isNumber 17 = .ok (.getfield 28, 3) := by decide +kernel
theorem dX3_isNumber_20 : decode cX3_isNumber 20 = .ok (.iload_n 2, 1) := by decide +kernel
theorem dX3_isNumber_21 : decode cX3_isNumber 21 = .ok (.if_icmp .gt 7, 3) := by decide +kernel
theorem dX3_isNumber_24 : decode cX3_isNumber 24 = .ok (.iconst 1, 1) := by decide +kernel
theorem dX3_isNumber_25 : decode cX3_isNumber 25 = .ok (.goto 4, 3) := by decide +kernel
theorem dX3_isNumber_28 : decode cX3_isNumber 28 = .ok (.iconst 0, 1) := by decide +kernel
theorem dX3_isNumber_29 : decode cX3_isNumber 29 = .ok (.ireturn, 1) := by decide +kernel
theorem dX3_endOfRun_0 : decode cX3_endOfRun 0 = .ok (.iload_n 1, 1) := by decide +kernel
theorem dX3_endOfRun_1 : decode cX3_endOfRun 1 = .ok (.istore 4, 2) := by decide +kernel
theorem dX3_endOfRun_3 : decode cX3_endOfRun 3 = .ok (.iload 4, 2) := by decide +kernel
theorem dX3_endOfRun_5 : decode cX3_endOfRun 5 = .ok (.ifCond .lt 40, 3) := by decide +kernel
theorem dX3_endOfRun_8 : decode cX3_endOfRun 8 = .ok (.iload 4, 2) := by decide +kernel
theorem dX3_endOfRun_10 : decode cX3_endOfRun 10 = .ok (.aload_n 0, 1) := by decide +kernel
theorem dX3_endOfRun_11 : decode cX3_endOfRun 11 = .ok (.getfield 15, 3) := by decide +kernel
theorem dX3_endOfRun_14 : decode cX3_endOfRun 14 = .ok (.if_icmp .ge 31, 3) := by decide +kernel
theorem dX3_endOfRun_17 : decode cX3_endOfRun 17 = .ok (.aload_n 0, 1) := by decide +kernel
theorem dX3_endOfRun_18 : decode cX3_endOfRun 18 = .ok (.getfield 9, 3) := by decide +kernel
theorem dX3_endOfRun_21 : decode cX3_endOfRun 21 = .ok (.iload 4, 2) := by decide +kernel
theorem dX3_endOfRun_23 : decode cX3_endOfRun 23 = .ok (.baload, 1) := by decide +kernel
theorem dX3_endOfRun_24 : decode cX3_endOfRun 24 = .ok (.iload_n 2, 1) := by decide +kernel
theorem dX3_endOfRun_25 : decode cX3_endOfRun 25 = .ok (.if_icmp .lt 20, 3) := by decide +kernel
theorem dX3_endOfRun_28 : decode cX3_endOfRun 28 = .ok (.aload_n 0, 1) := by decide +kernel
theorem dX3_endOfRun_29 : decode cX3_endOfRun 29 = .ok (.getfield 9, 3) := by decide +kernel
theorem dX3_endOfRun_32 : decode cX3_endOfRun 32 = .ok (.iload 4, 2) := by decide +kernel
theorem dX3_endOfRun_34 : decode cX3_endOfRun 34 = .ok (.baload, 1) := by decide +kernel
theorem dX3_endOfRun_35 : decode cX3_endOfRun 35 = .ok (.iload_n 3, 1) := by decide +kernel
theorem dX3_endOfRun_36 : decode cX3_endOfRun 36 = .ok (.if_icmp .gt 9, 3) := by decide +kernel
theorem dX3_endOfRun_39 : decode cX3_endOfRun 39 = .ok (.iinc 4 1, 3) := by decide +kernel
theorem dX3_endOfRun_42 : decode cX3_endOfRun 42 = .ok (.goto (-39), 3) := by decide +kernel
theorem dX3_endOfRun_45 : decode cX3_endOfRun 45 = .ok (.iload 4, 2) := by decide +kernel
theorem dX3_endOfRun_47 : decode cX3_endOfRun 47 = .ok (.ireturn, 1) := by decide +kernel
theorem dX3_takeNumber_0 : decode cX3_takeNumber 0 = .ok (.aload_n 0, 1) := by decide +kernel
theorem dX3_takeNumber_1 : decode cX3_takeNumber 1 = .ok (.getfield 25, 3) := by decide +kernel
theorem dX3_takeNumber_4 : decode cX3_takeNumber 4 = .ok (.aload_n 0, 1) := by decide +kernel
theorem dX3_takeNumber_5 : decode cX3_takeNumber 5 = .ok (.getfield 22, 3) := by decide +kernel
theorem dX3_takeNumber_8 : decode cX3_takeNumber 8 = .ok (.isub, 1) := by decide +kernel
theorem dX3_takeNumber_9 : decode cX3_takeNumber 9 = .ok (.istore_n 1, 1) := by decide +kernel
theorem dX3_takeNumber_10 : decode cX3_takeNumber 10 = .ok (.iload_n 1, 1) := by decide +kernel
theorem dX3_takeNumber_11 : decode cX3_takeNumber 11 = .ok (.iconst 2, 1) := by decide +kernel
theorem dX3_takeNumber_12 : decode cX3_takeNumber 12 = .ok (.if_icmp .gt 22, 3) := by decide +kernel
theorem dX3_takeNumber_15 : decode cX3_takeNumber 15 = .ok (.iload_n 1, 1) := by decide +kernel
theorem dX3_takeNumber_16 : decode cX3_takeNumber 16 = .ok (.iconst 2, 1) := by decide +kernel
theorem dX3_takeNumber_17 : decode cX3_takeNumber 17 = .ok (.if_icmp .ne 23, 3) := by decide +kernel
theorem dX3_takeNumber_20 : decode cX3_takeNumber 20 = .ok (.aload_n 0, 1) := by decide +kernel
theorem dX3_takeNumber_21 : decode cX3_takeNumber 21 = .ok (.getfield 9, 3) := by decide +kernel
theorem dX3_takeNumber_24 : decode cX3_takeNumber 24 = .ok (.aload_n 0, 1) := by decide +kernel
theorem dX3_takeNumber_25 : decode cX3_takeNumber 25 = .ok (.getfield 22, 3) := by decide +kernel
theorem dX3_takeNumber_28 : decode cX3_takeNumber 28 = .ok (.baload, 1) := by decide +kernel
theorem dX3_takeNumber_29 : decode cX3_takeNumber 29 = .ok (.bipush 48, 2) := by decide +kernel
theorem dX3_takeNumber_31 : decode cX3_takeNumber 31 = .ok (.if_icmp .ne 9, 3) := by decide +kernel
theorem dX3_takeNumber_34 : decode cX3_takeNumber 34 = .ok (.aload_n 0, 1) := by decide +kernel
theorem dX3_takeNumber_35 : decode cX3_takeNumber 35 = .ok (.iconst 4, 1) := by decide +kernel
theorem dX3_takeNumber_36 : decode cX3_takeNumber 36 = .ok (.putfield 19, 3) := by decide +kernel
theorem dX3_takeNumber_39 : decode cX3_takeNumber 39 = .ok (.return_, 1) := by decide +kernel
theorem dX3_takeNumber_40 : decode cX3_takeNumber 40 = .ok (.aload_n 0, 1) := by decide +kernel
theorem dX3_takeNumber_41 : decode cX3_takeNumber 41 = .ok (.iconst 2, 1) := by decide +kernel
theorem dX3_takeNumber_42 : decode cX3_takeNumber 42 = .ok (.putfield 19, 3) := by decide +kernel
theorem dX3_takeNumber_45 : decode cX3_takeNumber 45 = .ok (.aload_n 0, 1) := by decide +kernel
theorem dX3_takeNumber_46 : decode cX3_takeNumber 46 = .ok (.iconst 0, 1) := by decide +kernel
theorem dX3_takeNumber_47 : decode cX3_takeNumber 47 = .ok (.putfield 28, 3) := by decide +kernel
theorem dX3_takeNumber_50 : decode cX3_takeNumber 50 = .ok (.aload_n 0, 1) := by decide +kernel
theorem dX3_takeNumber_51 : decode cX3_takeNumber 51 = .ok (.getfield 22, 3) := by decide +kernel
theorem dX3_takeNumber_54 : decode cX3_takeNumber 54 = .ok (.istore_n 2, 1) := by decide +kernel
theorem dX3_takeNumber_55 : decode cX3_takeNumber 55 = .ok (.iload_n 2, 1) := by decide +kernel
theorem dX3_takeNumber_56 : decode cX3_takeNumber 56 = .ok (.aload_n 0, 1) := by decide +kernel
theorem dX3_takeNumber_57 : decode cX3_takeNumber 57 = .ok (.getfield 25, 3) := by decide +kernel
theorem dX3_takeNumber_60 : decode cX3_takeNumber 60 = .ok (.if_icmp .ge 30, 3) := by decide +kernel
theorem dX3_takeNumber_63 : decode cX3_takeNumber 63 = .ok (.aload_n 0, 1) := by decide +kernel
theorem dX3_takeNumber_64 : decode cX3_takeNumber 64 = .ok (.bipush 10, 2) := by decide +kernel
theorem dX3_takeNumber_66 : decode cX3_takeNumber 66 = .ok (.aload_n 0, 1) := by decide +kernel
theorem dX3_takeNumber_67 : decode cX3_takeNumber 67 = .ok (.getfield 28, 3) := by decide +kernel
theorem dX3_takeNumber_70 : decode cX3_takeNumber 70 = .ok (.imul, 1) := by decide +kernel
theorem dX3_takeNumber_71 : decode cX3_takeNumber 71 = .ok (.aload_n 0, 1) := by decide +kernel
theorem dX3_takeNumber_72 : decode cX3_takeNumber 72 = .ok (.getfield 9, 3) := by decide +kernel
theorem dX3_takeNumber_75 : decode cX3_takeNumber 75 = .ok (.iload_n 2, 1) := by decide +kernel
theorem dX3_takeNumber_76 : decode cX3_takeNumber 76 = .ok (.baload, 1) := by decide +kernel
theorem dX3_takeNumber_77 : decode cX3_takeNumber 77 = .ok (.iadd, 1) := by decide +kernel
theorem dX3_takeNumber_78 : decode cX3_takeNumber 78 = .ok (.bipush 48, 2) := by decide +kernel
theorem dX3_takeNumber_80 : decode cX3_takeNumber 80 = .ok (.isub, 1) := by decide +kernel
theorem dX3_takeNumber_81 : decode cX3_takeNumber 81 = .ok (.putfield 28, 3) := by decide +kernel
theorem dX3_takeNumber_84 : decode cX3_takeNumber 84 = .ok (.iinc 2 1, 3) := by decide +kernel
theorem dX3_takeNumber_87 : decode cX3_takeNumber 87 = .ok (.goto (-32), 3) := by decide +kernel
theorem dX3_takeNumber_90 : decode cX3_takeNumber 90 = .ok (.return_, 1) := by decide +kernel
theorem dX4_init_0 : decode cX4_init 0 = .ok (.aload_n 0, 1) := by decide +kernel
theorem dX4_init_1 : decode cX4_init 1 = .ok (.invokespecial 3, 3) := by decide +kernel
theorem dX4_init_4 : decode cX4_init 4 = .ok (.aload_n 0, 1) := by decide +kernel
theorem dX4_init_5 : decode cX4_init 5 = .ok (.bipush 9, 2) := by decide +kernel
theorem dX4_init_7 : decode cX4_init 7 = .ok (.newarray .int, 2) := by decide +kernel
theorem dX4_init_9 : decode cX4_init 9 = .ok (.putfield 9, 3) := by decide +kernel
theorem dX4_init_12 : decode cX4_init 12 = .ok (.return_, 1) := by decide +kernel
set_option maxRecDepth 20000 in
theorem ggX4_ofCarrying_X4_addCarrier : GoodIn wsX4_ofCarrying wsX4_addCarrier := goodIn_r _ [6, 1, 7, 8, 5, 9, 10] (by decide +kernel) (by decide +kernel)
set_option maxRecDepth 20000 in
theorem gX4_ofCarrying_X4_addCarrier : GoodIn wsX4_ofCarrying (wsV RX4 24 RX4 yX4_addCarrier wsX4_addCarrier) := goodIn_app (goodIn_of _ (by decide +kernel)) ggX4_ofCarrying_X4_addCarrier
theorem dX4_ofCarrying_0 : decode cX4_ofCarrying 0 = .ok (.iload_n 1, 1) := by decide +kernel
theorem dX4_ofCarrying_1 : decode cX4_ofCarrying 1 = .ok (.ifCond .lt 9, 3) := by decide +kernel
theorem dX4_ofCarrying_4 : decode cX4_ofCarrying 4 = .ok (.iload_n 1, 1) := by decide +kernel
theorem dX4_ofCarrying_5 : decode cX4_ofCarrying 5 = .ok (.bipush 8, 2) := by decide +kernel
theorem dX4_ofCarrying_7 : decode cX4_ofCarrying 7 = .ok (.if_icmp .le 5, 3) := by decide +kernel
theorem dX4_ofCarrying_10 : decode cX4_ofCarrying 10 = .ok (.iconst 0, 1) := by decide +kernel
theorem dX4_ofCarrying_11 : decode cX4_ofCarrying 11 = .ok (.ireturn, 1) := by decide +kernel
theorem dX4_ofCarrying_12 : decode cX4_ofCarrying 12 = .ok (.aload_n 0, 1) := by decide +kernel
theorem dX4_ofCarrying_13 : decode cX4_ofCarrying 13 = .ok (.getfield 9, 3) := by decide +kernel
theorem dX4_ofCarrying_16 : decode cX4_ofCarrying 16 = .ok (.iconst 0, 1) := by decide +kernel
theorem dX4_ofCarrying_17 : decode cX4_ofCarrying 17 = .ok (.iconst 1, 1) := by decide +kernel
theorem dX4_ofCarrying_18 : decode cX4_ofCarrying 18 = .ok (.iastore, 1) := by decide +kernel
theorem dX4_ofCarrying_19 : decode cX4_ofCarrying 19 = .ok (.iconst 1, 1) := by decide +kernel
theorem dX4_ofCarrying_20 : decode cX4_ofCarrying 20 = .ok (.istore_n 3, 1) := by decide +kernel
theorem dX4_ofCarrying_21 : decode cX4_ofCarrying 21 = .ok (.iload_n 3, 1) := by decide +kernel
theorem dX4_ofCarrying_22 : decode cX4_ofCarrying 22 = .ok (.iload_n 1, 1) := by decide +kernel
theorem dX4_ofCarrying_23 : decode cX4_ofCarrying 23 = .ok (.if_icmp .gt 16, 3) := by decide +kernel
theorem dX4_ofCarrying_26 : decode cX4_ofCarrying 26 = .ok (.aload_n 0, 1) := by decide +kernel
theorem dX4_ofCarrying_27 : decode cX4_ofCarrying 27 = .ok (.getfield 9, 3) := by decide +kernel
theorem dX4_ofCarrying_30 : decode cX4_ofCarrying 30 = .ok (.iload_n 3, 1) := by decide +kernel
theorem dX4_ofCarrying_31 : decode cX4_ofCarrying 31 = .ok (.iconst 0, 1) := by decide +kernel
theorem dX4_ofCarrying_32 : decode cX4_ofCarrying 32 = .ok (.iastore, 1) := by decide +kernel
theorem dX4_ofCarrying_33 : decode cX4_ofCarrying 33 = .ok (.iinc 3 1, 3) := by decide +kernel
theorem dX4_ofCarrying_36 : decode cX4_ofCarrying 36 = .ok (.goto (-15), 3) := by decide +kernel
theorem dX4_ofCarrying_39 : decode cX4_ofCarrying 39 = .ok (.iconst 0, 1) := by decide +kernel
theorem dX4_ofCarrying_40 : decode cX4_ofCarrying 40 = .ok (.istore_n 3, 1) := by decide +kernel
theorem dX4_ofCarrying_41 : decode cX4_ofCarrying 41 = .ok (.iload_n 3, 1) := by decide +kernel
theorem dX4_ofCarrying_42 : decode cX4_ofCarrying 42 = .ok (.aload_n 2, 1) := by decide +kernel
theorem dX4_ofCarrying_43 : decode cX4_ofCarrying 43 = .ok (.getfield 15, 3) := by decide +kernel
theorem dX4_ofCarrying_46 : decode cX4_ofCarrying 46 = .ok (.if_icmp .ge 20, 3) := by decide +kernel
theorem dX4_ofCarrying_49 : decode cX4_ofCarrying 49 = .ok (.aload_n 0, 1) := by decide +kernel
theorem dX4_ofCarrying_50 : decode cX4_ofCarrying 50 = .ok (.aload_n 2, 1) := by decide +kernel
theorem dX4_ofCarrying_51 : decode cX4_ofCarrying 51 = .ok (.getfield 21, 3) := by decide +kernel
theorem dX4_ofCarrying_54 : decode cX4_ofCarrying 54 = .ok (.iload_n 3, 1) := by decide +kernel
theorem dX4_ofCarrying_55 : decode cX4_ofCarrying 55 = .ok (.iaload, 1) := by decide +kernel
theorem dX4_ofCarrying_56 : decode cX4_ofCarrying 56 = .ok (.iload_n 1, 1) := by decide +kernel
theorem dX4_ofCarrying_57 : decode cX4_ofCarrying 57 = .ok (.invokevirtual 24, 3) := by decide +kernel
theorem dX4_ofCarrying_60 : decode cX4_ofCarrying 60 = .ok (.iinc 3 1, 3) := by decide +kernel
theorem dX4_ofCarrying_63 : decode cX4_ofCarrying 63 = .ok (.goto (-22), 3) := by decide +kernel
theorem dX4_ofCarrying_66 : decode cX4_ofCarrying 66 = .ok (.aload_n 0, 1) := by decide +kernel
theorem dX4_ofCarrying_67 : decode cX4_ofCarrying 67 = .ok (.getfield 9, 3) := by decide +kernel
theorem dX4_ofCarrying_70 : decode cX4_ofCarrying 70 = .ok (.iload_n 1, 1) := by decide +kernel
theorem dX4_ofCarrying_71 : decode cX4_ofCarrying 71 = .ok (.iaload, 1) := by decide +kernel
theorem dX4_ofCarrying_72 : decode cX4_ofCarrying 72 = .ok (.ireturn, 1) := by decide +kernel
set_option maxRecDepth 20000 in
theorem ggX4_addCarrier_X4_choices : GoodIn wsX4_addCarrier wsX4_choices := goodIn_r _ [5] (by decide +kernel) (by decide +kernel)
set_option maxRecDepth 20000 in
theorem gX4_addCarrier_X4_choices : GoodIn wsX4_addCarrier (va_wsS RX4 28 yX4_choices wsX4_choices) := goodIn_app (goodIn_of _ (by decide +kernel)) ggX4_addCarrier_X4_choices
theorem dX4_addCarrier_0 : decode cX4_addCarrier 0 = .ok (.iload_n 2, 1) := by decide +kernel
theorem dX4_addCarrier_1 : decode cX4_addCarrier 1 = .ok (.istore_n 3, 1) := by decide +kernel
theorem dX4_addCarrier_2 : decode cX4_addCarrier 2 = .ok (.iload_n 3, 1) := by decide +kernel
theorem dX4_addCarrier_3 : decode cX4_addCarrier 3 = .ok (.iconst 1, 1) := by decide +kernel
theorem dX4_addCarrier_4 : decode cX4_addCarrier 4 = .ok (.if_icmp .lt 62, 3) := by decide +kernel
theorem dX4_addCarrier_7 : decode cX4_addCarrier 7 = .ok (.iconst 0, 1) := by decide +kernel
theorem dX4_addCarrier_8 : decode cX4_addCarrier 8 = .ok (.istore 4, 2) := by decide +kernel
theorem dX4_addCarrier_10 : decode cX4_addCarrier 10 = .ok (.iconst 0, 1) := by decide +kernel
theorem dX4_addCarrier_11 : decode cX4_addCarrier 11 = .ok (.istore 5, 2) := by decide +kernel
theorem dX4_addCarrier_13 : decode cX4_addCarrier 13 = .ok (.iload 5, 2) := by decide +kernel
theorem dX4_addCarrier_15 : decode cX4_addCarrier 15 = .ok (.iload_n 3, 1) := by decide +kernel
theorem dX4_addCarrier_16 : decode cX4_addCarrier 16 = .ok (.if_icmp .gt 36, 3) := by decide +kernel
theorem dX4_addCarrier_19 : decode cX4_addCarrier 19 = .ok (.iload 5, 2) := by decide +kernel
theorem dX4_addCarrier_21 : decode cX4_addCarrier 21 = .ok (.iload_n 1, 1) := by decide +kernel
theorem dX4_addCarrier_22 : decode cX4_addCarrier 22 = .ok (.if_icmp .gt 30, 3) := by decide +kernel
theorem dX4_addCarrier_25 : decode cX4_addCarrier 25 = .ok (.iload 4, 2) := by decide +kernel
theorem dX4_addCarrier_27 : decode cX4_addCarrier 27 = .ok (.iload_n 3, 1) := by decide +kernel
theorem dX4_addCarrier_28 : decode cX4_addCarrier 28 = .ok (.iload 5, 2) := by decide +kernel
theorem dX4_addCarrier_30 : decode cX4_addCarrier 30 = .ok (.invokestatic 28, 3) := by decide +kernel
theorem dX4_addCarrier_33 : decode cX4_addCarrier 33 = .ok (.aload_n 0, 1) := by decide +kernel
theorem dX4_addCarrier_34 : decode cX4_addCarrier 34 = .ok (.getfield 9, 3) := by decide +kernel
theorem dX4_addCarrier_37 : decode cX4_addCarrier 37 = .ok (.iload_n 3, 1) := by decide +kernel
theorem dX4_addCarrier_38 : decode cX4_addCarrier 38 = .ok (.iload 5, 2) := by decide +kernel
theorem dX4_addCarrier_40 : decode cX4_addCarrier 40 = .ok (.isub, 1) := by decide +kernel
theorem dX4_addCarrier_41 : decode cX4_addCarrier 41 = .ok (.iaload, 1) := by decide +kernel
theorem dX4_addCarrier_42 : decode cX4_addCarrier 42 = .ok (.imul, 1) := by decide +kernel
theorem dX4_addCarrier_43 : decode cX4_addCarrier 43 = .ok (.iadd, 1) := by decide +kernel
theorem dX4_addCarrier_44 : decode cX4_addCarrier 44 = .ok (.istore 4, 2) := by decide +kernel
theorem dX4_addCarrier_46 : decode cX4_addCarrier 46 = .ok (.iinc 5 1, 3) := by decide +kernel
theorem dX4_addCarrier_49 : decode cX4_addCarrier 49 = .ok (.goto (-36), 3) := by decide +kernel
theorem dX4_addCarrier_52 : decode cX4_addCarrier 52 = .ok (.aload_n 0, 1) := by decide +kernel
theorem dX4_addCarrier_53 : decode cX4_addCarrier 53 = .ok (.getfield 9, 3) := by decide +kernel
theorem dX4_addCarrier_56 : decode cX4_addCarrier 56 = .ok (.iload_n 3, 1) := by decide +kernel
theorem dX4_addCarrier_57 : decode cX4_addCarrier 57 = .ok (.iload 4, 2) := by decide +kernel
theorem dX4_addCarrier_59 : decode cX4_addCarrier 59 = .ok (.iastore, 1) := by decide +kernel
theorem dX4_addCarrier_60 : decode cX4_addCarrier 60 = .ok (.iinc 3 (-1), 3) := by decide +kernel
theorem dX4_addCarrier_63 : decode cX4_addCarrier 63 = .ok (.goto (-61), 3) := by decide +kernel
theorem dX4_addCarrier_66 : decode cX4_addCarrier 66 = .ok (.return_, 1) := by decide +kernel
theorem dX4_choices_0 : decode cX4_choices 0 = .ok (.iconst 1, 1) := by decide +kernel
theorem dX4_choices_1 : decode cX4_choices 1 = .ok (.istore_n 2, 1) := by decide +kernel
theorem dX4_choices_2 : decode cX4_choices 2 = .ok (.iconst 1, 1) := by decide +kernel
theorem dX4_choices_3 : decode cX4_choices 3 = .ok (.istore_n 3, 1) := by decide +kernel
theorem dX4_choices_4 : decode cX4_choices 4 = .ok (.iload_n 3, 1) := by decide +kernel
theorem dX4_choices_5 : decode cX4_choices 5 = .ok (.iload_n 1, 1) := by decide +kernel
theorem dX4_choices_6 : decode cX4_choices 6 = .ok (.if_icmp .gt 19, 3) := by decide +kernel
theorem dX4_choices_9 : decode cX4_choices 9 = .ok (.iload_n 2, 1) := by decide +kernel
theorem dX4_choices_10 : decode cX4_choices 10 = .ok (.iload_n 0, 1) := by decide +kernel
theorem dX4_choices_11 : decode cX4_choices 11 = .ok (.iload_n 1, 1) := by decide +kernel
theorem dX4_choices_12 : decode cX4_choices 12 = .ok (.isub, 1) := by decide +kernel
theorem dX4_choices_13 : decode cX4_choices 13 = .ok (.iload_n 3, 1) := by decide +kernel
theorem dX4_choices_14 : decode cX4_choices 14 = .ok (.iadd, 1) := by decide +kernel
theorem dX4_choices_15 : decode cX4_choices 15 = .ok (.imul, 1) := by decide +kernel
theorem dX4_choices_16 : decode cX4_choices 16 = .ok (.iload_n 3, 1) := by decide +kernel
theorem dX4_choices_17 : decode cX4_choices 17 = .ok (.idiv, 1) := by decide +kernel
theorem dX4_choices_18 : decode cX4_choices 18 = .ok (.istore_n 2, 1) := by decide +kernel
theorem dX4_choices_19 : decode cX4_choices 19 = .ok (.iinc 3 1, 3) := by decide +kernel
theorem dX4_choices_22 : decode cX4_choices 22 = .ok (.goto (-18), 3) := by decide +kernel
theorem dX4_choices_25 : decode cX4_choices 25 = .ok (.iload_n 2, 1) := by decide +kernel
theorem dX4_choices_26 : decode cX4_choices 26 = .ok (.ireturn, 1) := by decide +kernel
theorem dX5_init_0 : decode cX5_init 0 = .ok (.aload_n 0, 1) := by decide +kernel
theorem dX5_init_1 : decode cX5_init 1 = .ok (.invokespecial 3, 3) := by decide +kernel
theorem dX5_init_4 : decode cX5_init 4 = .ok (.aload_n 0, 1) := by decide +kernel
theorem dX5_init_5 : decode cX5_init 5 = .ok (.iconst 5, 1) := by decide +kernel
theorem dX5_init_6 : decode cX5_init 6 = .ok (.newarray .int, 2) := by decide +kernel
theorem dX5_init_8 : decode cX5_init 8 = .ok (.putfield 9, 3) := by decide +kernel
theorem dX5_init_11 : decode cX5_init 11 = .ok (.aload_n 0, 1) := by decide +kernel
theorem dX5_init_12 : decode cX5_init 12 = .ok (.aload_n 1, 1) := by decide +kernel
theorem dX5_init_13 : decode cX5_init 13 = .ok (.putfield 15, 3) := by decide +kernel
theorem dX5_init_16 : decode cX5_init 16 = .ok (.aload_n 0, 1) := by decide +kernel
theorem dX5_init_17 : decode cX5_init 17 = .ok (.aload_n 2, 1) := by decide +kernel
theorem dX5_init_18 : decode cX5_init 18 = .ok (.putfield 19, 3) := by decide +kernel
theorem dX5_init_21 : decode cX5_init 21 = .ok (.return_, 1) := by decide +kernel
set_option maxRecDepth 20000 in
theorem ggX5_dueJobs_X5_leadsDueJob : GoodIn wsX5_dueJobs wsX5_leadsDueJob := goodIn_r _ [6, 7, 8, 9, 10, 11, 12, 13, 14, 15, 16, 17, 18, 19, 20, 5, 21, 1, 22, 23, 24, 25, 26, 27, 36, 37, 38, 39, 40, 28, 29, 30, 31, 32, 33, 34, 35] (by decide +kernel) (by decide +kernel)
set_option maxRecDepth 20000 in
theorem gX5_dueJobs_X5_leadsDueJob : GoodIn wsX5_dueJobs (wsV RX5 29 RX5 yX5_leadsDueJob wsX5_leadsDueJob) := goodIn_app (goodIn_of _ (by decide +kernel)) ggX5_dueJobs_X5_leadsDueJob
theorem dX5_dueJobs_0 : decode cX5_dueJobs 0 = .ok (.iconst 0, 1) := by decide +kernel
theorem dX5_dueJobs_1 : decode cX5_dueJobs 1 = .ok (.istore_n 1, 1) := by decide +kernel
theorem dX5_dueJobs_2 : decode cX5_dueJobs 2 = .ok (.iconst 0, 1) := by decide +kernel
theorem dX5_dueJobs_3 : decode cX5_dueJobs 3 = .ok (.istore_n 2, 1) := by decide +kernel
theorem dX5_dueJobs_4 : decode cX5_dueJobs 4 = .ok (.iload_n 2, 1) := by decide +kernel
theorem dX5_dueJobs_5 : decode cX5_dueJobs 5 = .ok (.aload_n 0, 1) := by decide +kernel
theorem dX5_dueJobs_6 : decode cX5_dueJobs 6 = .ok (.getfield 15, 3) := by decide +kernel
theorem dX5_dueJobs_9 : decode cX5_dueJobs 9 = .ok (.getfield 23, 3) := by decide +kernel
theorem dX5_dueJobs_12 : decode cX5_dueJobs 12 = .ok (.if_icmp .ge 20, 3) := by decide +kernel
theorem dX5_dueJobs_15 : decode cX5_dueJobs 15 = .ok (.aload_n 0, 1) := by decide +kernel
theorem dX5_dueJobs_16 : decode cX5_dueJobs 16 = .ok (.iload_n 2, 1) := by decide +kernel
theorem dX5_dueJobs_17 : decode cX5_dueJobs 17 = .ok (.invokevirtual 29, 3) := by decide +kernel
theorem dX5_dueJobs_20 : decode cX5_dueJobs 20 = .ok (.ifCond .eq 6, 3) := by decide +kernel
theorem dX5_dueJobs_23 : decode cX5_dueJobs 23 = .ok (.iinc 1 1, 3) := by decide +kernel
theorem dX5_dueJobs_26 : decode cX5_dueJobs 26 = .ok (.iinc 2 1, 3) := by decide +kernel
theorem dX5_dueJobs_29 : decode cX5_dueJobs 29 = .ok (.goto (-25), 3) := by decide +kernel
theorem dX5_dueJobs_32 : decode cX5_dueJobs 32 = .ok (.iload_n 1, 1) := by decide +kernel
theorem dX5_dueJobs_33 : decode cX5_dueJobs 33 = .ok (.ireturn, 1) := by decide +kernel
set_option maxRecDepth 20000 in
theorem ggX5_isBarred_X5_barredThings : GoodIn wsX5_isBarred wsX5_barredThings := goodIn_r _ [5, 6, 7, 8, 9, 10, 11, 12, 13, 14, 15, 16, 4, 17, 18, 19, 20, 21, 22, 23, 24, 25, 26, 27, 28, 29, 30, 31, 32, 33, 34, 35, 36] (by decide +kernel) (by decide +kernel)
set_option maxRecDepth 20000 in
theorem gX5_isBarred_X5_barredThings : GoodIn wsX5_isBarred (wsV RX5 33 RX5 yX5_barredThings wsX5_barredThings) := goodIn_app (goodIn_of _ (by decide +kernel)) ggX5_isBarred_X5_barredThings
theorem dX5_isBarred_0 : decode cX5_isBarred 0 = .ok (.aload_n 0, 1) := by decide +kernel
theorem dX5_isBarred_1 : decode cX5_isBarred 1 = .ok (.invokevirtual 33, 3) := by decide +kernel
theorem dX5_isBarred_4 : decode cX5_isBarred 4 = .ok (.ifCond .eq 7, 3) := by decide +kernel
theorem dX5_isBarred_7 : decode cX5_isBarred 7 = .ok (.iconst 1, 1) := by decide +kernel
theorem dX5_isBarred_8 : decode cX5_isBarred 8 = .ok (.goto 4, 3) := by decide +kernel
theorem dX5_isBarred_11 : decode cX5_isBarred 11 = .ok (.iconst 0, 1) := by decide +kernel
theorem dX5_isBarred_12 : decode cX5_isBarred 12 = .ok (.ireturn, 1) := by decide +kernel
set_option maxRecDepth 20000 in
theorem ggX5_barredThings_X1_jobOf : GoodIn wsX5_barredThings wsX1_jobOf := goodIn_r _ [7, 8, 28, 29, 30, 31, 32] (by decide +kernel) (by decide +kernel)
set_option maxRecDepth 20000 in
theorem gX5_barredThings_X1_jobOf : GoodIn wsX5_barredThings (wsV RX5 37 RX1 yX1_jobOf wsX1_jobOf) := goodIn_app (goodIn_of _ (by decide +kernel)) ggX5_barredThings_X1_jobOf
set_option maxRecDepth 20000 in
theorem ggX5_barredThings_X5_isWantedInUnlikeRooms : GoodIn wsX5_barredThings wsX5_isWantedInUnlikeRooms := goodIn_r _ [13, 1, 14, 15, 16, 17, 18, 19, 20, 21, 22, 23, 24, 25, 26, 27] (by decide +kernel) (by decide +kernel)
set_option maxRecDepth 20000 in
theorem gX5_barredThings_X5_isWantedInUnlikeRooms : GoodIn wsX5_barredThings (wsV RX5 43 RX5 yX5_isWantedInUnlikeRooms wsX5_isWantedInUnlikeRooms) := goodIn_app (goodIn_of _ (by decide +kernel)) ggX5_barredThings_X5_isWantedInUnlikeRooms
theorem dX5_barredThings_0 : decode cX5_barredThings 0 = .ok (.iconst 0, 1) := by decide +kernel
theorem dX5_barredThings_1 : decode cX5_barredThings 1 = .ok (.istore_n 1, 1) := by decide +kernel
theorem dX5_barredThings_2 : decode cX5_barredThings 2 = .ok (.iconst 0, 1) := by decide +kernel
theorem dX5_barredThings_3 : decode cX5_barredThings 3 = .ok (.istore_n 2, 1) := by decide +kernel
theorem dX5_barredThings_4 : decode cX5_barredThings 4 = .ok (.iload_n 2, 1) := by decide +kernel
theorem dX5_barredThings_5 : decode cX5_barredThings 5 = .ok (.aload_n 0, 1) := by decide +kernel
theorem dX5_barredThings_6 : decode cX5_barredThings 6 = .ok (.getfield 15, 3) := by decide +kernel
theorem dX5_barredThings_9 : decode cX5_barredThings 9 = .ok (.getfield 23, 3) := by decide +kernel
theorem dX5_barredThings_12 : decode cX5_barredThings 12 = .ok (.if_icmp .ge 30, 3) := by decide +kernel
theorem dX5_barredThings_15 : decode cX5_barredThings 15 = .ok (.aload_n 0, 1) := by decide +kernel
theorem dX5_barredThings_16 : decode cX5_barredThings 16 = .ok (.getfield 19, 3) := by decide +kernel
theorem dX5_barredThings_19 : decode cX5_barredThings 19 = .ok (.iload_n 2, 1) := by decide +kernel
theorem dX5_barredThings_20 : decode cX5_barredThings 20 = .ok (.invokevirtual 37, 3) := by decide +kernel
theorem dX5_barredThings_23 : decode cX5_barredThings 23 = .ok (.istore_n 3, 1) := by decide +kernel
theorem dX5_barredThings_24 : decode cX5_barredThings 24 = .ok (.aload_n 0, 1) := by decide +kernel
theorem dX5_barredThings_25 : decode cX5_barredThings 25 = .ok (.iload_n 3, 1) := by decide +kernel
theorem dX5_barredThings_26 : decode cX5_barredThings 26 = .ok (.invokevirtual 43, 3) := by decide +kernel
theorem dX5_barredThings_29 : decode cX5_barredThings 29 = .ok (.ifCond .eq 7, 3) := by decide +kernel
theorem dX5_barredThings_32 : decode cX5_barredThings 32 = .ok (.iload_n 1, 1) := by decide +kernel
theorem dX5_barredThings_33 : decode cX5_barredThings 33 = .ok (.iload_n 3, 1) := by decide +kernel
theorem dX5_barredThings_34 : decode cX5_barredThings 34 = .ok (.ior, 1) := by decide +kernel
theorem dX5_barredThings_35 : decode cX5_barredThings 35 = .ok (.istore_n 1, 1) := by decide +kernel
theorem dX5_barredThings_36 : decode cX5_barredThings 36 = .ok (.iinc 2 1, 3) := by decide +kernel
theorem dX5_barredThings_39 : decode cX5_barredThings 39 = .ok (.goto (-35), 3) := by decide +kernel
theorem dX5_barredThings_42 : decode cX5_barredThings 42 = .ok (.iload_n 1, 1) := by decide +kernel
theorem dX5_barredThings_43 : decode cX5_barredThings 43 = .ok (.ireturn, 1) := by decide +kernel
set_option maxRecDepth 20000 in
theorem ggX5_isWantedInUnlikeRooms_X6_has : GoodIn wsX5_isWantedInUnlikeRooms wsX6_has := goodIn_r _ [4] (by decide +kernel) (by decide +kernel)
set_option maxRecDepth 20000 in
theorem gX5_isWantedInUnlikeRooms_X6_has_n46 : GoodIn wsX5_isWantedInUnlikeRooms (wsX6_has) := ggX5_isWantedInUnlikeRooms_X6_has
theorem dX5_isWantedInUnlikeRooms_0 : decode cX5_isWantedInUnlikeRooms 0 = .ok (.bipush (-9), 2) := by decide +kernel
theorem dX5_isWantedInUnlikeRooms_2 : decode cX5_isWantedInUnlikeRooms 2 = .ok (.istore_n 2, 1) := by decide +kernel
theorem dX5_isWantedInUnlikeRooms_3 : decode cX5_isWantedInUnlikeRooms 3 = .ok (.iconst 0, 1) := by decide +kernel
theorem dX5_isWantedInUnlikeRooms_4 : decode cX5_isWantedInUnlikeRooms 4 = .ok (.istore_n 3, 1) := by decide +kernel
theorem dX5_isWantedInUnlikeRooms_5 : decode cX5_isWantedInUnlikeRooms 5 = .ok (.iload_n 3, 1) := by decide +kernel
theorem dX5_isWantedInUnlikeRooms_6 : decode cX5_isWantedInUnlikeRooms 6 = .ok (.aload_n 0, 1) := by decide +kernel
theorem dX5_isWantedInUnlikeRooms_7 : decode cX5_isWantedInUnlikeRooms 7 = .ok (.getfield 15, 3) := by decide +kernel
theorem dX5_isWantedInUnlikeRooms_10 : decode cX5_isWantedInUnlikeRooms 10 = .ok (.getfield 23, 3) := by decide +kernel
theorem dX5_isWantedInUnlikeRooms_13 : decode cX5_isWantedInUnlikeRooms 13 = .ok (.if_icmp .ge 62, 3) := by decide +kernel
theorem dX5_isWantedInUnlikeRooms_16 : decode cX5_isWantedInUnlikeRooms 16 = .ok (.iload_n 1, 1) := by decide +kernel
theorem dX5_isWantedInUnlikeRooms_17 : decode cX5_isWantedInUnlikeRooms 17 = .ok (.iload_n 3, 1) := by decide +kernel
theorem dX5_isWantedInUnlikeRooms_18 : decode cX5_isWantedInUnlikeRooms 18 = .ok (.invokestatic 46, 3) := by decide +kernel
theorem dX5_isWantedInUnlikeRooms_21 : decode cX5_isWantedInUnlikeRooms 21 = .ok (.ifCond .eq 48, 3) := by decide +kernel
theorem dX5_isWantedInUnlikeRooms_24 : decode cX5_isWantedInUnlikeRooms 24 = .ok (.aload_n 0, 1) := by decide +kernel
theorem dX5_isWantedInUnlikeRooms_25 : decode cX5_isWantedInUnlikeRooms 25 = .ok (.getfield 15, 3) := by decide +kernel
theorem dX5_isWantedInUnlikeRooms_28 : decode cX5_isWantedInUnlikeRooms 28 = .ok (.getfield 50, 3) := by decide +kernel
theorem dX5_isWantedInUnlikeRooms_31 : decode cX5_isWantedInUnlikeRooms 31 = .ok (.iload_n 3, 1) := by decide +kernel
theorem dX5_isWantedInUnlikeRooms_32 : decode cX5_isWantedInUnlikeRooms 32 = .ok (.iaload, 1) := by decide +kernel
theorem dX5_isWantedInUnlikeRooms_33 : decode cX5_isWantedInUnlikeRooms 33 = .ok (.bipush (-9), 2) := by decide +kernel
theorem dX5_isWantedInUnlikeRooms_35 : decode cX5_isWantedInUnlikeRooms 35 = .ok (.if_icmp .eq 34, 3) := by decide +kernel
theorem dX5_isWantedInUnlikeRooms_38 : decode cX5_isWantedInUnlikeRooms 38 = .ok (.iload_n 2, 1) := by decide +kernel
theorem dX5_isWantedInUnlikeRooms_39 : decode cX5_isWantedInUnlikeRooms 39 = .ok (.bipush (-9), 2) := by decide +kernel
theorem dX5_isWantedInUnlikeRooms_41 : decode cX5_isWantedInUnlikeRooms 41 = .ok (.if_icmp .eq 18, 3) := by decide +kernel
theorem dX5_isWantedInUnlikeRooms_44 : decode cX5_isWantedInUnlikeRooms 44 = .ok (.aload_n 0, 1) := by decide +kernel
theorem dX5_isWantedInUnlikeRooms_45 : decode cX5_isWantedInUnlikeRooms 45 = .ok (.getfield 15, 3) := by decide +kernel
theorem dX5_isWantedInUnlikeRooms_48 : decode cX5_isWantedInUnlikeRooms 48 = .ok (.getfield 50, 3) := by decide +kernel
theorem dX5_isWantedInUnlikeRooms_51 : decode cX5_isWantedInUnlikeRooms 51 = .ok (.iload_n 3, 1) := by decide +kernel
theorem dX5_isWantedInUnlikeRooms_52 : decode cX5_isWantedInUnlikeRooms 52 = .ok (.iaload, 1) := by decide +kernel
theorem dX5_isWantedInUnlikeRooms_53 : decode cX5_isWantedInUnlikeRooms 53 = .ok (.iload_n 2, 1) := by decide +kernel
theorem dX5_isWantedInUnlikeRooms_54 : decode cX5_isWantedInUnlikeRooms 54 = .ok (.if_icmp .eq 5, 3) := by decide +kernel
theorem dX5_isWantedInUnlikeRooms_57 : decode cX5_isWantedInUnlikeRooms 57 = .ok (.iconst 1, 1) := by decide +kernel
theorem dX5_isWantedInUnlikeRooms_58 : decode cX5_isWantedInUnlikeRooms 58 = .ok (.ireturn, 1) := by decide +kernel
theorem dX5_isWantedInUnlikeRooms_59 : decode cX5_isWantedInUnlikeRooms 59 = .ok (.aload_n 0, 1) := by decide +kernel
theorem dX5_isWantedInUnlikeRooms_60 : decode cX5_isWantedInUnlikeRooms 60 = .ok (.getfield 15, 3) := by decide +kernel
theorem dX5_isWantedInUnlikeRooms_63 : decode cX5_isWantedInUnlikeRooms 63 = .ok (.getfield 50, 3) := by decide +kernel
theorem dX5_isWantedInUnlikeRooms_66 : decode cX5_isWantedInUnlikeRooms 66 = .ok (.iload_n 3, 1) := by decide +kernel
theorem dX5_isWantedInUnlikeRooms_67 : decode cX5_isWantedInUnlikeRooms 67 = .ok (.iaload, 1) := by decide +kernel
theorem dX5_isWantedInUnlikeRooms_68 : decode cX5_isWantedInUnlikeRooms 68 = .ok (.istore_n 2, 1) := by decide +kernel
theorem dX5_isWantedInUnlikeRooms_69 : decode cX5_isWantedInUnlikeRooms 69 = .ok (.iinc 3 1, 3) := by decide +kernel
theorem dX5_isWantedInUnlikeRooms_72 : decode cX5_isWantedInUnlikeRooms 72 = .ok (.goto (-67), 3) := by decide +kernel
theorem dX5_isWantedInUnlikeRooms_75 : decode cX5_isWantedInUnlikeRooms 75 = .ok (.iconst 0, 1) := by decide +kernel
theorem dX5_isWantedInUnlikeRooms_76 : decode cX5_isWantedInUnlikeRooms 76 = .ok (.ireturn, 1) := by decide +kernel
set_option maxRecDepth 20000 in
theorem ggX5_leadsDueJob_X1_leadsJob : GoodIn wsX5_leadsDueJob wsX1_leadsJob := goodIn_r _ [6, 7, 24, 25, 26, 27, 28] (by decide +kernel) (by decide +kernel)
set_option maxRecDepth 20000 in
theorem gX5_leadsDueJob_X1_leadsJob : GoodIn wsX5_leadsDueJob (wsV RX5 53 RX1 yX1_leadsJob wsX1_leadsJob) := goodIn_app (goodIn_of _ (by decide +kernel)) ggX5_leadsDueJob_X1_leadsJob
set_option maxRecDepth 20000 in
theorem ggX5_leadsDueJob_X1_jobOf : GoodIn wsX5_leadsDueJob wsX1_jobOf := goodIn_r _ [11, 7, 24, 25, 26, 27, 28] (by decide +kernel) (by decide +kernel)
set_option maxRecDepth 20000 in
theorem gX5_leadsDueJob_X1_jobOf : GoodIn wsX5_leadsDueJob (wsV RX5 37 RX1 yX1_jobOf wsX1_jobOf) := goodIn_app (goodIn_of _ (by decide +kernel)) ggX5_leadsDueJob_X1_jobOf
set_option maxRecDepth 20000 in
theorem ggX5_leadsDueJob_X5_isDue : GoodIn wsX5_leadsDueJob wsX5_isDue := goodIn_r _ [16, 17, 1, 18, 19, 20, 21, 22, 23, 29, 30, 31, 32, 33, 34, 35, 36, 24, 25, 26, 27, 28] (by decide +kernel) (by decide +kernel)
set_option maxRecDepth 20000 in
theorem gX5_leadsDueJob_X5_isDue : GoodIn wsX5_leadsDueJob (wsV RX5 56 RX5 yX5_isDue wsX5_isDue) := goodIn_app (goodIn_of _ (by decide +kernel)) ggX5_leadsDueJob_X5_isDue
theorem dX5_leadsDueJob_0 : decode cX5_leadsDueJob 0 = .ok (.aload_n 0, 1) := by decide +kernel
theorem dX5_leadsDueJob_1 : decode cX5_leadsDueJob 1 = .ok (.getfield 19, 3) := by decide +kernel
theorem dX5_leadsDueJob_4 : decode cX5_leadsDueJob 4 = .ok (.iload_n 1, 1) := by decide +kernel
theorem dX5_leadsDueJob_5 : decode cX5_leadsDueJob 5 = .ok (.invokevirtual 53, 3) := by decide +kernel
theorem dX5_leadsDueJob_8 : decode cX5_leadsDueJob 8 = .ok (.ifCond .eq 22, 3) := by decide +kernel
theorem dX5_leadsDueJob_11 : decode cX5_leadsDueJob 11 = .ok (.aload_n 0, 1) := by decide +kernel
theorem dX5_leadsDueJob_12 : decode cX5_leadsDueJob 12 = .ok (.aload_n 0, 1) := by decide +kernel
theorem dX5_leadsDueJob_13 : decode cX5_leadsDueJob 13 = .ok (.getfield 19, 3) := by decide +kernel
theorem dX5_leadsDueJob_16 : decode cX5_leadsDueJob 16 = .ok (.iload_n 1, 1) := by decide +kernel
theorem dX5_leadsDueJob_17 : decode cX5_leadsDueJob 17 = .ok (.invokevirtual 37, 3) := by decide +kernel
theorem dX5_leadsDueJob_20 : decode cX5_leadsDueJob 20 = .ok (.invokevirtual 56, 3) := by decide +kernel
theorem dX5_leadsDueJob_23 : decode cX5_leadsDueJob 23 = .ok (.ifCond .eq 7, 3) := by decide +kernel
theorem dX5_leadsDueJob_26 : decode cX5_leadsDueJob 26 = .ok (.iconst 1, 1) := by decide +kernel
theorem dX5_leadsDueJob_27 : decode cX5_leadsDueJob 27 = .ok (.goto 4, 3) := by decide +kernel
theorem dX5_leadsDueJob_30 : decode cX5_leadsDueJob 30 = .ok (.iconst 0, 1) := by decide +kernel
theorem dX5_leadsDueJob_31 : decode cX5_leadsDueJob 31 = .ok (.ireturn, 1) := by decide +kernel
set_option maxRecDepth 20000 in
theorem ggX5_isDue_X6_has : GoodIn wsX5_isDue wsX6_has := goodIn_r _ [5] (by decide +kernel) (by decide +kernel)
set_option maxRecDepth 20000 in
theorem gX5_isDue_X6_has_n46 : GoodIn wsX5_isDue (wsX6_has) := ggX5_isDue_X6_has
theorem dX5_isDue_0 : decode cX5_isDue 0 = .ok (.iconst 0, 1) := by decide +kernel
theorem dX5_isDue_1 : decode cX5_isDue 1 = .ok (.istore_n 2, 1) := by decide +kernel
theorem dX5_isDue_2 : decode cX5_isDue 2 = .ok (.iload_n 2, 1) := by decide +kernel
theorem dX5_isDue_3 : decode cX5_isDue 3 = .ok (.aload_n 0, 1) := by decide +kernel
theorem dX5_isDue_4 : decode cX5_isDue 4 = .ok (.getfield 15, 3) := by decide +kernel
theorem dX5_isDue_7 : decode cX5_isDue 7 = .ok (.getfield 23, 3) := by decide +kernel
theorem dX5_isDue_10 : decode cX5_isDue 10 = .ok (.if_icmp .ge 54, 3) := by decide +kernel
theorem dX5_isDue_13 : decode cX5_isDue 13 = .ok (.iload_n 1, 1) := by decide +kernel
theorem dX5_isDue_14 : decode cX5_isDue 14 = .ok (.iload_n 2, 1) := by decide +kernel
theorem dX5_isDue_15 : decode cX5_isDue 15 = .ok (.invokestatic 46, 3) := by decide +kernel
theorem dX5_isDue_18 : decode cX5_isDue 18 = .ok (.ifCond .eq 40, 3) := by decide +kernel
theorem dX5_isDue_21 : decode cX5_isDue 21 = .ok (.aload_n 0, 1) := by decide +kernel
theorem dX5_isDue_22 : decode cX5_isDue 22 = .ok (.getfield 15, 3) := by decide +kernel
theorem dX5_isDue_25 : decode cX5_isDue 25 = .ok (.getfield 50, 3) := by decide +kernel
theorem dX5_isDue_28 : decode cX5_isDue 28 = .ok (.iload_n 2, 1) := by decide +kernel
theorem dX5_isDue_29 : decode cX5_isDue 29 = .ok (.iaload, 1) := by decide +kernel
theorem dX5_isDue_30 : decode cX5_isDue 30 = .ok (.bipush (-9), 2) := by decide +kernel
theorem dX5_isDue_32 : decode cX5_isDue 32 = .ok (.if_icmp .eq 26, 3) := by decide +kernel
theorem dX5_isDue_35 : decode cX5_isDue 35 = .ok (.aload_n 0, 1) := by decide +kernel
theorem dX5_isDue_36 : decode cX5_isDue 36 = .ok (.getfield 15, 3) := by decide +kernel
theorem dX5_isDue_39 : decode cX5_isDue 39 = .ok (.getfield 50, 3) := by decide +kernel
theorem dX5_isDue_42 : decode cX5_isDue 42 = .ok (.iload_n 2, 1) := by decide +kernel
theorem dX5_isDue_43 : decode cX5_isDue 43 = .ok (.iaload, 1) := by decide +kernel
theorem dX5_isDue_44 : decode cX5_isDue 44 = .ok (.aload_n 0, 1) := by decide +kernel
theorem dX5_isDue_45 : decode cX5_isDue 45 = .ok (.getfield 19, 3) := by decide +kernel
theorem dX5_isDue_48 : decode cX5_isDue 48 = .ok (.getfield 59, 3) := by decide +kernel
theorem dX5_isDue_51 : decode cX5_isDue 51 = .ok (.iload_n 2, 1) := by decide +kernel
theorem dX5_isDue_52 : decode cX5_isDue 52 = .ok (.iaload, 1) := by decide +kernel
theorem dX5_isDue_53 : decode cX5_isDue 53 = .ok (.if_icmp .eq 5, 3) := by decide +kernel
theorem dX5_isDue_56 : decode cX5_isDue 56 = .ok (.iconst 1, 1) := by decide +kernel
theorem dX5_isDue_57 : decode cX5_isDue 57 = .ok (.ireturn, 1) := by decide +kernel
theorem dX5_isDue_58 : decode cX5_isDue 58 = .ok (.iinc 2 1, 3) := by decide +kernel
theorem dX5_isDue_61 : decode cX5_isDue 61 = .ok (.goto (-59), 3) := by decide +kernel
theorem dX5_isDue_64 : decode cX5_isDue 64 = .ok (.iconst 0, 1) := by decide +kernel
theorem dX5_isDue_65 : decode cX5_isDue 65 = .ok (.ireturn, 1) := by decide +kernel
set_option maxRecDepth 20000 in
theorem ggX5_fewestLifts_X5_bundleLifts : GoodIn wsX5_fewestLifts wsX5_bundleLifts := goodIn_r _ [10, 1, 11, 12, 13, 14, 15, 16, 17, 18, 19, 20, 9, 21, 22, 23, 24, 25, 26, 27, 28, 29, 30, 31, 32, 33, 4, 34, 43, 44, 45, 46, 47, 48, 49, 50, 51, 52, 53, 54, 55, 56, 57, 58] (by decide +kernel) (by decide +kernel)
set_option maxRecDepth 20000 in
theorem gX5_fewestLifts_X5_bundleLifts : GoodIn wsX5_fewestLifts (wsV RX5 62 RX5 yX5_bundleLifts wsX5_bundleLifts) := goodIn_app (goodIn_of _ (by decide +kernel)) ggX5_fewestLifts_X5_bundleLifts
set_option maxRecDepth 20000 in
theorem ggX5_fewestLifts_X5_looseThings : GoodIn wsX5_fewestLifts wsX5_looseThings := goodIn_r _ [38, 1, 11, 43, 44, 45, 46, 47, 48, 49, 50, 51, 52, 53, 54, 55, 56, 57, 58] (by decide +kernel) (by decide +kernel)
set_option maxRecDepth 20000 in
theorem gX5_fewestLifts_X5_looseThings : GoodIn wsX5_fewestLifts (wsV RX5 68 RX5 yX5_looseThings wsX5_looseThings) := goodIn_app (goodIn_of _ (by decide +kernel)) ggX5_fewestLifts_X5_looseThings
set_option maxRecDepth 20000 in
theorem ggX5_fewestLifts_X0_handsTogether : GoodIn wsX5_fewestLifts wsX0_handsTogether := goodIn_r _ [42, 30, 31, 22, 23, 24, 46, 47, 48, 49, 50, 51, 52, 53] (by decide +kernel) (by decide +kernel)
set_option maxRecDepth 20000 in
theorem gX5_fewestLifts_X0_handsTogether : GoodIn wsX5_fewestLifts (wsV RX5 72 RX0 yX0_handsTogether wsX0_handsTogether) := goodIn_app (goodIn_of _ (by decide +kernel)) ggX5_fewestLifts_X0_handsTogether
set_option maxRecDepth 20000 in
theorem ggX5_fewestLifts_X0_handsOf : GoodIn wsX5_fewestLifts wsX0_handsOf := goodIn_r _ [29, 30, 31, 32, 33, 4, 34, 22, 23, 24, 46, 47, 48, 49, 50, 51, 52, 53] (by decide +kernel) (by decide +kernel)
set_option maxRecDepth 20000 in
theorem gX5_fewestLifts_X0_handsOf : GoodIn wsX5_fewestLifts (wsV RX5 75 RX0 yX0_handsOf wsX0_handsOf) := goodIn_app (goodIn_of _ (by decide +kernel)) ggX5_fewestLifts_X0_handsOf
theorem dX5_fewestLifts_0 : decode cX5_fewestLifts 0 = .ok (.aload_n 0, 1) := by decide +kernel
theorem dX5_fewestLifts_1 : decode cX5_fewestLifts 1 = .ok (.invokevirtual 62, 3) := by decide +kernel
theorem dX5_fewestLifts_4 : decode cX5_fewestLifts 4 = .ok (.istore_n 1, 1) := by decide +kernel
theorem dX5_fewestLifts_5 : decode cX5_fewestLifts 5 = .ok (.iconst 0, 1) := by decide +kernel
theorem dX5_fewestLifts_6 : decode cX5_fewestLifts 6 = .ok (.istore_n 2, 1) := by decide +kernel
theorem dX5_fewestLifts_7 : decode cX5_fewestLifts 7 = .ok (.iload_n 2, 1) := by decide +kernel
theorem dX5_fewestLifts_8 : decode cX5_fewestLifts 8 = .ok (.aload_n 0, 1) := by decide +kernel
theorem dX5_fewestLifts_9 : decode cX5_fewestLifts 9 = .ok (.getfield 15, 3) := by decide +kernel
theorem dX5_fewestLifts_12 : decode cX5_fewestLifts 12 = .ok (.getfield 65, 3) := by decide +kernel
theorem dX5_fewestLifts_15 : decode cX5_fewestLifts 15 = .ok (.if_icmp .ge 62, 3) := by decide +kernel
theorem dX5_fewestLifts_18 : decode cX5_fewestLifts 18 = .ok (.iconst 0, 1) := by decide +kernel
theorem dX5_fewestLifts_19 : decode cX5_fewestLifts 19 = .ok (.istore_n 3, 1) := by decide +kernel
theorem dX5_fewestLifts_20 : decode cX5_fewestLifts 20 = .ok (.iload_n 3, 1) := by decide +kernel
theorem dX5_fewestLifts_21 : decode cX5_fewestLifts 21 = .ok (.aload_n 0, 1) := by decide +kernel
theorem dX5_fewestLifts_22 : decode cX5_fewestLifts 22 = .ok (.getfield 15, 3) := by decide +kernel
theorem dX5_fewestLifts_25 : decode cX5_fewestLifts 25 = .ok (.getfield 65, 3) := by decide +kernel
theorem dX5_fewestLifts_28 : decode cX5_fewestLifts 28 = .ok (.if_icmp .ge 43, 3) := by decide +kernel
theorem dX5_fewestLifts_31 : decode cX5_fewestLifts 31 = .ok (.aload_n 0, 1) := by decide +kernel
theorem dX5_fewestLifts_32 : decode cX5_fewestLifts 32 = .ok (.iload_n 2, 1) := by decide +kernel
theorem dX5_fewestLifts_33 : decode cX5_fewestLifts 33 = .ok (.iload_n 3, 1) := by decide +kernel
theorem dX5_fewestLifts_34 : decode cX5_fewestLifts 34 = .ok (.invokevirtual 68, 3) := by decide +kernel
theorem dX5_fewestLifts_37 : decode cX5_fewestLifts 37 = .ok (.istore 4, 2) := by decide +kernel
theorem dX5_fewestLifts_39 : decode cX5_fewestLifts 39 = .ok (.iload_n 1, 1) := by decide +kernel
theorem dX5_fewestLifts_40 : decode cX5_fewestLifts 40 = .ok (.aload_n 0, 1) := by decide +kernel
theorem dX5_fewestLifts_41 : decode cX5_fewestLifts 41 = .ok (.getfield 15, 3) := by decide +kernel
theorem dX5_fewestLifts_44 : decode cX5_fewestLifts 44 = .ok (.iload 4, 2) := by decide +kernel
theorem dX5_fewestLifts_46 : decode cX5_fewestLifts 46 = .ok (.invokevirtual 72, 3) := by decide +kernel
theorem dX5_fewestLifts_49 : decode cX5_fewestLifts 49 = .ok (.iconst 1, 1) := by decide +kernel
theorem dX5_fewestLifts_50 : decode cX5_fewestLifts 50 = .ok (.aload_n 0, 1) := by decide +kernel
theorem dX5_fewestLifts_51 : decode cX5_fewestLifts 51 = .ok (.getfield 15, 3) := by decide +kernel
theorem dX5_fewestLifts_54 : decode cX5_fewestLifts 54 = .ok (.iload 4, 2) := by decide +kernel
theorem dX5_fewestLifts_56 : decode cX5_fewestLifts 56 = .ok (.invokevirtual 75, 3) := by decide +kernel
theorem dX5_fewestLifts_59 : decode cX5_fewestLifts 59 = .ok (.iadd, 1) := by decide +kernel
theorem dX5_fewestLifts_60 : decode cX5_fewestLifts 60 = .ok (.invokestatic 78, 3) := by decide +kernel
theorem dX5_fewestLifts_63 : decode cX5_fewestLifts 63 = .ok (.iadd, 1) := by decide +kernel
theorem dX5_fewestLifts_64 : decode cX5_fewestLifts 64 = .ok (.istore_n 1, 1) := by decide +kernel
theorem dX5_fewestLifts_65 : decode cX5_fewestLifts 65 = .ok (.iinc 3 1, 3) := by decide +kernel
theorem dX5_fewestLifts_68 : decode cX5_fewestLifts 68 = .ok (.goto (-48), 3) := by decide +kernel
theorem dX5_fewestLifts_71 : decode cX5_fewestLifts 71 = .ok (.iinc 2 1, 3) := by decide +kernel
theorem dX5_fewestLifts_74 : decode cX5_fewestLifts 74 = .ok (.goto (-67), 3) := by decide +kernel
theorem dX5_fewestLifts_77 : decode cX5_fewestLifts 77 = .ok (.iload_n 1, 1) := by decide +kernel
theorem dX5_fewestLifts_78 : decode cX5_fewestLifts 78 = .ok (.ireturn, 1) := by decide +kernel
set_option maxRecDepth 20000 in
theorem ggX5_newBundles_X5_looseThings : GoodIn wsX5_newBundles wsX5_looseThings := goodIn_r _ [6, 1, 7, 26, 27, 28, 29, 30, 31, 32, 33, 34, 35, 36, 37, 38, 39, 40, 41] (by decide +kernel) (by decide +kernel)
set_option maxRecDepth 20000 in
theorem gX5_newBundles_X5_looseThings : GoodIn wsX5_newBundles (wsV RX5 68 RX5 yX5_looseThings wsX5_looseThings) := goodIn_app (goodIn_of _ (by decide +kernel)) ggX5_newBundles_X5_looseThings
set_option maxRecDepth 20000 in
theorem ggX5_newBundles_X0_handsOf : GoodIn wsX5_newBundles wsX0_handsOf := goodIn_r _ [12, 13, 14, 15, 16, 17, 18, 19, 20, 21, 29, 30, 31, 32, 33, 34, 35, 36] (by decide +kernel) (by decide +kernel)
set_option maxRecDepth 20000 in
theorem gX5_newBundles_X0_handsOf : GoodIn wsX5_newBundles (wsV RX5 75 RX0 yX0_handsOf wsX0_handsOf) := goodIn_app (goodIn_of _ (by decide +kernel)) ggX5_newBundles_X0_handsOf
set_option maxRecDepth 20000 in
theorem ggX5_newBundles_X0_handsTogether : GoodIn wsX5_newBundles wsX0_handsTogether := goodIn_r _ [25, 13, 14, 19, 20, 21, 29, 30, 31, 32, 33, 34, 35, 36] (by decide +kernel) (by decide +kernel)
set_option maxRecDepth 20000 in
theorem gX5_newBundles_X0_handsTogether : GoodIn wsX5_newBundles (wsV RX5 72 RX0 yX0_handsTogether wsX0_handsTogether) := goodIn_app (goodIn_of _ (by decide +kernel)) ggX5_newBundles_X0_handsTogether
theorem dX5_newBundles_0 : decode cX5_newBundles 0 = .ok (.iconst 0, 1) := by decide +kernel
theorem dX5_newBundles_1 : decode cX5_newBundles 1 = .ok (.istore_n 1, 1) := by decide +kernel
theorem dX5_newBundles_2 : decode cX5_newBundles 2 = .ok (.iconst 0, 1) := by decide +kernel
theorem dX5_newBundles_3 : decode cX5_newBundles 3 = .ok (.istore_n 2, 1) := by decide +kernel
theorem dX5_newBundles_4 : decode cX5_newBundles 4 = .ok (.iload_n 2, 1) := by decide +kernel
theorem dX5_newBundles_5 : decode cX5_newBundles 5 = .ok (.aload_n 0, 1) := by decide +kernel
theorem dX5_newBundles_6 : decode cX5_newBundles 6 = .ok (.getfield 15, 3) := by decide +kernel
theorem dX5_newBundles_9 : decode cX5_newBundles 9 = .ok (.getfield 65, 3) := by decide +kernel
theorem dX5_newBundles_12 : decode cX5_newBundles 12 = .ok (.if_icmp .ge 62, 3) := by decide +kernel
theorem dX5_newBundles_15 : decode cX5_newBundles 15 = .ok (.iconst 0, 1) := by decide +kernel
theorem dX5_newBundles_16 : decode cX5_newBundles 16 = .ok (.istore_n 3, 1) := by decide +kernel
theorem dX5_newBundles_17 : decode cX5_newBundles 17 = .ok (.iload_n 3, 1) := by decide +kernel
theorem dX5_newBundles_18 : decode cX5_newBundles 18 = .ok (.aload_n 0, 1) := by decide +kernel
theorem dX5_newBundles_19 : decode cX5_newBundles 19 = .ok (.getfield 15, 3) := by decide +kernel
theorem dX5_newBundles_22 : decode cX5_newBundles 22 = .ok (.getfield 65, 3) := by decide +kernel
theorem dX5_newBundles_25 : decode cX5_newBundles 25 = .ok (.if_icmp .ge 43, 3) := by decide +kernel
theorem dX5_newBundles_28 : decode cX5_newBundles 28 = .ok (.aload_n 0, 1) := by decide +kernel
theorem dX5_newBundles_29 : decode cX5_newBundles 29 = .ok (.iload_n 2, 1) := by decide +kernel
theorem dX5_newBundles_30 : decode cX5_newBundles 30 = .ok (.iload_n 3, 1) := by decide +kernel
theorem dX5_newBundles_31 : decode cX5_newBundles 31 = .ok (.invokevirtual 68, 3) := by decide +kernel
theorem dX5_newBundles_34 : decode cX5_newBundles 34 = .ok (.istore 4, 2) := by decide +kernel
theorem dX5_newBundles_36 : decode cX5_newBundles 36 = .ok (.iconst 1, 1) := by decide +kernel
theorem dX5_newBundles_37 : decode cX5_newBundles 37 = .ok (.aload_n 0, 1) := by decide +kernel
theorem dX5_newBundles_38 : decode cX5_newBundles 38 = .ok (.getfield 15, 3) := by decide +kernel
theorem dX5_newBundles_41 : decode cX5_newBundles 41 = .ok (.iload 4, 2) := by decide +kernel
theorem dX5_newBundles_43 : decode cX5_newBundles 43 = .ok (.invokevirtual 75, 3) := by decide +kernel
theorem dX5_newBundles_46 : decode cX5_newBundles 46 = .ok (.iadd, 1) := by decide +kernel
theorem dX5_newBundles_47 : decode cX5_newBundles 47 = .ok (.aload_n 0, 1) := by decide +kernel
theorem dX5_newBundles_48 : decode cX5_newBundles 48 = .ok (.getfield 15, 3) := by decide +kernel
theorem dX5_newBundles_51 : decode cX5_newBundles 51 = .ok (.iload 4, 2) := by decide +kernel
theorem dX5_newBundles_53 : decode cX5_newBundles 53 = .ok (.invokevirtual 72, 3) := by decide +kernel
theorem dX5_newBundles_56 : decode cX5_newBundles 56 = .ok (.if_icmp .ge 6, 3) := by decide +kernel
theorem dX5_newBundles_59 : decode cX5_newBundles 59 = .ok (.iinc 1 1, 3) := by decide +kernel
theorem dX5_newBundles_62 : decode cX5_newBundles 62 = .ok (.iinc 3 1, 3) := by decide +kernel
theorem dX5_newBundles_65 : decode cX5_newBundles 65 = .ok (.goto (-48), 3) := by decide +kernel
theorem dX5_newBundles_68 : decode cX5_newBundles 68 = .ok (.iinc 2 1, 3) := by decide +kernel
theorem dX5_newBundles_71 : decode cX5_newBundles 71 = .ok (.goto (-67), 3) := by decide +kernel
theorem dX5_newBundles_74 : decode cX5_newBundles 74 = .ok (.iload_n 1, 1) := by decide +kernel
theorem dX5_newBundles_75 : decode cX5_newBundles 75 = .ok (.ireturn, 1) := by decide +kernel
set_option maxRecDepth 20000 in
theorem ggX5_bundleLifts_X1_jobOf : GoodIn wsX5_bundleLifts wsX1_jobOf := goodIn_r _ [7, 8, 39, 40, 41, 42, 43] (by decide +kernel) (by decide +kernel)
set_option maxRecDepth 20000 in
theorem gX5_bundleLifts_X1_jobOf : GoodIn wsX5_bundleLifts (wsV RX5 37 RX1 yX1_jobOf wsX1_jobOf) := goodIn_app (goodIn_of _ (by decide +kernel)) ggX5_bundleLifts_X1_jobOf
set_option maxRecDepth 20000 in
theorem ggX5_bundleLifts_X5_isDue : GoodIn wsX5_bundleLifts wsX5_isDue := goodIn_r _ [13, 1, 2, 14, 15, 16, 28, 29, 30, 31, 32, 33, 34, 35, 36, 37, 38, 39, 40, 41, 42, 43] (by decide +kernel) (by decide +kernel)
set_option maxRecDepth 20000 in
theorem gX5_bundleLifts_X5_isDue : GoodIn wsX5_bundleLifts (wsV RX5 56 RX5 yX5_isDue wsX5_isDue) := goodIn_app (goodIn_of _ (by decide +kernel)) ggX5_bundleLifts_X5_isDue
set_option maxRecDepth 20000 in
theorem ggX5_bundleLifts_X0_handsOf : GoodIn wsX5_bundleLifts wsX0_handsOf := goodIn_r _ [21, 22, 23, 24, 25, 26, 27, 14, 15, 16, 31, 32, 33, 34, 35, 36, 37, 38] (by decide +kernel) (by decide +kernel)
set_option maxRecDepth 20000 in
theorem gX5_bundleLifts_X0_handsOf : GoodIn wsX5_bundleLifts (wsV RX5 75 RX0 yX0_handsOf wsX0_handsOf) := goodIn_app (goodIn_of _ (by decide +kernel)) ggX5_bundleLifts_X0_handsOf
theorem dX5_bundleLifts_0 : decode cX5_bundleLifts 0 = .ok (.iconst 0, 1) := by decide +kernel
theorem dX5_bundleLifts_1 : decode cX5_bundleLifts 1 = .ok (.istore_n 1, 1) := by decide +kernel
theorem dX5_bundleLifts_2 : decode cX5_bundleLifts 2 = .ok (.iconst 0, 1) := by decide +kernel
theorem dX5_bundleLifts_3 : decode cX5_bundleLifts 3 = .ok (.istore_n 2, 1) := by decide +kernel
theorem dX5_bundleLifts_4 : decode cX5_bundleLifts 4 = .ok (.iload_n 2, 1) := by decide +kernel
theorem dX5_bundleLifts_5 : decode cX5_bundleLifts 5 = .ok (.aload_n 0, 1) := by decide +kernel
theorem dX5_bundleLifts_6 : decode cX5_bundleLifts 6 = .ok (.getfield 15, 3) := by decide +kernel
theorem dX5_bundleLifts_9 : decode cX5_bundleLifts 9 = .ok (.getfield 23, 3) := by decide +kernel
theorem dX5_bundleLifts_12 : decode cX5_bundleLifts 12 = .ok (.if_icmp .ge 50, 3) := by decide +kernel
theorem dX5_bundleLifts_15 : decode cX5_bundleLifts 15 = .ok (.aload_n 0, 1) := by decide +kernel
theorem dX5_bundleLifts_16 : decode cX5_bundleLifts 16 = .ok (.getfield 19, 3) := by decide +kernel
theorem dX5_bundleLifts_19 : decode cX5_bundleLifts 19 = .ok (.iload_n 2, 1) := by decide +kernel
theorem dX5_bundleLifts_20 : decode cX5_bundleLifts 20 = .ok (.invokevirtual 37, 3) := by decide +kernel
theorem dX5_bundleLifts_23 : decode cX5_bundleLifts 23 = .ok (.istore_n 3, 1) := by decide +kernel
theorem dX5_bundleLifts_24 : decode cX5_bundleLifts 24 = .ok (.aload_n 0, 1) := by decide +kernel
theorem dX5_bundleLifts_25 : decode cX5_bundleLifts 25 = .ok (.getfield 19, 3) := by decide +kernel
theorem dX5_bundleLifts_28 : decode cX5_bundleLifts 28 = .ok (.getfield 83, 3) := by decide +kernel
theorem dX5_bundleLifts_31 : decode cX5_bundleLifts 31 = .ok (.iload_n 2, 1) := by decide +kernel
theorem dX5_bundleLifts_32 : decode cX5_bundleLifts 32 = .ok (.iaload, 1) := by decide +kernel
theorem dX5_bundleLifts_33 : decode cX5_bundleLifts 33 = .ok (.iload_n 2, 1) := by decide +kernel
theorem dX5_bundleLifts_34 : decode cX5_bundleLifts 34 = .ok (.if_icmp .ne 22, 3) := by decide +kernel
theorem dX5_bundleLifts_37 : decode cX5_bundleLifts 37 = .ok (.aload_n 0, 1) := by decide +kernel
theorem dX5_bundleLifts_38 : decode cX5_bundleLifts 38 = .ok (.iload_n 3, 1) := by decide +kernel
theorem dX5_bundleLifts_39 : decode cX5_bundleLifts 39 = .ok (.invokevirtual 56, 3) := by decide +kernel
theorem dX5_bundleLifts_42 : decode cX5_bundleLifts 42 = .ok (.ifCond .eq 14, 3) := by decide +kernel
theorem dX5_bundleLifts_45 : decode cX5_bundleLifts 45 = .ok (.iload_n 1, 1) := by decide +kernel
theorem dX5_bundleLifts_46 : decode cX5_bundleLifts 46 = .ok (.aload_n 0, 1) := by decide +kernel
theorem dX5_bundleLifts_47 : decode cX5_bundleLifts 47 = .ok (.getfield 15, 3) := by decide +kernel
theorem dX5_bundleLifts_50 : decode cX5_bundleLifts 50 = .ok (.iload_n 3, 1) := by decide +kernel
theorem dX5_bundleLifts_51 : decode cX5_bundleLifts 51 = .ok (.invokevirtual 75, 3) := by decide +kernel
theorem dX5_bundleLifts_54 : decode cX5_bundleLifts 54 = .ok (.iadd, 1) := by decide +kernel
theorem dX5_bundleLifts_55 : decode cX5_bundleLifts 55 = .ok (.istore_n 1, 1) := by decide +kernel
theorem dX5_bundleLifts_56 : decode cX5_bundleLifts 56 = .ok (.iinc 2 1, 3) := by decide +kernel
theorem dX5_bundleLifts_59 : decode cX5_bundleLifts 59 = .ok (.goto (-55), 3) := by decide +kernel
theorem dX5_bundleLifts_62 : decode cX5_bundleLifts 62 = .ok (.iload_n 1, 1) := by decide +kernel
theorem dX5_bundleLifts_63 : decode cX5_bundleLifts 63 = .ok (.ireturn, 1) := by decide +kernel
theorem dX5_looseThings_0 : decode cX5_looseThings 0 = .ok (.iconst 0, 1) := by decide +kernel
theorem dX5_looseThings_1 : decode cX5_looseThings 1 = .ok (.istore_n 3, 1) := by decide +kernel
theorem dX5_looseThings_2 : decode cX5_looseThings 2 = .ok (.iconst 0, 1) := by decide +kernel
theorem dX5_looseThings_3 : decode cX5_looseThings 3 = .ok (.istore 4, 2) := by decide +kernel
theorem dX5_looseThings_5 : decode cX5_looseThings 5 = .ok (.iload 4, 2) := by decide +kernel
theorem dX5_looseThings_7 : decode cX5_looseThings 7 = .ok (.aload_n 0, 1) := by decide +kernel
theorem dX5_looseThings_8 : decode cX5_looseThings 8 = .ok (.getfield 15, 3) := by decide +kernel
theorem dX5_looseThings_11 : decode cX5_looseThings 11 = .ok (.getfield 23, 3) := by decide +kernel
theorem dX5_looseThings_14 : decode cX5_looseThings 14 = .ok (.if_icmp .ge 64, 3) := by decide +kernel
theorem dX5_looseThings_17 : decode cX5_looseThings 17 = .ok (.iload_n 1, 1) := by decide +kernel
theorem dX5_looseThings_18 : decode cX5_looseThings 18 = .ok (.iload_n 2, 1) := by decide +kernel
theorem dX5_looseThings_19 : decode cX5_looseThings 19 = .ok (.if_icmp .eq 53, 3) := by decide +kernel
theorem dX5_looseThings_22 : decode cX5_looseThings 22 = .ok (.aload_n 0, 1) := by decide +kernel
theorem dX5_looseThings_23 : decode cX5_looseThings 23 = .ok (.getfield 19, 3) := by decide +kernel
theorem dX5_looseThings_26 : decode cX5_looseThings 26 = .ok (.getfield 83, 3) := by decide +kernel
theorem dX5_looseThings_29 : decode cX5_looseThings 29 = .ok (.iload 4, 2) := by decide +kernel
theorem dX5_looseThings_31 : decode cX5_looseThings 31 = .ok (.iaload, 1) := by decide +kernel
theorem dX5_looseThings_32 : decode cX5_looseThings 32 = .ok (.bipush (-9), 2) := by decide +kernel
theorem dX5_looseThings_34 : decode cX5_looseThings 34 = .ok (.if_icmp .ne 38, 3) := by decide +kernel
theorem dX5_looseThings_37 : decode cX5_looseThings 37 = .ok (.aload_n 0, 1) := by decide +kernel
theorem dX5_looseThings_38 : decode cX5_looseThings 38 = .ok (.getfield 19, 3) := by decide +kernel
theorem dX5_looseThings_41 : decode cX5_looseThings 41 = .ok (.getfield 59, 3) := by decide +kernel
theorem dX5_looseThings_44 : decode cX5_looseThings 44 = .ok (.iload 4, 2) := by decide +kernel
theorem dX5_looseThings_46 : decode cX5_looseThings 46 = .ok (.iaload, 1) := by decide +kernel
theorem dX5_looseThings_47 : decode cX5_looseThings 47 = .ok (.iload_n 1, 1) := by decide +kernel
theorem dX5_looseThings_48 : decode cX5_looseThings 48 = .ok (.if_icmp .ne 24, 3) := by decide +kernel
theorem dX5_looseThings_51 : decode cX5_looseThings 51 = .ok (.aload_n 0, 1) := by decide +kernel
theorem dX5_looseThings_52 : decode cX5_looseThings 52 = .ok (.getfield 15, 3) := by decide +kernel
theorem dX5_looseThings_55 : decode cX5_looseThings 55 = .ok (.getfield 50, 3) := by decide +kernel
theorem dX5_looseThings_58 : decode cX5_looseThings 58 = .ok (.iload 4, 2) := by decide +kernel
theorem dX5_looseThings_60 : decode cX5_looseThings 60 = .ok (.iaload, 1) := by decide +kernel
theorem dX5_looseThings_61 : decode cX5_looseThings 61 = .ok (.iload_n 2, 1) := by decide +kernel
theorem dX5_looseThings_62 : decode cX5_looseThings 62 = .ok (.if_icmp .ne 10, 3) := by decide +kernel
theorem dX5_looseThings_65 : decode cX5_looseThings 65 = .ok (.iload_n 3, 1) := by decide +kernel
theorem dX5_looseThings_66 : decode cX5_looseThings 66 = .ok (.iconst 1, 1) := by decide +kernel
theorem dX5_looseThings_67 : decode cX5_looseThings 67 = .ok (.iload 4, 2) := by decide +kernel
theorem dX5_looseThings_69 : decode cX5_looseThings 69 = .ok (.ishl, 1) := by decide +kernel
theorem dX5_looseThings_70 : decode cX5_looseThings 70 = .ok (.ior, 1) := by decide +kernel
theorem dX5_looseThings_71 : decode cX5_looseThings 71 = .ok (.istore_n 3, 1) := by decide +kernel
theorem dX5_looseThings_72 : decode cX5_looseThings 72 = .ok (.iinc 4 1, 3) := by decide +kernel
theorem dX5_looseThings_75 : decode cX5_looseThings 75 = .ok (.goto (-70), 3) := by decide +kernel
theorem dX5_looseThings_78 : decode cX5_looseThings 78 = .ok (.iload_n 3, 1) := by decide +kernel
theorem dX5_looseThings_79 : decode cX5_looseThings 79 = .ok (.ireturn, 1) := by decide +kernel
set_option maxRecDepth 20000 in
theorem ggX5_canBeDone_X5_fillShared : GoodIn wsX5_canBeDone wsX5_fillShared := goodIn_r _ [5, 6, 7, 8, 9, 10, 11, 12, 13, 14, 15, 4, 16, 17, 18, 19, 20, 21, 22, 23, 24, 25, 26, 27, 28, 29, 30, 31, 32, 33, 34, 35, 36, 37, 38, 39, 40, 41, 42, 43, 68, 69, 70, 71, 72, 73, 74, 75, 76, 77, 78, 79, 80, 81, 82, 83] (by decide +kernel) (by decide +kernel)
set_option maxRecDepth 20000 in
theorem gX5_canBeDone_X5_fillShared : GoodIn wsX5_canBeDone (wsV RX5 86 RX5 yX5_fillShared wsX5_fillShared) := goodIn_app (goodIn_of _ (by decide +kernel)) ggX5_canBeDone_X5_fillShared
set_option maxRecDepth 20000 in
theorem ggX5_canBeDone_X5_everybody : GoodIn wsX5_canBeDone wsX5_everybody := goodIn_r _ [47, 7, 68, 69, 70, 71, 72, 73, 74, 75, 76, 77, 78] (by decide +kernel) (by decide +kernel)
set_option maxRecDepth 20000 in
theorem gX5_canBeDone_X5_everybody : GoodIn wsX5_canBeDone (wsV RX5 89 RX5 yX5_everybody wsX5_everybody) := goodIn_app (goodIn_of _ (by decide +kernel)) ggX5_canBeDone_X5_everybody
set_option maxRecDepth 20000 in
theorem ggX5_canBeDone_X5_canDoAll : GoodIn wsX5_canBeDone wsX5_canDoAll := goodIn_r _ [51, 6, 52, 53, 54, 4, 55, 8, 9, 10, 11, 12, 56, 57, 58, 20, 59, 60, 31, 32, 33, 61, 62, 63, 64, 65, 66, 67, 68, 69, 70, 79, 80, 81, 82, 83] (by decide +kernel) (by decide +kernel)
set_option maxRecDepth 20000 in
theorem gX5_canBeDone_X5_canDoAll : GoodIn wsX5_canBeDone (wsV RX5 92 RX5 yX5_canDoAll wsX5_canDoAll) := goodIn_app (goodIn_of _ (by decide +kernel)) ggX5_canBeDone_X5_canDoAll
theorem dX5_canBeDone_0 : decode cX5_canBeDone 0 = .ok (.aload_n 0, 1) := by decide +kernel
theorem dX5_canBeDone_1 : decode cX5_canBeDone 1 = .ok (.invokevirtual 86, 3) := by decide +kernel
theorem dX5_canBeDone_4 : decode cX5_canBeDone 4 = .ok (.aload_n 0, 1) := by decide +kernel
theorem dX5_canBeDone_5 : decode cX5_canBeDone 5 = .ok (.aload_n 0, 1) := by decide +kernel
theorem dX5_canBeDone_6 : decode cX5_canBeDone 6 = .ok (.invokevirtual 89, 3) := by decide +kernel
theorem dX5_canBeDone_9 : decode cX5_canBeDone 9 = .ok (.invokevirtual 92, 3) := by decide +kernel
theorem dX5_canBeDone_12 : decode cX5_canBeDone 12 = .ok (.ireturn, 1) := by decide +kernel
set_option maxRecDepth 20000 in
theorem ggX5_leastCost_X5_fillShared : GoodIn wsX5_leastCost wsX5_fillShared := goodIn_r _ [6, 7, 1, 8, 9, 10, 11, 12, 13, 14, 15, 5, 16, 17, 18, 19, 20, 21, 22, 23, 24, 25, 26, 27, 28, 29, 30, 31, 32, 33, 34, 35, 36, 37, 38, 39, 40, 41, 42, 43, 68, 69, 70, 71, 72, 73, 74, 75, 76, 77, 78, 79, 80, 81, 82, 83] (by decide +kernel) (by decide +kernel)
set_option maxRecDepth 20000 in
theorem gX5_leastCost_X5_fillShared : GoodIn wsX5_leastCost (wsV RX5 86 RX5 yX5_fillShared wsX5_fillShared) := goodIn_app (goodIn_of _ (by decide +kernel)) ggX5_leastCost_X5_fillShared
set_option maxRecDepth 20000 in
theorem ggX5_leastCost_X5_everybody : GoodIn wsX5_leastCost wsX5_everybody := goodIn_r _ [47, 1, 68, 69, 70, 71, 72, 73, 74, 75, 76, 77, 78] (by decide +kernel) (by decide +kernel)
set_option maxRecDepth 20000 in
theorem gX5_leastCost_X5_everybody : GoodIn wsX5_leastCost (wsV RX5 89 RX5 yX5_everybody wsX5_everybody) := goodIn_app (goodIn_of _ (by decide +kernel)) ggX5_leastCost_X5_everybody
set_option maxRecDepth 20000 in
theorem ggX5_leastCost_X5_canDoAll : GoodIn wsX5_leastCost wsX5_canDoAll := goodIn_r _ [51, 7, 52, 53, 54, 5, 55, 8, 9, 10, 11, 12, 56, 57, 58, 20, 59, 60, 31, 32, 33, 61, 62, 63, 64, 65, 66, 67, 68, 69, 70, 79, 80, 81, 82, 83] (by decide +kernel) (by decide +kernel)
set_option maxRecDepth 20000 in
theorem gX5_leastCost_X5_canDoAll : GoodIn wsX5_leastCost (wsV RX5 92 RX5 yX5_canDoAll wsX5_canDoAll) := goodIn_app (goodIn_of _ (by decide +kernel)) ggX5_leastCost_X5_canDoAll
set_option maxRecDepth 20000 in
theorem ggX5_leastCost_X5_mostLiftings : GoodIn wsX5_leastCost wsX5_mostLiftings := goodIn_r _ [55, 8, 7, 9, 10, 11, 12, 56, 57, 58, 20, 59, 60, 31, 32, 33, 61, 62, 63, 64, 65, 66, 67, 68, 69, 70, 79, 80, 81, 82, 83] (by decide +kernel) (by decide +kernel)
set_option maxRecDepth 20000 in
theorem gX5_leastCost_X5_mostLiftings : GoodIn wsX5_leastCost (wsV RX5 101 RX5 yX5_mostLiftings wsX5_mostLiftings) := goodIn_app (goodIn_of _ (by decide +kernel)) ggX5_leastCost_X5_mostLiftings
theorem dX5_leastCost_0 : decode cX5_leastCost 0 = .ok (.aload_n 0, 1) := by decide +kernel
theorem dX5_leastCost_1 : decode cX5_leastCost 1 = .ok (.invokevirtual 86, 3) := by decide +kernel
theorem dX5_leastCost_4 : decode cX5_leastCost 4 = .ok (.aload_n 0, 1) := by decide +kernel
theorem dX5_leastCost_5 : decode cX5_leastCost 5 = .ok (.aload_n 0, 1) := by decide +kernel
theorem dX5_leastCost_6 : decode cX5_leastCost 6 = .ok (.invokevirtual 89, 3) := by decide +kernel
theorem dX5_leastCost_9 : decode cX5_leastCost 9 = .ok (.invokevirtual 92, 3) := by decide +kernel
theorem dX5_leastCost_12 : decode cX5_leastCost 12 = .ok (.ifCond .ne 6, 3) := by decide +kernel
theorem dX5_leastCost_15 : decode cX5_leastCost 15 = .ok (.bipush (-9), 2) := by decide +kernel
theorem dX5_leastCost_17 : decode cX5_leastCost 17 = .ok (.ireturn, 1) := by decide +kernel
theorem dX5_leastCost_18 : decode cX5_leastCost 18 = .ok (.iconst 0, 1) := by decide +kernel
theorem dX5_leastCost_19 : decode cX5_leastCost 19 = .ok (.istore_n 1, 1) := by decide +kernel
theorem dX5_leastCost_20 : decode cX5_leastCost 20 = .ok (.iconst 0, 1) := by decide +kernel
theorem dX5_leastCost_21 : decode cX5_leastCost 21 = .ok (.istore_n 2, 1) := by decide +kernel
theorem dX5_leastCost_22 : decode cX5_leastCost 22 = .ok (.iconst 0, 1) := by decide +kernel
theorem dX5_leastCost_23 : decode cX5_leastCost 23 = .ok (.istore_n 3, 1) := by decide +kernel
theorem dX5_leastCost_24 : decode cX5_leastCost 24 = .ok (.iconst 0, 1) := by decide +kernel
theorem dX5_leastCost_25 : decode cX5_leastCost 25 = .ok (.istore 4, 2) := by decide +kernel
theorem dX5_leastCost_27 : decode cX5_leastCost 27 = .ok (.iload 4, 2) := by decide +kernel
theorem dX5_leastCost_29 : decode cX5_leastCost 29 = .ok (.bipush 9, 2) := by decide +kernel
theorem dX5_leastCost_31 : decode cX5_leastCost 31 = .ok (.if_icmp .gt 72, 3) := by decide +kernel
theorem dX5_leastCost_34 : decode cX5_leastCost 34 = .ok (.iconst 0, 1) := by decide +kernel
theorem dX5_leastCost_35 : decode cX5_leastCost 35 = .ok (.istore 5, 2) := by decide +kernel
theorem dX5_leastCost_37 : decode cX5_leastCost 37 = .ok (.iload 5, 2) := by decide +kernel
theorem dX5_leastCost_39 : decode cX5_leastCost 39 = .ok (.aload_n 0, 1) := by decide +kernel
theorem dX5_leastCost_40 : decode cX5_leastCost 40 = .ok (.getfield 15, 3) := by decide +kernel
theorem dX5_leastCost_43 : decode cX5_leastCost 43 = .ok (.getfield 95, 3) := by decide +kernel
theorem dX5_leastCost_46 : decode cX5_leastCost 46 = .ok (.if_icmp .ge 51, 3) := by decide +kernel
theorem dX5_leastCost_49 : decode cX5_leastCost 49 = .ok (.aload_n 0, 1) := by decide +kernel
theorem dX5_leastCost_50 : decode cX5_leastCost 50 = .ok (.getfield 15, 3) := by decide +kernel
theorem dX5_leastCost_53 : decode cX5_leastCost 53 = .ok (.getfield 98, 3) := by decide +kernel
theorem dX5_leastCost_56 : decode cX5_leastCost 56 = .ok (.iload 5, 2) := by decide +kernel
theorem dX5_leastCost_58 : decode cX5_leastCost 58 = .ok (.iaload, 1) := by decide +kernel
theorem dX5_leastCost_59 : decode cX5_leastCost 59 = .ok (.iload 4, 2) := by decide +kernel
theorem dX5_leastCost_61 : decode cX5_leastCost 61 = .ok (.if_icmp .ne 30, 3) := by decide +kernel
theorem dX5_leastCost_64 : decode cX5_leastCost 64 = .ok (.iload_n 1, 1) := by decide +kernel
theorem dX5_leastCost_65 : decode cX5_leastCost 65 = .ok (.iconst 1, 1) := by decide +kernel
theorem dX5_leastCost_66 : decode cX5_leastCost 66 = .ok (.iload 5, 2) := by decide +kernel
theorem dX5_leastCost_68 : decode cX5_leastCost 68 = .ok (.ishl, 1) := by decide +kernel
theorem dX5_leastCost_69 : decode cX5_leastCost 69 = .ok (.ior, 1) := by decide +kernel
theorem dX5_leastCost_70 : decode cX5_leastCost 70 = .ok (.istore_n 1, 1) := by decide +kernel
theorem dX5_leastCost_71 : decode cX5_leastCost 71 = .ok (.aload_n 0, 1) := by decide +kernel
theorem dX5_leastCost_72 : decode cX5_leastCost 72 = .ok (.iload_n 1, 1) := by decide +kernel
theorem dX5_leastCost_73 : decode cX5_leastCost 73 = .ok (.invokevirtual 101, 3) := by decide +kernel
theorem dX5_leastCost_76 : decode cX5_leastCost 76 = .ok (.istore 6, 2) := by decide +kernel
theorem dX5_leastCost_78 : decode cX5_leastCost 78 = .ok (.iload_n 3, 1) := by decide +kernel
theorem dX5_leastCost_79 : decode cX5_leastCost 79 = .ok (.iload 4, 2) := by decide +kernel
theorem dX5_leastCost_81 : decode cX5_leastCost 81 = .ok (.iload 6, 2) := by decide +kernel
theorem dX5_leastCost_83 : decode cX5_leastCost 83 = .ok (.iload_n 2, 1) := by decide +kernel
theorem dX5_leastCost_84 : decode cX5_leastCost 84 = .ok (.isub, 1) := by decide +kernel
theorem dX5_leastCost_85 : decode cX5_leastCost 85 = .ok (.imul, 1) := by decide +kernel
theorem dX5_leastCost_86 : decode cX5_leastCost 86 = .ok (.iadd, 1) := by decide +kernel
theorem dX5_leastCost_87 : decode cX5_leastCost 87 = .ok (.istore_n 3, 1) := by decide +kernel
theorem dX5_leastCost_88 : decode cX5_leastCost 88 = .ok (.iload 6, 2) := by decide +kernel
theorem dX5_leastCost_90 : decode cX5_leastCost 90 = .ok (.istore_n 2, 1) := by decide +kernel
theorem dX5_leastCost_91 : decode cX5_leastCost 91 = .ok (.iinc 5 1, 3) := by decide +kernel
theorem dX5_leastCost_94 : decode cX5_leastCost 94 = .ok (.goto (-57), 3) := by decide +kernel
theorem dX5_leastCost_97 : decode cX5_leastCost 97 = .ok (.iinc 4 1, 3) := by decide +kernel
theorem dX5_leastCost_100 : decode cX5_leastCost 100 = .ok (.goto (-73), 3) := by decide +kernel
theorem dX5_leastCost_103 : decode cX5_leastCost 103 = .ok (.iload_n 3, 1) := by decide +kernel
theorem dX5_leastCost_104 : decode cX5_leastCost 104 = .ok (.ireturn, 1) := by decide +kernel
set_option maxRecDepth 20000 in
theorem ggX5_leastSet_X5_fillShared : GoodIn wsX5_leastSet wsX5_fillShared := goodIn_r _ [5, 6, 7, 8, 9, 10, 11, 12, 13, 14, 15, 4, 16, 17, 18, 19, 20, 21, 22, 23, 24, 25, 26, 27, 28, 29, 30, 31, 32, 33, 34, 35, 36, 37, 38, 39, 40, 41, 42, 43, 68, 69, 70, 71, 72, 73, 74, 75, 76, 77, 78, 79, 80, 81, 82, 83] (by decide +kernel) (by decide +kernel)
set_option maxRecDepth 20000 in
theorem gX5_leastSet_X5_fillShared : GoodIn wsX5_leastSet (wsV RX5 86 RX5 yX5_fillShared wsX5_fillShared) := goodIn_app (goodIn_of _ (by decide +kernel)) ggX5_leastSet_X5_fillShared
set_option maxRecDepth 20000 in
theorem ggX5_leastSet_X5_everybody : GoodIn wsX5_leastSet wsX5_everybody := goodIn_r _ [47, 7, 68, 69, 70, 71, 72, 73, 74, 75, 76, 77, 78] (by decide +kernel) (by decide +kernel)
set_option maxRecDepth 20000 in
theorem gX5_leastSet_X5_everybody : GoodIn wsX5_leastSet (wsV RX5 89 RX5 yX5_everybody wsX5_everybody) := goodIn_app (goodIn_of _ (by decide +kernel)) ggX5_leastSet_X5_everybody
set_option maxRecDepth 20000 in
theorem ggX5_leastSet_J6_bitCount_0f7a4 : GoodIn wsX5_leastSet wsJ6_bitCount_0f7a4 := goodIn_r _ [51, 52, 53, 54] (by decide +kernel) (by decide +kernel)
set_option maxRecDepth 20000 in
theorem gX5_leastSet_J6_bitCount_0f7a4 : GoodIn wsX5_leastSet (va_wsS RX5 104 yJ6_bitCount_0f7a4 wsJ6_bitCount_0f7a4) := goodIn_app (goodIn_of _ (by decide +kernel)) ggX5_leastSet_J6_bitCount_0f7a4
set_option maxRecDepth 20000 in
theorem ggX5_leastSet_X5_canDoAll : GoodIn wsX5_leastSet wsX5_canDoAll := goodIn_r _ [58, 6, 59, 60, 61, 4, 62, 8, 9, 10, 11, 12, 63, 64, 65, 20, 66, 67, 31, 32, 33, 48, 49, 50, 51, 52, 53, 54, 68, 69, 70, 79, 80, 81, 82, 83] (by decide +kernel) (by decide +kernel)
set_option maxRecDepth 20000 in
theorem gX5_leastSet_X5_canDoAll : GoodIn wsX5_leastSet (wsV RX5 92 RX5 yX5_canDoAll wsX5_canDoAll) := goodIn_app (goodIn_of _ (by decide +kernel)) ggX5_leastSet_X5_canDoAll
theorem dX5_leastSet_0 : decode cX5_leastSet 0 = .ok (.aload_n 0, 1) := by decide +kernel
theorem dX5_leastSet_1 : decode cX5_leastSet 1 = .ok (.invokevirtual 86, 3) := by decide +kernel
theorem dX5_leastSet_4 : decode cX5_leastSet 4 = .ok (.bipush (-9), 2) := by decide +kernel
theorem dX5_leastSet_6 : decode cX5_leastSet 6 = .ok (.istore_n 1, 1) := by decide +kernel
theorem dX5_leastSet_7 : decode cX5_leastSet 7 = .ok (.iconst 0, 1) := by decide +kernel
theorem dX5_leastSet_8 : decode cX5_leastSet 8 = .ok (.istore_n 2, 1) := by decide +kernel
theorem dX5_leastSet_9 : decode cX5_leastSet 9 = .ok (.iload_n 2, 1) := by decide +kernel
theorem dX5_leastSet_10 : decode cX5_leastSet 10 = .ok (.aload_n 0, 1) := by decide +kernel
theorem dX5_leastSet_11 : decode cX5_leastSet 11 = .ok (.invokevirtual 89, 3) := by decide +kernel
theorem dX5_leastSet_14 : decode cX5_leastSet 14 = .ok (.if_icmp .gt 46, 3) := by decide +kernel
theorem dX5_leastSet_17 : decode cX5_leastSet 17 = .ok (.iload_n 1, 1) := by decide +kernel
theorem dX5_leastSet_18 : decode cX5_leastSet 18 = .ok (.bipush (-9), 2) := by decide +kernel
theorem dX5_leastSet_20 : decode cX5_leastSet 20 = .ok (.if_icmp .eq 14, 3) := by decide +kernel
theorem dX5_leastSet_23 : decode cX5_leastSet 23 = .ok (.iload_n 2, 1) := by decide +kernel
theorem dX5_leastSet_24 : decode cX5_leastSet 24 = .ok (.invokestatic 104, 3) := by decide +kernel
theorem dX5_leastSet_27 : decode cX5_leastSet 27 = .ok (.iload_n 1, 1) := by decide +kernel
theorem dX5_leastSet_28 : decode cX5_leastSet 28 = .ok (.invokestatic 104, 3) := by decide +kernel
theorem dX5_leastSet_31 : decode cX5_leastSet 31 = .ok (.if_icmp .ge 7, 3) := by decide +kernel
theorem dX5_leastSet_34 : decode cX5_leastSet 34 = .ok (.iconst 1, 1) := by decide +kernel
theorem dX5_leastSet_35 : decode cX5_leastSet 35 = .ok (.goto 4, 3) := by decide +kernel
theorem dX5_leastSet_38 : decode cX5_leastSet 38 = .ok (.iconst 0, 1) := by decide +kernel
theorem dX5_leastSet_39 : decode cX5_leastSet 39 = .ok (.istore_n 3, 1) := by decide +kernel
theorem dX5_leastSet_40 : decode cX5_leastSet 40 = .ok (.iload_n 3, 1) := by decide +kernel
theorem dX5_leastSet_41 : decode cX5_leastSet 41 = .ok (.ifCond .eq 13, 3) := by decide +kernel
theorem dX5_leastSet_44 : decode cX5_leastSet 44 = .ok (.aload_n 0, 1) := by decide +kernel
theorem dX5_leastSet_45 : decode cX5_leastSet 45 = .ok (.iload_n 2, 1) := by decide +kernel
theorem dX5_leastSet_46 : decode cX5_leastSet 46 = .ok (.invokevirtual 92, 3) := by decide +kernel
theorem dX5_leastSet_49 : decode cX5_leastSet 49 = .ok (.ifCond .eq 5, 3) := by decide +kernel
theorem dX5_leastSet_52 : decode cX5_leastSet 52 = .ok (.iload_n 2, 1) := by decide +kernel
theorem dX5_leastSet_53 : decode cX5_leastSet 53 = .ok (.istore_n 1, 1) := by decide +kernel
theorem dX5_leastSet_54 : decode cX5_leastSet 54 = .ok (.iinc 2 1, 3) := by decide +kernel
theorem dX5_leastSet_57 : decode cX5_leastSet 57 = .ok (.goto (-48), 3) := by decide +kernel
theorem dX5_leastSet_60 : decode cX5_leastSet 60 = .ok (.iload_n 1, 1) := by decide +kernel
theorem dX5_leastSet_61 : decode cX5_leastSet 61 = .ok (.ireturn, 1) := by decide +kernel
set_option maxRecDepth 20000 in
theorem ggX5_lostThings_X1_peopleWithLeft : GoodIn wsX5_lostThings wsX1_peopleWithLeft := goodIn_r _ [7, 8, 51, 52, 53, 54, 55] (by decide +kernel) (by decide +kernel)
set_option maxRecDepth 20000 in
theorem gX5_lostThings_X1_peopleWithLeft : GoodIn wsX5_lostThings (wsV RX5 109 RX1 yX1_peopleWithLeft wsX1_peopleWithLeft) := goodIn_app (goodIn_of _ (by decide +kernel)) ggX5_lostThings_X1_peopleWithLeft
set_option maxRecDepth 20000 in
theorem ggX5_lostThings_J6_bitCount_0f7a4 : GoodIn wsX5_lostThings wsJ6_bitCount_0f7a4 := goodIn_r _ [12, 13, 14, 15] (by decide +kernel) (by decide +kernel)
set_option maxRecDepth 20000 in
theorem gX5_lostThings_J6_bitCount_0f7a4 : GoodIn wsX5_lostThings (va_wsS RX5 104 yJ6_bitCount_0f7a4 wsJ6_bitCount_0f7a4) := goodIn_app (goodIn_of _ (by decide +kernel)) ggX5_lostThings_J6_bitCount_0f7a4
set_option maxRecDepth 20000 in
theorem ggX5_lostThings_X1_jobOf : GoodIn wsX5_lostThings wsX1_jobOf := goodIn_r _ [19, 20, 51, 52, 53, 54, 55] (by decide +kernel) (by decide +kernel)
set_option maxRecDepth 20000 in
theorem gX5_lostThings_X1_jobOf : GoodIn wsX5_lostThings (wsV RX5 37 RX1 yX1_jobOf wsX1_jobOf) := goodIn_app (goodIn_of _ (by decide +kernel)) ggX5_lostThings_X1_jobOf
set_option maxRecDepth 20000 in
theorem ggX5_lostThings_X5_isDue : GoodIn wsX5_lostThings wsX5_isDue := goodIn_r _ [25, 2, 1, 26, 27, 28, 40, 41, 42, 43, 44, 45, 46, 47, 48, 49, 50, 51, 52, 53, 54, 55] (by decide +kernel) (by decide +kernel)
set_option maxRecDepth 20000 in
theorem gX5_lostThings_X5_isDue : GoodIn wsX5_lostThings (wsV RX5 56 RX5 yX5_isDue wsX5_isDue) := goodIn_app (goodIn_of _ (by decide +kernel)) ggX5_lostThings_X5_isDue
set_option maxRecDepth 20000 in
theorem ggX5_lostThings_X0_handsOf : GoodIn wsX5_lostThings wsX0_handsOf := goodIn_r _ [33, 34, 35, 36, 37, 38, 39, 26, 27, 28, 43, 44, 45, 46, 47, 48, 49, 50] (by decide +kernel) (by decide +kernel)
set_option maxRecDepth 20000 in
theorem gX5_lostThings_X0_handsOf : GoodIn wsX5_lostThings (wsV RX5 75 RX0 yX0_handsOf wsX0_handsOf) := goodIn_app (goodIn_of _ (by decide +kernel)) ggX5_lostThings_X0_handsOf
theorem dX5_lostThings_0 : decode cX5_lostThings 0 = .ok (.aload_n 0, 1) := by decide +kernel
theorem dX5_lostThings_1 : decode cX5_lostThings 1 = .ok (.getfield 19, 3) := by decide +kernel
theorem dX5_lostThings_4 : decode cX5_lostThings 4 = .ok (.invokevirtual 109, 3) := by decide +kernel
theorem dX5_lostThings_7 : decode cX5_lostThings 7 = .ok (.invokestatic 104, 3) := by decide +kernel
theorem dX5_lostThings_10 : decode cX5_lostThings 10 = .ok (.istore_n 1, 1) := by decide +kernel
theorem dX5_lostThings_11 : decode cX5_lostThings 11 = .ok (.iconst 0, 1) := by decide +kernel
theorem dX5_lostThings_12 : decode cX5_lostThings 12 = .ok (.istore_n 2, 1) := by decide +kernel
theorem dX5_lostThings_13 : decode cX5_lostThings 13 = .ok (.iconst 0, 1) := by decide +kernel
theorem dX5_lostThings_14 : decode cX5_lostThings 14 = .ok (.istore_n 3, 1) := by decide +kernel
theorem dX5_lostThings_15 : decode cX5_lostThings 15 = .ok (.iload_n 3, 1) := by decide +kernel
theorem dX5_lostThings_16 : decode cX5_lostThings 16 = .ok (.aload_n 0, 1) := by decide +kernel
theorem dX5_lostThings_17 : decode cX5_lostThings 17 = .ok (.getfield 15, 3) := by decide +kernel
theorem dX5_lostThings_20 : decode cX5_lostThings 20 = .ok (.getfield 23, 3) := by decide +kernel
theorem dX5_lostThings_23 : decode cX5_lostThings 23 = .ok (.if_icmp .ge 46, 3) := by decide +kernel
theorem dX5_lostThings_26 : decode cX5_lostThings 26 = .ok (.aload_n 0, 1) := by decide +kernel
theorem dX5_lostThings_27 : decode cX5_lostThings 27 = .ok (.getfield 19, 3) := by decide +kernel
theorem dX5_lostThings_30 : decode cX5_lostThings 30 = .ok (.iload_n 3, 1) := by decide +kernel
theorem dX5_lostThings_31 : decode cX5_lostThings 31 = .ok (.invokevirtual 37, 3) := by decide +kernel
theorem dX5_lostThings_34 : decode cX5_lostThings 34 = .ok (.istore 4, 2) := by decide +kernel
theorem dX5_lostThings_36 : decode cX5_lostThings 36 = .ok (.aload_n 0, 1) := by decide +kernel
theorem dX5_lostThings_37 : decode cX5_lostThings 37 = .ok (.iload 4, 2) := by decide +kernel
theorem dX5_lostThings_39 : decode cX5_lostThings 39 = .ok (.invokevirtual 56, 3) := by decide +kernel
theorem dX5_lostThings_42 : decode cX5_lostThings 42 = .ok (.ifCond .eq 21, 3) := by decide +kernel
theorem dX5_lostThings_45 : decode cX5_lostThings 45 = .ok (.aload_n 0, 1) := by decide +kernel
theorem dX5_lostThings_46 : decode cX5_lostThings 46 = .ok (.getfield 15, 3) := by decide +kernel
theorem dX5_lostThings_49 : decode cX5_lostThings 49 = .ok (.iload 4, 2) := by decide +kernel
theorem dX5_lostThings_51 : decode cX5_lostThings 51 = .ok (.invokevirtual 75, 3) := by decide +kernel
theorem dX5_lostThings_54 : decode cX5_lostThings 54 = .ok (.iload_n 1, 1) := by decide +kernel
theorem dX5_lostThings_55 : decode cX5_lostThings 55 = .ok (.if_icmp .le 8, 3) := by decide +kernel
theorem dX5_lostThings_58 : decode cX5_lostThings 58 = .ok (.iload_n 2, 1) := by decide +kernel
theorem dX5_lostThings_59 : decode cX5_lostThings 59 = .ok (.iload 4, 2) := by decide +kernel
theorem dX5_lostThings_61 : decode cX5_lostThings 61 = .ok (.ior, 1) := by decide +kernel
theorem dX5_lostThings_62 : decode cX5_lostThings 62 = .ok (.istore_n 2, 1) := by decide +kernel
theorem dX5_lostThings_63 : decode cX5_lostThings 63 = .ok (.iinc 3 1, 3) := by decide +kernel
theorem dX5_lostThings_66 : decode cX5_lostThings 66 = .ok (.goto (-51), 3) := by decide +kernel
theorem dX5_lostThings_69 : decode cX5_lostThings 69 = .ok (.iload_n 2, 1) := by decide +kernel
theorem dX5_lostThings_70 : decode cX5_lostThings 70 = .ok (.ireturn, 1) := by decide +kernel
theorem dX5_everybody_0 : decode cX5_everybody 0 = .ok (.iconst 1, 1) := by decide +kernel
theorem dX5_everybody_1 : decode cX5_everybody 1 = .ok (.aload_n 0, 1) := by decide +kernel
theorem dX5_everybody_2 : decode cX5_everybody 2 = .ok (.getfield 15, 3) := by decide +kernel
theorem dX5_everybody_5 : decode cX5_everybody 5 = .ok (.getfield 95, 3) := by decide +kernel
theorem dX5_everybody_8 : decode cX5_everybody 8 = .ok (.ishl, 1) := by decide +kernel
theorem dX5_everybody_9 : decode cX5_everybody 9 = .ok (.iconst 1, 1) := by decide +kernel
theorem dX5_everybody_10 : decode cX5_everybody 10 = .ok (.isub, 1) := by decide +kernel
theorem dX5_everybody_11 : decode cX5_everybody 11 = .ok (.ireturn, 1) := by decide +kernel
set_option maxRecDepth 20000 in
theorem ggX5_fillShared_X5_leadsDueJob : GoodIn wsX5_fillShared wsX5_leadsDueJob := goodIn_r _ [12, 3, 13, 14, 15, 16, 17, 18, 19, 20, 21, 22, 23, 24, 25, 11, 26, 2, 27, 28, 29, 40, 41, 42, 51, 52, 53, 54, 55, 43, 44, 45, 46, 47, 48, 49, 50] (by decide +kernel) (by decide +kernel)
set_option maxRecDepth 20000 in
theorem gX5_fillShared_X5_leadsDueJob : GoodIn wsX5_fillShared (wsV RX5 29 RX5 yX5_leadsDueJob wsX5_leadsDueJob) := goodIn_app (goodIn_of _ (by decide +kernel)) ggX5_fillShared_X5_leadsDueJob
set_option maxRecDepth 20000 in
theorem ggX5_fillShared_X1_jobOf : GoodIn wsX5_fillShared wsX1_jobOf := goodIn_r _ [22, 18, 51, 52, 53, 54, 55] (by decide +kernel) (by decide +kernel)
set_option maxRecDepth 20000 in
theorem gX5_fillShared_X1_jobOf : GoodIn wsX5_fillShared (wsV RX5 37 RX1 yX1_jobOf wsX1_jobOf) := goodIn_app (goodIn_of _ (by decide +kernel)) ggX5_fillShared_X1_jobOf
set_option maxRecDepth 20000 in
theorem ggX5_fillShared_X0_handsOf : GoodIn wsX5_fillShared wsX0_handsOf := goodIn_r _ [34, 35, 36, 37, 38, 6, 39, 27, 28, 29, 43, 44, 45, 46, 47, 48, 49, 50] (by decide +kernel) (by decide +kernel)
set_option maxRecDepth 20000 in
theorem gX5_fillShared_X0_handsOf : GoodIn wsX5_fillShared (wsV RX5 75 RX0 yX0_handsOf wsX0_handsOf) := goodIn_app (goodIn_of _ (by decide +kernel)) ggX5_fillShared_X0_handsOf
theorem dX5_fillShared_0 : decode cX5_fillShared 0 = .ok (.iconst 0, 1) := by decide +kernel
theorem dX5_fillShared_1 : decode cX5_fillShared 1 = .ok (.istore_n 1, 1) := by decide +kernel
theorem dX5_fillShared_2 : decode cX5_fillShared 2 = .ok (.iload_n 1, 1) := by decide +kernel
theorem dX5_fillShared_3 : decode cX5_fillShared 3 = .ok (.iconst 4, 1) := by decide +kernel
theorem dX5_fillShared_4 : decode cX5_fillShared 4 = .ok (.if_icmp .gt 16, 3) := by decide +kernel
theorem dX5_fillShared_7 : decode cX5_fillShared 7 = .ok (.aload_n 0, 1) := by decide +kernel
theorem dX5_fillShared_8 : decode cX5_fillShared 8 = .ok (.getfield 9, 3) := by decide +kernel
theorem dX5_fillShared_11 : decode cX5_fillShared 11 = .ok (.iload_n 1, 1) := by decide +kernel
theorem dX5_fillShared_12 : decode cX5_fillShared 12 = .ok (.iconst 0, 1) := by decide +kernel
theorem dX5_fillShared_13 : decode cX5_fillShared 13 = .ok (.iastore, 1) := by decide +kernel
theorem dX5_fillShared_14 : decode cX5_fillShared 14 = .ok (.iinc 1 1, 3) := by decide +kernel
theorem dX5_fillShared_17 : decode cX5_fillShared 17 = .ok (.goto (-15), 3) := by decide +kernel
theorem dX5_fillShared_20 : decode cX5_fillShared 20 = .ok (.iconst 0, 1) := by decide +kernel
theorem dX5_fillShared_21 : decode cX5_fillShared 21 = .ok (.istore_n 1, 1) := by decide +kernel
theorem dX5_fillShared_22 : decode cX5_fillShared 22 = .ok (.iload_n 1, 1) := by decide +kernel
theorem dX5_fillShared_23 : decode cX5_fillShared 23 = .ok (.aload_n 0, 1) := by decide +kernel
theorem dX5_fillShared_24 : decode cX5_fillShared 24 = .ok (.getfield 15, 3) := by decide +kernel
theorem dX5_fillShared_27 : decode cX5_fillShared 27 = .ok (.getfield 23, 3) := by decide +kernel
theorem dX5_fillShared_30 : decode cX5_fillShared 30 = .ok (.if_icmp .ge 60, 3) := by decide +kernel
theorem dX5_fillShared_33 : decode cX5_fillShared 33 = .ok (.aload_n 0, 1) := by decide +kernel
theorem dX5_fillShared_34 : decode cX5_fillShared 34 = .ok (.iload_n 1, 1) := by decide +kernel
theorem dX5_fillShared_35 : decode cX5_fillShared 35 = .ok (.invokevirtual 29, 3) := by decide +kernel
theorem dX5_fillShared_38 : decode cX5_fillShared 38 = .ok (.ifCond .eq 46, 3) := by decide +kernel
theorem dX5_fillShared_41 : decode cX5_fillShared 41 = .ok (.aload_n 0, 1) := by decide +kernel
theorem dX5_fillShared_42 : decode cX5_fillShared 42 = .ok (.getfield 15, 3) := by decide +kernel
theorem dX5_fillShared_45 : decode cX5_fillShared 45 = .ok (.aload_n 0, 1) := by decide +kernel
theorem dX5_fillShared_46 : decode cX5_fillShared 46 = .ok (.getfield 19, 3) := by decide +kernel
theorem dX5_fillShared_49 : decode cX5_fillShared 49 = .ok (.iload_n 1, 1) := by decide +kernel
theorem dX5_fillShared_50 : decode cX5_fillShared 50 = .ok (.invokevirtual 37, 3) := by decide +kernel
theorem dX5_fillShared_53 : decode cX5_fillShared 53 = .ok (.invokevirtual 75, 3) := by decide +kernel
theorem dX5_fillShared_56 : decode cX5_fillShared 56 = .ok (.istore_n 2, 1) := by decide +kernel
theorem dX5_fillShared_57 : decode cX5_fillShared 57 = .ok (.iconst 0, 1) := by decide +kernel
theorem dX5_fillShared_58 : decode cX5_fillShared 58 = .ok (.istore_n 3, 1) := by decide +kernel
theorem dX5_fillShared_59 : decode cX5_fillShared 59 = .ok (.iload_n 3, 1) := by decide +kernel
theorem dX5_fillShared_60 : decode cX5_fillShared 60 = .ok (.iconst 4, 1) := by decide +kernel
theorem dX5_fillShared_61 : decode cX5_fillShared 61 = .ok (.if_icmp .gt 23, 3) := by decide +kernel
theorem dX5_fillShared_64 : decode cX5_fillShared 64 = .ok (.aload_n 0, 1) := by decide +kernel
theorem dX5_fillShared_65 : decode cX5_fillShared 65 = .ok (.getfield 9, 3) := by decide +kernel
theorem dX5_fillShared_68 : decode cX5_fillShared 68 = .ok (.iload_n 3, 1) := by decide +kernel
theorem dX5_fillShared_69 : decode cX5_fillShared 69 = .ok (.dup2, 1) := by decide +kernel
theorem dX5_fillShared_70 : decode cX5_fillShared 70 = .ok (.iaload, 1) := by decide +kernel
theorem dX5_fillShared_71 : decode cX5_fillShared 71 = .ok (.iload_n 2, 1) := by decide +kernel
theorem dX5_fillShared_72 : decode cX5_fillShared 72 = .ok (.iload_n 3, 1) := by decide +kernel
theorem dX5_fillShared_73 : decode cX5_fillShared 73 = .ok (.invokestatic 78, 3) := by decide +kernel
theorem dX5_fillShared_76 : decode cX5_fillShared 76 = .ok (.iadd, 1) := by decide +kernel
theorem dX5_fillShared_77 : decode cX5_fillShared 77 = .ok (.iastore, 1) := by decide +kernel
theorem dX5_fillShared_78 : decode cX5_fillShared 78 = .ok (.iinc 3 1, 3) := by decide +kernel
theorem dX5_fillShared_81 : decode cX5_fillShared 81 = .ok (.goto (-22), 3) := by decide +kernel
theorem dX5_fillShared_84 : decode cX5_fillShared 84 = .ok (.iinc 1 1, 3) := by decide +kernel
theorem dX5_fillShared_87 : decode cX5_fillShared 87 = .ok (.goto (-65), 3) := by decide +kernel
theorem dX5_fillShared_90 : decode cX5_fillShared 90 = .ok (.return_, 1) := by decide +kernel
set_option maxRecDepth 20000 in
theorem ggX5_canDoAll_X5_mostLiftings : GoodIn wsX5_canDoAll wsX5_mostLiftings := goodIn_r _ [6, 7, 1, 8, 9, 10, 11, 12, 13, 14, 15, 16, 17, 18, 19, 20, 21, 22, 23, 24, 25, 26, 27, 28, 29, 30, 31, 32, 33, 34, 35] (by decide +kernel) (by decide +kernel)
set_option maxRecDepth 20000 in
theorem gX5_canDoAll_X5_mostLiftings : GoodIn wsX5_canDoAll (wsV RX5 101 RX5 yX5_mostLiftings wsX5_mostLiftings) := goodIn_app (goodIn_of _ (by decide +kernel)) ggX5_canDoAll_X5_mostLiftings
theorem dX5_canDoAll_0 : decode cX5_canDoAll 0 = .ok (.aload_n 0, 1) := by decide +kernel
theorem dX5_canDoAll_1 : decode cX5_canDoAll 1 = .ok (.iload_n 1, 1) := by decide +kernel
theorem dX5_canDoAll_2 : decode cX5_canDoAll 2 = .ok (.invokevirtual 101, 3) := by decide +kernel
theorem dX5_canDoAll_5 : decode cX5_canDoAll 5 = .ok (.aload_n 0, 1) := by decide +kernel
theorem dX5_canDoAll_6 : decode cX5_canDoAll 6 = .ok (.getfield 9, 3) := by decide +kernel
theorem dX5_canDoAll_9 : decode cX5_canDoAll 9 = .ok (.iconst 4, 1) := by decide +kernel
theorem dX5_canDoAll_10 : decode cX5_canDoAll 10 = .ok (.iaload, 1) := by decide +kernel
theorem dX5_canDoAll_11 : decode cX5_canDoAll 11 = .ok (.if_icmp .ne 7, 3) := by decide +kernel
theorem dX5_canDoAll_14 : decode cX5_canDoAll 14 = .ok (.iconst 1, 1) := by decide +kernel
theorem dX5_canDoAll_15 : decode cX5_canDoAll 15 = .ok (.goto 4, 3) := by decide +kernel
theorem dX5_canDoAll_18 : decode cX5_canDoAll 18 = .ok (.iconst 0, 1) := by decide +kernel
theorem dX5_canDoAll_19 : decode cX5_canDoAll 19 = .ok (.ireturn, 1) := by decide +kernel
set_option maxRecDepth 20000 in
theorem ggX5_mostLiftings_X1_leftTogether : GoodIn wsX5_mostLiftings wsX1_leftTogether := goodIn_r _ [11, 12, 13, 14, 15, 26, 27, 28, 29, 30] (by decide +kernel) (by decide +kernel)
set_option maxRecDepth 20000 in
theorem gX5_mostLiftings_X1_leftTogether : GoodIn wsX5_mostLiftings (wsV RX5 112 RX1 yX1_leftTogether wsX1_leftTogether) := goodIn_app (goodIn_of _ (by decide +kernel)) ggX5_mostLiftings_X1_leftTogether
set_option maxRecDepth 20000 in
theorem ggX5_mostLiftings_J6_bitCount_0f7a4 : GoodIn wsX5_mostLiftings wsJ6_bitCount_0f7a4 := goodIn_r _ [19, 20, 21, 22] (by decide +kernel) (by decide +kernel)
set_option maxRecDepth 20000 in
theorem gX5_mostLiftings_J6_bitCount_0f7a4 : GoodIn wsX5_mostLiftings (va_wsS RX5 104 yJ6_bitCount_0f7a4 wsJ6_bitCount_0f7a4) := goodIn_app (goodIn_of _ (by decide +kernel)) ggX5_mostLiftings_J6_bitCount_0f7a4
theorem dX5_mostLiftings_0 : decode cX5_mostLiftings 0 = .ok (.aload_n 0, 1) := by decide +kernel
theorem dX5_mostLiftings_1 : decode cX5_mostLiftings 1 = .ok (.getfield 19, 3) := by decide +kernel
theorem dX5_mostLiftings_4 : decode cX5_mostLiftings 4 = .ok (.iload_n 1, 1) := by decide +kernel
theorem dX5_mostLiftings_5 : decode cX5_mostLiftings 5 = .ok (.invokevirtual 112, 3) := by decide +kernel
theorem dX5_mostLiftings_8 : decode cX5_mostLiftings 8 = .ok (.istore_n 2, 1) := by decide +kernel
theorem dX5_mostLiftings_9 : decode cX5_mostLiftings 9 = .ok (.iconst 1, 1) := by decide +kernel
theorem dX5_mostLiftings_10 : decode cX5_mostLiftings 10 = .ok (.istore_n 3, 1) := by decide +kernel
theorem dX5_mostLiftings_11 : decode cX5_mostLiftings 11 = .ok (.iload_n 3, 1) := by decide +kernel
theorem dX5_mostLiftings_12 : decode cX5_mostLiftings 12 = .ok (.bipush 16, 2) := by decide +kernel
theorem dX5_mostLiftings_14 : decode cX5_mostLiftings 14 = .ok (.if_icmp .ge 47, 3) := by decide +kernel
theorem dX5_mostLiftings_17 : decode cX5_mostLiftings 17 = .ok (.iload_n 3, 1) := by decide +kernel
theorem dX5_mostLiftings_18 : decode cX5_mostLiftings 18 = .ok (.iload_n 1, 1) := by decide +kernel
theorem dX5_mostLiftings_19 : decode cX5_mostLiftings 19 = .ok (.iand, 1) := by decide +kernel
theorem dX5_mostLiftings_20 : decode cX5_mostLiftings 20 = .ok (.iload_n 3, 1) := by decide +kernel
theorem dX5_mostLiftings_21 : decode cX5_mostLiftings 21 = .ok (.if_icmp .ne 34, 3) := by decide +kernel
theorem dX5_mostLiftings_24 : decode cX5_mostLiftings 24 = .ok (.aload_n 0, 1) := by decide +kernel
theorem dX5_mostLiftings_25 : decode cX5_mostLiftings 25 = .ok (.getfield 9, 3) := by decide +kernel
theorem dX5_mostLiftings_28 : decode cX5_mostLiftings 28 = .ok (.iload_n 3, 1) := by decide +kernel
theorem dX5_mostLiftings_29 : decode cX5_mostLiftings 29 = .ok (.invokestatic 104, 3) := by decide +kernel
theorem dX5_mostLiftings_32 : decode cX5_mostLiftings 32 = .ok (.iaload, 1) := by decide +kernel
theorem dX5_mostLiftings_33 : decode cX5_mostLiftings 33 = .ok (.aload_n 0, 1) := by decide +kernel
theorem dX5_mostLiftings_34 : decode cX5_mostLiftings 34 = .ok (.getfield 19, 3) := by decide +kernel
theorem dX5_mostLiftings_37 : decode cX5_mostLiftings 37 = .ok (.iload_n 1, 1) := by decide +kernel
theorem dX5_mostLiftings_38 : decode cX5_mostLiftings 38 = .ok (.iload_n 3, 1) := by decide +kernel
theorem dX5_mostLiftings_39 : decode cX5_mostLiftings 39 = .ok (.iconst (-1), 1) := by decide +kernel
theorem dX5_mostLiftings_40 : decode cX5_mostLiftings 40 = .ok (.ixor, 1) := by decide +kernel
theorem dX5_mostLiftings_41 : decode cX5_mostLiftings 41 = .ok (.iand, 1) := by decide +kernel
theorem dX5_mostLiftings_42 : decode cX5_mostLiftings 42 = .ok (.invokevirtual 112, 3) := by decide +kernel
theorem dX5_mostLiftings_45 : decode cX5_mostLiftings 45 = .ok (.iadd, 1) := by decide +kernel
theorem dX5_mostLiftings_46 : decode cX5_mostLiftings 46 = .ok (.istore 4, 2) := by decide +kernel
theorem dX5_mostLiftings_48 : decode cX5_mostLiftings 48 = .ok (.iload_n 2, 1) := by decide +kernel
theorem dX5_mostLiftings_49 : decode cX5_mostLiftings 49 = .ok (.iload 4, 2) := by decide +kernel
theorem dX5_mostLiftings_51 : decode cX5_mostLiftings 51 = .ok (.invokestatic 78, 3) := by decide +kernel
theorem dX5_mostLiftings_54 : decode cX5_mostLiftings 54 = .ok (.istore_n 2, 1) := by decide +kernel
theorem dX5_mostLiftings_55 : decode cX5_mostLiftings 55 = .ok (.iinc 3 1, 3) := by decide +kernel
theorem dX5_mostLiftings_58 : decode cX5_mostLiftings 58 = .ok (.goto (-47), 3) := by decide +kernel
theorem dX5_mostLiftings_61 : decode cX5_mostLiftings 61 = .ok (.iload_n 2, 1) := by decide +kernel
theorem dX5_mostLiftings_62 : decode cX5_mostLiftings 62 = .ok (.ireturn, 1) := by decide +kernel
