set_option maxRecDepth 20000 in
theorem ggX6_init_X3_init : GoodIn wsX6_init wsX3_init := goodIn_r _ [33, 34, 2, 3, 35, 36, 37, 38, 39, 40, 41, 80, 81, 82, 83, 84, 85] (by decide +kernel) (by decide +kernel)
set_option maxRecDepth 20000 in
theorem gX6_init_X3_init_n11 : GoodIn wsX6_init (wsX3_init) := ggX6_init_X3_init
set_option maxRecDepth 20000 in
theorem ggX6_init_X0_init : GoodIn wsX6_init wsX0_init := goodIn_r _ [43, 44, 2, 3, 45, 46, 47, 48, 49, 50, 51, 52, 53, 96, 97, 98, 99, 100, 101, 102, 103] (by decide +kernel) (by decide +kernel)
set_option maxRecDepth 20000 in
theorem gX6_init_X0_init_n18 : GoodIn wsX6_init (wsX0_init) := ggX6_init_X0_init
set_option maxRecDepth 20000 in
theorem ggX6_init_X2_init : GoodIn wsX6_init wsX2_init := goodIn_r _ [56, 57, 2, 3, 58, 59, 104, 105] (by decide +kernel) (by decide +kernel)
set_option maxRecDepth 20000 in
theorem gX6_init_X2_init : GoodIn wsX6_init (wsX2_init) := ggX6_init_X2_init
set_option maxRecDepth 20000 in
theorem ggX6_init_X1_init : GoodIn wsX6_init wsX1_init := goodIn_r _ [62, 63, 2, 3, 48, 64, 65, 66, 67, 68, 106, 107, 108, 109, 110] (by decide +kernel) (by decide +kernel)
set_option maxRecDepth 20000 in
theorem gX6_init_X1_init : GoodIn wsX6_init (wsX1_init) := ggX6_init_X1_init
set_option maxRecDepth 20000 in
theorem ggX6_init_X5_init : GoodIn wsX6_init wsX5_init := goodIn_r _ [71, 72, 2, 3, 48, 73, 74, 75, 111, 112, 113] (by decide +kernel) (by decide +kernel)
set_option maxRecDepth 20000 in
theorem gX6_init_X5_init : GoodIn wsX6_init (wsX5_init) := ggX6_init_X5_init
set_option maxRecDepth 20000 in
theorem ggX6_init_X4_init : GoodIn wsX6_init wsX4_init := goodIn_r _ [77, 78, 2, 3, 48, 79, 114] (by decide +kernel) (by decide +kernel)
set_option maxRecDepth 20000 in
theorem gX6_init_X4_init_n59 : GoodIn wsX6_init (wsX4_init) := ggX6_init_X4_init
theorem dX6_init_0 : decode cX6_init 0 = .ok (.aload_n 0, 1) := by decide +kernel
theorem dX6_init_1 : decode cX6_init 1 = .ok (.invokespecial 3, 3) := by decide +kernel
theorem dX6_init_4 : decode cX6_init 4 = .ok (.aload_n 0, 1) := by decide +kernel
theorem dX6_init_5 : decode cX6_init 5 = .ok (.new 9, 3) := by decide +kernel
theorem dX6_init_8 : decode cX6_init 8 = .ok (.dup, 1) := by decide +kernel
theorem dX6_init_9 : decode cX6_init 9 = .ok (.invokespecial 11, 3) := by decide +kernel
theorem dX6_init_12 : decode cX6_init 12 = .ok (.putfield 12, 3) := by decide +kernel
theorem dX6_init_15 : decode cX6_init 15 = .ok (.aload_n 0, 1) := by decide +kernel
theorem dX6_init_16 : decode cX6_init 16 = .ok (.new 16, 3) := by decide +kernel
theorem dX6_init_19 : decode cX6_init 19 = .ok (.dup, 1) := by decide +kernel
theorem dX6_init_20 : decode cX6_init 20 = .ok (.invokespecial 18, 3) := by decide +kernel
theorem dX6_init_23 : decode cX6_init 23 = .ok (.putfield 19, 3) := by decide +kernel
theorem dX6_init_26 : decode cX6_init 26 = .ok (.aload_n 0, 1) := by decide +kernel
theorem dX6_init_27 : decode cX6_init 27 = .ok (.new 16, 3) := by decide +kernel
theorem dX6_init_30 : decode cX6_init 30 = .ok (.dup, 1) := by decide +kernel
theorem dX6_init_31 : decode cX6_init 31 = .ok (.invokespecial 18, 3) := by decide +kernel
theorem dX6_init_34 : decode cX6_init 34 = .ok (.putfield 23, 3) := by decide +kernel
theorem dX6_init_37 : decode cX6_init 37 = .ok (.aload_n 0, 1) := by decide +kernel
theorem dX6_init_38 : decode cX6_init 38 = .ok (.new 26, 3) := by decide +kernel
theorem dX6_init_41 : decode cX6_init 41 = .ok (.dup, 1) := by decide +kernel
theorem dX6_init_42 : decode cX6_init 42 = .ok (.aload_n 0, 1) := by decide +kernel
theorem dX6_init_43 : decode cX6_init 43 = .ok (.getfield 12, 3) := by decide +kernel
theorem dX6_init_46 : decode cX6_init 46 = .ok (.aload_n 0, 1) := by decide +kernel
theorem dX6_init_47 : decode cX6_init 47 = .ok (.getfield 23, 3) := by decide +kernel
theorem dX6_init_50 : decode cX6_init 50 = .ok (.invokespecial 28, 3) := by decide +kernel
theorem dX6_init_53 : decode cX6_init 53 = .ok (.putfield 31, 3) := by decide +kernel
theorem dX6_init_56 : decode cX6_init 56 = .ok (.aload_n 0, 1) := by decide +kernel
theorem dX6_init_57 : decode cX6_init 57 = .ok (.new 35, 3) := by decide +kernel
theorem dX6_init_60 : decode cX6_init 60 = .ok (.dup, 1) := by decide +kernel
theorem dX6_init_61 : decode cX6_init 61 = .ok (.invokespecial 37, 3) := by decide +kernel
theorem dX6_init_64 : decode cX6_init 64 = .ok (.putfield 38, 3) := by decide +kernel
theorem dX6_init_67 : decode cX6_init 67 = .ok (.aload_n 0, 1) := by decide +kernel
theorem dX6_init_68 : decode cX6_init 68 = .ok (.new 35, 3) := by decide +kernel
theorem dX6_init_71 : decode cX6_init 71 = .ok (.dup, 1) := by decide +kernel
theorem dX6_init_72 : decode cX6_init 72 = .ok (.invokespecial 37, 3) := by decide +kernel
theorem dX6_init_75 : decode cX6_init 75 = .ok (.putfield 42, 3) := by decide +kernel
theorem dX6_init_78 : decode cX6_init 78 = .ok (.aload_n 0, 1) := by decide +kernel
theorem dX6_init_79 : decode cX6_init 79 = .ok (.new 35, 3) := by decide +kernel
theorem dX6_init_82 : decode cX6_init 82 = .ok (.dup, 1) := by decide +kernel
theorem dX6_init_83 : decode cX6_init 83 = .ok (.invokespecial 37, 3) := by decide +kernel
theorem dX6_init_86 : decode cX6_init 86 = .ok (.putfield 45, 3) := by decide +kernel
theorem dX6_init_89 : decode cX6_init 89 = .ok (.aload_n 0, 1) := by decide +kernel
theorem dX6_init_90 : decode cX6_init 90 = .ok (.new 48, 3) := by decide +kernel
theorem dX6_init_93 : decode cX6_init 93 = .ok (.dup, 1) := by decide +kernel
theorem dX6_init_94 : decode cX6_init 94 = .ok (.aload_n 0, 1) := by decide +kernel
theorem dX6_init_95 : decode cX6_init 95 = .ok (.getfield 19, 3) := by decide +kernel
theorem dX6_init_98 : decode cX6_init 98 = .ok (.aload_n 0, 1) := by decide +kernel
theorem dX6_init_99 : decode cX6_init 99 = .ok (.getfield 38, 3) := by decide +kernel
theorem dX6_init_102 : decode cX6_init 102 = .ok (.invokespecial 50, 3) := by decide +kernel
theorem dX6_init_105 : decode cX6_init 105 = .ok (.putfield 53, 3) := by decide +kernel
theorem dX6_init_108 : decode cX6_init 108 = .ok (.aload_n 0, 1) := by decide +kernel
theorem dX6_init_109 : decode cX6_init 109 = .ok (.new 57, 3) := by decide +kernel
theorem dX6_init_112 : decode cX6_init 112 = .ok (.dup, 1) := by decide +kernel
theorem dX6_init_113 : decode cX6_init 113 = .ok (.invokespecial 59, 3) := by decide +kernel
theorem dX6_init_116 : decode cX6_init 116 = .ok (.putfield 60, 3) := by decide +kernel
theorem dX6_init_119 : decode cX6_init 119 = .ok (.aload_n 0, 1) := by decide +kernel
theorem dX6_init_120 : decode cX6_init 120 = .ok (.lconst 0, 1) := by decide +kernel
theorem dX6_init_121 : decode cX6_init 121 = .ok (.putfield 64, 3) := by decide +kernel
theorem dX6_init_124 : decode cX6_init 124 = .ok (.return_, 1) := by decide +kernel
set_option maxRecDepth 20000 in
theorem ggX6_type_X3_add : GoodIn wsX6_type wsX3_add := goodIn_r _ [6, 7, 8, 19, 20, 21, 22, 23, 24] (by decide +kernel) (by decide +kernel)
set_option maxRecDepth 20000 in
theorem gX6_type_X3_add : GoodIn wsX6_type (wsV RX6 72 RX3 yX3_add wsX3_add) := goodIn_app (goodIn_of _ (by decide +kernel)) ggX6_type_X3_add
theorem dX6_type_0 : decode cX6_type 0 = .ok (.iload_n 3, 1) := by decide +kernel
theorem dX6_type_1 : decode cX6_type 1 = .ok (.iconst 1, 1) := by decide +kernel
theorem dX6_type_2 : decode cX6_type 2 = .ok (.if_icmp .lt 9, 3) := by decide +kernel
theorem dX6_type_5 : decode cX6_type 5 = .ok (.iload_n 3, 1) := by decide +kernel
theorem dX6_type_6 : decode cX6_type 6 = .ok (.bipush 8, 2) := by decide +kernel
theorem dX6_type_8 : decode cX6_type 8 = .ok (.if_icmp .le 5, 3) := by decide +kernel
theorem dX6_type_11 : decode cX6_type 11 = .ok (.iconst (-1), 1) := by decide +kernel
theorem dX6_type_12 : decode cX6_type 12 = .ok (.ireturn, 1) := by decide +kernel
theorem dX6_type_13 : decode cX6_type 13 = .ok (.iload_n 3, 1) := by decide +kernel
theorem dX6_type_14 : decode cX6_type 14 = .ok (.sipush 300, 3) := by decide +kernel
theorem dX6_type_17 : decode cX6_type 17 = .ok (.aload_n 0, 1) := by decide +kernel
theorem dX6_type_18 : decode cX6_type 18 = .ok (.getfield 12, 3) := by decide +kernel
theorem dX6_type_21 : decode cX6_type 21 = .ok (.getfield 68, 3) := by decide +kernel
theorem dX6_type_24 : decode cX6_type 24 = .ok (.isub, 1) := by decide +kernel
theorem dX6_type_25 : decode cX6_type 25 = .ok (.if_icmp .le 6, 3) := by decide +kernel
theorem dX6_type_28 : decode cX6_type 28 = .ok (.bipush (-3), 2) := by decide +kernel
theorem dX6_type_30 : decode cX6_type 30 = .ok (.ireturn, 1) := by decide +kernel
theorem dX6_type_31 : decode cX6_type 31 = .ok (.aload_n 0, 1) := by decide +kernel
theorem dX6_type_32 : decode cX6_type 32 = .ok (.getfield 12, 3) := by decide +kernel
theorem dX6_type_35 : decode cX6_type 35 = .ok (.lload_n 1, 1) := by decide +kernel
theorem dX6_type_36 : decode cX6_type 36 = .ok (.iload_n 3, 1) := by decide +kernel
theorem dX6_type_37 : decode cX6_type 37 = .ok (.invokevirtual 72, 3) := by decide +kernel
theorem dX6_type_40 : decode cX6_type 40 = .ok (.aload_n 0, 1) := by decide +kernel
theorem dX6_type_41 : decode cX6_type 41 = .ok (.getfield 12, 3) := by decide +kernel
theorem dX6_type_44 : decode cX6_type 44 = .ok (.getfield 68, 3) := by decide +kernel
theorem dX6_type_47 : decode cX6_type 47 = .ok (.ireturn, 1) := by decide +kernel
set_option maxRecDepth 20000 in
theorem ggX6_clear_X3_empty : GoodIn wsX6_clear wsX3_empty := goodIn_r _ [6, 7, 18, 19, 20, 21, 22, 23] (by decide +kernel) (by decide +kernel)
set_option maxRecDepth 20000 in
theorem gX6_clear_X3_empty : GoodIn wsX6_clear (wsV RX6 76 RX3 yX3_empty wsX3_empty) := goodIn_app (goodIn_of _ (by decide +kernel)) ggX6_clear_X3_empty
theorem dX6_clear_0 : decode cX6_clear 0 = .ok (.aload_n 0, 1) := by decide +kernel
theorem dX6_clear_1 : decode cX6_clear 1 = .ok (.getfield 12, 3) := by decide +kernel
theorem dX6_clear_4 : decode cX6_clear 4 = .ok (.getfield 68, 3) := by decide +kernel
theorem dX6_clear_7 : decode cX6_clear 7 = .ok (.istore_n 1, 1) := by decide +kernel
theorem dX6_clear_8 : decode cX6_clear 8 = .ok (.aload_n 0, 1) := by decide +kernel
theorem dX6_clear_9 : decode cX6_clear 9 = .ok (.getfield 12, 3) := by decide +kernel
theorem dX6_clear_12 : decode cX6_clear 12 = .ok (.invokevirtual 76, 3) := by decide +kernel
theorem dX6_clear_15 : decode cX6_clear 15 = .ok (.iload_n 1, 1) := by decide +kernel
theorem dX6_clear_16 : decode cX6_clear 16 = .ok (.ireturn, 1) := by decide +kernel
set_option maxRecDepth 20000 in
theorem ggX6_house_X2_read : GoodIn wsX6_house wsX2_read := goodIn_r _ [12, 13, 14, 15, 16, 17, 18, 19, 20, 21, 22, 23, 24, 25, 26, 27, 28, 29, 30, 31, 32, 33, 34, 35, 36, 37, 38, 39, 40, 41, 42, 43, 44, 45, 46, 47, 48, 11, 49, 50, 51, 52, 53, 54, 55, 56, 57, 58, 59, 60, 61, 62, 63, 64, 65, 66, 67, 68, 69, 70, 71, 72, 73, 74, 75, 76, 77, 78, 79, 80, 81, 82, 83, 84, 85, 86, 87, 88, 89, 90, 91, 92, 93, 94, 95, 96, 97, 98, 99, 100, 101, 102, 103, 104, 105, 106, 107, 108, 109, 110, 111, 112, 113, 114, 115, 116, 117, 118, 119, 120, 121, 122, 123, 124, 125, 126, 127, 128, 129, 130, 131, 132, 133, 134, 135, 136, 137, 138, 139, 140, 141, 142, 143, 144, 145, 146, 147, 148, 149, 150, 151, 152, 198, 199, 200, 201, 202, 203, 204, 205, 206, 207, 208, 209, 210, 211, 212, 213] (by decide +kernel) (by decide +kernel)
set_option maxRecDepth 20000 in
theorem gX6_house_X2_read : GoodIn wsX6_house (wsV RX6 79 RX2 yX2_read wsX2_read) := goodIn_app (goodIn_of _ (by decide +kernel)) ggX6_house_X2_read
set_option maxRecDepth 20000 in
theorem ggX6_house_X0_become : GoodIn wsX6_house wsX0_become := goodIn_r _ [156, 20, 21, 22, 128, 157, 158, 159, 160, 129, 138, 139, 140, 206, 207, 208, 209, 210, 211, 212, 213] (by decide +kernel) (by decide +kernel)
set_option maxRecDepth 20000 in
theorem gX6_house_X0_become : GoodIn wsX6_house (wsV RX6 83 RX0 yX0_become wsX0_become) := goodIn_app (goodIn_of _ (by decide +kernel)) ggX6_house_X0_become
set_option maxRecDepth 20000 in
theorem ggX6_house_X1_begin : GoodIn wsX6_house wsX1_begin := goodIn_r _ [165, 166, 167, 168, 169, 150, 151, 18, 152, 22, 170, 171, 172, 164, 173, 174, 175, 176, 177, 178, 21, 193, 194, 195, 196, 197, 206, 207, 208, 209, 210, 211, 212, 213] (by decide +kernel) (by decide +kernel)
set_option maxRecDepth 20000 in
theorem gX6_house_X1_begin : GoodIn wsX6_house (wsV RX6 87 RX1 yX1_begin wsX1_begin) := goodIn_app (goodIn_of _ (by decide +kernel)) ggX6_house_X1_begin
set_option maxRecDepth 20000 in
theorem ggX6_house_X3_empty : GoodIn wsX6_house wsX3_empty := goodIn_r _ [182, 34, 200, 201, 202, 203, 204, 205] (by decide +kernel) (by decide +kernel)
set_option maxRecDepth 20000 in
theorem gX6_house_X3_empty : GoodIn wsX6_house (wsV RX6 76 RX3 yX3_empty wsX3_empty) := goodIn_app (goodIn_of _ (by decide +kernel)) ggX6_house_X3_empty
theorem dX6_house_0 : decode cX6_house 0 = .ok (.aload_n 0, 1) := by decide +kernel
theorem dX6_house_1 : decode cX6_house 1 = .ok (.getfield 31, 3) := by decide +kernel
theorem dX6_house_4 : decode cX6_house 4 = .ok (.invokevirtual 79, 3) := by decide +kernel
theorem dX6_house_7 : decode cX6_house 7 = .ok (.istore_n 1, 1) := by decide +kernel
theorem dX6_house_8 : decode cX6_house 8 = .ok (.iload_n 1, 1) := by decide +kernel
theorem dX6_house_9 : decode cX6_house 9 = .ok (.ifCond .ge 5, 3) := by decide +kernel
theorem dX6_house_12 : decode cX6_house 12 = .ok (.iload_n 1, 1) := by decide +kernel
theorem dX6_house_13 : decode cX6_house 13 = .ok (.ireturn, 1) := by decide +kernel
theorem dX6_house_14 : decode cX6_house 14 = .ok (.aload_n 0, 1) := by decide +kernel
theorem dX6_house_15 : decode cX6_house 15 = .ok (.getfield 19, 3) := by decide +kernel
theorem dX6_house_18 : decode cX6_house 18 = .ok (.aload_n 0, 1) := by decide +kernel
theorem dX6_house_19 : decode cX6_house 19 = .ok (.getfield 23, 3) := by decide +kernel
theorem dX6_house_22 : decode cX6_house 22 = .ok (.invokevirtual 83, 3) := by decide +kernel
theorem dX6_house_25 : decode cX6_house 25 = .ok (.aload_n 0, 1) := by decide +kernel
theorem dX6_house_26 : decode cX6_house 26 = .ok (.getfield 38, 3) := by decide +kernel
theorem dX6_house_29 : decode cX6_house 29 = .ok (.aload_n 0, 1) := by decide +kernel
theorem dX6_house_30 : decode cX6_house 30 = .ok (.getfield 19, 3) := by decide +kernel
theorem dX6_house_33 : decode cX6_house 33 = .ok (.invokevirtual 87, 3) := by decide +kernel
theorem dX6_house_36 : decode cX6_house 36 = .ok (.aload_n 0, 1) := by decide +kernel
theorem dX6_house_37 : decode cX6_house 37 = .ok (.getfield 42, 3) := by decide +kernel
theorem dX6_house_40 : decode cX6_house 40 = .ok (.iconst 0, 1) := by decide +kernel
theorem dX6_house_41 : decode cX6_house 41 = .ok (.putfield 90, 3) := by decide +kernel
theorem dX6_house_44 : decode cX6_house 44 = .ok (.aload_n 0, 1) := by decide +kernel
theorem dX6_house_45 : decode cX6_house 45 = .ok (.getfield 45, 3) := by decide +kernel
theorem dX6_house_48 : decode cX6_house 48 = .ok (.iconst 0, 1) := by decide +kernel
theorem dX6_house_49 : decode cX6_house 49 = .ok (.putfield 90, 3) := by decide +kernel
theorem dX6_house_52 : decode cX6_house 52 = .ok (.aload_n 0, 1) := by decide +kernel
theorem dX6_house_53 : decode cX6_house 53 = .ok (.getfield 12, 3) := by decide +kernel
theorem dX6_house_56 : decode cX6_house 56 = .ok (.invokevirtual 76, 3) := by decide +kernel
theorem dX6_house_59 : decode cX6_house 59 = .ok (.iload_n 1, 1) := by decide +kernel
theorem dX6_house_60 : decode cX6_house 60 = .ok (.ireturn, 1) := by decide +kernel
set_option maxRecDepth 20000 in
theorem ggX6_person_X0_hasPerson : GoodIn wsX6_person wsX0_hasPerson := goodIn_r _ [7, 8, 19, 20, 21, 22, 23, 24, 25, 26] (by decide +kernel) (by decide +kernel)
set_option maxRecDepth 20000 in
theorem gX6_person_X0_hasPerson : GoodIn wsX6_person (wsV RX6 94 RX0 yX0_hasPerson wsX0_hasPerson) := goodIn_app (goodIn_of _ (by decide +kernel)) ggX6_person_X0_hasPerson
theorem dX6_person_0 : decode cX6_person 0 = .ok (.aload_n 0, 1) := by decide +kernel
theorem dX6_person_1 : decode cX6_person 1 = .ok (.getfield 19, 3) := by decide +kernel
theorem dX6_person_4 : decode cX6_person 4 = .ok (.iload_n 1, 1) := by decide +kernel
theorem dX6_person_5 : decode cX6_person 5 = .ok (.invokevirtual 94, 3) := by decide +kernel
theorem dX6_person_8 : decode cX6_person 8 = .ok (.ifCond .ne 5, 3) := by decide +kernel
theorem dX6_person_11 : decode cX6_person 11 = .ok (.iconst (-1), 1) := by decide +kernel
theorem dX6_person_12 : decode cX6_person 12 = .ok (.ireturn, 1) := by decide +kernel
theorem dX6_person_13 : decode cX6_person 13 = .ok (.iload_n 2, 1) := by decide +kernel
theorem dX6_person_14 : decode cX6_person 14 = .ok (.tableswitch 56 0 2 #[26, 36, 46], 26) := by decide +kernel
theorem dX6_person_40 : decode cX6_person 40 = .ok (.aload_n 0, 1) := by decide +kernel
theorem dX6_person_41 : decode cX6_person 41 = .ok (.getfield 19, 3) := by decide +kernel
theorem dX6_person_44 : decode cX6_person 44 = .ok (.getfield 98, 3) := by decide +kernel
theorem dX6_person_47 : decode cX6_person 47 = .ok (.iload_n 1, 1) := by decide +kernel
theorem dX6_person_48 : decode cX6_person 48 = .ok (.iaload, 1) := by decide +kernel
theorem dX6_person_49 : decode cX6_person 49 = .ok (.ireturn, 1) := by decide +kernel
theorem dX6_person_50 : decode cX6_person 50 = .ok (.aload_n 0, 1) := by decide +kernel
theorem dX6_person_51 : decode cX6_person 51 = .ok (.getfield 19, 3) := by decide +kernel
theorem dX6_person_54 : decode cX6_person 54 = .ok (.getfield 102, 3) := by decide +kernel
theorem dX6_person_57 : decode cX6_person 57 = .ok (.iload_n 1, 1) := by decide +kernel
theorem dX6_person_58 : decode cX6_person 58 = .ok (.iaload, 1) := by decide +kernel
theorem dX6_person_59 : decode cX6_person 59 = .ok (.ireturn, 1) := by decide +kernel
theorem dX6_person_60 : decode cX6_person 60 = .ok (.aload_n 0, 1) := by decide +kernel
theorem dX6_person_61 : decode cX6_person 61 = .ok (.getfield 38, 3) := by decide +kernel
theorem dX6_person_64 : decode cX6_person 64 = .ok (.getfield 105, 3) := by decide +kernel
theorem dX6_person_67 : decode cX6_person 67 = .ok (.iload_n 1, 1) := by decide +kernel
theorem dX6_person_68 : decode cX6_person 68 = .ok (.iaload, 1) := by decide +kernel
theorem dX6_person_69 : decode cX6_person 69 = .ok (.ireturn, 1) := by decide +kernel
theorem dX6_person_70 : decode cX6_person 70 = .ok (.iconst (-1), 1) := by decide +kernel
theorem dX6_person_71 : decode cX6_person 71 = .ok (.ireturn, 1) := by decide +kernel
set_option maxRecDepth 20000 in
theorem ggX6_thing_X0_hasThing : GoodIn wsX6_thing wsX0_hasThing := goodIn_r _ [7, 8, 24, 25, 26, 27, 28, 29, 30, 31] (by decide +kernel) (by decide +kernel)
set_option maxRecDepth 20000 in
theorem gX6_thing_X0_hasThing : GoodIn wsX6_thing (wsV RX6 108 RX0 yX0_hasThing wsX0_hasThing) := goodIn_app (goodIn_of _ (by decide +kernel)) ggX6_thing_X0_hasThing
theorem dX6_thing_0 : decode cX6_thing 0 = .ok (.aload_n 0, 1) := by decide +kernel
theorem dX6_thing_1 : decode cX6_thing 1 = .ok (.getfield 19, 3) := by decide +kernel
theorem dX6_thing_4 : decode cX6_thing 4 = .ok (.iload_n 1, 1) := by decide +kernel
theorem dX6_thing_5 : decode cX6_thing 5 = .ok (.invokevirtual 108, 3) := by decide +kernel
theorem dX6_thing_8 : decode cX6_thing 8 = .ok (.ifCond .ne 5, 3) := by decide +kernel
theorem dX6_thing_11 : decode cX6_thing 11 = .ok (.iconst (-1), 1) := by decide +kernel
theorem dX6_thing_12 : decode cX6_thing 12 = .ok (.ireturn, 1) := by decide +kernel
theorem dX6_thing_13 : decode cX6_thing 13 = .ok (.iload_n 2, 1) := by decide +kernel
theorem dX6_thing_14 : decode cX6_thing 14 = .ok (.tableswitch 70 0 3 #[30, 40, 50, 60], 30) := by decide +kernel
theorem dX6_thing_44 : decode cX6_thing 44 = .ok (.aload_n 0, 1) := by decide +kernel
theorem dX6_thing_45 : decode cX6_thing 45 = .ok (.getfield 38, 3) := by decide +kernel
theorem dX6_thing_48 : decode cX6_thing 48 = .ok (.getfield 111, 3) := by decide +kernel
theorem dX6_thing_51 : decode cX6_thing 51 = .ok (.iload_n 1, 1) := by decide +kernel
theorem dX6_thing_52 : decode cX6_thing 52 = .ok (.iaload, 1) := by decide +kernel
theorem dX6_thing_53 : decode cX6_thing 53 = .ok (.ireturn, 1) := by decide +kernel
theorem dX6_thing_54 : decode cX6_thing 54 = .ok (.aload_n 0, 1) := by decide +kernel
theorem dX6_thing_55 : decode cX6_thing 55 = .ok (.getfield 19, 3) := by decide +kernel
theorem dX6_thing_58 : decode cX6_thing 58 = .ok (.getfield 114, 3) := by decide +kernel
theorem dX6_thing_61 : decode cX6_thing 61 = .ok (.iload_n 1, 1) := by decide +kernel
theorem dX6_thing_62 : decode cX6_thing 62 = .ok (.iaload, 1) := by decide +kernel
theorem dX6_thing_63 : decode cX6_thing 63 = .ok (.ireturn, 1) := by decide +kernel
theorem dX6_thing_64 : decode cX6_thing 64 = .ok (.aload_n 0, 1) := by decide +kernel
theorem dX6_thing_65 : decode cX6_thing 65 = .ok (.getfield 19, 3) := by decide +kernel
theorem dX6_thing_68 : decode cX6_thing 68 = .ok (.getfield 117, 3) := by decide +kernel
theorem dX6_thing_71 : decode cX6_thing 71 = .ok (.iload_n 1, 1) := by decide +kernel
theorem dX6_thing_72 : decode cX6_thing 72 = .ok (.iaload, 1) := by decide +kernel
theorem dX6_thing_73 : decode cX6_thing 73 = .ok (.ireturn, 1) := by decide +kernel
theorem dX6_thing_74 : decode cX6_thing 74 = .ok (.aload_n 0, 1) := by decide +kernel
theorem dX6_thing_75 : decode cX6_thing 75 = .ok (.getfield 38, 3) := by decide +kernel
theorem dX6_thing_78 : decode cX6_thing 78 = .ok (.getfield 120, 3) := by decide +kernel
theorem dX6_thing_81 : decode cX6_thing 81 = .ok (.iload_n 1, 1) := by decide +kernel
theorem dX6_thing_82 : decode cX6_thing 82 = .ok (.iaload, 1) := by decide +kernel
theorem dX6_thing_83 : decode cX6_thing 83 = .ok (.ireturn, 1) := by decide +kernel
theorem dX6_thing_84 : decode cX6_thing 84 = .ok (.iconst (-1), 1) := by decide +kernel
theorem dX6_thing_85 : decode cX6_thing 85 = .ok (.ireturn, 1) := by decide +kernel
set_option maxRecDepth 20000 in
theorem ggX6_lifted_X0_hasAllPeople : GoodIn wsX6_lifted wsX0_hasAllPeople := goodIn_r _ [7, 8, 77, 78, 79, 80, 81, 82, 83, 84] (by decide +kernel) (by decide +kernel)
set_option maxRecDepth 20000 in
theorem gX6_lifted_X0_hasAllPeople : GoodIn wsX6_lifted (wsV RX6 123 RX0 yX0_hasAllPeople wsX0_hasAllPeople) := goodIn_app (goodIn_of _ (by decide +kernel)) ggX6_lifted_X0_hasAllPeople
set_option maxRecDepth 20000 in
theorem ggX6_lifted_X0_hasThing : GoodIn wsX6_lifted wsX0_hasThing := goodIn_r _ [12, 13, 77, 78, 79, 80, 81, 82, 83, 84] (by decide +kernel) (by decide +kernel)
set_option maxRecDepth 20000 in
theorem gX6_lifted_X0_hasThing : GoodIn wsX6_lifted (wsV RX6 108 RX0 yX0_hasThing wsX0_hasThing) := goodIn_app (goodIn_of _ (by decide +kernel)) ggX6_lifted_X0_hasThing
set_option maxRecDepth 20000 in
theorem ggX6_lifted_X0_hasRoom : GoodIn wsX6_lifted wsX0_hasRoom := goodIn_r _ [17, 18, 77, 78, 79, 80, 81, 82, 83, 84] (by decide +kernel) (by decide +kernel)
set_option maxRecDepth 20000 in
theorem gX6_lifted_X0_hasRoom : GoodIn wsX6_lifted (wsV RX6 126 RX0 yX0_hasRoom wsX0_hasRoom) := goodIn_app (goodIn_of _ (by decide +kernel)) ggX6_lifted_X0_hasRoom
set_option maxRecDepth 20000 in
theorem ggX6_lifted_X1_jobOf : GoodIn wsX6_lifted wsX1_jobOf := goodIn_r _ [23, 24, 72, 73, 74, 75, 76] (by decide +kernel) (by decide +kernel)
set_option maxRecDepth 20000 in
theorem gX6_lifted_X1_jobOf : GoodIn wsX6_lifted (wsV RX6 129 RX1 yX1_jobOf wsX1_jobOf) := goodIn_app (goodIn_of _ (by decide +kernel)) ggX6_lifted_X1_jobOf
set_option maxRecDepth 20000 in
theorem ggX6_lifted_J6_bitCount_0f7a4 : GoodIn wsX6_lifted wsJ6_bitCount_0f7a4 := goodIn_r _ [28, 29, 30, 31] (by decide +kernel) (by decide +kernel)
set_option maxRecDepth 20000 in
theorem gX6_lifted_J6_bitCount_0f7a4 : GoodIn wsX6_lifted (va_wsS RX6 133 yJ6_bitCount_0f7a4 wsJ6_bitCount_0f7a4) := goodIn_app (goodIn_of _ (by decide +kernel)) ggX6_lifted_J6_bitCount_0f7a4
set_option maxRecDepth 20000 in
theorem ggX6_lifted_X0_handsOf : GoodIn wsX6_lifted wsX0_handsOf := goodIn_r _ [35, 13, 36, 37, 38, 39, 40, 41, 42, 43, 77, 78, 79, 80, 81, 82, 83, 84] (by decide +kernel) (by decide +kernel)
set_option maxRecDepth 20000 in
theorem gX6_lifted_X0_handsOf : GoodIn wsX6_lifted (wsV RX6 138 RX0 yX0_handsOf wsX0_handsOf) := goodIn_app (goodIn_of _ (by decide +kernel)) ggX6_lifted_X0_handsOf
set_option maxRecDepth 20000 in
theorem ggX6_lifted_X1_allHaveLeft : GoodIn wsX6_lifted wsX1_allHaveLeft := goodIn_r _ [47, 48, 49, 50, 22, 51, 52, 72, 73, 74, 75, 76] (by decide +kernel) (by decide +kernel)
set_option maxRecDepth 20000 in
theorem gX6_lifted_X1_allHaveLeft : GoodIn wsX6_lifted (wsV RX6 141 RX1 yX1_allHaveLeft wsX1_allHaveLeft) := goodIn_app (goodIn_of _ (by decide +kernel)) ggX6_lifted_X1_allHaveLeft
set_option maxRecDepth 20000 in
theorem ggX6_lifted_X1_spend : GoodIn wsX6_lifted wsX1_spend := goodIn_r _ [56, 52, 41, 42, 43, 72, 73, 74, 75, 76] (by decide +kernel) (by decide +kernel)
set_option maxRecDepth 20000 in
theorem gX6_lifted_X1_spend : GoodIn wsX6_lifted (wsV RX6 144 RX1 yX1_spend wsX1_spend) := goodIn_app (goodIn_of _ (by decide +kernel)) ggX6_lifted_X1_spend
set_option maxRecDepth 20000 in
theorem ggX6_lifted_X1_carry : GoodIn wsX6_lifted wsX1_carry := goodIn_r _ [60, 61, 41, 42, 43, 72, 73, 74, 75, 76] (by decide +kernel) (by decide +kernel)
set_option maxRecDepth 20000 in
theorem gX6_lifted_X1_carry : GoodIn wsX6_lifted (wsV RX6 148 RX1 yX1_carry wsX1_carry) := goodIn_app (goodIn_of _ (by decide +kernel)) ggX6_lifted_X1_carry
theorem dX6_lifted_0 : decode cX6_lifted 0 = .ok (.aload_n 0, 1) := by decide +kernel
theorem dX6_lifted_1 : decode cX6_lifted 1 = .ok (.getfield 19, 3) := by decide +kernel
theorem dX6_lifted_4 : decode cX6_lifted 4 = .ok (.iload_n 1, 1) := by decide +kernel
theorem dX6_lifted_5 : decode cX6_lifted 5 = .ok (.invokevirtual 123, 3) := by decide +kernel
theorem dX6_lifted_8 : decode cX6_lifted 8 = .ok (.ifCond .eq 25, 3) := by decide +kernel
theorem dX6_lifted_11 : decode cX6_lifted 11 = .ok (.aload_n 0, 1) := by decide +kernel
theorem dX6_lifted_12 : decode cX6_lifted 12 = .ok (.getfield 19, 3) := by decide +kernel
theorem dX6_lifted_15 : decode cX6_lifted 15 = .ok (.iload_n 2, 1) := by decide +kernel
theorem dX6_lifted_16 : decode cX6_lifted 16 = .ok (.invokevirtual 108, 3) := by decide +kernel
theorem dX6_lifted_19 : decode cX6_lifted 19 = .ok (.ifCond .eq 14, 3) := by decide +kernel
theorem dX6_lifted_22 : decode cX6_lifted 22 = .ok (.aload_n 0, 1) := by decide +kernel
theorem dX6_lifted_23 : decode cX6_lifted 23 = .ok (.getfield 19, 3) := by decide +kernel
theorem dX6_lifted_26 : decode cX6_lifted 26 = .ok (.iload_n 3, 1) := by decide +kernel
theorem dX6_lifted_27 : decode cX6_lifted 27 = .ok (.invokevirtual 126, 3) := by decide +kernel
theorem dX6_lifted_30 : decode cX6_lifted 30 = .ok (.ifCond .ne 5, 3) := by decide +kernel
theorem dX6_lifted_33 : decode cX6_lifted 33 = .ok (.iconst (-1), 1) := by decide +kernel
theorem dX6_lifted_34 : decode cX6_lifted 34 = .ok (.ireturn, 1) := by decide +kernel
theorem dX6_lifted_35 : decode cX6_lifted 35 = .ok (.aload_n 0, 1) := by decide +kernel
theorem dX6_lifted_36 : decode cX6_lifted 36 = .ok (.getfield 38, 3) := by decide +kernel
theorem dX6_lifted_39 : decode cX6_lifted 39 = .ok (.iload_n 2, 1) := by decide +kernel
theorem dX6_lifted_40 : decode cX6_lifted 40 = .ok (.invokevirtual 129, 3) := by decide +kernel
theorem dX6_lifted_43 : decode cX6_lifted 43 = .ok (.istore 4, 2) := by decide +kernel
theorem dX6_lifted_45 : decode cX6_lifted 45 = .ok (.aload_n 0, 1) := by decide +kernel
theorem dX6_lifted_46 : decode cX6_lifted 46 = .ok (.getfield 38, 3) := by decide +kernel
theorem dX6_lifted_49 : decode cX6_lifted 49 = .ok (.getfield 111, 3) := by decide +kernel
theorem dX6_lifted_52 : decode cX6_lifted 52 = .ok (.iload_n 2, 1) := by decide +kernel
theorem dX6_lifted_53 : decode cX6_lifted 53 = .ok (.iaload, 1) := by decide +kernel
theorem dX6_lifted_54 : decode cX6_lifted 54 = .ok (.iload_n 3, 1) := by decide +kernel
theorem dX6_lifted_55 : decode cX6_lifted 55 = .ok (.if_icmp .eq 30, 3) := by decide +kernel
theorem dX6_lifted_58 : decode cX6_lifted 58 = .ok (.iload_n 1, 1) := by decide +kernel
theorem dX6_lifted_59 : decode cX6_lifted 59 = .ok (.invokestatic 133, 3) := by decide +kernel
theorem dX6_lifted_62 : decode cX6_lifted 62 = .ok (.aload_n 0, 1) := by decide +kernel
theorem dX6_lifted_63 : decode cX6_lifted 63 = .ok (.getfield 19, 3) := by decide +kernel
theorem dX6_lifted_66 : decode cX6_lifted 66 = .ok (.iload 4, 2) := by decide +kernel
theorem dX6_lifted_68 : decode cX6_lifted 68 = .ok (.invokevirtual 138, 3) := by decide +kernel
theorem dX6_lifted_71 : decode cX6_lifted 71 = .ok (.if_icmp .ne 14, 3) := by decide +kernel
theorem dX6_lifted_74 : decode cX6_lifted 74 = .ok (.aload_n 0, 1) := by decide +kernel
theorem dX6_lifted_75 : decode cX6_lifted 75 = .ok (.getfield 38, 3) := by decide +kernel
theorem dX6_lifted_78 : decode cX6_lifted 78 = .ok (.iload_n 1, 1) := by decide +kernel
theorem dX6_lifted_79 : decode cX6_lifted 79 = .ok (.invokevirtual 141, 3) := by decide +kernel
theorem dX6_lifted_82 : decode cX6_lifted 82 = .ok (.ifCond .ne 6, 3) := by decide +kernel
theorem dX6_lifted_85 : decode cX6_lifted 85 = .ok (.bipush (-2), 2) := by decide +kernel
theorem dX6_lifted_87 : decode cX6_lifted 87 = .ok (.ireturn, 1) := by decide +kernel
theorem dX6_lifted_88 : decode cX6_lifted 88 = .ok (.aload_n 0, 1) := by decide +kernel
theorem dX6_lifted_89 : decode cX6_lifted 89 = .ok (.getfield 38, 3) := by decide +kernel
theorem dX6_lifted_92 : decode cX6_lifted 92 = .ok (.iload_n 1, 1) := by decide +kernel
theorem dX6_lifted_93 : decode cX6_lifted 93 = .ok (.invokevirtual 144, 3) := by decide +kernel
theorem dX6_lifted_96 : decode cX6_lifted 96 = .ok (.aload_n 0, 1) := by decide +kernel
theorem dX6_lifted_97 : decode cX6_lifted 97 = .ok (.getfield 38, 3) := by decide +kernel
theorem dX6_lifted_100 : decode cX6_lifted 100 = .ok (.iload 4, 2) := by decide +kernel
theorem dX6_lifted_102 : decode cX6_lifted 102 = .ok (.iload_n 3, 1) := by decide +kernel
theorem dX6_lifted_103 : decode cX6_lifted 103 = .ok (.invokevirtual 148, 3) := by decide +kernel
theorem dX6_lifted_106 : decode cX6_lifted 106 = .ok (.iload 4, 2) := by decide +kernel
theorem dX6_lifted_108 : decode cX6_lifted 108 = .ok (.invokestatic 133, 3) := by decide +kernel
theorem dX6_lifted_111 : decode cX6_lifted 111 = .ok (.ireturn, 1) := by decide +kernel
set_option maxRecDepth 20000 in
theorem ggX6_tied_X0_hasPerson : GoodIn wsX6_tied wsX0_hasPerson := goodIn_r _ [7, 8, 59, 60, 61, 62, 63, 64, 65, 66] (by decide +kernel) (by decide +kernel)
set_option maxRecDepth 20000 in
theorem gX6_tied_X0_hasPerson : GoodIn wsX6_tied (wsV RX6 94 RX0 yX0_hasPerson wsX0_hasPerson) := goodIn_app (goodIn_of _ (by decide +kernel)) ggX6_tied_X0_hasPerson
set_option maxRecDepth 20000 in
theorem ggX6_tied_X0_hasAllThings : GoodIn wsX6_tied wsX0_hasAllThings := goodIn_r _ [12, 13, 59, 60, 61, 62, 63, 64, 65, 66] (by decide +kernel) (by decide +kernel)
set_option maxRecDepth 20000 in
theorem gX6_tied_X0_hasAllThings : GoodIn wsX6_tied (wsV RX6 152 RX0 yX0_hasAllThings wsX0_hasAllThings) := goodIn_app (goodIn_of _ (by decide +kernel)) ggX6_tied_X0_hasAllThings
set_option maxRecDepth 20000 in
theorem ggX6_tied_J6_bitCount_0f7a4 : GoodIn wsX6_tied wsJ6_bitCount_0f7a4 := goodIn_r _ [17, 18, 19, 20] (by decide +kernel) (by decide +kernel)
set_option maxRecDepth 20000 in
theorem gX6_tied_J6_bitCount_0f7a4 : GoodIn wsX6_tied (va_wsS RX6 133 yJ6_bitCount_0f7a4 wsJ6_bitCount_0f7a4) := goodIn_app (goodIn_of _ (by decide +kernel)) ggX6_tied_J6_bitCount_0f7a4
set_option maxRecDepth 20000 in
theorem ggX6_tied_X1_canBeTied : GoodIn wsX6_tied wsX1_canBeTied := goodIn_r _ [25, 26, 27, 28, 29, 30, 54, 55, 56, 57, 58] (by decide +kernel) (by decide +kernel)
set_option maxRecDepth 20000 in
theorem gX6_tied_X1_canBeTied : GoodIn wsX6_tied (wsV RX6 155 RX1 yX1_canBeTied wsX1_canBeTied) := goodIn_app (goodIn_of _ (by decide +kernel)) ggX6_tied_X1_canBeTied
set_option maxRecDepth 20000 in
theorem ggX6_tied_X1_spend : GoodIn wsX6_tied wsX1_spend := goodIn_r _ [34, 35, 28, 29, 30, 54, 55, 56, 57, 58] (by decide +kernel) (by decide +kernel)
set_option maxRecDepth 20000 in
theorem gX6_tied_X1_spend : GoodIn wsX6_tied (wsV RX6 144 RX1 yX1_spend wsX1_spend) := goodIn_app (goodIn_of _ (by decide +kernel)) ggX6_tied_X1_spend
set_option maxRecDepth 20000 in
theorem ggX6_tied_X6_least : GoodIn wsX6_tied wsX6_least := goodIn_r _ [38, 39, 28, 29, 30] (by decide +kernel) (by decide +kernel)
set_option maxRecDepth 20000 in
theorem gX6_tied_X6_least : GoodIn wsX6_tied (va_wsS RX6 158 yX6_least wsX6_least) := goodIn_app (goodIn_of _ (by decide +kernel)) ggX6_tied_X6_least
set_option maxRecDepth 20000 in
theorem ggX6_tied_X1_setBundle : GoodIn wsX6_tied wsX1_setBundle := goodIn_r _ [43, 26, 28, 29, 30, 54, 55, 56, 57, 58] (by decide +kernel) (by decide +kernel)
set_option maxRecDepth 20000 in
theorem gX6_tied_X1_setBundle : GoodIn wsX6_tied (wsV RX6 161 RX1 yX1_setBundle wsX1_setBundle) := goodIn_app (goodIn_of _ (by decide +kernel)) ggX6_tied_X1_setBundle
theorem dX6_tied_0 : decode cX6_tied 0 = .ok (.aload_n 0, 1) := by decide +kernel
theorem dX6_tied_1 : decode cX6_tied 1 = .ok (.getfield 19, 3) := by decide +kernel
theorem dX6_tied_4 : decode cX6_tied 4 = .ok (.iload_n 1, 1) := by decide +kernel
theorem dX6_tied_5 : decode cX6_tied 5 = .ok (.invokevirtual 94, 3) := by decide +kernel
theorem dX6_tied_8 : decode cX6_tied 8 = .ok (.ifCond .eq 22, 3) := by decide +kernel
theorem dX6_tied_11 : decode cX6_tied 11 = .ok (.aload_n 0, 1) := by decide +kernel
theorem dX6_tied_12 : decode cX6_tied 12 = .ok (.getfield 19, 3) := by decide +kernel
theorem dX6_tied_15 : decode cX6_tied 15 = .ok (.iload_n 2, 1) := by decide +kernel
theorem dX6_tied_16 : decode cX6_tied 16 = .ok (.invokevirtual 152, 3) := by decide +kernel
theorem dX6_tied_19 : decode cX6_tied 19 = .ok (.ifCond .eq 11, 3) := by decide +kernel
theorem dX6_tied_22 : decode cX6_tied 22 = .ok (.iload_n 2, 1) := by decide +kernel
theorem dX6_tied_23 : decode cX6_tied 23 = .ok (.invokestatic 133, 3) := by decide +kernel
theorem dX6_tied_26 : decode cX6_tied 26 = .ok (.iconst 2, 1) := by decide +kernel
theorem dX6_tied_27 : decode cX6_tied 27 = .ok (.if_icmp .ge 5, 3) := by decide +kernel
theorem dX6_tied_30 : decode cX6_tied 30 = .ok (.iconst (-1), 1) := by decide +kernel
theorem dX6_tied_31 : decode cX6_tied 31 = .ok (.ireturn, 1) := by decide +kernel
theorem dX6_tied_32 : decode cX6_tied 32 = .ok (.aload_n 0, 1) := by decide +kernel
theorem dX6_tied_33 : decode cX6_tied 33 = .ok (.getfield 38, 3) := by decide +kernel
theorem dX6_tied_36 : decode cX6_tied 36 = .ok (.getfield 105, 3) := by decide +kernel
theorem dX6_tied_39 : decode cX6_tied 39 = .ok (.iload_n 1, 1) := by decide +kernel
theorem dX6_tied_40 : decode cX6_tied 40 = .ok (.iaload, 1) := by decide +kernel
theorem dX6_tied_41 : decode cX6_tied 41 = .ok (.iconst 1, 1) := by decide +kernel
theorem dX6_tied_42 : decode cX6_tied 42 = .ok (.if_icmp .lt 14, 3) := by decide +kernel
theorem dX6_tied_45 : decode cX6_tied 45 = .ok (.aload_n 0, 1) := by decide +kernel
theorem dX6_tied_46 : decode cX6_tied 46 = .ok (.getfield 38, 3) := by decide +kernel
theorem dX6_tied_49 : decode cX6_tied 49 = .ok (.iload_n 2, 1) := by decide +kernel
theorem dX6_tied_50 : decode cX6_tied 50 = .ok (.invokevirtual 155, 3) := by decide +kernel
theorem dX6_tied_53 : decode cX6_tied 53 = .ok (.ifCond .ne 6, 3) := by decide +kernel
theorem dX6_tied_56 : decode cX6_tied 56 = .ok (.bipush (-2), 2) := by decide +kernel
theorem dX6_tied_58 : decode cX6_tied 58 = .ok (.ireturn, 1) := by decide +kernel
theorem dX6_tied_59 : decode cX6_tied 59 = .ok (.aload_n 0, 1) := by decide +kernel
theorem dX6_tied_60 : decode cX6_tied 60 = .ok (.getfield 38, 3) := by decide +kernel
theorem dX6_tied_63 : decode cX6_tied 63 = .ok (.iconst 1, 1) := by decide +kernel
theorem dX6_tied_64 : decode cX6_tied 64 = .ok (.iload_n 1, 1) := by decide +kernel
theorem dX6_tied_65 : decode cX6_tied 65 = .ok (.ishl, 1) := by decide +kernel
theorem dX6_tied_66 : decode cX6_tied 66 = .ok (.invokevirtual 144, 3) := by decide +kernel
theorem dX6_tied_69 : decode cX6_tied 69 = .ok (.iload_n 2, 1) := by decide +kernel
theorem dX6_tied_70 : decode cX6_tied 70 = .ok (.invokestatic 158, 3) := by decide +kernel
theorem dX6_tied_73 : decode cX6_tied 73 = .ok (.istore_n 3, 1) := by decide +kernel
theorem dX6_tied_74 : decode cX6_tied 74 = .ok (.aload_n 0, 1) := by decide +kernel
theorem dX6_tied_75 : decode cX6_tied 75 = .ok (.getfield 38, 3) := by decide +kernel
theorem dX6_tied_78 : decode cX6_tied 78 = .ok (.iload_n 2, 1) := by decide +kernel
theorem dX6_tied_79 : decode cX6_tied 79 = .ok (.iload_n 3, 1) := by decide +kernel
theorem dX6_tied_80 : decode cX6_tied 80 = .ok (.invokevirtual 161, 3) := by decide +kernel
theorem dX6_tied_83 : decode cX6_tied 83 = .ok (.iload_n 3, 1) := by decide +kernel
theorem dX6_tied_84 : decode cX6_tied 84 = .ok (.ireturn, 1) := by decide +kernel
set_option maxRecDepth 20000 in
theorem ggX6_untied_X0_hasThing : GoodIn wsX6_untied wsX0_hasThing := goodIn_r _ [7, 8, 44, 45, 46, 47, 48, 49, 50, 51] (by decide +kernel) (by decide +kernel)
set_option maxRecDepth 20000 in
theorem gX6_untied_X0_hasThing : GoodIn wsX6_untied (wsV RX6 108 RX0 yX0_hasThing wsX0_hasThing) := goodIn_app (goodIn_of _ (by decide +kernel)) ggX6_untied_X0_hasThing
set_option maxRecDepth 20000 in
theorem ggX6_untied_X1_jobOf : GoodIn wsX6_untied wsX1_jobOf := goodIn_r _ [13, 14, 39, 40, 41, 42, 43] (by decide +kernel) (by decide +kernel)
set_option maxRecDepth 20000 in
theorem gX6_untied_X1_jobOf : GoodIn wsX6_untied (wsV RX6 129 RX1 yX1_jobOf wsX1_jobOf) := goodIn_app (goodIn_of _ (by decide +kernel)) ggX6_untied_X1_jobOf
set_option maxRecDepth 20000 in
theorem ggX6_untied_X1_setBundle : GoodIn wsX6_untied wsX1_setBundle := goodIn_r _ [18, 14, 19, 20, 21, 39, 40, 41, 42, 43] (by decide +kernel) (by decide +kernel)
set_option maxRecDepth 20000 in
theorem gX6_untied_X1_setBundle : GoodIn wsX6_untied (wsV RX6 161 RX1 yX1_setBundle wsX1_setBundle) := goodIn_app (goodIn_of _ (by decide +kernel)) ggX6_untied_X1_setBundle
set_option maxRecDepth 20000 in
theorem ggX6_untied_J6_bitCount_0f7a4 : GoodIn wsX6_untied wsJ6_bitCount_0f7a4 := goodIn_r _ [25, 26, 27, 28] (by decide +kernel) (by decide +kernel)
set_option maxRecDepth 20000 in
theorem gX6_untied_J6_bitCount_0f7a4 : GoodIn wsX6_untied (va_wsS RX6 133 yJ6_bitCount_0f7a4 wsJ6_bitCount_0f7a4) := goodIn_app (goodIn_of _ (by decide +kernel)) ggX6_untied_J6_bitCount_0f7a4
theorem dX6_untied_0 : decode cX6_untied 0 = .ok (.aload_n 0, 1) := by decide +kernel
theorem dX6_untied_1 : decode cX6_untied 1 = .ok (.getfield 19, 3) := by decide +kernel
theorem dX6_untied_4 : decode cX6_untied 4 = .ok (.iload_n 1, 1) := by decide +kernel
theorem dX6_untied_5 : decode cX6_untied 5 = .ok (.invokevirtual 108, 3) := by decide +kernel
theorem dX6_untied_8 : decode cX6_untied 8 = .ok (.ifCond .ne 5, 3) := by decide +kernel
theorem dX6_untied_11 : decode cX6_untied 11 = .ok (.iconst (-1), 1) := by decide +kernel
theorem dX6_untied_12 : decode cX6_untied 12 = .ok (.ireturn, 1) := by decide +kernel
theorem dX6_untied_13 : decode cX6_untied 13 = .ok (.aload_n 0, 1) := by decide +kernel
theorem dX6_untied_14 : decode cX6_untied 14 = .ok (.getfield 38, 3) := by decide +kernel
theorem dX6_untied_17 : decode cX6_untied 17 = .ok (.getfield 120, 3) := by decide +kernel
theorem dX6_untied_20 : decode cX6_untied 20 = .ok (.iload_n 1, 1) := by decide +kernel
theorem dX6_untied_21 : decode cX6_untied 21 = .ok (.iaload, 1) := by decide +kernel
theorem dX6_untied_22 : decode cX6_untied 22 = .ok (.bipush (-9), 2) := by decide +kernel
theorem dX6_untied_24 : decode cX6_untied 24 = .ok (.if_icmp .ne 6, 3) := by decide +kernel
theorem dX6_untied_27 : decode cX6_untied 27 = .ok (.bipush (-2), 2) := by decide +kernel
theorem dX6_untied_29 : decode cX6_untied 29 = .ok (.ireturn, 1) := by decide +kernel
theorem dX6_untied_30 : decode cX6_untied 30 = .ok (.aload_n 0, 1) := by decide +kernel
theorem dX6_untied_31 : decode cX6_untied 31 = .ok (.getfield 38, 3) := by decide +kernel
theorem dX6_untied_34 : decode cX6_untied 34 = .ok (.iload_n 1, 1) := by decide +kernel
theorem dX6_untied_35 : decode cX6_untied 35 = .ok (.invokevirtual 129, 3) := by decide +kernel
theorem dX6_untied_38 : decode cX6_untied 38 = .ok (.istore_n 2, 1) := by decide +kernel
theorem dX6_untied_39 : decode cX6_untied 39 = .ok (.aload_n 0, 1) := by decide +kernel
theorem dX6_untied_40 : decode cX6_untied 40 = .ok (.getfield 38, 3) := by decide +kernel
theorem dX6_untied_43 : decode cX6_untied 43 = .ok (.iload_n 2, 1) := by decide +kernel
theorem dX6_untied_44 : decode cX6_untied 44 = .ok (.bipush (-9), 2) := by decide +kernel
theorem dX6_untied_46 : decode cX6_untied 46 = .ok (.invokevirtual 161, 3) := by decide +kernel
theorem dX6_untied_49 : decode cX6_untied 49 = .ok (.iload_n 2, 1) := by decide +kernel
theorem dX6_untied_50 : decode cX6_untied 50 = .ok (.invokestatic 133, 3) := by decide +kernel
theorem dX6_untied_53 : decode cX6_untied 53 = .ok (.ireturn, 1) := by decide +kernel
set_option maxRecDepth 20000 in
theorem ggX6_dropped_X0_hasPerson : GoodIn wsX6_dropped wsX0_hasPerson := goodIn_r _ [7, 8, 33, 34, 35, 36, 37, 38, 39, 40] (by decide +kernel) (by decide +kernel)
set_option maxRecDepth 20000 in
theorem gX6_dropped_X0_hasPerson : GoodIn wsX6_dropped (wsV RX6 94 RX0 yX0_hasPerson wsX0_hasPerson) := goodIn_app (goodIn_of _ (by decide +kernel)) ggX6_dropped_X0_hasPerson
set_option maxRecDepth 20000 in
theorem ggX6_dropped_X1_spend : GoodIn wsX6_dropped wsX1_spend := goodIn_r _ [13, 14, 15, 16, 17, 28, 29, 30, 31, 32] (by decide +kernel) (by decide +kernel)
set_option maxRecDepth 20000 in
theorem gX6_dropped_X1_spend : GoodIn wsX6_dropped (wsV RX6 144 RX1 yX1_spend wsX1_spend) := goodIn_app (goodIn_of _ (by decide +kernel)) ggX6_dropped_X1_spend
theorem dX6_dropped_0 : decode cX6_dropped 0 = .ok (.aload_n 0, 1) := by decide +kernel
theorem dX6_dropped_1 : decode cX6_dropped 1 = .ok (.getfield 19, 3) := by decide +kernel
theorem dX6_dropped_4 : decode cX6_dropped 4 = .ok (.iload_n 1, 1) := by decide +kernel
theorem dX6_dropped_5 : decode cX6_dropped 5 = .ok (.invokevirtual 94, 3) := by decide +kernel
theorem dX6_dropped_8 : decode cX6_dropped 8 = .ok (.ifCond .ne 5, 3) := by decide +kernel
theorem dX6_dropped_11 : decode cX6_dropped 11 = .ok (.iconst (-1), 1) := by decide +kernel
theorem dX6_dropped_12 : decode cX6_dropped 12 = .ok (.ireturn, 1) := by decide +kernel
theorem dX6_dropped_13 : decode cX6_dropped 13 = .ok (.aload_n 0, 1) := by decide +kernel
theorem dX6_dropped_14 : decode cX6_dropped 14 = .ok (.getfield 38, 3) := by decide +kernel
theorem dX6_dropped_17 : decode cX6_dropped 17 = .ok (.getfield 105, 3) := by decide +kernel
theorem dX6_dropped_20 : decode cX6_dropped 20 = .ok (.iload_n 1, 1) := by decide +kernel
theorem dX6_dropped_21 : decode cX6_dropped 21 = .ok (.iaload, 1) := by decide +kernel
theorem dX6_dropped_22 : decode cX6_dropped 22 = .ok (.iconst 1, 1) := by decide +kernel
theorem dX6_dropped_23 : decode cX6_dropped 23 = .ok (.if_icmp .ge 6, 3) := by decide +kernel
theorem dX6_dropped_26 : decode cX6_dropped 26 = .ok (.bipush (-2), 2) := by decide +kernel
theorem dX6_dropped_28 : decode cX6_dropped 28 = .ok (.ireturn, 1) := by decide +kernel
theorem dX6_dropped_29 : decode cX6_dropped 29 = .ok (.aload_n 0, 1) := by decide +kernel
theorem dX6_dropped_30 : decode cX6_dropped 30 = .ok (.getfield 38, 3) := by decide +kernel
theorem dX6_dropped_33 : decode cX6_dropped 33 = .ok (.iconst 1, 1) := by decide +kernel
theorem dX6_dropped_34 : decode cX6_dropped 34 = .ok (.iload_n 1, 1) := by decide +kernel
theorem dX6_dropped_35 : decode cX6_dropped 35 = .ok (.ishl, 1) := by decide +kernel
theorem dX6_dropped_36 : decode cX6_dropped 36 = .ok (.invokevirtual 144, 3) := by decide +kernel
theorem dX6_dropped_39 : decode cX6_dropped 39 = .ok (.aload_n 0, 1) := by decide +kernel
theorem dX6_dropped_40 : decode cX6_dropped 40 = .ok (.getfield 38, 3) := by decide +kernel
theorem dX6_dropped_43 : decode cX6_dropped 43 = .ok (.getfield 105, 3) := by decide +kernel
theorem dX6_dropped_46 : decode cX6_dropped 46 = .ok (.iload_n 1, 1) := by decide +kernel
theorem dX6_dropped_47 : decode cX6_dropped 47 = .ok (.iaload, 1) := by decide +kernel
theorem dX6_dropped_48 : decode cX6_dropped 48 = .ok (.ireturn, 1) := by decide +kernel
set_option maxRecDepth 20000 in
theorem ggX6_slept_X1_rest : GoodIn wsX6_slept wsX1_rest := goodIn_r _ [7, 8, 9, 10, 11, 12, 13, 14, 25, 26, 27, 28, 29, 30, 31, 32, 33, 34, 35, 36, 37] (by decide +kernel) (by decide +kernel)
set_option maxRecDepth 20000 in
theorem gX6_slept_X1_rest : GoodIn wsX6_slept (wsV RX6 167 RX1 yX1_rest wsX1_rest) := goodIn_app (goodIn_of _ (by decide +kernel)) ggX6_slept_X1_rest
theorem dX6_slept_0 : decode cX6_slept 0 = .ok (.aload_n 0, 1) := by decide +kernel
theorem dX6_slept_1 : decode cX6_slept 1 = .ok (.getfield 38, 3) := by decide +kernel
theorem dX6_slept_4 : decode cX6_slept 4 = .ok (.getfield 164, 3) := by decide +kernel
theorem dX6_slept_7 : decode cX6_slept 7 = .ok (.bipush 99, 2) := by decide +kernel
theorem dX6_slept_9 : decode cX6_slept 9 = .ok (.if_icmp .lt 6, 3) := by decide +kernel
theorem dX6_slept_12 : decode cX6_slept 12 = .ok (.bipush (-2), 2) := by decide +kernel
theorem dX6_slept_14 : decode cX6_slept 14 = .ok (.ireturn, 1) := by decide +kernel
theorem dX6_slept_15 : decode cX6_slept 15 = .ok (.aload_n 0, 1) := by decide +kernel
theorem dX6_slept_16 : decode cX6_slept 16 = .ok (.getfield 38, 3) := by decide +kernel
theorem dX6_slept_19 : decode cX6_slept 19 = .ok (.aload_n 0, 1) := by decide +kernel
theorem dX6_slept_20 : decode cX6_slept 20 = .ok (.getfield 19, 3) := by decide +kernel
theorem dX6_slept_23 : decode cX6_slept 23 = .ok (.invokevirtual 167, 3) := by decide +kernel
theorem dX6_slept_26 : decode cX6_slept 26 = .ok (.aload_n 0, 1) := by decide +kernel
theorem dX6_slept_27 : decode cX6_slept 27 = .ok (.getfield 38, 3) := by decide +kernel
theorem dX6_slept_30 : decode cX6_slept 30 = .ok (.dup, 1) := by decide +kernel
theorem dX6_slept_31 : decode cX6_slept 31 = .ok (.getfield 164, 3) := by decide +kernel
theorem dX6_slept_34 : decode cX6_slept 34 = .ok (.iconst 1, 1) := by decide +kernel
theorem dX6_slept_35 : decode cX6_slept 35 = .ok (.iadd, 1) := by decide +kernel
theorem dX6_slept_36 : decode cX6_slept 36 = .ok (.putfield 164, 3) := by decide +kernel
theorem dX6_slept_39 : decode cX6_slept 39 = .ok (.aload_n 0, 1) := by decide +kernel
theorem dX6_slept_40 : decode cX6_slept 40 = .ok (.getfield 38, 3) := by decide +kernel
theorem dX6_slept_43 : decode cX6_slept 43 = .ok (.getfield 164, 3) := by decide +kernel
theorem dX6_slept_46 : decode cX6_slept 46 = .ok (.ireturn, 1) := by decide +kernel
set_option maxRecDepth 20000 in
theorem ggX6_fewest_X5_isBarred : GoodIn wsX6_fewest wsX5_isBarred := goodIn_r _ [6, 7, 8, 9, 5, 10, 11, 12, 13, 14, 15, 16, 17, 18, 19, 20, 21, 22, 23, 24, 25, 74, 75, 76, 77, 78, 79, 80, 81, 82, 83, 84, 85, 86, 87, 88, 89] (by decide +kernel) (by decide +kernel)
set_option maxRecDepth 20000 in
theorem gX6_fewest_X5_isBarred : GoodIn wsX6_fewest (wsV RX6 170 RX5 yX5_isBarred wsX5_isBarred) := goodIn_app (goodIn_of _ (by decide +kernel)) ggX6_fewest_X5_isBarred
set_option maxRecDepth 20000 in
theorem ggX6_fewest_X5_fewestLifts : GoodIn wsX6_fewest wsX5_fewestLifts := goodIn_r _ [29, 11, 30, 31, 32, 33, 34, 35, 36, 5, 37, 12, 13, 14, 15, 16, 17, 18, 38, 39, 40, 41, 23, 24, 25, 42, 43, 44, 45, 46, 47, 48, 49, 50, 51, 52, 53, 54, 55, 56, 57, 58, 59, 74, 75, 76, 77, 78, 79, 80, 81, 82, 83, 84, 85, 86, 87, 88, 89] (by decide +kernel) (by decide +kernel)
set_option maxRecDepth 20000 in
theorem gX6_fewest_X5_fewestLifts : GoodIn wsX6_fewest (wsV RX6 174 RX5 yX5_fewestLifts wsX5_fewestLifts) := goodIn_app (goodIn_of _ (by decide +kernel)) ggX6_fewest_X5_fewestLifts
set_option maxRecDepth 20000 in
theorem ggX6_fewest_X5_newBundles : GoodIn wsX6_fewest wsX5_newBundles := goodIn_r _ [63, 11, 52, 53, 54, 5, 55, 12, 42, 43, 44, 45, 46, 47, 48, 49, 50, 32, 51, 23, 24, 25, 56, 57, 58, 59, 74, 75, 76, 77, 78, 79, 80, 81, 82, 83, 84, 85, 86, 87, 88, 89] (by decide +kernel) (by decide +kernel)
set_option maxRecDepth 20000 in
theorem gX6_fewest_X5_newBundles : GoodIn wsX6_fewest (wsV RX6 177 RX5 yX5_newBundles wsX5_newBundles) := goodIn_app (goodIn_of _ (by decide +kernel)) ggX6_fewest_X5_newBundles
theorem dX6_fewest_0 : decode cX6_fewest 0 = .ok (.iload_n 1, 1) := by decide +kernel
theorem dX6_fewest_1 : decode cX6_fewest 1 = .ok (.ifCond .eq 10, 3) := by decide +kernel
theorem dX6_fewest_4 : decode cX6_fewest 4 = .ok (.iload_n 1, 1) := by decide +kernel
theorem dX6_fewest_5 : decode cX6_fewest 5 = .ok (.iconst 1, 1) := by decide +kernel
theorem dX6_fewest_6 : decode cX6_fewest 6 = .ok (.if_icmp .eq 5, 3) := by decide +kernel
theorem dX6_fewest_9 : decode cX6_fewest 9 = .ok (.iconst (-1), 1) := by decide +kernel
theorem dX6_fewest_10 : decode cX6_fewest 10 = .ok (.ireturn, 1) := by decide +kernel
theorem dX6_fewest_11 : decode cX6_fewest 11 = .ok (.aload_n 0, 1) := by decide +kernel
theorem dX6_fewest_12 : decode cX6_fewest 12 = .ok (.getfield 53, 3) := by decide +kernel
theorem dX6_fewest_15 : decode cX6_fewest 15 = .ok (.invokevirtual 170, 3) := by decide +kernel
theorem dX6_fewest_18 : decode cX6_fewest 18 = .ok (.ifCond .eq 6, 3) := by decide +kernel
theorem dX6_fewest_21 : decode cX6_fewest 21 = .ok (.bipush (-9), 2) := by decide +kernel
theorem dX6_fewest_23 : decode cX6_fewest 23 = .ok (.ireturn, 1) := by decide +kernel
theorem dX6_fewest_24 : decode cX6_fewest 24 = .ok (.iload_n 1, 1) := by decide +kernel
theorem dX6_fewest_25 : decode cX6_fewest 25 = .ok (.ifCond .ne 13, 3) := by decide +kernel
theorem dX6_fewest_28 : decode cX6_fewest 28 = .ok (.aload_n 0, 1) := by decide +kernel
theorem dX6_fewest_29 : decode cX6_fewest 29 = .ok (.getfield 53, 3) := by decide +kernel
theorem dX6_fewest_32 : decode cX6_fewest 32 = .ok (.invokevirtual 174, 3) := by decide +kernel
theorem dX6_fewest_35 : decode cX6_fewest 35 = .ok (.goto 10, 3) := by decide +kernel
theorem dX6_fewest_38 : decode cX6_fewest 38 = .ok (.aload_n 0, 1) := by decide +kernel
theorem dX6_fewest_39 : decode cX6_fewest 39 = .ok (.getfield 53, 3) := by decide +kernel
theorem dX6_fewest_42 : decode cX6_fewest 42 = .ok (.invokevirtual 177, 3) := by decide +kernel
theorem dX6_fewest_45 : decode cX6_fewest 45 = .ok (.ireturn, 1) := by decide +kernel
set_option maxRecDepth 20000 in
theorem ggX6_can_X5_isBarred : GoodIn wsX6_can wsX5_isBarred := goodIn_r _ [6, 7, 8, 9, 5, 10, 11, 12, 13, 14, 15, 16, 17, 18, 19, 20, 21, 22, 23, 24, 25, 95, 96, 97, 98, 99, 100, 101, 102, 103, 104, 105, 106, 107, 108, 109, 110] (by decide +kernel) (by decide +kernel)
set_option maxRecDepth 20000 in
theorem gX6_can_X5_isBarred : GoodIn wsX6_can (wsV RX6 170 RX5 yX5_isBarred wsX5_isBarred) := goodIn_app (goodIn_of _ (by decide +kernel)) ggX6_can_X5_isBarred
set_option maxRecDepth 20000 in
theorem ggX6_can_X5_canBeDone : GoodIn wsX6_can wsX5_canBeDone := goodIn_r _ [29, 30, 31, 32, 5, 33, 34, 11, 12, 35, 36, 37, 38, 39, 40, 41, 42, 43, 44, 45, 16, 46, 18, 13, 14, 15, 17, 47, 48, 49, 50, 23, 24, 25, 51, 52, 53, 54, 55, 56, 57, 58, 59, 60, 61, 62, 63, 64, 65, 66, 67, 68, 69, 70, 71, 72, 73, 74, 75, 76, 77, 78, 79, 80, 81, 82, 83, 84, 95, 96, 97, 98, 99, 100, 101, 102, 103, 104, 105, 106, 107, 108, 109, 110] (by decide +kernel) (by decide +kernel)
set_option maxRecDepth 20000 in
theorem gX6_can_X5_canBeDone : GoodIn wsX6_can (wsV RX6 180 RX5 yX5_canBeDone wsX5_canBeDone) := goodIn_app (goodIn_of _ (by decide +kernel)) ggX6_can_X5_canBeDone
theorem dX6_can_0 : decode cX6_can 0 = .ok (.aload_n 0, 1) := by decide +kernel
theorem dX6_can_1 : decode cX6_can 1 = .ok (.getfield 53, 3) := by decide +kernel
theorem dX6_can_4 : decode cX6_can 4 = .ok (.invokevirtual 170, 3) := by decide +kernel
theorem dX6_can_7 : decode cX6_can 7 = .ok (.ifCond .eq 6, 3) := by decide +kernel
theorem dX6_can_10 : decode cX6_can 10 = .ok (.bipush (-9), 2) := by decide +kernel
theorem dX6_can_12 : decode cX6_can 12 = .ok (.ireturn, 1) := by decide +kernel
theorem dX6_can_13 : decode cX6_can 13 = .ok (.aload_n 0, 1) := by decide +kernel
theorem dX6_can_14 : decode cX6_can 14 = .ok (.getfield 53, 3) := by decide +kernel
theorem dX6_can_17 : decode cX6_can 17 = .ok (.invokevirtual 180, 3) := by decide +kernel
theorem dX6_can_20 : decode cX6_can 20 = .ok (.ifCond .eq 7, 3) := by decide +kernel
theorem dX6_can_23 : decode cX6_can 23 = .ok (.iconst 1, 1) := by decide +kernel
theorem dX6_can_24 : decode cX6_can 24 = .ok (.goto 4, 3) := by decide +kernel
theorem dX6_can_27 : decode cX6_can 27 = .ok (.iconst 0, 1) := by decide +kernel
theorem dX6_can_28 : decode cX6_can 28 = .ok (.ireturn, 1) := by decide +kernel
set_option maxRecDepth 20000 in
theorem ggX6_cheap_X5_isBarred : GoodIn wsX6_cheap wsX5_isBarred := goodIn_r _ [6, 7, 8, 9, 5, 10, 11, 12, 13, 14, 15, 16, 17, 18, 19, 20, 21, 22, 23, 24, 25, 95, 96, 97, 98, 99, 100, 101, 102, 103, 104, 105, 106, 107, 108, 109, 110] (by decide +kernel) (by decide +kernel)
set_option maxRecDepth 20000 in
theorem gX6_cheap_X5_isBarred : GoodIn wsX6_cheap (wsV RX6 170 RX5 yX5_isBarred wsX5_isBarred) := goodIn_app (goodIn_of _ (by decide +kernel)) ggX6_cheap_X5_isBarred
set_option maxRecDepth 20000 in
theorem ggX6_cheap_X5_leastCost : GoodIn wsX6_cheap wsX5_leastCost := goodIn_r _ [29, 11, 30, 31, 32, 5, 33, 34, 12, 35, 36, 37, 38, 39, 40, 41, 42, 43, 44, 45, 16, 46, 18, 13, 14, 15, 17, 47, 48, 49, 50, 23, 24, 25, 51, 52, 53, 54, 55, 56, 57, 58, 59, 60, 61, 62, 63, 64, 65, 66, 67, 68, 69, 70, 71, 72, 73, 74, 75, 76, 77, 78, 79, 80, 81, 82, 83, 84, 95, 96, 97, 98, 99, 100, 101, 102, 103, 104, 105, 106, 107, 108, 109, 110] (by decide +kernel) (by decide +kernel)
set_option maxRecDepth 20000 in
theorem gX6_cheap_X5_leastCost : GoodIn wsX6_cheap (wsV RX6 183 RX5 yX5_leastCost wsX5_leastCost) := goodIn_app (goodIn_of _ (by decide +kernel)) ggX6_cheap_X5_leastCost
theorem dX6_cheap_0 : decode cX6_cheap 0 = .ok (.aload_n 0, 1) := by decide +kernel
theorem dX6_cheap_1 : decode cX6_cheap 1 = .ok (.getfield 53, 3) := by decide +kernel
theorem dX6_cheap_4 : decode cX6_cheap 4 = .ok (.invokevirtual 170, 3) := by decide +kernel
theorem dX6_cheap_7 : decode cX6_cheap 7 = .ok (.ifCond .eq 8, 3) := by decide +kernel
theorem dX6_cheap_10 : decode cX6_cheap 10 = .ok (.bipush (-9), 2) := by decide +kernel
theorem dX6_cheap_12 : decode cX6_cheap 12 = .ok (.goto 10, 3) := by decide +kernel
theorem dX6_cheap_15 : decode cX6_cheap 15 = .ok (.aload_n 0, 1) := by decide +kernel
theorem dX6_cheap_16 : decode cX6_cheap 16 = .ok (.getfield 53, 3) := by decide +kernel
theorem dX6_cheap_19 : decode cX6_cheap 19 = .ok (.invokevirtual 183, 3) := by decide +kernel
theorem dX6_cheap_22 : decode cX6_cheap 22 = .ok (.ireturn, 1) := by decide +kernel
set_option maxRecDepth 20000 in
theorem ggX6_leastPeople_X5_isBarred : GoodIn wsX6_leastPeople wsX5_isBarred := goodIn_r _ [6, 7, 8, 9, 5, 10, 11, 12, 13, 14, 15, 16, 17, 18, 19, 20, 21, 22, 23, 24, 25, 95, 96, 97, 98, 99, 100, 101, 102, 103, 104, 105, 106, 107, 108, 109, 110] (by decide +kernel) (by decide +kernel)
set_option maxRecDepth 20000 in
theorem gX6_leastPeople_X5_isBarred : GoodIn wsX6_leastPeople (wsV RX6 170 RX5 yX5_isBarred wsX5_isBarred) := goodIn_app (goodIn_of _ (by decide +kernel)) ggX6_leastPeople_X5_isBarred
set_option maxRecDepth 20000 in
theorem ggX6_leastPeople_X5_leastSet : GoodIn wsX6_leastPeople wsX5_leastSet := goodIn_r _ [29, 30, 31, 32, 5, 33, 34, 11, 12, 35, 36, 37, 38, 39, 40, 41, 42, 43, 44, 45, 16, 46, 18, 13, 14, 15, 17, 47, 48, 49, 50, 23, 24, 25, 51, 52, 53, 54, 55, 56, 57, 58, 59, 60, 61, 62, 63, 64, 65, 66, 67, 68, 69, 70, 71, 72, 73, 74, 75, 76, 77, 78, 79, 80, 81, 82, 83, 84, 95, 96, 97, 98, 99, 100, 101, 102, 103, 104, 105, 106, 107, 108, 109, 110] (by decide +kernel) (by decide +kernel)
set_option maxRecDepth 20000 in
theorem gX6_leastPeople_X5_leastSet : GoodIn wsX6_leastPeople (wsV RX6 186 RX5 yX5_leastSet wsX5_leastSet) := goodIn_app (goodIn_of _ (by decide +kernel)) ggX6_leastPeople_X5_leastSet
theorem dX6_leastPeople_0 : decode cX6_leastPeople 0 = .ok (.aload_n 0, 1) := by decide +kernel
theorem dX6_leastPeople_1 : decode cX6_leastPeople 1 = .ok (.getfield 53, 3) := by decide +kernel
theorem dX6_leastPeople_4 : decode cX6_leastPeople 4 = .ok (.invokevirtual 170, 3) := by decide +kernel
theorem dX6_leastPeople_7 : decode cX6_leastPeople 7 = .ok (.ifCond .eq 8, 3) := by decide +kernel
theorem dX6_leastPeople_10 : decode cX6_leastPeople 10 = .ok (.bipush (-9), 2) := by decide +kernel
theorem dX6_leastPeople_12 : decode cX6_leastPeople 12 = .ok (.goto 10, 3) := by decide +kernel
theorem dX6_leastPeople_15 : decode cX6_leastPeople 15 = .ok (.aload_n 0, 1) := by decide +kernel
theorem dX6_leastPeople_16 : decode cX6_leastPeople 16 = .ok (.getfield 53, 3) := by decide +kernel
theorem dX6_leastPeople_19 : decode cX6_leastPeople 19 = .ok (.invokevirtual 186, 3) := by decide +kernel
theorem dX6_leastPeople_22 : decode cX6_leastPeople 22 = .ok (.ireturn, 1) := by decide +kernel
set_option maxRecDepth 20000 in
theorem ggX6_lost_X5_isBarred : GoodIn wsX6_lost wsX5_isBarred := goodIn_r _ [6, 7, 8, 9, 5, 10, 11, 12, 13, 14, 15, 16, 17, 18, 19, 20, 21, 22, 23, 24, 25, 67, 68, 69, 70, 71, 72, 73, 74, 75, 76, 77, 78, 79, 80, 81, 82] (by decide +kernel) (by decide +kernel)
set_option maxRecDepth 20000 in
theorem gX6_lost_X5_isBarred : GoodIn wsX6_lost (wsV RX6 170 RX5 yX5_isBarred wsX5_isBarred) := goodIn_app (goodIn_of _ (by decide +kernel)) ggX6_lost_X5_isBarred
set_option maxRecDepth 20000 in
theorem ggX6_lost_X5_lostThings : GoodIn wsX6_lost wsX5_lostThings := goodIn_r _ [29, 12, 11, 30, 31, 32, 16, 33, 34, 35, 36, 37, 38, 39, 40, 41, 13, 14, 15, 17, 18, 42, 43, 44, 5, 45, 23, 24, 25, 46, 47, 48, 49, 50, 51, 52, 53, 54, 55, 56, 67, 68, 69, 70, 71, 72, 73, 74, 75, 76, 77, 78, 79, 80, 81, 82] (by decide +kernel) (by decide +kernel)
set_option maxRecDepth 20000 in
theorem gX6_lost_X5_lostThings : GoodIn wsX6_lost (wsV RX6 189 RX5 yX5_lostThings wsX5_lostThings) := goodIn_app (goodIn_of _ (by decide +kernel)) ggX6_lost_X5_lostThings
theorem dX6_lost_0 : decode cX6_lost 0 = .ok (.aload_n 0, 1) := by decide +kernel
theorem dX6_lost_1 : decode cX6_lost 1 = .ok (.getfield 53, 3) := by decide +kernel
theorem dX6_lost_4 : decode cX6_lost 4 = .ok (.invokevirtual 170, 3) := by decide +kernel
theorem dX6_lost_7 : decode cX6_lost 7 = .ok (.ifCond .eq 8, 3) := by decide +kernel
theorem dX6_lost_10 : decode cX6_lost 10 = .ok (.bipush (-9), 2) := by decide +kernel
theorem dX6_lost_12 : decode cX6_lost 12 = .ok (.goto 10, 3) := by decide +kernel
theorem dX6_lost_15 : decode cX6_lost 15 = .ok (.aload_n 0, 1) := by decide +kernel
theorem dX6_lost_16 : decode cX6_lost 16 = .ok (.getfield 53, 3) := by decide +kernel
theorem dX6_lost_19 : decode cX6_lost 19 = .ok (.invokevirtual 189, 3) := by decide +kernel
theorem dX6_lost_22 : decode cX6_lost 22 = .ok (.ireturn, 1) := by decide +kernel
set_option maxRecDepth 20000 in
theorem ggX6_due_X5_dueJobs : GoodIn wsX6_due wsX5_dueJobs := goodIn_r _ [6, 7, 8, 9, 10, 5, 11, 12, 13, 14, 15, 16, 17, 18, 19, 20, 21, 22, 23, 24, 25, 26, 27, 28, 29, 48, 49, 50, 51, 52, 53, 54, 55, 56, 57, 58, 59, 60, 61, 62, 63] (by decide +kernel) (by decide +kernel)
set_option maxRecDepth 20000 in
theorem gX6_due_X5_dueJobs : GoodIn wsX6_due (wsV RX6 192 RX5 yX5_dueJobs wsX5_dueJobs) := goodIn_app (goodIn_of _ (by decide +kernel)) ggX6_due_X5_dueJobs
set_option maxRecDepth 20000 in
theorem ggX6_due_X5_barredThings : GoodIn wsX6_due wsX5_barredThings := goodIn_r _ [33, 7, 12, 19, 20, 21, 16, 22, 18, 34, 35, 36, 5, 37, 27, 28, 29, 48, 49, 50, 51, 52, 53, 54, 55, 56, 57, 58, 59, 60, 61, 62, 63] (by decide +kernel) (by decide +kernel)
set_option maxRecDepth 20000 in
theorem gX6_due_X5_barredThings : GoodIn wsX6_due (wsV RX6 195 RX5 yX5_barredThings wsX5_barredThings) := goodIn_app (goodIn_of _ (by decide +kernel)) ggX6_due_X5_barredThings
theorem dX6_due_0 : decode cX6_due 0 = .ok (.iload_n 1, 1) := by decide +kernel
theorem dX6_due_1 : decode cX6_due 1 = .ok (.lookupswitch 43 #[(0, 27), (1, 35)], 27) := by decide +kernel
theorem dX6_due_28 : decode cX6_due 28 = .ok (.aload_n 0, 1) := by decide +kernel
theorem dX6_due_29 : decode cX6_due 29 = .ok (.getfield 53, 3) := by decide +kernel
theorem dX6_due_32 : decode cX6_due 32 = .ok (.invokevirtual 192, 3) := by decide +kernel
theorem dX6_due_35 : decode cX6_due 35 = .ok (.ireturn, 1) := by decide +kernel
theorem dX6_due_36 : decode cX6_due 36 = .ok (.aload_n 0, 1) := by decide +kernel
theorem dX6_due_37 : decode cX6_due 37 = .ok (.getfield 53, 3) := by decide +kernel
theorem dX6_due_40 : decode cX6_due 40 = .ok (.invokevirtual 195, 3) := by decide +kernel
theorem dX6_due_43 : decode cX6_due 43 = .ok (.ireturn, 1) := by decide +kernel
theorem dX6_due_44 : decode cX6_due 44 = .ok (.iconst (-1), 1) := by decide +kernel
theorem dX6_due_45 : decode cX6_due 45 = .ok (.ireturn, 1) := by decide +kernel
set_option maxRecDepth 20000 in
theorem ggX6_moved_X6_isImage : GoodIn wsX6_moved wsX6_isImage := goodIn_r _ [7] (by decide +kernel) (by decide +kernel)
set_option maxRecDepth 20000 in
theorem gX6_moved_X6_isImage : GoodIn wsX6_moved (va_wsS RX6 198 yX6_isImage wsX6_isImage) := goodIn_app (goodIn_of _ (by decide +kernel)) ggX6_moved_X6_isImage
set_option maxRecDepth 20000 in
theorem ggX6_moved_X6_imageOf : GoodIn wsX6_moved wsX6_imageOf := goodIn_r _ [11, 12, 13, 45, 46, 47, 48, 49, 50, 51, 52, 53, 54] (by decide +kernel) (by decide +kernel)
set_option maxRecDepth 20000 in
theorem gX6_moved_X6_imageOf : GoodIn wsX6_moved (wsV RX6 201 RX6 yX6_imageOf wsX6_imageOf) := goodIn_app (goodIn_of _ (by decide +kernel)) ggX6_moved_X6_imageOf
set_option maxRecDepth 20000 in
theorem ggX6_moved_X1_elsewhereThan : GoodIn wsX6_moved wsX1_elsewhereThan := goodIn_r _ [18, 19, 40, 41, 42, 43, 44] (by decide +kernel) (by decide +kernel)
set_option maxRecDepth 20000 in
theorem gX6_moved_X1_elsewhereThan : GoodIn wsX6_moved (wsV RX6 205 RX1 yX1_elsewhereThan wsX1_elsewhereThan) := goodIn_app (goodIn_of _ (by decide +kernel)) ggX6_moved_X1_elsewhereThan
set_option maxRecDepth 20000 in
theorem ggX6_moved_J6_bitCount_0f7a4 : GoodIn wsX6_moved wsJ6_bitCount_0f7a4 := goodIn_r _ [23, 24, 25, 26] (by decide +kernel) (by decide +kernel)
set_option maxRecDepth 20000 in
theorem gX6_moved_J6_bitCount_0f7a4 : GoodIn wsX6_moved (va_wsS RX6 133 yJ6_bitCount_0f7a4 wsJ6_bitCount_0f7a4) := goodIn_app (goodIn_of _ (by decide +kernel)) ggX6_moved_J6_bitCount_0f7a4
set_option maxRecDepth 20000 in
theorem ggX6_moved_X4_ofCarrying : GoodIn wsX6_moved wsX4_ofCarrying := goodIn_r _ [31, 32, 33, 34, 35, 30, 36, 37, 38, 39, 55, 56, 57, 58, 59, 60, 61, 62, 63] (by decide +kernel) (by decide +kernel)
set_option maxRecDepth 20000 in
theorem gX6_moved_X4_ofCarrying : GoodIn wsX6_moved (wsV RX6 209 RX4 yX4_ofCarrying wsX4_ofCarrying) := goodIn_app (goodIn_of _ (by decide +kernel)) ggX6_moved_X4_ofCarrying
theorem dX6_moved_0 : decode cX6_moved 0 = .ok (.iload_n 1, 1) := by decide +kernel
theorem dX6_moved_1 : decode cX6_moved 1 = .ok (.invokestatic 198, 3) := by decide +kernel
theorem dX6_moved_4 : decode cX6_moved 4 = .ok (.ifCond .eq 12, 3) := by decide +kernel
theorem dX6_moved_7 : decode cX6_moved 7 = .ok (.iload_n 2, 1) := by decide +kernel
theorem dX6_moved_8 : decode cX6_moved 8 = .ok (.ifCond .eq 10, 3) := by decide +kernel
theorem dX6_moved_11 : decode cX6_moved 11 = .ok (.iload_n 2, 1) := by decide +kernel
theorem dX6_moved_12 : decode cX6_moved 12 = .ok (.iconst 1, 1) := by decide +kernel
theorem dX6_moved_13 : decode cX6_moved 13 = .ok (.if_icmp .eq 5, 3) := by decide +kernel
theorem dX6_moved_16 : decode cX6_moved 16 = .ok (.iconst (-1), 1) := by decide +kernel
theorem dX6_moved_17 : decode cX6_moved 17 = .ok (.ireturn, 1) := by decide +kernel
theorem dX6_moved_18 : decode cX6_moved 18 = .ok (.aload_n 0, 1) := by decide +kernel
theorem dX6_moved_19 : decode cX6_moved 19 = .ok (.iload_n 1, 1) := by decide +kernel
theorem dX6_moved_20 : decode cX6_moved 20 = .ok (.invokevirtual 201, 3) := by decide +kernel
theorem dX6_moved_23 : decode cX6_moved 23 = .ok (.astore_n 3, 1) := by decide +kernel
theorem dX6_moved_24 : decode cX6_moved 24 = .ok (.aload_n 3, 1) := by decide +kernel
theorem dX6_moved_25 : decode cX6_moved 25 = .ok (.getfield 90, 3) := by decide +kernel
theorem dX6_moved_28 : decode cX6_moved 28 = .ok (.ifCond .ne 6, 3) := by decide +kernel
theorem dX6_moved_31 : decode cX6_moved 31 = .ok (.bipush (-2), 2) := by decide +kernel
theorem dX6_moved_33 : decode cX6_moved 33 = .ok (.ireturn, 1) := by decide +kernel
theorem dX6_moved_34 : decode cX6_moved 34 = .ok (.aload_n 0, 1) := by decide +kernel
theorem dX6_moved_35 : decode cX6_moved 35 = .ok (.getfield 38, 3) := by decide +kernel
theorem dX6_moved_38 : decode cX6_moved 38 = .ok (.aload_n 3, 1) := by decide +kernel
theorem dX6_moved_39 : decode cX6_moved 39 = .ok (.invokevirtual 205, 3) := by decide +kernel
theorem dX6_moved_42 : decode cX6_moved 42 = .ok (.istore 4, 2) := by decide +kernel
theorem dX6_moved_44 : decode cX6_moved 44 = .ok (.iload_n 2, 1) := by decide +kernel
theorem dX6_moved_45 : decode cX6_moved 45 = .ok (.ifCond .ne 8, 3) := by decide +kernel
theorem dX6_moved_48 : decode cX6_moved 48 = .ok (.iload 4, 2) := by decide +kernel
theorem dX6_moved_50 : decode cX6_moved 50 = .ok (.goto 19, 3) := by decide +kernel
theorem dX6_moved_53 : decode cX6_moved 53 = .ok (.aload_n 0, 1) := by decide +kernel
theorem dX6_moved_54 : decode cX6_moved 54 = .ok (.getfield 60, 3) := by decide +kernel
theorem dX6_moved_57 : decode cX6_moved 57 = .ok (.iload 4, 2) := by decide +kernel
theorem dX6_moved_59 : decode cX6_moved 59 = .ok (.invokestatic 133, 3) := by decide +kernel
theorem dX6_moved_62 : decode cX6_moved 62 = .ok (.aload_n 0, 1) := by decide +kernel
theorem dX6_moved_63 : decode cX6_moved 63 = .ok (.getfield 19, 3) := by decide +kernel
theorem dX6_moved_66 : decode cX6_moved 66 = .ok (.invokevirtual 209, 3) := by decide +kernel
theorem dX6_moved_69 : decode cX6_moved 69 = .ok (.ireturn, 1) := by decide +kernel
set_option maxRecDepth 20000 in
theorem ggX6_chain_X0_hasRoom : GoodIn wsX6_chain wsX0_hasRoom := goodIn_r _ [7, 8, 44, 45, 46, 47, 48, 49, 50, 51] (by decide +kernel) (by decide +kernel)
set_option maxRecDepth 20000 in
theorem gX6_chain_X0_hasRoom : GoodIn wsX6_chain (wsV RX6 126 RX0 yX0_hasRoom wsX0_hasRoom) := goodIn_app (goodIn_of _ (by decide +kernel)) ggX6_chain_X0_hasRoom
set_option maxRecDepth 20000 in
theorem ggX6_chain_X0_mostLifts : GoodIn wsX6_chain wsX0_mostLifts := goodIn_r _ [12, 13, 14, 15, 16, 17, 18, 44, 45, 46, 47, 48, 49, 50, 51] (by decide +kernel) (by decide +kernel)
set_option maxRecDepth 20000 in
theorem gX6_chain_X0_mostLifts : GoodIn wsX6_chain (wsV RX6 213 RX0 yX0_mostLifts wsX0_mostLifts) := goodIn_app (goodIn_of _ (by decide +kernel)) ggX6_chain_X0_mostLifts
set_option maxRecDepth 20000 in
theorem ggX6_chain_X1_thingsIn : GoodIn wsX6_chain wsX1_thingsIn := goodIn_r _ [23, 24, 52, 53, 54, 55, 56] (by decide +kernel) (by decide +kernel)
set_option maxRecDepth 20000 in
theorem gX6_chain_X1_thingsIn : GoodIn wsX6_chain (wsV RX6 216 RX1 yX1_thingsIn wsX1_thingsIn) := goodIn_app (goodIn_of _ (by decide +kernel)) ggX6_chain_X1_thingsIn
set_option maxRecDepth 20000 in
theorem ggX6_chain_X0_handsTogether : GoodIn wsX6_chain wsX0_handsTogether := goodIn_r _ [28, 29, 30, 31, 32, 33, 44, 45, 46, 47, 48, 49, 50, 51] (by decide +kernel) (by decide +kernel)
set_option maxRecDepth 20000 in
theorem gX6_chain_X0_handsTogether : GoodIn wsX6_chain (wsV RX6 219 RX0 yX0_handsTogether wsX0_handsTogether) := goodIn_app (goodIn_of _ (by decide +kernel)) ggX6_chain_X0_handsTogether
theorem dX6_chain_0 : decode cX6_chain 0 = .ok (.aload_n 0, 1) := by decide +kernel
theorem dX6_chain_1 : decode cX6_chain 1 = .ok (.getfield 19, 3) := by decide +kernel
theorem dX6_chain_4 : decode cX6_chain 4 = .ok (.iload_n 1, 1) := by decide +kernel
theorem dX6_chain_5 : decode cX6_chain 5 = .ok (.invokevirtual 126, 3) := by decide +kernel
theorem dX6_chain_8 : decode cX6_chain 8 = .ok (.ifCond .eq 14, 3) := by decide +kernel
theorem dX6_chain_11 : decode cX6_chain 11 = .ok (.iload_n 2, 1) := by decide +kernel
theorem dX6_chain_12 : decode cX6_chain 12 = .ok (.iconst 1, 1) := by decide +kernel
theorem dX6_chain_13 : decode cX6_chain 13 = .ok (.if_icmp .lt 9, 3) := by decide +kernel
theorem dX6_chain_16 : decode cX6_chain 16 = .ok (.iload_n 2, 1) := by decide +kernel
theorem dX6_chain_17 : decode cX6_chain 17 = .ok (.bipush 9, 2) := by decide +kernel
theorem dX6_chain_19 : decode cX6_chain 19 = .ok (.if_icmp .le 5, 3) := by decide +kernel
theorem dX6_chain_22 : decode cX6_chain 22 = .ok (.iconst (-1), 1) := by decide +kernel
theorem dX6_chain_23 : decode cX6_chain 23 = .ok (.ireturn, 1) := by decide +kernel
theorem dX6_chain_24 : decode cX6_chain 24 = .ok (.aload_n 0, 1) := by decide +kernel
theorem dX6_chain_25 : decode cX6_chain 25 = .ok (.getfield 19, 3) := by decide +kernel
theorem dX6_chain_28 : decode cX6_chain 28 = .ok (.invokevirtual 213, 3) := by decide +kernel
theorem dX6_chain_31 : decode cX6_chain 31 = .ok (.istore_n 3, 1) := by decide +kernel
theorem dX6_chain_32 : decode cX6_chain 32 = .ok (.iload_n 3, 1) := by decide +kernel
theorem dX6_chain_33 : decode cX6_chain 33 = .ok (.iconst 1, 1) := by decide +kernel
theorem dX6_chain_34 : decode cX6_chain 34 = .ok (.if_icmp .ge 6, 3) := by decide +kernel
theorem dX6_chain_37 : decode cX6_chain 37 = .ok (.bipush (-9), 2) := by decide +kernel
theorem dX6_chain_39 : decode cX6_chain 39 = .ok (.ireturn, 1) := by decide +kernel
theorem dX6_chain_40 : decode cX6_chain 40 = .ok (.aload_n 0, 1) := by decide +kernel
theorem dX6_chain_41 : decode cX6_chain 41 = .ok (.getfield 19, 3) := by decide +kernel
theorem dX6_chain_44 : decode cX6_chain 44 = .ok (.aload_n 0, 1) := by decide +kernel
theorem dX6_chain_45 : decode cX6_chain 45 = .ok (.getfield 38, 3) := by decide +kernel
theorem dX6_chain_48 : decode cX6_chain 48 = .ok (.iload_n 1, 1) := by decide +kernel
theorem dX6_chain_49 : decode cX6_chain 49 = .ok (.invokevirtual 216, 3) := by decide +kernel
theorem dX6_chain_52 : decode cX6_chain 52 = .ok (.invokevirtual 219, 3) := by decide +kernel
theorem dX6_chain_55 : decode cX6_chain 55 = .ok (.istore 4, 2) := by decide +kernel
theorem dX6_chain_57 : decode cX6_chain 57 = .ok (.iload 4, 2) := by decide +kernel
theorem dX6_chain_59 : decode cX6_chain 59 = .ok (.iload_n 3, 1) := by decide +kernel
theorem dX6_chain_60 : decode cX6_chain 60 = .ok (.iadd, 1) := by decide +kernel
theorem dX6_chain_61 : decode cX6_chain 61 = .ok (.iconst 1, 1) := by decide +kernel
theorem dX6_chain_62 : decode cX6_chain 62 = .ok (.isub, 1) := by decide +kernel
theorem dX6_chain_63 : decode cX6_chain 63 = .ok (.iload_n 3, 1) := by decide +kernel
theorem dX6_chain_64 : decode cX6_chain 64 = .ok (.idiv, 1) := by decide +kernel
theorem dX6_chain_65 : decode cX6_chain 65 = .ok (.iload_n 2, 1) := by decide +kernel
theorem dX6_chain_66 : decode cX6_chain 66 = .ok (.imul, 1) := by decide +kernel
theorem dX6_chain_67 : decode cX6_chain 67 = .ok (.ireturn, 1) := by decide +kernel
set_option maxRecDepth 20000 in
theorem ggX6_rate_X0_hasPerson : GoodIn wsX6_rate wsX0_hasPerson := goodIn_r _ [7, 8, 51, 52, 53, 54, 55, 56, 57, 58] (by decide +kernel) (by decide +kernel)
set_option maxRecDepth 20000 in
theorem gX6_rate_X0_hasPerson : GoodIn wsX6_rate (wsV RX6 94 RX0 yX0_hasPerson wsX0_hasPerson) := goodIn_app (goodIn_of _ (by decide +kernel)) ggX6_rate_X0_hasPerson
set_option maxRecDepth 20000 in
theorem ggX6_rate_X6_asPerson : GoodIn wsX6_rate wsX6_asPerson := goodIn_r _ [13, 14, 15, 41, 42, 43, 44, 45, 46, 47, 48, 49, 50, 59, 60, 61, 62, 63] (by decide +kernel) (by decide +kernel)
set_option maxRecDepth 20000 in
theorem gX6_rate_X6_asPerson : GoodIn wsX6_rate (wsV RX6 223 RX6 yX6_asPerson wsX6_asPerson) := goodIn_app (goodIn_of _ (by decide +kernel)) ggX6_rate_X6_asPerson
set_option maxRecDepth 20000 in
theorem ggX6_rate_X6_asPorter : GoodIn wsX6_rate wsX6_asPorter := goodIn_r _ [19, 14, 20, 1, 9, 10, 11, 12, 13, 15, 41, 42, 43, 44, 45, 46, 47, 48, 49, 50, 51, 52, 53, 54, 55, 56, 57, 58, 59, 60, 61, 62, 63] (by decide +kernel) (by decide +kernel)
set_option maxRecDepth 20000 in
theorem gX6_rate_X6_asPorter : GoodIn wsX6_rate (wsV RX6 226 RX6 yX6_asPorter wsX6_asPorter) := goodIn_app (goodIn_of _ (by decide +kernel)) ggX6_rate_X6_asPorter
set_option maxRecDepth 20000 in
theorem ggX6_rate_X6_asThief : GoodIn wsX6_rate wsX6_asThief := goodIn_r _ [24, 14, 25, 1, 9, 10, 11, 12, 13, 15, 41, 42, 43, 44, 45, 46, 47, 48, 49, 50, 51, 52, 53, 54, 55, 56, 57, 58, 59, 60, 61, 62, 63] (by decide +kernel) (by decide +kernel)
set_option maxRecDepth 20000 in
theorem gX6_rate_X6_asThief : GoodIn wsX6_rate (wsV RX6 229 RX6 yX6_asThief wsX6_asThief) := goodIn_app (goodIn_of _ (by decide +kernel)) ggX6_rate_X6_asThief
set_option maxRecDepth 20000 in
theorem ggX6_rate_X6_asLawyer : GoodIn wsX6_rate wsX6_asLawyer := goodIn_r _ [29, 14, 30, 16, 17, 18, 12, 19, 20, 1, 9, 10, 11, 13, 15, 41, 42, 43, 44, 45, 46, 47, 48, 49, 50, 51, 52, 53, 54, 55, 56, 57, 58, 59, 60, 61, 62, 63] (by decide +kernel) (by decide +kernel)
set_option maxRecDepth 20000 in
theorem gX6_rate_X6_asLawyer : GoodIn wsX6_rate (wsV RX6 232 RX6 yX6_asLawyer wsX6_asLawyer) := goodIn_app (goodIn_of _ (by decide +kernel)) ggX6_rate_X6_asLawyer
set_option maxRecDepth 20000 in
theorem ggX6_rate_X6_asMaid : GoodIn wsX6_rate wsX6_asMaid := goodIn_r _ [34, 14, 35, 21, 22, 23, 12, 24, 25, 1, 9, 10, 11, 13, 15, 41, 42, 43, 44, 45, 46, 47, 48, 49, 50, 51, 52, 53, 54, 55, 56, 57, 58, 59, 60, 61, 62, 63] (by decide +kernel) (by decide +kernel)
set_option maxRecDepth 20000 in
theorem gX6_rate_X6_asMaid : GoodIn wsX6_rate (wsV RX6 235 RX6 yX6_asMaid wsX6_asMaid) := goodIn_app (goodIn_of _ (by decide +kernel)) ggX6_rate_X6_asMaid
set_option maxRecDepth 20000 in
theorem ggX6_rate_X6_asChild : GoodIn wsX6_rate wsX6_asChild := goodIn_r _ [39, 14, 40, 15, 9, 10, 11, 12, 13, 41, 42, 43, 44, 45, 46, 47, 48, 49, 50, 59, 60, 61, 62, 63] (by decide +kernel) (by decide +kernel)
set_option maxRecDepth 20000 in
theorem gX6_rate_X6_asChild : GoodIn wsX6_rate (wsV RX6 238 RX6 yX6_asChild wsX6_asChild) := goodIn_app (goodIn_of _ (by decide +kernel)) ggX6_rate_X6_asChild
theorem dX6_rate_0 : decode cX6_rate 0 = .ok (.aload_n 0, 1) := by decide +kernel
theorem dX6_rate_1 : decode cX6_rate 1 = .ok (.getfield 19, 3) := by decide +kernel
theorem dX6_rate_4 : decode cX6_rate 4 = .ok (.iload_n 2, 1) := by decide +kernel
theorem dX6_rate_5 : decode cX6_rate 5 = .ok (.invokevirtual 94, 3) := by decide +kernel
theorem dX6_rate_8 : decode cX6_rate 8 = .ok (.ifCond .ne 6, 3) := by decide +kernel
theorem dX6_rate_11 : decode cX6_rate 11 = .ok (.ldc 222, 2) := by decide +kernel
theorem dX6_rate_13 : decode cX6_rate 13 = .ok (.ireturn, 1) := by decide +kernel
theorem dX6_rate_14 : decode cX6_rate 14 = .ok (.iload_n 1, 1) := by decide +kernel
theorem dX6_rate_15 : decode cX6_rate 15 = .ok (.tableswitch 73 0 5 #[37, 43, 49, 55, 61, 67], 37) := by decide +kernel
theorem dX6_rate_52 : decode cX6_rate 52 = .ok (.aload_n 0, 1) := by decide +kernel
theorem dX6_rate_53 : decode cX6_rate 53 = .ok (.iload_n 2, 1) := by decide +kernel
theorem dX6_rate_54 : decode cX6_rate 54 = .ok (.invokevirtual 223, 3) := by decide +kernel
theorem dX6_rate_57 : decode cX6_rate 57 = .ok (.ireturn, 1) := by decide +kernel
theorem dX6_rate_58 : decode cX6_rate 58 = .ok (.aload_n 0, 1) := by decide +kernel
theorem dX6_rate_59 : decode cX6_rate 59 = .ok (.iload_n 2, 1) := by decide +kernel
theorem dX6_rate_60 : decode cX6_rate 60 = .ok (.invokevirtual 226, 3) := by decide +kernel
theorem dX6_rate_63 : decode cX6_rate 63 = .ok (.ireturn, 1) := by decide +kernel
theorem dX6_rate_64 : decode cX6_rate 64 = .ok (.aload_n 0, 1) := by decide +kernel
theorem dX6_rate_65 : decode cX6_rate 65 = .ok (.iload_n 2, 1) := by decide +kernel
theorem dX6_rate_66 : decode cX6_rate 66 = .ok (.invokevirtual 229, 3) := by decide +kernel
theorem dX6_rate_69 : decode cX6_rate 69 = .ok (.ireturn, 1) := by decide +kernel
theorem dX6_rate_70 : decode cX6_rate 70 = .ok (.aload_n 0, 1) := by decide +kernel
theorem dX6_rate_71 : decode cX6_rate 71 = .ok (.iload_n 2, 1) := by decide +kernel
theorem dX6_rate_72 : decode cX6_rate 72 = .ok (.invokevirtual 232, 3) := by decide +kernel
theorem dX6_rate_75 : decode cX6_rate 75 = .ok (.ireturn, 1) := by decide +kernel
theorem dX6_rate_76 : decode cX6_rate 76 = .ok (.aload_n 0, 1) := by decide +kernel
theorem dX6_rate_77 : decode cX6_rate 77 = .ok (.iload_n 2, 1) := by decide +kernel
theorem dX6_rate_78 : decode cX6_rate 78 = .ok (.invokevirtual 235, 3) := by decide +kernel
theorem dX6_rate_81 : decode cX6_rate 81 = .ok (.ireturn, 1) := by decide +kernel
theorem dX6_rate_82 : decode cX6_rate 82 = .ok (.aload_n 0, 1) := by decide +kernel
theorem dX6_rate_83 : decode cX6_rate 83 = .ok (.iload_n 2, 1) := by decide +kernel
theorem dX6_rate_84 : decode cX6_rate 84 = .ok (.invokevirtual 238, 3) := by decide +kernel
theorem dX6_rate_87 : decode cX6_rate 87 = .ok (.ireturn, 1) := by decide +kernel
theorem dX6_rate_88 : decode cX6_rate 88 = .ok (.ldc 222, 2) := by decide +kernel
theorem dX6_rate_90 : decode cX6_rate 90 = .ok (.ireturn, 1) := by decide +kernel
set_option maxRecDepth 20000 in
theorem ggX6_keep_X6_isImage : GoodIn wsX6_keep wsX6_isImage := goodIn_r _ [5] (by decide +kernel) (by decide +kernel)
set_option maxRecDepth 20000 in
theorem gX6_keep_X6_isImage : GoodIn wsX6_keep (va_wsS RX6 198 yX6_isImage wsX6_isImage) := goodIn_app (goodIn_of _ (by decide +kernel)) ggX6_keep_X6_isImage
set_option maxRecDepth 20000 in
theorem ggX6_keep_X6_imageOf : GoodIn wsX6_keep wsX6_imageOf := goodIn_r _ [9, 10, 11, 25, 26, 27, 28, 29, 30, 31, 32, 33, 34] (by decide +kernel) (by decide +kernel)
set_option maxRecDepth 20000 in
theorem gX6_keep_X6_imageOf : GoodIn wsX6_keep (wsV RX6 201 RX6 yX6_imageOf wsX6_imageOf) := goodIn_app (goodIn_of _ (by decide +kernel)) ggX6_keep_X6_imageOf
set_option maxRecDepth 20000 in
theorem ggX6_keep_X1_become : GoodIn wsX6_keep wsX1_become := goodIn_r _ [16, 17, 18, 19, 20, 21, 22, 23, 24, 35, 36, 37, 38, 39] (by decide +kernel) (by decide +kernel)
set_option maxRecDepth 20000 in
theorem gX6_keep_X1_become : GoodIn wsX6_keep (wsV RX6 241 RX1 yX1_become wsX1_become) := goodIn_app (goodIn_of _ (by decide +kernel)) ggX6_keep_X1_become
theorem dX6_keep_0 : decode cX6_keep 0 = .ok (.iload_n 1, 1) := by decide +kernel
theorem dX6_keep_1 : decode cX6_keep 1 = .ok (.invokestatic 198, 3) := by decide +kernel
theorem dX6_keep_4 : decode cX6_keep 4 = .ok (.ifCond .ne 5, 3) := by decide +kernel
theorem dX6_keep_7 : decode cX6_keep 7 = .ok (.iconst (-1), 1) := by decide +kernel
theorem dX6_keep_8 : decode cX6_keep 8 = .ok (.ireturn, 1) := by decide +kernel
theorem dX6_keep_9 : decode cX6_keep 9 = .ok (.aload_n 0, 1) := by decide +kernel
theorem dX6_keep_10 : decode cX6_keep 10 = .ok (.iload_n 1, 1) := by decide +kernel
theorem dX6_keep_11 : decode cX6_keep 11 = .ok (.invokevirtual 201, 3) := by decide +kernel
theorem dX6_keep_14 : decode cX6_keep 14 = .ok (.astore_n 2, 1) := by decide +kernel
theorem dX6_keep_15 : decode cX6_keep 15 = .ok (.aload_n 2, 1) := by decide +kernel
theorem dX6_keep_16 : decode cX6_keep 16 = .ok (.aload_n 0, 1) := by decide +kernel
theorem dX6_keep_17 : decode cX6_keep 17 = .ok (.getfield 38, 3) := by decide +kernel
theorem dX6_keep_20 : decode cX6_keep 20 = .ok (.invokevirtual 241, 3) := by decide +kernel
theorem dX6_keep_23 : decode cX6_keep 23 = .ok (.aload_n 2, 1) := by decide +kernel
theorem dX6_keep_24 : decode cX6_keep 24 = .ok (.iconst 1, 1) := by decide +kernel
theorem dX6_keep_25 : decode cX6_keep 25 = .ok (.putfield 90, 3) := by decide +kernel
theorem dX6_keep_28 : decode cX6_keep 28 = .ok (.aload_n 2, 1) := by decide +kernel
theorem dX6_keep_29 : decode cX6_keep 29 = .ok (.getfield 164, 3) := by decide +kernel
theorem dX6_keep_32 : decode cX6_keep 32 = .ok (.ireturn, 1) := by decide +kernel
set_option maxRecDepth 20000 in
theorem ggX6_back_X6_isImage : GoodIn wsX6_back wsX6_isImage := goodIn_r _ [5] (by decide +kernel) (by decide +kernel)
set_option maxRecDepth 20000 in
theorem gX6_back_X6_isImage : GoodIn wsX6_back (va_wsS RX6 198 yX6_isImage wsX6_isImage) := goodIn_app (goodIn_of _ (by decide +kernel)) ggX6_back_X6_isImage
set_option maxRecDepth 20000 in
theorem ggX6_back_X6_imageOf : GoodIn wsX6_back wsX6_imageOf := goodIn_r _ [9, 10, 11, 30, 31, 32, 33, 34, 35, 36, 37, 38, 39] (by decide +kernel) (by decide +kernel)
set_option maxRecDepth 20000 in
theorem gX6_back_X6_imageOf : GoodIn wsX6_back (wsV RX6 201 RX6 yX6_imageOf wsX6_imageOf) := goodIn_app (goodIn_of _ (by decide +kernel)) ggX6_back_X6_imageOf
set_option maxRecDepth 20000 in
theorem ggX6_back_X1_become : GoodIn wsX6_back wsX1_become := goodIn_r _ [16, 17, 18, 19, 20, 21, 22, 23, 24, 25, 26, 27, 28, 29] (by decide +kernel) (by decide +kernel)
set_option maxRecDepth 20000 in
theorem gX6_back_X1_become : GoodIn wsX6_back (wsV RX6 241 RX1 yX1_become wsX1_become) := goodIn_app (goodIn_of _ (by decide +kernel)) ggX6_back_X1_become
theorem dX6_back_0 : decode cX6_back 0 = .ok (.iload_n 1, 1) := by decide +kernel
theorem dX6_back_1 : decode cX6_back 1 = .ok (.invokestatic 198, 3) := by decide +kernel
theorem dX6_back_4 : decode cX6_back 4 = .ok (.ifCond .ne 5, 3) := by decide +kernel
theorem dX6_back_7 : decode cX6_back 7 = .ok (.iconst (-1), 1) := by decide +kernel
theorem dX6_back_8 : decode cX6_back 8 = .ok (.ireturn, 1) := by decide +kernel
theorem dX6_back_9 : decode cX6_back 9 = .ok (.aload_n 0, 1) := by decide +kernel
theorem dX6_back_10 : decode cX6_back 10 = .ok (.iload_n 1, 1) := by decide +kernel
theorem dX6_back_11 : decode cX6_back 11 = .ok (.invokevirtual 201, 3) := by decide +kernel
theorem dX6_back_14 : decode cX6_back 14 = .ok (.astore_n 2, 1) := by decide +kernel
theorem dX6_back_15 : decode cX6_back 15 = .ok (.aload_n 2, 1) := by decide +kernel
theorem dX6_back_16 : decode cX6_back 16 = .ok (.getfield 90, 3) := by decide +kernel
theorem dX6_back_19 : decode cX6_back 19 = .ok (.ifCond .ne 6, 3) := by decide +kernel
theorem dX6_back_22 : decode cX6_back 22 = .ok (.bipush (-2), 2) := by decide +kernel
theorem dX6_back_24 : decode cX6_back 24 = .ok (.ireturn, 1) := by decide +kernel
theorem dX6_back_25 : decode cX6_back 25 = .ok (.aload_n 0, 1) := by decide +kernel
theorem dX6_back_26 : decode cX6_back 26 = .ok (.getfield 38, 3) := by decide +kernel
theorem dX6_back_29 : decode cX6_back 29 = .ok (.aload_n 2, 1) := by decide +kernel
theorem dX6_back_30 : decode cX6_back 30 = .ok (.invokevirtual 241, 3) := by decide +kernel
theorem dX6_back_33 : decode cX6_back 33 = .ok (.aload_n 0, 1) := by decide +kernel
theorem dX6_back_34 : decode cX6_back 34 = .ok (.getfield 38, 3) := by decide +kernel
theorem dX6_back_37 : decode cX6_back 37 = .ok (.getfield 164, 3) := by decide +kernel
theorem dX6_back_40 : decode cX6_back 40 = .ok (.ireturn, 1) := by decide +kernel
set_option maxRecDepth 20000 in
theorem ggX6_count_X0_tasks : GoodIn wsX6_count wsX0_tasks := goodIn_r _ [8, 9, 10, 27, 28, 29, 30, 31, 32, 33, 34] (by decide +kernel) (by decide +kernel)
set_option maxRecDepth 20000 in
theorem gX6_count_X0_tasks : GoodIn wsX6_count (wsV RX6 253 RX0 yX0_tasks wsX0_tasks) := goodIn_app (goodIn_of _ (by decide +kernel)) ggX6_count_X0_tasks
set_option maxRecDepth 20000 in
theorem ggX6_count_X1_bundles : GoodIn wsX6_count wsX1_bundles := goodIn_r _ [15, 16, 35, 36, 37, 38, 39] (by decide +kernel) (by decide +kernel)
set_option maxRecDepth 20000 in
theorem gX6_count_X1_bundles : GoodIn wsX6_count (wsV RX6 256 RX1 yX1_bundles wsX1_bundles) := goodIn_app (goodIn_of _ (by decide +kernel)) ggX6_count_X1_bundles
theorem dX6_count_0 : decode cX6_count 0 = .ok (.iload_n 1, 1) := by decide +kernel
theorem dX6_count_1 : decode cX6_count 1 = .ok (.tableswitch 99 0 6 #[43, 51, 59, 67, 75, 83, 91], 43) := by decide +kernel
theorem dX6_count_44 : decode cX6_count 44 = .ok (.aload_n 0, 1) := by decide +kernel
theorem dX6_count_45 : decode cX6_count 45 = .ok (.getfield 19, 3) := by decide +kernel
theorem dX6_count_48 : decode cX6_count 48 = .ok (.getfield 244, 3) := by decide +kernel
theorem dX6_count_51 : decode cX6_count 51 = .ok (.ireturn, 1) := by decide +kernel
theorem dX6_count_52 : decode cX6_count 52 = .ok (.aload_n 0, 1) := by decide +kernel
theorem dX6_count_53 : decode cX6_count 53 = .ok (.getfield 19, 3) := by decide +kernel
theorem dX6_count_56 : decode cX6_count 56 = .ok (.getfield 247, 3) := by decide +kernel
theorem dX6_count_59 : decode cX6_count 59 = .ok (.ireturn, 1) := by decide +kernel
theorem dX6_count_60 : decode cX6_count 60 = .ok (.aload_n 0, 1) := by decide +kernel
theorem dX6_count_61 : decode cX6_count 61 = .ok (.getfield 19, 3) := by decide +kernel
theorem dX6_count_64 : decode cX6_count 64 = .ok (.getfield 250, 3) := by decide +kernel
theorem dX6_count_67 : decode cX6_count 67 = .ok (.ireturn, 1) := by decide +kernel
theorem dX6_count_68 : decode cX6_count 68 = .ok (.aload_n 0, 1) := by decide +kernel
theorem dX6_count_69 : decode cX6_count 69 = .ok (.getfield 19, 3) := by decide +kernel
theorem dX6_count_72 : decode cX6_count 72 = .ok (.invokevirtual 253, 3) := by decide +kernel
theorem dX6_count_75 : decode cX6_count 75 = .ok (.ireturn, 1) := by decide +kernel
theorem dX6_count_76 : decode cX6_count 76 = .ok (.aload_n 0, 1) := by decide +kernel
theorem dX6_count_77 : decode cX6_count 77 = .ok (.getfield 38, 3) := by decide +kernel
theorem dX6_count_80 : decode cX6_count 80 = .ok (.invokevirtual 256, 3) := by decide +kernel
theorem dX6_count_83 : decode cX6_count 83 = .ok (.ireturn, 1) := by decide +kernel
theorem dX6_count_84 : decode cX6_count 84 = .ok (.aload_n 0, 1) := by decide +kernel
theorem dX6_count_85 : decode cX6_count 85 = .ok (.getfield 38, 3) := by decide +kernel
theorem dX6_count_88 : decode cX6_count 88 = .ok (.getfield 164, 3) := by decide +kernel
theorem dX6_count_91 : decode cX6_count 91 = .ok (.ireturn, 1) := by decide +kernel
theorem dX6_count_92 : decode cX6_count 92 = .ok (.aload_n 0, 1) := by decide +kernel
theorem dX6_count_93 : decode cX6_count 93 = .ok (.getfield 12, 3) := by decide +kernel
theorem dX6_count_96 : decode cX6_count 96 = .ok (.getfield 68, 3) := by decide +kernel
theorem dX6_count_99 : decode cX6_count 99 = .ok (.ireturn, 1) := by decide +kernel
theorem dX6_count_100 : decode cX6_count 100 = .ok (.iconst (-1), 1) := by decide +kernel
theorem dX6_count_101 : decode cX6_count 101 = .ok (.ireturn, 1) := by decide +kernel
theorem dX6_trace_0 : decode cX6_trace 0 = .ok (.aload_n 0, 1) := by decide +kernel
theorem dX6_trace_1 : decode cX6_trace 1 = .ok (.getfield 64, 3) := by decide +kernel
theorem dX6_trace_4 : decode cX6_trace 4 = .ok (.lreturn, 1) := by decide +kernel
theorem dX6_isImage_0 : decode cX6_isImage 0 = .ok (.iload_n 0, 1) := by decide +kernel
theorem dX6_isImage_1 : decode cX6_isImage 1 = .ok (.ifCond .eq 8, 3) := by decide +kernel
theorem dX6_isImage_4 : decode cX6_isImage 4 = .ok (.iload_n 0, 1) := by decide +kernel
theorem dX6_isImage_5 : decode cX6_isImage 5 = .ok (.iconst 1, 1) := by decide +kernel
theorem dX6_isImage_6 : decode cX6_isImage 6 = .ok (.if_icmp .ne 7, 3) := by decide +kernel
theorem dX6_isImage_9 : decode cX6_isImage 9 = .ok (.iconst 1, 1) := by decide +kernel
theorem dX6_isImage_10 : decode cX6_isImage 10 = .ok (.goto 4, 3) := by decide +kernel
theorem dX6_isImage_13 : decode cX6_isImage 13 = .ok (.iconst 0, 1) := by decide +kernel
theorem dX6_isImage_14 : decode cX6_isImage 14 = .ok (.ireturn, 1) := by decide +kernel
theorem dX6_imageOf_0 : decode cX6_imageOf 0 = .ok (.iload_n 1, 1) := by decide +kernel
theorem dX6_imageOf_1 : decode cX6_imageOf 1 = .ok (.ifCond .ne 10, 3) := by decide +kernel
theorem dX6_imageOf_4 : decode cX6_imageOf 4 = .ok (.aload_n 0, 1) := by decide +kernel
theorem dX6_imageOf_5 : decode cX6_imageOf 5 = .ok (.getfield 42, 3) := by decide +kernel
theorem dX6_imageOf_8 : decode cX6_imageOf 8 = .ok (.goto 7, 3) := by decide +kernel
theorem dX6_imageOf_11 : decode cX6_imageOf 11 = .ok (.aload_n 0, 1) := by decide +kernel
theorem dX6_imageOf_12 : decode cX6_imageOf 12 = .ok (.getfield 45, 3) := by decide +kernel
theorem dX6_imageOf_15 : decode cX6_imageOf 15 = .ok (.areturn, 1) := by decide +kernel
theorem dX6_has_0 : decode cX6_has 0 = .ok (.iload_n 0, 1) := by decide +kernel
theorem dX6_has_1 : decode cX6_has 1 = .ok (.iload_n 1, 1) := by decide +kernel
theorem dX6_has_2 : decode cX6_has 2 = .ok (.ishr, 1) := by decide +kernel
theorem dX6_has_3 : decode cX6_has 3 = .ok (.iconst 1, 1) := by decide +kernel
theorem dX6_has_4 : decode cX6_has 4 = .ok (.iand, 1) := by decide +kernel
theorem dX6_has_5 : decode cX6_has 5 = .ok (.iconst 1, 1) := by decide +kernel
theorem dX6_has_6 : decode cX6_has 6 = .ok (.if_icmp .ne 7, 3) := by decide +kernel
theorem dX6_has_9 : decode cX6_has 9 = .ok (.iconst 1, 1) := by decide +kernel
theorem dX6_has_10 : decode cX6_has 10 = .ok (.goto 4, 3) := by decide +kernel
theorem dX6_has_13 : decode cX6_has 13 = .ok (.iconst 0, 1) := by decide +kernel
theorem dX6_has_14 : decode cX6_has 14 = .ok (.ireturn, 1) := by decide +kernel
set_option maxRecDepth 20000 in
theorem ggX6_least_X6_has : GoodIn wsX6_least wsX6_has := goodIn_r _ [4] (by decide +kernel) (by decide +kernel)
set_option maxRecDepth 20000 in
theorem gX6_least_X6_has : GoodIn wsX6_least (va_wsS RX6 259 yX6_has wsX6_has) := goodIn_app (goodIn_of _ (by decide +kernel)) ggX6_least_X6_has
theorem dX6_least_0 : decode cX6_least 0 = .ok (.iconst 0, 1) := by decide +kernel
theorem dX6_least_1 : decode cX6_least 1 = .ok (.istore_n 1, 1) := by decide +kernel
theorem dX6_least_2 : decode cX6_least 2 = .ok (.iload_n 1, 1) := by decide +kernel
theorem dX6_least_3 : decode cX6_least 3 = .ok (.bipush 8, 2) := by decide +kernel
theorem dX6_least_5 : decode cX6_least 5 = .ok (.if_icmp .ge 19, 3) := by decide +kernel
theorem dX6_least_8 : decode cX6_least 8 = .ok (.iload_n 0, 1) := by decide +kernel
theorem dX6_least_9 : decode cX6_least 9 = .ok (.iload_n 1, 1) := by decide +kernel
theorem dX6_least_10 : decode cX6_least 10 = .ok (.invokestatic 259, 3) := by decide +kernel
theorem dX6_least_13 : decode cX6_least 13 = .ok (.ifCond .eq 5, 3) := by decide +kernel
theorem dX6_least_16 : decode cX6_least 16 = .ok (.iload_n 1, 1) := by decide +kernel
theorem dX6_least_17 : decode cX6_least 17 = .ok (.ireturn, 1) := by decide +kernel
theorem dX6_least_18 : decode cX6_least 18 = .ok (.iinc 1 1, 3) := by decide +kernel
theorem dX6_least_21 : decode cX6_least 21 = .ok (.goto (-19), 3) := by decide +kernel
theorem dX6_least_24 : decode cX6_least 24 = .ok (.bipush (-9), 2) := by decide +kernel
theorem dX6_least_26 : decode cX6_least 26 = .ok (.ireturn, 1) := by decide +kernel
theorem dX6_asPerson_0 : decode cX6_asPerson 0 = .ok (.aload_n 0, 1) := by decide +kernel
theorem dX6_asPerson_1 : decode cX6_asPerson 1 = .ok (.dup, 1) := by decide +kernel
theorem dX6_asPerson_2 : decode cX6_asPerson 2 = .ok (.getfield 64, 3) := by decide +kernel
theorem dX6_asPerson_5 : decode cX6_asPerson 5 = .ok (.lconst 1, 1) := by decide +kernel
theorem dX6_asPerson_6 : decode cX6_asPerson 6 = .ok (.ladd, 1) := by decide +kernel
theorem dX6_asPerson_7 : decode cX6_asPerson 7 = .ok (.putfield 64, 3) := by decide +kernel
theorem dX6_asPerson_10 : decode cX6_asPerson 10 = .ok (.aload_n 0, 1) := by decide +kernel
theorem dX6_asPerson_11 : decode cX6_asPerson 11 = .ok (.getfield 38, 3) := by decide +kernel
theorem dX6_asPerson_14 : decode cX6_asPerson 14 = .ok (.getfield 105, 3) := by decide +kernel
theorem dX6_asPerson_17 : decode cX6_asPerson 17 = .ok (.iload_n 1, 1) := by decide +kernel
theorem dX6_asPerson_18 : decode cX6_asPerson 18 = .ok (.iaload, 1) := by decide +kernel
theorem dX6_asPerson_19 : decode cX6_asPerson 19 = .ok (.ireturn, 1) := by decide +kernel
set_option maxRecDepth 20000 in
theorem ggX6_asPorter_X6_asPerson : GoodIn wsX6_asPorter wsX6_asPerson := goodIn_r _ [8, 1, 9, 10, 11, 12, 13, 14, 15, 16, 17, 18, 19, 28, 29, 30, 31, 32] (by decide +kernel) (by decide +kernel)
set_option maxRecDepth 20000 in
theorem gX6_asPorter_X6_asPerson : GoodIn wsX6_asPorter (wsV RX6 223 RX6 yX6_asPerson wsX6_asPerson) := goodIn_app (goodIn_of _ (by decide +kernel)) ggX6_asPorter_X6_asPerson
theorem dX6_asPorter_0 : decode cX6_asPorter 0 = .ok (.aload_n 0, 1) := by decide +kernel
theorem dX6_asPorter_1 : decode cX6_asPorter 1 = .ok (.dup, 1) := by decide +kernel
theorem dX6_asPorter_2 : decode cX6_asPorter 2 = .ok (.getfield 64, 3) := by decide +kernel
theorem dX6_asPorter_5 : decode cX6_asPorter 5 = .ok (.ldc2_w 263, 3) := by decide +kernel
theorem dX6_asPorter_8 : decode cX6_asPorter 8 = .ok (.ladd, 1) := by decide +kernel
theorem dX6_asPorter_9 : decode cX6_asPorter 9 = .ok (.putfield 64, 3) := by decide +kernel
theorem dX6_asPorter_12 : decode cX6_asPorter 12 = .ok (.aload_n 0, 1) := by decide +kernel
theorem dX6_asPorter_13 : decode cX6_asPorter 13 = .ok (.iload_n 1, 1) := by decide +kernel
theorem dX6_asPorter_14 : decode cX6_asPorter 14 = .ok (.invokevirtual 223, 3) := by decide +kernel
theorem dX6_asPorter_17 : decode cX6_asPorter 17 = .ok (.aload_n 0, 1) := by decide +kernel
theorem dX6_asPorter_18 : decode cX6_asPorter 18 = .ok (.getfield 19, 3) := by decide +kernel
theorem dX6_asPorter_21 : decode cX6_asPorter 21 = .ok (.getfield 98, 3) := by decide +kernel
theorem dX6_asPorter_24 : decode cX6_asPorter 24 = .ok (.iload_n 1, 1) := by decide +kernel
theorem dX6_asPorter_25 : decode cX6_asPorter 25 = .ok (.iaload, 1) := by decide +kernel
theorem dX6_asPorter_26 : decode cX6_asPorter 26 = .ok (.iadd, 1) := by decide +kernel
theorem dX6_asPorter_27 : decode cX6_asPorter 27 = .ok (.ireturn, 1) := by decide +kernel
set_option maxRecDepth 20000 in
theorem ggX6_asThief_X6_asPerson : GoodIn wsX6_asThief wsX6_asPerson := goodIn_r _ [8, 1, 9, 10, 11, 12, 13, 14, 15, 16, 17, 18, 19, 28, 29, 30, 31, 32] (by decide +kernel) (by decide +kernel)
set_option maxRecDepth 20000 in
theorem gX6_asThief_X6_asPerson : GoodIn wsX6_asThief (wsV RX6 223 RX6 yX6_asPerson wsX6_asPerson) := goodIn_app (goodIn_of _ (by decide +kernel)) ggX6_asThief_X6_asPerson
theorem dX6_asThief_0 : decode cX6_asThief 0 = .ok (.aload_n 0, 1) := by decide +kernel
theorem dX6_asThief_1 : decode cX6_asThief 1 = .ok (.dup, 1) := by decide +kernel
theorem dX6_asThief_2 : decode cX6_asThief 2 = .ok (.getfield 64, 3) := by decide +kernel
theorem dX6_asThief_5 : decode cX6_asThief 5 = .ok (.ldc2_w 265, 3) := by decide +kernel
theorem dX6_asThief_8 : decode cX6_asThief 8 = .ok (.ladd, 1) := by decide +kernel
theorem dX6_asThief_9 : decode cX6_asThief 9 = .ok (.putfield 64, 3) := by decide +kernel
theorem dX6_asThief_12 : decode cX6_asThief 12 = .ok (.aload_n 0, 1) := by decide +kernel
theorem dX6_asThief_13 : decode cX6_asThief 13 = .ok (.iload_n 1, 1) := by decide +kernel
theorem dX6_asThief_14 : decode cX6_asThief 14 = .ok (.invokevirtual 223, 3) := by decide +kernel
theorem dX6_asThief_17 : decode cX6_asThief 17 = .ok (.aload_n 0, 1) := by decide +kernel
theorem dX6_asThief_18 : decode cX6_asThief 18 = .ok (.getfield 19, 3) := by decide +kernel
theorem dX6_asThief_21 : decode cX6_asThief 21 = .ok (.getfield 102, 3) := by decide +kernel
theorem dX6_asThief_24 : decode cX6_asThief 24 = .ok (.iload_n 1, 1) := by decide +kernel
theorem dX6_asThief_25 : decode cX6_asThief 25 = .ok (.iaload, 1) := by decide +kernel
theorem dX6_asThief_26 : decode cX6_asThief 26 = .ok (.isub, 1) := by decide +kernel
theorem dX6_asThief_27 : decode cX6_asThief 27 = .ok (.ireturn, 1) := by decide +kernel
set_option maxRecDepth 20000 in
theorem ggX6_asLawyer_X6_asPorter : GoodIn wsX6_asLawyer wsX6_asPorter := goodIn_r _ [7, 1, 8, 9, 10, 11, 12, 6, 13, 14, 15, 16, 17, 18, 19, 20, 21, 22, 23, 24, 25, 26, 27, 28, 29, 30, 31, 32, 33, 34, 35, 36, 37] (by decide +kernel) (by decide +kernel)
set_option maxRecDepth 20000 in
theorem gX6_asLawyer_X6_asPorter : GoodIn wsX6_asLawyer (wsV RX6 226 RX6 yX6_asPorter wsX6_asPorter) := goodIn_app (goodIn_of _ (by decide +kernel)) ggX6_asLawyer_X6_asPorter
theorem dX6_asLawyer_0 : decode cX6_asLawyer 0 = .ok (.aload_n 0, 1) := by decide +kernel
theorem dX6_asLawyer_1 : decode cX6_asLawyer 1 = .ok (.dup, 1) := by decide +kernel
theorem dX6_asLawyer_2 : decode cX6_asLawyer 2 = .ok (.getfield 64, 3) := by decide +kernel
theorem dX6_asLawyer_5 : decode cX6_asLawyer 5 = .ok (.ldc2_w 267, 3) := by decide +kernel
theorem dX6_asLawyer_8 : decode cX6_asLawyer 8 = .ok (.ladd, 1) := by decide +kernel
theorem dX6_asLawyer_9 : decode cX6_asLawyer 9 = .ok (.putfield 64, 3) := by decide +kernel
theorem dX6_asLawyer_12 : decode cX6_asLawyer 12 = .ok (.iconst 2, 1) := by decide +kernel
theorem dX6_asLawyer_13 : decode cX6_asLawyer 13 = .ok (.aload_n 0, 1) := by decide +kernel
theorem dX6_asLawyer_14 : decode cX6_asLawyer 14 = .ok (.iload_n 1, 1) := by decide +kernel
theorem dX6_asLawyer_15 : decode cX6_asLawyer 15 = .ok (.invokevirtual 226, 3) := by decide +kernel
theorem dX6_asLawyer_18 : decode cX6_asLawyer 18 = .ok (.imul, 1) := by decide +kernel
theorem dX6_asLawyer_19 : decode cX6_asLawyer 19 = .ok (.ireturn, 1) := by decide +kernel
set_option maxRecDepth 20000 in
theorem ggX6_asMaid_X6_asThief : GoodIn wsX6_asMaid wsX6_asThief := goodIn_r _ [7, 1, 8, 9, 10, 11, 12, 6, 13, 14, 15, 16, 17, 18, 19, 20, 21, 22, 23, 24, 25, 26, 27, 28, 29, 30, 31, 32, 33, 34, 35, 36, 37] (by decide +kernel) (by decide +kernel)
set_option maxRecDepth 20000 in
theorem gX6_asMaid_X6_asThief : GoodIn wsX6_asMaid (wsV RX6 229 RX6 yX6_asThief wsX6_asThief) := goodIn_app (goodIn_of _ (by decide +kernel)) ggX6_asMaid_X6_asThief
theorem dX6_asMaid_0 : decode cX6_asMaid 0 = .ok (.aload_n 0, 1) := by decide +kernel
theorem dX6_asMaid_1 : decode cX6_asMaid 1 = .ok (.dup, 1) := by decide +kernel
theorem dX6_asMaid_2 : decode cX6_asMaid 2 = .ok (.getfield 64, 3) := by decide +kernel
theorem dX6_asMaid_5 : decode cX6_asMaid 5 = .ok (.ldc2_w 269, 3) := by decide +kernel
theorem dX6_asMaid_8 : decode cX6_asMaid 8 = .ok (.ladd, 1) := by decide +kernel
theorem dX6_asMaid_9 : decode cX6_asMaid 9 = .ok (.putfield 64, 3) := by decide +kernel
theorem dX6_asMaid_12 : decode cX6_asMaid 12 = .ok (.aload_n 0, 1) := by decide +kernel
theorem dX6_asMaid_13 : decode cX6_asMaid 13 = .ok (.iload_n 1, 1) := by decide +kernel
theorem dX6_asMaid_14 : decode cX6_asMaid 14 = .ok (.invokevirtual 229, 3) := by decide +kernel
theorem dX6_asMaid_17 : decode cX6_asMaid 17 = .ok (.iload_n 1, 1) := by decide +kernel
theorem dX6_asMaid_18 : decode cX6_asMaid 18 = .ok (.iadd, 1) := by decide +kernel
theorem dX6_asMaid_19 : decode cX6_asMaid 19 = .ok (.ireturn, 1) := by decide +kernel
set_option maxRecDepth 20000 in
theorem ggX6_asChild_X6_asPerson : GoodIn wsX6_asChild wsX6_asPerson := goodIn_r _ [8, 1, 3, 9, 10, 11, 12, 13, 14, 15, 16, 17, 18, 19, 20, 21, 22, 23] (by decide +kernel) (by decide +kernel)
set_option maxRecDepth 20000 in
theorem gX6_asChild_X6_asPerson : GoodIn wsX6_asChild (wsV RX6 223 RX6 yX6_asPerson wsX6_asPerson) := goodIn_app (goodIn_of _ (by decide +kernel)) ggX6_asChild_X6_asPerson
theorem dX6_asChild_0 : decode cX6_asChild 0 = .ok (.aload_n 0, 1) := by decide +kernel
theorem dX6_asChild_1 : decode cX6_asChild 1 = .ok (.dup, 1) := by decide +kernel
theorem dX6_asChild_2 : decode cX6_asChild 2 = .ok (.getfield 64, 3) := by decide +kernel
theorem dX6_asChild_5 : decode cX6_asChild 5 = .ok (.ldc2_w 271, 3) := by decide +kernel
theorem dX6_asChild_8 : decode cX6_asChild 8 = .ok (.ladd, 1) := by decide +kernel
theorem dX6_asChild_9 : decode cX6_asChild 9 = .ok (.putfield 64, 3) := by decide +kernel
theorem dX6_asChild_12 : decode cX6_asChild 12 = .ok (.aload_n 0, 1) := by decide +kernel
theorem dX6_asChild_13 : decode cX6_asChild 13 = .ok (.iload_n 1, 1) := by decide +kernel
theorem dX6_asChild_14 : decode cX6_asChild 14 = .ok (.invokevirtual 223, 3) := by decide +kernel
theorem dX6_asChild_17 : decode cX6_asChild 17 = .ok (.aload_n 0, 1) := by decide +kernel
theorem dX6_asChild_18 : decode cX6_asChild 18 = .ok (.getfield 38, 3) := by decide +kernel
theorem dX6_asChild_21 : decode cX6_asChild 21 = .ok (.getfield 164, 3) := by decide +kernel
theorem dX6_asChild_24 : decode cX6_asChild 24 = .ok (.iadd, 1) := by decide +kernel
theorem dX6_asChild_25 : decode cX6_asChild 25 = .ok (.ireturn, 1) := by decide +kernel
