theorem dX0_init_0 : decode cX0_init 0 = .ok (.aload_n 0, 1) := by decide +kernel
theorem dX0_init_1 : decode cX0_init 1 = .ok (.invokespecial 3, 3) := by decide +kernel
theorem dX0_init_4 : decode cX0_init 4 = .ok (.aload_n 0, 1) := by decide +kernel
theorem dX0_init_5 : decode cX0_init 5 = .ok (.iconst 4, 1) := by decide +kernel
theorem dX0_init_6 : decode cX0_init 6 = .ok (.putfield 9, 3) := by decide +kernel
theorem dX0_init_9 : decode cX0_init 9 = .ok (.aload_n 0, 1) := by decide +kernel
theorem dX0_init_10 : decode cX0_init 10 = .ok (.iconst 0, 1) := by decide +kernel
theorem dX0_init_11 : decode cX0_init 11 = .ok (.putfield 15, 3) := by decide +kernel
theorem dX0_init_14 : decode cX0_init 14 = .ok (.aload_n 0, 1) := by decide +kernel
theorem dX0_init_15 : decode cX0_init 15 = .ok (.iconst 0, 1) := by decide +kernel
theorem dX0_init_16 : decode cX0_init 16 = .ok (.putfield 18, 3) := by decide +kernel
theorem dX0_init_19 : decode cX0_init 19 = .ok (.aload_n 0, 1) := by decide +kernel
theorem dX0_init_20 : decode cX0_init 20 = .ok (.iconst 4, 1) := by decide +kernel
theorem dX0_init_21 : decode cX0_init 21 = .ok (.newarray .int, 2) := by decide +kernel
theorem dX0_init_23 : decode cX0_init 23 = .ok (.putfield 21, 3) := by decide +kernel
theorem dX0_init_26 : decode cX0_init 26 = .ok (.aload_n 0, 1) := by decide +kernel
theorem dX0_init_27 : decode cX0_init 27 = .ok (.iconst 4, 1) := by decide +kernel
theorem dX0_init_28 : decode cX0_init 28 = .ok (.newarray .int, 2) := by decide +kernel
theorem dX0_init_30 : decode cX0_init 30 = .ok (.putfield 25, 3) := by decide +kernel
theorem dX0_init_33 : decode cX0_init 33 = .ok (.aload_n 0, 1) := by decide +kernel
theorem dX0_init_34 : decode cX0_init 34 = .ok (.bipush 8, 2) := by decide +kernel
theorem dX0_init_36 : decode cX0_init 36 = .ok (.newarray .int, 2) := by decide +kernel
theorem dX0_init_38 : decode cX0_init 38 = .ok (.putfield 28, 3) := by decide +kernel
theorem dX0_init_41 : decode cX0_init 41 = .ok (.aload_n 0, 1) := by decide +kernel
theorem dX0_init_42 : decode cX0_init 42 = .ok (.bipush 8, 2) := by decide +kernel
theorem dX0_init_44 : decode cX0_init 44 = .ok (.newarray .int, 2) := by decide +kernel
theorem dX0_init_46 : decode cX0_init 46 = .ok (.putfield 31, 3) := by decide +kernel
theorem dX0_init_49 : decode cX0_init 49 = .ok (.aload_n 0, 1) := by decide +kernel
theorem dX0_init_50 : decode cX0_init 50 = .ok (.bipush 8, 2) := by decide +kernel
theorem dX0_init_52 : decode cX0_init 52 = .ok (.newarray .int, 2) := by decide +kernel
theorem dX0_init_54 : decode cX0_init 54 = .ok (.putfield 34, 3) := by decide +kernel
theorem dX0_init_57 : decode cX0_init 57 = .ok (.return_, 1) := by decide +kernel
theorem dX0_empty_0 : decode cX0_empty 0 = .ok (.aload_n 0, 1) := by decide +kernel
theorem dX0_empty_1 : decode cX0_empty 1 = .ok (.iconst 4, 1) := by decide +kernel
theorem dX0_empty_2 : decode cX0_empty 2 = .ok (.putfield 9, 3) := by decide +kernel
theorem dX0_empty_5 : decode cX0_empty 5 = .ok (.aload_n 0, 1) := by decide +kernel
theorem dX0_empty_6 : decode cX0_empty 6 = .ok (.iconst 0, 1) := by decide +kernel
theorem dX0_empty_7 : decode cX0_empty 7 = .ok (.putfield 15, 3) := by decide +kernel
theorem dX0_empty_10 : decode cX0_empty 10 = .ok (.aload_n 0, 1) := by decide +kernel
theorem dX0_empty_11 : decode cX0_empty 11 = .ok (.iconst 0, 1) := by decide +kernel
theorem dX0_empty_12 : decode cX0_empty 12 = .ok (.putfield 18, 3) := by decide +kernel
theorem dX0_empty_15 : decode cX0_empty 15 = .ok (.return_, 1) := by decide +kernel
theorem dX0_become_0 : decode cX0_become 0 = .ok (.aload_n 0, 1) := by decide +kernel
theorem dX0_become_1 : decode cX0_become 1 = .ok (.aload_n 1, 1) := by decide +kernel
theorem dX0_become_2 : decode cX0_become 2 = .ok (.getfield 9, 3) := by decide +kernel
theorem dX0_become_5 : decode cX0_become 5 = .ok (.putfield 9, 3) := by decide +kernel
theorem dX0_become_8 : decode cX0_become 8 = .ok (.aload_n 0, 1) := by decide +kernel
theorem dX0_become_9 : decode cX0_become 9 = .ok (.aload_n 1, 1) := by decide +kernel
theorem dX0_become_10 : decode cX0_become 10 = .ok (.getfield 15, 3) := by decide +kernel
theorem dX0_become_13 : decode cX0_become 13 = .ok (.putfield 15, 3) := by decide +kernel
theorem dX0_become_16 : decode cX0_become 16 = .ok (.aload_n 0, 1) := by decide +kernel
theorem dX0_become_17 : decode cX0_become 17 = .ok (.aload_n 1, 1) := by decide +kernel
theorem dX0_become_18 : decode cX0_become 18 = .ok (.getfield 18, 3) := by decide +kernel
theorem dX0_become_21 : decode cX0_become 21 = .ok (.putfield 18, 3) := by decide +kernel
theorem dX0_become_24 : decode cX0_become 24 = .ok (.aload_n 1, 1) := by decide +kernel
theorem dX0_become_25 : decode cX0_become 25 = .ok (.getfield 21, 3) := by decide +kernel
theorem dX0_become_28 : decode cX0_become 28 = .ok (.iconst 0, 1) := by decide +kernel
theorem dX0_become_29 : decode cX0_become 29 = .ok (.aload_n 0, 1) := by decide +kernel
theorem dX0_become_30 : decode cX0_become 30 = .ok (.getfield 21, 3) := by decide +kernel
theorem dX0_become_33 : decode cX0_become 33 = .ok (.iconst 0, 1) := by decide +kernel
theorem dX0_become_34 : decode cX0_become 34 = .ok (.iconst 4, 1) := by decide +kernel
theorem dX0_become_35 : decode cX0_become 35 = .ok (.invokestatic 37, 3) := by decide +kernel
theorem dX0_become_38 : decode cX0_become 38 = .ok (.aload_n 1, 1) := by decide +kernel
theorem dX0_become_39 : decode cX0_become 39 = .ok (.getfield 25, 3) := by decide +kernel
theorem dX0_become_42 : decode cX0_become 42 = .ok (.iconst 0, 1) := by decide +kernel
theorem dX0_become_43 : decode cX0_become 43 = .ok (.aload_n 0, 1) := by decide +kernel
theorem dX0_become_44 : decode cX0_become 44 = .ok (.getfield 25, 3) := by decide +kernel
theorem dX0_become_47 : decode cX0_become 47 = .ok (.iconst 0, 1) := by decide +kernel
theorem dX0_become_48 : decode cX0_become 48 = .ok (.iconst 4, 1) := by decide +kernel
theorem dX0_become_49 : decode cX0_become 49 = .ok (.invokestatic 37, 3) := by decide +kernel
theorem dX0_become_52 : decode cX0_become 52 = .ok (.aload_n 1, 1) := by decide +kernel
theorem dX0_become_53 : decode cX0_become 53 = .ok (.getfield 28, 3) := by decide +kernel
theorem dX0_become_56 : decode cX0_become 56 = .ok (.iconst 0, 1) := by decide +kernel
theorem dX0_become_57 : decode cX0_become 57 = .ok (.aload_n 0, 1) := by decide +kernel
theorem dX0_become_58 : decode cX0_become 58 = .ok (.getfield 28, 3) := by decide +kernel
theorem dX0_become_61 : decode cX0_become 61 = .ok (.iconst 0, 1) := by decide +kernel
theorem dX0_become_62 : decode cX0_become 62 = .ok (.bipush 8, 2) := by decide +kernel
theorem dX0_become_64 : decode cX0_become 64 = .ok (.invokestatic 37, 3) := by decide +kernel
theorem dX0_become_67 : decode cX0_become 67 = .ok (.aload_n 1, 1) := by decide +kernel
theorem dX0_become_68 : decode cX0_become 68 = .ok (.getfield 31, 3) := by decide +kernel
theorem dX0_become_71 : decode cX0_become 71 = .ok (.iconst 0, 1) := by decide +kernel
theorem dX0_become_72 : decode cX0_become 72 = .ok (.aload_n 0, 1) := by decide +kernel
theorem dX0_become_73 : decode cX0_become 73 = .ok (.getfield 31, 3) := by decide +kernel
theorem dX0_become_76 : decode cX0_become 76 = .ok (.iconst 0, 1) := by decide +kernel
theorem dX0_become_77 : decode cX0_become 77 = .ok (.bipush 8, 2) := by decide +kernel
theorem dX0_become_79 : decode cX0_become 79 = .ok (.invokestatic 37, 3) := by decide +kernel
theorem dX0_become_82 : decode cX0_become 82 = .ok (.aload_n 1, 1) := by decide +kernel
theorem dX0_become_83 : decode cX0_become 83 = .ok (.getfield 34, 3) := by decide +kernel
theorem dX0_become_86 : decode cX0_become 86 = .ok (.iconst 0, 1) := by decide +kernel
theorem dX0_become_87 : decode cX0_become 87 = .ok (.aload_n 0, 1) := by decide +kernel
theorem dX0_become_88 : decode cX0_become 88 = .ok (.getfield 34, 3) := by decide +kernel
theorem dX0_become_91 : decode cX0_become 91 = .ok (.iconst 0, 1) := by decide +kernel
theorem dX0_become_92 : decode cX0_become 92 = .ok (.bipush 8, 2) := by decide +kernel
theorem dX0_become_94 : decode cX0_become 94 = .ok (.invokestatic 37, 3) := by decide +kernel
theorem dX0_become_97 : decode cX0_become 97 = .ok (.return_, 1) := by decide +kernel
theorem dX0_addPerson_0 : decode cX0_addPerson 0 = .ok (.aload_n 0, 1) := by decide +kernel
theorem dX0_addPerson_1 : decode cX0_addPerson 1 = .ok (.getfield 15, 3) := by decide +kernel
theorem dX0_addPerson_4 : decode cX0_addPerson 4 = .ok (.iconst 4, 1) := by decide +kernel
theorem dX0_addPerson_5 : decode cX0_addPerson 5 = .ok (.if_icmp .ge 33, 3) := by decide +kernel
theorem dX0_addPerson_8 : decode cX0_addPerson 8 = .ok (.aload_n 0, 1) := by decide +kernel
theorem dX0_addPerson_9 : decode cX0_addPerson 9 = .ok (.getfield 21, 3) := by decide +kernel
theorem dX0_addPerson_12 : decode cX0_addPerson 12 = .ok (.aload_n 0, 1) := by decide +kernel
theorem dX0_addPerson_13 : decode cX0_addPerson 13 = .ok (.getfield 15, 3) := by decide +kernel
theorem dX0_addPerson_16 : decode cX0_addPerson 16 = .ok (.iload_n 1, 1) := by decide +kernel
theorem dX0_addPerson_17 : decode cX0_addPerson 17 = .ok (.iastore, 1) := by decide +kernel
theorem dX0_addPerson_18 : decode cX0_addPerson 18 = .ok (.aload_n 0, 1) := by decide +kernel
theorem dX0_addPerson_19 : decode cX0_addPerson 19 = .ok (.getfield 25, 3) := by decide +kernel
theorem dX0_addPerson_22 : decode cX0_addPerson 22 = .ok (.aload_n 0, 1) := by decide +kernel
theorem dX0_addPerson_23 : decode cX0_addPerson 23 = .ok (.getfield 15, 3) := by decide +kernel
theorem dX0_addPerson_26 : decode cX0_addPerson 26 = .ok (.iload_n 2, 1) := by decide +kernel
theorem dX0_addPerson_27 : decode cX0_addPerson 27 = .ok (.iastore, 1) := by decide +kernel
theorem dX0_addPerson_28 : decode cX0_addPerson 28 = .ok (.aload_n 0, 1) := by decide +kernel
theorem dX0_addPerson_29 : decode cX0_addPerson 29 = .ok (.dup, 1) := by decide +kernel
theorem dX0_addPerson_30 : decode cX0_addPerson 30 = .ok (.getfield 15, 3) := by decide +kernel
theorem dX0_addPerson_33 : decode cX0_addPerson 33 = .ok (.iconst 1, 1) := by decide +kernel
theorem dX0_addPerson_34 : decode cX0_addPerson 34 = .ok (.iadd, 1) := by decide +kernel
theorem dX0_addPerson_35 : decode cX0_addPerson 35 = .ok (.putfield 15, 3) := by decide +kernel
theorem dX0_addPerson_38 : decode cX0_addPerson 38 = .ok (.return_, 1) := by decide +kernel
theorem dX0_addThing_0 : decode cX0_addThing 0 = .ok (.aload_n 0, 1) := by decide +kernel
theorem dX0_addThing_1 : decode cX0_addThing 1 = .ok (.getfield 18, 3) := by decide +kernel
theorem dX0_addThing_4 : decode cX0_addThing 4 = .ok (.bipush 8, 2) := by decide +kernel
theorem dX0_addThing_6 : decode cX0_addThing 6 = .ok (.if_icmp .ge 44, 3) := by decide +kernel
theorem dX0_addThing_9 : decode cX0_addThing 9 = .ok (.aload_n 0, 1) := by decide +kernel
theorem dX0_addThing_10 : decode cX0_addThing 10 = .ok (.getfield 28, 3) := by decide +kernel
theorem dX0_addThing_13 : decode cX0_addThing 13 = .ok (.aload_n 0, 1) := by decide +kernel
theorem dX0_addThing_14 : decode cX0_addThing 14 = .ok (.getfield 18, 3) := by decide +kernel
theorem dX0_addThing_17 : decode cX0_addThing 17 = .ok (.iload_n 1, 1) := by decide +kernel
theorem dX0_addThing_18 : decode cX0_addThing 18 = .ok (.iastore, 1) := by decide +kernel
theorem dX0_addThing_19 : decode cX0_addThing 19 = .ok (.aload_n 0, 1) := by decide +kernel
theorem dX0_addThing_20 : decode cX0_addThing 20 = .ok (.getfield 31, 3) := by decide +kernel
theorem dX0_addThing_23 : decode cX0_addThing 23 = .ok (.aload_n 0, 1) := by decide +kernel
theorem dX0_addThing_24 : decode cX0_addThing 24 = .ok (.getfield 18, 3) := by decide +kernel
theorem dX0_addThing_27 : decode cX0_addThing 27 = .ok (.iload_n 2, 1) := by decide +kernel
theorem dX0_addThing_28 : decode cX0_addThing 28 = .ok (.iastore, 1) := by decide +kernel
theorem dX0_addThing_29 : decode cX0_addThing 29 = .ok (.aload_n 0, 1) := by decide +kernel
theorem dX0_addThing_30 : decode cX0_addThing 30 = .ok (.getfield 34, 3) := by decide +kernel
theorem dX0_addThing_33 : decode cX0_addThing 33 = .ok (.aload_n 0, 1) := by decide +kernel
theorem dX0_addThing_34 : decode cX0_addThing 34 = .ok (.getfield 18, 3) := by decide +kernel
theorem dX0_addThing_37 : decode cX0_addThing 37 = .ok (.bipush (-9), 2) := by decide +kernel
theorem dX0_addThing_39 : decode cX0_addThing 39 = .ok (.iastore, 1) := by decide +kernel
theorem dX0_addThing_40 : decode cX0_addThing 40 = .ok (.aload_n 0, 1) := by decide +kernel
theorem dX0_addThing_41 : decode cX0_addThing 41 = .ok (.dup, 1) := by decide +kernel
theorem dX0_addThing_42 : decode cX0_addThing 42 = .ok (.getfield 18, 3) := by decide +kernel
theorem dX0_addThing_45 : decode cX0_addThing 45 = .ok (.iconst 1, 1) := by decide +kernel
theorem dX0_addThing_46 : decode cX0_addThing 46 = .ok (.iadd, 1) := by decide +kernel
theorem dX0_addThing_47 : decode cX0_addThing 47 = .ok (.putfield 18, 3) := by decide +kernel
theorem dX0_addThing_50 : decode cX0_addThing 50 = .ok (.return_, 1) := by decide +kernel
set_option maxRecDepth 20000 in
theorem ggX0_want_X0_hasThing : GoodIn wsX0_want wsX0_hasThing := goodIn_r _ [6, 7, 8, 9, 10, 11, 12, 13, 14, 15] (by decide +kernel) (by decide +kernel)
set_option maxRecDepth 20000 in
theorem gX0_want_X0_hasThing : GoodIn wsX0_want (wsV RX0 43 RX0 yX0_hasThing wsX0_hasThing) := goodIn_app (goodIn_of _ (by decide +kernel)) ggX0_want_X0_hasThing
theorem dX0_want_0 : decode cX0_want 0 = .ok (.aload_n 0, 1) := by decide +kernel
theorem dX0_want_1 : decode cX0_want 1 = .ok (.iload_n 1, 1) := by decide +kernel
theorem dX0_want_2 : decode cX0_want 2 = .ok (.invokevirtual 43, 3) := by decide +kernel
theorem dX0_want_5 : decode cX0_want 5 = .ok (.ifCond .eq 10, 3) := by decide +kernel
theorem dX0_want_8 : decode cX0_want 8 = .ok (.aload_n 0, 1) := by decide +kernel
theorem dX0_want_9 : decode cX0_want 9 = .ok (.getfield 34, 3) := by decide +kernel
theorem dX0_want_12 : decode cX0_want 12 = .ok (.iload_n 1, 1) := by decide +kernel
theorem dX0_want_13 : decode cX0_want 13 = .ok (.iload_n 2, 1) := by decide +kernel
theorem dX0_want_14 : decode cX0_want 14 = .ok (.iastore, 1) := by decide +kernel
theorem dX0_want_15 : decode cX0_want 15 = .ok (.return_, 1) := by decide +kernel
theorem dX0_hasRoom_0 : decode cX0_hasRoom 0 = .ok (.iload_n 1, 1) := by decide +kernel
theorem dX0_hasRoom_1 : decode cX0_hasRoom 1 = .ok (.ifCond .lt 15, 3) := by decide +kernel
theorem dX0_hasRoom_4 : decode cX0_hasRoom 4 = .ok (.iload_n 1, 1) := by decide +kernel
theorem dX0_hasRoom_5 : decode cX0_hasRoom 5 = .ok (.aload_n 0, 1) := by decide +kernel
theorem dX0_hasRoom_6 : decode cX0_hasRoom 6 = .ok (.getfield 9, 3) := by decide +kernel
theorem dX0_hasRoom_9 : decode cX0_hasRoom 9 = .ok (.if_icmp .ge 7, 3) := by decide +kernel
theorem dX0_hasRoom_12 : decode cX0_hasRoom 12 = .ok (.iconst 1, 1) := by decide +kernel
theorem dX0_hasRoom_13 : decode cX0_hasRoom 13 = .ok (.goto 4, 3) := by decide +kernel
theorem dX0_hasRoom_16 : decode cX0_hasRoom 16 = .ok (.iconst 0, 1) := by decide +kernel
theorem dX0_hasRoom_17 : decode cX0_hasRoom 17 = .ok (.ireturn, 1) := by decide +kernel
theorem dX0_hasPerson_0 : decode cX0_hasPerson 0 = .ok (.iload_n 1, 1) := by decide +kernel
theorem dX0_hasPerson_1 : decode cX0_hasPerson 1 = .ok (.ifCond .lt 15, 3) := by decide +kernel
theorem dX0_hasPerson_4 : decode cX0_hasPerson 4 = .ok (.iload_n 1, 1) := by decide +kernel
theorem dX0_hasPerson_5 : decode cX0_hasPerson 5 = .ok (.aload_n 0, 1) := by decide +kernel
theorem dX0_hasPerson_6 : decode cX0_hasPerson 6 = .ok (.getfield 15, 3) := by decide +kernel
theorem dX0_hasPerson_9 : decode cX0_hasPerson 9 = .ok (.if_icmp .ge 7, 3) := by decide +kernel
theorem dX0_hasPerson_12 : decode cX0_hasPerson 12 = .ok (.iconst 1, 1) := by decide +kernel
theorem dX0_hasPerson_13 : decode cX0_hasPerson 13 = .ok (.goto 4, 3) := by decide +kernel
theorem dX0_hasPerson_16 : decode cX0_hasPerson 16 = .ok (.iconst 0, 1) := by decide +kernel
theorem dX0_hasPerson_17 : decode cX0_hasPerson 17 = .ok (.ireturn, 1) := by decide +kernel
theorem dX0_hasThing_0 : decode cX0_hasThing 0 = .ok (.iload_n 1, 1) := by decide +kernel
theorem dX0_hasThing_1 : decode cX0_hasThing 1 = .ok (.ifCond .lt 15, 3) := by decide +kernel
theorem dX0_hasThing_4 : decode cX0_hasThing 4 = .ok (.iload_n 1, 1) := by decide +kernel
theorem dX0_hasThing_5 : decode cX0_hasThing 5 = .ok (.aload_n 0, 1) := by decide +kernel
theorem dX0_hasThing_6 : decode cX0_hasThing 6 = .ok (.getfield 18, 3) := by decide +kernel
theorem dX0_hasThing_9 : decode cX0_hasThing 9 = .ok (.if_icmp .ge 7, 3) := by decide +kernel
theorem dX0_hasThing_12 : decode cX0_hasThing 12 = .ok (.iconst 1, 1) := by decide +kernel
theorem dX0_hasThing_13 : decode cX0_hasThing 13 = .ok (.goto 4, 3) := by decide +kernel
theorem dX0_hasThing_16 : decode cX0_hasThing 16 = .ok (.iconst 0, 1) := by decide +kernel
theorem dX0_hasThing_17 : decode cX0_hasThing 17 = .ok (.ireturn, 1) := by decide +kernel
theorem dX0_hasAllPeople_0 : decode cX0_hasAllPeople 0 = .ok (.iload_n 1, 1) := by decide +kernel
theorem dX0_hasAllPeople_1 : decode cX0_hasAllPeople 1 = .ok (.aload_n 0, 1) := by decide +kernel
theorem dX0_hasAllPeople_2 : decode cX0_hasAllPeople 2 = .ok (.getfield 15, 3) := by decide +kernel
theorem dX0_hasAllPeople_5 : decode cX0_hasAllPeople 5 = .ok (.iushr, 1) := by decide +kernel
theorem dX0_hasAllPeople_6 : decode cX0_hasAllPeople 6 = .ok (.ifCond .ne 7, 3) := by decide +kernel
theorem dX0_hasAllPeople_9 : decode cX0_hasAllPeople 9 = .ok (.iconst 1, 1) := by decide +kernel
theorem dX0_hasAllPeople_10 : decode cX0_hasAllPeople 10 = .ok (.goto 4, 3) := by decide +kernel
theorem dX0_hasAllPeople_13 : decode cX0_hasAllPeople 13 = .ok (.iconst 0, 1) := by decide +kernel
theorem dX0_hasAllPeople_14 : decode cX0_hasAllPeople 14 = .ok (.ireturn, 1) := by decide +kernel
theorem dX0_hasAllThings_0 : decode cX0_hasAllThings 0 = .ok (.iload_n 1, 1) := by decide +kernel
theorem dX0_hasAllThings_1 : decode cX0_hasAllThings 1 = .ok (.aload_n 0, 1) := by decide +kernel
theorem dX0_hasAllThings_2 : decode cX0_hasAllThings 2 = .ok (.getfield 18, 3) := by decide +kernel
theorem dX0_hasAllThings_5 : decode cX0_hasAllThings 5 = .ok (.iushr, 1) := by decide +kernel
theorem dX0_hasAllThings_6 : decode cX0_hasAllThings 6 = .ok (.ifCond .ne 7, 3) := by decide +kernel
theorem dX0_hasAllThings_9 : decode cX0_hasAllThings 9 = .ok (.iconst 1, 1) := by decide +kernel
theorem dX0_hasAllThings_10 : decode cX0_hasAllThings 10 = .ok (.goto 4, 3) := by decide +kernel
theorem dX0_hasAllThings_13 : decode cX0_hasAllThings 13 = .ok (.iconst 0, 1) := by decide +kernel
theorem dX0_hasAllThings_14 : decode cX0_hasAllThings 14 = .ok (.ireturn, 1) := by decide +kernel
theorem dX0_tasks_0 : decode cX0_tasks 0 = .ok (.iconst 0, 1) := by decide +kernel
theorem dX0_tasks_1 : decode cX0_tasks 1 = .ok (.istore_n 1, 1) := by decide +kernel
theorem dX0_tasks_2 : decode cX0_tasks 2 = .ok (.iconst 0, 1) := by decide +kernel
theorem dX0_tasks_3 : decode cX0_tasks 3 = .ok (.istore_n 2, 1) := by decide +kernel
theorem dX0_tasks_4 : decode cX0_tasks 4 = .ok (.iload_n 2, 1) := by decide +kernel
theorem dX0_tasks_5 : decode cX0_tasks 5 = .ok (.aload_n 0, 1) := by decide +kernel
theorem dX0_tasks_6 : decode cX0_tasks 6 = .ok (.getfield 18, 3) := by decide +kernel
theorem dX0_tasks_9 : decode cX0_tasks 9 = .ok (.if_icmp .ge 23, 3) := by decide +kernel
theorem dX0_tasks_12 : decode cX0_tasks 12 = .ok (.aload_n 0, 1) := by decide +kernel
theorem dX0_tasks_13 : decode cX0_tasks 13 = .ok (.getfield 34, 3) := by decide +kernel
theorem dX0_tasks_16 : decode cX0_tasks 16 = .ok (.iload_n 2, 1) := by decide +kernel
theorem dX0_tasks_17 : decode cX0_tasks 17 = .ok (.iaload, 1) := by decide +kernel
theorem dX0_tasks_18 : decode cX0_tasks 18 = .ok (.bipush (-9), 2) := by decide +kernel
theorem dX0_tasks_20 : decode cX0_tasks 20 = .ok (.if_icmp .eq 6, 3) := by decide +kernel
theorem dX0_tasks_23 : decode cX0_tasks 23 = .ok (.iinc 1 1, 3) := by decide +kernel
theorem dX0_tasks_26 : decode cX0_tasks 26 = .ok (.iinc 2 1, 3) := by decide +kernel
theorem dX0_tasks_29 : decode cX0_tasks 29 = .ok (.goto (-25), 3) := by decide +kernel
theorem dX0_tasks_32 : decode cX0_tasks 32 = .ok (.iload_n 1, 1) := by decide +kernel
theorem dX0_tasks_33 : decode cX0_tasks 33 = .ok (.ireturn, 1) := by decide +kernel
set_option maxRecDepth 20000 in
theorem ggX0_handsOf_X6_has : GoodIn wsX0_handsOf wsX6_has := goodIn_r _ [9] (by decide +kernel) (by decide +kernel)
set_option maxRecDepth 20000 in
theorem gX0_handsOf_X6_has_n47 : GoodIn wsX0_handsOf (wsX6_has) := ggX0_handsOf_X6_has
theorem dX0_handsOf_0 : decode cX0_handsOf 0 = .ok (.iconst 0, 1) := by decide +kernel
theorem dX0_handsOf_1 : decode cX0_handsOf 1 = .ok (.istore_n 2, 1) := by decide +kernel
theorem dX0_handsOf_2 : decode cX0_handsOf 2 = .ok (.iconst 0, 1) := by decide +kernel
theorem dX0_handsOf_3 : decode cX0_handsOf 3 = .ok (.istore_n 3, 1) := by decide +kernel
theorem dX0_handsOf_4 : decode cX0_handsOf 4 = .ok (.iload_n 3, 1) := by decide +kernel
theorem dX0_handsOf_5 : decode cX0_handsOf 5 = .ok (.aload_n 0, 1) := by decide +kernel
theorem dX0_handsOf_6 : decode cX0_handsOf 6 = .ok (.getfield 18, 3) := by decide +kernel
theorem dX0_handsOf_9 : decode cX0_handsOf 9 = .ok (.if_icmp .ge 28, 3) := by decide +kernel
theorem dX0_handsOf_12 : decode cX0_handsOf 12 = .ok (.iload_n 1, 1) := by decide +kernel
theorem dX0_handsOf_13 : decode cX0_handsOf 13 = .ok (.iload_n 3, 1) := by decide +kernel
theorem dX0_handsOf_14 : decode cX0_handsOf 14 = .ok (.invokestatic 47, 3) := by decide +kernel
theorem dX0_handsOf_17 : decode cX0_handsOf 17 = .ok (.ifCond .eq 14, 3) := by decide +kernel
theorem dX0_handsOf_20 : decode cX0_handsOf 20 = .ok (.iload_n 2, 1) := by decide +kernel
theorem dX0_handsOf_21 : decode cX0_handsOf 21 = .ok (.aload_n 0, 1) := by decide +kernel
theorem dX0_handsOf_22 : decode cX0_handsOf 22 = .ok (.getfield 31, 3) := by decide +kernel
theorem dX0_handsOf_25 : decode cX0_handsOf 25 = .ok (.iload_n 3, 1) := by decide +kernel
theorem dX0_handsOf_26 : decode cX0_handsOf 26 = .ok (.iaload, 1) := by decide +kernel
theorem dX0_handsOf_27 : decode cX0_handsOf 27 = .ok (.invokestatic 51, 3) := by decide +kernel
theorem dX0_handsOf_30 : decode cX0_handsOf 30 = .ok (.istore_n 2, 1) := by decide +kernel
theorem dX0_handsOf_31 : decode cX0_handsOf 31 = .ok (.iinc 3 1, 3) := by decide +kernel
theorem dX0_handsOf_34 : decode cX0_handsOf 34 = .ok (.goto (-30), 3) := by decide +kernel
theorem dX0_handsOf_37 : decode cX0_handsOf 37 = .ok (.iload_n 2, 1) := by decide +kernel
theorem dX0_handsOf_38 : decode cX0_handsOf 38 = .ok (.ireturn, 1) := by decide +kernel
set_option maxRecDepth 20000 in
theorem ggX0_handsTogether_X6_has : GoodIn wsX0_handsTogether wsX6_has := goodIn_r _ [5] (by decide +kernel) (by decide +kernel)
set_option maxRecDepth 20000 in
theorem gX0_handsTogether_X6_has_n47 : GoodIn wsX0_handsTogether (wsX6_has) := ggX0_handsTogether_X6_has
theorem dX0_handsTogether_0 : decode cX0_handsTogether 0 = .ok (.iconst 0, 1) := by decide +kernel
theorem dX0_handsTogether_1 : decode cX0_handsTogether 1 = .ok (.istore_n 2, 1) := by decide +kernel
theorem dX0_handsTogether_2 : decode cX0_handsTogether 2 = .ok (.iconst 0, 1) := by decide +kernel
theorem dX0_handsTogether_3 : decode cX0_handsTogether 3 = .ok (.istore_n 3, 1) := by decide +kernel
theorem dX0_handsTogether_4 : decode cX0_handsTogether 4 = .ok (.iload_n 3, 1) := by decide +kernel
theorem dX0_handsTogether_5 : decode cX0_handsTogether 5 = .ok (.aload_n 0, 1) := by decide +kernel
theorem dX0_handsTogether_6 : decode cX0_handsTogether 6 = .ok (.getfield 18, 3) := by decide +kernel
theorem dX0_handsTogether_9 : decode cX0_handsTogether 9 = .ok (.if_icmp .ge 26, 3) := by decide +kernel
theorem dX0_handsTogether_12 : decode cX0_handsTogether 12 = .ok (.iload_n 1, 1) := by decide +kernel
theorem dX0_handsTogether_13 : decode cX0_handsTogether 13 = .ok (.iload_n 3, 1) := by decide +kernel
theorem dX0_handsTogether_14 : decode cX0_handsTogether 14 = .ok (.invokestatic 47, 3) := by decide +kernel
theorem dX0_handsTogether_17 : decode cX0_handsTogether 17 = .ok (.ifCond .eq 12, 3) := by decide +kernel
theorem dX0_handsTogether_20 : decode cX0_handsTogether 20 = .ok (.iload_n 2, 1) := by decide +kernel
theorem dX0_handsTogether_21 : decode cX0_handsTogether 21 = .ok (.aload_n 0, 1) := by decide +kernel
theorem dX0_handsTogether_22 : decode cX0_handsTogether 22 = .ok (.getfield 31, 3) := by decide +kernel
theorem dX0_handsTogether_25 : decode cX0_handsTogether 25 = .ok (.iload_n 3, 1) := by decide +kernel
theorem dX0_handsTogether_26 : decode cX0_handsTogether 26 = .ok (.iaload, 1) := by decide +kernel
theorem dX0_handsTogether_27 : decode cX0_handsTogether 27 = .ok (.iadd, 1) := by decide +kernel
theorem dX0_handsTogether_28 : decode cX0_handsTogether 28 = .ok (.istore_n 2, 1) := by decide +kernel
theorem dX0_handsTogether_29 : decode cX0_handsTogether 29 = .ok (.iinc 3 1, 3) := by decide +kernel
theorem dX0_handsTogether_32 : decode cX0_handsTogether 32 = .ok (.goto (-28), 3) := by decide +kernel
theorem dX0_handsTogether_35 : decode cX0_handsTogether 35 = .ok (.iload_n 2, 1) := by decide +kernel
theorem dX0_handsTogether_36 : decode cX0_handsTogether 36 = .ok (.ireturn, 1) := by decide +kernel
theorem dX0_mostLifts_0 : decode cX0_mostLifts 0 = .ok (.iconst 0, 1) := by decide +kernel
theorem dX0_mostLifts_1 : decode cX0_mostLifts 1 = .ok (.istore_n 1, 1) := by decide +kernel
theorem dX0_mostLifts_2 : decode cX0_mostLifts 2 = .ok (.iconst 0, 1) := by decide +kernel
theorem dX0_mostLifts_3 : decode cX0_mostLifts 3 = .ok (.istore_n 2, 1) := by decide +kernel
theorem dX0_mostLifts_4 : decode cX0_mostLifts 4 = .ok (.iload_n 2, 1) := by decide +kernel
theorem dX0_mostLifts_5 : decode cX0_mostLifts 5 = .ok (.aload_n 0, 1) := by decide +kernel
theorem dX0_mostLifts_6 : decode cX0_mostLifts 6 = .ok (.getfield 15, 3) := by decide +kernel
theorem dX0_mostLifts_9 : decode cX0_mostLifts 9 = .ok (.if_icmp .ge 20, 3) := by decide +kernel
theorem dX0_mostLifts_12 : decode cX0_mostLifts 12 = .ok (.iload_n 1, 1) := by decide +kernel
theorem dX0_mostLifts_13 : decode cX0_mostLifts 13 = .ok (.aload_n 0, 1) := by decide +kernel
theorem dX0_mostLifts_14 : decode cX0_mostLifts 14 = .ok (.getfield 21, 3) := by decide +kernel
theorem dX0_mostLifts_17 : decode cX0_mostLifts 17 = .ok (.iload_n 2, 1) := by decide +kernel
theorem dX0_mostLifts_18 : decode cX0_mostLifts 18 = .ok (.iaload, 1) := by decide +kernel
theorem dX0_mostLifts_19 : decode cX0_mostLifts 19 = .ok (.invokestatic 51, 3) := by decide +kernel
theorem dX0_mostLifts_22 : decode cX0_mostLifts 22 = .ok (.istore_n 1, 1) := by decide +kernel
theorem dX0_mostLifts_23 : decode cX0_mostLifts 23 = .ok (.iinc 2 1, 3) := by decide +kernel
theorem dX0_mostLifts_26 : decode cX0_mostLifts 26 = .ok (.goto (-22), 3) := by decide +kernel
theorem dX0_mostLifts_29 : decode cX0_mostLifts 29 = .ok (.iload_n 1, 1) := by decide +kernel
theorem dX0_mostLifts_30 : decode cX0_mostLifts 30 = .ok (.ireturn, 1) := by decide +kernel
theorem dX1_init_0 : decode cX1_init 0 = .ok (.aload_n 0, 1) := by decide +kernel
theorem dX1_init_1 : decode cX1_init 1 = .ok (.invokespecial 3, 3) := by decide +kernel
theorem dX1_init_4 : decode cX1_init 4 = .ok (.aload_n 0, 1) := by decide +kernel
theorem dX1_init_5 : decode cX1_init 5 = .ok (.bipush 8, 2) := by decide +kernel
theorem dX1_init_7 : decode cX1_init 7 = .ok (.newarray .int, 2) := by decide +kernel
theorem dX1_init_9 : decode cX1_init 9 = .ok (.putfield 9, 3) := by decide +kernel
theorem dX1_init_12 : decode cX1_init 12 = .ok (.aload_n 0, 1) := by decide +kernel
theorem dX1_init_13 : decode cX1_init 13 = .ok (.bipush 8, 2) := by decide +kernel
theorem dX1_init_15 : decode cX1_init 15 = .ok (.newarray .int, 2) := by decide +kernel
theorem dX1_init_17 : decode cX1_init 17 = .ok (.putfield 15, 3) := by decide +kernel
theorem dX1_init_20 : decode cX1_init 20 = .ok (.aload_n 0, 1) := by decide +kernel
theorem dX1_init_21 : decode cX1_init 21 = .ok (.iconst 4, 1) := by decide +kernel
theorem dX1_init_22 : decode cX1_init 22 = .ok (.newarray .int, 2) := by decide +kernel
theorem dX1_init_24 : decode cX1_init 24 = .ok (.putfield 18, 3) := by decide +kernel
theorem dX1_init_27 : decode cX1_init 27 = .ok (.aload_n 0, 1) := by decide +kernel
theorem dX1_init_28 : decode cX1_init 28 = .ok (.iconst 0, 1) := by decide +kernel
theorem dX1_init_29 : decode cX1_init 29 = .ok (.putfield 21, 3) := by decide +kernel
theorem dX1_init_32 : decode cX1_init 32 = .ok (.aload_n 0, 1) := by decide +kernel
theorem dX1_init_33 : decode cX1_init 33 = .ok (.iconst 0, 1) := by decide +kernel
theorem dX1_init_34 : decode cX1_init 34 = .ok (.putfield 25, 3) := by decide +kernel
theorem dX1_init_37 : decode cX1_init 37 = .ok (.iconst 0, 1) := by decide +kernel
theorem dX1_init_38 : decode cX1_init 38 = .ok (.istore_n 1, 1) := by decide +kernel
theorem dX1_init_39 : decode cX1_init 39 = .ok (.iload_n 1, 1) := by decide +kernel
theorem dX1_init_40 : decode cX1_init 40 = .ok (.bipush 8, 2) := by decide +kernel
theorem dX1_init_42 : decode cX1_init 42 = .ok (.if_icmp .ge 25, 3) := by decide +kernel
theorem dX1_init_45 : decode cX1_init 45 = .ok (.aload_n 0, 1) := by decide +kernel
theorem dX1_init_46 : decode cX1_init 46 = .ok (.getfield 9, 3) := by decide +kernel
theorem dX1_init_49 : decode cX1_init 49 = .ok (.iload_n 1, 1) := by decide +kernel
theorem dX1_init_50 : decode cX1_init 50 = .ok (.bipush (-9), 2) := by decide +kernel
theorem dX1_init_52 : decode cX1_init 52 = .ok (.iastore, 1) := by decide +kernel
theorem dX1_init_53 : decode cX1_init 53 = .ok (.aload_n 0, 1) := by decide +kernel
theorem dX1_init_54 : decode cX1_init 54 = .ok (.getfield 15, 3) := by decide +kernel
theorem dX1_init_57 : decode cX1_init 57 = .ok (.iload_n 1, 1) := by decide +kernel
theorem dX1_init_58 : decode cX1_init 58 = .ok (.bipush (-9), 2) := by decide +kernel
theorem dX1_init_60 : decode cX1_init 60 = .ok (.iastore, 1) := by decide +kernel
theorem dX1_init_61 : decode cX1_init 61 = .ok (.iinc 1 1, 3) := by decide +kernel
theorem dX1_init_64 : decode cX1_init 64 = .ok (.goto (-25), 3) := by decide +kernel
theorem dX1_init_67 : decode cX1_init 67 = .ok (.return_, 1) := by decide +kernel
set_option maxRecDepth 20000 in
theorem ggX1_begin_X0_hasThing : GoodIn wsX1_begin wsX0_hasThing := goodIn_r _ [8, 9, 26, 27, 28, 29, 30, 31, 32, 33] (by decide +kernel) (by decide +kernel)
set_option maxRecDepth 20000 in
theorem gX1_begin_X0_hasThing : GoodIn wsX1_begin (wsV RX1 29 RX0 yX0_hasThing wsX0_hasThing) := goodIn_app (goodIn_of _ (by decide +kernel)) ggX1_begin_X0_hasThing
set_option maxRecDepth 20000 in
theorem ggX1_begin_X1_rest : GoodIn wsX1_begin wsX1_rest := goodIn_r _ [14, 15, 16, 17, 18, 7, 19, 20, 21, 22, 23, 24, 25, 26, 27, 28, 29, 30, 31, 32, 33] (by decide +kernel) (by decide +kernel)
set_option maxRecDepth 20000 in
theorem gX1_begin_X1_rest : GoodIn wsX1_begin (wsV RX1 38 RX1 yX1_rest wsX1_rest) := goodIn_app (goodIn_of _ (by decide +kernel)) ggX1_begin_X1_rest
theorem dX1_begin_0 : decode cX1_begin 0 = .ok (.iconst 0, 1) := by decide +kernel
theorem dX1_begin_1 : decode cX1_begin 1 = .ok (.istore_n 2, 1) := by decide +kernel
theorem dX1_begin_2 : decode cX1_begin 2 = .ok (.iload_n 2, 1) := by decide +kernel
theorem dX1_begin_3 : decode cX1_begin 3 = .ok (.bipush 8, 2) := by decide +kernel
theorem dX1_begin_5 : decode cX1_begin 5 = .ok (.if_icmp .ge 42, 3) := by decide +kernel
theorem dX1_begin_8 : decode cX1_begin 8 = .ok (.aload_n 0, 1) := by decide +kernel
theorem dX1_begin_9 : decode cX1_begin 9 = .ok (.getfield 9, 3) := by decide +kernel
theorem dX1_begin_12 : decode cX1_begin 12 = .ok (.iload_n 2, 1) := by decide +kernel
theorem dX1_begin_13 : decode cX1_begin 13 = .ok (.aload_n 1, 1) := by decide +kernel
theorem dX1_begin_14 : decode cX1_begin 14 = .ok (.iload_n 2, 1) := by decide +kernel
theorem dX1_begin_15 : decode cX1_begin 15 = .ok (.invokevirtual 29, 3) := by decide +kernel
theorem dX1_begin_18 : decode cX1_begin 18 = .ok (.ifCond .eq 12, 3) := by decide +kernel
theorem dX1_begin_21 : decode cX1_begin 21 = .ok (.aload_n 1, 1) := by decide +kernel
theorem dX1_begin_22 : decode cX1_begin 22 = .ok (.getfield 35, 3) := by decide +kernel
theorem dX1_begin_25 : decode cX1_begin 25 = .ok (.iload_n 2, 1) := by decide +kernel
theorem dX1_begin_26 : decode cX1_begin 26 = .ok (.iaload, 1) := by decide +kernel
theorem dX1_begin_27 : decode cX1_begin 27 = .ok (.goto 5, 3) := by decide +kernel
theorem dX1_begin_30 : decode cX1_begin 30 = .ok (.bipush (-9), 2) := by decide +kernel
theorem dX1_begin_32 : decode cX1_begin 32 = .ok (.iastore, 1) := by decide +kernel
theorem dX1_begin_33 : decode cX1_begin 33 = .ok (.aload_n 0, 1) := by decide +kernel
theorem dX1_begin_34 : decode cX1_begin 34 = .ok (.getfield 15, 3) := by decide +kernel
theorem dX1_begin_37 : decode cX1_begin 37 = .ok (.iload_n 2, 1) := by decide +kernel
theorem dX1_begin_38 : decode cX1_begin 38 = .ok (.bipush (-9), 2) := by decide +kernel
theorem dX1_begin_40 : decode cX1_begin 40 = .ok (.iastore, 1) := by decide +kernel
theorem dX1_begin_41 : decode cX1_begin 41 = .ok (.iinc 2 1, 3) := by decide +kernel
theorem dX1_begin_44 : decode cX1_begin 44 = .ok (.goto (-42), 3) := by decide +kernel
theorem dX1_begin_47 : decode cX1_begin 47 = .ok (.aload_n 0, 1) := by decide +kernel
theorem dX1_begin_48 : decode cX1_begin 48 = .ok (.aload_n 1, 1) := by decide +kernel
theorem dX1_begin_49 : decode cX1_begin 49 = .ok (.invokevirtual 38, 3) := by decide +kernel
theorem dX1_begin_52 : decode cX1_begin 52 = .ok (.aload_n 0, 1) := by decide +kernel
theorem dX1_begin_53 : decode cX1_begin 53 = .ok (.iconst 0, 1) := by decide +kernel
theorem dX1_begin_54 : decode cX1_begin 54 = .ok (.putfield 21, 3) := by decide +kernel
theorem dX1_begin_57 : decode cX1_begin 57 = .ok (.return_, 1) := by decide +kernel
set_option maxRecDepth 20000 in
theorem ggX1_rest_X0_hasPerson : GoodIn wsX1_rest wsX0_hasPerson := goodIn_r _ [6, 7, 13, 14, 15, 16, 17, 18, 19, 20] (by decide +kernel) (by decide +kernel)
set_option maxRecDepth 20000 in
theorem gX1_rest_X0_hasPerson : GoodIn wsX1_rest (wsV RX1 42 RX0 yX0_hasPerson wsX0_hasPerson) := goodIn_app (goodIn_of _ (by decide +kernel)) ggX1_rest_X0_hasPerson
theorem dX1_rest_0 : decode cX1_rest 0 = .ok (.iconst 0, 1) := by decide +kernel
theorem dX1_rest_1 : decode cX1_rest 1 = .ok (.istore_n 2, 1) := by decide +kernel
theorem dX1_rest_2 : decode cX1_rest 2 = .ok (.iload_n 2, 1) := by decide +kernel
theorem dX1_rest_3 : decode cX1_rest 3 = .ok (.iconst 4, 1) := by decide +kernel
theorem dX1_rest_4 : decode cX1_rest 4 = .ok (.if_icmp .ge 33, 3) := by decide +kernel
theorem dX1_rest_7 : decode cX1_rest 7 = .ok (.aload_n 0, 1) := by decide +kernel
theorem dX1_rest_8 : decode cX1_rest 8 = .ok (.getfield 18, 3) := by decide +kernel
theorem dX1_rest_11 : decode cX1_rest 11 = .ok (.iload_n 2, 1) := by decide +kernel
theorem dX1_rest_12 : decode cX1_rest 12 = .ok (.aload_n 1, 1) := by decide +kernel
theorem dX1_rest_13 : decode cX1_rest 13 = .ok (.iload_n 2, 1) := by decide +kernel
theorem dX1_rest_14 : decode cX1_rest 14 = .ok (.invokevirtual 42, 3) := by decide +kernel
theorem dX1_rest_17 : decode cX1_rest 17 = .ok (.ifCond .eq 12, 3) := by decide +kernel
theorem dX1_rest_20 : decode cX1_rest 20 = .ok (.aload_n 1, 1) := by decide +kernel
theorem dX1_rest_21 : decode cX1_rest 21 = .ok (.getfield 45, 3) := by decide +kernel
theorem dX1_rest_24 : decode cX1_rest 24 = .ok (.iload_n 2, 1) := by decide +kernel
theorem dX1_rest_25 : decode cX1_rest 25 = .ok (.iaload, 1) := by decide +kernel
theorem dX1_rest_26 : decode cX1_rest 26 = .ok (.goto 4, 3) := by decide +kernel
theorem dX1_rest_29 : decode cX1_rest 29 = .ok (.iconst 0, 1) := by decide +kernel
theorem dX1_rest_30 : decode cX1_rest 30 = .ok (.iastore, 1) := by decide +kernel
theorem dX1_rest_31 : decode cX1_rest 31 = .ok (.iinc 2 1, 3) := by decide +kernel
theorem dX1_rest_34 : decode cX1_rest 34 = .ok (.goto (-32), 3) := by decide +kernel
theorem dX1_rest_37 : decode cX1_rest 37 = .ok (.return_, 1) := by decide +kernel
theorem dX1_become_0 : decode cX1_become 0 = .ok (.aload_n 1, 1) := by decide +kernel
theorem dX1_become_1 : decode cX1_become 1 = .ok (.getfield 9, 3) := by decide +kernel
theorem dX1_become_4 : decode cX1_become 4 = .ok (.iconst 0, 1) := by decide +kernel
theorem dX1_become_5 : decode cX1_become 5 = .ok (.aload_n 0, 1) := by decide +kernel
theorem dX1_become_6 : decode cX1_become 6 = .ok (.getfield 9, 3) := by decide +kernel
theorem dX1_become_9 : decode cX1_become 9 = .ok (.iconst 0, 1) := by decide +kernel
theorem dX1_become_10 : decode cX1_become 10 = .ok (.bipush 8, 2) := by decide +kernel
theorem dX1_become_12 : decode cX1_become 12 = .ok (.invokestatic 48, 3) := by decide +kernel
theorem dX1_become_15 : decode cX1_become 15 = .ok (.aload_n 1, 1) := by decide +kernel
theorem dX1_become_16 : decode cX1_become 16 = .ok (.getfield 15, 3) := by decide +kernel
theorem dX1_become_19 : decode cX1_become 19 = .ok (.iconst 0, 1) := by decide +kernel
theorem dX1_become_20 : decode cX1_become 20 = .ok (.aload_n 0, 1) := by decide +kernel
theorem dX1_become_21 : decode cX1_become 21 = .ok (.getfield 15, 3) := by decide +kernel
theorem dX1_become_24 : decode cX1_become 24 = .ok (.iconst 0, 1) := by decide +kernel
theorem dX1_become_25 : decode cX1_become 25 = .ok (.bipush 8, 2) := by decide +kernel
theorem dX1_become_27 : decode cX1_become 27 = .ok (.invokestatic 48, 3) := by decide +kernel
theorem dX1_become_30 : decode cX1_become 30 = .ok (.aload_n 1, 1) := by decide +kernel
theorem dX1_become_31 : decode cX1_become 31 = .ok (.getfield 18, 3) := by decide +kernel
theorem dX1_become_34 : decode cX1_become 34 = .ok (.iconst 0, 1) := by decide +kernel
theorem dX1_become_35 : decode cX1_become 35 = .ok (.aload_n 0, 1) := by decide +kernel
theorem dX1_become_36 : decode cX1_become 36 = .ok (.getfield 18, 3) := by decide +kernel
theorem dX1_become_39 : decode cX1_become 39 = .ok (.iconst 0, 1) := by decide +kernel
theorem dX1_become_40 : decode cX1_become 40 = .ok (.iconst 4, 1) := by decide +kernel
theorem dX1_become_41 : decode cX1_become 41 = .ok (.invokestatic 48, 3) := by decide +kernel
theorem dX1_become_44 : decode cX1_become 44 = .ok (.aload_n 0, 1) := by decide +kernel
theorem dX1_become_45 : decode cX1_become 45 = .ok (.aload_n 1, 1) := by decide +kernel
theorem dX1_become_46 : decode cX1_become 46 = .ok (.getfield 21, 3) := by decide +kernel
theorem dX1_become_49 : decode cX1_become 49 = .ok (.putfield 21, 3) := by decide +kernel
theorem dX1_become_52 : decode cX1_become 52 = .ok (.return_, 1) := by decide +kernel
theorem dX1_jobOf_0 : decode cX1_jobOf 0 = .ok (.iconst 1, 1) := by decide +kernel
theorem dX1_jobOf_1 : decode cX1_jobOf 1 = .ok (.iload_n 1, 1) := by decide +kernel
theorem dX1_jobOf_2 : decode cX1_jobOf 2 = .ok (.ishl, 1) := by decide +kernel
theorem dX1_jobOf_3 : decode cX1_jobOf 3 = .ok (.istore_n 2, 1) := by decide +kernel
theorem dX1_jobOf_4 : decode cX1_jobOf 4 = .ok (.iconst 0, 1) := by decide +kernel
theorem dX1_jobOf_5 : decode cX1_jobOf 5 = .ok (.istore_n 3, 1) := by decide +kernel
theorem dX1_jobOf_6 : decode cX1_jobOf 6 = .ok (.iload_n 3, 1) := by decide +kernel
theorem dX1_jobOf_7 : decode cX1_jobOf 7 = .ok (.bipush 8, 2) := by decide +kernel
theorem dX1_jobOf_9 : decode cX1_jobOf 9 = .ok (.if_icmp .ge 41, 3) := by decide +kernel
theorem dX1_jobOf_12 : decode cX1_jobOf 12 = .ok (.aload_n 0, 1) := by decide +kernel
theorem dX1_jobOf_13 : decode cX1_jobOf 13 = .ok (.getfield 15, 3) := by decide +kernel
theorem dX1_jobOf_16 : decode cX1_jobOf 16 = .ok (.iload_n 1, 1) := by decide +kernel
theorem dX1_jobOf_17 : decode cX1_jobOf 17 = .ok (.iaload, 1) := by decide +kernel
theorem dX1_jobOf_18 : decode cX1_jobOf 18 = .ok (.bipush (-9), 2) := by decide +kernel
theorem dX1_jobOf_20 : decode cX1_jobOf 20 = .ok (.if_icmp .eq 24, 3) := by decide +kernel
theorem dX1_jobOf_23 : decode cX1_jobOf 23 = .ok (.aload_n 0, 1) := by decide +kernel
theorem dX1_jobOf_24 : decode cX1_jobOf 24 = .ok (.getfield 15, 3) := by decide +kernel
theorem dX1_jobOf_27 : decode cX1_jobOf 27 = .ok (.iload_n 3, 1) := by decide +kernel
theorem dX1_jobOf_28 : decode cX1_jobOf 28 = .ok (.iaload, 1) := by decide +kernel
theorem dX1_jobOf_29 : decode cX1_jobOf 29 = .ok (.aload_n 0, 1) := by decide +kernel
theorem dX1_jobOf_30 : decode cX1_jobOf 30 = .ok (.getfield 15, 3) := by decide +kernel
theorem dX1_jobOf_33 : decode cX1_jobOf 33 = .ok (.iload_n 1, 1) := by decide +kernel
theorem dX1_jobOf_34 : decode cX1_jobOf 34 = .ok (.iaload, 1) := by decide +kernel
theorem dX1_jobOf_35 : decode cX1_jobOf 35 = .ok (.if_icmp .ne 9, 3) := by decide +kernel
theorem dX1_jobOf_38 : decode cX1_jobOf 38 = .ok (.iload_n 2, 1) := by decide +kernel
theorem dX1_jobOf_39 : decode cX1_jobOf 39 = .ok (.iconst 1, 1) := by decide +kernel
theorem dX1_jobOf_40 : decode cX1_jobOf 40 = .ok (.iload_n 3, 1) := by decide +kernel
theorem dX1_jobOf_41 : decode cX1_jobOf 41 = .ok (.ishl, 1) := by decide +kernel
theorem dX1_jobOf_42 : decode cX1_jobOf 42 = .ok (.ior, 1) := by decide +kernel
theorem dX1_jobOf_43 : decode cX1_jobOf 43 = .ok (.istore_n 2, 1) := by decide +kernel
theorem dX1_jobOf_44 : decode cX1_jobOf 44 = .ok (.iinc 3 1, 3) := by decide +kernel
theorem dX1_jobOf_47 : decode cX1_jobOf 47 = .ok (.goto (-41), 3) := by decide +kernel
theorem dX1_jobOf_50 : decode cX1_jobOf 50 = .ok (.iload_n 2, 1) := by decide +kernel
theorem dX1_jobOf_51 : decode cX1_jobOf 51 = .ok (.ireturn, 1) := by decide +kernel
theorem dX1_leadsJob_0 : decode cX1_leadsJob 0 = .ok (.aload_n 0, 1) := by decide +kernel
theorem dX1_leadsJob_1 : decode cX1_leadsJob 1 = .ok (.getfield 15, 3) := by decide +kernel
theorem dX1_leadsJob_4 : decode cX1_leadsJob 4 = .ok (.iload_n 1, 1) := by decide +kernel
theorem dX1_leadsJob_5 : decode cX1_leadsJob 5 = .ok (.iaload, 1) := by decide +kernel
theorem dX1_leadsJob_6 : decode cX1_leadsJob 6 = .ok (.bipush (-9), 2) := by decide +kernel
theorem dX1_leadsJob_8 : decode cX1_leadsJob 8 = .ok (.if_icmp .eq 13, 3) := by decide +kernel
theorem dX1_leadsJob_11 : decode cX1_leadsJob 11 = .ok (.aload_n 0, 1) := by decide +kernel
theorem dX1_leadsJob_12 : decode cX1_leadsJob 12 = .ok (.getfield 15, 3) := by decide +kernel
theorem dX1_leadsJob_15 : decode cX1_leadsJob 15 = .ok (.iload_n 1, 1) := by decide +kernel
theorem dX1_leadsJob_16 : decode cX1_leadsJob 16 = .ok (.iaload, 1) := by decide +kernel
theorem dX1_leadsJob_17 : decode cX1_leadsJob 17 = .ok (.iload_n 1, 1) := by decide +kernel
theorem dX1_leadsJob_18 : decode cX1_leadsJob 18 = .ok (.if_icmp .ne 7, 3) := by decide +kernel
theorem dX1_leadsJob_21 : decode cX1_leadsJob 21 = .ok (.iconst 1, 1) := by decide +kernel
theorem dX1_leadsJob_22 : decode cX1_leadsJob 22 = .ok (.goto 4, 3) := by decide +kernel
theorem dX1_leadsJob_25 : decode cX1_leadsJob 25 = .ok (.iconst 0, 1) := by decide +kernel
theorem dX1_leadsJob_26 : decode cX1_leadsJob 26 = .ok (.ireturn, 1) := by decide +kernel
theorem dX1_bundles_0 : decode cX1_bundles 0 = .ok (.iconst 0, 1) := by decide +kernel
theorem dX1_bundles_1 : decode cX1_bundles 1 = .ok (.istore_n 1, 1) := by decide +kernel
theorem dX1_bundles_2 : decode cX1_bundles 2 = .ok (.iconst 0, 1) := by decide +kernel
theorem dX1_bundles_3 : decode cX1_bundles 3 = .ok (.istore_n 2, 1) := by decide +kernel
theorem dX1_bundles_4 : decode cX1_bundles 4 = .ok (.iload_n 2, 1) := by decide +kernel
theorem dX1_bundles_5 : decode cX1_bundles 5 = .ok (.bipush 8, 2) := by decide +kernel
theorem dX1_bundles_7 : decode cX1_bundles 7 = .ok (.if_icmp .ge 22, 3) := by decide +kernel
theorem dX1_bundles_10 : decode cX1_bundles 10 = .ok (.aload_n 0, 1) := by decide +kernel
theorem dX1_bundles_11 : decode cX1_bundles 11 = .ok (.getfield 15, 3) := by decide +kernel
theorem dX1_bundles_14 : decode cX1_bundles 14 = .ok (.iload_n 2, 1) := by decide +kernel
theorem dX1_bundles_15 : decode cX1_bundles 15 = .ok (.iaload, 1) := by decide +kernel
theorem dX1_bundles_16 : decode cX1_bundles 16 = .ok (.iload_n 2, 1) := by decide +kernel
theorem dX1_bundles_17 : decode cX1_bundles 17 = .ok (.if_icmp .ne 6, 3) := by decide +kernel
theorem dX1_bundles_20 : decode cX1_bundles 20 = .ok (.iinc 1 1, 3) := by decide +kernel
theorem dX1_bundles_23 : decode cX1_bundles 23 = .ok (.iinc 2 1, 3) := by decide +kernel
theorem dX1_bundles_26 : decode cX1_bundles 26 = .ok (.goto (-22), 3) := by decide +kernel
theorem dX1_bundles_29 : decode cX1_bundles 29 = .ok (.iload_n 1, 1) := by decide +kernel
theorem dX1_bundles_30 : decode cX1_bundles 30 = .ok (.ireturn, 1) := by decide +kernel
set_option maxRecDepth 20000 in
theorem ggX1_canBeTied_X6_has : GoodIn wsX1_canBeTied wsX6_has := goodIn_r _ [5] (by decide +kernel) (by decide +kernel)
set_option maxRecDepth 20000 in
theorem gX1_canBeTied_X6_has_n54 : GoodIn wsX1_canBeTied (wsX6_has) := ggX1_canBeTied_X6_has
theorem dX1_canBeTied_0 : decode cX1_canBeTied 0 = .ok (.bipush (-9), 2) := by decide +kernel
theorem dX1_canBeTied_2 : decode cX1_canBeTied 2 = .ok (.istore_n 2, 1) := by decide +kernel
theorem dX1_canBeTied_3 : decode cX1_canBeTied 3 = .ok (.iconst 0, 1) := by decide +kernel
theorem dX1_canBeTied_4 : decode cX1_canBeTied 4 = .ok (.istore_n 3, 1) := by decide +kernel
theorem dX1_canBeTied_5 : decode cX1_canBeTied 5 = .ok (.iload_n 3, 1) := by decide +kernel
theorem dX1_canBeTied_6 : decode cX1_canBeTied 6 = .ok (.bipush 8, 2) := by decide +kernel
theorem dX1_canBeTied_8 : decode cX1_canBeTied 8 = .ok (.if_icmp .ge 53, 3) := by decide +kernel
theorem dX1_canBeTied_11 : decode cX1_canBeTied 11 = .ok (.iload_n 1, 1) := by decide +kernel
theorem dX1_canBeTied_12 : decode cX1_canBeTied 12 = .ok (.iload_n 3, 1) := by decide +kernel
theorem dX1_canBeTied_13 : decode cX1_canBeTied 13 = .ok (.invokestatic 54, 3) := by decide +kernel
theorem dX1_canBeTied_16 : decode cX1_canBeTied 16 = .ok (.ifCond .eq 39, 3) := by decide +kernel
theorem dX1_canBeTied_19 : decode cX1_canBeTied 19 = .ok (.aload_n 0, 1) := by decide +kernel
theorem dX1_canBeTied_20 : decode cX1_canBeTied 20 = .ok (.getfield 15, 3) := by decide +kernel
theorem dX1_canBeTied_23 : decode cX1_canBeTied 23 = .ok (.iload_n 3, 1) := by decide +kernel
theorem dX1_canBeTied_24 : decode cX1_canBeTied 24 = .ok (.iaload, 1) := by decide +kernel
theorem dX1_canBeTied_25 : decode cX1_canBeTied 25 = .ok (.bipush (-9), 2) := by decide +kernel
theorem dX1_canBeTied_27 : decode cX1_canBeTied 27 = .ok (.if_icmp .ne 19, 3) := by decide +kernel
theorem dX1_canBeTied_30 : decode cX1_canBeTied 30 = .ok (.iload_n 2, 1) := by decide +kernel
theorem dX1_canBeTied_31 : decode cX1_canBeTied 31 = .ok (.bipush (-9), 2) := by decide +kernel
theorem dX1_canBeTied_33 : decode cX1_canBeTied 33 = .ok (.if_icmp .eq 15, 3) := by decide +kernel
theorem dX1_canBeTied_36 : decode cX1_canBeTied 36 = .ok (.aload_n 0, 1) := by decide +kernel
theorem dX1_canBeTied_37 : decode cX1_canBeTied 37 = .ok (.getfield 9, 3) := by decide +kernel
theorem dX1_canBeTied_40 : decode cX1_canBeTied 40 = .ok (.iload_n 3, 1) := by decide +kernel
theorem dX1_canBeTied_41 : decode cX1_canBeTied 41 = .ok (.iaload, 1) := by decide +kernel
theorem dX1_canBeTied_42 : decode cX1_canBeTied 42 = .ok (.iload_n 2, 1) := by decide +kernel
theorem dX1_canBeTied_43 : decode cX1_canBeTied 43 = .ok (.if_icmp .eq 5, 3) := by decide +kernel
theorem dX1_canBeTied_46 : decode cX1_canBeTied 46 = .ok (.iconst 0, 1) := by decide +kernel
theorem dX1_canBeTied_47 : decode cX1_canBeTied 47 = .ok (.ireturn, 1) := by decide +kernel
theorem dX1_canBeTied_48 : decode cX1_canBeTied 48 = .ok (.aload_n 0, 1) := by decide +kernel
theorem dX1_canBeTied_49 : decode cX1_canBeTied 49 = .ok (.getfield 9, 3) := by decide +kernel
theorem dX1_canBeTied_52 : decode cX1_canBeTied 52 = .ok (.iload_n 3, 1) := by decide +kernel
theorem dX1_canBeTied_53 : decode cX1_canBeTied 53 = .ok (.iaload, 1) := by decide +kernel
theorem dX1_canBeTied_54 : decode cX1_canBeTied 54 = .ok (.istore_n 2, 1) := by decide +kernel
theorem dX1_canBeTied_55 : decode cX1_canBeTied 55 = .ok (.iinc 3 1, 3) := by decide +kernel
theorem dX1_canBeTied_58 : decode cX1_canBeTied 58 = .ok (.goto (-53), 3) := by decide +kernel
theorem dX1_canBeTied_61 : decode cX1_canBeTied 61 = .ok (.iconst 1, 1) := by decide +kernel
theorem dX1_canBeTied_62 : decode cX1_canBeTied 62 = .ok (.ireturn, 1) := by decide +kernel
set_option maxRecDepth 20000 in
theorem ggX1_setBundle_X6_has : GoodIn wsX1_setBundle wsX6_has := goodIn_r _ [4] (by decide +kernel) (by decide +kernel)
set_option maxRecDepth 20000 in
theorem gX1_setBundle_X6_has_n54 : GoodIn wsX1_setBundle (wsX6_has) := ggX1_setBundle_X6_has
theorem dX1_setBundle_0 : decode cX1_setBundle 0 = .ok (.iconst 0, 1) := by decide +kernel
theorem dX1_setBundle_1 : decode cX1_setBundle 1 = .ok (.istore_n 3, 1) := by decide +kernel
theorem dX1_setBundle_2 : decode cX1_setBundle 2 = .ok (.iload_n 3, 1) := by decide +kernel
theorem dX1_setBundle_3 : decode cX1_setBundle 3 = .ok (.bipush 8, 2) := by decide +kernel
theorem dX1_setBundle_5 : decode cX1_setBundle 5 = .ok (.if_icmp .ge 24, 3) := by decide +kernel
theorem dX1_setBundle_8 : decode cX1_setBundle 8 = .ok (.iload_n 1, 1) := by decide +kernel
theorem dX1_setBundle_9 : decode cX1_setBundle 9 = .ok (.iload_n 3, 1) := by decide +kernel
theorem dX1_setBundle_10 : decode cX1_setBundle 10 = .ok (.invokestatic 54, 3) := by decide +kernel
theorem dX1_setBundle_13 : decode cX1_setBundle 13 = .ok (.ifCond .eq 10, 3) := by decide +kernel
theorem dX1_setBundle_16 : decode cX1_setBundle 16 = .ok (.aload_n 0, 1) := by decide +kernel
theorem dX1_setBundle_17 : decode cX1_setBundle 17 = .ok (.getfield 15, 3) := by decide +kernel
theorem dX1_setBundle_20 : decode cX1_setBundle 20 = .ok (.iload_n 3, 1) := by decide +kernel
theorem dX1_setBundle_21 : decode cX1_setBundle 21 = .ok (.iload_n 2, 1) := by decide +kernel
theorem dX1_setBundle_22 : decode cX1_setBundle 22 = .ok (.iastore, 1) := by decide +kernel
theorem dX1_setBundle_23 : decode cX1_setBundle 23 = .ok (.iinc 3 1, 3) := by decide +kernel
theorem dX1_setBundle_26 : decode cX1_setBundle 26 = .ok (.goto (-24), 3) := by decide +kernel
theorem dX1_setBundle_29 : decode cX1_setBundle 29 = .ok (.return_, 1) := by decide +kernel
set_option maxRecDepth 20000 in
theorem ggX1_carry_X6_has : GoodIn wsX1_carry wsX6_has := goodIn_r _ [4] (by decide +kernel) (by decide +kernel)
set_option maxRecDepth 20000 in
theorem gX1_carry_X6_has_n54 : GoodIn wsX1_carry (wsX6_has) := ggX1_carry_X6_has
theorem dX1_carry_0 : decode cX1_carry 0 = .ok (.iconst 0, 1) := by decide +kernel
theorem dX1_carry_1 : decode cX1_carry 1 = .ok (.istore_n 3, 1) := by decide +kernel
theorem dX1_carry_2 : decode cX1_carry 2 = .ok (.iload_n 3, 1) := by decide +kernel
theorem dX1_carry_3 : decode cX1_carry 3 = .ok (.bipush 8, 2) := by decide +kernel
theorem dX1_carry_5 : decode cX1_carry 5 = .ok (.if_icmp .ge 24, 3) := by decide +kernel
theorem dX1_carry_8 : decode cX1_carry 8 = .ok (.iload_n 1, 1) := by decide +kernel
theorem dX1_carry_9 : decode cX1_carry 9 = .ok (.iload_n 3, 1) := by decide +kernel
theorem dX1_carry_10 : decode cX1_carry 10 = .ok (.invokestatic 54, 3) := by decide +kernel
theorem dX1_carry_13 : decode cX1_carry 13 = .ok (.ifCond .eq 10, 3) := by decide +kernel
theorem dX1_carry_16 : decode cX1_carry 16 = .ok (.aload_n 0, 1) := by decide +kernel
theorem dX1_carry_17 : decode cX1_carry 17 = .ok (.getfield 9, 3) := by decide +kernel
theorem dX1_carry_20 : decode cX1_carry 20 = .ok (.iload_n 3, 1) := by decide +kernel
theorem dX1_carry_21 : decode cX1_carry 21 = .ok (.iload_n 2, 1) := by decide +kernel
theorem dX1_carry_22 : decode cX1_carry 22 = .ok (.iastore, 1) := by decide +kernel
theorem dX1_carry_23 : decode cX1_carry 23 = .ok (.iinc 3 1, 3) := by decide +kernel
theorem dX1_carry_26 : decode cX1_carry 26 = .ok (.goto (-24), 3) := by decide +kernel
theorem dX1_carry_29 : decode cX1_carry 29 = .ok (.return_, 1) := by decide +kernel
theorem dX1_thingsIn_0 : decode cX1_thingsIn 0 = .ok (.iconst 0, 1) := by decide +kernel
theorem dX1_thingsIn_1 : decode cX1_thingsIn 1 = .ok (.istore_n 2, 1) := by decide +kernel
theorem dX1_thingsIn_2 : decode cX1_thingsIn 2 = .ok (.iconst 0, 1) := by decide +kernel
theorem dX1_thingsIn_3 : decode cX1_thingsIn 3 = .ok (.istore_n 3, 1) := by decide +kernel
theorem dX1_thingsIn_4 : decode cX1_thingsIn 4 = .ok (.iload_n 3, 1) := by decide +kernel
theorem dX1_thingsIn_5 : decode cX1_thingsIn 5 = .ok (.bipush 8, 2) := by decide +kernel
theorem dX1_thingsIn_7 : decode cX1_thingsIn 7 = .ok (.if_icmp .ge 25, 3) := by decide +kernel
theorem dX1_thingsIn_10 : decode cX1_thingsIn 10 = .ok (.aload_n 0, 1) := by decide +kernel
theorem dX1_thingsIn_11 : decode cX1_thingsIn 11 = .ok (.getfield 9, 3) := by decide +kernel
theorem dX1_thingsIn_14 : decode cX1_thingsIn 14 = .ok (.iload_n 3, 1) := by decide +kernel
theorem dX1_thingsIn_15 : decode cX1_thingsIn 15 = .ok (.iaload, 1) := by decide +kernel
theorem dX1_thingsIn_16 : decode cX1_thingsIn 16 = .ok (.iload_n 1, 1) := by decide +kernel
theorem dX1_thingsIn_17 : decode cX1_thingsIn 17 = .ok (.if_icmp .ne 9, 3) := by decide +kernel
theorem dX1_thingsIn_20 : decode cX1_thingsIn 20 = .ok (.iload_n 2, 1) := by decide +kernel
theorem dX1_thingsIn_21 : decode cX1_thingsIn 21 = .ok (.iconst 1, 1) := by decide +kernel
theorem dX1_thingsIn_22 : decode cX1_thingsIn 22 = .ok (.iload_n 3, 1) := by decide +kernel
theorem dX1_thingsIn_23 : decode cX1_thingsIn 23 = .ok (.ishl, 1) := by decide +kernel
theorem dX1_thingsIn_24 : decode cX1_thingsIn 24 = .ok (.ior, 1) := by decide +kernel
theorem dX1_thingsIn_25 : decode cX1_thingsIn 25 = .ok (.istore_n 2, 1) := by decide +kernel
theorem dX1_thingsIn_26 : decode cX1_thingsIn 26 = .ok (.iinc 3 1, 3) := by decide +kernel
theorem dX1_thingsIn_29 : decode cX1_thingsIn 29 = .ok (.goto (-25), 3) := by decide +kernel
theorem dX1_thingsIn_32 : decode cX1_thingsIn 32 = .ok (.iload_n 2, 1) := by decide +kernel
theorem dX1_thingsIn_33 : decode cX1_thingsIn 33 = .ok (.ireturn, 1) := by decide +kernel
theorem dX1_elsewhereThan_0 : decode cX1_elsewhereThan 0 = .ok (.iconst 0, 1) := by decide +kernel
theorem dX1_elsewhereThan_1 : decode cX1_elsewhereThan 1 = .ok (.istore_n 2, 1) := by decide +kernel
theorem dX1_elsewhereThan_2 : decode cX1_elsewhereThan 2 = .ok (.iconst 0, 1) := by decide +kernel
theorem dX1_elsewhereThan_3 : decode cX1_elsewhereThan 3 = .ok (.istore_n 3, 1) := by decide +kernel
theorem dX1_elsewhereThan_4 : decode cX1_elsewhereThan 4 = .ok (.iload_n 3, 1) := by decide +kernel
theorem dX1_elsewhereThan_5 : decode cX1_elsewhereThan 5 = .ok (.bipush 8, 2) := by decide +kernel
theorem dX1_elsewhereThan_7 : decode cX1_elsewhereThan 7 = .ok (.if_icmp .ge 30, 3) := by decide +kernel
theorem dX1_elsewhereThan_10 : decode cX1_elsewhereThan 10 = .ok (.aload_n 0, 1) := by decide +kernel
theorem dX1_elsewhereThan_11 : decode cX1_elsewhereThan 11 = .ok (.getfield 9, 3) := by decide +kernel
theorem dX1_elsewhereThan_14 : decode cX1_elsewhereThan 14 = .ok (.iload_n 3, 1) := by decide +kernel
theorem dX1_elsewhereThan_15 : decode cX1_elsewhereThan 15 = .ok (.iaload, 1) := by decide +kernel
theorem dX1_elsewhereThan_16 : decode cX1_elsewhereThan 16 = .ok (.aload_n 1, 1) := by decide +kernel
theorem dX1_elsewhereThan_17 : decode cX1_elsewhereThan 17 = .ok (.getfield 9, 3) := by decide +kernel
theorem dX1_elsewhereThan_20 : decode cX1_elsewhereThan 20 = .ok (.iload_n 3, 1) := by decide +kernel
theorem dX1_elsewhereThan_21 : decode cX1_elsewhereThan 21 = .ok (.iaload, 1) := by decide +kernel
theorem dX1_elsewhereThan_22 : decode cX1_elsewhereThan 22 = .ok (.if_icmp .eq 9, 3) := by decide +kernel
theorem dX1_elsewhereThan_25 : decode cX1_elsewhereThan 25 = .ok (.iload_n 2, 1) := by decide +kernel
theorem dX1_elsewhereThan_26 : decode cX1_elsewhereThan 26 = .ok (.iconst 1, 1) := by decide +kernel
theorem dX1_elsewhereThan_27 : decode cX1_elsewhereThan 27 = .ok (.iload_n 3, 1) := by decide +kernel
theorem dX1_elsewhereThan_28 : decode cX1_elsewhereThan 28 = .ok (.ishl, 1) := by decide +kernel
theorem dX1_elsewhereThan_29 : decode cX1_elsewhereThan 29 = .ok (.ior, 1) := by decide +kernel
theorem dX1_elsewhereThan_30 : decode cX1_elsewhereThan 30 = .ok (.istore_n 2, 1) := by decide +kernel
theorem dX1_elsewhereThan_31 : decode cX1_elsewhereThan 31 = .ok (.iinc 3 1, 3) := by decide +kernel
theorem dX1_elsewhereThan_34 : decode cX1_elsewhereThan 34 = .ok (.goto (-30), 3) := by decide +kernel
theorem dX1_elsewhereThan_37 : decode cX1_elsewhereThan 37 = .ok (.iload_n 2, 1) := by decide +kernel
theorem dX1_elsewhereThan_38 : decode cX1_elsewhereThan 38 = .ok (.ireturn, 1) := by decide +kernel
theorem dX1_peopleWithLeft_0 : decode cX1_peopleWithLeft 0 = .ok (.iconst 0, 1) := by decide +kernel
theorem dX1_peopleWithLeft_1 : decode cX1_peopleWithLeft 1 = .ok (.istore_n 1, 1) := by decide +kernel
theorem dX1_peopleWithLeft_2 : decode cX1_peopleWithLeft 2 = .ok (.iconst 0, 1) := by decide +kernel
theorem dX1_peopleWithLeft_3 : decode cX1_peopleWithLeft 3 = .ok (.istore_n 2, 1) := by decide +kernel
theorem dX1_peopleWithLeft_4 : decode cX1_peopleWithLeft 4 = .ok (.iload_n 2, 1) := by decide +kernel
theorem dX1_peopleWithLeft_5 : decode cX1_peopleWithLeft 5 = .ok (.iconst 4, 1) := by decide +kernel
theorem dX1_peopleWithLeft_6 : decode cX1_peopleWithLeft 6 = .ok (.if_icmp .ge 24, 3) := by decide +kernel
theorem dX1_peopleWithLeft_9 : decode cX1_peopleWithLeft 9 = .ok (.aload_n 0, 1) := by decide +kernel
theorem dX1_peopleWithLeft_10 : decode cX1_peopleWithLeft 10 = .ok (.getfield 18, 3) := by decide +kernel
theorem dX1_peopleWithLeft_13 : decode cX1_peopleWithLeft 13 = .ok (.iload_n 2, 1) := by decide +kernel
theorem dX1_peopleWithLeft_14 : decode cX1_peopleWithLeft 14 = .ok (.iaload, 1) := by decide +kernel
theorem dX1_peopleWithLeft_15 : decode cX1_peopleWithLeft 15 = .ok (.ifCond .le 9, 3) := by decide +kernel
theorem dX1_peopleWithLeft_18 : decode cX1_peopleWithLeft 18 = .ok (.iload_n 1, 1) := by decide +kernel
theorem dX1_peopleWithLeft_19 : decode cX1_peopleWithLeft 19 = .ok (.iconst 1, 1) := by decide +kernel
theorem dX1_peopleWithLeft_20 : decode cX1_peopleWithLeft 20 = .ok (.iload_n 2, 1) := by decide +kernel
theorem dX1_peopleWithLeft_21 : decode cX1_peopleWithLeft 21 = .ok (.ishl, 1) := by decide +kernel
theorem dX1_peopleWithLeft_22 : decode cX1_peopleWithLeft 22 = .ok (.ior, 1) := by decide +kernel
theorem dX1_peopleWithLeft_23 : decode cX1_peopleWithLeft 23 = .ok (.istore_n 1, 1) := by decide +kernel
theorem dX1_peopleWithLeft_24 : decode cX1_peopleWithLeft 24 = .ok (.iinc 2 1, 3) := by decide +kernel
theorem dX1_peopleWithLeft_27 : decode cX1_peopleWithLeft 27 = .ok (.goto (-23), 3) := by decide +kernel
theorem dX1_peopleWithLeft_30 : decode cX1_peopleWithLeft 30 = .ok (.iload_n 1, 1) := by decide +kernel
theorem dX1_peopleWithLeft_31 : decode cX1_peopleWithLeft 31 = .ok (.ireturn, 1) := by decide +kernel
set_option maxRecDepth 20000 in
theorem ggX1_leftTogether_X6_has : GoodIn wsX1_leftTogether wsX6_has := goodIn_r _ [4] (by decide +kernel) (by decide +kernel)
set_option maxRecDepth 20000 in
theorem gX1_leftTogether_X6_has_n54 : GoodIn wsX1_leftTogether (wsX6_has) := ggX1_leftTogether_X6_has
theorem dX1_leftTogether_0 : decode cX1_leftTogether 0 = .ok (.iconst 0, 1) := by decide +kernel
theorem dX1_leftTogether_1 : decode cX1_leftTogether 1 = .ok (.istore_n 2, 1) := by decide +kernel
theorem dX1_leftTogether_2 : decode cX1_leftTogether 2 = .ok (.iconst 0, 1) := by decide +kernel
theorem dX1_leftTogether_3 : decode cX1_leftTogether 3 = .ok (.istore_n 3, 1) := by decide +kernel
theorem dX1_leftTogether_4 : decode cX1_leftTogether 4 = .ok (.iload_n 3, 1) := by decide +kernel
theorem dX1_leftTogether_5 : decode cX1_leftTogether 5 = .ok (.iconst 4, 1) := by decide +kernel
theorem dX1_leftTogether_6 : decode cX1_leftTogether 6 = .ok (.if_icmp .ge 26, 3) := by decide +kernel
theorem dX1_leftTogether_9 : decode cX1_leftTogether 9 = .ok (.iload_n 1, 1) := by decide +kernel
theorem dX1_leftTogether_10 : decode cX1_leftTogether 10 = .ok (.iload_n 3, 1) := by decide +kernel
theorem dX1_leftTogether_11 : decode cX1_leftTogether 11 = .ok (.invokestatic 54, 3) := by decide +kernel
theorem dX1_leftTogether_14 : decode cX1_leftTogether 14 = .ok (.ifCond .eq 12, 3) := by decide +kernel
theorem dX1_leftTogether_17 : decode cX1_leftTogether 17 = .ok (.iload_n 2, 1) := by decide +kernel
theorem dX1_leftTogether_18 : decode cX1_leftTogether 18 = .ok (.aload_n 0, 1) := by decide +kernel
theorem dX1_leftTogether_19 : decode cX1_leftTogether 19 = .ok (.getfield 18, 3) := by decide +kernel
theorem dX1_leftTogether_22 : decode cX1_leftTogether 22 = .ok (.iload_n 3, 1) := by decide +kernel
theorem dX1_leftTogether_23 : decode cX1_leftTogether 23 = .ok (.iaload, 1) := by decide +kernel
theorem dX1_leftTogether_24 : decode cX1_leftTogether 24 = .ok (.iadd, 1) := by decide +kernel
theorem dX1_leftTogether_25 : decode cX1_leftTogether 25 = .ok (.istore_n 2, 1) := by decide +kernel
theorem dX1_leftTogether_26 : decode cX1_leftTogether 26 = .ok (.iinc 3 1, 3) := by decide +kernel
theorem dX1_leftTogether_29 : decode cX1_leftTogether 29 = .ok (.goto (-25), 3) := by decide +kernel
theorem dX1_leftTogether_32 : decode cX1_leftTogether 32 = .ok (.iload_n 2, 1) := by decide +kernel
theorem dX1_leftTogether_33 : decode cX1_leftTogether 33 = .ok (.ireturn, 1) := by decide +kernel
set_option maxRecDepth 20000 in
theorem ggX1_allHaveLeft_X1_peopleWithLeft : GoodIn wsX1_allHaveLeft wsX1_peopleWithLeft := goodIn_r _ [5, 6, 7, 8, 9, 10, 11] (by decide +kernel) (by decide +kernel)
set_option maxRecDepth 20000 in
theorem gX1_allHaveLeft_X1_peopleWithLeft : GoodIn wsX1_allHaveLeft (wsV RX1 58 RX1 yX1_peopleWithLeft wsX1_peopleWithLeft) := goodIn_app (goodIn_of _ (by decide +kernel)) ggX1_allHaveLeft_X1_peopleWithLeft
theorem dX1_allHaveLeft_0 : decode cX1_allHaveLeft 0 = .ok (.iload_n 1, 1) := by decide +kernel
theorem dX1_allHaveLeft_1 : decode cX1_allHaveLeft 1 = .ok (.aload_n 0, 1) := by decide +kernel
theorem dX1_allHaveLeft_2 : decode cX1_allHaveLeft 2 = .ok (.invokevirtual 58, 3) := by decide +kernel
theorem dX1_allHaveLeft_5 : decode cX1_allHaveLeft 5 = .ok (.iconst (-1), 1) := by decide +kernel
theorem dX1_allHaveLeft_6 : decode cX1_allHaveLeft 6 = .ok (.ixor, 1) := by decide +kernel
theorem dX1_allHaveLeft_7 : decode cX1_allHaveLeft 7 = .ok (.iand, 1) := by decide +kernel
theorem dX1_allHaveLeft_8 : decode cX1_allHaveLeft 8 = .ok (.ifCond .ne 7, 3) := by decide +kernel
theorem dX1_allHaveLeft_11 : decode cX1_allHaveLeft 11 = .ok (.iconst 1, 1) := by decide +kernel
theorem dX1_allHaveLeft_12 : decode cX1_allHaveLeft 12 = .ok (.goto 4, 3) := by decide +kernel
theorem dX1_allHaveLeft_15 : decode cX1_allHaveLeft 15 = .ok (.iconst 0, 1) := by decide +kernel
theorem dX1_allHaveLeft_16 : decode cX1_allHaveLeft 16 = .ok (.ireturn, 1) := by decide +kernel
set_option maxRecDepth 20000 in
theorem ggX1_spend_X6_has : GoodIn wsX1_spend wsX6_has := goodIn_r _ [4] (by decide +kernel) (by decide +kernel)
set_option maxRecDepth 20000 in
theorem gX1_spend_X6_has_n54 : GoodIn wsX1_spend (wsX6_has) := ggX1_spend_X6_has
theorem dX1_spend_0 : decode cX1_spend 0 = .ok (.iconst 0, 1) := by decide +kernel
theorem dX1_spend_1 : decode cX1_spend 1 = .ok (.istore_n 2, 1) := by decide +kernel
theorem dX1_spend_2 : decode cX1_spend 2 = .ok (.iload_n 2, 1) := by decide +kernel
theorem dX1_spend_3 : decode cX1_spend 3 = .ok (.iconst 4, 1) := by decide +kernel
theorem dX1_spend_4 : decode cX1_spend 4 = .ok (.if_icmp .ge 27, 3) := by decide +kernel
theorem dX1_spend_7 : decode cX1_spend 7 = .ok (.iload_n 1, 1) := by decide +kernel
theorem dX1_spend_8 : decode cX1_spend 8 = .ok (.iload_n 2, 1) := by decide +kernel
theorem dX1_spend_9 : decode cX1_spend 9 = .ok (.invokestatic 54, 3) := by decide +kernel
theorem dX1_spend_12 : decode cX1_spend 12 = .ok (.ifCond .eq 13, 3) := by decide +kernel
theorem dX1_spend_15 : decode cX1_spend 15 = .ok (.aload_n 0, 1) := by decide +kernel
theorem dX1_spend_16 : decode cX1_spend 16 = .ok (.getfield 18, 3) := by decide +kernel
theorem dX1_spend_19 : decode cX1_spend 19 = .ok (.iload_n 2, 1) := by decide +kernel
theorem dX1_spend_20 : decode cX1_spend 20 = .ok (.dup2, 1) := by decide +kernel
theorem dX1_spend_21 : decode cX1_spend 21 = .ok (.iaload, 1) := by decide +kernel
theorem dX1_spend_22 : decode cX1_spend 22 = .ok (.iconst 1, 1) := by decide +kernel
theorem dX1_spend_23 : decode cX1_spend 23 = .ok (.isub, 1) := by decide +kernel
theorem dX1_spend_24 : decode cX1_spend 24 = .ok (.iastore, 1) := by decide +kernel
theorem dX1_spend_25 : decode cX1_spend 25 = .ok (.iinc 2 1, 3) := by decide +kernel
theorem dX1_spend_28 : decode cX1_spend 28 = .ok (.goto (-26), 3) := by decide +kernel
theorem dX1_spend_31 : decode cX1_spend 31 = .ok (.return_, 1) := by decide +kernel
theorem dX2_init_0 : decode cX2_init 0 = .ok (.aload_n 0, 1) := by decide +kernel
theorem dX2_init_1 : decode cX2_init 1 = .ok (.invokespecial 3, 3) := by decide +kernel
theorem dX2_init_4 : decode cX2_init 4 = .ok (.aload_n 0, 1) := by decide +kernel
theorem dX2_init_5 : decode cX2_init 5 = .ok (.aload_n 1, 1) := by decide +kernel
theorem dX2_init_6 : decode cX2_init 6 = .ok (.putfield 9, 3) := by decide +kernel
theorem dX2_init_9 : decode cX2_init 9 = .ok (.aload_n 0, 1) := by decide +kernel
theorem dX2_init_10 : decode cX2_init 10 = .ok (.aload_n 2, 1) := by decide +kernel
theorem dX2_init_11 : decode cX2_init 11 = .ok (.putfield 15, 3) := by decide +kernel
theorem dX2_init_14 : decode cX2_init 14 = .ok (.return_, 1) := by decide +kernel
set_option maxRecDepth 20000 in
theorem ggX2_read_X0_empty : GoodIn wsX2_read wsX0_empty := goodIn_r _ [7, 8, 9, 10, 150, 151, 152, 153, 154, 155, 156, 157] (by decide +kernel) (by decide +kernel)
set_option maxRecDepth 20000 in
theorem gX2_read_X0_empty : GoodIn wsX2_read (wsV RX2 19 RX0 yX0_empty wsX0_empty) := goodIn_app (goodIn_of _ (by decide +kernel)) ggX2_read_X0_empty
set_option maxRecDepth 20000 in
theorem ggX2_read_X3_toFirst : GoodIn wsX2_read wsX3_toFirst := goodIn_r _ [15, 16, 17, 18, 19, 14, 20, 21, 22, 23, 24, 25, 26, 27, 28, 29, 30, 31, 32, 33, 144, 145, 146, 147, 148, 149] (by decide +kernel) (by decide +kernel)
set_option maxRecDepth 20000 in
theorem gX2_read_X3_toFirst : GoodIn wsX2_read (wsV RX2 24 RX3 yX3_toFirst wsX3_toFirst) := goodIn_app (goodIn_of _ (by decide +kernel)) ggX2_read_X3_toFirst
set_option maxRecDepth 20000 in
theorem ggX2_read_X2_readItem : GoodIn wsX2_read wsX2_readItem := goodIn_r _ [38, 2, 1, 39, 40, 41, 14, 42, 23, 16, 21, 22, 24, 43, 44, 45, 46, 47, 48, 49, 50, 51, 52, 53, 54, 55, 56, 57, 58, 59, 60, 61, 62, 63, 64, 65, 66, 67, 68, 69, 70, 71, 72, 73, 74, 75, 76, 77, 78, 79, 80, 81, 82, 83, 84, 85, 86, 87, 88, 89, 90, 91, 92, 93, 94, 37, 95, 96, 18, 19, 20, 25, 26, 27, 28, 29, 30, 31, 32, 33, 97, 98, 99, 100, 101, 102, 103, 104, 105, 106, 107, 108, 109, 110, 111, 112, 113, 114, 115, 6, 116, 9, 117, 118, 119, 120, 121, 122, 123, 124, 125, 126, 10, 127, 128, 129, 130, 131, 132, 133, 134, 135, 136, 137, 138, 139, 140, 141, 142, 143, 150, 151, 152, 153, 154, 155, 156, 157, 144, 145, 146, 147, 148, 149] (by decide +kernel) (by decide +kernel)
set_option maxRecDepth 20000 in
theorem gX2_read_X2_readItem : GoodIn wsX2_read (wsV RX2 33 RX2 yX2_readItem wsX2_readItem) := goodIn_app (goodIn_of _ (by decide +kernel)) ggX2_read_X2_readItem
theorem dX2_read_0 : decode cX2_read 0 = .ok (.aload_n 0, 1) := by decide +kernel
theorem dX2_read_1 : decode cX2_read 1 = .ok (.getfield 15, 3) := by decide +kernel
theorem dX2_read_4 : decode cX2_read 4 = .ok (.invokevirtual 19, 3) := by decide +kernel
theorem dX2_read_7 : decode cX2_read 7 = .ok (.aload_n 0, 1) := by decide +kernel
theorem dX2_read_8 : decode cX2_read 8 = .ok (.getfield 9, 3) := by decide +kernel
theorem dX2_read_11 : decode cX2_read 11 = .ok (.invokevirtual 24, 3) := by decide +kernel
theorem dX2_read_14 : decode cX2_read 14 = .ok (.iconst 0, 1) := by decide +kernel
theorem dX2_read_15 : decode cX2_read 15 = .ok (.istore_n 1, 1) := by decide +kernel
theorem dX2_read_16 : decode cX2_read 16 = .ok (.iload_n 1, 1) := by decide +kernel
theorem dX2_read_17 : decode cX2_read 17 = .ok (.sipush 300, 3) := by decide +kernel
theorem dX2_read_20 : decode cX2_read 20 = .ok (.if_icmp .gt 40, 3) := by decide +kernel
theorem dX2_read_23 : decode cX2_read 23 = .ok (.aload_n 0, 1) := by decide +kernel
theorem dX2_read_24 : decode cX2_read 24 = .ok (.getfield 9, 3) := by decide +kernel
theorem dX2_read_27 : decode cX2_read 27 = .ok (.getfield 29, 3) := by decide +kernel
theorem dX2_read_30 : decode cX2_read 30 = .ok (.ifCond .ne 5, 3) := by decide +kernel
theorem dX2_read_33 : decode cX2_read 33 = .ok (.iload_n 1, 1) := by decide +kernel
theorem dX2_read_34 : decode cX2_read 34 = .ok (.ireturn, 1) := by decide +kernel
theorem dX2_read_35 : decode cX2_read 35 = .ok (.aload_n 0, 1) := by decide +kernel
theorem dX2_read_36 : decode cX2_read 36 = .ok (.iload_n 1, 1) := by decide +kernel
theorem dX2_read_37 : decode cX2_read 37 = .ok (.ifCond .ne 7, 3) := by decide +kernel
theorem dX2_read_40 : decode cX2_read 40 = .ok (.iconst 1, 1) := by decide +kernel
theorem dX2_read_41 : decode cX2_read 41 = .ok (.goto 4, 3) := by decide +kernel
theorem dX2_read_44 : decode cX2_read 44 = .ok (.iconst 0, 1) := by decide +kernel
theorem dX2_read_45 : decode cX2_read 45 = .ok (.invokevirtual 33, 3) := by decide +kernel
theorem dX2_read_48 : decode cX2_read 48 = .ok (.ifCond .ne 6, 3) := by decide +kernel
theorem dX2_read_51 : decode cX2_read 51 = .ok (.goto 9, 3) := by decide +kernel
theorem dX2_read_54 : decode cX2_read 54 = .ok (.iinc 1 1, 3) := by decide +kernel
theorem dX2_read_57 : decode cX2_read 57 = .ok (.goto (-41), 3) := by decide +kernel
theorem dX2_read_60 : decode cX2_read 60 = .ok (.bipush (-10), 2) := by decide +kernel
theorem dX2_read_62 : decode cX2_read 62 = .ok (.aload_n 0, 1) := by decide +kernel
theorem dX2_read_63 : decode cX2_read 63 = .ok (.getfield 9, 3) := by decide +kernel
theorem dX2_read_66 : decode cX2_read 66 = .ok (.getfield 37, 3) := by decide +kernel
theorem dX2_read_69 : decode cX2_read 69 = .ok (.isub, 1) := by decide +kernel
theorem dX2_read_70 : decode cX2_read 70 = .ok (.ireturn, 1) := by decide +kernel
set_option maxRecDepth 20000 in
theorem ggX2_readItem_X3_isWord : GoodIn wsX2_readItem wsX3_isWord := goodIn_r _ [7, 8, 9, 10, 11, 12, 13, 14, 15, 16, 17, 18, 19, 20, 21, 22, 23, 24, 25, 26, 27, 28, 29, 30, 31, 32, 33, 34, 35, 36, 37, 38, 39, 40, 41, 42, 43, 44, 45, 46, 47, 48, 49, 50, 51, 52, 53, 54, 55, 56, 57, 58, 59, 60, 61, 138, 139, 140, 141, 142, 143] (by decide +kernel) (by decide +kernel)
set_option maxRecDepth 20000 in
theorem gX2_readItem_X3_isWord : GoodIn wsX2_readItem (wsV RX2 42 RX3 yX3_isWord wsX3_isWord) := goodIn_app (goodIn_of _ (by decide +kernel)) ggX2_readItem_X3_isWord
set_option maxRecDepth 20000 in
theorem ggX2_readItem_X2_readRooms : GoodIn wsX2_readItem wsX2_readRooms := goodIn_r _ [66, 1, 2, 67, 68, 69, 6, 70, 9, 10, 11, 8, 12, 71, 72, 73, 74, 75, 76, 77, 78, 79, 80, 81, 82, 65, 83, 84, 85, 86, 87, 88, 89, 90, 91, 128, 129, 130, 131, 132, 133, 134, 135, 136, 137, 138, 139, 140, 141, 142, 143] (by decide +kernel) (by decide +kernel)
set_option maxRecDepth 20000 in
theorem gX2_readItem_X2_readRooms : GoodIn wsX2_readItem (wsV RX2 46 RX2 yX2_readRooms wsX2_readRooms) := goodIn_app (goodIn_of _ (by decide +kernel)) ggX2_readItem_X2_readRooms
set_option maxRecDepth 20000 in
theorem ggX2_readItem_X2_readPerson : GoodIn wsX2_readItem wsX2_readPerson := goodIn_r _ [95, 1, 2, 67, 68, 69, 6, 70, 9, 10, 11, 8, 12, 71, 72, 73, 74, 75, 76, 77, 78, 79, 80, 81, 82, 65, 83, 84, 85, 86, 87, 96, 97, 98, 99, 100, 101, 102, 103, 88, 89, 90, 91, 128, 129, 138, 139, 140, 141, 142, 143, 130, 131, 132, 133, 134, 135, 136, 137] (by decide +kernel) (by decide +kernel)
set_option maxRecDepth 20000 in
theorem gX2_readItem_X2_readPerson : GoodIn wsX2_readItem (wsV RX2 55 RX2 yX2_readPerson wsX2_readPerson) := goodIn_app (goodIn_of _ (by decide +kernel)) ggX2_readItem_X2_readPerson
set_option maxRecDepth 20000 in
theorem ggX2_readItem_X2_readThing : GoodIn wsX2_readItem wsX2_readThing := goodIn_r _ [107, 1, 2, 67, 68, 69, 6, 70, 9, 10, 11, 8, 12, 71, 72, 73, 74, 75, 76, 77, 78, 79, 80, 81, 82, 65, 83, 84, 85, 86, 87, 108, 109, 110, 99, 111, 112, 113, 114, 115, 88, 89, 90, 91, 128, 129, 130, 131, 132, 133, 134, 135, 136, 137, 138, 139, 140, 141, 142, 143] (by decide +kernel) (by decide +kernel)
set_option maxRecDepth 20000 in
theorem gX2_readItem_X2_readThing : GoodIn wsX2_readItem (wsV RX2 63 RX2 yX2_readThing wsX2_readThing) := goodIn_app (goodIn_of _ (by decide +kernel)) ggX2_readItem_X2_readThing
set_option maxRecDepth 20000 in
theorem ggX2_readItem_X2_readTask : GoodIn wsX2_readItem wsX2_readTask := goodIn_r _ [119, 1, 2, 67, 68, 69, 6, 70, 9, 10, 11, 8, 12, 71, 72, 73, 74, 75, 76, 77, 78, 79, 80, 81, 82, 65, 83, 84, 85, 86, 87, 120, 121, 122, 99, 123, 115, 124, 125, 126, 127, 112, 88, 89, 90, 91, 128, 129, 130, 131, 132, 133, 134, 135, 136, 137, 138, 139, 140, 141, 142, 143] (by decide +kernel) (by decide +kernel)
set_option maxRecDepth 20000 in
theorem gX2_readItem_X2_readTask : GoodIn wsX2_readItem (wsV RX2 68 RX2 yX2_readTask wsX2_readTask) := goodIn_app (goodIn_of _ (by decide +kernel)) ggX2_readItem_X2_readTask
theorem dX2_readItem_0 : decode cX2_readItem 0 = .ok (.aload_n 0, 1) := by decide +kernel
theorem dX2_readItem_1 : decode cX2_readItem 1 = .ok (.getfield 9, 3) := by decide +kernel
theorem dX2_readItem_4 : decode cX2_readItem 4 = .ok (.ldc 40, 2) := by decide +kernel
theorem dX2_readItem_6 : decode cX2_readItem 6 = .ok (.invokevirtual 42, 3) := by decide +kernel
theorem dX2_readItem_9 : decode cX2_readItem 9 = .ok (.ifCond .eq 20, 3) := by decide +kernel
theorem dX2_readItem_12 : decode cX2_readItem 12 = .ok (.iload_n 1, 1) := by decide +kernel
theorem dX2_readItem_13 : decode cX2_readItem 13 = .ok (.ifCond .eq 14, 3) := by decide +kernel
theorem dX2_readItem_16 : decode cX2_readItem 16 = .ok (.aload_n 0, 1) := by decide +kernel
theorem dX2_readItem_17 : decode cX2_readItem 17 = .ok (.invokevirtual 46, 3) := by decide +kernel
theorem dX2_readItem_20 : decode cX2_readItem 20 = .ok (.ifCond .eq 7, 3) := by decide +kernel
theorem dX2_readItem_23 : decode cX2_readItem 23 = .ok (.iconst 1, 1) := by decide +kernel
theorem dX2_readItem_24 : decode cX2_readItem 24 = .ok (.goto 4, 3) := by decide +kernel
theorem dX2_readItem_27 : decode cX2_readItem 27 = .ok (.iconst 0, 1) := by decide +kernel
theorem dX2_readItem_28 : decode cX2_readItem 28 = .ok (.ireturn, 1) := by decide +kernel
theorem dX2_readItem_29 : decode cX2_readItem 29 = .ok (.aload_n 0, 1) := by decide +kernel
theorem dX2_readItem_30 : decode cX2_readItem 30 = .ok (.getfield 9, 3) := by decide +kernel
theorem dX2_readItem_33 : decode cX2_readItem 33 = .ok (.ldc 50, 2) := by decide +kernel
theorem dX2_readItem_35 : decode cX2_readItem 35 = .ok (.invokevirtual 42, 3) := by decide +kernel
theorem dX2_readItem_38 : decode cX2_readItem 38 = .ok (.ifCond .eq 27, 3) := by decide +kernel
theorem dX2_readItem_41 : decode cX2_readItem 41 = .ok (.aload_n 0, 1) := by decide +kernel
theorem dX2_readItem_42 : decode cX2_readItem 42 = .ok (.getfield 15, 3) := by decide +kernel
theorem dX2_readItem_45 : decode cX2_readItem 45 = .ok (.getfield 52, 3) := by decide +kernel
theorem dX2_readItem_48 : decode cX2_readItem 48 = .ok (.iconst 4, 1) := by decide +kernel
theorem dX2_readItem_49 : decode cX2_readItem 49 = .ok (.if_icmp .ge 14, 3) := by decide +kernel
theorem dX2_readItem_52 : decode cX2_readItem 52 = .ok (.aload_n 0, 1) := by decide +kernel
theorem dX2_readItem_53 : decode cX2_readItem 53 = .ok (.invokevirtual 55, 3) := by decide +kernel
theorem dX2_readItem_56 : decode cX2_readItem 56 = .ok (.ifCond .eq 7, 3) := by decide +kernel
theorem dX2_readItem_59 : decode cX2_readItem 59 = .ok (.iconst 1, 1) := by decide +kernel
theorem dX2_readItem_60 : decode cX2_readItem 60 = .ok (.goto 4, 3) := by decide +kernel
theorem dX2_readItem_63 : decode cX2_readItem 63 = .ok (.iconst 0, 1) := by decide +kernel
theorem dX2_readItem_64 : decode cX2_readItem 64 = .ok (.ireturn, 1) := by decide +kernel
theorem dX2_readItem_65 : decode cX2_readItem 65 = .ok (.aload_n 0, 1) := by decide +kernel
theorem dX2_readItem_66 : decode cX2_readItem 66 = .ok (.getfield 9, 3) := by decide +kernel
theorem dX2_readItem_69 : decode cX2_readItem 69 = .ok (.ldc 58, 2) := by decide +kernel
theorem dX2_readItem_71 : decode cX2_readItem 71 = .ok (.invokevirtual 42, 3) := by decide +kernel
theorem dX2_readItem_74 : decode cX2_readItem 74 = .ok (.ifCond .eq 28, 3) := by decide +kernel
theorem dX2_readItem_77 : decode cX2_readItem 77 = .ok (.aload_n 0, 1) := by decide +kernel
theorem dX2_readItem_78 : decode cX2_readItem 78 = .ok (.getfield 15, 3) := by decide +kernel
theorem dX2_readItem_81 : decode cX2_readItem 81 = .ok (.getfield 60, 3) := by decide +kernel
theorem dX2_readItem_84 : decode cX2_readItem 84 = .ok (.bipush 8, 2) := by decide +kernel
theorem dX2_readItem_86 : decode cX2_readItem 86 = .ok (.if_icmp .ge 14, 3) := by decide +kernel
theorem dX2_readItem_89 : decode cX2_readItem 89 = .ok (.aload_n 0, 1) := by decide +kernel
theorem dX2_readItem_90 : decode cX2_readItem 90 = .ok (.invokevirtual 63, 3) := by decide +kernel
theorem dX2_readItem_93 : decode cX2_readItem 93 = .ok (.ifCond .eq 7, 3) := by decide +kernel
theorem dX2_readItem_96 : decode cX2_readItem 96 = .ok (.iconst 1, 1) := by decide +kernel
theorem dX2_readItem_97 : decode cX2_readItem 97 = .ok (.goto 4, 3) := by decide +kernel
theorem dX2_readItem_100 : decode cX2_readItem 100 = .ok (.iconst 0, 1) := by decide +kernel
theorem dX2_readItem_101 : decode cX2_readItem 101 = .ok (.ireturn, 1) := by decide +kernel
theorem dX2_readItem_102 : decode cX2_readItem 102 = .ok (.aload_n 0, 1) := by decide +kernel
theorem dX2_readItem_103 : decode cX2_readItem 103 = .ok (.getfield 9, 3) := by decide +kernel
theorem dX2_readItem_106 : decode cX2_readItem 106 = .ok (.ldc 66, 2) := by decide +kernel
theorem dX2_readItem_108 : decode cX2_readItem 108 = .ok (.invokevirtual 42, 3) := by decide +kernel
theorem dX2_readItem_111 : decode cX2_readItem 111 = .ok (.ifCond .eq 14, 3) := by decide +kernel
theorem dX2_readItem_114 : decode cX2_readItem 114 = .ok (.aload_n 0, 1) := by decide +kernel
theorem dX2_readItem_115 : decode cX2_readItem 115 = .ok (.invokevirtual 68, 3) := by decide +kernel
theorem dX2_readItem_118 : decode cX2_readItem 118 = .ok (.ifCond .eq 7, 3) := by decide +kernel
theorem dX2_readItem_121 : decode cX2_readItem 121 = .ok (.iconst 1, 1) := by decide +kernel
theorem dX2_readItem_122 : decode cX2_readItem 122 = .ok (.goto 4, 3) := by decide +kernel
theorem dX2_readItem_125 : decode cX2_readItem 125 = .ok (.iconst 0, 1) := by decide +kernel
theorem dX2_readItem_126 : decode cX2_readItem 126 = .ok (.ireturn, 1) := by decide +kernel
set_option maxRecDepth 20000 in
theorem ggX2_readRooms_X3_toNext : GoodIn wsX2_readRooms wsX3_toNext := goodIn_r _ [7, 8, 9, 10, 11, 12, 13, 14, 15, 6, 16, 17, 18, 19, 20, 21, 45, 46, 47, 48, 49, 50] (by decide +kernel) (by decide +kernel)
set_option maxRecDepth 20000 in
theorem gX2_readRooms_X3_toNext : GoodIn wsX2_readRooms (wsV RX2 71 RX3 yX3_toNext wsX3_toNext) := goodIn_app (goodIn_of _ (by decide +kernel)) ggX2_readRooms_X3_toNext
set_option maxRecDepth 20000 in
theorem ggX2_readRooms_X2_number : GoodIn wsX2_readRooms wsX2_number := goodIn_r _ [26, 1, 27, 28, 29, 6, 30, 11, 21, 3, 4, 5, 7, 8, 9, 10, 12, 13, 14, 15, 16, 17, 18, 19, 20, 35, 36, 45, 46, 47, 48, 49, 50] (by decide +kernel) (by decide +kernel)
set_option maxRecDepth 20000 in
theorem gX2_readRooms_X2_number : GoodIn wsX2_readRooms (wsV RX2 74 RX2 yX2_number wsX2_number) := goodIn_app (goodIn_of _ (by decide +kernel)) ggX2_readRooms_X2_number
set_option maxRecDepth 20000 in
theorem ggX2_readRooms_X2_stop : GoodIn wsX2_readRooms wsX2_stop := goodIn_r _ [34, 1, 3, 4, 5, 6, 7, 8, 9, 10, 11, 12, 13, 14, 15, 16, 17, 18, 19, 20, 21, 35, 36, 45, 46, 47, 48, 49, 50] (by decide +kernel) (by decide +kernel)
set_option maxRecDepth 20000 in
theorem gX2_readRooms_X2_stop : GoodIn wsX2_readRooms (wsV RX2 80 RX2 yX2_stop wsX2_stop) := goodIn_app (goodIn_of _ (by decide +kernel)) ggX2_readRooms_X2_stop
theorem dX2_readRooms_0 : decode cX2_readRooms 0 = .ok (.aload_n 0, 1) := by decide +kernel
theorem dX2_readRooms_1 : decode cX2_readRooms 1 = .ok (.getfield 9, 3) := by decide +kernel
theorem dX2_readRooms_4 : decode cX2_readRooms 4 = .ok (.invokevirtual 71, 3) := by decide +kernel
theorem dX2_readRooms_7 : decode cX2_readRooms 7 = .ok (.aload_n 0, 1) := by decide +kernel
theorem dX2_readRooms_8 : decode cX2_readRooms 8 = .ok (.iconst 2, 1) := by decide +kernel
theorem dX2_readRooms_9 : decode cX2_readRooms 9 = .ok (.bipush 6, 2) := by decide +kernel
theorem dX2_readRooms_11 : decode cX2_readRooms 11 = .ok (.invokevirtual 74, 3) := by decide +kernel
theorem dX2_readRooms_14 : decode cX2_readRooms 14 = .ok (.istore_n 1, 1) := by decide +kernel
theorem dX2_readRooms_15 : decode cX2_readRooms 15 = .ok (.iload_n 1, 1) := by decide +kernel
theorem dX2_readRooms_16 : decode cX2_readRooms 16 = .ok (.iconst (-1), 1) := by decide +kernel
theorem dX2_readRooms_17 : decode cX2_readRooms 17 = .ok (.if_icmp .ne 5, 3) := by decide +kernel
theorem dX2_readRooms_20 : decode cX2_readRooms 20 = .ok (.iconst 0, 1) := by decide +kernel
theorem dX2_readRooms_21 : decode cX2_readRooms 21 = .ok (.ireturn, 1) := by decide +kernel
theorem dX2_readRooms_22 : decode cX2_readRooms 22 = .ok (.aload_n 0, 1) := by decide +kernel
theorem dX2_readRooms_23 : decode cX2_readRooms 23 = .ok (.getfield 15, 3) := by decide +kernel
theorem dX2_readRooms_26 : decode cX2_readRooms 26 = .ok (.iload_n 1, 1) := by decide +kernel
theorem dX2_readRooms_27 : decode cX2_readRooms 27 = .ok (.putfield 78, 3) := by decide +kernel
theorem dX2_readRooms_30 : decode cX2_readRooms 30 = .ok (.aload_n 0, 1) := by decide +kernel
theorem dX2_readRooms_31 : decode cX2_readRooms 31 = .ok (.invokevirtual 80, 3) := by decide +kernel
theorem dX2_readRooms_34 : decode cX2_readRooms 34 = .ok (.ireturn, 1) := by decide +kernel
set_option maxRecDepth 20000 in
theorem ggX2_readPerson_X3_toNext : GoodIn wsX2_readPerson wsX3_toNext := goodIn_r _ [7, 8, 9, 10, 11, 12, 13, 14, 15, 6, 16, 17, 18, 19, 20, 21, 45, 46, 47, 48, 49, 50] (by decide +kernel) (by decide +kernel)
set_option maxRecDepth 20000 in
theorem gX2_readPerson_X3_toNext : GoodIn wsX2_readPerson (wsV RX2 71 RX3 yX3_toNext wsX3_toNext) := goodIn_app (goodIn_of _ (by decide +kernel)) ggX2_readPerson_X3_toNext
set_option maxRecDepth 20000 in
theorem ggX2_readPerson_X2_number : GoodIn wsX2_readPerson wsX2_number := goodIn_r _ [26, 1, 27, 28, 29, 6, 30, 11, 21, 3, 4, 5, 7, 8, 9, 10, 12, 13, 14, 15, 16, 17, 18, 19, 20, 43, 44, 45, 46, 47, 48, 49, 50] (by decide +kernel) (by decide +kernel)
set_option maxRecDepth 20000 in
theorem gX2_readPerson_X2_number : GoodIn wsX2_readPerson (wsV RX2 74 RX2 yX2_number wsX2_number) := goodIn_app (goodIn_of _ (by decide +kernel)) ggX2_readPerson_X2_number
set_option maxRecDepth 20000 in
theorem ggX2_readPerson_X0_addPerson : GoodIn wsX2_readPerson wsX0_addPerson := goodIn_r _ [35, 36, 37, 38, 51, 52, 53, 54, 55, 56, 57, 58] (by decide +kernel) (by decide +kernel)
set_option maxRecDepth 20000 in
theorem gX2_readPerson_X0_addPerson : GoodIn wsX2_readPerson (wsV RX2 83 RX0 yX0_addPerson wsX0_addPerson) := goodIn_app (goodIn_of _ (by decide +kernel)) ggX2_readPerson_X0_addPerson
set_option maxRecDepth 20000 in
theorem ggX2_readPerson_X2_stop : GoodIn wsX2_readPerson wsX2_stop := goodIn_r _ [42, 1, 3, 4, 5, 6, 7, 8, 9, 10, 11, 12, 13, 14, 15, 16, 17, 18, 19, 20, 21, 43, 44, 45, 46, 47, 48, 49, 50] (by decide +kernel) (by decide +kernel)
set_option maxRecDepth 20000 in
theorem gX2_readPerson_X2_stop : GoodIn wsX2_readPerson (wsV RX2 80 RX2 yX2_stop wsX2_stop) := goodIn_app (goodIn_of _ (by decide +kernel)) ggX2_readPerson_X2_stop
theorem dX2_readPerson_0 : decode cX2_readPerson 0 = .ok (.aload_n 0, 1) := by decide +kernel
theorem dX2_readPerson_1 : decode cX2_readPerson 1 = .ok (.getfield 9, 3) := by decide +kernel
theorem dX2_readPerson_4 : decode cX2_readPerson 4 = .ok (.invokevirtual 71, 3) := by decide +kernel
theorem dX2_readPerson_7 : decode cX2_readPerson 7 = .ok (.aload_n 0, 1) := by decide +kernel
theorem dX2_readPerson_8 : decode cX2_readPerson 8 = .ok (.iconst 1, 1) := by decide +kernel
theorem dX2_readPerson_9 : decode cX2_readPerson 9 = .ok (.bipush 9, 2) := by decide +kernel
theorem dX2_readPerson_11 : decode cX2_readPerson 11 = .ok (.invokevirtual 74, 3) := by decide +kernel
theorem dX2_readPerson_14 : decode cX2_readPerson 14 = .ok (.istore_n 1, 1) := by decide +kernel
theorem dX2_readPerson_15 : decode cX2_readPerson 15 = .ok (.iload_n 1, 1) := by decide +kernel
theorem dX2_readPerson_16 : decode cX2_readPerson 16 = .ok (.iconst (-1), 1) := by decide +kernel
theorem dX2_readPerson_17 : decode cX2_readPerson 17 = .ok (.if_icmp .ne 5, 3) := by decide +kernel
theorem dX2_readPerson_20 : decode cX2_readPerson 20 = .ok (.iconst 0, 1) := by decide +kernel
theorem dX2_readPerson_21 : decode cX2_readPerson 21 = .ok (.ireturn, 1) := by decide +kernel
theorem dX2_readPerson_22 : decode cX2_readPerson 22 = .ok (.aload_n 0, 1) := by decide +kernel
theorem dX2_readPerson_23 : decode cX2_readPerson 23 = .ok (.iconst 0, 1) := by decide +kernel
theorem dX2_readPerson_24 : decode cX2_readPerson 24 = .ok (.bipush 9, 2) := by decide +kernel
theorem dX2_readPerson_26 : decode cX2_readPerson 26 = .ok (.invokevirtual 74, 3) := by decide +kernel
theorem dX2_readPerson_29 : decode cX2_readPerson 29 = .ok (.istore_n 2, 1) := by decide +kernel
theorem dX2_readPerson_30 : decode cX2_readPerson 30 = .ok (.iload_n 2, 1) := by decide +kernel
theorem dX2_readPerson_31 : decode cX2_readPerson 31 = .ok (.iconst (-1), 1) := by decide +kernel
theorem dX2_readPerson_32 : decode cX2_readPerson 32 = .ok (.if_icmp .ne 5, 3) := by decide +kernel
theorem dX2_readPerson_35 : decode cX2_readPerson 35 = .ok (.iconst 0, 1) := by decide +kernel
theorem dX2_readPerson_36 : decode cX2_readPerson 36 = .ok (.ireturn, 1) := by decide +kernel
theorem dX2_readPerson_37 : decode cX2_readPerson 37 = .ok (.aload_n 0, 1) := by decide +kernel
theorem dX2_readPerson_38 : decode cX2_readPerson 38 = .ok (.getfield 15, 3) := by decide +kernel
theorem dX2_readPerson_41 : decode cX2_readPerson 41 = .ok (.iload_n 1, 1) := by decide +kernel
theorem dX2_readPerson_42 : decode cX2_readPerson 42 = .ok (.iload_n 2, 1) := by decide +kernel
theorem dX2_readPerson_43 : decode cX2_readPerson 43 = .ok (.invokevirtual 83, 3) := by decide +kernel
theorem dX2_readPerson_46 : decode cX2_readPerson 46 = .ok (.aload_n 0, 1) := by decide +kernel
theorem dX2_readPerson_47 : decode cX2_readPerson 47 = .ok (.invokevirtual 80, 3) := by decide +kernel
theorem dX2_readPerson_50 : decode cX2_readPerson 50 = .ok (.ireturn, 1) := by decide +kernel
set_option maxRecDepth 20000 in
theorem ggX2_readThing_X3_toNext : GoodIn wsX2_readThing wsX3_toNext := goodIn_r _ [7, 8, 9, 10, 11, 12, 13, 14, 15, 6, 16, 17, 18, 19, 20, 21, 54, 55, 56, 57, 58, 59] (by decide +kernel) (by decide +kernel)
set_option maxRecDepth 20000 in
theorem gX2_readThing_X3_toNext : GoodIn wsX2_readThing (wsV RX2 71 RX3 yX3_toNext wsX3_toNext) := goodIn_app (goodIn_of _ (by decide +kernel)) ggX2_readThing_X3_toNext
set_option maxRecDepth 20000 in
theorem ggX2_readThing_X2_number : GoodIn wsX2_readThing wsX2_number := goodIn_r _ [26, 1, 27, 28, 29, 6, 30, 11, 21, 3, 4, 5, 7, 8, 9, 10, 12, 13, 14, 15, 16, 17, 18, 19, 20, 44, 45, 54, 55, 56, 57, 58, 59] (by decide +kernel) (by decide +kernel)
set_option maxRecDepth 20000 in
theorem gX2_readThing_X2_number : GoodIn wsX2_readThing (wsV RX2 74 RX2 yX2_number wsX2_number) := goodIn_app (goodIn_of _ (by decide +kernel)) ggX2_readThing_X2_number
set_option maxRecDepth 20000 in
theorem ggX2_readThing_X0_addThing : GoodIn wsX2_readThing wsX0_addThing := goodIn_r _ [35, 36, 37, 38, 39, 46, 47, 48, 49, 50, 51, 52, 53] (by decide +kernel) (by decide +kernel)
set_option maxRecDepth 20000 in
theorem gX2_readThing_X0_addThing : GoodIn wsX2_readThing (wsV RX2 87 RX0 yX0_addThing wsX0_addThing) := goodIn_app (goodIn_of _ (by decide +kernel)) ggX2_readThing_X0_addThing
set_option maxRecDepth 20000 in
theorem ggX2_readThing_X2_stop : GoodIn wsX2_readThing wsX2_stop := goodIn_r _ [43, 1, 3, 4, 5, 6, 7, 8, 9, 10, 11, 12, 13, 14, 15, 16, 17, 18, 19, 20, 21, 44, 45, 54, 55, 56, 57, 58, 59] (by decide +kernel) (by decide +kernel)
set_option maxRecDepth 20000 in
theorem gX2_readThing_X2_stop : GoodIn wsX2_readThing (wsV RX2 80 RX2 yX2_stop wsX2_stop) := goodIn_app (goodIn_of _ (by decide +kernel)) ggX2_readThing_X2_stop
theorem dX2_readThing_0 : decode cX2_readThing 0 = .ok (.aload_n 0, 1) := by decide +kernel
theorem dX2_readThing_1 : decode cX2_readThing 1 = .ok (.getfield 9, 3) := by decide +kernel
theorem dX2_readThing_4 : decode cX2_readThing 4 = .ok (.invokevirtual 71, 3) := by decide +kernel
theorem dX2_readThing_7 : decode cX2_readThing 7 = .ok (.aload_n 0, 1) := by decide +kernel
theorem dX2_readThing_8 : decode cX2_readThing 8 = .ok (.iconst 0, 1) := by decide +kernel
theorem dX2_readThing_9 : decode cX2_readThing 9 = .ok (.aload_n 0, 1) := by decide +kernel
theorem dX2_readThing_10 : decode cX2_readThing 10 = .ok (.getfield 15, 3) := by decide +kernel
theorem dX2_readThing_13 : decode cX2_readThing 13 = .ok (.getfield 78, 3) := by decide +kernel
theorem dX2_readThing_16 : decode cX2_readThing 16 = .ok (.iconst 1, 1) := by decide +kernel
theorem dX2_readThing_17 : decode cX2_readThing 17 = .ok (.isub, 1) := by decide +kernel
theorem dX2_readThing_18 : decode cX2_readThing 18 = .ok (.invokevirtual 74, 3) := by decide +kernel
theorem dX2_readThing_21 : decode cX2_readThing 21 = .ok (.istore_n 1, 1) := by decide +kernel
theorem dX2_readThing_22 : decode cX2_readThing 22 = .ok (.iload_n 1, 1) := by decide +kernel
theorem dX2_readThing_23 : decode cX2_readThing 23 = .ok (.iconst (-1), 1) := by decide +kernel
theorem dX2_readThing_24 : decode cX2_readThing 24 = .ok (.if_icmp .ne 5, 3) := by decide +kernel
theorem dX2_readThing_27 : decode cX2_readThing 27 = .ok (.iconst 0, 1) := by decide +kernel
theorem dX2_readThing_28 : decode cX2_readThing 28 = .ok (.ireturn, 1) := by decide +kernel
theorem dX2_readThing_29 : decode cX2_readThing 29 = .ok (.aload_n 0, 1) := by decide +kernel
theorem dX2_readThing_30 : decode cX2_readThing 30 = .ok (.iconst 1, 1) := by decide +kernel
theorem dX2_readThing_31 : decode cX2_readThing 31 = .ok (.iconst 3, 1) := by decide +kernel
theorem dX2_readThing_32 : decode cX2_readThing 32 = .ok (.invokevirtual 74, 3) := by decide +kernel
theorem dX2_readThing_35 : decode cX2_readThing 35 = .ok (.istore_n 2, 1) := by decide +kernel
theorem dX2_readThing_36 : decode cX2_readThing 36 = .ok (.iload_n 2, 1) := by decide +kernel
theorem dX2_readThing_37 : decode cX2_readThing 37 = .ok (.iconst (-1), 1) := by decide +kernel
theorem dX2_readThing_38 : decode cX2_readThing 38 = .ok (.if_icmp .ne 5, 3) := by decide +kernel
theorem dX2_readThing_41 : decode cX2_readThing 41 = .ok (.iconst 0, 1) := by decide +kernel
theorem dX2_readThing_42 : decode cX2_readThing 42 = .ok (.ireturn, 1) := by decide +kernel
theorem dX2_readThing_43 : decode cX2_readThing 43 = .ok (.aload_n 0, 1) := by decide +kernel
theorem dX2_readThing_44 : decode cX2_readThing 44 = .ok (.getfield 15, 3) := by decide +kernel
theorem dX2_readThing_47 : decode cX2_readThing 47 = .ok (.iload_n 1, 1) := by decide +kernel
theorem dX2_readThing_48 : decode cX2_readThing 48 = .ok (.iload_n 2, 1) := by decide +kernel
theorem dX2_readThing_49 : decode cX2_readThing 49 = .ok (.invokevirtual 87, 3) := by decide +kernel
theorem dX2_readThing_52 : decode cX2_readThing 52 = .ok (.aload_n 0, 1) := by decide +kernel
theorem dX2_readThing_53 : decode cX2_readThing 53 = .ok (.invokevirtual 80, 3) := by decide +kernel
theorem dX2_readThing_56 : decode cX2_readThing 56 = .ok (.ireturn, 1) := by decide +kernel
set_option maxRecDepth 20000 in
theorem ggX2_readTask_X3_toNext : GoodIn wsX2_readTask wsX3_toNext := goodIn_r _ [7, 8, 9, 10, 11, 12, 13, 14, 15, 6, 16, 17, 18, 19, 20, 21, 56, 57, 58, 59, 60, 61] (by decide +kernel) (by decide +kernel)
set_option maxRecDepth 20000 in
theorem gX2_readTask_X3_toNext : GoodIn wsX2_readTask (wsV RX2 71 RX3 yX3_toNext wsX3_toNext) := goodIn_app (goodIn_of _ (by decide +kernel)) ggX2_readTask_X3_toNext
set_option maxRecDepth 20000 in
theorem ggX2_readTask_X2_number : GoodIn wsX2_readTask wsX2_number := goodIn_r _ [26, 1, 27, 28, 29, 6, 30, 11, 21, 3, 4, 5, 7, 8, 9, 10, 12, 13, 14, 15, 16, 17, 18, 19, 20, 46, 47, 56, 57, 58, 59, 60, 61] (by decide +kernel) (by decide +kernel)
set_option maxRecDepth 20000 in
theorem gX2_readTask_X2_number : GoodIn wsX2_readTask (wsV RX2 74 RX2 yX2_number wsX2_number) := goodIn_app (goodIn_of _ (by decide +kernel)) ggX2_readTask_X2_number
set_option maxRecDepth 20000 in
theorem ggX2_readTask_X0_want : GoodIn wsX2_readTask wsX0_want := goodIn_r _ [35, 36, 37, 38, 39, 34, 40, 41, 48, 49, 50, 51, 52, 53, 54, 55] (by decide +kernel) (by decide +kernel)
set_option maxRecDepth 20000 in
theorem gX2_readTask_X0_want : GoodIn wsX2_readTask (wsV RX2 90 RX0 yX0_want wsX0_want) := goodIn_app (goodIn_of _ (by decide +kernel)) ggX2_readTask_X0_want
set_option maxRecDepth 20000 in
theorem ggX2_readTask_X2_stop : GoodIn wsX2_readTask wsX2_stop := goodIn_r _ [45, 1, 3, 4, 5, 6, 7, 8, 9, 10, 11, 12, 13, 14, 15, 16, 17, 18, 19, 20, 21, 46, 47, 56, 57, 58, 59, 60, 61] (by decide +kernel) (by decide +kernel)
set_option maxRecDepth 20000 in
theorem gX2_readTask_X2_stop : GoodIn wsX2_readTask (wsV RX2 80 RX2 yX2_stop wsX2_stop) := goodIn_app (goodIn_of _ (by decide +kernel)) ggX2_readTask_X2_stop
theorem dX2_readTask_0 : decode cX2_readTask 0 = .ok (.aload_n 0, 1) := by decide +kernel
theorem dX2_readTask_1 : decode cX2_readTask 1 = .ok (.getfield 9, 3) := by decide +kernel
theorem dX2_readTask_4 : decode cX2_readTask 4 = .ok (.invokevirtual 71, 3) := by decide +kernel
theorem dX2_readTask_7 : decode cX2_readTask 7 = .ok (.aload_n 0, 1) := by decide +kernel
theorem dX2_readTask_8 : decode cX2_readTask 8 = .ok (.iconst 0, 1) := by decide +kernel
theorem dX2_readTask_9 : decode cX2_readTask 9 = .ok (.aload_n 0, 1) := by decide +kernel
theorem dX2_readTask_10 : decode cX2_readTask 10 = .ok (.getfield 15, 3) := by decide +kernel
theorem dX2_readTask_13 : decode cX2_readTask 13 = .ok (.getfield 60, 3) := by decide +kernel
theorem dX2_readTask_16 : decode cX2_readTask 16 = .ok (.iconst 1, 1) := by decide +kernel
theorem dX2_readTask_17 : decode cX2_readTask 17 = .ok (.isub, 1) := by decide +kernel
theorem dX2_readTask_18 : decode cX2_readTask 18 = .ok (.invokevirtual 74, 3) := by decide +kernel
theorem dX2_readTask_21 : decode cX2_readTask 21 = .ok (.istore_n 1, 1) := by decide +kernel
theorem dX2_readTask_22 : decode cX2_readTask 22 = .ok (.iload_n 1, 1) := by decide +kernel
theorem dX2_readTask_23 : decode cX2_readTask 23 = .ok (.iconst (-1), 1) := by decide +kernel
theorem dX2_readTask_24 : decode cX2_readTask 24 = .ok (.if_icmp .ne 5, 3) := by decide +kernel
theorem dX2_readTask_27 : decode cX2_readTask 27 = .ok (.iconst 0, 1) := by decide +kernel
theorem dX2_readTask_28 : decode cX2_readTask 28 = .ok (.ireturn, 1) := by decide +kernel
theorem dX2_readTask_29 : decode cX2_readTask 29 = .ok (.aload_n 0, 1) := by decide +kernel
theorem dX2_readTask_30 : decode cX2_readTask 30 = .ok (.iconst 0, 1) := by decide +kernel
theorem dX2_readTask_31 : decode cX2_readTask 31 = .ok (.aload_n 0, 1) := by decide +kernel
theorem dX2_readTask_32 : decode cX2_readTask 32 = .ok (.getfield 15, 3) := by decide +kernel
theorem dX2_readTask_35 : decode cX2_readTask 35 = .ok (.getfield 78, 3) := by decide +kernel
theorem dX2_readTask_38 : decode cX2_readTask 38 = .ok (.iconst 1, 1) := by decide +kernel
theorem dX2_readTask_39 : decode cX2_readTask 39 = .ok (.isub, 1) := by decide +kernel
theorem dX2_readTask_40 : decode cX2_readTask 40 = .ok (.invokevirtual 74, 3) := by decide +kernel
theorem dX2_readTask_43 : decode cX2_readTask 43 = .ok (.istore_n 2, 1) := by decide +kernel
theorem dX2_readTask_44 : decode cX2_readTask 44 = .ok (.iload_n 2, 1) := by decide +kernel
theorem dX2_readTask_45 : decode cX2_readTask 45 = .ok (.iconst (-1), 1) := by decide +kernel
theorem dX2_readTask_46 : decode cX2_readTask 46 = .ok (.if_icmp .ne 5, 3) := by decide +kernel
theorem dX2_readTask_49 : decode cX2_readTask 49 = .ok (.iconst 0, 1) := by decide +kernel
theorem dX2_readTask_50 : decode cX2_readTask 50 = .ok (.ireturn, 1) := by decide +kernel
theorem dX2_readTask_51 : decode cX2_readTask 51 = .ok (.aload_n 0, 1) := by decide +kernel
theorem dX2_readTask_52 : decode cX2_readTask 52 = .ok (.getfield 15, 3) := by decide +kernel
theorem dX2_readTask_55 : decode cX2_readTask 55 = .ok (.iload_n 1, 1) := by decide +kernel
theorem dX2_readTask_56 : decode cX2_readTask 56 = .ok (.iload_n 2, 1) := by decide +kernel
theorem dX2_readTask_57 : decode cX2_readTask 57 = .ok (.invokevirtual 90, 3) := by decide +kernel
theorem dX2_readTask_60 : decode cX2_readTask 60 = .ok (.aload_n 0, 1) := by decide +kernel
theorem dX2_readTask_61 : decode cX2_readTask 61 = .ok (.invokevirtual 80, 3) := by decide +kernel
theorem dX2_readTask_64 : decode cX2_readTask 64 = .ok (.ireturn, 1) := by decide +kernel
set_option maxRecDepth 20000 in
theorem ggX2_number_X3_isNumber : GoodIn wsX2_number wsX3_isNumber := goodIn_r _ [6, 7, 8, 27, 28, 29, 30, 31, 32] (by decide +kernel) (by decide +kernel)
set_option maxRecDepth 20000 in
theorem gX2_number_X3_isNumber : GoodIn wsX2_number (wsV RX2 93 RX3 yX3_isNumber wsX3_isNumber) := goodIn_app (goodIn_of _ (by decide +kernel)) ggX2_number_X3_isNumber
set_option maxRecDepth 20000 in
theorem ggX2_number_X3_toNext : GoodIn wsX2_number wsX3_toNext := goodIn_r _ [12, 13, 14, 15, 7, 16, 17, 18, 19, 5, 20, 21, 22, 23, 24, 8, 27, 28, 29, 30, 31, 32] (by decide +kernel) (by decide +kernel)
set_option maxRecDepth 20000 in
theorem gX2_number_X3_toNext : GoodIn wsX2_number (wsV RX2 71 RX3 yX3_toNext wsX3_toNext) := goodIn_app (goodIn_of _ (by decide +kernel)) ggX2_number_X3_toNext
theorem dX2_number_0 : decode cX2_number 0 = .ok (.aload_n 0, 1) := by decide +kernel
theorem dX2_number_1 : decode cX2_number 1 = .ok (.getfield 9, 3) := by decide +kernel
theorem dX2_number_4 : decode cX2_number 4 = .ok (.iload_n 1, 1) := by decide +kernel
theorem dX2_number_5 : decode cX2_number 5 = .ok (.iload_n 2, 1) := by decide +kernel
theorem dX2_number_6 : decode cX2_number 6 = .ok (.invokevirtual 93, 3) := by decide +kernel
theorem dX2_number_9 : decode cX2_number 9 = .ok (.ifCond .ne 5, 3) := by decide +kernel
theorem dX2_number_12 : decode cX2_number 12 = .ok (.iconst (-1), 1) := by decide +kernel
theorem dX2_number_13 : decode cX2_number 13 = .ok (.ireturn, 1) := by decide +kernel
theorem dX2_number_14 : decode cX2_number 14 = .ok (.aload_n 0, 1) := by decide +kernel
theorem dX2_number_15 : decode cX2_number 15 = .ok (.getfield 9, 3) := by decide +kernel
theorem dX2_number_18 : decode cX2_number 18 = .ok (.getfield 97, 3) := by decide +kernel
theorem dX2_number_21 : decode cX2_number 21 = .ok (.istore_n 3, 1) := by decide +kernel
theorem dX2_number_22 : decode cX2_number 22 = .ok (.aload_n 0, 1) := by decide +kernel
theorem dX2_number_23 : decode cX2_number 23 = .ok (.getfield 9, 3) := by decide +kernel
theorem dX2_number_26 : decode cX2_number 26 = .ok (.invokevirtual 71, 3) := by decide +kernel
theorem dX2_number_29 : decode cX2_number 29 = .ok (.iload_n 3, 1) := by decide +kernel
theorem dX2_number_30 : decode cX2_number 30 = .ok (.ireturn, 1) := by decide +kernel
set_option maxRecDepth 20000 in
theorem ggX2_stop_X3_toNext : GoodIn wsX2_stop wsX3_toNext := goodIn_r _ [6, 7, 8, 9, 10, 11, 12, 13, 14, 5, 15, 16, 17, 18, 19, 20, 23, 24, 25, 26, 27, 28] (by decide +kernel) (by decide +kernel)
set_option maxRecDepth 20000 in
theorem gX2_stop_X3_toNext : GoodIn wsX2_stop (wsV RX2 71 RX3 yX3_toNext wsX3_toNext) := goodIn_app (goodIn_of _ (by decide +kernel)) ggX2_stop_X3_toNext
theorem dX2_stop_0 : decode cX2_stop 0 = .ok (.aload_n 0, 1) := by decide +kernel
theorem dX2_stop_1 : decode cX2_stop 1 = .ok (.getfield 9, 3) := by decide +kernel
theorem dX2_stop_4 : decode cX2_stop 4 = .ok (.getfield 29, 3) := by decide +kernel
theorem dX2_stop_7 : decode cX2_stop 7 = .ok (.iconst 3, 1) := by decide +kernel
theorem dX2_stop_8 : decode cX2_stop 8 = .ok (.if_icmp .eq 5, 3) := by decide +kernel
theorem dX2_stop_11 : decode cX2_stop 11 = .ok (.iconst 0, 1) := by decide +kernel
theorem dX2_stop_12 : decode cX2_stop 12 = .ok (.ireturn, 1) := by decide +kernel
theorem dX2_stop_13 : decode cX2_stop 13 = .ok (.aload_n 0, 1) := by decide +kernel
theorem dX2_stop_14 : decode cX2_stop 14 = .ok (.getfield 9, 3) := by decide +kernel
theorem dX2_stop_17 : decode cX2_stop 17 = .ok (.invokevirtual 71, 3) := by decide +kernel
theorem dX2_stop_20 : decode cX2_stop 20 = .ok (.iconst 1, 1) := by decide +kernel
theorem dX2_stop_21 : decode cX2_stop 21 = .ok (.ireturn, 1) := by decide +kernel
