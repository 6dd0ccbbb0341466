theorem dX0_init_0 : decode cX0_init 0 = .ok (.aload_n 0, 1) := by decide +kernel
theorem dX0_init_1 : decode cX0_init 1 = .ok (.invokespecial 3, 3) := by decide +kernel
theorem dX0_init_4 : decode cX0_init 4 = .ok (.aload_n 0, 1) := by decide +kernel
theorem dX0_init_5 : decode cX0_init 5 = .ok (.bipush 9, 2) := by decide +kernel
theorem dX0_init_7 : decode cX0_init 7 = .ok (.newarray .int, 2) := by decide +kernel
theorem dX0_init_9 : decode cX0_init 9 = .ok (.putfield 9, 3) := by decide +kernel
theorem dX0_init_12 : decode cX0_init 12 = .ok (.aload_n 0, 1) := by decide +kernel
theorem dX0_init_13 : decode cX0_init 13 = .ok (.bipush 9, 2) := by decide +kernel
theorem dX0_init_15 : decode cX0_init 15 = .ok (.newarray .int, 2) := by decide +kernel
theorem dX0_init_17 : decode cX0_init 17 = .ok (.putfield 15, 3) := by decide +kernel
theorem dX0_init_20 : decode cX0_init 20 = .ok (.return_, 1) := by decide +kernel
set_option maxRecDepth 20000 in
theorem ggX0_clear_J7_fill_53178 : GoodIn wsX0_clear wsJ7_fill_53178 := goodIn_r _ [9] (by decide +kernel) (by decide +kernel)
set_option maxRecDepth 20000 in
theorem gX0_clear_J7_fill_53178 : GoodIn wsX0_clear (va_wsS RX0 18 yJ7_fill_53178 wsJ7_fill_53178) := goodIn_app (goodIn_of _ (by decide +kernel)) ggX0_clear_J7_fill_53178
theorem dX0_clear_0 : decode cX0_clear 0 = .ok (.aload_n 0, 1) := by decide +kernel
theorem dX0_clear_1 : decode cX0_clear 1 = .ok (.getfield 9, 3) := by decide +kernel
theorem dX0_clear_4 : decode cX0_clear 4 = .ok (.iconst 0, 1) := by decide +kernel
theorem dX0_clear_5 : decode cX0_clear 5 = .ok (.invokestatic 18, 3) := by decide +kernel
theorem dX0_clear_8 : decode cX0_clear 8 = .ok (.aload_n 0, 1) := by decide +kernel
theorem dX0_clear_9 : decode cX0_clear 9 = .ok (.getfield 15, 3) := by decide +kernel
theorem dX0_clear_12 : decode cX0_clear 12 = .ok (.iconst 0, 1) := by decide +kernel
theorem dX0_clear_13 : decode cX0_clear 13 = .ok (.invokestatic 18, 3) := by decide +kernel
theorem dX0_clear_16 : decode cX0_clear 16 = .ok (.aload_n 0, 1) := by decide +kernel
theorem dX0_clear_17 : decode cX0_clear 17 = .ok (.iload_n 1, 1) := by decide +kernel
theorem dX0_clear_18 : decode cX0_clear 18 = .ok (.putfield 24, 3) := by decide +kernel
theorem dX0_clear_21 : decode cX0_clear 21 = .ok (.aload_n 0, 1) := by decide +kernel
theorem dX0_clear_22 : decode cX0_clear 22 = .ok (.iconst 0, 1) := by decide +kernel
theorem dX0_clear_23 : decode cX0_clear 23 = .ok (.putfield 28, 3) := by decide +kernel
theorem dX0_clear_26 : decode cX0_clear 26 = .ok (.aload_n 0, 1) := by decide +kernel
theorem dX0_clear_27 : decode cX0_clear 27 = .ok (.iconst 0, 1) := by decide +kernel
theorem dX0_clear_28 : decode cX0_clear 28 = .ok (.putfield 31, 3) := by decide +kernel
theorem dX0_clear_31 : decode cX0_clear 31 = .ok (.return_, 1) := by decide +kernel
theorem dX0_size_0 : decode cX0_size 0 = .ok (.aload_n 0, 1) := by decide +kernel
theorem dX0_size_1 : decode cX0_size 1 = .ok (.getfield 24, 3) := by decide +kernel
theorem dX0_size_4 : decode cX0_size 4 = .ok (.ireturn, 1) := by decide +kernel
theorem dX0_hasPlace_0 : decode cX0_hasPlace 0 = .ok (.iload_n 1, 1) := by decide +kernel
theorem dX0_hasPlace_1 : decode cX0_hasPlace 1 = .ok (.ifCond .lt 21, 3) := by decide +kernel
theorem dX0_hasPlace_4 : decode cX0_hasPlace 4 = .ok (.iload_n 1, 1) := by decide +kernel
theorem dX0_hasPlace_5 : decode cX0_hasPlace 5 = .ok (.aload_n 0, 1) := by decide +kernel
theorem dX0_hasPlace_6 : decode cX0_hasPlace 6 = .ok (.getfield 24, 3) := by decide +kernel
theorem dX0_hasPlace_9 : decode cX0_hasPlace 9 = .ok (.if_icmp .ge 13, 3) := by decide +kernel
theorem dX0_hasPlace_12 : decode cX0_hasPlace 12 = .ok (.iload_n 1, 1) := by decide +kernel
theorem dX0_hasPlace_13 : decode cX0_hasPlace 13 = .ok (.bipush 9, 2) := by decide +kernel
theorem dX0_hasPlace_15 : decode cX0_hasPlace 15 = .ok (.if_icmp .ge 7, 3) := by decide +kernel
theorem dX0_hasPlace_18 : decode cX0_hasPlace 18 = .ok (.iconst 1, 1) := by decide +kernel
theorem dX0_hasPlace_19 : decode cX0_hasPlace 19 = .ok (.goto 4, 3) := by decide +kernel
theorem dX0_hasPlace_22 : decode cX0_hasPlace 22 = .ok (.iconst 0, 1) := by decide +kernel
theorem dX0_hasPlace_23 : decode cX0_hasPlace 23 = .ok (.ireturn, 1) := by decide +kernel
theorem dX0_hasSet_0 : decode cX0_hasSet 0 = .ok (.iload_n 1, 1) := by decide +kernel
theorem dX0_hasSet_1 : decode cX0_hasSet 1 = .ok (.ifCond .lt 23, 3) := by decide +kernel
theorem dX0_hasSet_4 : decode cX0_hasSet 4 = .ok (.iload_n 1, 1) := by decide +kernel
theorem dX0_hasSet_5 : decode cX0_hasSet 5 = .ok (.sipush 512, 3) := by decide +kernel
theorem dX0_hasSet_8 : decode cX0_hasSet 8 = .ok (.if_icmp .ge 16, 3) := by decide +kernel
theorem dX0_hasSet_11 : decode cX0_hasSet 11 = .ok (.iload_n 1, 1) := by decide +kernel
theorem dX0_hasSet_12 : decode cX0_hasSet 12 = .ok (.aload_n 0, 1) := by decide +kernel
theorem dX0_hasSet_13 : decode cX0_hasSet 13 = .ok (.getfield 24, 3) := by decide +kernel
theorem dX0_hasSet_16 : decode cX0_hasSet 16 = .ok (.iushr, 1) := by decide +kernel
theorem dX0_hasSet_17 : decode cX0_hasSet 17 = .ok (.ifCond .ne 7, 3) := by decide +kernel
theorem dX0_hasSet_20 : decode cX0_hasSet 20 = .ok (.iconst 1, 1) := by decide +kernel
theorem dX0_hasSet_21 : decode cX0_hasSet 21 = .ok (.goto 4, 3) := by decide +kernel
theorem dX0_hasSet_24 : decode cX0_hasSet 24 = .ok (.iconst 0, 1) := by decide +kernel
theorem dX0_hasSet_25 : decode cX0_hasSet 25 = .ok (.ireturn, 1) := by decide +kernel
set_option maxRecDepth 20000 in
theorem ggX0_hasDoor_X0_doorSet : GoodIn wsX0_hasDoor wsX0_doorSet := goodIn_r _ [5, 6, 7, 8, 9, 4, 10, 11, 15, 16, 17, 18, 19] (by decide +kernel) (by decide +kernel)
set_option maxRecDepth 20000 in
theorem gX0_hasDoor_X0_doorSet : GoodIn wsX0_hasDoor (wsV RX0 34 RX0 yX0_doorSet wsX0_doorSet) := goodIn_app (goodIn_of _ (by decide +kernel)) ggX0_hasDoor_X0_doorSet
set_option maxRecDepth 20000 in
theorem ggX0_hasDoor_X4_has : GoodIn wsX0_hasDoor wsX4_has := goodIn_r _ [14] (by decide +kernel) (by decide +kernel)
set_option maxRecDepth 20000 in
theorem gX0_hasDoor_X4_has_n38 : GoodIn wsX0_hasDoor (wsX4_has) := ggX0_hasDoor_X4_has
theorem dX0_hasDoor_0 : decode cX0_hasDoor 0 = .ok (.aload_n 0, 1) := by decide +kernel
theorem dX0_hasDoor_1 : decode cX0_hasDoor 1 = .ok (.iload_n 1, 1) := by decide +kernel
theorem dX0_hasDoor_2 : decode cX0_hasDoor 2 = .ok (.invokevirtual 34, 3) := by decide +kernel
theorem dX0_hasDoor_5 : decode cX0_hasDoor 5 = .ok (.iload_n 2, 1) := by decide +kernel
theorem dX0_hasDoor_6 : decode cX0_hasDoor 6 = .ok (.invokestatic 38, 3) := by decide +kernel
theorem dX0_hasDoor_9 : decode cX0_hasDoor 9 = .ok (.ireturn, 1) := by decide +kernel
set_option maxRecDepth 20000 in
theorem ggX0_doorSet_X0_hasPlace : GoodIn wsX0_doorSet wsX0_hasPlace := goodIn_r _ [6, 7, 8, 9, 10, 11, 12] (by decide +kernel) (by decide +kernel)
set_option maxRecDepth 20000 in
theorem gX0_doorSet_X0_hasPlace : GoodIn wsX0_doorSet (wsV RX0 42 RX0 yX0_hasPlace wsX0_hasPlace) := goodIn_app (goodIn_of _ (by decide +kernel)) ggX0_doorSet_X0_hasPlace
theorem dX0_doorSet_0 : decode cX0_doorSet 0 = .ok (.aload_n 0, 1) := by decide +kernel
theorem dX0_doorSet_1 : decode cX0_doorSet 1 = .ok (.iload_n 1, 1) := by decide +kernel
theorem dX0_doorSet_2 : decode cX0_doorSet 2 = .ok (.invokevirtual 42, 3) := by decide +kernel
theorem dX0_doorSet_5 : decode cX0_doorSet 5 = .ok (.ifCond .eq 12, 3) := by decide +kernel
theorem dX0_doorSet_8 : decode cX0_doorSet 8 = .ok (.aload_n 0, 1) := by decide +kernel
theorem dX0_doorSet_9 : decode cX0_doorSet 9 = .ok (.getfield 9, 3) := by decide +kernel
theorem dX0_doorSet_12 : decode cX0_doorSet 12 = .ok (.iload_n 1, 1) := by decide +kernel
theorem dX0_doorSet_13 : decode cX0_doorSet 13 = .ok (.iaload, 1) := by decide +kernel
theorem dX0_doorSet_14 : decode cX0_doorSet 14 = .ok (.goto 4, 3) := by decide +kernel
theorem dX0_doorSet_17 : decode cX0_doorSet 17 = .ok (.iconst 0, 1) := by decide +kernel
theorem dX0_doorSet_18 : decode cX0_doorSet 18 = .ok (.ireturn, 1) := by decide +kernel
set_option maxRecDepth 20000 in
theorem ggX0_turnDoor_X0_hasPlace : GoodIn wsX0_turnDoor wsX0_hasPlace := goodIn_r _ [6, 7, 11, 12, 13, 14, 15] (by decide +kernel) (by decide +kernel)
set_option maxRecDepth 20000 in
theorem gX0_turnDoor_X0_hasPlace : GoodIn wsX0_turnDoor (wsV RX0 42 RX0 yX0_hasPlace wsX0_hasPlace) := goodIn_app (goodIn_of _ (by decide +kernel)) ggX0_turnDoor_X0_hasPlace
set_option maxRecDepth 20000 in
theorem ggX0_turnDoor_X4_setOf : GoodIn wsX0_turnDoor wsX4_setOf := goodIn_r _ [10] (by decide +kernel) (by decide +kernel)
set_option maxRecDepth 20000 in
theorem gX0_turnDoor_X4_setOf_n46 : GoodIn wsX0_turnDoor (wsX4_setOf) := ggX0_turnDoor_X4_setOf
theorem dX0_turnDoor_0 : decode cX0_turnDoor 0 = .ok (.aload_n 0, 1) := by decide +kernel
theorem dX0_turnDoor_1 : decode cX0_turnDoor 1 = .ok (.iload_n 1, 1) := by decide +kernel
theorem dX0_turnDoor_2 : decode cX0_turnDoor 2 = .ok (.invokevirtual 42, 3) := by decide +kernel
theorem dX0_turnDoor_5 : decode cX0_turnDoor 5 = .ok (.ifCond .eq 24, 3) := by decide +kernel
theorem dX0_turnDoor_8 : decode cX0_turnDoor 8 = .ok (.aload_n 0, 1) := by decide +kernel
theorem dX0_turnDoor_9 : decode cX0_turnDoor 9 = .ok (.iload_n 2, 1) := by decide +kernel
theorem dX0_turnDoor_10 : decode cX0_turnDoor 10 = .ok (.invokevirtual 42, 3) := by decide +kernel
theorem dX0_turnDoor_13 : decode cX0_turnDoor 13 = .ok (.ifCond .eq 16, 3) := by decide +kernel
theorem dX0_turnDoor_16 : decode cX0_turnDoor 16 = .ok (.aload_n 0, 1) := by decide +kernel
theorem dX0_turnDoor_17 : decode cX0_turnDoor 17 = .ok (.getfield 9, 3) := by decide +kernel
theorem dX0_turnDoor_20 : decode cX0_turnDoor 20 = .ok (.iload_n 1, 1) := by decide +kernel
theorem dX0_turnDoor_21 : decode cX0_turnDoor 21 = .ok (.dup2, 1) := by decide +kernel
theorem dX0_turnDoor_22 : decode cX0_turnDoor 22 = .ok (.iaload, 1) := by decide +kernel
theorem dX0_turnDoor_23 : decode cX0_turnDoor 23 = .ok (.iload_n 2, 1) := by decide +kernel
theorem dX0_turnDoor_24 : decode cX0_turnDoor 24 = .ok (.invokestatic 46, 3) := by decide +kernel
theorem dX0_turnDoor_27 : decode cX0_turnDoor 27 = .ok (.ixor, 1) := by decide +kernel
theorem dX0_turnDoor_28 : decode cX0_turnDoor 28 = .ok (.iastore, 1) := by decide +kernel
theorem dX0_turnDoor_29 : decode cX0_turnDoor 29 = .ok (.return_, 1) := by decide +kernel
set_option maxRecDepth 20000 in
theorem ggX0_countDoors_J6_bitCount_0f7a4 : GoodIn wsX0_countDoors wsJ6_bitCount_0f7a4 := goodIn_r _ [5, 6, 7, 8] (by decide +kernel) (by decide +kernel)
set_option maxRecDepth 20000 in
theorem gX0_countDoors_J6_bitCount_0f7a4 : GoodIn wsX0_countDoors (va_wsS RX0 49 yJ6_bitCount_0f7a4 wsJ6_bitCount_0f7a4) := goodIn_app (goodIn_of _ (by decide +kernel)) ggX0_countDoors_J6_bitCount_0f7a4
theorem dX0_countDoors_0 : decode cX0_countDoors 0 = .ok (.iconst 0, 1) := by decide +kernel
theorem dX0_countDoors_1 : decode cX0_countDoors 1 = .ok (.istore_n 1, 1) := by decide +kernel
theorem dX0_countDoors_2 : decode cX0_countDoors 2 = .ok (.aload_n 0, 1) := by decide +kernel
theorem dX0_countDoors_3 : decode cX0_countDoors 3 = .ok (.getfield 9, 3) := by decide +kernel
theorem dX0_countDoors_6 : decode cX0_countDoors 6 = .ok (.astore_n 2, 1) := by decide +kernel
theorem dX0_countDoors_7 : decode cX0_countDoors 7 = .ok (.aload_n 2, 1) := by decide +kernel
theorem dX0_countDoors_8 : decode cX0_countDoors 8 = .ok (.arraylength, 1) := by decide +kernel
theorem dX0_countDoors_9 : decode cX0_countDoors 9 = .ok (.istore_n 3, 1) := by decide +kernel
theorem dX0_countDoors_10 : decode cX0_countDoors 10 = .ok (.iconst 0, 1) := by decide +kernel
theorem dX0_countDoors_11 : decode cX0_countDoors 11 = .ok (.istore 4, 2) := by decide +kernel
theorem dX0_countDoors_13 : decode cX0_countDoors 13 = .ok (.iload 4, 2) := by decide +kernel
theorem dX0_countDoors_15 : decode cX0_countDoors 15 = .ok (.iload_n 3, 1) := by decide +kernel
theorem dX0_countDoors_16 : decode cX0_countDoors 16 = .ok (.if_icmp .ge 23, 3) := by decide +kernel
theorem dX0_countDoors_19 : decode cX0_countDoors 19 = .ok (.aload_n 2, 1) := by decide +kernel
theorem dX0_countDoors_20 : decode cX0_countDoors 20 = .ok (.iload 4, 2) := by decide +kernel
theorem dX0_countDoors_22 : decode cX0_countDoors 22 = .ok (.iaload, 1) := by decide +kernel
theorem dX0_countDoors_23 : decode cX0_countDoors 23 = .ok (.istore 5, 2) := by decide +kernel
theorem dX0_countDoors_25 : decode cX0_countDoors 25 = .ok (.iload_n 1, 1) := by decide +kernel
theorem dX0_countDoors_26 : decode cX0_countDoors 26 = .ok (.iload 5, 2) := by decide +kernel
theorem dX0_countDoors_28 : decode cX0_countDoors 28 = .ok (.invokestatic 49, 3) := by decide +kernel
theorem dX0_countDoors_31 : decode cX0_countDoors 31 = .ok (.iadd, 1) := by decide +kernel
theorem dX0_countDoors_32 : decode cX0_countDoors 32 = .ok (.istore_n 1, 1) := by decide +kernel
theorem dX0_countDoors_33 : decode cX0_countDoors 33 = .ok (.iinc 4 1, 3) := by decide +kernel
theorem dX0_countDoors_36 : decode cX0_countDoors 36 = .ok (.goto (-23), 3) := by decide +kernel
theorem dX0_countDoors_39 : decode cX0_countDoors 39 = .ok (.iload_n 1, 1) := by decide +kernel
theorem dX0_countDoors_40 : decode cX0_countDoors 40 = .ok (.ireturn, 1) := by decide +kernel
set_option maxRecDepth 20000 in
theorem ggX0_setKind_X4_setOf : GoodIn wsX0_setKind wsX4_setOf := goodIn_r _ [5] (by decide +kernel) (by decide +kernel)
set_option maxRecDepth 20000 in
theorem gX0_setKind_X4_setOf_n46 : GoodIn wsX0_setKind (wsX4_setOf) := ggX0_setKind_X4_setOf
theorem dX0_setKind_0 : decode cX0_setKind 0 = .ok (.iload_n 1, 1) := by decide +kernel
theorem dX0_setKind_1 : decode cX0_setKind 1 = .ok (.invokestatic 46, 3) := by decide +kernel
theorem dX0_setKind_4 : decode cX0_setKind 4 = .ok (.istore_n 3, 1) := by decide +kernel
theorem dX0_setKind_5 : decode cX0_setKind 5 = .ok (.aload_n 0, 1) := by decide +kernel
theorem dX0_setKind_6 : decode cX0_setKind 6 = .ok (.iload_n 2, 1) := by decide +kernel
theorem dX0_setKind_7 : decode cX0_setKind 7 = .ok (.iconst 1, 1) := by decide +kernel
theorem dX0_setKind_8 : decode cX0_setKind 8 = .ok (.if_icmp .ne 12, 3) := by decide +kernel
theorem dX0_setKind_11 : decode cX0_setKind 11 = .ok (.aload_n 0, 1) := by decide +kernel
theorem dX0_setKind_12 : decode cX0_setKind 12 = .ok (.getfield 28, 3) := by decide +kernel
theorem dX0_setKind_15 : decode cX0_setKind 15 = .ok (.iload_n 3, 1) := by decide +kernel
theorem dX0_setKind_16 : decode cX0_setKind 16 = .ok (.ior, 1) := by decide +kernel
theorem dX0_setKind_17 : decode cX0_setKind 17 = .ok (.goto 11, 3) := by decide +kernel
theorem dX0_setKind_20 : decode cX0_setKind 20 = .ok (.aload_n 0, 1) := by decide +kernel
theorem dX0_setKind_21 : decode cX0_setKind 21 = .ok (.getfield 28, 3) := by decide +kernel
theorem dX0_setKind_24 : decode cX0_setKind 24 = .ok (.iload_n 3, 1) := by decide +kernel
theorem dX0_setKind_25 : decode cX0_setKind 25 = .ok (.iconst (-1), 1) := by decide +kernel
theorem dX0_setKind_26 : decode cX0_setKind 26 = .ok (.ixor, 1) := by decide +kernel
theorem dX0_setKind_27 : decode cX0_setKind 27 = .ok (.iand, 1) := by decide +kernel
theorem dX0_setKind_28 : decode cX0_setKind 28 = .ok (.putfield 28, 3) := by decide +kernel
theorem dX0_setKind_31 : decode cX0_setKind 31 = .ok (.aload_n 0, 1) := by decide +kernel
theorem dX0_setKind_32 : decode cX0_setKind 32 = .ok (.iload_n 2, 1) := by decide +kernel
theorem dX0_setKind_33 : decode cX0_setKind 33 = .ok (.iconst 2, 1) := by decide +kernel
theorem dX0_setKind_34 : decode cX0_setKind 34 = .ok (.if_icmp .ne 12, 3) := by decide +kernel
theorem dX0_setKind_37 : decode cX0_setKind 37 = .ok (.aload_n 0, 1) := by decide +kernel
theorem dX0_setKind_38 : decode cX0_setKind 38 = .ok (.getfield 31, 3) := by decide +kernel
theorem dX0_setKind_41 : decode cX0_setKind 41 = .ok (.iload_n 3, 1) := by decide +kernel
theorem dX0_setKind_42 : decode cX0_setKind 42 = .ok (.ior, 1) := by decide +kernel
theorem dX0_setKind_43 : decode cX0_setKind 43 = .ok (.goto 11, 3) := by decide +kernel
theorem dX0_setKind_46 : decode cX0_setKind 46 = .ok (.aload_n 0, 1) := by decide +kernel
theorem dX0_setKind_47 : decode cX0_setKind 47 = .ok (.getfield 31, 3) := by decide +kernel
theorem dX0_setKind_50 : decode cX0_setKind 50 = .ok (.iload_n 3, 1) := by decide +kernel
theorem dX0_setKind_51 : decode cX0_setKind 51 = .ok (.iconst (-1), 1) := by decide +kernel
theorem dX0_setKind_52 : decode cX0_setKind 52 = .ok (.ixor, 1) := by decide +kernel
theorem dX0_setKind_53 : decode cX0_setKind 53 = .ok (.iand, 1) := by decide +kernel
theorem dX0_setKind_54 : decode cX0_setKind 54 = .ok (.putfield 31, 3) := by decide +kernel
theorem dX0_setKind_57 : decode cX0_setKind 57 = .ok (.return_, 1) := by decide +kernel
theorem dX0_gateSet_0 : decode cX0_gateSet 0 = .ok (.aload_n 0, 1) := by decide +kernel
theorem dX0_gateSet_1 : decode cX0_gateSet 1 = .ok (.getfield 28, 3) := by decide +kernel
theorem dX0_gateSet_4 : decode cX0_gateSet 4 = .ok (.ireturn, 1) := by decide +kernel
theorem dX0_jewelSet_0 : decode cX0_jewelSet 0 = .ok (.aload_n 0, 1) := by decide +kernel
theorem dX0_jewelSet_1 : decode cX0_jewelSet 1 = .ok (.getfield 31, 3) := by decide +kernel
theorem dX0_jewelSet_4 : decode cX0_jewelSet 4 = .ok (.ireturn, 1) := by decide +kernel
theorem dX0_plainSet_0 : decode cX0_plainSet 0 = .ok (.iconst 1, 1) := by decide +kernel
theorem dX0_plainSet_1 : decode cX0_plainSet 1 = .ok (.aload_n 0, 1) := by decide +kernel
theorem dX0_plainSet_2 : decode cX0_plainSet 2 = .ok (.getfield 24, 3) := by decide +kernel
theorem dX0_plainSet_5 : decode cX0_plainSet 5 = .ok (.ishl, 1) := by decide +kernel
theorem dX0_plainSet_6 : decode cX0_plainSet 6 = .ok (.iconst 1, 1) := by decide +kernel
theorem dX0_plainSet_7 : decode cX0_plainSet 7 = .ok (.isub, 1) := by decide +kernel
theorem dX0_plainSet_8 : decode cX0_plainSet 8 = .ok (.aload_n 0, 1) := by decide +kernel
theorem dX0_plainSet_9 : decode cX0_plainSet 9 = .ok (.getfield 28, 3) := by decide +kernel
theorem dX0_plainSet_12 : decode cX0_plainSet 12 = .ok (.iconst (-1), 1) := by decide +kernel
theorem dX0_plainSet_13 : decode cX0_plainSet 13 = .ok (.ixor, 1) := by decide +kernel
theorem dX0_plainSet_14 : decode cX0_plainSet 14 = .ok (.iand, 1) := by decide +kernel
theorem dX0_plainSet_15 : decode cX0_plainSet 15 = .ok (.aload_n 0, 1) := by decide +kernel
theorem dX0_plainSet_16 : decode cX0_plainSet 16 = .ok (.getfield 31, 3) := by decide +kernel
theorem dX0_plainSet_19 : decode cX0_plainSet 19 = .ok (.iconst (-1), 1) := by decide +kernel
theorem dX0_plainSet_20 : decode cX0_plainSet 20 = .ok (.ixor, 1) := by decide +kernel
theorem dX0_plainSet_21 : decode cX0_plainSet 21 = .ok (.iand, 1) := by decide +kernel
theorem dX0_plainSet_22 : decode cX0_plainSet 22 = .ok (.ireturn, 1) := by decide +kernel
set_option maxRecDepth 20000 in
theorem ggX0_setMarks_X0_hasPlace : GoodIn wsX0_setMarks wsX0_hasPlace := goodIn_r _ [6, 7, 8, 9, 10, 11, 12] (by decide +kernel) (by decide +kernel)
set_option maxRecDepth 20000 in
theorem gX0_setMarks_X0_hasPlace : GoodIn wsX0_setMarks (wsV RX0 42 RX0 yX0_hasPlace wsX0_hasPlace) := goodIn_app (goodIn_of _ (by decide +kernel)) ggX0_setMarks_X0_hasPlace
theorem dX0_setMarks_0 : decode cX0_setMarks 0 = .ok (.aload_n 0, 1) := by decide +kernel
theorem dX0_setMarks_1 : decode cX0_setMarks 1 = .ok (.iload_n 1, 1) := by decide +kernel
theorem dX0_setMarks_2 : decode cX0_setMarks 2 = .ok (.invokevirtual 42, 3) := by decide +kernel
theorem dX0_setMarks_5 : decode cX0_setMarks 5 = .ok (.ifCond .eq 10, 3) := by decide +kernel
theorem dX0_setMarks_8 : decode cX0_setMarks 8 = .ok (.aload_n 0, 1) := by decide +kernel
theorem dX0_setMarks_9 : decode cX0_setMarks 9 = .ok (.getfield 15, 3) := by decide +kernel
theorem dX0_setMarks_12 : decode cX0_setMarks 12 = .ok (.iload_n 1, 1) := by decide +kernel
theorem dX0_setMarks_13 : decode cX0_setMarks 13 = .ok (.iload_n 2, 1) := by decide +kernel
theorem dX0_setMarks_14 : decode cX0_setMarks 14 = .ok (.iastore, 1) := by decide +kernel
theorem dX0_setMarks_15 : decode cX0_setMarks 15 = .ok (.return_, 1) := by decide +kernel
set_option maxRecDepth 20000 in
theorem ggX0_marks_X0_hasPlace : GoodIn wsX0_marks wsX0_hasPlace := goodIn_r _ [6, 7, 8, 9, 10, 11, 12] (by decide +kernel) (by decide +kernel)
set_option maxRecDepth 20000 in
theorem gX0_marks_X0_hasPlace : GoodIn wsX0_marks (wsV RX0 42 RX0 yX0_hasPlace wsX0_hasPlace) := goodIn_app (goodIn_of _ (by decide +kernel)) ggX0_marks_X0_hasPlace
theorem dX0_marks_0 : decode cX0_marks 0 = .ok (.aload_n 0, 1) := by decide +kernel
theorem dX0_marks_1 : decode cX0_marks 1 = .ok (.iload_n 1, 1) := by decide +kernel
theorem dX0_marks_2 : decode cX0_marks 2 = .ok (.invokevirtual 42, 3) := by decide +kernel
theorem dX0_marks_5 : decode cX0_marks 5 = .ok (.ifCond .eq 12, 3) := by decide +kernel
theorem dX0_marks_8 : decode cX0_marks 8 = .ok (.aload_n 0, 1) := by decide +kernel
theorem dX0_marks_9 : decode cX0_marks 9 = .ok (.getfield 15, 3) := by decide +kernel
theorem dX0_marks_12 : decode cX0_marks 12 = .ok (.iload_n 1, 1) := by decide +kernel
theorem dX0_marks_13 : decode cX0_marks 13 = .ok (.iaload, 1) := by decide +kernel
theorem dX0_marks_14 : decode cX0_marks 14 = .ok (.goto 4, 3) := by decide +kernel
theorem dX0_marks_17 : decode cX0_marks 17 = .ok (.iconst 0, 1) := by decide +kernel
theorem dX0_marks_18 : decode cX0_marks 18 = .ok (.ireturn, 1) := by decide +kernel
theorem dX1_init_0 : decode cX1_init 0 = .ok (.aload_n 0, 1) := by decide +kernel
theorem dX1_init_1 : decode cX1_init 1 = .ok (.invokespecial 3, 3) := by decide +kernel
theorem dX1_init_4 : decode cX1_init 4 = .ok (.aload_n 0, 1) := by decide +kernel
theorem dX1_init_5 : decode cX1_init 5 = .ok (.bipush 6, 2) := by decide +kernel
theorem dX1_init_7 : decode cX1_init 7 = .ok (.newarray .int, 2) := by decide +kernel
theorem dX1_init_9 : decode cX1_init 9 = .ok (.putfield 9, 3) := by decide +kernel
theorem dX1_init_12 : decode cX1_init 12 = .ok (.aload_n 0, 1) := by decide +kernel
theorem dX1_init_13 : decode cX1_init 13 = .ok (.bipush 6, 2) := by decide +kernel
theorem dX1_init_15 : decode cX1_init 15 = .ok (.newarray .int, 2) := by decide +kernel
theorem dX1_init_17 : decode cX1_init 17 = .ok (.putfield 15, 3) := by decide +kernel
theorem dX1_init_20 : decode cX1_init 20 = .ok (.aload_n 0, 1) := by decide +kernel
theorem dX1_init_21 : decode cX1_init 21 = .ok (.bipush 6, 2) := by decide +kernel
theorem dX1_init_23 : decode cX1_init 23 = .ok (.newarray .int, 2) := by decide +kernel
theorem dX1_init_25 : decode cX1_init 25 = .ok (.putfield 18, 3) := by decide +kernel
theorem dX1_init_28 : decode cX1_init 28 = .ok (.aload_n 0, 1) := by decide +kernel
theorem dX1_init_29 : decode cX1_init 29 = .ok (.bipush 9, 2) := by decide +kernel
theorem dX1_init_31 : decode cX1_init 31 = .ok (.newarray .int, 2) := by decide +kernel
theorem dX1_init_33 : decode cX1_init 33 = .ok (.putfield 21, 3) := by decide +kernel
theorem dX1_init_36 : decode cX1_init 36 = .ok (.return_, 1) := by decide +kernel
set_option maxRecDepth 20000 in
theorem ggX1_clear_J7_fill_53178 : GoodIn wsX1_clear wsJ7_fill_53178 := goodIn_r _ [8] (by decide +kernel) (by decide +kernel)
set_option maxRecDepth 20000 in
theorem gX1_clear_J7_fill_53178 : GoodIn wsX1_clear (va_wsS RX1 24 yJ7_fill_53178 wsJ7_fill_53178) := goodIn_app (goodIn_of _ (by decide +kernel)) ggX1_clear_J7_fill_53178
theorem dX1_clear_0 : decode cX1_clear 0 = .ok (.aload_n 0, 1) := by decide +kernel
theorem dX1_clear_1 : decode cX1_clear 1 = .ok (.getfield 9, 3) := by decide +kernel
theorem dX1_clear_4 : decode cX1_clear 4 = .ok (.iconst 0, 1) := by decide +kernel
theorem dX1_clear_5 : decode cX1_clear 5 = .ok (.invokestatic 24, 3) := by decide +kernel
theorem dX1_clear_8 : decode cX1_clear 8 = .ok (.aload_n 0, 1) := by decide +kernel
theorem dX1_clear_9 : decode cX1_clear 9 = .ok (.getfield 15, 3) := by decide +kernel
theorem dX1_clear_12 : decode cX1_clear 12 = .ok (.iconst 0, 1) := by decide +kernel
theorem dX1_clear_13 : decode cX1_clear 13 = .ok (.invokestatic 24, 3) := by decide +kernel
theorem dX1_clear_16 : decode cX1_clear 16 = .ok (.aload_n 0, 1) := by decide +kernel
theorem dX1_clear_17 : decode cX1_clear 17 = .ok (.getfield 18, 3) := by decide +kernel
theorem dX1_clear_20 : decode cX1_clear 20 = .ok (.iconst 0, 1) := by decide +kernel
theorem dX1_clear_21 : decode cX1_clear 21 = .ok (.invokestatic 24, 3) := by decide +kernel
theorem dX1_clear_24 : decode cX1_clear 24 = .ok (.aload_n 0, 1) := by decide +kernel
theorem dX1_clear_25 : decode cX1_clear 25 = .ok (.getfield 21, 3) := by decide +kernel
theorem dX1_clear_28 : decode cX1_clear 28 = .ok (.iconst 0, 1) := by decide +kernel
theorem dX1_clear_29 : decode cX1_clear 29 = .ok (.invokestatic 24, 3) := by decide +kernel
theorem dX1_clear_32 : decode cX1_clear 32 = .ok (.return_, 1) := by decide +kernel
set_option maxRecDepth 20000 in
theorem ggX1_replace_X1_addTouches : GoodIn wsX1_replace wsX1_addTouches := goodIn_r _ [8, 9, 10, 11, 12, 13, 14, 15, 16] (by decide +kernel) (by decide +kernel)
set_option maxRecDepth 20000 in
theorem gX1_replace_X1_addTouches : GoodIn wsX1_replace (wsV RX1 30 RX1 yX1_addTouches wsX1_addTouches) := goodIn_app (goodIn_of _ (by decide +kernel)) ggX1_replace_X1_addTouches
theorem dX1_replace_0 : decode cX1_replace 0 = .ok (.iload_n 1, 1) := by decide +kernel
theorem dX1_replace_1 : decode cX1_replace 1 = .ok (.ifCond .lt 9, 3) := by decide +kernel
theorem dX1_replace_4 : decode cX1_replace 4 = .ok (.iload_n 1, 1) := by decide +kernel
theorem dX1_replace_5 : decode cX1_replace 5 = .ok (.bipush 6, 2) := by decide +kernel
theorem dX1_replace_7 : decode cX1_replace 7 = .ok (.if_icmp .lt 4, 3) := by decide +kernel
theorem dX1_replace_10 : decode cX1_replace 10 = .ok (.return_, 1) := by decide +kernel
theorem dX1_replace_11 : decode cX1_replace 11 = .ok (.aload_n 0, 1) := by decide +kernel
theorem dX1_replace_12 : decode cX1_replace 12 = .ok (.aload_n 0, 1) := by decide +kernel
theorem dX1_replace_13 : decode cX1_replace 13 = .ok (.getfield 9, 3) := by decide +kernel
theorem dX1_replace_16 : decode cX1_replace 16 = .ok (.iload_n 1, 1) := by decide +kernel
theorem dX1_replace_17 : decode cX1_replace 17 = .ok (.iaload, 1) := by decide +kernel
theorem dX1_replace_18 : decode cX1_replace 18 = .ok (.ineg, 1) := by decide +kernel
theorem dX1_replace_19 : decode cX1_replace 19 = .ok (.aload_n 0, 1) := by decide +kernel
theorem dX1_replace_20 : decode cX1_replace 20 = .ok (.getfield 15, 3) := by decide +kernel
theorem dX1_replace_23 : decode cX1_replace 23 = .ok (.iload_n 1, 1) := by decide +kernel
theorem dX1_replace_24 : decode cX1_replace 24 = .ok (.iaload, 1) := by decide +kernel
theorem dX1_replace_25 : decode cX1_replace 25 = .ok (.aload_n 0, 1) := by decide +kernel
theorem dX1_replace_26 : decode cX1_replace 26 = .ok (.getfield 18, 3) := by decide +kernel
theorem dX1_replace_29 : decode cX1_replace 29 = .ok (.iload_n 1, 1) := by decide +kernel
theorem dX1_replace_30 : decode cX1_replace 30 = .ok (.iaload, 1) := by decide +kernel
theorem dX1_replace_31 : decode cX1_replace 31 = .ok (.invokevirtual 30, 3) := by decide +kernel
theorem dX1_replace_34 : decode cX1_replace 34 = .ok (.aload_n 0, 1) := by decide +kernel
theorem dX1_replace_35 : decode cX1_replace 35 = .ok (.getfield 9, 3) := by decide +kernel
theorem dX1_replace_38 : decode cX1_replace 38 = .ok (.iload_n 1, 1) := by decide +kernel
theorem dX1_replace_39 : decode cX1_replace 39 = .ok (.iload_n 2, 1) := by decide +kernel
theorem dX1_replace_40 : decode cX1_replace 40 = .ok (.iastore, 1) := by decide +kernel
theorem dX1_replace_41 : decode cX1_replace 41 = .ok (.aload_n 0, 1) := by decide +kernel
theorem dX1_replace_42 : decode cX1_replace 42 = .ok (.getfield 15, 3) := by decide +kernel
theorem dX1_replace_45 : decode cX1_replace 45 = .ok (.iload_n 1, 1) := by decide +kernel
theorem dX1_replace_46 : decode cX1_replace 46 = .ok (.iload_n 3, 1) := by decide +kernel
theorem dX1_replace_47 : decode cX1_replace 47 = .ok (.iastore, 1) := by decide +kernel
theorem dX1_replace_48 : decode cX1_replace 48 = .ok (.aload_n 0, 1) := by decide +kernel
theorem dX1_replace_49 : decode cX1_replace 49 = .ok (.getfield 18, 3) := by decide +kernel
theorem dX1_replace_52 : decode cX1_replace 52 = .ok (.iload_n 1, 1) := by decide +kernel
theorem dX1_replace_53 : decode cX1_replace 53 = .ok (.iload 4, 2) := by decide +kernel
theorem dX1_replace_55 : decode cX1_replace 55 = .ok (.iastore, 1) := by decide +kernel
theorem dX1_replace_56 : decode cX1_replace 56 = .ok (.aload_n 0, 1) := by decide +kernel
theorem dX1_replace_57 : decode cX1_replace 57 = .ok (.iload_n 2, 1) := by decide +kernel
theorem dX1_replace_58 : decode cX1_replace 58 = .ok (.iload_n 3, 1) := by decide +kernel
theorem dX1_replace_59 : decode cX1_replace 59 = .ok (.iload 4, 2) := by decide +kernel
theorem dX1_replace_61 : decode cX1_replace 61 = .ok (.invokevirtual 30, 3) := by decide +kernel
theorem dX1_replace_64 : decode cX1_replace 64 = .ok (.return_, 1) := by decide +kernel
set_option maxRecDepth 20000 in
theorem ggX1_touchesOf_X4_has : GoodIn wsX1_touchesOf wsX4_has := goodIn_r _ [4] (by decide +kernel) (by decide +kernel)
set_option maxRecDepth 20000 in
theorem gX1_touchesOf_X4_has_n34 : GoodIn wsX1_touchesOf (wsX4_has) := ggX1_touchesOf_X4_has
theorem dX1_touchesOf_0 : decode cX1_touchesOf 0 = .ok (.iconst 0, 1) := by decide +kernel
theorem dX1_touchesOf_1 : decode cX1_touchesOf 1 = .ok (.istore_n 2, 1) := by decide +kernel
theorem dX1_touchesOf_2 : decode cX1_touchesOf 2 = .ok (.iconst 0, 1) := by decide +kernel
theorem dX1_touchesOf_3 : decode cX1_touchesOf 3 = .ok (.istore_n 3, 1) := by decide +kernel
theorem dX1_touchesOf_4 : decode cX1_touchesOf 4 = .ok (.iload_n 3, 1) := by decide +kernel
theorem dX1_touchesOf_5 : decode cX1_touchesOf 5 = .ok (.bipush 9, 2) := by decide +kernel
theorem dX1_touchesOf_7 : decode cX1_touchesOf 7 = .ok (.if_icmp .ge 26, 3) := by decide +kernel
theorem dX1_touchesOf_10 : decode cX1_touchesOf 10 = .ok (.iload_n 1, 1) := by decide +kernel
theorem dX1_touchesOf_11 : decode cX1_touchesOf 11 = .ok (.iload_n 3, 1) := by decide +kernel
theorem dX1_touchesOf_12 : decode cX1_touchesOf 12 = .ok (.invokestatic 34, 3) := by decide +kernel
theorem dX1_touchesOf_15 : decode cX1_touchesOf 15 = .ok (.ifCond .eq 12, 3) := by decide +kernel
theorem dX1_touchesOf_18 : decode cX1_touchesOf 18 = .ok (.iload_n 2, 1) := by decide +kernel
theorem dX1_touchesOf_19 : decode cX1_touchesOf 19 = .ok (.aload_n 0, 1) := by decide +kernel
theorem dX1_touchesOf_20 : decode cX1_touchesOf 20 = .ok (.getfield 21, 3) := by decide +kernel
theorem dX1_touchesOf_23 : decode cX1_touchesOf 23 = .ok (.iload_n 3, 1) := by decide +kernel
theorem dX1_touchesOf_24 : decode cX1_touchesOf 24 = .ok (.iaload, 1) := by decide +kernel
theorem dX1_touchesOf_25 : decode cX1_touchesOf 25 = .ok (.iadd, 1) := by decide +kernel
theorem dX1_touchesOf_26 : decode cX1_touchesOf 26 = .ok (.istore_n 2, 1) := by decide +kernel
theorem dX1_touchesOf_27 : decode cX1_touchesOf 27 = .ok (.iinc 3 1, 3) := by decide +kernel
theorem dX1_touchesOf_30 : decode cX1_touchesOf 30 = .ok (.goto (-26), 3) := by decide +kernel
theorem dX1_touchesOf_33 : decode cX1_touchesOf 33 = .ok (.iload_n 2, 1) := by decide +kernel
theorem dX1_touchesOf_34 : decode cX1_touchesOf 34 = .ok (.ireturn, 1) := by decide +kernel
set_option maxRecDepth 20000 in
theorem ggX1_addTouches_X4_placeInRow : GoodIn wsX1_addTouches wsX4_placeInRow := goodIn_r _ [4] (by decide +kernel) (by decide +kernel)
set_option maxRecDepth 20000 in
theorem gX1_addTouches_X4_placeInRow_n38 : GoodIn wsX1_addTouches (wsX4_placeInRow) := ggX1_addTouches_X4_placeInRow
theorem dX1_addTouches_0 : decode cX1_addTouches 0 = .ok (.iconst 0, 1) := by decide +kernel
theorem dX1_addTouches_1 : decode cX1_addTouches 1 = .ok (.istore 4, 2) := by decide +kernel
theorem dX1_addTouches_3 : decode cX1_addTouches 3 = .ok (.iload 4, 2) := by decide +kernel
theorem dX1_addTouches_5 : decode cX1_addTouches 5 = .ok (.iload_n 2, 1) := by decide +kernel
theorem dX1_addTouches_6 : decode cX1_addTouches 6 = .ok (.if_icmp .ge 42, 3) := by decide +kernel
theorem dX1_addTouches_9 : decode cX1_addTouches 9 = .ok (.iload 4, 2) := by decide +kernel
theorem dX1_addTouches_11 : decode cX1_addTouches 11 = .ok (.bipush 8, 2) := by decide +kernel
theorem dX1_addTouches_13 : decode cX1_addTouches 13 = .ok (.if_icmp .ge 35, 3) := by decide +kernel
theorem dX1_addTouches_16 : decode cX1_addTouches 16 = .ok (.iload_n 3, 1) := by decide +kernel
theorem dX1_addTouches_17 : decode cX1_addTouches 17 = .ok (.iload 4, 2) := by decide +kernel
theorem dX1_addTouches_19 : decode cX1_addTouches 19 = .ok (.invokestatic 38, 3) := by decide +kernel
theorem dX1_addTouches_22 : decode cX1_addTouches 22 = .ok (.istore 5, 2) := by decide +kernel
theorem dX1_addTouches_24 : decode cX1_addTouches 24 = .ok (.iload 5, 2) := by decide +kernel
theorem dX1_addTouches_26 : decode cX1_addTouches 26 = .ok (.bipush 9, 2) := by decide +kernel
theorem dX1_addTouches_28 : decode cX1_addTouches 28 = .ok (.if_icmp .ge 14, 3) := by decide +kernel
theorem dX1_addTouches_31 : decode cX1_addTouches 31 = .ok (.aload_n 0, 1) := by decide +kernel
theorem dX1_addTouches_32 : decode cX1_addTouches 32 = .ok (.getfield 21, 3) := by decide +kernel
theorem dX1_addTouches_35 : decode cX1_addTouches 35 = .ok (.iload 5, 2) := by decide +kernel
theorem dX1_addTouches_37 : decode cX1_addTouches 37 = .ok (.dup2, 1) := by decide +kernel
theorem dX1_addTouches_38 : decode cX1_addTouches 38 = .ok (.iaload, 1) := by decide +kernel
theorem dX1_addTouches_39 : decode cX1_addTouches 39 = .ok (.iload_n 1, 1) := by decide +kernel
theorem dX1_addTouches_40 : decode cX1_addTouches 40 = .ok (.iadd, 1) := by decide +kernel
theorem dX1_addTouches_41 : decode cX1_addTouches 41 = .ok (.iastore, 1) := by decide +kernel
theorem dX1_addTouches_42 : decode cX1_addTouches 42 = .ok (.iinc 4 1, 3) := by decide +kernel
theorem dX1_addTouches_45 : decode cX1_addTouches 45 = .ok (.goto (-42), 3) := by decide +kernel
theorem dX1_addTouches_48 : decode cX1_addTouches 48 = .ok (.return_, 1) := by decide +kernel
theorem dX2_init_0 : decode cX2_init 0 = .ok (.aload_n 0, 1) := by decide +kernel
theorem dX2_init_1 : decode cX2_init 1 = .ok (.invokespecial 3, 3) := by decide +kernel
theorem dX2_init_4 : decode cX2_init 4 = .ok (.aload_n 0, 1) := by decide +kernel
theorem dX2_init_5 : decode cX2_init 5 = .ok (.bipush 6, 2) := by decide +kernel
theorem dX2_init_7 : decode cX2_init 7 = .ok (.newarray .int, 2) := by decide +kernel
theorem dX2_init_9 : decode cX2_init 9 = .ok (.putfield 9, 3) := by decide +kernel
theorem dX2_init_12 : decode cX2_init 12 = .ok (.aload_n 0, 1) := by decide +kernel
theorem dX2_init_13 : decode cX2_init 13 = .ok (.bipush 9, 2) := by decide +kernel
theorem dX2_init_15 : decode cX2_init 15 = .ok (.newarray .int, 2) := by decide +kernel
theorem dX2_init_17 : decode cX2_init 17 = .ok (.putfield 15, 3) := by decide +kernel
theorem dX2_init_20 : decode cX2_init 20 = .ok (.aload_n 0, 1) := by decide +kernel
theorem dX2_init_21 : decode cX2_init 21 = .ok (.bipush 9, 2) := by decide +kernel
theorem dX2_init_23 : decode cX2_init 23 = .ok (.newarray .int, 2) := by decide +kernel
theorem dX2_init_25 : decode cX2_init 25 = .ok (.putfield 18, 3) := by decide +kernel
theorem dX2_init_28 : decode cX2_init 28 = .ok (.return_, 1) := by decide +kernel
set_option maxRecDepth 20000 in
theorem ggX2_clear_J7_fill_53178 : GoodIn wsX2_clear wsJ7_fill_53178 := goodIn_r _ [10] (by decide +kernel) (by decide +kernel)
set_option maxRecDepth 20000 in
theorem gX2_clear_J7_fill_53178 : GoodIn wsX2_clear (va_wsS RX2 21 yJ7_fill_53178 wsJ7_fill_53178) := goodIn_app (goodIn_of _ (by decide +kernel)) ggX2_clear_J7_fill_53178
theorem dX2_clear_0 : decode cX2_clear 0 = .ok (.aload_n 0, 1) := by decide +kernel
theorem dX2_clear_1 : decode cX2_clear 1 = .ok (.getfield 15, 3) := by decide +kernel
theorem dX2_clear_4 : decode cX2_clear 4 = .ok (.iconst 0, 1) := by decide +kernel
theorem dX2_clear_5 : decode cX2_clear 5 = .ok (.invokestatic 21, 3) := by decide +kernel
theorem dX2_clear_8 : decode cX2_clear 8 = .ok (.aload_n 0, 1) := by decide +kernel
theorem dX2_clear_9 : decode cX2_clear 9 = .ok (.getfield 18, 3) := by decide +kernel
theorem dX2_clear_12 : decode cX2_clear 12 = .ok (.iconst 0, 1) := by decide +kernel
theorem dX2_clear_13 : decode cX2_clear 13 = .ok (.invokestatic 21, 3) := by decide +kernel
theorem dX2_clear_16 : decode cX2_clear 16 = .ok (.aload_n 0, 1) := by decide +kernel
theorem dX2_clear_17 : decode cX2_clear 17 = .ok (.iconst 0, 1) := by decide +kernel
theorem dX2_clear_18 : decode cX2_clear 18 = .ok (.putfield 27, 3) := by decide +kernel
theorem dX2_clear_21 : decode cX2_clear 21 = .ok (.aload_n 0, 1) := by decide +kernel
theorem dX2_clear_22 : decode cX2_clear 22 = .ok (.iconst 0, 1) := by decide +kernel
theorem dX2_clear_23 : decode cX2_clear 23 = .ok (.putfield 31, 3) := by decide +kernel
theorem dX2_clear_26 : decode cX2_clear 26 = .ok (.aload_n 0, 1) := by decide +kernel
theorem dX2_clear_27 : decode cX2_clear 27 = .ok (.iconst 0, 1) := by decide +kernel
theorem dX2_clear_28 : decode cX2_clear 28 = .ok (.putfield 34, 3) := by decide +kernel
theorem dX2_clear_31 : decode cX2_clear 31 = .ok (.aload_n 0, 1) := by decide +kernel
theorem dX2_clear_32 : decode cX2_clear 32 = .ok (.iconst 3, 1) := by decide +kernel
theorem dX2_clear_33 : decode cX2_clear 33 = .ok (.putfield 37, 3) := by decide +kernel
theorem dX2_clear_36 : decode cX2_clear 36 = .ok (.return_, 1) := by decide +kernel
theorem dX2_decoySet_0 : decode cX2_decoySet 0 = .ok (.aload_n 0, 1) := by decide +kernel
theorem dX2_decoySet_1 : decode cX2_decoySet 1 = .ok (.getfield 27, 3) := by decide +kernel
theorem dX2_decoySet_4 : decode cX2_decoySet 4 = .ok (.ireturn, 1) := by decide +kernel
theorem dX2_touchCount_0 : decode cX2_touchCount 0 = .ok (.aload_n 0, 1) := by decide +kernel
theorem dX2_touchCount_1 : decode cX2_touchCount 1 = .ok (.getfield 31, 3) := by decide +kernel
theorem dX2_touchCount_4 : decode cX2_touchCount 4 = .ok (.ireturn, 1) := by decide +kernel
theorem dX2_today_0 : decode cX2_today 0 = .ok (.aload_n 0, 1) := by decide +kernel
theorem dX2_today_1 : decode cX2_today 1 = .ok (.getfield 34, 3) := by decide +kernel
theorem dX2_today_4 : decode cX2_today 4 = .ok (.ireturn, 1) := by decide +kernel
theorem dX2_bears_0 : decode cX2_bears 0 = .ok (.aload_n 0, 1) := by decide +kernel
theorem dX2_bears_1 : decode cX2_bears 1 = .ok (.getfield 37, 3) := by decide +kernel
theorem dX2_bears_4 : decode cX2_bears 4 = .ok (.ireturn, 1) := by decide +kernel
theorem dX2_setBears_0 : decode cX2_setBears 0 = .ok (.aload_n 0, 1) := by decide +kernel
theorem dX2_setBears_1 : decode cX2_setBears 1 = .ok (.iload_n 1, 1) := by decide +kernel
theorem dX2_setBears_2 : decode cX2_setBears 2 = .ok (.putfield 37, 3) := by decide +kernel
theorem dX2_setBears_5 : decode cX2_setBears 5 = .ok (.return_, 1) := by decide +kernel
set_option maxRecDepth 20000 in
theorem ggX2_knownSet_X4_setOf : GoodIn wsX2_knownSet wsX4_setOf := goodIn_r _ [5] (by decide +kernel) (by decide +kernel)
set_option maxRecDepth 20000 in
theorem gX2_knownSet_X4_setOf_n40 : GoodIn wsX2_knownSet (wsX4_setOf) := ggX2_knownSet_X4_setOf
theorem dX2_knownSet_0 : decode cX2_knownSet 0 = .ok (.iconst 0, 1) := by decide +kernel
theorem dX2_knownSet_1 : decode cX2_knownSet 1 = .ok (.istore_n 1, 1) := by decide +kernel
theorem dX2_knownSet_2 : decode cX2_knownSet 2 = .ok (.iconst 0, 1) := by decide +kernel
theorem dX2_knownSet_3 : decode cX2_knownSet 3 = .ok (.istore_n 2, 1) := by decide +kernel
theorem dX2_knownSet_4 : decode cX2_knownSet 4 = .ok (.iload_n 2, 1) := by decide +kernel
theorem dX2_knownSet_5 : decode cX2_knownSet 5 = .ok (.bipush 9, 2) := by decide +kernel
theorem dX2_knownSet_7 : decode cX2_knownSet 7 = .ok (.if_icmp .ge 29, 3) := by decide +kernel
theorem dX2_knownSet_10 : decode cX2_knownSet 10 = .ok (.aload_n 0, 1) := by decide +kernel
theorem dX2_knownSet_11 : decode cX2_knownSet 11 = .ok (.getfield 34, 3) := by decide +kernel
theorem dX2_knownSet_14 : decode cX2_knownSet 14 = .ok (.aload_n 0, 1) := by decide +kernel
theorem dX2_knownSet_15 : decode cX2_knownSet 15 = .ok (.getfield 18, 3) := by decide +kernel
theorem dX2_knownSet_18 : decode cX2_knownSet 18 = .ok (.iload_n 2, 1) := by decide +kernel
theorem dX2_knownSet_19 : decode cX2_knownSet 19 = .ok (.iaload, 1) := by decide +kernel
theorem dX2_knownSet_20 : decode cX2_knownSet 20 = .ok (.if_icmp .ge 10, 3) := by decide +kernel
theorem dX2_knownSet_23 : decode cX2_knownSet 23 = .ok (.iload_n 1, 1) := by decide +kernel
theorem dX2_knownSet_24 : decode cX2_knownSet 24 = .ok (.iload_n 2, 1) := by decide +kernel
theorem dX2_knownSet_25 : decode cX2_knownSet 25 = .ok (.invokestatic 40, 3) := by decide +kernel
theorem dX2_knownSet_28 : decode cX2_knownSet 28 = .ok (.ior, 1) := by decide +kernel
theorem dX2_knownSet_29 : decode cX2_knownSet 29 = .ok (.istore_n 1, 1) := by decide +kernel
theorem dX2_knownSet_30 : decode cX2_knownSet 30 = .ok (.iinc 2 1, 3) := by decide +kernel
theorem dX2_knownSet_33 : decode cX2_knownSet 33 = .ok (.goto (-29), 3) := by decide +kernel
theorem dX2_knownSet_36 : decode cX2_knownSet 36 = .ok (.iload_n 1, 1) := by decide +kernel
theorem dX2_knownSet_37 : decode cX2_knownSet 37 = .ok (.ireturn, 1) := by decide +kernel
theorem dX2_talesOf_0 : decode cX2_talesOf 0 = .ok (.iload_n 1, 1) := by decide +kernel
theorem dX2_talesOf_1 : decode cX2_talesOf 1 = .ok (.ifCond .lt 18, 3) := by decide +kernel
theorem dX2_talesOf_4 : decode cX2_talesOf 4 = .ok (.iload_n 1, 1) := by decide +kernel
theorem dX2_talesOf_5 : decode cX2_talesOf 5 = .ok (.bipush 9, 2) := by decide +kernel
theorem dX2_talesOf_7 : decode cX2_talesOf 7 = .ok (.if_icmp .ge 12, 3) := by decide +kernel
theorem dX2_talesOf_10 : decode cX2_talesOf 10 = .ok (.aload_n 0, 1) := by decide +kernel
theorem dX2_talesOf_11 : decode cX2_talesOf 11 = .ok (.getfield 15, 3) := by decide +kernel
theorem dX2_talesOf_14 : decode cX2_talesOf 14 = .ok (.iload_n 1, 1) := by decide +kernel
theorem dX2_talesOf_15 : decode cX2_talesOf 15 = .ok (.iaload, 1) := by decide +kernel
theorem dX2_talesOf_16 : decode cX2_talesOf 16 = .ok (.goto 4, 3) := by decide +kernel
theorem dX2_talesOf_19 : decode cX2_talesOf 19 = .ok (.iconst 0, 1) := by decide +kernel
theorem dX2_talesOf_20 : decode cX2_talesOf 20 = .ok (.ireturn, 1) := by decide +kernel
theorem dX2_passDay_0 : decode cX2_passDay 0 = .ok (.aload_n 0, 1) := by decide +kernel
theorem dX2_passDay_1 : decode cX2_passDay 1 = .ok (.getfield 34, 3) := by decide +kernel
theorem dX2_passDay_4 : decode cX2_passDay 4 = .ok (.sipush 10000, 3) := by decide +kernel
theorem dX2_passDay_7 : decode cX2_passDay 7 = .ok (.if_icmp .lt 5, 3) := by decide +kernel
theorem dX2_passDay_10 : decode cX2_passDay 10 = .ok (.iconst (-1), 1) := by decide +kernel
theorem dX2_passDay_11 : decode cX2_passDay 11 = .ok (.ireturn, 1) := by decide +kernel
theorem dX2_passDay_12 : decode cX2_passDay 12 = .ok (.aload_n 0, 1) := by decide +kernel
theorem dX2_passDay_13 : decode cX2_passDay 13 = .ok (.dup, 1) := by decide +kernel
theorem dX2_passDay_14 : decode cX2_passDay 14 = .ok (.getfield 34, 3) := by decide +kernel
theorem dX2_passDay_17 : decode cX2_passDay 17 = .ok (.iconst 1, 1) := by decide +kernel
theorem dX2_passDay_18 : decode cX2_passDay 18 = .ok (.iadd, 1) := by decide +kernel
theorem dX2_passDay_19 : decode cX2_passDay 19 = .ok (.putfield 34, 3) := by decide +kernel
theorem dX2_passDay_22 : decode cX2_passDay 22 = .ok (.aload_n 0, 1) := by decide +kernel
theorem dX2_passDay_23 : decode cX2_passDay 23 = .ok (.getfield 34, 3) := by decide +kernel
theorem dX2_passDay_26 : decode cX2_passDay 26 = .ok (.ireturn, 1) := by decide +kernel
set_option maxRecDepth 20000 in
theorem ggX2_layDecoys_X4_has : GoodIn wsX2_layDecoys wsX4_has := goodIn_r _ [6] (by decide +kernel) (by decide +kernel)
set_option maxRecDepth 20000 in
theorem gX2_layDecoys_X4_has_n44 : GoodIn wsX2_layDecoys (wsX4_has) := ggX2_layDecoys_X4_has
theorem dX2_layDecoys_0 : decode cX2_layDecoys 0 = .ok (.iconst 0, 1) := by decide +kernel
theorem dX2_layDecoys_1 : decode cX2_layDecoys 1 = .ok (.istore_n 2, 1) := by decide +kernel
theorem dX2_layDecoys_2 : decode cX2_layDecoys 2 = .ok (.iload_n 2, 1) := by decide +kernel
theorem dX2_layDecoys_3 : decode cX2_layDecoys 3 = .ok (.bipush 9, 2) := by decide +kernel
theorem dX2_layDecoys_5 : decode cX2_layDecoys 5 = .ok (.if_icmp .ge 29, 3) := by decide +kernel
theorem dX2_layDecoys_8 : decode cX2_layDecoys 8 = .ok (.iload_n 1, 1) := by decide +kernel
theorem dX2_layDecoys_9 : decode cX2_layDecoys 9 = .ok (.aload_n 0, 1) := by decide +kernel
theorem dX2_layDecoys_10 : decode cX2_layDecoys 10 = .ok (.getfield 27, 3) := by decide +kernel
theorem dX2_layDecoys_13 : decode cX2_layDecoys 13 = .ok (.iand, 1) := by decide +kernel
theorem dX2_layDecoys_14 : decode cX2_layDecoys 14 = .ok (.iload_n 2, 1) := by decide +kernel
theorem dX2_layDecoys_15 : decode cX2_layDecoys 15 = .ok (.invokestatic 44, 3) := by decide +kernel
theorem dX2_layDecoys_18 : decode cX2_layDecoys 18 = .ok (.ifCond .ne 10, 3) := by decide +kernel
theorem dX2_layDecoys_21 : decode cX2_layDecoys 21 = .ok (.aload_n 0, 1) := by decide +kernel
theorem dX2_layDecoys_22 : decode cX2_layDecoys 22 = .ok (.getfield 15, 3) := by decide +kernel
theorem dX2_layDecoys_25 : decode cX2_layDecoys 25 = .ok (.iload_n 2, 1) := by decide +kernel
theorem dX2_layDecoys_26 : decode cX2_layDecoys 26 = .ok (.iconst 0, 1) := by decide +kernel
theorem dX2_layDecoys_27 : decode cX2_layDecoys 27 = .ok (.iastore, 1) := by decide +kernel
theorem dX2_layDecoys_28 : decode cX2_layDecoys 28 = .ok (.iinc 2 1, 3) := by decide +kernel
theorem dX2_layDecoys_31 : decode cX2_layDecoys 31 = .ok (.goto (-29), 3) := by decide +kernel
theorem dX2_layDecoys_34 : decode cX2_layDecoys 34 = .ok (.aload_n 0, 1) := by decide +kernel
theorem dX2_layDecoys_35 : decode cX2_layDecoys 35 = .ok (.iload_n 1, 1) := by decide +kernel
theorem dX2_layDecoys_36 : decode cX2_layDecoys 36 = .ok (.putfield 27, 3) := by decide +kernel
theorem dX2_layDecoys_39 : decode cX2_layDecoys 39 = .ok (.aload_n 0, 1) := by decide +kernel
theorem dX2_layDecoys_40 : decode cX2_layDecoys 40 = .ok (.iconst 0, 1) := by decide +kernel
theorem dX2_layDecoys_41 : decode cX2_layDecoys 41 = .ok (.putfield 31, 3) := by decide +kernel
theorem dX2_layDecoys_44 : decode cX2_layDecoys 44 = .ok (.return_, 1) := by decide +kernel
set_option maxRecDepth 20000 in
theorem ggX2_noteTouch_X4_has : GoodIn wsX2_noteTouch wsX4_has := goodIn_r _ [6] (by decide +kernel) (by decide +kernel)
set_option maxRecDepth 20000 in
theorem gX2_noteTouch_X4_has_n44 : GoodIn wsX2_noteTouch (wsX4_has) := ggX2_noteTouch_X4_has
set_option maxRecDepth 20000 in
theorem ggX2_noteTouch_X2_wasTouched : GoodIn wsX2_noteTouch wsX2_wasTouched := goodIn_r _ [11, 2, 3, 12, 13, 14, 15, 16, 17, 18] (by decide +kernel) (by decide +kernel)
set_option maxRecDepth 20000 in
theorem gX2_noteTouch_X2_wasTouched : GoodIn wsX2_noteTouch (wsV RX2 48 RX2 yX2_wasTouched wsX2_wasTouched) := goodIn_app (goodIn_of _ (by decide +kernel)) ggX2_noteTouch_X2_wasTouched
theorem dX2_noteTouch_0 : decode cX2_noteTouch 0 = .ok (.aload_n 0, 1) := by decide +kernel
theorem dX2_noteTouch_1 : decode cX2_noteTouch 1 = .ok (.getfield 27, 3) := by decide +kernel
theorem dX2_noteTouch_4 : decode cX2_noteTouch 4 = .ok (.iload_n 1, 1) := by decide +kernel
theorem dX2_noteTouch_5 : decode cX2_noteTouch 5 = .ok (.invokestatic 44, 3) := by decide +kernel
theorem dX2_noteTouch_8 : decode cX2_noteTouch 8 = .ok (.ifCond .eq 27, 3) := by decide +kernel
theorem dX2_noteTouch_11 : decode cX2_noteTouch 11 = .ok (.aload_n 0, 1) := by decide +kernel
theorem dX2_noteTouch_12 : decode cX2_noteTouch 12 = .ok (.getfield 31, 3) := by decide +kernel
theorem dX2_noteTouch_15 : decode cX2_noteTouch 15 = .ok (.ifCond .lt 20, 3) := by decide +kernel
theorem dX2_noteTouch_18 : decode cX2_noteTouch 18 = .ok (.aload_n 0, 1) := by decide +kernel
theorem dX2_noteTouch_19 : decode cX2_noteTouch 19 = .ok (.getfield 31, 3) := by decide +kernel
theorem dX2_noteTouch_22 : decode cX2_noteTouch 22 = .ok (.bipush 6, 2) := by decide +kernel
theorem dX2_noteTouch_24 : decode cX2_noteTouch 24 = .ok (.if_icmp .ge 11, 3) := by decide +kernel
theorem dX2_noteTouch_27 : decode cX2_noteTouch 27 = .ok (.aload_n 0, 1) := by decide +kernel
theorem dX2_noteTouch_28 : decode cX2_noteTouch 28 = .ok (.iload_n 1, 1) := by decide +kernel
theorem dX2_noteTouch_29 : decode cX2_noteTouch 29 = .ok (.invokevirtual 48, 3) := by decide +kernel
theorem dX2_noteTouch_32 : decode cX2_noteTouch 32 = .ok (.ifCond .eq 5, 3) := by decide +kernel
theorem dX2_noteTouch_35 : decode cX2_noteTouch 35 = .ok (.iconst 0, 1) := by decide +kernel
theorem dX2_noteTouch_36 : decode cX2_noteTouch 36 = .ok (.ireturn, 1) := by decide +kernel
theorem dX2_noteTouch_37 : decode cX2_noteTouch 37 = .ok (.aload_n 0, 1) := by decide +kernel
theorem dX2_noteTouch_38 : decode cX2_noteTouch 38 = .ok (.getfield 9, 3) := by decide +kernel
theorem dX2_noteTouch_41 : decode cX2_noteTouch 41 = .ok (.aload_n 0, 1) := by decide +kernel
theorem dX2_noteTouch_42 : decode cX2_noteTouch 42 = .ok (.getfield 31, 3) := by decide +kernel
theorem dX2_noteTouch_45 : decode cX2_noteTouch 45 = .ok (.iload_n 1, 1) := by decide +kernel
theorem dX2_noteTouch_46 : decode cX2_noteTouch 46 = .ok (.iastore, 1) := by decide +kernel
theorem dX2_noteTouch_47 : decode cX2_noteTouch 47 = .ok (.aload_n 0, 1) := by decide +kernel
theorem dX2_noteTouch_48 : decode cX2_noteTouch 48 = .ok (.dup, 1) := by decide +kernel
theorem dX2_noteTouch_49 : decode cX2_noteTouch 49 = .ok (.getfield 31, 3) := by decide +kernel
theorem dX2_noteTouch_52 : decode cX2_noteTouch 52 = .ok (.iconst 1, 1) := by decide +kernel
theorem dX2_noteTouch_53 : decode cX2_noteTouch 53 = .ok (.iadd, 1) := by decide +kernel
theorem dX2_noteTouch_54 : decode cX2_noteTouch 54 = .ok (.putfield 31, 3) := by decide +kernel
theorem dX2_noteTouch_57 : decode cX2_noteTouch 57 = .ok (.iconst 1, 1) := by decide +kernel
theorem dX2_noteTouch_58 : decode cX2_noteTouch 58 = .ok (.ireturn, 1) := by decide +kernel
set_option maxRecDepth 20000 in
theorem ggX2_openFrom_X4_placeOn : GoodIn wsX2_openFrom wsX4_placeOn := goodIn_r _ [6] (by decide +kernel) (by decide +kernel)
set_option maxRecDepth 20000 in
theorem gX2_openFrom_X4_placeOn_n52 : GoodIn wsX2_openFrom (wsX4_placeOn) := ggX2_openFrom_X4_placeOn
set_option maxRecDepth 20000 in
theorem ggX2_openFrom_X4_has : GoodIn wsX2_openFrom wsX4_has := goodIn_r _ [8] (by decide +kernel) (by decide +kernel)
set_option maxRecDepth 20000 in
theorem gX2_openFrom_X4_has_n44 : GoodIn wsX2_openFrom (wsX4_has) := ggX2_openFrom_X4_has
theorem dX2_openFrom_0 : decode cX2_openFrom 0 = .ok (.iconst 0, 1) := by decide +kernel
theorem dX2_openFrom_1 : decode cX2_openFrom 1 = .ok (.istore_n 2, 1) := by decide +kernel
theorem dX2_openFrom_2 : decode cX2_openFrom 2 = .ok (.iconst 0, 1) := by decide +kernel
theorem dX2_openFrom_3 : decode cX2_openFrom 3 = .ok (.istore_n 3, 1) := by decide +kernel
theorem dX2_openFrom_4 : decode cX2_openFrom 4 = .ok (.iload_n 3, 1) := by decide +kernel
theorem dX2_openFrom_5 : decode cX2_openFrom 5 = .ok (.bipush 6, 2) := by decide +kernel
theorem dX2_openFrom_7 : decode cX2_openFrom 7 = .ok (.if_icmp .ge 60, 3) := by decide +kernel
theorem dX2_openFrom_10 : decode cX2_openFrom 10 = .ok (.iload_n 2, 1) := by decide +kernel
theorem dX2_openFrom_11 : decode cX2_openFrom 11 = .ok (.aload_n 0, 1) := by decide +kernel
theorem dX2_openFrom_12 : decode cX2_openFrom 12 = .ok (.getfield 31, 3) := by decide +kernel
theorem dX2_openFrom_15 : decode cX2_openFrom 15 = .ok (.if_icmp .ge 9, 3) := by decide +kernel
theorem dX2_openFrom_18 : decode cX2_openFrom 18 = .ok (.iload_n 2, 1) := by decide +kernel
theorem dX2_openFrom_19 : decode cX2_openFrom 19 = .ok (.bipush 6, 2) := by decide +kernel
theorem dX2_openFrom_21 : decode cX2_openFrom 21 = .ok (.if_icmp .lt 5, 3) := by decide +kernel
theorem dX2_openFrom_24 : decode cX2_openFrom 24 = .ok (.iload_n 3, 1) := by decide +kernel
theorem dX2_openFrom_25 : decode cX2_openFrom 25 = .ok (.ireturn, 1) := by decide +kernel
theorem dX2_openFrom_26 : decode cX2_openFrom 26 = .ok (.iload_n 1, 1) := by decide +kernel
theorem dX2_openFrom_27 : decode cX2_openFrom 27 = .ok (.iload_n 3, 1) := by decide +kernel
theorem dX2_openFrom_28 : decode cX2_openFrom 28 = .ok (.invokestatic 52, 3) := by decide +kernel
theorem dX2_openFrom_31 : decode cX2_openFrom 31 = .ok (.istore 4, 2) := by decide +kernel
theorem dX2_openFrom_33 : decode cX2_openFrom 33 = .ok (.aload_n 0, 1) := by decide +kernel
theorem dX2_openFrom_34 : decode cX2_openFrom 34 = .ok (.getfield 27, 3) := by decide +kernel
theorem dX2_openFrom_37 : decode cX2_openFrom 37 = .ok (.iload 4, 2) := by decide +kernel
theorem dX2_openFrom_39 : decode cX2_openFrom 39 = .ok (.invokestatic 44, 3) := by decide +kernel
theorem dX2_openFrom_42 : decode cX2_openFrom 42 = .ok (.ifCond .eq 19, 3) := by decide +kernel
theorem dX2_openFrom_45 : decode cX2_openFrom 45 = .ok (.aload_n 0, 1) := by decide +kernel
theorem dX2_openFrom_46 : decode cX2_openFrom 46 = .ok (.getfield 9, 3) := by decide +kernel
theorem dX2_openFrom_49 : decode cX2_openFrom 49 = .ok (.iload_n 2, 1) := by decide +kernel
theorem dX2_openFrom_50 : decode cX2_openFrom 50 = .ok (.iaload, 1) := by decide +kernel
theorem dX2_openFrom_51 : decode cX2_openFrom 51 = .ok (.iload 4, 2) := by decide +kernel
theorem dX2_openFrom_53 : decode cX2_openFrom 53 = .ok (.if_icmp .eq 5, 3) := by decide +kernel
theorem dX2_openFrom_56 : decode cX2_openFrom 56 = .ok (.iconst (-1), 1) := by decide +kernel
theorem dX2_openFrom_57 : decode cX2_openFrom 57 = .ok (.ireturn, 1) := by decide +kernel
theorem dX2_openFrom_58 : decode cX2_openFrom 58 = .ok (.iinc 2 1, 3) := by decide +kernel
theorem dX2_openFrom_61 : decode cX2_openFrom 61 = .ok (.iinc 3 1, 3) := by decide +kernel
theorem dX2_openFrom_64 : decode cX2_openFrom 64 = .ok (.goto (-60), 3) := by decide +kernel
theorem dX2_openFrom_67 : decode cX2_openFrom 67 = .ok (.iconst (-1), 1) := by decide +kernel
theorem dX2_openFrom_68 : decode cX2_openFrom 68 = .ok (.ireturn, 1) := by decide +kernel
set_option maxRecDepth 20000 in
theorem ggX2_endTale_X2_becomesKnown : GoodIn wsX2_endTale wsX2_becomesKnown := goodIn_r _ [7, 8, 9, 10, 11, 12, 13, 14, 15, 16, 17, 18] (by decide +kernel) (by decide +kernel)
set_option maxRecDepth 20000 in
theorem gX2_endTale_X2_becomesKnown : GoodIn wsX2_endTale (wsV RX2 56 RX2 yX2_becomesKnown wsX2_becomesKnown) := goodIn_app (goodIn_of _ (by decide +kernel)) ggX2_endTale_X2_becomesKnown
theorem dX2_endTale_0 : decode cX2_endTale 0 = .ok (.iconst 0, 1) := by decide +kernel
theorem dX2_endTale_1 : decode cX2_endTale 1 = .ok (.istore_n 1, 1) := by decide +kernel
theorem dX2_endTale_2 : decode cX2_endTale 2 = .ok (.iconst 0, 1) := by decide +kernel
theorem dX2_endTale_3 : decode cX2_endTale 3 = .ok (.istore_n 2, 1) := by decide +kernel
theorem dX2_endTale_4 : decode cX2_endTale 4 = .ok (.iload_n 2, 1) := by decide +kernel
theorem dX2_endTale_5 : decode cX2_endTale 5 = .ok (.aload_n 0, 1) := by decide +kernel
theorem dX2_endTale_6 : decode cX2_endTale 6 = .ok (.getfield 31, 3) := by decide +kernel
theorem dX2_endTale_9 : decode cX2_endTale 9 = .ok (.if_icmp .ge 31, 3) := by decide +kernel
theorem dX2_endTale_12 : decode cX2_endTale 12 = .ok (.iload_n 2, 1) := by decide +kernel
theorem dX2_endTale_13 : decode cX2_endTale 13 = .ok (.bipush 6, 2) := by decide +kernel
theorem dX2_endTale_15 : decode cX2_endTale 15 = .ok (.if_icmp .ge 25, 3) := by decide +kernel
theorem dX2_endTale_18 : decode cX2_endTale 18 = .ok (.aload_n 0, 1) := by decide +kernel
theorem dX2_endTale_19 : decode cX2_endTale 19 = .ok (.aload_n 0, 1) := by decide +kernel
theorem dX2_endTale_20 : decode cX2_endTale 20 = .ok (.getfield 9, 3) := by decide +kernel
theorem dX2_endTale_23 : decode cX2_endTale 23 = .ok (.iload_n 2, 1) := by decide +kernel
theorem dX2_endTale_24 : decode cX2_endTale 24 = .ok (.iaload, 1) := by decide +kernel
theorem dX2_endTale_25 : decode cX2_endTale 25 = .ok (.invokevirtual 56, 3) := by decide +kernel
theorem dX2_endTale_28 : decode cX2_endTale 28 = .ok (.ifCond .eq 6, 3) := by decide +kernel
theorem dX2_endTale_31 : decode cX2_endTale 31 = .ok (.iinc 1 1, 3) := by decide +kernel
theorem dX2_endTale_34 : decode cX2_endTale 34 = .ok (.iinc 2 1, 3) := by decide +kernel
theorem dX2_endTale_37 : decode cX2_endTale 37 = .ok (.goto (-33), 3) := by decide +kernel
theorem dX2_endTale_40 : decode cX2_endTale 40 = .ok (.aload_n 0, 1) := by decide +kernel
theorem dX2_endTale_41 : decode cX2_endTale 41 = .ok (.iconst 0, 1) := by decide +kernel
theorem dX2_endTale_42 : decode cX2_endTale 42 = .ok (.putfield 31, 3) := by decide +kernel
theorem dX2_endTale_45 : decode cX2_endTale 45 = .ok (.iload_n 1, 1) := by decide +kernel
theorem dX2_endTale_46 : decode cX2_endTale 46 = .ok (.ireturn, 1) := by decide +kernel
theorem dX2_wasTouched_0 : decode cX2_wasTouched 0 = .ok (.iconst 0, 1) := by decide +kernel
theorem dX2_wasTouched_1 : decode cX2_wasTouched 1 = .ok (.istore_n 2, 1) := by decide +kernel
theorem dX2_wasTouched_2 : decode cX2_wasTouched 2 = .ok (.iload_n 2, 1) := by decide +kernel
theorem dX2_wasTouched_3 : decode cX2_wasTouched 3 = .ok (.aload_n 0, 1) := by decide +kernel
theorem dX2_wasTouched_4 : decode cX2_wasTouched 4 = .ok (.getfield 31, 3) := by decide +kernel
theorem dX2_wasTouched_7 : decode cX2_wasTouched 7 = .ok (.if_icmp .ge 27, 3) := by decide +kernel
theorem dX2_wasTouched_10 : decode cX2_wasTouched 10 = .ok (.iload_n 2, 1) := by decide +kernel
theorem dX2_wasTouched_11 : decode cX2_wasTouched 11 = .ok (.bipush 6, 2) := by decide +kernel
theorem dX2_wasTouched_13 : decode cX2_wasTouched 13 = .ok (.if_icmp .ge 21, 3) := by decide +kernel
theorem dX2_wasTouched_16 : decode cX2_wasTouched 16 = .ok (.aload_n 0, 1) := by decide +kernel
theorem dX2_wasTouched_17 : decode cX2_wasTouched 17 = .ok (.getfield 9, 3) := by decide +kernel
theorem dX2_wasTouched_20 : decode cX2_wasTouched 20 = .ok (.iload_n 2, 1) := by decide +kernel
theorem dX2_wasTouched_21 : decode cX2_wasTouched 21 = .ok (.iaload, 1) := by decide +kernel
theorem dX2_wasTouched_22 : decode cX2_wasTouched 22 = .ok (.iload_n 1, 1) := by decide +kernel
theorem dX2_wasTouched_23 : decode cX2_wasTouched 23 = .ok (.if_icmp .ne 5, 3) := by decide +kernel
theorem dX2_wasTouched_26 : decode cX2_wasTouched 26 = .ok (.iconst 1, 1) := by decide +kernel
theorem dX2_wasTouched_27 : decode cX2_wasTouched 27 = .ok (.ireturn, 1) := by decide +kernel
theorem dX2_wasTouched_28 : decode cX2_wasTouched 28 = .ok (.iinc 2 1, 3) := by decide +kernel
theorem dX2_wasTouched_31 : decode cX2_wasTouched 31 = .ok (.goto (-29), 3) := by decide +kernel
theorem dX2_wasTouched_34 : decode cX2_wasTouched 34 = .ok (.iconst 0, 1) := by decide +kernel
theorem dX2_wasTouched_35 : decode cX2_wasTouched 35 = .ok (.ireturn, 1) := by decide +kernel
theorem dX2_becomesKnown_0 : decode cX2_becomesKnown 0 = .ok (.iload_n 1, 1) := by decide +kernel
theorem dX2_becomesKnown_1 : decode cX2_becomesKnown 1 = .ok (.ifCond .lt 9, 3) := by decide +kernel
theorem dX2_becomesKnown_4 : decode cX2_becomesKnown 4 = .ok (.iload_n 1, 1) := by decide +kernel
theorem dX2_becomesKnown_5 : decode cX2_becomesKnown 5 = .ok (.bipush 9, 2) := by decide +kernel
theorem dX2_becomesKnown_7 : decode cX2_becomesKnown 7 = .ok (.if_icmp .lt 5, 3) := by decide +kernel
theorem dX2_becomesKnown_10 : decode cX2_becomesKnown 10 = .ok (.iconst 0, 1) := by decide +kernel
theorem dX2_becomesKnown_11 : decode cX2_becomesKnown 11 = .ok (.ireturn, 1) := by decide +kernel
theorem dX2_becomesKnown_12 : decode cX2_becomesKnown 12 = .ok (.aload_n 0, 1) := by decide +kernel
theorem dX2_becomesKnown_13 : decode cX2_becomesKnown 13 = .ok (.getfield 15, 3) := by decide +kernel
theorem dX2_becomesKnown_16 : decode cX2_becomesKnown 16 = .ok (.iload_n 1, 1) := by decide +kernel
theorem dX2_becomesKnown_17 : decode cX2_becomesKnown 17 = .ok (.dup2, 1) := by decide +kernel
theorem dX2_becomesKnown_18 : decode cX2_becomesKnown 18 = .ok (.iaload, 1) := by decide +kernel
theorem dX2_becomesKnown_19 : decode cX2_becomesKnown 19 = .ok (.iconst 1, 1) := by decide +kernel
theorem dX2_becomesKnown_20 : decode cX2_becomesKnown 20 = .ok (.iadd, 1) := by decide +kernel
theorem dX2_becomesKnown_21 : decode cX2_becomesKnown 21 = .ok (.iastore, 1) := by decide +kernel
theorem dX2_becomesKnown_22 : decode cX2_becomesKnown 22 = .ok (.aload_n 0, 1) := by decide +kernel
theorem dX2_becomesKnown_23 : decode cX2_becomesKnown 23 = .ok (.getfield 15, 3) := by decide +kernel
theorem dX2_becomesKnown_26 : decode cX2_becomesKnown 26 = .ok (.iload_n 1, 1) := by decide +kernel
theorem dX2_becomesKnown_27 : decode cX2_becomesKnown 27 = .ok (.iaload, 1) := by decide +kernel
theorem dX2_becomesKnown_28 : decode cX2_becomesKnown 28 = .ok (.aload_n 0, 1) := by decide +kernel
theorem dX2_becomesKnown_29 : decode cX2_becomesKnown 29 = .ok (.getfield 37, 3) := by decide +kernel
theorem dX2_becomesKnown_32 : decode cX2_becomesKnown 32 = .ok (.if_icmp .ge 5, 3) := by decide +kernel
theorem dX2_becomesKnown_35 : decode cX2_becomesKnown 35 = .ok (.iconst 0, 1) := by decide +kernel
theorem dX2_becomesKnown_36 : decode cX2_becomesKnown 36 = .ok (.ireturn, 1) := by decide +kernel
theorem dX2_becomesKnown_37 : decode cX2_becomesKnown 37 = .ok (.aload_n 0, 1) := by decide +kernel
theorem dX2_becomesKnown_38 : decode cX2_becomesKnown 38 = .ok (.getfield 15, 3) := by decide +kernel
theorem dX2_becomesKnown_41 : decode cX2_becomesKnown 41 = .ok (.iload_n 1, 1) := by decide +kernel
theorem dX2_becomesKnown_42 : decode cX2_becomesKnown 42 = .ok (.iconst 0, 1) := by decide +kernel
theorem dX2_becomesKnown_43 : decode cX2_becomesKnown 43 = .ok (.iastore, 1) := by decide +kernel
theorem dX2_becomesKnown_44 : decode cX2_becomesKnown 44 = .ok (.aload_n 0, 1) := by decide +kernel
theorem dX2_becomesKnown_45 : decode cX2_becomesKnown 45 = .ok (.getfield 18, 3) := by decide +kernel
theorem dX2_becomesKnown_48 : decode cX2_becomesKnown 48 = .ok (.iload_n 1, 1) := by decide +kernel
theorem dX2_becomesKnown_49 : decode cX2_becomesKnown 49 = .ok (.aload_n 0, 1) := by decide +kernel
theorem dX2_becomesKnown_50 : decode cX2_becomesKnown 50 = .ok (.getfield 34, 3) := by decide +kernel
theorem dX2_becomesKnown_53 : decode cX2_becomesKnown 53 = .ok (.bipush 10, 2) := by decide +kernel
theorem dX2_becomesKnown_55 : decode cX2_becomesKnown 55 = .ok (.iadd, 1) := by decide +kernel
theorem dX2_becomesKnown_56 : decode cX2_becomesKnown 56 = .ok (.iastore, 1) := by decide +kernel
theorem dX2_becomesKnown_57 : decode cX2_becomesKnown 57 = .ok (.iconst 1, 1) := by decide +kernel
theorem dX2_becomesKnown_58 : decode cX2_becomesKnown 58 = .ok (.ireturn, 1) := by decide +kernel
theorem dX3_init_0 : decode cX3_init 0 = .ok (.aload_n 0, 1) := by decide +kernel
theorem dX3_init_1 : decode cX3_init 1 = .ok (.invokespecial 3, 3) := by decide +kernel
theorem dX3_init_4 : decode cX3_init 4 = .ok (.aload_n 0, 1) := by decide +kernel
theorem dX3_init_5 : decode cX3_init 5 = .ok (.sipush 2000, 3) := by decide +kernel
theorem dX3_init_8 : decode cX3_init 8 = .ok (.newarray .int, 2) := by decide +kernel
theorem dX3_init_10 : decode cX3_init 10 = .ok (.putfield 9, 3) := by decide +kernel
theorem dX3_init_13 : decode cX3_init 13 = .ok (.aload_n 0, 1) := by decide +kernel
theorem dX3_init_14 : decode cX3_init 14 = .ok (.sipush 512, 3) := by decide +kernel
theorem dX3_init_17 : decode cX3_init 17 = .ok (.newarray .int, 2) := by decide +kernel
theorem dX3_init_19 : decode cX3_init 19 = .ok (.putfield 15, 3) := by decide +kernel
theorem dX3_init_22 : decode cX3_init 22 = .ok (.return_, 1) := by decide +kernel
theorem dX3_forget_0 : decode cX3_forget 0 = .ok (.aload_n 0, 1) := by decide +kernel
theorem dX3_forget_1 : decode cX3_forget 1 = .ok (.iconst 0, 1) := by decide +kernel
theorem dX3_forget_2 : decode cX3_forget 2 = .ok (.putfield 18, 3) := by decide +kernel
theorem dX3_forget_5 : decode cX3_forget 5 = .ok (.return_, 1) := by decide +kernel
set_option maxRecDepth 20000 in
theorem ggX3_readIfForgotten_J7_fill_53178 : GoodIn wsX3_readIfForgotten wsJ7_fill_53178 := goodIn_r _ [7] (by decide +kernel) (by decide +kernel)
set_option maxRecDepth 20000 in
theorem gX3_readIfForgotten_J7_fill_53178 : GoodIn wsX3_readIfForgotten (va_wsS RX3 26 yJ7_fill_53178 wsJ7_fill_53178) := goodIn_app (goodIn_of _ (by decide +kernel)) ggX3_readIfForgotten_J7_fill_53178
set_option maxRecDepth 20000 in
theorem ggX3_readIfForgotten_X0_gateSet : GoodIn wsX3_readIfForgotten wsX0_gateSet := goodIn_r _ [12, 13, 54, 55, 56, 57, 58] (by decide +kernel) (by decide +kernel)
set_option maxRecDepth 20000 in
theorem gX3_readIfForgotten_X0_gateSet : GoodIn wsX3_readIfForgotten (wsV RX3 32 RX0 yX0_gateSet wsX0_gateSet) := goodIn_app (goodIn_of _ (by decide +kernel)) ggX3_readIfForgotten_X0_gateSet
set_option maxRecDepth 20000 in
theorem ggX3_readIfForgotten_X4_has : GoodIn wsX3_readIfForgotten wsX4_has := goodIn_r _ [16] (by decide +kernel) (by decide +kernel)
set_option maxRecDepth 20000 in
theorem gX3_readIfForgotten_X4_has_n38 : GoodIn wsX3_readIfForgotten (wsX4_has) := ggX3_readIfForgotten_X4_has
set_option maxRecDepth 20000 in
theorem ggX3_readIfForgotten_X4_withPlace : GoodIn wsX3_readIfForgotten wsX4_withPlace := goodIn_r _ [18] (by decide +kernel) (by decide +kernel)
set_option maxRecDepth 20000 in
theorem gX3_readIfForgotten_X4_withPlace_n42 : GoodIn wsX3_readIfForgotten (wsX4_withPlace) := ggX3_readIfForgotten_X4_withPlace
set_option maxRecDepth 20000 in
theorem ggX3_readIfForgotten_X4_setOf : GoodIn wsX3_readIfForgotten wsX4_setOf := goodIn_r _ [20] (by decide +kernel) (by decide +kernel)
set_option maxRecDepth 20000 in
theorem gX3_readIfForgotten_X4_setOf_n46 : GoodIn wsX3_readIfForgotten (wsX4_setOf) := ggX3_readIfForgotten_X4_setOf
set_option maxRecDepth 20000 in
theorem ggX3_readIfForgotten_X3_walkOn : GoodIn wsX3_readIfForgotten wsX3_walkOn := goodIn_r _ [25, 2, 26, 27, 28, 11, 29, 30, 31, 32, 33, 34, 35, 36, 37, 38, 39, 40, 14, 15, 16, 17, 18, 19, 20, 41, 42, 43, 24, 44, 45, 3, 21, 22, 23, 50, 51, 52, 53, 54, 55, 56, 57, 58] (by decide +kernel) (by decide +kernel)
set_option maxRecDepth 20000 in
theorem gX3_readIfForgotten_X3_walkOn : GoodIn wsX3_readIfForgotten (wsV RX3 50 RX3 yX3_walkOn wsX3_walkOn) := goodIn_app (goodIn_of _ (by decide +kernel)) ggX3_readIfForgotten_X3_walkOn
set_option maxRecDepth 20000 in
theorem ggX3_readIfForgotten_X3_sumInside : GoodIn wsX3_readIfForgotten wsX3_sumInside := goodIn_r _ [49, 3, 14, 15, 16, 19, 20, 50, 51, 52, 53] (by decide +kernel) (by decide +kernel)
set_option maxRecDepth 20000 in
theorem gX3_readIfForgotten_X3_sumInside : GoodIn wsX3_readIfForgotten (wsV RX3 54 RX3 yX3_sumInside wsX3_sumInside) := goodIn_app (goodIn_of _ (by decide +kernel)) ggX3_readIfForgotten_X3_sumInside
theorem dX3_readIfForgotten_0 : decode cX3_readIfForgotten 0 = .ok (.aload_n 0, 1) := by decide +kernel
theorem dX3_readIfForgotten_1 : decode cX3_readIfForgotten 1 = .ok (.getfield 18, 3) := by decide +kernel
theorem dX3_readIfForgotten_4 : decode cX3_readIfForgotten 4 = .ok (.ifCond .eq 4, 3) := by decide +kernel
theorem dX3_readIfForgotten_7 : decode cX3_readIfForgotten 7 = .ok (.return_, 1) := by decide +kernel
theorem dX3_readIfForgotten_8 : decode cX3_readIfForgotten 8 = .ok (.aload_n 0, 1) := by decide +kernel
theorem dX3_readIfForgotten_9 : decode cX3_readIfForgotten 9 = .ok (.iconst 0, 1) := by decide +kernel
theorem dX3_readIfForgotten_10 : decode cX3_readIfForgotten 10 = .ok (.putfield 22, 3) := by decide +kernel
theorem dX3_readIfForgotten_13 : decode cX3_readIfForgotten 13 = .ok (.aload_n 0, 1) := by decide +kernel
theorem dX3_readIfForgotten_14 : decode cX3_readIfForgotten 14 = .ok (.getfield 15, 3) := by decide +kernel
theorem dX3_readIfForgotten_17 : decode cX3_readIfForgotten 17 = .ok (.iconst 0, 1) := by decide +kernel
theorem dX3_readIfForgotten_18 : decode cX3_readIfForgotten 18 = .ok (.invokestatic 26, 3) := by decide +kernel
theorem dX3_readIfForgotten_21 : decode cX3_readIfForgotten 21 = .ok (.iconst 0, 1) := by decide +kernel
theorem dX3_readIfForgotten_22 : decode cX3_readIfForgotten 22 = .ok (.istore_n 2, 1) := by decide +kernel
theorem dX3_readIfForgotten_23 : decode cX3_readIfForgotten 23 = .ok (.iload_n 2, 1) := by decide +kernel
theorem dX3_readIfForgotten_24 : decode cX3_readIfForgotten 24 = .ok (.bipush 9, 2) := by decide +kernel
theorem dX3_readIfForgotten_26 : decode cX3_readIfForgotten 26 = .ok (.if_icmp .ge 37, 3) := by decide +kernel
theorem dX3_readIfForgotten_29 : decode cX3_readIfForgotten 29 = .ok (.aload_n 1, 1) := by decide +kernel
theorem dX3_readIfForgotten_30 : decode cX3_readIfForgotten 30 = .ok (.invokevirtual 32, 3) := by decide +kernel
theorem dX3_readIfForgotten_33 : decode cX3_readIfForgotten 33 = .ok (.iload_n 2, 1) := by decide +kernel
theorem dX3_readIfForgotten_34 : decode cX3_readIfForgotten 34 = .ok (.invokestatic 38, 3) := by decide +kernel
theorem dX3_readIfForgotten_37 : decode cX3_readIfForgotten 37 = .ok (.ifCond .eq 20, 3) := by decide +kernel
theorem dX3_readIfForgotten_40 : decode cX3_readIfForgotten 40 = .ok (.aload_n 0, 1) := by decide +kernel
theorem dX3_readIfForgotten_41 : decode cX3_readIfForgotten 41 = .ok (.aload_n 1, 1) := by decide +kernel
theorem dX3_readIfForgotten_42 : decode cX3_readIfForgotten 42 = .ok (.iload_n 2, 1) := by decide +kernel
theorem dX3_readIfForgotten_43 : decode cX3_readIfForgotten 43 = .ok (.iconst 1, 1) := by decide +kernel
theorem dX3_readIfForgotten_44 : decode cX3_readIfForgotten 44 = .ok (.iconst 0, 1) := by decide +kernel
theorem dX3_readIfForgotten_45 : decode cX3_readIfForgotten 45 = .ok (.iconst 0, 1) := by decide +kernel
theorem dX3_readIfForgotten_46 : decode cX3_readIfForgotten 46 = .ok (.iload_n 2, 1) := by decide +kernel
theorem dX3_readIfForgotten_47 : decode cX3_readIfForgotten 47 = .ok (.invokestatic 42, 3) := by decide +kernel
theorem dX3_readIfForgotten_50 : decode cX3_readIfForgotten 50 = .ok (.iload_n 2, 1) := by decide +kernel
theorem dX3_readIfForgotten_51 : decode cX3_readIfForgotten 51 = .ok (.invokestatic 46, 3) := by decide +kernel
theorem dX3_readIfForgotten_54 : decode cX3_readIfForgotten 54 = .ok (.invokevirtual 50, 3) := by decide +kernel
theorem dX3_readIfForgotten_57 : decode cX3_readIfForgotten 57 = .ok (.iinc 2 1, 3) := by decide +kernel
theorem dX3_readIfForgotten_60 : decode cX3_readIfForgotten 60 = .ok (.goto (-37), 3) := by decide +kernel
theorem dX3_readIfForgotten_63 : decode cX3_readIfForgotten 63 = .ok (.aload_n 0, 1) := by decide +kernel
theorem dX3_readIfForgotten_64 : decode cX3_readIfForgotten 64 = .ok (.invokevirtual 54, 3) := by decide +kernel
theorem dX3_readIfForgotten_67 : decode cX3_readIfForgotten 67 = .ok (.aload_n 0, 1) := by decide +kernel
theorem dX3_readIfForgotten_68 : decode cX3_readIfForgotten 68 = .ok (.iconst 1, 1) := by decide +kernel
theorem dX3_readIfForgotten_69 : decode cX3_readIfForgotten 69 = .ok (.putfield 18, 3) := by decide +kernel
theorem dX3_readIfForgotten_72 : decode cX3_readIfForgotten 72 = .ok (.return_, 1) := by decide +kernel
theorem dX3_count_0 : decode cX3_count 0 = .ok (.aload_n 0, 1) := by decide +kernel
theorem dX3_count_1 : decode cX3_count 1 = .ok (.getfield 22, 3) := by decide +kernel
theorem dX3_count_4 : decode cX3_count 4 = .ok (.sipush 2000, 3) := by decide +kernel
theorem dX3_count_7 : decode cX3_count 7 = .ok (.if_icmp .le 7, 3) := by decide +kernel
theorem dX3_count_10 : decode cX3_count 10 = .ok (.iconst (-1), 1) := by decide +kernel
theorem dX3_count_11 : decode cX3_count 11 = .ok (.goto 7, 3) := by decide +kernel
theorem dX3_count_14 : decode cX3_count 14 = .ok (.aload_n 0, 1) := by decide +kernel
theorem dX3_count_15 : decode cX3_count 15 = .ok (.getfield 22, 3) := by decide +kernel
theorem dX3_count_18 : decode cX3_count 18 = .ok (.ireturn, 1) := by decide +kernel
theorem dX3_trail_0 : decode cX3_trail 0 = .ok (.iload_n 1, 1) := by decide +kernel
theorem dX3_trail_1 : decode cX3_trail 1 = .ok (.ifCond .lt 27, 3) := by decide +kernel
theorem dX3_trail_4 : decode cX3_trail 4 = .ok (.iload_n 1, 1) := by decide +kernel
theorem dX3_trail_5 : decode cX3_trail 5 = .ok (.sipush 2000, 3) := by decide +kernel
theorem dX3_trail_8 : decode cX3_trail 8 = .ok (.if_icmp .ge 20, 3) := by decide +kernel
theorem dX3_trail_11 : decode cX3_trail 11 = .ok (.iload_n 1, 1) := by decide +kernel
theorem dX3_trail_12 : decode cX3_trail 12 = .ok (.aload_n 0, 1) := by decide +kernel
theorem dX3_trail_13 : decode cX3_trail 13 = .ok (.getfield 22, 3) := by decide +kernel
theorem dX3_trail_16 : decode cX3_trail 16 = .ok (.if_icmp .ge 12, 3) := by decide +kernel
theorem dX3_trail_19 : decode cX3_trail 19 = .ok (.aload_n 0, 1) := by decide +kernel
theorem dX3_trail_20 : decode cX3_trail 20 = .ok (.getfield 9, 3) := by decide +kernel
theorem dX3_trail_23 : decode cX3_trail 23 = .ok (.iload_n 1, 1) := by decide +kernel
theorem dX3_trail_24 : decode cX3_trail 24 = .ok (.iaload, 1) := by decide +kernel
theorem dX3_trail_25 : decode cX3_trail 25 = .ok (.goto 4, 3) := by decide +kernel
theorem dX3_trail_28 : decode cX3_trail 28 = .ok (.iconst 0, 1) := by decide +kernel
theorem dX3_trail_29 : decode cX3_trail 29 = .ok (.ireturn, 1) := by decide +kernel
theorem dX3_countTouchedBy_0 : decode cX3_countTouchedBy 0 = .ok (.aload_n 0, 1) := by decide +kernel
theorem dX3_countTouchedBy_1 : decode cX3_countTouchedBy 1 = .ok (.getfield 22, 3) := by decide +kernel
theorem dX3_countTouchedBy_4 : decode cX3_countTouchedBy 4 = .ok (.aload_n 0, 1) := by decide +kernel
theorem dX3_countTouchedBy_5 : decode cX3_countTouchedBy 5 = .ok (.getfield 15, 3) := by decide +kernel
theorem dX3_countTouchedBy_8 : decode cX3_countTouchedBy 8 = .ok (.iload_n 1, 1) := by decide +kernel
theorem dX3_countTouchedBy_9 : decode cX3_countTouchedBy 9 = .ok (.iconst (-1), 1) := by decide +kernel
theorem dX3_countTouchedBy_10 : decode cX3_countTouchedBy 10 = .ok (.ixor, 1) := by decide +kernel
theorem dX3_countTouchedBy_11 : decode cX3_countTouchedBy 11 = .ok (.sipush 511, 3) := by decide +kernel
theorem dX3_countTouchedBy_14 : decode cX3_countTouchedBy 14 = .ok (.iand, 1) := by decide +kernel
theorem dX3_countTouchedBy_15 : decode cX3_countTouchedBy 15 = .ok (.iaload, 1) := by decide +kernel
theorem dX3_countTouchedBy_16 : decode cX3_countTouchedBy 16 = .ok (.isub, 1) := by decide +kernel
theorem dX3_countTouchedBy_17 : decode cX3_countTouchedBy 17 = .ok (.ireturn, 1) := by decide +kernel
set_option maxRecDepth 20000 in
theorem ggX3_walkOn_X0_doorSet : GoodIn wsX3_walkOn wsX0_doorSet := goodIn_r _ [6, 7, 8, 9, 10, 5, 11, 12, 39, 40, 41, 42, 43] (by decide +kernel) (by decide +kernel)
set_option maxRecDepth 20000 in
theorem gX3_walkOn_X0_doorSet : GoodIn wsX3_walkOn (wsV RX3 57 RX0 yX0_doorSet wsX0_doorSet) := goodIn_app (goodIn_of _ (by decide +kernel)) ggX3_walkOn_X0_doorSet
set_option maxRecDepth 20000 in
theorem ggX3_walkOn_X0_jewelSet : GoodIn wsX3_walkOn wsX0_jewelSet := goodIn_r _ [16, 17, 39, 40, 41, 42, 43] (by decide +kernel) (by decide +kernel)
set_option maxRecDepth 20000 in
theorem gX3_walkOn_X0_jewelSet : GoodIn wsX3_walkOn (wsV RX3 60 RX0 yX0_jewelSet wsX0_jewelSet) := goodIn_app (goodIn_of _ (by decide +kernel)) ggX3_walkOn_X0_jewelSet
set_option maxRecDepth 20000 in
theorem ggX3_walkOn_X4_has : GoodIn wsX3_walkOn wsX4_has := goodIn_r _ [20] (by decide +kernel) (by decide +kernel)
set_option maxRecDepth 20000 in
theorem gX3_walkOn_X4_has_n38 : GoodIn wsX3_walkOn (wsX4_has) := ggX3_walkOn_X4_has
set_option maxRecDepth 20000 in
theorem ggX3_walkOn_X4_withPlace : GoodIn wsX3_walkOn wsX4_withPlace := goodIn_r _ [22] (by decide +kernel) (by decide +kernel)
set_option maxRecDepth 20000 in
theorem gX3_walkOn_X4_withPlace_n42 : GoodIn wsX3_walkOn (wsX4_withPlace) := ggX3_walkOn_X4_withPlace
set_option maxRecDepth 20000 in
theorem ggX3_walkOn_X4_setOf : GoodIn wsX3_walkOn wsX4_setOf := goodIn_r _ [24] (by decide +kernel) (by decide +kernel)
set_option maxRecDepth 20000 in
theorem gX3_walkOn_X4_setOf_n46 : GoodIn wsX3_walkOn (wsX4_setOf) := ggX3_walkOn_X4_setOf
set_option maxRecDepth 20000 in
theorem ggX3_walkOn_X3_writeDown : GoodIn wsX3_walkOn wsX3_writeDown := goodIn_r _ [29, 1, 30, 31, 35, 36, 37, 38] (by decide +kernel) (by decide +kernel)
set_option maxRecDepth 20000 in
theorem gX3_walkOn_X3_writeDown : GoodIn wsX3_walkOn (wsV RX3 63 RX3 yX3_writeDown wsX3_writeDown) := goodIn_app (goodIn_of _ (by decide +kernel)) ggX3_walkOn_X3_writeDown
set_option maxRecDepth 20000 in
theorem ggX3_walkOn_X3_walkOn : GoodIn wsX3_walkOn wsX3_walkOn := goodIn_r _ [0, 1, 2, 3, 4, 5, 6, 7, 8, 9, 10, 11, 12, 13, 14, 15, 16, 17, 18, 19, 20, 21, 22, 23, 24, 25, 26, 27, 28, 29, 30, 31, 32, 33, 34, 35, 36, 37, 38, 39, 40, 41, 42, 43] (by decide +kernel) (by decide +kernel)
set_option maxRecDepth 20000 in
theorem gX3_walkOn_X3_walkOn : GoodIn wsX3_walkOn (wsV RX3 50 RX3 yX3_walkOn wsX3_walkOn) := goodIn_app (goodIn_of _ (by decide +kernel)) ggX3_walkOn_X3_walkOn
theorem dX3_walkOn_0 : decode cX3_walkOn 0 = .ok (.iload_n 3, 1) := by decide +kernel
theorem dX3_walkOn_1 : decode cX3_walkOn 1 = .ok (.bipush 6, 2) := by decide +kernel
theorem dX3_walkOn_3 : decode cX3_walkOn 3 = .ok (.if_icmp .lt 4, 3) := by decide +kernel
theorem dX3_walkOn_6 : decode cX3_walkOn 6 = .ok (.return_, 1) := by decide +kernel
theorem dX3_walkOn_7 : decode cX3_walkOn 7 = .ok (.aload_n 1, 1) := by decide +kernel
theorem dX3_walkOn_8 : decode cX3_walkOn 8 = .ok (.iload_n 2, 1) := by decide +kernel
theorem dX3_walkOn_9 : decode cX3_walkOn 9 = .ok (.invokevirtual 57, 3) := by decide +kernel
theorem dX3_walkOn_12 : decode cX3_walkOn 12 = .ok (.iload 5, 2) := by decide +kernel
theorem dX3_walkOn_14 : decode cX3_walkOn 14 = .ok (.iconst (-1), 1) := by decide +kernel
theorem dX3_walkOn_15 : decode cX3_walkOn 15 = .ok (.ixor, 1) := by decide +kernel
theorem dX3_walkOn_16 : decode cX3_walkOn 16 = .ok (.iand, 1) := by decide +kernel
theorem dX3_walkOn_17 : decode cX3_walkOn 17 = .ok (.istore 6, 2) := by decide +kernel
theorem dX3_walkOn_19 : decode cX3_walkOn 19 = .ok (.iload_n 3, 1) := by decide +kernel
theorem dX3_walkOn_20 : decode cX3_walkOn 20 = .ok (.iconst 5, 1) := by decide +kernel
theorem dX3_walkOn_21 : decode cX3_walkOn 21 = .ok (.if_icmp .ne 12, 3) := by decide +kernel
theorem dX3_walkOn_24 : decode cX3_walkOn 24 = .ok (.iload 6, 2) := by decide +kernel
theorem dX3_walkOn_26 : decode cX3_walkOn 26 = .ok (.aload_n 1, 1) := by decide +kernel
theorem dX3_walkOn_27 : decode cX3_walkOn 27 = .ok (.invokevirtual 60, 3) := by decide +kernel
theorem dX3_walkOn_30 : decode cX3_walkOn 30 = .ok (.iand, 1) := by decide +kernel
theorem dX3_walkOn_31 : decode cX3_walkOn 31 = .ok (.istore 6, 2) := by decide +kernel
theorem dX3_walkOn_33 : decode cX3_walkOn 33 = .ok (.iconst 0, 1) := by decide +kernel
theorem dX3_walkOn_34 : decode cX3_walkOn 34 = .ok (.istore 7, 2) := by decide +kernel
theorem dX3_walkOn_36 : decode cX3_walkOn 36 = .ok (.iload 7, 2) := by decide +kernel
theorem dX3_walkOn_38 : decode cX3_walkOn 38 = .ok (.bipush 9, 2) := by decide +kernel
theorem dX3_walkOn_40 : decode cX3_walkOn 40 = .ok (.if_icmp .ge 91, 3) := by decide +kernel
theorem dX3_walkOn_43 : decode cX3_walkOn 43 = .ok (.aload_n 0, 1) := by decide +kernel
theorem dX3_walkOn_44 : decode cX3_walkOn 44 = .ok (.getfield 22, 3) := by decide +kernel
theorem dX3_walkOn_47 : decode cX3_walkOn 47 = .ok (.sipush 2000, 3) := by decide +kernel
theorem dX3_walkOn_50 : decode cX3_walkOn 50 = .ok (.if_icmp .gt 81, 3) := by decide +kernel
theorem dX3_walkOn_53 : decode cX3_walkOn 53 = .ok (.iload 6, 2) := by decide +kernel
theorem dX3_walkOn_55 : decode cX3_walkOn 55 = .ok (.iload 7, 2) := by decide +kernel
theorem dX3_walkOn_57 : decode cX3_walkOn 57 = .ok (.invokestatic 38, 3) := by decide +kernel
theorem dX3_walkOn_60 : decode cX3_walkOn 60 = .ok (.ifCond .ne 6, 3) := by decide +kernel
theorem dX3_walkOn_63 : decode cX3_walkOn 63 = .ok (.goto 62, 3) := by decide +kernel
theorem dX3_walkOn_66 : decode cX3_walkOn 66 = .ok (.iload 4, 2) := by decide +kernel
theorem dX3_walkOn_68 : decode cX3_walkOn 68 = .ok (.iload_n 3, 1) := by decide +kernel
theorem dX3_walkOn_69 : decode cX3_walkOn 69 = .ok (.iload 7, 2) := by decide +kernel
theorem dX3_walkOn_71 : decode cX3_walkOn 71 = .ok (.invokestatic 42, 3) := by decide +kernel
theorem dX3_walkOn_74 : decode cX3_walkOn 74 = .ok (.istore 8, 2) := by decide +kernel
theorem dX3_walkOn_76 : decode cX3_walkOn 76 = .ok (.aload_n 1, 1) := by decide +kernel
theorem dX3_walkOn_77 : decode cX3_walkOn 77 = .ok (.invokevirtual 60, 3) := by decide +kernel
theorem dX3_walkOn_80 : decode cX3_walkOn 80 = .ok (.iload 7, 2) := by decide +kernel
theorem dX3_walkOn_82 : decode cX3_walkOn 82 = .ok (.invokestatic 38, 3) := by decide +kernel
theorem dX3_walkOn_85 : decode cX3_walkOn 85 = .ok (.ifCond .eq 20, 3) := by decide +kernel
theorem dX3_walkOn_88 : decode cX3_walkOn 88 = .ok (.aload_n 0, 1) := by decide +kernel
theorem dX3_walkOn_89 : decode cX3_walkOn 89 = .ok (.iload 8, 2) := by decide +kernel
theorem dX3_walkOn_91 : decode cX3_walkOn 91 = .ok (.iload 5, 2) := by decide +kernel
theorem dX3_walkOn_93 : decode cX3_walkOn 93 = .ok (.iload 7, 2) := by decide +kernel
theorem dX3_walkOn_95 : decode cX3_walkOn 95 = .ok (.invokestatic 46, 3) := by decide +kernel
theorem dX3_walkOn_98 : decode cX3_walkOn 98 = .ok (.ior, 1) := by decide +kernel
theorem dX3_walkOn_99 : decode cX3_walkOn 99 = .ok (.invokevirtual 63, 3) := by decide +kernel
theorem dX3_walkOn_102 : decode cX3_walkOn 102 = .ok (.goto 23, 3) := by decide +kernel
theorem dX3_walkOn_105 : decode cX3_walkOn 105 = .ok (.aload_n 0, 1) := by decide +kernel
theorem dX3_walkOn_106 : decode cX3_walkOn 106 = .ok (.aload_n 1, 1) := by decide +kernel
theorem dX3_walkOn_107 : decode cX3_walkOn 107 = .ok (.iload 7, 2) := by decide +kernel
theorem dX3_walkOn_109 : decode cX3_walkOn 109 = .ok (.iload_n 3, 1) := by decide +kernel
theorem dX3_walkOn_110 : decode cX3_walkOn 110 = .ok (.iconst 1, 1) := by decide +kernel
theorem dX3_walkOn_111 : decode cX3_walkOn 111 = .ok (.iadd, 1) := by decide +kernel
theorem dX3_walkOn_112 : decode cX3_walkOn 112 = .ok (.iload 8, 2) := by decide +kernel
theorem dX3_walkOn_114 : decode cX3_walkOn 114 = .ok (.iload 5, 2) := by decide +kernel
theorem dX3_walkOn_116 : decode cX3_walkOn 116 = .ok (.iload 7, 2) := by decide +kernel
theorem dX3_walkOn_118 : decode cX3_walkOn 118 = .ok (.invokestatic 46, 3) := by decide +kernel
theorem dX3_walkOn_121 : decode cX3_walkOn 121 = .ok (.ior, 1) := by decide +kernel
theorem dX3_walkOn_122 : decode cX3_walkOn 122 = .ok (.invokevirtual 50, 3) := by decide +kernel
theorem dX3_walkOn_125 : decode cX3_walkOn 125 = .ok (.iinc 7 1, 3) := by decide +kernel
theorem dX3_walkOn_128 : decode cX3_walkOn 128 = .ok (.goto (-92), 3) := by decide +kernel
theorem dX3_walkOn_131 : decode cX3_walkOn 131 = .ok (.return_, 1) := by decide +kernel
theorem dX3_writeDown_0 : decode cX3_writeDown 0 = .ok (.aload_n 0, 1) := by decide +kernel
theorem dX3_writeDown_1 : decode cX3_writeDown 1 = .ok (.getfield 22, 3) := by decide +kernel
theorem dX3_writeDown_4 : decode cX3_writeDown 4 = .ok (.sipush 2000, 3) := by decide +kernel
theorem dX3_writeDown_7 : decode cX3_writeDown 7 = .ok (.if_icmp .ge 13, 3) := by decide +kernel
theorem dX3_writeDown_10 : decode cX3_writeDown 10 = .ok (.aload_n 0, 1) := by decide +kernel
theorem dX3_writeDown_11 : decode cX3_writeDown 11 = .ok (.getfield 9, 3) := by decide +kernel
theorem dX3_writeDown_14 : decode cX3_writeDown 14 = .ok (.aload_n 0, 1) := by decide +kernel
theorem dX3_writeDown_15 : decode cX3_writeDown 15 = .ok (.getfield 22, 3) := by decide +kernel
theorem dX3_writeDown_18 : decode cX3_writeDown 18 = .ok (.iload_n 1, 1) := by decide +kernel
theorem dX3_writeDown_19 : decode cX3_writeDown 19 = .ok (.iastore, 1) := by decide +kernel
theorem dX3_writeDown_20 : decode cX3_writeDown 20 = .ok (.aload_n 0, 1) := by decide +kernel
theorem dX3_writeDown_21 : decode cX3_writeDown 21 = .ok (.dup, 1) := by decide +kernel
theorem dX3_writeDown_22 : decode cX3_writeDown 22 = .ok (.getfield 22, 3) := by decide +kernel
theorem dX3_writeDown_25 : decode cX3_writeDown 25 = .ok (.iconst 1, 1) := by decide +kernel
theorem dX3_writeDown_26 : decode cX3_writeDown 26 = .ok (.iadd, 1) := by decide +kernel
theorem dX3_writeDown_27 : decode cX3_writeDown 27 = .ok (.putfield 22, 3) := by decide +kernel
theorem dX3_writeDown_30 : decode cX3_writeDown 30 = .ok (.aload_n 0, 1) := by decide +kernel
theorem dX3_writeDown_31 : decode cX3_writeDown 31 = .ok (.getfield 15, 3) := by decide +kernel
theorem dX3_writeDown_34 : decode cX3_writeDown 34 = .ok (.iload_n 2, 1) := by decide +kernel
theorem dX3_writeDown_35 : decode cX3_writeDown 35 = .ok (.sipush 511, 3) := by decide +kernel
theorem dX3_writeDown_38 : decode cX3_writeDown 38 = .ok (.iand, 1) := by decide +kernel
theorem dX3_writeDown_39 : decode cX3_writeDown 39 = .ok (.dup2, 1) := by decide +kernel
theorem dX3_writeDown_40 : decode cX3_writeDown 40 = .ok (.iaload, 1) := by decide +kernel
theorem dX3_writeDown_41 : decode cX3_writeDown 41 = .ok (.iconst 1, 1) := by decide +kernel
theorem dX3_writeDown_42 : decode cX3_writeDown 42 = .ok (.iadd, 1) := by decide +kernel
theorem dX3_writeDown_43 : decode cX3_writeDown 43 = .ok (.iastore, 1) := by decide +kernel
theorem dX3_writeDown_44 : decode cX3_writeDown 44 = .ok (.return_, 1) := by decide +kernel
set_option maxRecDepth 20000 in
theorem ggX3_sumInside_X4_has : GoodIn wsX3_sumInside wsX4_has := goodIn_r _ [4] (by decide +kernel) (by decide +kernel)
set_option maxRecDepth 20000 in
theorem gX3_sumInside_X4_has_n38 : GoodIn wsX3_sumInside (wsX4_has) := ggX3_sumInside_X4_has
set_option maxRecDepth 20000 in
theorem ggX3_sumInside_X4_setOf : GoodIn wsX3_sumInside wsX4_setOf := goodIn_r _ [6] (by decide +kernel) (by decide +kernel)
set_option maxRecDepth 20000 in
theorem gX3_sumInside_X4_setOf_n46 : GoodIn wsX3_sumInside (wsX4_setOf) := ggX3_sumInside_X4_setOf
theorem dX3_sumInside_0 : decode cX3_sumInside 0 = .ok (.iconst 0, 1) := by decide +kernel
theorem dX3_sumInside_1 : decode cX3_sumInside 1 = .ok (.istore_n 1, 1) := by decide +kernel
theorem dX3_sumInside_2 : decode cX3_sumInside 2 = .ok (.iload_n 1, 1) := by decide +kernel
theorem dX3_sumInside_3 : decode cX3_sumInside 3 = .ok (.bipush 9, 2) := by decide +kernel
theorem dX3_sumInside_5 : decode cX3_sumInside 5 = .ok (.if_icmp .ge 54, 3) := by decide +kernel
theorem dX3_sumInside_8 : decode cX3_sumInside 8 = .ok (.iconst 0, 1) := by decide +kernel
theorem dX3_sumInside_9 : decode cX3_sumInside 9 = .ok (.istore_n 2, 1) := by decide +kernel
theorem dX3_sumInside_10 : decode cX3_sumInside 10 = .ok (.iload_n 2, 1) := by decide +kernel
theorem dX3_sumInside_11 : decode cX3_sumInside 11 = .ok (.sipush 512, 3) := by decide +kernel
theorem dX3_sumInside_14 : decode cX3_sumInside 14 = .ok (.if_icmp .ge 39, 3) := by decide +kernel
theorem dX3_sumInside_17 : decode cX3_sumInside 17 = .ok (.iload_n 2, 1) := by decide +kernel
theorem dX3_sumInside_18 : decode cX3_sumInside 18 = .ok (.iload_n 1, 1) := by decide +kernel
theorem dX3_sumInside_19 : decode cX3_sumInside 19 = .ok (.invokestatic 38, 3) := by decide +kernel
theorem dX3_sumInside_22 : decode cX3_sumInside 22 = .ok (.ifCond .eq 25, 3) := by decide +kernel
theorem dX3_sumInside_25 : decode cX3_sumInside 25 = .ok (.aload_n 0, 1) := by decide +kernel
theorem dX3_sumInside_26 : decode cX3_sumInside 26 = .ok (.getfield 15, 3) := by decide +kernel
theorem dX3_sumInside_29 : decode cX3_sumInside 29 = .ok (.iload_n 2, 1) := by decide +kernel
theorem dX3_sumInside_30 : decode cX3_sumInside 30 = .ok (.dup2, 1) := by decide +kernel
theorem dX3_sumInside_31 : decode cX3_sumInside 31 = .ok (.iaload, 1) := by decide +kernel
theorem dX3_sumInside_32 : decode cX3_sumInside 32 = .ok (.aload_n 0, 1) := by decide +kernel
theorem dX3_sumInside_33 : decode cX3_sumInside 33 = .ok (.getfield 15, 3) := by decide +kernel
theorem dX3_sumInside_36 : decode cX3_sumInside 36 = .ok (.iload_n 2, 1) := by decide +kernel
theorem dX3_sumInside_37 : decode cX3_sumInside 37 = .ok (.iload_n 1, 1) := by decide +kernel
theorem dX3_sumInside_38 : decode cX3_sumInside 38 = .ok (.invokestatic 46, 3) := by decide +kernel
theorem dX3_sumInside_41 : decode cX3_sumInside 41 = .ok (.iconst (-1), 1) := by decide +kernel
theorem dX3_sumInside_42 : decode cX3_sumInside 42 = .ok (.ixor, 1) := by decide +kernel
theorem dX3_sumInside_43 : decode cX3_sumInside 43 = .ok (.iand, 1) := by decide +kernel
theorem dX3_sumInside_44 : decode cX3_sumInside 44 = .ok (.iaload, 1) := by decide +kernel
theorem dX3_sumInside_45 : decode cX3_sumInside 45 = .ok (.iadd, 1) := by decide +kernel
theorem dX3_sumInside_46 : decode cX3_sumInside 46 = .ok (.iastore, 1) := by decide +kernel
theorem dX3_sumInside_47 : decode cX3_sumInside 47 = .ok (.iinc 2 1, 3) := by decide +kernel
theorem dX3_sumInside_50 : decode cX3_sumInside 50 = .ok (.goto (-40), 3) := by decide +kernel
theorem dX3_sumInside_53 : decode cX3_sumInside 53 = .ok (.iinc 1 1, 3) := by decide +kernel
theorem dX3_sumInside_56 : decode cX3_sumInside 56 = .ok (.goto (-54), 3) := by decide +kernel
theorem dX3_sumInside_59 : decode cX3_sumInside 59 = .ok (.return_, 1) := by decide +kernel
