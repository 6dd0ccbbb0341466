set_option maxRecDepth 20000 in
theorem ggX4_init_X0_init : GoodIn wsX4_init wsX0_init := goodIn_r _ [21, 22, 2, 3, 23, 24, 25, 80, 81, 82, 83, 84] (by decide +kernel) (by decide +kernel)
set_option maxRecDepth 20000 in
theorem gX4_init_X0_init_n11 : GoodIn wsX4_init (wsX0_init) := ggX4_init_X0_init
set_option maxRecDepth 20000 in
theorem ggX4_init_X3_init : GoodIn wsX4_init wsX3_init := goodIn_r _ [27, 28, 2, 3, 23, 29, 30, 90, 91, 92, 93] (by decide +kernel) (by decide +kernel)
set_option maxRecDepth 20000 in
theorem gX4_init_X3_init_n18 : GoodIn wsX4_init (wsX3_init) := ggX4_init_X3_init
set_option maxRecDepth 20000 in
theorem ggX4_init_X1_init : GoodIn wsX4_init wsX1_init := goodIn_r _ [32, 33, 2, 3, 23, 34, 35, 36, 37, 94, 95, 96, 97] (by decide +kernel) (by decide +kernel)
set_option maxRecDepth 20000 in
theorem gX4_init_X1_init_n25 : GoodIn wsX4_init (wsX1_init) := ggX4_init_X1_init
set_option maxRecDepth 20000 in
theorem ggX4_init_X2_init : GoodIn wsX4_init wsX2_init := goodIn_r _ [39, 40, 2, 3, 23, 41, 42, 43, 98, 99, 100, 101, 102, 103, 104] (by decide +kernel) (by decide +kernel)
set_option maxRecDepth 20000 in
theorem gX4_init_X2_init_n32 : GoodIn wsX4_init (wsX2_init) := ggX4_init_X2_init
set_option maxRecDepth 20000 in
theorem ggX4_init_X4_beginAnew : GoodIn wsX4_init wsX4_beginAnew := goodIn_r _ [48, 7, 11, 15, 19, 49, 50, 51, 52, 6, 53, 24, 25, 54, 55, 56, 57, 58, 59, 60, 61, 62, 63, 10, 64, 65, 66, 67, 68, 14, 69, 34, 35, 36, 37, 70, 71, 72, 73, 18, 74, 42, 43, 75, 76, 77, 78, 79, 85, 86, 87, 88, 89, 80, 81, 82, 83, 84, 90, 91, 92, 93, 94, 95, 96, 97, 98, 99, 100, 101, 102, 103, 104] (by decide +kernel) (by decide +kernel)
set_option maxRecDepth 20000 in
theorem gX4_init_X4_beginAnew : GoodIn wsX4_init (wsV RX4 37 RX4 yX4_beginAnew wsX4_beginAnew) := goodIn_app (goodIn_of _ (by decide +kernel)) ggX4_init_X4_beginAnew
theorem dX4_init_0 : decode cX4_init 0 = .ok (.aload_n 0, 1) := by decide +kernel
theorem dX4_init_1 : decode cX4_init 1 = .ok (.invokespecial 3, 3) := by decide +kernel
theorem dX4_init_4 : decode cX4_init 4 = .ok (.aload_n 0, 1) := by decide +kernel
theorem dX4_init_5 : decode cX4_init 5 = .ok (.new 9, 3) := by decide +kernel
theorem dX4_init_8 : decode cX4_init 8 = .ok (.dup, 1) := by decide +kernel
theorem dX4_init_9 : decode cX4_init 9 = .ok (.invokespecial 11, 3) := by decide +kernel
theorem dX4_init_12 : decode cX4_init 12 = .ok (.putfield 12, 3) := by decide +kernel
theorem dX4_init_15 : decode cX4_init 15 = .ok (.aload_n 0, 1) := by decide +kernel
theorem dX4_init_16 : decode cX4_init 16 = .ok (.new 16, 3) := by decide +kernel
theorem dX4_init_19 : decode cX4_init 19 = .ok (.dup, 1) := by decide +kernel
theorem dX4_init_20 : decode cX4_init 20 = .ok (.invokespecial 18, 3) := by decide +kernel
theorem dX4_init_23 : decode cX4_init 23 = .ok (.putfield 19, 3) := by decide +kernel
theorem dX4_init_26 : decode cX4_init 26 = .ok (.aload_n 0, 1) := by decide +kernel
theorem dX4_init_27 : decode cX4_init 27 = .ok (.new 23, 3) := by decide +kernel
theorem dX4_init_30 : decode cX4_init 30 = .ok (.dup, 1) := by decide +kernel
theorem dX4_init_31 : decode cX4_init 31 = .ok (.invokespecial 25, 3) := by decide +kernel
theorem dX4_init_34 : decode cX4_init 34 = .ok (.putfield 26, 3) := by decide +kernel
theorem dX4_init_37 : decode cX4_init 37 = .ok (.aload_n 0, 1) := by decide +kernel
theorem dX4_init_38 : decode cX4_init 38 = .ok (.new 30, 3) := by decide +kernel
theorem dX4_init_41 : decode cX4_init 41 = .ok (.dup, 1) := by decide +kernel
theorem dX4_init_42 : decode cX4_init 42 = .ok (.invokespecial 32, 3) := by decide +kernel
theorem dX4_init_45 : decode cX4_init 45 = .ok (.putfield 33, 3) := by decide +kernel
theorem dX4_init_48 : decode cX4_init 48 = .ok (.aload_n 0, 1) := by decide +kernel
theorem dX4_init_49 : decode cX4_init 49 = .ok (.iconst 2, 1) := by decide +kernel
theorem dX4_init_50 : decode cX4_init 50 = .ok (.invokevirtual 37, 3) := by decide +kernel
theorem dX4_init_53 : decode cX4_init 53 = .ok (.return_, 1) := by decide +kernel
set_option maxRecDepth 20000 in
theorem ggX4_house_X4_beginAnew : GoodIn wsX4_house wsX4_beginAnew := goodIn_r _ [5, 6, 7, 8, 9, 10, 11, 12, 13, 14, 15, 16, 17, 18, 19, 20, 21, 22, 23, 24, 25, 26, 27, 28, 29, 30, 31, 32, 33, 34, 35, 36, 37, 38, 39, 40, 41, 42, 43, 44, 45, 46, 47, 48, 49, 50, 51, 52, 53, 54, 55, 56, 57, 58, 59, 60, 61, 62, 63, 64, 65, 66, 67, 68, 69, 70, 71, 72, 73, 74, 75, 76, 77] (by decide +kernel) (by decide +kernel)
set_option maxRecDepth 20000 in
theorem gX4_house_X4_beginAnew : GoodIn wsX4_house (wsV RX4 37 RX4 yX4_beginAnew wsX4_beginAnew) := goodIn_app (goodIn_of _ (by decide +kernel)) ggX4_house_X4_beginAnew
theorem dX4_house_0 : decode cX4_house 0 = .ok (.iload_n 1, 1) := by decide +kernel
theorem dX4_house_1 : decode cX4_house 1 = .ok (.iconst 2, 1) := by decide +kernel
theorem dX4_house_2 : decode cX4_house 2 = .ok (.if_icmp .lt 9, 3) := by decide +kernel
theorem dX4_house_5 : decode cX4_house 5 = .ok (.iload_n 1, 1) := by decide +kernel
theorem dX4_house_6 : decode cX4_house 6 = .ok (.bipush 9, 2) := by decide +kernel
theorem dX4_house_8 : decode cX4_house 8 = .ok (.if_icmp .le 5, 3) := by decide +kernel
theorem dX4_house_11 : decode cX4_house 11 = .ok (.iconst 0, 1) := by decide +kernel
theorem dX4_house_12 : decode cX4_house 12 = .ok (.ireturn, 1) := by decide +kernel
theorem dX4_house_13 : decode cX4_house 13 = .ok (.aload_n 0, 1) := by decide +kernel
theorem dX4_house_14 : decode cX4_house 14 = .ok (.iload_n 1, 1) := by decide +kernel
theorem dX4_house_15 : decode cX4_house 15 = .ok (.invokevirtual 37, 3) := by decide +kernel
theorem dX4_house_18 : decode cX4_house 18 = .ok (.iconst 1, 1) := by decide +kernel
theorem dX4_house_19 : decode cX4_house 19 = .ok (.ireturn, 1) := by decide +kernel
set_option maxRecDepth 20000 in
theorem ggX4_door_X0_hasPlace : GoodIn wsX4_door wsX0_hasPlace := goodIn_r _ [7, 8, 39, 40, 41, 42, 43] (by decide +kernel) (by decide +kernel)
set_option maxRecDepth 20000 in
theorem gX4_door_X0_hasPlace : GoodIn wsX4_door (wsV RX4 41 RX0 yX0_hasPlace wsX0_hasPlace) := goodIn_app (goodIn_of _ (by decide +kernel)) ggX4_door_X0_hasPlace
set_option maxRecDepth 20000 in
theorem ggX4_door_X0_hasDoor : GoodIn wsX4_door wsX0_hasDoor := goodIn_r _ [12, 13, 14, 15, 6, 16, 17, 18, 4, 5, 7, 8, 19, 20, 21, 39, 40, 41, 42, 43] (by decide +kernel) (by decide +kernel)
set_option maxRecDepth 20000 in
theorem gX4_door_X0_hasDoor : GoodIn wsX4_door (wsV RX4 45 RX0 yX0_hasDoor wsX0_hasDoor) := goodIn_app (goodIn_of _ (by decide +kernel)) ggX4_door_X0_hasDoor
set_option maxRecDepth 20000 in
theorem ggX4_door_X0_turnDoor : GoodIn wsX4_door wsX0_turnDoor := goodIn_r _ [25, 17, 18, 4, 5, 6, 7, 8, 26, 20, 27, 39, 40, 41, 42, 43] (by decide +kernel) (by decide +kernel)
set_option maxRecDepth 20000 in
theorem gX4_door_X0_turnDoor : GoodIn wsX4_door (wsV RX4 49 RX0 yX0_turnDoor wsX0_turnDoor) := goodIn_app (goodIn_of _ (by decide +kernel)) ggX4_door_X0_turnDoor
set_option maxRecDepth 20000 in
theorem ggX4_door_X3_forget : GoodIn wsX4_door wsX3_forget := goodIn_r _ [32, 33, 44, 45, 46, 47] (by decide +kernel) (by decide +kernel)
set_option maxRecDepth 20000 in
theorem gX4_door_X3_forget : GoodIn wsX4_door (wsV RX4 53 RX3 yX3_forget wsX3_forget) := goodIn_app (goodIn_of _ (by decide +kernel)) ggX4_door_X3_forget
theorem dX4_door_0 : decode cX4_door 0 = .ok (.aload_n 0, 1) := by decide +kernel
theorem dX4_door_1 : decode cX4_door 1 = .ok (.getfield 12, 3) := by decide +kernel
theorem dX4_door_4 : decode cX4_door 4 = .ok (.iload_n 1, 1) := by decide +kernel
theorem dX4_door_5 : decode cX4_door 5 = .ok (.invokevirtual 41, 3) := by decide +kernel
theorem dX4_door_8 : decode cX4_door 8 = .ok (.ifCond .eq 32, 3) := by decide +kernel
theorem dX4_door_11 : decode cX4_door 11 = .ok (.aload_n 0, 1) := by decide +kernel
theorem dX4_door_12 : decode cX4_door 12 = .ok (.getfield 12, 3) := by decide +kernel
theorem dX4_door_15 : decode cX4_door 15 = .ok (.iload_n 2, 1) := by decide +kernel
theorem dX4_door_16 : decode cX4_door 16 = .ok (.invokevirtual 41, 3) := by decide +kernel
theorem dX4_door_19 : decode cX4_door 19 = .ok (.ifCond .eq 21, 3) := by decide +kernel
theorem dX4_door_22 : decode cX4_door 22 = .ok (.iload_n 1, 1) := by decide +kernel
theorem dX4_door_23 : decode cX4_door 23 = .ok (.iload_n 2, 1) := by decide +kernel
theorem dX4_door_24 : decode cX4_door 24 = .ok (.if_icmp .eq 16, 3) := by decide +kernel
theorem dX4_door_27 : decode cX4_door 27 = .ok (.aload_n 0, 1) := by decide +kernel
theorem dX4_door_28 : decode cX4_door 28 = .ok (.getfield 12, 3) := by decide +kernel
theorem dX4_door_31 : decode cX4_door 31 = .ok (.iload_n 1, 1) := by decide +kernel
theorem dX4_door_32 : decode cX4_door 32 = .ok (.iload_n 2, 1) := by decide +kernel
theorem dX4_door_33 : decode cX4_door 33 = .ok (.invokevirtual 45, 3) := by decide +kernel
theorem dX4_door_36 : decode cX4_door 36 = .ok (.iload_n 3, 1) := by decide +kernel
theorem dX4_door_37 : decode cX4_door 37 = .ok (.if_icmp .ne 5, 3) := by decide +kernel
theorem dX4_door_40 : decode cX4_door 40 = .ok (.iconst 0, 1) := by decide +kernel
theorem dX4_door_41 : decode cX4_door 41 = .ok (.ireturn, 1) := by decide +kernel
theorem dX4_door_42 : decode cX4_door 42 = .ok (.aload_n 0, 1) := by decide +kernel
theorem dX4_door_43 : decode cX4_door 43 = .ok (.getfield 12, 3) := by decide +kernel
theorem dX4_door_46 : decode cX4_door 46 = .ok (.iload_n 1, 1) := by decide +kernel
theorem dX4_door_47 : decode cX4_door 47 = .ok (.iload_n 2, 1) := by decide +kernel
theorem dX4_door_48 : decode cX4_door 48 = .ok (.invokevirtual 49, 3) := by decide +kernel
theorem dX4_door_51 : decode cX4_door 51 = .ok (.aload_n 0, 1) := by decide +kernel
theorem dX4_door_52 : decode cX4_door 52 = .ok (.getfield 19, 3) := by decide +kernel
theorem dX4_door_55 : decode cX4_door 55 = .ok (.invokevirtual 53, 3) := by decide +kernel
theorem dX4_door_58 : decode cX4_door 58 = .ok (.iconst 1, 1) := by decide +kernel
theorem dX4_door_59 : decode cX4_door 59 = .ok (.ireturn, 1) := by decide +kernel
set_option maxRecDepth 20000 in
theorem ggX4_is_X0_hasPlace : GoodIn wsX4_is wsX0_hasPlace := goodIn_r _ [8, 9, 39, 40, 41, 42, 43] (by decide +kernel) (by decide +kernel)
set_option maxRecDepth 20000 in
theorem gX4_is_X0_hasPlace : GoodIn wsX4_is (wsV RX4 41 RX0 yX0_hasPlace wsX0_hasPlace) := goodIn_app (goodIn_of _ (by decide +kernel)) ggX4_is_X0_hasPlace
set_option maxRecDepth 20000 in
theorem ggX4_is_X2_decoySet : GoodIn wsX4_is wsX2_decoySet := goodIn_r _ [14, 15, 44, 45, 46, 47, 48, 49, 50] (by decide +kernel) (by decide +kernel)
set_option maxRecDepth 20000 in
theorem gX4_is_X2_decoySet : GoodIn wsX4_is (wsV RX4 56 RX2 yX2_decoySet wsX2_decoySet) := goodIn_app (goodIn_of _ (by decide +kernel)) ggX4_is_X2_decoySet
set_option maxRecDepth 20000 in
theorem ggX4_is_X4_has : GoodIn wsX4_is wsX4_has := goodIn_r _ [19] (by decide +kernel) (by decide +kernel)
set_option maxRecDepth 20000 in
theorem gX4_is_X4_has : GoodIn wsX4_is (va_wsS RX4 60 yX4_has wsX4_has) := goodIn_app (goodIn_of _ (by decide +kernel)) ggX4_is_X4_has
set_option maxRecDepth 20000 in
theorem ggX4_is_X0_setKind : GoodIn wsX4_is wsX0_setKind := goodIn_r _ [23, 24, 25, 26, 18, 27, 39, 40, 41, 42, 43] (by decide +kernel) (by decide +kernel)
set_option maxRecDepth 20000 in
theorem gX4_is_X0_setKind : GoodIn wsX4_is (wsV RX4 63 RX0 yX0_setKind wsX0_setKind) := goodIn_app (goodIn_of _ (by decide +kernel)) ggX4_is_X0_setKind
set_option maxRecDepth 20000 in
theorem ggX4_is_X3_forget : GoodIn wsX4_is wsX3_forget := goodIn_r _ [32, 33, 51, 52, 53, 54] (by decide +kernel) (by decide +kernel)
set_option maxRecDepth 20000 in
theorem gX4_is_X3_forget : GoodIn wsX4_is (wsV RX4 53 RX3 yX3_forget wsX3_forget) := goodIn_app (goodIn_of _ (by decide +kernel)) ggX4_is_X3_forget
theorem dX4_is_0 : decode cX4_is 0 = .ok (.aload_n 0, 1) := by decide +kernel
theorem dX4_is_1 : decode cX4_is 1 = .ok (.getfield 12, 3) := by decide +kernel
theorem dX4_is_4 : decode cX4_is 4 = .ok (.iload_n 1, 1) := by decide +kernel
theorem dX4_is_5 : decode cX4_is 5 = .ok (.invokevirtual 41, 3) := by decide +kernel
theorem dX4_is_8 : decode cX4_is 8 = .ok (.ifCond .eq 26, 3) := by decide +kernel
theorem dX4_is_11 : decode cX4_is 11 = .ok (.iload_n 2, 1) := by decide +kernel
theorem dX4_is_12 : decode cX4_is 12 = .ok (.ifCond .lt 22, 3) := by decide +kernel
theorem dX4_is_15 : decode cX4_is 15 = .ok (.iload_n 2, 1) := by decide +kernel
theorem dX4_is_16 : decode cX4_is 16 = .ok (.iconst 2, 1) := by decide +kernel
theorem dX4_is_17 : decode cX4_is 17 = .ok (.if_icmp .gt 17, 3) := by decide +kernel
theorem dX4_is_20 : decode cX4_is 20 = .ok (.aload_n 0, 1) := by decide +kernel
theorem dX4_is_21 : decode cX4_is 21 = .ok (.getfield 33, 3) := by decide +kernel
theorem dX4_is_24 : decode cX4_is 24 = .ok (.invokevirtual 56, 3) := by decide +kernel
theorem dX4_is_27 : decode cX4_is 27 = .ok (.iload_n 1, 1) := by decide +kernel
theorem dX4_is_28 : decode cX4_is 28 = .ok (.invokestatic 60, 3) := by decide +kernel
theorem dX4_is_31 : decode cX4_is 31 = .ok (.ifCond .eq 5, 3) := by decide +kernel
theorem dX4_is_34 : decode cX4_is 34 = .ok (.iconst 0, 1) := by decide +kernel
theorem dX4_is_35 : decode cX4_is 35 = .ok (.ireturn, 1) := by decide +kernel
theorem dX4_is_36 : decode cX4_is 36 = .ok (.aload_n 0, 1) := by decide +kernel
theorem dX4_is_37 : decode cX4_is 37 = .ok (.getfield 12, 3) := by decide +kernel
theorem dX4_is_40 : decode cX4_is 40 = .ok (.iload_n 1, 1) := by decide +kernel
theorem dX4_is_41 : decode cX4_is 41 = .ok (.iload_n 2, 1) := by decide +kernel
theorem dX4_is_42 : decode cX4_is 42 = .ok (.invokevirtual 63, 3) := by decide +kernel
theorem dX4_is_45 : decode cX4_is 45 = .ok (.aload_n 0, 1) := by decide +kernel
theorem dX4_is_46 : decode cX4_is 46 = .ok (.getfield 19, 3) := by decide +kernel
theorem dX4_is_49 : decode cX4_is 49 = .ok (.invokevirtual 53, 3) := by decide +kernel
theorem dX4_is_52 : decode cX4_is 52 = .ok (.iconst 1, 1) := by decide +kernel
theorem dX4_is_53 : decode cX4_is 53 = .ok (.ireturn, 1) := by decide +kernel
set_option maxRecDepth 20000 in
theorem ggX4_looks_X0_hasPlace : GoodIn wsX4_looks wsX0_hasPlace := goodIn_r _ [6, 7, 23, 24, 25, 26, 27] (by decide +kernel) (by decide +kernel)
set_option maxRecDepth 20000 in
theorem gX4_looks_X0_hasPlace : GoodIn wsX4_looks (wsV RX4 41 RX0 yX0_hasPlace wsX0_hasPlace) := goodIn_app (goodIn_of _ (by decide +kernel)) ggX4_looks_X0_hasPlace
set_option maxRecDepth 20000 in
theorem ggX4_looks_X4_areMarks : GoodIn wsX4_looks wsX4_areMarks := goodIn_r _ [11] (by decide +kernel) (by decide +kernel)
set_option maxRecDepth 20000 in
theorem gX4_looks_X4_areMarks : GoodIn wsX4_looks (va_wsS RX4 66 yX4_areMarks wsX4_areMarks) := goodIn_app (goodIn_of _ (by decide +kernel)) ggX4_looks_X4_areMarks
set_option maxRecDepth 20000 in
theorem ggX4_looks_X0_setMarks : GoodIn wsX4_looks wsX0_setMarks := goodIn_r _ [15, 16, 17, 3, 4, 5, 6, 7, 23, 24, 25, 26, 27] (by decide +kernel) (by decide +kernel)
set_option maxRecDepth 20000 in
theorem gX4_looks_X0_setMarks : GoodIn wsX4_looks (wsV RX4 69 RX0 yX0_setMarks wsX0_setMarks) := goodIn_app (goodIn_of _ (by decide +kernel)) ggX4_looks_X0_setMarks
theorem dX4_looks_0 : decode cX4_looks 0 = .ok (.aload_n 0, 1) := by decide +kernel
theorem dX4_looks_1 : decode cX4_looks 1 = .ok (.getfield 12, 3) := by decide +kernel
theorem dX4_looks_4 : decode cX4_looks 4 = .ok (.iload_n 1, 1) := by decide +kernel
theorem dX4_looks_5 : decode cX4_looks 5 = .ok (.invokevirtual 41, 3) := by decide +kernel
theorem dX4_looks_8 : decode cX4_looks 8 = .ok (.ifCond .eq 10, 3) := by decide +kernel
theorem dX4_looks_11 : decode cX4_looks 11 = .ok (.iload_n 2, 1) := by decide +kernel
theorem dX4_looks_12 : decode cX4_looks 12 = .ok (.invokestatic 66, 3) := by decide +kernel
theorem dX4_looks_15 : decode cX4_looks 15 = .ok (.ifCond .ne 5, 3) := by decide +kernel
theorem dX4_looks_18 : decode cX4_looks 18 = .ok (.iconst 0, 1) := by decide +kernel
theorem dX4_looks_19 : decode cX4_looks 19 = .ok (.ireturn, 1) := by decide +kernel
theorem dX4_looks_20 : decode cX4_looks 20 = .ok (.aload_n 0, 1) := by decide +kernel
theorem dX4_looks_21 : decode cX4_looks 21 = .ok (.getfield 12, 3) := by decide +kernel
theorem dX4_looks_24 : decode cX4_looks 24 = .ok (.iload_n 1, 1) := by decide +kernel
theorem dX4_looks_25 : decode cX4_looks 25 = .ok (.iload_n 2, 1) := by decide +kernel
theorem dX4_looks_26 : decode cX4_looks 26 = .ok (.invokevirtual 69, 3) := by decide +kernel
theorem dX4_looks_29 : decode cX4_looks 29 = .ok (.iconst 1, 1) := by decide +kernel
theorem dX4_looks_30 : decode cX4_looks 30 = .ok (.ireturn, 1) := by decide +kernel
set_option maxRecDepth 20000 in
theorem ggX4_visible_X4_areMarks : GoodIn wsX4_visible wsX4_areMarks := goodIn_r _ [5] (by decide +kernel) (by decide +kernel)
set_option maxRecDepth 20000 in
theorem gX4_visible_X4_areMarks : GoodIn wsX4_visible (va_wsS RX4 66 yX4_areMarks wsX4_areMarks) := goodIn_app (goodIn_of _ (by decide +kernel)) ggX4_visible_X4_areMarks
theorem dX4_visible_0 : decode cX4_visible 0 = .ok (.iload_n 1, 1) := by decide +kernel
theorem dX4_visible_1 : decode cX4_visible 1 = .ok (.invokestatic 66, 3) := by decide +kernel
theorem dX4_visible_4 : decode cX4_visible 4 = .ok (.ifCond .ne 5, 3) := by decide +kernel
theorem dX4_visible_7 : decode cX4_visible 7 = .ok (.iconst 0, 1) := by decide +kernel
theorem dX4_visible_8 : decode cX4_visible 8 = .ok (.ireturn, 1) := by decide +kernel
theorem dX4_visible_9 : decode cX4_visible 9 = .ok (.aload_n 0, 1) := by decide +kernel
theorem dX4_visible_10 : decode cX4_visible 10 = .ok (.iload_n 1, 1) := by decide +kernel
theorem dX4_visible_11 : decode cX4_visible 11 = .ok (.putfield 72, 3) := by decide +kernel
theorem dX4_visible_14 : decode cX4_visible 14 = .ok (.iconst 1, 1) := by decide +kernel
theorem dX4_visible_15 : decode cX4_visible 15 = .ok (.ireturn, 1) := by decide +kernel
set_option maxRecDepth 20000 in
theorem ggX4_round_X4_isRow : GoodIn wsX4_round wsX4_isRow := goodIn_r _ [6, 7, 8, 9, 5, 10, 11, 12, 13, 14, 15, 16, 30, 31, 32, 33, 34, 35, 36, 37, 38, 39] (by decide +kernel) (by decide +kernel)
set_option maxRecDepth 20000 in
theorem gX4_round_X4_isRow : GoodIn wsX4_round (wsV RX4 76 RX4 yX4_isRow wsX4_isRow) := goodIn_app (goodIn_of _ (by decide +kernel)) ggX4_round_X4_isRow
set_option maxRecDepth 20000 in
theorem ggX4_round_X1_replace : GoodIn wsX4_round wsX1_replace := goodIn_r _ [21, 22, 23, 24, 25, 26, 27, 20, 28, 29, 9, 5, 10, 40, 41, 42, 43] (by decide +kernel) (by decide +kernel)
set_option maxRecDepth 20000 in
theorem gX4_round_X1_replace : GoodIn wsX4_round (wsV RX4 79 RX1 yX1_replace wsX1_replace) := goodIn_app (goodIn_of _ (by decide +kernel)) ggX4_round_X1_replace
theorem dX4_round_0 : decode cX4_round 0 = .ok (.iload_n 1, 1) := by decide +kernel
theorem dX4_round_1 : decode cX4_round 1 = .ok (.ifCond .lt 19, 3) := by decide +kernel
theorem dX4_round_4 : decode cX4_round 4 = .ok (.iload_n 1, 1) := by decide +kernel
theorem dX4_round_5 : decode cX4_round 5 = .ok (.bipush 6, 2) := by decide +kernel
theorem dX4_round_7 : decode cX4_round 7 = .ok (.if_icmp .ge 13, 3) := by decide +kernel
theorem dX4_round_10 : decode cX4_round 10 = .ok (.iload_n 2, 1) := by decide +kernel
theorem dX4_round_11 : decode cX4_round 11 = .ok (.ifCond .lt 9, 3) := by decide +kernel
theorem dX4_round_14 : decode cX4_round 14 = .ok (.iload_n 2, 1) := by decide +kernel
theorem dX4_round_15 : decode cX4_round 15 = .ok (.bipush 99, 2) := by decide +kernel
theorem dX4_round_17 : decode cX4_round 17 = .ok (.if_icmp .le 5, 3) := by decide +kernel
theorem dX4_round_20 : decode cX4_round 20 = .ok (.iconst 0, 1) := by decide +kernel
theorem dX4_round_21 : decode cX4_round 21 = .ok (.ireturn, 1) := by decide +kernel
theorem dX4_round_22 : decode cX4_round 22 = .ok (.iload_n 3, 1) := by decide +kernel
theorem dX4_round_23 : decode cX4_round 23 = .ok (.ifCond .lt 19, 3) := by decide +kernel
theorem dX4_round_26 : decode cX4_round 26 = .ok (.iload_n 3, 1) := by decide +kernel
theorem dX4_round_27 : decode cX4_round 27 = .ok (.bipush 8, 2) := by decide +kernel
theorem dX4_round_29 : decode cX4_round 29 = .ok (.if_icmp .gt 13, 3) := by decide +kernel
theorem dX4_round_32 : decode cX4_round 32 = .ok (.aload_n 0, 1) := by decide +kernel
theorem dX4_round_33 : decode cX4_round 33 = .ok (.iload_n 3, 1) := by decide +kernel
theorem dX4_round_34 : decode cX4_round 34 = .ok (.iload 4, 2) := by decide +kernel
theorem dX4_round_36 : decode cX4_round 36 = .ok (.invokevirtual 76, 3) := by decide +kernel
theorem dX4_round_39 : decode cX4_round 39 = .ok (.ifCond .ne 5, 3) := by decide +kernel
theorem dX4_round_42 : decode cX4_round 42 = .ok (.iconst 0, 1) := by decide +kernel
theorem dX4_round_43 : decode cX4_round 43 = .ok (.ireturn, 1) := by decide +kernel
theorem dX4_round_44 : decode cX4_round 44 = .ok (.aload_n 0, 1) := by decide +kernel
theorem dX4_round_45 : decode cX4_round 45 = .ok (.getfield 26, 3) := by decide +kernel
theorem dX4_round_48 : decode cX4_round 48 = .ok (.iload_n 1, 1) := by decide +kernel
theorem dX4_round_49 : decode cX4_round 49 = .ok (.iload_n 2, 1) := by decide +kernel
theorem dX4_round_50 : decode cX4_round 50 = .ok (.iload_n 3, 1) := by decide +kernel
theorem dX4_round_51 : decode cX4_round 51 = .ok (.iload 4, 2) := by decide +kernel
theorem dX4_round_53 : decode cX4_round 53 = .ok (.invokevirtual 79, 3) := by decide +kernel
theorem dX4_round_56 : decode cX4_round 56 = .ok (.iconst 1, 1) := by decide +kernel
theorem dX4_round_57 : decode cX4_round 57 = .ok (.ireturn, 1) := by decide +kernel
set_option maxRecDepth 20000 in
theorem ggX4_look_X0_size : GoodIn wsX4_look wsX0_size := goodIn_r _ [8, 9, 56, 57, 58, 59, 60] (by decide +kernel) (by decide +kernel)
set_option maxRecDepth 20000 in
theorem gX4_look_X0_size : GoodIn wsX4_look (wsV RX4 83 RX0 yX0_size wsX0_size) := goodIn_app (goodIn_of _ (by decide +kernel)) ggX4_look_X0_size
set_option maxRecDepth 20000 in
theorem ggX4_look_X0_countDoors : GoodIn wsX4_look wsX0_countDoors := goodIn_r _ [13, 14, 15, 16, 17, 18, 19, 20, 21, 56, 57, 58, 59, 60] (by decide +kernel) (by decide +kernel)
set_option maxRecDepth 20000 in
theorem gX4_look_X0_countDoors : GoodIn wsX4_look (wsV RX4 86 RX0 yX0_countDoors wsX0_countDoors) := goodIn_app (goodIn_of _ (by decide +kernel)) ggX4_look_X0_countDoors
set_option maxRecDepth 20000 in
theorem ggX4_look_X2_decoySet : GoodIn wsX4_look wsX2_decoySet := goodIn_r _ [26, 27, 61, 62, 63, 64, 65, 66, 67] (by decide +kernel) (by decide +kernel)
set_option maxRecDepth 20000 in
theorem gX4_look_X2_decoySet : GoodIn wsX4_look (wsV RX4 56 RX2 yX2_decoySet wsX2_decoySet) := goodIn_app (goodIn_of _ (by decide +kernel)) ggX4_look_X2_decoySet
set_option maxRecDepth 20000 in
theorem ggX4_look_X2_knownSet : GoodIn wsX4_look wsX2_knownSet := goodIn_r _ [31, 32, 33, 34, 35, 36, 61, 62, 63, 64, 65, 66, 67] (by decide +kernel) (by decide +kernel)
set_option maxRecDepth 20000 in
theorem gX4_look_X2_knownSet : GoodIn wsX4_look (wsV RX4 89 RX2 yX2_knownSet wsX2_knownSet) := goodIn_app (goodIn_of _ (by decide +kernel)) ggX4_look_X2_knownSet
set_option maxRecDepth 20000 in
theorem ggX4_look_X2_today : GoodIn wsX4_look wsX2_today := goodIn_r _ [40, 32, 61, 62, 63, 64, 65, 66, 67] (by decide +kernel) (by decide +kernel)
set_option maxRecDepth 20000 in
theorem gX4_look_X2_today : GoodIn wsX4_look (wsV RX4 92 RX2 yX2_today wsX2_today) := goodIn_app (goodIn_of _ (by decide +kernel)) ggX4_look_X2_today
set_option maxRecDepth 20000 in
theorem ggX4_look_X2_touchCount : GoodIn wsX4_look wsX2_touchCount := goodIn_r _ [44, 45, 61, 62, 63, 64, 65, 66, 67] (by decide +kernel) (by decide +kernel)
set_option maxRecDepth 20000 in
theorem gX4_look_X2_touchCount : GoodIn wsX4_look (wsV RX4 95 RX2 yX2_touchCount wsX2_touchCount) := goodIn_app (goodIn_of _ (by decide +kernel)) ggX4_look_X2_touchCount
set_option maxRecDepth 20000 in
theorem ggX4_look_X2_bears : GoodIn wsX4_look wsX2_bears := goodIn_r _ [49, 50, 61, 62, 63, 64, 65, 66, 67] (by decide +kernel) (by decide +kernel)
set_option maxRecDepth 20000 in
theorem gX4_look_X2_bears : GoodIn wsX4_look (wsV RX4 98 RX2 yX2_bears wsX2_bears) := goodIn_app (goodIn_of _ (by decide +kernel)) ggX4_look_X2_bears
theorem dX4_look_0 : decode cX4_look 0 = .ok (.iload_n 1, 1) := by decide +kernel
theorem dX4_look_1 : decode cX4_look 1 = .ok (.tableswitch 108 0 7 #[47, 55, 63, 71, 79, 87, 95, 100], 47) := by decide +kernel
theorem dX4_look_48 : decode cX4_look 48 = .ok (.aload_n 0, 1) := by decide +kernel
theorem dX4_look_49 : decode cX4_look 49 = .ok (.getfield 12, 3) := by decide +kernel
theorem dX4_look_52 : decode cX4_look 52 = .ok (.invokevirtual 83, 3) := by decide +kernel
theorem dX4_look_55 : decode cX4_look 55 = .ok (.ireturn, 1) := by decide +kernel
theorem dX4_look_56 : decode cX4_look 56 = .ok (.aload_n 0, 1) := by decide +kernel
theorem dX4_look_57 : decode cX4_look 57 = .ok (.getfield 12, 3) := by decide +kernel
theorem dX4_look_60 : decode cX4_look 60 = .ok (.invokevirtual 86, 3) := by decide +kernel
theorem dX4_look_63 : decode cX4_look 63 = .ok (.ireturn, 1) := by decide +kernel
theorem dX4_look_64 : decode cX4_look 64 = .ok (.aload_n 0, 1) := by decide +kernel
theorem dX4_look_65 : decode cX4_look 65 = .ok (.getfield 33, 3) := by decide +kernel
theorem dX4_look_68 : decode cX4_look 68 = .ok (.invokevirtual 56, 3) := by decide +kernel
theorem dX4_look_71 : decode cX4_look 71 = .ok (.ireturn, 1) := by decide +kernel
theorem dX4_look_72 : decode cX4_look 72 = .ok (.aload_n 0, 1) := by decide +kernel
theorem dX4_look_73 : decode cX4_look 73 = .ok (.getfield 33, 3) := by decide +kernel
theorem dX4_look_76 : decode cX4_look 76 = .ok (.invokevirtual 89, 3) := by decide +kernel
theorem dX4_look_79 : decode cX4_look 79 = .ok (.ireturn, 1) := by decide +kernel
theorem dX4_look_80 : decode cX4_look 80 = .ok (.aload_n 0, 1) := by decide +kernel
theorem dX4_look_81 : decode cX4_look 81 = .ok (.getfield 33, 3) := by decide +kernel
theorem dX4_look_84 : decode cX4_look 84 = .ok (.invokevirtual 92, 3) := by decide +kernel
theorem dX4_look_87 : decode cX4_look 87 = .ok (.ireturn, 1) := by decide +kernel
theorem dX4_look_88 : decode cX4_look 88 = .ok (.aload_n 0, 1) := by decide +kernel
theorem dX4_look_89 : decode cX4_look 89 = .ok (.getfield 33, 3) := by decide +kernel
theorem dX4_look_92 : decode cX4_look 92 = .ok (.invokevirtual 95, 3) := by decide +kernel
theorem dX4_look_95 : decode cX4_look 95 = .ok (.ireturn, 1) := by decide +kernel
theorem dX4_look_96 : decode cX4_look 96 = .ok (.aload_n 0, 1) := by decide +kernel
theorem dX4_look_97 : decode cX4_look 97 = .ok (.getfield 72, 3) := by decide +kernel
theorem dX4_look_100 : decode cX4_look 100 = .ok (.ireturn, 1) := by decide +kernel
theorem dX4_look_101 : decode cX4_look 101 = .ok (.aload_n 0, 1) := by decide +kernel
theorem dX4_look_102 : decode cX4_look 102 = .ok (.getfield 33, 3) := by decide +kernel
theorem dX4_look_105 : decode cX4_look 105 = .ok (.invokevirtual 98, 3) := by decide +kernel
theorem dX4_look_108 : decode cX4_look 108 = .ok (.ireturn, 1) := by decide +kernel
theorem dX4_look_109 : decode cX4_look 109 = .ok (.iconst (-1), 1) := by decide +kernel
theorem dX4_look_110 : decode cX4_look 110 = .ok (.ireturn, 1) := by decide +kernel
set_option maxRecDepth 20000 in
theorem ggX4_ways_X4_bookNow : GoodIn wsX4_ways wsX4_bookNow := goodIn_r _ [5, 6, 7, 8, 9, 10, 11, 12, 13, 14, 15, 16, 17, 18, 19, 20, 21, 22, 23, 24, 25, 26, 4, 27, 28, 29, 30, 31, 32, 33, 34, 35, 36, 37, 38, 39, 40, 41, 42, 43, 44, 45, 46, 47, 48, 49, 50, 51, 52, 53, 54, 55, 56, 57, 58, 59, 64, 65, 66, 67, 68, 69, 70, 71, 72, 73, 74, 75, 76, 77] (by decide +kernel) (by decide +kernel)
set_option maxRecDepth 20000 in
theorem gX4_ways_X4_bookNow : GoodIn wsX4_ways (wsV RX4 101 RX4 yX4_bookNow wsX4_bookNow) := goodIn_app (goodIn_of _ (by decide +kernel)) ggX4_ways_X4_bookNow
set_option maxRecDepth 20000 in
theorem ggX4_ways_X3_count : GoodIn wsX4_ways wsX3_count := goodIn_r _ [63, 14, 69, 70, 71, 72] (by decide +kernel) (by decide +kernel)
set_option maxRecDepth 20000 in
theorem gX4_ways_X3_count : GoodIn wsX4_ways (wsV RX4 105 RX3 yX3_count wsX3_count) := goodIn_app (goodIn_of _ (by decide +kernel)) ggX4_ways_X3_count
theorem dX4_ways_0 : decode cX4_ways 0 = .ok (.aload_n 0, 1) := by decide +kernel
theorem dX4_ways_1 : decode cX4_ways 1 = .ok (.invokevirtual 101, 3) := by decide +kernel
theorem dX4_ways_4 : decode cX4_ways 4 = .ok (.invokevirtual 105, 3) := by decide +kernel
theorem dX4_ways_7 : decode cX4_ways 7 = .ok (.ireturn, 1) := by decide +kernel
set_option maxRecDepth 20000 in
theorem ggX4_way_X4_bookNow : GoodIn wsX4_way wsX4_bookNow := goodIn_r _ [5, 6, 7, 8, 9, 10, 11, 12, 13, 14, 15, 16, 17, 18, 19, 20, 21, 22, 23, 24, 25, 26, 4, 27, 28, 29, 30, 31, 32, 33, 34, 35, 36, 37, 38, 39, 40, 41, 42, 43, 44, 45, 46, 47, 48, 49, 50, 51, 52, 53, 54, 55, 56, 57, 58, 59, 71, 72, 73, 74, 75, 76, 77, 78, 79, 80, 81, 82, 83, 84] (by decide +kernel) (by decide +kernel)
set_option maxRecDepth 20000 in
theorem gX4_way_X4_bookNow : GoodIn wsX4_way (wsV RX4 101 RX4 yX4_bookNow wsX4_bookNow) := goodIn_app (goodIn_of _ (by decide +kernel)) ggX4_way_X4_bookNow
set_option maxRecDepth 20000 in
theorem ggX4_way_X3_count : GoodIn wsX4_way wsX3_count := goodIn_r _ [63, 14, 76, 77, 78, 79] (by decide +kernel) (by decide +kernel)
set_option maxRecDepth 20000 in
theorem gX4_way_X3_count : GoodIn wsX4_way (wsV RX4 105 RX3 yX3_count wsX3_count) := goodIn_app (goodIn_of _ (by decide +kernel)) ggX4_way_X3_count
set_option maxRecDepth 20000 in
theorem ggX4_way_X3_trail : GoodIn wsX4_way wsX3_trail := goodIn_r _ [67, 14, 55, 76, 77, 78, 79] (by decide +kernel) (by decide +kernel)
set_option maxRecDepth 20000 in
theorem gX4_way_X3_trail : GoodIn wsX4_way (wsV RX4 108 RX3 yX3_trail wsX3_trail) := goodIn_app (goodIn_of _ (by decide +kernel)) ggX4_way_X3_trail
set_option maxRecDepth 20000 in
theorem ggX4_way_X4_placeOn : GoodIn wsX4_way wsX4_placeOn := goodIn_r _ [70] (by decide +kernel) (by decide +kernel)
set_option maxRecDepth 20000 in
theorem gX4_way_X4_placeOn : GoodIn wsX4_way (va_wsS RX4 112 yX4_placeOn wsX4_placeOn) := goodIn_app (goodIn_of _ (by decide +kernel)) ggX4_way_X4_placeOn
theorem dX4_way_0 : decode cX4_way 0 = .ok (.aload_n 0, 1) := by decide +kernel
theorem dX4_way_1 : decode cX4_way 1 = .ok (.invokevirtual 101, 3) := by decide +kernel
theorem dX4_way_4 : decode cX4_way 4 = .ok (.astore_n 3, 1) := by decide +kernel
theorem dX4_way_5 : decode cX4_way 5 = .ok (.iload_n 1, 1) := by decide +kernel
theorem dX4_way_6 : decode cX4_way 6 = .ok (.ifCond .lt 11, 3) := by decide +kernel
theorem dX4_way_9 : decode cX4_way 9 = .ok (.iload_n 1, 1) := by decide +kernel
theorem dX4_way_10 : decode cX4_way 10 = .ok (.aload_n 3, 1) := by decide +kernel
theorem dX4_way_11 : decode cX4_way 11 = .ok (.invokevirtual 105, 3) := by decide +kernel
theorem dX4_way_14 : decode cX4_way 14 = .ok (.if_icmp .lt 5, 3) := by decide +kernel
theorem dX4_way_17 : decode cX4_way 17 = .ok (.iconst (-1), 1) := by decide +kernel
theorem dX4_way_18 : decode cX4_way 18 = .ok (.ireturn, 1) := by decide +kernel
theorem dX4_way_19 : decode cX4_way 19 = .ok (.aload_n 3, 1) := by decide +kernel
theorem dX4_way_20 : decode cX4_way 20 = .ok (.iload_n 1, 1) := by decide +kernel
theorem dX4_way_21 : decode cX4_way 21 = .ok (.invokevirtual 108, 3) := by decide +kernel
theorem dX4_way_24 : decode cX4_way 24 = .ok (.iload_n 2, 1) := by decide +kernel
theorem dX4_way_25 : decode cX4_way 25 = .ok (.invokestatic 112, 3) := by decide +kernel
theorem dX4_way_28 : decode cX4_way 28 = .ok (.ireturn, 1) := by decide +kernel
set_option maxRecDepth 20000 in
theorem ggX4_touched_X4_bookNow : GoodIn wsX4_touched wsX4_bookNow := goodIn_r _ [6, 7, 1, 8, 9, 10, 11, 12, 13, 14, 15, 16, 17, 18, 19, 20, 21, 22, 23, 24, 25, 26, 5, 27, 28, 29, 30, 31, 32, 33, 34, 35, 36, 37, 38, 39, 40, 41, 42, 43, 44, 45, 46, 47, 48, 49, 50, 51, 52, 53, 54, 55, 56, 57, 58, 59, 72, 73, 74, 75, 76, 77, 78, 79, 80, 81, 82, 83, 84, 85] (by decide +kernel) (by decide +kernel)
set_option maxRecDepth 20000 in
theorem gX4_touched_X4_bookNow : GoodIn wsX4_touched (wsV RX4 101 RX4 yX4_bookNow wsX4_bookNow) := goodIn_app (goodIn_of _ (by decide +kernel)) ggX4_touched_X4_bookNow
set_option maxRecDepth 20000 in
theorem ggX4_touched_X0_hasSet : GoodIn wsX4_touched wsX0_hasSet := goodIn_r _ [63, 45, 81, 82, 83, 84, 85] (by decide +kernel) (by decide +kernel)
set_option maxRecDepth 20000 in
theorem gX4_touched_X0_hasSet : GoodIn wsX4_touched (wsV RX4 116 RX0 yX0_hasSet wsX0_hasSet) := goodIn_app (goodIn_of _ (by decide +kernel)) ggX4_touched_X0_hasSet
set_option maxRecDepth 20000 in
theorem ggX4_touched_X3_count : GoodIn wsX4_touched wsX3_count := goodIn_r _ [67, 14, 77, 78, 79, 80] (by decide +kernel) (by decide +kernel)
set_option maxRecDepth 20000 in
theorem gX4_touched_X3_count : GoodIn wsX4_touched (wsV RX4 105 RX3 yX3_count wsX3_count) := goodIn_app (goodIn_of _ (by decide +kernel)) ggX4_touched_X3_count
set_option maxRecDepth 20000 in
theorem ggX4_touched_X3_countTouchedBy : GoodIn wsX4_touched wsX3_countTouchedBy := goodIn_r _ [71, 14, 15, 77, 78, 79, 80] (by decide +kernel) (by decide +kernel)
set_option maxRecDepth 20000 in
theorem gX4_touched_X3_countTouchedBy : GoodIn wsX4_touched (wsV RX4 119 RX3 yX3_countTouchedBy wsX3_countTouchedBy) := goodIn_app (goodIn_of _ (by decide +kernel)) ggX4_touched_X3_countTouchedBy
theorem dX4_touched_0 : decode cX4_touched 0 = .ok (.aload_n 0, 1) := by decide +kernel
theorem dX4_touched_1 : decode cX4_touched 1 = .ok (.invokevirtual 101, 3) := by decide +kernel
theorem dX4_touched_4 : decode cX4_touched 4 = .ok (.astore_n 2, 1) := by decide +kernel
theorem dX4_touched_5 : decode cX4_touched 5 = .ok (.aload_n 0, 1) := by decide +kernel
theorem dX4_touched_6 : decode cX4_touched 6 = .ok (.getfield 12, 3) := by decide +kernel
theorem dX4_touched_9 : decode cX4_touched 9 = .ok (.iload_n 1, 1) := by decide +kernel
theorem dX4_touched_10 : decode cX4_touched 10 = .ok (.invokevirtual 116, 3) := by decide +kernel
theorem dX4_touched_13 : decode cX4_touched 13 = .ok (.ifCond .eq 11, 3) := by decide +kernel
theorem dX4_touched_16 : decode cX4_touched 16 = .ok (.aload_n 2, 1) := by decide +kernel
theorem dX4_touched_17 : decode cX4_touched 17 = .ok (.invokevirtual 105, 3) := by decide +kernel
theorem dX4_touched_20 : decode cX4_touched 20 = .ok (.iconst (-1), 1) := by decide +kernel
theorem dX4_touched_21 : decode cX4_touched 21 = .ok (.if_icmp .ne 5, 3) := by decide +kernel
theorem dX4_touched_24 : decode cX4_touched 24 = .ok (.iconst (-1), 1) := by decide +kernel
theorem dX4_touched_25 : decode cX4_touched 25 = .ok (.ireturn, 1) := by decide +kernel
theorem dX4_touched_26 : decode cX4_touched 26 = .ok (.aload_n 2, 1) := by decide +kernel
theorem dX4_touched_27 : decode cX4_touched 27 = .ok (.iload_n 1, 1) := by decide +kernel
theorem dX4_touched_28 : decode cX4_touched 28 = .ok (.invokevirtual 119, 3) := by decide +kernel
theorem dX4_touched_31 : decode cX4_touched 31 = .ok (.ireturn, 1) := by decide +kernel
set_option maxRecDepth 20000 in
theorem ggX4_honest_X0_hasSet : GoodIn wsX4_honest wsX0_hasSet := goodIn_r _ [7, 8, 23, 24, 25, 26, 27] (by decide +kernel) (by decide +kernel)
set_option maxRecDepth 20000 in
theorem gX4_honest_X0_hasSet : GoodIn wsX4_honest (wsV RX4 116 RX0 yX0_hasSet wsX0_hasSet) := goodIn_app (goodIn_of _ (by decide +kernel)) ggX4_honest_X0_hasSet
set_option maxRecDepth 20000 in
theorem ggX4_honest_X1_touchesOf : GoodIn wsX4_honest wsX1_touchesOf := goodIn_r _ [13, 14, 15, 16, 17, 28, 29, 30, 31] (by decide +kernel) (by decide +kernel)
set_option maxRecDepth 20000 in
theorem gX4_honest_X1_touchesOf : GoodIn wsX4_honest (wsV RX4 122 RX1 yX1_touchesOf wsX1_touchesOf) := goodIn_app (goodIn_of _ (by decide +kernel)) ggX4_honest_X1_touchesOf
theorem dX4_honest_0 : decode cX4_honest 0 = .ok (.aload_n 0, 1) := by decide +kernel
theorem dX4_honest_1 : decode cX4_honest 1 = .ok (.getfield 12, 3) := by decide +kernel
theorem dX4_honest_4 : decode cX4_honest 4 = .ok (.iload_n 1, 1) := by decide +kernel
theorem dX4_honest_5 : decode cX4_honest 5 = .ok (.invokevirtual 116, 3) := by decide +kernel
theorem dX4_honest_8 : decode cX4_honest 8 = .ok (.ifCond .eq 14, 3) := by decide +kernel
theorem dX4_honest_11 : decode cX4_honest 11 = .ok (.aload_n 0, 1) := by decide +kernel
theorem dX4_honest_12 : decode cX4_honest 12 = .ok (.getfield 26, 3) := by decide +kernel
theorem dX4_honest_15 : decode cX4_honest 15 = .ok (.iload_n 1, 1) := by decide +kernel
theorem dX4_honest_16 : decode cX4_honest 16 = .ok (.invokevirtual 122, 3) := by decide +kernel
theorem dX4_honest_19 : decode cX4_honest 19 = .ok (.goto 4, 3) := by decide +kernel
theorem dX4_honest_22 : decode cX4_honest 22 = .ok (.iconst (-1), 1) := by decide +kernel
theorem dX4_honest_23 : decode cX4_honest 23 = .ok (.ireturn, 1) := by decide +kernel
set_option maxRecDepth 20000 in
theorem ggX4_best_X4_bookNow : GoodIn wsX4_best wsX4_bookNow := goodIn_r _ [7, 1, 8, 9, 10, 11, 12, 13, 14, 15, 16, 17, 18, 19, 20, 21, 22, 23, 24, 25, 26, 27, 6, 28, 29, 30, 31, 32, 33, 34, 35, 36, 37, 38, 39, 40, 41, 42, 43, 44, 45, 46, 47, 48, 49, 50, 51, 52, 53, 54, 55, 56, 57, 58, 59, 60, 106, 107, 108, 109, 110, 111, 112, 113, 114, 115, 116, 117, 118, 119] (by decide +kernel) (by decide +kernel)
set_option maxRecDepth 20000 in
theorem gX4_best_X4_bookNow : GoodIn wsX4_best (wsV RX4 101 RX4 yX4_bookNow wsX4_bookNow) := goodIn_app (goodIn_of _ (by decide +kernel)) ggX4_best_X4_bookNow
set_option maxRecDepth 20000 in
theorem ggX4_best_X3_count : GoodIn wsX4_best wsX3_count := goodIn_r _ [64, 15, 111, 112, 113, 114] (by decide +kernel) (by decide +kernel)
set_option maxRecDepth 20000 in
theorem gX4_best_X3_count : GoodIn wsX4_best (wsV RX4 105 RX3 yX3_count wsX3_count) := goodIn_app (goodIn_of _ (by decide +kernel)) ggX4_best_X3_count
set_option maxRecDepth 20000 in
theorem ggX4_best_X4_findBest : GoodIn wsX4_best wsX4_findBest := goodIn_r _ [68, 2, 69, 70, 71, 6, 72, 8, 73, 74, 75, 76, 24, 77, 46, 26, 51, 78, 79, 80, 81, 82, 83, 84, 31, 32, 85, 86, 87, 88, 89, 90, 91, 92, 93, 94, 95, 96, 97, 27, 28, 98, 99, 100, 101, 1, 102, 103, 104, 12, 105, 15, 16, 106, 107, 108, 109, 110, 115, 116, 117, 118, 119, 120, 121, 122, 123, 124, 125, 126, 127, 128, 129, 130, 111, 112, 113, 114] (by decide +kernel) (by decide +kernel)
set_option maxRecDepth 20000 in
theorem gX4_best_X4_findBest : GoodIn wsX4_best (wsV RX4 125 RX4 yX4_findBest wsX4_findBest) := goodIn_app (goodIn_of _ (by decide +kernel)) ggX4_best_X4_findBest
set_option maxRecDepth 20000 in
theorem ggX4_best_X3_countTouchedBy : GoodIn wsX4_best wsX3_countTouchedBy := goodIn_r _ [105, 15, 16, 111, 112, 113, 114] (by decide +kernel) (by decide +kernel)
set_option maxRecDepth 20000 in
theorem gX4_best_X3_countTouchedBy : GoodIn wsX4_best (wsV RX4 119 RX3 yX3_countTouchedBy wsX3_countTouchedBy) := goodIn_app (goodIn_of _ (by decide +kernel)) ggX4_best_X3_countTouchedBy
set_option maxRecDepth 20000 in
theorem ggX4_best_X1_touchesOf : GoodIn wsX4_best wsX1_touchesOf := goodIn_r _ [96, 97, 27, 6, 28, 127, 128, 129, 130] (by decide +kernel) (by decide +kernel)
set_option maxRecDepth 20000 in
theorem gX4_best_X1_touchesOf : GoodIn wsX4_best (wsV RX4 122 RX1 yX1_touchesOf wsX1_touchesOf) := goodIn_app (goodIn_of _ (by decide +kernel)) ggX4_best_X1_touchesOf
theorem dX4_best_0 : decode cX4_best 0 = .ok (.iload_n 1, 1) := by decide +kernel
theorem dX4_best_1 : decode cX4_best 1 = .ok (.ifCond .lt 24, 3) := by decide +kernel
theorem dX4_best_4 : decode cX4_best 4 = .ok (.iload_n 1, 1) := by decide +kernel
theorem dX4_best_5 : decode cX4_best 5 = .ok (.bipush 9, 2) := by decide +kernel
theorem dX4_best_7 : decode cX4_best 7 = .ok (.if_icmp .gt 18, 3) := by decide +kernel
theorem dX4_best_10 : decode cX4_best 10 = .ok (.iload_n 2, 1) := by decide +kernel
theorem dX4_best_11 : decode cX4_best 11 = .ok (.ifCond .lt 14, 3) := by decide +kernel
theorem dX4_best_14 : decode cX4_best 14 = .ok (.aload_n 0, 1) := by decide +kernel
theorem dX4_best_15 : decode cX4_best 15 = .ok (.invokevirtual 101, 3) := by decide +kernel
theorem dX4_best_18 : decode cX4_best 18 = .ok (.invokevirtual 105, 3) := by decide +kernel
theorem dX4_best_21 : decode cX4_best 21 = .ok (.iconst (-1), 1) := by decide +kernel
theorem dX4_best_22 : decode cX4_best 22 = .ok (.if_icmp .ne 5, 3) := by decide +kernel
theorem dX4_best_25 : decode cX4_best 25 = .ok (.iconst (-1), 1) := by decide +kernel
theorem dX4_best_26 : decode cX4_best 26 = .ok (.ireturn, 1) := by decide +kernel
theorem dX4_best_27 : decode cX4_best 27 = .ok (.aload_n 0, 1) := by decide +kernel
theorem dX4_best_28 : decode cX4_best 28 = .ok (.iload_n 1, 1) := by decide +kernel
theorem dX4_best_29 : decode cX4_best 29 = .ok (.iload_n 2, 1) := by decide +kernel
theorem dX4_best_30 : decode cX4_best 30 = .ok (.invokevirtual 125, 3) := by decide +kernel
theorem dX4_best_33 : decode cX4_best 33 = .ok (.istore 4, 2) := by decide +kernel
theorem dX4_best_35 : decode cX4_best 35 = .ok (.iload_n 3, 1) := by decide +kernel
theorem dX4_best_36 : decode cX4_best 36 = .ok (.tableswitch 51 0 2 #[28, 38, 41], 28) := by decide +kernel
theorem dX4_best_64 : decode cX4_best 64 = .ok (.aload_n 0, 1) := by decide +kernel
theorem dX4_best_65 : decode cX4_best 65 = .ok (.getfield 19, 3) := by decide +kernel
theorem dX4_best_68 : decode cX4_best 68 = .ok (.iload 4, 2) := by decide +kernel
theorem dX4_best_70 : decode cX4_best 70 = .ok (.invokevirtual 119, 3) := by decide +kernel
theorem dX4_best_73 : decode cX4_best 73 = .ok (.ireturn, 1) := by decide +kernel
theorem dX4_best_74 : decode cX4_best 74 = .ok (.iload 4, 2) := by decide +kernel
theorem dX4_best_76 : decode cX4_best 76 = .ok (.ireturn, 1) := by decide +kernel
theorem dX4_best_77 : decode cX4_best 77 = .ok (.aload_n 0, 1) := by decide +kernel
theorem dX4_best_78 : decode cX4_best 78 = .ok (.getfield 26, 3) := by decide +kernel
theorem dX4_best_81 : decode cX4_best 81 = .ok (.iload 4, 2) := by decide +kernel
theorem dX4_best_83 : decode cX4_best 83 = .ok (.invokevirtual 122, 3) := by decide +kernel
theorem dX4_best_86 : decode cX4_best 86 = .ok (.ireturn, 1) := by decide +kernel
theorem dX4_best_87 : decode cX4_best 87 = .ok (.iconst (-1), 1) := by decide +kernel
theorem dX4_best_88 : decode cX4_best 88 = .ok (.ireturn, 1) := by decide +kernel
set_option maxRecDepth 20000 in
theorem ggX4_cover_X4_bookNow : GoodIn wsX4_cover wsX4_bookNow := goodIn_r _ [6, 1, 7, 8, 9, 10, 11, 12, 13, 14, 15, 16, 17, 18, 19, 20, 21, 22, 23, 24, 25, 26, 5, 27, 28, 29, 30, 31, 32, 33, 34, 35, 36, 37, 38, 39, 40, 41, 42, 43, 44, 45, 46, 47, 48, 49, 50, 51, 52, 53, 54, 55, 56, 57, 58, 59, 106, 107, 108, 109, 110, 111, 112, 113, 114, 115, 116, 117, 118, 119] (by decide +kernel) (by decide +kernel)
set_option maxRecDepth 20000 in
theorem gX4_cover_X4_bookNow : GoodIn wsX4_cover (wsV RX4 101 RX4 yX4_bookNow wsX4_bookNow) := goodIn_app (goodIn_of _ (by decide +kernel)) ggX4_cover_X4_bookNow
set_option maxRecDepth 20000 in
theorem ggX4_cover_X3_count : GoodIn wsX4_cover wsX3_count := goodIn_r _ [63, 14, 111, 112, 113, 114] (by decide +kernel) (by decide +kernel)
set_option maxRecDepth 20000 in
theorem gX4_cover_X3_count : GoodIn wsX4_cover (wsV RX4 105 RX3 yX3_count wsX3_count) := goodIn_app (goodIn_of _ (by decide +kernel)) ggX4_cover_X3_count
set_option maxRecDepth 20000 in
theorem ggX4_cover_X4_findBest : GoodIn wsX4_cover wsX4_findBest := goodIn_r _ [67, 68, 69, 70, 71, 5, 72, 7, 73, 74, 75, 76, 23, 77, 45, 25, 50, 78, 79, 80, 81, 82, 83, 84, 30, 31, 85, 86, 87, 88, 89, 90, 91, 92, 93, 94, 95, 96, 97, 26, 27, 98, 99, 100, 101, 1, 102, 103, 104, 11, 105, 14, 15, 106, 107, 108, 109, 110, 115, 116, 117, 118, 119, 120, 121, 122, 123, 124, 125, 126, 127, 128, 129, 130, 111, 112, 113, 114] (by decide +kernel) (by decide +kernel)
set_option maxRecDepth 20000 in
theorem gX4_cover_X4_findBest : GoodIn wsX4_cover (wsV RX4 125 RX4 yX4_findBest wsX4_findBest) := goodIn_app (goodIn_of _ (by decide +kernel)) ggX4_cover_X4_findBest
set_option maxRecDepth 20000 in
theorem ggX4_cover_X3_countTouchedBy : GoodIn wsX4_cover wsX3_countTouchedBy := goodIn_r _ [105, 14, 15, 111, 112, 113, 114] (by decide +kernel) (by decide +kernel)
set_option maxRecDepth 20000 in
theorem gX4_cover_X3_countTouchedBy : GoodIn wsX4_cover (wsV RX4 119 RX3 yX3_countTouchedBy wsX3_countTouchedBy) := goodIn_app (goodIn_of _ (by decide +kernel)) ggX4_cover_X3_countTouchedBy
theorem dX4_cover_0 : decode cX4_cover 0 = .ok (.aload_n 0, 1) := by decide +kernel
theorem dX4_cover_1 : decode cX4_cover 1 = .ok (.invokevirtual 101, 3) := by decide +kernel
theorem dX4_cover_4 : decode cX4_cover 4 = .ok (.invokevirtual 105, 3) := by decide +kernel
theorem dX4_cover_7 : decode cX4_cover 7 = .ok (.istore_n 1, 1) := by decide +kernel
theorem dX4_cover_8 : decode cX4_cover 8 = .ok (.iload_n 1, 1) := by decide +kernel
theorem dX4_cover_9 : decode cX4_cover 9 = .ok (.iconst (-1), 1) := by decide +kernel
theorem dX4_cover_10 : decode cX4_cover 10 = .ok (.if_icmp .ne 5, 3) := by decide +kernel
theorem dX4_cover_13 : decode cX4_cover 13 = .ok (.iconst (-1), 1) := by decide +kernel
theorem dX4_cover_14 : decode cX4_cover 14 = .ok (.ireturn, 1) := by decide +kernel
theorem dX4_cover_15 : decode cX4_cover 15 = .ok (.aload_n 0, 1) := by decide +kernel
theorem dX4_cover_16 : decode cX4_cover 16 = .ok (.bipush 9, 2) := by decide +kernel
theorem dX4_cover_18 : decode cX4_cover 18 = .ok (.sipush 4752, 3) := by decide +kernel
theorem dX4_cover_21 : decode cX4_cover 21 = .ok (.invokevirtual 125, 3) := by decide +kernel
theorem dX4_cover_24 : decode cX4_cover 24 = .ok (.istore_n 2, 1) := by decide +kernel
theorem dX4_cover_25 : decode cX4_cover 25 = .ok (.aload_n 0, 1) := by decide +kernel
theorem dX4_cover_26 : decode cX4_cover 26 = .ok (.getfield 19, 3) := by decide +kernel
theorem dX4_cover_29 : decode cX4_cover 29 = .ok (.iload_n 2, 1) := by decide +kernel
theorem dX4_cover_30 : decode cX4_cover 30 = .ok (.invokevirtual 119, 3) := by decide +kernel
theorem dX4_cover_33 : decode cX4_cover 33 = .ok (.iload_n 1, 1) := by decide +kernel
theorem dX4_cover_34 : decode cX4_cover 34 = .ok (.if_icmp .ne 7, 3) := by decide +kernel
theorem dX4_cover_37 : decode cX4_cover 37 = .ok (.iload_n 2, 1) := by decide +kernel
theorem dX4_cover_38 : decode cX4_cover 38 = .ok (.goto 4, 3) := by decide +kernel
theorem dX4_cover_41 : decode cX4_cover 41 = .ok (.iconst (-1), 1) := by decide +kernel
theorem dX4_cover_42 : decode cX4_cover 42 = .ok (.ireturn, 1) := by decide +kernel
set_option maxRecDepth 20000 in
theorem ggX4_lay_X0_hasSet : GoodIn wsX4_lay wsX0_hasSet := goodIn_r _ [7, 8, 43, 44, 45, 46, 47] (by decide +kernel) (by decide +kernel)
set_option maxRecDepth 20000 in
theorem gX4_lay_X0_hasSet : GoodIn wsX4_lay (wsV RX4 116 RX0 yX0_hasSet wsX0_hasSet) := goodIn_app (goodIn_of _ (by decide +kernel)) ggX4_lay_X0_hasSet
set_option maxRecDepth 20000 in
theorem ggX4_lay_X4_layableSet : GoodIn wsX4_lay wsX4_layableSet := goodIn_r _ [13, 1, 2, 14, 15, 16, 6, 17, 8, 18, 19, 20, 21, 22, 23, 24, 25, 26, 27, 12, 28, 38, 39, 40, 41, 42, 43, 44, 45, 46, 47, 48, 49, 50, 51, 52, 53, 54] (by decide +kernel) (by decide +kernel)
set_option maxRecDepth 20000 in
theorem gX4_lay_X4_layableSet : GoodIn wsX4_lay (wsV RX4 128 RX4 yX4_layableSet wsX4_layableSet) := goodIn_app (goodIn_of _ (by decide +kernel)) ggX4_lay_X4_layableSet
set_option maxRecDepth 20000 in
theorem ggX4_lay_X2_layDecoys : GoodIn wsX4_lay wsX2_layDecoys := goodIn_r _ [32, 33, 34, 35, 36, 12, 37, 48, 49, 50, 51, 52, 53, 54] (by decide +kernel) (by decide +kernel)
set_option maxRecDepth 20000 in
theorem gX4_lay_X2_layDecoys : GoodIn wsX4_lay (wsV RX4 131 RX2 yX2_layDecoys wsX2_layDecoys) := goodIn_app (goodIn_of _ (by decide +kernel)) ggX4_lay_X2_layDecoys
theorem dX4_lay_0 : decode cX4_lay 0 = .ok (.aload_n 0, 1) := by decide +kernel
theorem dX4_lay_1 : decode cX4_lay 1 = .ok (.getfield 12, 3) := by decide +kernel
theorem dX4_lay_4 : decode cX4_lay 4 = .ok (.iload_n 1, 1) := by decide +kernel
theorem dX4_lay_5 : decode cX4_lay 5 = .ok (.invokevirtual 116, 3) := by decide +kernel
theorem dX4_lay_8 : decode cX4_lay 8 = .ok (.ifCond .eq 14, 3) := by decide +kernel
theorem dX4_lay_11 : decode cX4_lay 11 = .ok (.iload_n 1, 1) := by decide +kernel
theorem dX4_lay_12 : decode cX4_lay 12 = .ok (.aload_n 0, 1) := by decide +kernel
theorem dX4_lay_13 : decode cX4_lay 13 = .ok (.invokevirtual 128, 3) := by decide +kernel
theorem dX4_lay_16 : decode cX4_lay 16 = .ok (.iconst (-1), 1) := by decide +kernel
theorem dX4_lay_17 : decode cX4_lay 17 = .ok (.ixor, 1) := by decide +kernel
theorem dX4_lay_18 : decode cX4_lay 18 = .ok (.iand, 1) := by decide +kernel
theorem dX4_lay_19 : decode cX4_lay 19 = .ok (.ifCond .eq 5, 3) := by decide +kernel
theorem dX4_lay_22 : decode cX4_lay 22 = .ok (.iconst 0, 1) := by decide +kernel
theorem dX4_lay_23 : decode cX4_lay 23 = .ok (.ireturn, 1) := by decide +kernel
theorem dX4_lay_24 : decode cX4_lay 24 = .ok (.aload_n 0, 1) := by decide +kernel
theorem dX4_lay_25 : decode cX4_lay 25 = .ok (.getfield 33, 3) := by decide +kernel
theorem dX4_lay_28 : decode cX4_lay 28 = .ok (.iload_n 1, 1) := by decide +kernel
theorem dX4_lay_29 : decode cX4_lay 29 = .ok (.invokevirtual 131, 3) := by decide +kernel
theorem dX4_lay_32 : decode cX4_lay 32 = .ok (.iconst 1, 1) := by decide +kernel
theorem dX4_lay_33 : decode cX4_lay 33 = .ok (.ireturn, 1) := by decide +kernel
set_option maxRecDepth 20000 in
theorem ggX4_unlike_X2_decoySet : GoodIn wsX4_unlike wsX2_decoySet := goodIn_r _ [12, 13, 46, 47, 48, 49, 50, 51, 52] (by decide +kernel) (by decide +kernel)
set_option maxRecDepth 20000 in
theorem gX4_unlike_X2_decoySet : GoodIn wsX4_unlike (wsV RX4 56 RX2 yX2_decoySet wsX2_decoySet) := goodIn_app (goodIn_of _ (by decide +kernel)) ggX4_unlike_X2_decoySet
set_option maxRecDepth 20000 in
theorem ggX4_unlike_X0_hasPlace : GoodIn wsX4_unlike wsX0_hasPlace := goodIn_r _ [18, 19, 53, 54, 55, 56, 57] (by decide +kernel) (by decide +kernel)
set_option maxRecDepth 20000 in
theorem gX4_unlike_X0_hasPlace : GoodIn wsX4_unlike (wsV RX4 41 RX0 yX0_hasPlace wsX0_hasPlace) := goodIn_app (goodIn_of _ (by decide +kernel)) ggX4_unlike_X0_hasPlace
set_option maxRecDepth 20000 in
theorem ggX4_unlike_X4_has : GoodIn wsX4_unlike wsX4_has := goodIn_r _ [23] (by decide +kernel) (by decide +kernel)
set_option maxRecDepth 20000 in
theorem gX4_unlike_X4_has : GoodIn wsX4_unlike (va_wsS RX4 60 yX4_has wsX4_has) := goodIn_app (goodIn_of _ (by decide +kernel)) ggX4_unlike_X4_has
set_option maxRecDepth 20000 in
theorem ggX4_unlike_X0_size : GoodIn wsX4_unlike wsX0_size := goodIn_r _ [27, 19, 53, 54, 55, 56, 57] (by decide +kernel) (by decide +kernel)
set_option maxRecDepth 20000 in
theorem gX4_unlike_X0_size : GoodIn wsX4_unlike (wsV RX4 83 RX0 yX0_size wsX0_size) := goodIn_app (goodIn_of _ (by decide +kernel)) ggX4_unlike_X0_size
set_option maxRecDepth 20000 in
theorem ggX4_unlike_X0_marks : GoodIn wsX4_unlike wsX0_marks := goodIn_r _ [31, 32, 33, 15, 16, 17, 18, 19, 53, 54, 55, 56, 57] (by decide +kernel) (by decide +kernel)
set_option maxRecDepth 20000 in
theorem gX4_unlike_X0_marks : GoodIn wsX4_unlike (wsV RX4 134 RX0 yX0_marks wsX0_marks) := goodIn_app (goodIn_of _ (by decide +kernel)) ggX4_unlike_X0_marks
set_option maxRecDepth 20000 in
theorem ggX4_unlike_J6_bitCount_0f7a4 : GoodIn wsX4_unlike wsJ6_bitCount_0f7a4 := goodIn_r _ [37, 38, 39, 40] (by decide +kernel) (by decide +kernel)
set_option maxRecDepth 20000 in
theorem gX4_unlike_J6_bitCount_0f7a4 : GoodIn wsX4_unlike (va_wsS RX4 137 yJ6_bitCount_0f7a4 wsJ6_bitCount_0f7a4) := goodIn_app (goodIn_of _ (by decide +kernel)) ggX4_unlike_J6_bitCount_0f7a4
theorem dX4_unlike_0 : decode cX4_unlike 0 = .ok (.aload_n 0, 1) := by decide +kernel
theorem dX4_unlike_1 : decode cX4_unlike 1 = .ok (.getfield 33, 3) := by decide +kernel
theorem dX4_unlike_4 : decode cX4_unlike 4 = .ok (.invokevirtual 56, 3) := by decide +kernel
theorem dX4_unlike_7 : decode cX4_unlike 7 = .ok (.istore_n 2, 1) := by decide +kernel
theorem dX4_unlike_8 : decode cX4_unlike 8 = .ok (.aload_n 0, 1) := by decide +kernel
theorem dX4_unlike_9 : decode cX4_unlike 9 = .ok (.getfield 12, 3) := by decide +kernel
theorem dX4_unlike_12 : decode cX4_unlike 12 = .ok (.iload_n 1, 1) := by decide +kernel
theorem dX4_unlike_13 : decode cX4_unlike 13 = .ok (.invokevirtual 41, 3) := by decide +kernel
theorem dX4_unlike_16 : decode cX4_unlike 16 = .ok (.ifCond .eq 11, 3) := by decide +kernel
theorem dX4_unlike_19 : decode cX4_unlike 19 = .ok (.iload_n 2, 1) := by decide +kernel
theorem dX4_unlike_20 : decode cX4_unlike 20 = .ok (.iload_n 1, 1) := by decide +kernel
theorem dX4_unlike_21 : decode cX4_unlike 21 = .ok (.invokestatic 60, 3) := by decide +kernel
theorem dX4_unlike_24 : decode cX4_unlike 24 = .ok (.ifCond .ne 5, 3) := by decide +kernel
theorem dX4_unlike_27 : decode cX4_unlike 27 = .ok (.iconst (-1), 1) := by decide +kernel
theorem dX4_unlike_28 : decode cX4_unlike 28 = .ok (.ireturn, 1) := by decide +kernel
theorem dX4_unlike_29 : decode cX4_unlike 29 = .ok (.iconst (-1), 1) := by decide +kernel
theorem dX4_unlike_30 : decode cX4_unlike 30 = .ok (.istore_n 3, 1) := by decide +kernel
theorem dX4_unlike_31 : decode cX4_unlike 31 = .ok (.iconst 0, 1) := by decide +kernel
theorem dX4_unlike_32 : decode cX4_unlike 32 = .ok (.istore 4, 2) := by decide +kernel
theorem dX4_unlike_34 : decode cX4_unlike 34 = .ok (.iload 4, 2) := by decide +kernel
theorem dX4_unlike_36 : decode cX4_unlike 36 = .ok (.aload_n 0, 1) := by decide +kernel
theorem dX4_unlike_37 : decode cX4_unlike 37 = .ok (.getfield 12, 3) := by decide +kernel
theorem dX4_unlike_40 : decode cX4_unlike 40 = .ok (.invokevirtual 83, 3) := by decide +kernel
theorem dX4_unlike_43 : decode cX4_unlike 43 = .ok (.if_icmp .ge 63, 3) := by decide +kernel
theorem dX4_unlike_46 : decode cX4_unlike 46 = .ok (.iload_n 2, 1) := by decide +kernel
theorem dX4_unlike_47 : decode cX4_unlike 47 = .ok (.iload 4, 2) := by decide +kernel
theorem dX4_unlike_49 : decode cX4_unlike 49 = .ok (.invokestatic 60, 3) := by decide +kernel
theorem dX4_unlike_52 : decode cX4_unlike 52 = .ok (.ifCond .ne 48, 3) := by decide +kernel
theorem dX4_unlike_55 : decode cX4_unlike 55 = .ok (.aload_n 0, 1) := by decide +kernel
theorem dX4_unlike_56 : decode cX4_unlike 56 = .ok (.getfield 12, 3) := by decide +kernel
theorem dX4_unlike_59 : decode cX4_unlike 59 = .ok (.iload_n 1, 1) := by decide +kernel
theorem dX4_unlike_60 : decode cX4_unlike 60 = .ok (.invokevirtual 134, 3) := by decide +kernel
theorem dX4_unlike_63 : decode cX4_unlike 63 = .ok (.aload_n 0, 1) := by decide +kernel
theorem dX4_unlike_64 : decode cX4_unlike 64 = .ok (.getfield 12, 3) := by decide +kernel
theorem dX4_unlike_67 : decode cX4_unlike 67 = .ok (.iload 4, 2) := by decide +kernel
theorem dX4_unlike_69 : decode cX4_unlike 69 = .ok (.invokevirtual 134, 3) := by decide +kernel
theorem dX4_unlike_72 : decode cX4_unlike 72 = .ok (.ixor, 1) := by decide +kernel
theorem dX4_unlike_73 : decode cX4_unlike 73 = .ok (.aload_n 0, 1) := by decide +kernel
theorem dX4_unlike_74 : decode cX4_unlike 74 = .ok (.getfield 72, 3) := by decide +kernel
theorem dX4_unlike_77 : decode cX4_unlike 77 = .ok (.iand, 1) := by decide +kernel
theorem dX4_unlike_78 : decode cX4_unlike 78 = .ok (.invokestatic 137, 3) := by decide +kernel
theorem dX4_unlike_81 : decode cX4_unlike 81 = .ok (.istore 5, 2) := by decide +kernel
theorem dX4_unlike_83 : decode cX4_unlike 83 = .ok (.iload_n 3, 1) := by decide +kernel
theorem dX4_unlike_84 : decode cX4_unlike 84 = .ok (.iconst (-1), 1) := by decide +kernel
theorem dX4_unlike_85 : decode cX4_unlike 85 = .ok (.if_icmp .ne 8, 3) := by decide +kernel
theorem dX4_unlike_88 : decode cX4_unlike 88 = .ok (.iload 5, 2) := by decide +kernel
theorem dX4_unlike_90 : decode cX4_unlike 90 = .ok (.goto 9, 3) := by decide +kernel
theorem dX4_unlike_93 : decode cX4_unlike 93 = .ok (.iload_n 3, 1) := by decide +kernel
theorem dX4_unlike_94 : decode cX4_unlike 94 = .ok (.iload 5, 2) := by decide +kernel
theorem dX4_unlike_96 : decode cX4_unlike 96 = .ok (.invokestatic 142, 3) := by decide +kernel
theorem dX4_unlike_99 : decode cX4_unlike 99 = .ok (.istore_n 3, 1) := by decide +kernel
theorem dX4_unlike_100 : decode cX4_unlike 100 = .ok (.iinc 4 1, 3) := by decide +kernel
theorem dX4_unlike_103 : decode cX4_unlike 103 = .ok (.goto (-69), 3) := by decide +kernel
theorem dX4_unlike_106 : decode cX4_unlike 106 = .ok (.iload_n 3, 1) := by decide +kernel
theorem dX4_unlike_107 : decode cX4_unlike 107 = .ok (.ireturn, 1) := by decide +kernel
set_option maxRecDepth 20000 in
theorem ggX4_touch_X2_noteTouch : GoodIn wsX4_touch wsX2_noteTouch := goodIn_r _ [6, 7, 8, 9, 10, 11, 12, 13, 14, 15, 5, 16, 22, 23, 24, 25, 26, 27, 28] (by decide +kernel) (by decide +kernel)
set_option maxRecDepth 20000 in
theorem gX4_touch_X2_noteTouch : GoodIn wsX4_touch (wsV RX4 147 RX2 yX2_noteTouch wsX2_noteTouch) := goodIn_app (goodIn_of _ (by decide +kernel)) ggX4_touch_X2_noteTouch
theorem dX4_touch_0 : decode cX4_touch 0 = .ok (.aload_n 0, 1) := by decide +kernel
theorem dX4_touch_1 : decode cX4_touch 1 = .ok (.getfield 33, 3) := by decide +kernel
theorem dX4_touch_4 : decode cX4_touch 4 = .ok (.iload_n 1, 1) := by decide +kernel
theorem dX4_touch_5 : decode cX4_touch 5 = .ok (.invokevirtual 147, 3) := by decide +kernel
theorem dX4_touch_8 : decode cX4_touch 8 = .ok (.ireturn, 1) := by decide +kernel
set_option maxRecDepth 20000 in
theorem ggX4_left_X4_bookNow : GoodIn wsX4_left wsX4_bookNow := goodIn_r _ [6, 7, 8, 9, 10, 11, 12, 13, 14, 15, 16, 17, 18, 19, 20, 21, 22, 23, 24, 25, 26, 27, 5, 28, 29, 30, 31, 32, 33, 34, 35, 36, 37, 38, 39, 40, 41, 42, 43, 44, 45, 46, 47, 48, 49, 50, 51, 52, 53, 54, 55, 56, 57, 58, 59, 60, 79, 80, 81, 82, 83, 84, 85, 86, 87, 88, 89, 90, 91, 92] (by decide +kernel) (by decide +kernel)
set_option maxRecDepth 20000 in
theorem gX4_left_X4_bookNow : GoodIn wsX4_left (wsV RX4 101 RX4 yX4_bookNow wsX4_bookNow) := goodIn_app (goodIn_of _ (by decide +kernel)) ggX4_left_X4_bookNow
set_option maxRecDepth 20000 in
theorem ggX4_left_X3_count : GoodIn wsX4_left wsX3_count := goodIn_r _ [64, 15, 84, 85, 86, 87] (by decide +kernel) (by decide +kernel)
set_option maxRecDepth 20000 in
theorem gX4_left_X3_count : GoodIn wsX4_left (wsV RX4 105 RX3 yX3_count wsX3_count) := goodIn_app (goodIn_of _ (by decide +kernel)) ggX4_left_X3_count
set_option maxRecDepth 20000 in
theorem ggX4_left_X3_trail : GoodIn wsX4_left wsX3_trail := goodIn_r _ [68, 15, 56, 84, 85, 86, 87] (by decide +kernel) (by decide +kernel)
set_option maxRecDepth 20000 in
theorem gX4_left_X3_trail : GoodIn wsX4_left (wsV RX4 108 RX3 yX3_trail wsX3_trail) := goodIn_app (goodIn_of _ (by decide +kernel)) ggX4_left_X3_trail
set_option maxRecDepth 20000 in
theorem ggX4_left_X2_openFrom : GoodIn wsX4_left wsX2_openFrom := goodIn_r _ [73, 74, 75, 76, 77, 5, 78, 27, 28, 93, 94, 95, 96, 97, 98, 99] (by decide +kernel) (by decide +kernel)
set_option maxRecDepth 20000 in
theorem gX4_left_X2_openFrom : GoodIn wsX4_left (wsV RX4 150 RX2 yX2_openFrom wsX2_openFrom) := goodIn_app (goodIn_of _ (by decide +kernel)) ggX4_left_X2_openFrom
theorem dX4_left_0 : decode cX4_left 0 = .ok (.aload_n 0, 1) := by decide +kernel
theorem dX4_left_1 : decode cX4_left 1 = .ok (.invokevirtual 101, 3) := by decide +kernel
theorem dX4_left_4 : decode cX4_left 4 = .ok (.astore_n 1, 1) := by decide +kernel
theorem dX4_left_5 : decode cX4_left 5 = .ok (.aload_n 1, 1) := by decide +kernel
theorem dX4_left_6 : decode cX4_left 6 = .ok (.invokevirtual 105, 3) := by decide +kernel
theorem dX4_left_9 : decode cX4_left 9 = .ok (.iconst (-1), 1) := by decide +kernel
theorem dX4_left_10 : decode cX4_left 10 = .ok (.if_icmp .ne 5, 3) := by decide +kernel
theorem dX4_left_13 : decode cX4_left 13 = .ok (.iconst (-1), 1) := by decide +kernel
theorem dX4_left_14 : decode cX4_left 14 = .ok (.ireturn, 1) := by decide +kernel
theorem dX4_left_15 : decode cX4_left 15 = .ok (.iconst 0, 1) := by decide +kernel
theorem dX4_left_16 : decode cX4_left 16 = .ok (.istore_n 2, 1) := by decide +kernel
theorem dX4_left_17 : decode cX4_left 17 = .ok (.iconst 0, 1) := by decide +kernel
theorem dX4_left_18 : decode cX4_left 18 = .ok (.istore_n 3, 1) := by decide +kernel
theorem dX4_left_19 : decode cX4_left 19 = .ok (.iload_n 3, 1) := by decide +kernel
theorem dX4_left_20 : decode cX4_left 20 = .ok (.aload_n 1, 1) := by decide +kernel
theorem dX4_left_21 : decode cX4_left 21 = .ok (.invokevirtual 105, 3) := by decide +kernel
theorem dX4_left_24 : decode cX4_left 24 = .ok (.if_icmp .ge 28, 3) := by decide +kernel
theorem dX4_left_27 : decode cX4_left 27 = .ok (.aload_n 0, 1) := by decide +kernel
theorem dX4_left_28 : decode cX4_left 28 = .ok (.getfield 33, 3) := by decide +kernel
theorem dX4_left_31 : decode cX4_left 31 = .ok (.aload_n 1, 1) := by decide +kernel
theorem dX4_left_32 : decode cX4_left 32 = .ok (.iload_n 3, 1) := by decide +kernel
theorem dX4_left_33 : decode cX4_left 33 = .ok (.invokevirtual 108, 3) := by decide +kernel
theorem dX4_left_36 : decode cX4_left 36 = .ok (.invokevirtual 150, 3) := by decide +kernel
theorem dX4_left_39 : decode cX4_left 39 = .ok (.iconst (-1), 1) := by decide +kernel
theorem dX4_left_40 : decode cX4_left 40 = .ok (.if_icmp .eq 6, 3) := by decide +kernel
theorem dX4_left_43 : decode cX4_left 43 = .ok (.iinc 2 1, 3) := by decide +kernel
theorem dX4_left_46 : decode cX4_left 46 = .ok (.iinc 3 1, 3) := by decide +kernel
theorem dX4_left_49 : decode cX4_left 49 = .ok (.goto (-30), 3) := by decide +kernel
theorem dX4_left_52 : decode cX4_left 52 = .ok (.iload_n 2, 1) := by decide +kernel
theorem dX4_left_53 : decode cX4_left 53 = .ok (.ireturn, 1) := by decide +kernel
set_option maxRecDepth 20000 in
theorem ggX4_leftWay_X4_bookNow : GoodIn wsX4_leftWay wsX4_bookNow := goodIn_r _ [6, 7, 8, 9, 10, 11, 12, 13, 14, 15, 16, 17, 18, 19, 20, 21, 22, 23, 24, 25, 26, 27, 5, 28, 29, 30, 31, 32, 33, 34, 35, 36, 37, 38, 39, 40, 41, 42, 43, 44, 45, 46, 47, 48, 49, 50, 51, 52, 53, 54, 55, 56, 57, 58, 59, 60, 79, 80, 81, 82, 83, 84, 85, 86, 87, 88, 89, 90, 91, 92] (by decide +kernel) (by decide +kernel)
set_option maxRecDepth 20000 in
theorem gX4_leftWay_X4_bookNow : GoodIn wsX4_leftWay (wsV RX4 101 RX4 yX4_bookNow wsX4_bookNow) := goodIn_app (goodIn_of _ (by decide +kernel)) ggX4_leftWay_X4_bookNow
set_option maxRecDepth 20000 in
theorem ggX4_leftWay_X3_count : GoodIn wsX4_leftWay wsX3_count := goodIn_r _ [64, 15, 84, 85, 86, 87] (by decide +kernel) (by decide +kernel)
set_option maxRecDepth 20000 in
theorem gX4_leftWay_X3_count : GoodIn wsX4_leftWay (wsV RX4 105 RX3 yX3_count wsX3_count) := goodIn_app (goodIn_of _ (by decide +kernel)) ggX4_leftWay_X3_count
set_option maxRecDepth 20000 in
theorem ggX4_leftWay_X3_trail : GoodIn wsX4_leftWay wsX3_trail := goodIn_r _ [68, 15, 56, 84, 85, 86, 87] (by decide +kernel) (by decide +kernel)
set_option maxRecDepth 20000 in
theorem gX4_leftWay_X3_trail : GoodIn wsX4_leftWay (wsV RX4 108 RX3 yX3_trail wsX3_trail) := goodIn_app (goodIn_of _ (by decide +kernel)) ggX4_leftWay_X3_trail
set_option maxRecDepth 20000 in
theorem ggX4_leftWay_X2_openFrom : GoodIn wsX4_leftWay wsX2_openFrom := goodIn_r _ [73, 74, 75, 76, 77, 5, 78, 27, 28, 93, 94, 95, 96, 97, 98, 99] (by decide +kernel) (by decide +kernel)
set_option maxRecDepth 20000 in
theorem gX4_leftWay_X2_openFrom : GoodIn wsX4_leftWay (wsV RX4 150 RX2 yX2_openFrom wsX2_openFrom) := goodIn_app (goodIn_of _ (by decide +kernel)) ggX4_leftWay_X2_openFrom
theorem dX4_leftWay_0 : decode cX4_leftWay 0 = .ok (.aload_n 0, 1) := by decide +kernel
theorem dX4_leftWay_1 : decode cX4_leftWay 1 = .ok (.invokevirtual 101, 3) := by decide +kernel
theorem dX4_leftWay_4 : decode cX4_leftWay 4 = .ok (.astore_n 2, 1) := by decide +kernel
theorem dX4_leftWay_5 : decode cX4_leftWay 5 = .ok (.iconst 0, 1) := by decide +kernel
theorem dX4_leftWay_6 : decode cX4_leftWay 6 = .ok (.istore_n 3, 1) := by decide +kernel
theorem dX4_leftWay_7 : decode cX4_leftWay 7 = .ok (.iconst 0, 1) := by decide +kernel
theorem dX4_leftWay_8 : decode cX4_leftWay 8 = .ok (.istore 4, 2) := by decide +kernel
theorem dX4_leftWay_10 : decode cX4_leftWay 10 = .ok (.iload 4, 2) := by decide +kernel
theorem dX4_leftWay_12 : decode cX4_leftWay 12 = .ok (.aload_n 2, 1) := by decide +kernel
theorem dX4_leftWay_13 : decode cX4_leftWay 13 = .ok (.invokevirtual 105, 3) := by decide +kernel
theorem dX4_leftWay_16 : decode cX4_leftWay 16 = .ok (.if_icmp .ge 37, 3) := by decide +kernel
theorem dX4_leftWay_19 : decode cX4_leftWay 19 = .ok (.aload_n 0, 1) := by decide +kernel
theorem dX4_leftWay_20 : decode cX4_leftWay 20 = .ok (.getfield 33, 3) := by decide +kernel
theorem dX4_leftWay_23 : decode cX4_leftWay 23 = .ok (.aload_n 2, 1) := by decide +kernel
theorem dX4_leftWay_24 : decode cX4_leftWay 24 = .ok (.iload 4, 2) := by decide +kernel
theorem dX4_leftWay_26 : decode cX4_leftWay 26 = .ok (.invokevirtual 108, 3) := by decide +kernel
theorem dX4_leftWay_29 : decode cX4_leftWay 29 = .ok (.invokevirtual 150, 3) := by decide +kernel
theorem dX4_leftWay_32 : decode cX4_leftWay 32 = .ok (.iconst (-1), 1) := by decide +kernel
theorem dX4_leftWay_33 : decode cX4_leftWay 33 = .ok (.if_icmp .eq 14, 3) := by decide +kernel
theorem dX4_leftWay_36 : decode cX4_leftWay 36 = .ok (.iload_n 3, 1) := by decide +kernel
theorem dX4_leftWay_37 : decode cX4_leftWay 37 = .ok (.iload_n 1, 1) := by decide +kernel
theorem dX4_leftWay_38 : decode cX4_leftWay 38 = .ok (.if_icmp .ne 6, 3) := by decide +kernel
theorem dX4_leftWay_41 : decode cX4_leftWay 41 = .ok (.iload 4, 2) := by decide +kernel
theorem dX4_leftWay_43 : decode cX4_leftWay 43 = .ok (.ireturn, 1) := by decide +kernel
theorem dX4_leftWay_44 : decode cX4_leftWay 44 = .ok (.iinc 3 1, 3) := by decide +kernel
theorem dX4_leftWay_47 : decode cX4_leftWay 47 = .ok (.iinc 4 1, 3) := by decide +kernel
theorem dX4_leftWay_50 : decode cX4_leftWay 50 = .ok (.goto (-40), 3) := by decide +kernel
theorem dX4_leftWay_53 : decode cX4_leftWay 53 = .ok (.iconst (-1), 1) := by decide +kernel
theorem dX4_leftWay_54 : decode cX4_leftWay 54 = .ok (.ireturn, 1) := by decide +kernel
set_option maxRecDepth 20000 in
theorem ggX4_next_X4_bookNow : GoodIn wsX4_next wsX4_bookNow := goodIn_r _ [6, 7, 8, 9, 10, 11, 12, 13, 14, 15, 16, 17, 18, 19, 20, 21, 22, 23, 24, 25, 26, 27, 5, 28, 29, 30, 31, 32, 33, 34, 35, 36, 37, 38, 39, 40, 41, 42, 43, 44, 45, 46, 47, 48, 49, 50, 51, 52, 53, 54, 55, 56, 57, 58, 59, 60, 81, 82, 83, 84, 85, 86, 87, 88, 89, 90, 91, 92, 93, 94] (by decide +kernel) (by decide +kernel)
set_option maxRecDepth 20000 in
theorem gX4_next_X4_bookNow : GoodIn wsX4_next (wsV RX4 101 RX4 yX4_bookNow wsX4_bookNow) := goodIn_app (goodIn_of _ (by decide +kernel)) ggX4_next_X4_bookNow
set_option maxRecDepth 20000 in
theorem ggX4_next_X3_count : GoodIn wsX4_next wsX3_count := goodIn_r _ [64, 15, 86, 87, 88, 89] (by decide +kernel) (by decide +kernel)
set_option maxRecDepth 20000 in
theorem gX4_next_X3_count : GoodIn wsX4_next (wsV RX4 105 RX3 yX3_count wsX3_count) := goodIn_app (goodIn_of _ (by decide +kernel)) ggX4_next_X3_count
set_option maxRecDepth 20000 in
theorem ggX4_next_X3_trail : GoodIn wsX4_next wsX3_trail := goodIn_r _ [68, 15, 56, 86, 87, 88, 89] (by decide +kernel) (by decide +kernel)
set_option maxRecDepth 20000 in
theorem gX4_next_X3_trail : GoodIn wsX4_next (wsV RX4 108 RX3 yX3_trail wsX3_trail) := goodIn_app (goodIn_of _ (by decide +kernel)) ggX4_next_X3_trail
set_option maxRecDepth 20000 in
theorem ggX4_next_X2_openFrom : GoodIn wsX4_next wsX2_openFrom := goodIn_r _ [73, 74, 75, 76, 77, 5, 78, 27, 28, 95, 96, 97, 98, 99, 100, 101] (by decide +kernel) (by decide +kernel)
set_option maxRecDepth 20000 in
theorem gX4_next_X2_openFrom : GoodIn wsX4_next (wsV RX4 150 RX2 yX2_openFrom wsX2_openFrom) := goodIn_app (goodIn_of _ (by decide +kernel)) ggX4_next_X2_openFrom
set_option maxRecDepth 20000 in
theorem ggX4_next_X4_placeOn : GoodIn wsX4_next wsX4_placeOn := goodIn_r _ [78] (by decide +kernel) (by decide +kernel)
set_option maxRecDepth 20000 in
theorem gX4_next_X4_placeOn : GoodIn wsX4_next (va_wsS RX4 112 yX4_placeOn wsX4_placeOn) := goodIn_app (goodIn_of _ (by decide +kernel)) ggX4_next_X4_placeOn
set_option maxRecDepth 20000 in
theorem ggX4_next_X4_setOf : GoodIn wsX4_next wsX4_setOf := goodIn_r _ [32] (by decide +kernel) (by decide +kernel)
set_option maxRecDepth 20000 in
theorem gX4_next_X4_setOf : GoodIn wsX4_next (va_wsS RX4 153 yX4_setOf wsX4_setOf) := goodIn_app (goodIn_of _ (by decide +kernel)) ggX4_next_X4_setOf
theorem dX4_next_0 : decode cX4_next 0 = .ok (.aload_n 0, 1) := by decide +kernel
theorem dX4_next_1 : decode cX4_next 1 = .ok (.invokevirtual 101, 3) := by decide +kernel
theorem dX4_next_4 : decode cX4_next 4 = .ok (.astore_n 1, 1) := by decide +kernel
theorem dX4_next_5 : decode cX4_next 5 = .ok (.aload_n 1, 1) := by decide +kernel
theorem dX4_next_6 : decode cX4_next 6 = .ok (.invokevirtual 105, 3) := by decide +kernel
theorem dX4_next_9 : decode cX4_next 9 = .ok (.iconst (-1), 1) := by decide +kernel
theorem dX4_next_10 : decode cX4_next 10 = .ok (.if_icmp .ne 5, 3) := by decide +kernel
theorem dX4_next_13 : decode cX4_next 13 = .ok (.iconst (-1), 1) := by decide +kernel
theorem dX4_next_14 : decode cX4_next 14 = .ok (.ireturn, 1) := by decide +kernel
theorem dX4_next_15 : decode cX4_next 15 = .ok (.iconst 0, 1) := by decide +kernel
theorem dX4_next_16 : decode cX4_next 16 = .ok (.istore_n 2, 1) := by decide +kernel
theorem dX4_next_17 : decode cX4_next 17 = .ok (.iconst 0, 1) := by decide +kernel
theorem dX4_next_18 : decode cX4_next 18 = .ok (.istore_n 3, 1) := by decide +kernel
theorem dX4_next_19 : decode cX4_next 19 = .ok (.iload_n 3, 1) := by decide +kernel
theorem dX4_next_20 : decode cX4_next 20 = .ok (.aload_n 1, 1) := by decide +kernel
theorem dX4_next_21 : decode cX4_next 21 = .ok (.invokevirtual 105, 3) := by decide +kernel
theorem dX4_next_24 : decode cX4_next 24 = .ok (.if_icmp .ge 36, 3) := by decide +kernel
theorem dX4_next_27 : decode cX4_next 27 = .ok (.aload_n 1, 1) := by decide +kernel
theorem dX4_next_28 : decode cX4_next 28 = .ok (.iload_n 3, 1) := by decide +kernel
theorem dX4_next_29 : decode cX4_next 29 = .ok (.invokevirtual 108, 3) := by decide +kernel
theorem dX4_next_32 : decode cX4_next 32 = .ok (.istore 4, 2) := by decide +kernel
theorem dX4_next_34 : decode cX4_next 34 = .ok (.iload_n 2, 1) := by decide +kernel
theorem dX4_next_35 : decode cX4_next 35 = .ok (.iload 4, 2) := by decide +kernel
theorem dX4_next_37 : decode cX4_next 37 = .ok (.aload_n 0, 1) := by decide +kernel
theorem dX4_next_38 : decode cX4_next 38 = .ok (.getfield 33, 3) := by decide +kernel
theorem dX4_next_41 : decode cX4_next 41 = .ok (.iload 4, 2) := by decide +kernel
theorem dX4_next_43 : decode cX4_next 43 = .ok (.invokevirtual 150, 3) := by decide +kernel
theorem dX4_next_46 : decode cX4_next 46 = .ok (.invokestatic 112, 3) := by decide +kernel
theorem dX4_next_49 : decode cX4_next 49 = .ok (.invokestatic 153, 3) := by decide +kernel
theorem dX4_next_52 : decode cX4_next 52 = .ok (.ior, 1) := by decide +kernel
theorem dX4_next_53 : decode cX4_next 53 = .ok (.istore_n 2, 1) := by decide +kernel
theorem dX4_next_54 : decode cX4_next 54 = .ok (.iinc 3 1, 3) := by decide +kernel
theorem dX4_next_57 : decode cX4_next 57 = .ok (.goto (-38), 3) := by decide +kernel
theorem dX4_next_60 : decode cX4_next 60 = .ok (.iload_n 2, 1) := by decide +kernel
theorem dX4_next_61 : decode cX4_next 61 = .ok (.ireturn, 1) := by decide +kernel
set_option maxRecDepth 20000 in
theorem ggX4_tell_X2_endTale : GoodIn wsX4_tell wsX2_endTale := goodIn_r _ [6, 7, 8, 9, 10, 11, 5, 12, 13, 14, 15, 16, 22, 23, 24, 25, 26, 27, 28] (by decide +kernel) (by decide +kernel)
set_option maxRecDepth 20000 in
theorem gX4_tell_X2_endTale : GoodIn wsX4_tell (wsV RX4 156 RX2 yX2_endTale wsX2_endTale) := goodIn_app (goodIn_of _ (by decide +kernel)) ggX4_tell_X2_endTale
theorem dX4_tell_0 : decode cX4_tell 0 = .ok (.aload_n 0, 1) := by decide +kernel
theorem dX4_tell_1 : decode cX4_tell 1 = .ok (.getfield 33, 3) := by decide +kernel
theorem dX4_tell_4 : decode cX4_tell 4 = .ok (.invokevirtual 156, 3) := by decide +kernel
theorem dX4_tell_7 : decode cX4_tell 7 = .ok (.ireturn, 1) := by decide +kernel
set_option maxRecDepth 20000 in
theorem ggX4_bear_X2_setBears : GoodIn wsX4_bear wsX2_setBears := goodIn_r _ [6, 7, 13, 14, 15, 16, 17, 18, 19] (by decide +kernel) (by decide +kernel)
set_option maxRecDepth 20000 in
theorem gX4_bear_X2_setBears : GoodIn wsX4_bear (wsV RX4 159 RX2 yX2_setBears wsX2_setBears) := goodIn_app (goodIn_of _ (by decide +kernel)) ggX4_bear_X2_setBears
theorem dX4_bear_0 : decode cX4_bear 0 = .ok (.iload_n 1, 1) := by decide +kernel
theorem dX4_bear_1 : decode cX4_bear 1 = .ok (.iconst 1, 1) := by decide +kernel
theorem dX4_bear_2 : decode cX4_bear 2 = .ok (.if_icmp .lt 9, 3) := by decide +kernel
theorem dX4_bear_5 : decode cX4_bear 5 = .ok (.iload_n 1, 1) := by decide +kernel
theorem dX4_bear_6 : decode cX4_bear 6 = .ok (.bipush 9, 2) := by decide +kernel
theorem dX4_bear_8 : decode cX4_bear 8 = .ok (.if_icmp .le 5, 3) := by decide +kernel
theorem dX4_bear_11 : decode cX4_bear 11 = .ok (.iconst 0, 1) := by decide +kernel
theorem dX4_bear_12 : decode cX4_bear 12 = .ok (.ireturn, 1) := by decide +kernel
theorem dX4_bear_13 : decode cX4_bear 13 = .ok (.aload_n 0, 1) := by decide +kernel
theorem dX4_bear_14 : decode cX4_bear 14 = .ok (.getfield 33, 3) := by decide +kernel
theorem dX4_bear_17 : decode cX4_bear 17 = .ok (.iload_n 1, 1) := by decide +kernel
theorem dX4_bear_18 : decode cX4_bear 18 = .ok (.invokevirtual 159, 3) := by decide +kernel
theorem dX4_bear_21 : decode cX4_bear 21 = .ok (.iconst 1, 1) := by decide +kernel
theorem dX4_bear_22 : decode cX4_bear 22 = .ok (.ireturn, 1) := by decide +kernel
set_option maxRecDepth 20000 in
theorem ggX4_tales_X0_hasPlace : GoodIn wsX4_tales wsX0_hasPlace := goodIn_r _ [7, 8, 20, 21, 22, 23, 24] (by decide +kernel) (by decide +kernel)
set_option maxRecDepth 20000 in
theorem gX4_tales_X0_hasPlace : GoodIn wsX4_tales (wsV RX4 41 RX0 yX0_hasPlace wsX0_hasPlace) := goodIn_app (goodIn_of _ (by decide +kernel)) ggX4_tales_X0_hasPlace
set_option maxRecDepth 20000 in
theorem ggX4_tales_X2_talesOf : GoodIn wsX4_tales wsX2_talesOf := goodIn_r _ [13, 14, 25, 26, 27, 28, 29, 30, 31] (by decide +kernel) (by decide +kernel)
set_option maxRecDepth 20000 in
theorem gX4_tales_X2_talesOf : GoodIn wsX4_tales (wsV RX4 162 RX2 yX2_talesOf wsX2_talesOf) := goodIn_app (goodIn_of _ (by decide +kernel)) ggX4_tales_X2_talesOf
theorem dX4_tales_0 : decode cX4_tales 0 = .ok (.aload_n 0, 1) := by decide +kernel
theorem dX4_tales_1 : decode cX4_tales 1 = .ok (.getfield 12, 3) := by decide +kernel
theorem dX4_tales_4 : decode cX4_tales 4 = .ok (.iload_n 1, 1) := by decide +kernel
theorem dX4_tales_5 : decode cX4_tales 5 = .ok (.invokevirtual 41, 3) := by decide +kernel
theorem dX4_tales_8 : decode cX4_tales 8 = .ok (.ifCond .eq 14, 3) := by decide +kernel
theorem dX4_tales_11 : decode cX4_tales 11 = .ok (.aload_n 0, 1) := by decide +kernel
theorem dX4_tales_12 : decode cX4_tales 12 = .ok (.getfield 33, 3) := by decide +kernel
theorem dX4_tales_15 : decode cX4_tales 15 = .ok (.iload_n 1, 1) := by decide +kernel
theorem dX4_tales_16 : decode cX4_tales 16 = .ok (.invokevirtual 162, 3) := by decide +kernel
theorem dX4_tales_19 : decode cX4_tales 19 = .ok (.goto 4, 3) := by decide +kernel
theorem dX4_tales_22 : decode cX4_tales 22 = .ok (.iconst (-1), 1) := by decide +kernel
theorem dX4_tales_23 : decode cX4_tales 23 = .ok (.ireturn, 1) := by decide +kernel
set_option maxRecDepth 20000 in
theorem ggX4_day_X2_passDay : GoodIn wsX4_day wsX2_passDay := goodIn_r _ [6, 7, 13, 14, 15, 16, 17, 18, 19] (by decide +kernel) (by decide +kernel)
set_option maxRecDepth 20000 in
theorem gX4_day_X2_passDay : GoodIn wsX4_day (wsV RX4 165 RX2 yX2_passDay wsX2_passDay) := goodIn_app (goodIn_of _ (by decide +kernel)) ggX4_day_X2_passDay
theorem dX4_day_0 : decode cX4_day 0 = .ok (.aload_n 0, 1) := by decide +kernel
theorem dX4_day_1 : decode cX4_day 1 = .ok (.getfield 33, 3) := by decide +kernel
theorem dX4_day_4 : decode cX4_day 4 = .ok (.invokevirtual 165, 3) := by decide +kernel
theorem dX4_day_7 : decode cX4_day 7 = .ok (.ireturn, 1) := by decide +kernel
set_option maxRecDepth 20000 in
theorem ggX4_move_X4_bookNow : GoodIn wsX4_move wsX4_bookNow := goodIn_r _ [7, 2, 8, 9, 10, 11, 12, 13, 14, 15, 16, 17, 18, 19, 20, 21, 22, 23, 24, 25, 26, 27, 6, 28, 29, 30, 31, 32, 33, 34, 35, 36, 37, 38, 39, 40, 41, 42, 43, 44, 45, 46, 47, 48, 49, 50, 51, 52, 53, 54, 55, 56, 57, 58, 59, 60, 111, 112, 113, 114, 115, 116, 117, 118, 119, 120, 121, 122, 123, 124] (by decide +kernel) (by decide +kernel)
set_option maxRecDepth 20000 in
theorem gX4_move_X4_bookNow : GoodIn wsX4_move (wsV RX4 101 RX4 yX4_bookNow wsX4_bookNow) := goodIn_app (goodIn_of _ (by decide +kernel)) ggX4_move_X4_bookNow
set_option maxRecDepth 20000 in
theorem ggX4_move_X3_count : GoodIn wsX4_move wsX3_count := goodIn_r _ [64, 15, 116, 117, 118, 119] (by decide +kernel) (by decide +kernel)
set_option maxRecDepth 20000 in
theorem gX4_move_X3_count : GoodIn wsX4_move (wsV RX4 105 RX3 yX3_count wsX3_count) := goodIn_app (goodIn_of _ (by decide +kernel)) ggX4_move_X3_count
set_option maxRecDepth 20000 in
theorem ggX4_move_X4_findMove : GoodIn wsX4_move wsX4_findMove := goodIn_r _ [68, 1, 69, 2, 70, 71, 72, 73, 74, 75, 76, 77, 78, 79, 80, 81, 82, 83, 84, 85, 6, 86, 8, 87, 88, 89, 24, 90, 46, 26, 51, 91, 92, 93, 94, 95, 96, 31, 32, 97, 98, 99, 100, 101, 102, 27, 28, 103, 104, 105, 12, 106, 15, 16, 107, 108, 109, 110, 111, 112, 113, 114, 115, 125, 126, 127, 128, 129, 130, 131, 120, 121, 122, 123, 124, 132, 133, 134, 135, 116, 117, 118, 119] (by decide +kernel) (by decide +kernel)
set_option maxRecDepth 20000 in
theorem gX4_move_X4_findMove : GoodIn wsX4_move (wsV RX4 168 RX4 yX4_findMove wsX4_findMove) := goodIn_app (goodIn_of _ (by decide +kernel)) ggX4_move_X4_findMove
set_option maxRecDepth 20000 in
theorem ggX4_move_X2_decoySet : GoodIn wsX4_move wsX2_decoySet := goodIn_r _ [74, 75, 125, 126, 127, 128, 129, 130, 131] (by decide +kernel) (by decide +kernel)
set_option maxRecDepth 20000 in
theorem gX4_move_X2_decoySet : GoodIn wsX4_move (wsV RX4 56 RX2 yX2_decoySet wsX2_decoySet) := goodIn_app (goodIn_of _ (by decide +kernel)) ggX4_move_X2_decoySet
set_option maxRecDepth 20000 in
theorem ggX4_move_J6_bitCount_0f7a4 : GoodIn wsX4_move wsJ6_bitCount_0f7a4 := goodIn_r _ [79, 80, 81, 82] (by decide +kernel) (by decide +kernel)
set_option maxRecDepth 20000 in
theorem gX4_move_J6_bitCount_0f7a4 : GoodIn wsX4_move (va_wsS RX4 137 yJ6_bitCount_0f7a4 wsJ6_bitCount_0f7a4) := goodIn_app (goodIn_of _ (by decide +kernel)) ggX4_move_J6_bitCount_0f7a4
set_option maxRecDepth 20000 in
theorem ggX4_move_X3_countTouchedBy : GoodIn wsX4_move wsX3_countTouchedBy := goodIn_r _ [106, 15, 16, 116, 117, 118, 119] (by decide +kernel) (by decide +kernel)
set_option maxRecDepth 20000 in
theorem gX4_move_X3_countTouchedBy : GoodIn wsX4_move (wsV RX4 119 RX3 yX3_countTouchedBy wsX3_countTouchedBy) := goodIn_app (goodIn_of _ (by decide +kernel)) ggX4_move_X3_countTouchedBy
theorem dX4_move_0 : decode cX4_move 0 = .ok (.iload_n 1, 1) := by decide +kernel
theorem dX4_move_1 : decode cX4_move 1 = .ok (.ifCond .lt 18, 3) := by decide +kernel
theorem dX4_move_4 : decode cX4_move 4 = .ok (.iload_n 2, 1) := by decide +kernel
theorem dX4_move_5 : decode cX4_move 5 = .ok (.ifCond .lt 14, 3) := by decide +kernel
theorem dX4_move_8 : decode cX4_move 8 = .ok (.aload_n 0, 1) := by decide +kernel
theorem dX4_move_9 : decode cX4_move 9 = .ok (.invokevirtual 101, 3) := by decide +kernel
theorem dX4_move_12 : decode cX4_move 12 = .ok (.invokevirtual 105, 3) := by decide +kernel
theorem dX4_move_15 : decode cX4_move 15 = .ok (.iconst (-1), 1) := by decide +kernel
theorem dX4_move_16 : decode cX4_move 16 = .ok (.if_icmp .ne 5, 3) := by decide +kernel
theorem dX4_move_19 : decode cX4_move 19 = .ok (.iconst (-1), 1) := by decide +kernel
theorem dX4_move_20 : decode cX4_move 20 = .ok (.ireturn, 1) := by decide +kernel
theorem dX4_move_21 : decode cX4_move 21 = .ok (.aload_n 0, 1) := by decide +kernel
theorem dX4_move_22 : decode cX4_move 22 = .ok (.iload_n 1, 1) := by decide +kernel
theorem dX4_move_23 : decode cX4_move 23 = .ok (.iload_n 2, 1) := by decide +kernel
theorem dX4_move_24 : decode cX4_move 24 = .ok (.invokevirtual 168, 3) := by decide +kernel
theorem dX4_move_27 : decode cX4_move 27 = .ok (.istore 4, 2) := by decide +kernel
theorem dX4_move_29 : decode cX4_move 29 = .ok (.iload 4, 2) := by decide +kernel
theorem dX4_move_31 : decode cX4_move 31 = .ok (.iconst (-1), 1) := by decide +kernel
theorem dX4_move_32 : decode cX4_move 32 = .ok (.if_icmp .ne 5, 3) := by decide +kernel
theorem dX4_move_35 : decode cX4_move 35 = .ok (.iconst (-1), 1) := by decide +kernel
theorem dX4_move_36 : decode cX4_move 36 = .ok (.ireturn, 1) := by decide +kernel
theorem dX4_move_37 : decode cX4_move 37 = .ok (.iload_n 3, 1) := by decide +kernel
theorem dX4_move_38 : decode cX4_move 38 = .ok (.tableswitch 55 0 2 #[26, 29, 45], 26) := by decide +kernel
theorem dX4_move_64 : decode cX4_move 64 = .ok (.iload 4, 2) := by decide +kernel
theorem dX4_move_66 : decode cX4_move 66 = .ok (.ireturn, 1) := by decide +kernel
theorem dX4_move_67 : decode cX4_move 67 = .ok (.iload 4, 2) := by decide +kernel
theorem dX4_move_69 : decode cX4_move 69 = .ok (.aload_n 0, 1) := by decide +kernel
theorem dX4_move_70 : decode cX4_move 70 = .ok (.getfield 33, 3) := by decide +kernel
theorem dX4_move_73 : decode cX4_move 73 = .ok (.invokevirtual 56, 3) := by decide +kernel
theorem dX4_move_76 : decode cX4_move 76 = .ok (.iconst (-1), 1) := by decide +kernel
theorem dX4_move_77 : decode cX4_move 77 = .ok (.ixor, 1) := by decide +kernel
theorem dX4_move_78 : decode cX4_move 78 = .ok (.iand, 1) := by decide +kernel
theorem dX4_move_79 : decode cX4_move 79 = .ok (.invokestatic 137, 3) := by decide +kernel
theorem dX4_move_82 : decode cX4_move 82 = .ok (.ireturn, 1) := by decide +kernel
theorem dX4_move_83 : decode cX4_move 83 = .ok (.aload_n 0, 1) := by decide +kernel
theorem dX4_move_84 : decode cX4_move 84 = .ok (.getfield 19, 3) := by decide +kernel
theorem dX4_move_87 : decode cX4_move 87 = .ok (.iload 4, 2) := by decide +kernel
theorem dX4_move_89 : decode cX4_move 89 = .ok (.invokevirtual 119, 3) := by decide +kernel
theorem dX4_move_92 : decode cX4_move 92 = .ok (.ireturn, 1) := by decide +kernel
theorem dX4_move_93 : decode cX4_move 93 = .ok (.iconst (-1), 1) := by decide +kernel
theorem dX4_move_94 : decode cX4_move 94 = .ok (.ireturn, 1) := by decide +kernel
set_option maxRecDepth 20000 in
theorem ggX4_beginAnew_X0_clear : GoodIn wsX4_beginAnew wsX0_clear := goodIn_r _ [10, 11, 12, 13, 14, 15, 16, 17, 18, 19, 53, 54, 55, 56, 57] (by decide +kernel) (by decide +kernel)
set_option maxRecDepth 20000 in
theorem gX4_beginAnew_X0_clear : GoodIn wsX4_beginAnew (wsV RX4 171 RX0 yX0_clear wsX0_clear) := goodIn_app (goodIn_of _ (by decide +kernel)) ggX4_beginAnew_X0_clear
set_option maxRecDepth 20000 in
theorem ggX4_beginAnew_X3_forget : GoodIn wsX4_beginAnew wsX3_forget := goodIn_r _ [24, 25, 58, 59, 60, 61] (by decide +kernel) (by decide +kernel)
set_option maxRecDepth 20000 in
theorem gX4_beginAnew_X3_forget : GoodIn wsX4_beginAnew (wsV RX4 53 RX3 yX3_forget wsX3_forget) := goodIn_app (goodIn_of _ (by decide +kernel)) ggX4_beginAnew_X3_forget
set_option maxRecDepth 20000 in
theorem ggX4_beginAnew_X1_clear : GoodIn wsX4_beginAnew wsX1_clear := goodIn_r _ [30, 31, 32, 33, 34, 35, 17, 18, 19, 62, 63, 64, 65] (by decide +kernel) (by decide +kernel)
set_option maxRecDepth 20000 in
theorem gX4_beginAnew_X1_clear : GoodIn wsX4_beginAnew (wsV RX4 174 RX1 yX1_clear wsX1_clear) := goodIn_app (goodIn_of _ (by decide +kernel)) ggX4_beginAnew_X1_clear
set_option maxRecDepth 20000 in
theorem ggX4_beginAnew_X2_clear : GoodIn wsX4_beginAnew wsX2_clear := goodIn_r _ [40, 41, 42, 43, 44, 45, 46, 47, 17, 18, 19, 66, 67, 68, 69, 70, 71, 72] (by decide +kernel) (by decide +kernel)
set_option maxRecDepth 20000 in
theorem gX4_beginAnew_X2_clear : GoodIn wsX4_beginAnew (wsV RX4 176 RX2 yX2_clear wsX2_clear) := goodIn_app (goodIn_of _ (by decide +kernel)) ggX4_beginAnew_X2_clear
theorem dX4_beginAnew_0 : decode cX4_beginAnew 0 = .ok (.aload_n 0, 1) := by decide +kernel
theorem dX4_beginAnew_1 : decode cX4_beginAnew 1 = .ok (.getfield 12, 3) := by decide +kernel
theorem dX4_beginAnew_4 : decode cX4_beginAnew 4 = .ok (.iload_n 1, 1) := by decide +kernel
theorem dX4_beginAnew_5 : decode cX4_beginAnew 5 = .ok (.invokevirtual 171, 3) := by decide +kernel
theorem dX4_beginAnew_8 : decode cX4_beginAnew 8 = .ok (.aload_n 0, 1) := by decide +kernel
theorem dX4_beginAnew_9 : decode cX4_beginAnew 9 = .ok (.getfield 19, 3) := by decide +kernel
theorem dX4_beginAnew_12 : decode cX4_beginAnew 12 = .ok (.invokevirtual 53, 3) := by decide +kernel
theorem dX4_beginAnew_15 : decode cX4_beginAnew 15 = .ok (.aload_n 0, 1) := by decide +kernel
theorem dX4_beginAnew_16 : decode cX4_beginAnew 16 = .ok (.getfield 26, 3) := by decide +kernel
theorem dX4_beginAnew_19 : decode cX4_beginAnew 19 = .ok (.invokevirtual 174, 3) := by decide +kernel
theorem dX4_beginAnew_22 : decode cX4_beginAnew 22 = .ok (.aload_n 0, 1) := by decide +kernel
theorem dX4_beginAnew_23 : decode cX4_beginAnew 23 = .ok (.getfield 33, 3) := by decide +kernel
theorem dX4_beginAnew_26 : decode cX4_beginAnew 26 = .ok (.invokevirtual 176, 3) := by decide +kernel
theorem dX4_beginAnew_29 : decode cX4_beginAnew 29 = .ok (.aload_n 0, 1) := by decide +kernel
theorem dX4_beginAnew_30 : decode cX4_beginAnew 30 = .ok (.sipush 255, 3) := by decide +kernel
theorem dX4_beginAnew_33 : decode cX4_beginAnew 33 = .ok (.putfield 72, 3) := by decide +kernel
theorem dX4_beginAnew_36 : decode cX4_beginAnew 36 = .ok (.return_, 1) := by decide +kernel
set_option maxRecDepth 20000 in
theorem ggX4_isRow_X4_placeInRow : GoodIn wsX4_isRow wsX4_placeInRow := goodIn_r _ [5] (by decide +kernel) (by decide +kernel)
set_option maxRecDepth 20000 in
theorem gX4_isRow_X4_placeInRow : GoodIn wsX4_isRow (va_wsS RX4 177 yX4_placeInRow wsX4_placeInRow) := goodIn_app (goodIn_of _ (by decide +kernel)) ggX4_isRow_X4_placeInRow
set_option maxRecDepth 20000 in
theorem ggX4_isRow_X0_hasPlace : GoodIn wsX4_isRow wsX0_hasPlace := goodIn_r _ [10, 11, 17, 18, 19, 20, 21] (by decide +kernel) (by decide +kernel)
set_option maxRecDepth 20000 in
theorem gX4_isRow_X0_hasPlace : GoodIn wsX4_isRow (wsV RX4 41 RX0 yX0_hasPlace wsX0_hasPlace) := goodIn_app (goodIn_of _ (by decide +kernel)) ggX4_isRow_X0_hasPlace
theorem dX4_isRow_0 : decode cX4_isRow 0 = .ok (.iconst 0, 1) := by decide +kernel
theorem dX4_isRow_1 : decode cX4_isRow 1 = .ok (.istore_n 3, 1) := by decide +kernel
theorem dX4_isRow_2 : decode cX4_isRow 2 = .ok (.iload_n 3, 1) := by decide +kernel
theorem dX4_isRow_3 : decode cX4_isRow 3 = .ok (.iload_n 1, 1) := by decide +kernel
theorem dX4_isRow_4 : decode cX4_isRow 4 = .ok (.if_icmp .ge 26, 3) := by decide +kernel
theorem dX4_isRow_7 : decode cX4_isRow 7 = .ok (.aload_n 0, 1) := by decide +kernel
theorem dX4_isRow_8 : decode cX4_isRow 8 = .ok (.getfield 12, 3) := by decide +kernel
theorem dX4_isRow_11 : decode cX4_isRow 11 = .ok (.iload_n 2, 1) := by decide +kernel
theorem dX4_isRow_12 : decode cX4_isRow 12 = .ok (.iload_n 3, 1) := by decide +kernel
theorem dX4_isRow_13 : decode cX4_isRow 13 = .ok (.invokestatic 177, 3) := by decide +kernel
theorem dX4_isRow_16 : decode cX4_isRow 16 = .ok (.invokevirtual 41, 3) := by decide +kernel
theorem dX4_isRow_19 : decode cX4_isRow 19 = .ok (.ifCond .ne 5, 3) := by decide +kernel
theorem dX4_isRow_22 : decode cX4_isRow 22 = .ok (.iconst 0, 1) := by decide +kernel
theorem dX4_isRow_23 : decode cX4_isRow 23 = .ok (.ireturn, 1) := by decide +kernel
theorem dX4_isRow_24 : decode cX4_isRow 24 = .ok (.iinc 3 1, 3) := by decide +kernel
theorem dX4_isRow_27 : decode cX4_isRow 27 = .ok (.goto (-25), 3) := by decide +kernel
theorem dX4_isRow_30 : decode cX4_isRow 30 = .ok (.iconst 1, 1) := by decide +kernel
theorem dX4_isRow_31 : decode cX4_isRow 31 = .ok (.ireturn, 1) := by decide +kernel
set_option maxRecDepth 20000 in
theorem ggX4_bookNow_X3_readIfForgotten : GoodIn wsX4_bookNow wsX3_readIfForgotten := goodIn_r _ [7, 8, 9, 10, 11, 12, 13, 14, 15, 16, 17, 18, 19, 20, 21, 22, 23, 24, 25, 26, 27, 28, 29, 30, 6, 31, 32, 33, 34, 35, 36, 37, 38, 39, 40, 41, 42, 43, 44, 45, 46, 47, 48, 49, 50, 51, 52, 53, 54, 55, 61, 62, 63, 64, 65, 66, 67, 68, 69] (by decide +kernel) (by decide +kernel)
set_option maxRecDepth 20000 in
theorem gX4_bookNow_X3_readIfForgotten : GoodIn wsX4_bookNow (wsV RX4 180 RX3 yX3_readIfForgotten wsX3_readIfForgotten) := goodIn_app (goodIn_of _ (by decide +kernel)) ggX4_bookNow_X3_readIfForgotten
theorem dX4_bookNow_0 : decode cX4_bookNow 0 = .ok (.aload_n 0, 1) := by decide +kernel
theorem dX4_bookNow_1 : decode cX4_bookNow 1 = .ok (.getfield 19, 3) := by decide +kernel
theorem dX4_bookNow_4 : decode cX4_bookNow 4 = .ok (.aload_n 0, 1) := by decide +kernel
theorem dX4_bookNow_5 : decode cX4_bookNow 5 = .ok (.getfield 12, 3) := by decide +kernel
theorem dX4_bookNow_8 : decode cX4_bookNow 8 = .ok (.invokevirtual 180, 3) := by decide +kernel
theorem dX4_bookNow_11 : decode cX4_bookNow 11 = .ok (.aload_n 0, 1) := by decide +kernel
theorem dX4_bookNow_12 : decode cX4_bookNow 12 = .ok (.getfield 19, 3) := by decide +kernel
theorem dX4_bookNow_15 : decode cX4_bookNow 15 = .ok (.areturn, 1) := by decide +kernel
set_option maxRecDepth 20000 in
theorem ggX4_layableSet_X0_plainSet : GoodIn wsX4_layableSet wsX0_plainSet := goodIn_r _ [7, 8, 9, 10, 26, 27, 28, 29, 30] (by decide +kernel) (by decide +kernel)
set_option maxRecDepth 20000 in
theorem gX4_layableSet_X0_plainSet : GoodIn wsX4_layableSet (wsV RX4 184 RX0 yX0_plainSet wsX0_plainSet) := goodIn_app (goodIn_of _ (by decide +kernel)) ggX4_layableSet_X0_plainSet
set_option maxRecDepth 20000 in
theorem ggX4_layableSet_X2_knownSet : GoodIn wsX4_layableSet wsX2_knownSet := goodIn_r _ [15, 16, 17, 18, 19, 20, 31, 32, 33, 34, 35, 36, 37] (by decide +kernel) (by decide +kernel)
set_option maxRecDepth 20000 in
theorem gX4_layableSet_X2_knownSet : GoodIn wsX4_layableSet (wsV RX4 89 RX2 yX2_knownSet wsX2_knownSet) := goodIn_app (goodIn_of _ (by decide +kernel)) ggX4_layableSet_X2_knownSet
theorem dX4_layableSet_0 : decode cX4_layableSet 0 = .ok (.aload_n 0, 1) := by decide +kernel
theorem dX4_layableSet_1 : decode cX4_layableSet 1 = .ok (.getfield 12, 3) := by decide +kernel
theorem dX4_layableSet_4 : decode cX4_layableSet 4 = .ok (.invokevirtual 184, 3) := by decide +kernel
theorem dX4_layableSet_7 : decode cX4_layableSet 7 = .ok (.aload_n 0, 1) := by decide +kernel
theorem dX4_layableSet_8 : decode cX4_layableSet 8 = .ok (.getfield 33, 3) := by decide +kernel
theorem dX4_layableSet_11 : decode cX4_layableSet 11 = .ok (.invokevirtual 89, 3) := by decide +kernel
theorem dX4_layableSet_14 : decode cX4_layableSet 14 = .ok (.iconst (-1), 1) := by decide +kernel
theorem dX4_layableSet_15 : decode cX4_layableSet 15 = .ok (.ixor, 1) := by decide +kernel
theorem dX4_layableSet_16 : decode cX4_layableSet 16 = .ok (.iand, 1) := by decide +kernel
theorem dX4_layableSet_17 : decode cX4_layableSet 17 = .ok (.ireturn, 1) := by decide +kernel
set_option maxRecDepth 20000 in
theorem ggX4_findBest_X4_layableSet : GoodIn wsX4_findBest wsX4_layableSet := goodIn_r _ [6, 7, 8, 9, 10, 11, 12, 13, 14, 15, 16, 17, 18, 19, 20, 21, 22, 23, 24, 5, 25, 53, 54, 55, 56, 57, 58, 59, 60, 61, 62, 63, 64, 65, 66, 67, 68, 69] (by decide +kernel) (by decide +kernel)
set_option maxRecDepth 20000 in
theorem gX4_findBest_X4_layableSet : GoodIn wsX4_findBest (wsV RX4 128 RX4 yX4_layableSet wsX4_layableSet) := goodIn_app (goodIn_of _ (by decide +kernel)) ggX4_findBest_X4_layableSet
set_option maxRecDepth 20000 in
theorem ggX4_findBest_J6_bitCount_0f7a4 : GoodIn wsX4_findBest wsJ6_bitCount_0f7a4 := goodIn_r _ [29, 30, 31, 32] (by decide +kernel) (by decide +kernel)
set_option maxRecDepth 20000 in
theorem gX4_findBest_J6_bitCount_0f7a4 : GoodIn wsX4_findBest (va_wsS RX4 137 yJ6_bitCount_0f7a4 wsJ6_bitCount_0f7a4) := goodIn_app (goodIn_of _ (by decide +kernel)) ggX4_findBest_J6_bitCount_0f7a4
set_option maxRecDepth 20000 in
theorem ggX4_findBest_X1_touchesOf : GoodIn wsX4_findBest wsX1_touchesOf := goodIn_r _ [37, 38, 39, 5, 40, 70, 71, 72, 73] (by decide +kernel) (by decide +kernel)
set_option maxRecDepth 20000 in
theorem gX4_findBest_X1_touchesOf : GoodIn wsX4_findBest (wsV RX4 122 RX1 yX1_touchesOf wsX1_touchesOf) := goodIn_app (goodIn_of _ (by decide +kernel)) ggX4_findBest_X1_touchesOf
set_option maxRecDepth 20000 in
theorem ggX4_findBest_X4_isBetter : GoodIn wsX4_findBest wsX4_isBetter := goodIn_r _ [44, 45, 1, 46, 47, 48, 49, 50, 51, 52, 26, 27, 28, 29, 30, 31, 32, 33, 34, 35, 36, 37, 38, 39, 5, 40, 53, 54, 55, 56, 57, 74, 75, 76, 77, 70, 71, 72, 73] (by decide +kernel) (by decide +kernel)
set_option maxRecDepth 20000 in
theorem gX4_findBest_X4_isBetter : GoodIn wsX4_findBest (wsV RX4 187 RX4 yX4_isBetter wsX4_isBetter) := goodIn_app (goodIn_of _ (by decide +kernel)) ggX4_findBest_X4_isBetter
theorem dX4_findBest_0 : decode cX4_findBest 0 = .ok (.aload_n 0, 1) := by decide +kernel
theorem dX4_findBest_1 : decode cX4_findBest 1 = .ok (.invokevirtual 128, 3) := by decide +kernel
theorem dX4_findBest_4 : decode cX4_findBest 4 = .ok (.istore_n 3, 1) := by decide +kernel
theorem dX4_findBest_5 : decode cX4_findBest 5 = .ok (.iconst 0, 1) := by decide +kernel
theorem dX4_findBest_6 : decode cX4_findBest 6 = .ok (.istore 4, 2) := by decide +kernel
theorem dX4_findBest_8 : decode cX4_findBest 8 = .ok (.iconst 1, 1) := by decide +kernel
theorem dX4_findBest_9 : decode cX4_findBest 9 = .ok (.istore 5, 2) := by decide +kernel
theorem dX4_findBest_11 : decode cX4_findBest 11 = .ok (.iload 5, 2) := by decide +kernel
theorem dX4_findBest_13 : decode cX4_findBest 13 = .ok (.iload_n 3, 1) := by decide +kernel
theorem dX4_findBest_14 : decode cX4_findBest 14 = .ok (.if_icmp .gt 67, 3) := by decide +kernel
theorem dX4_findBest_17 : decode cX4_findBest 17 = .ok (.iload 5, 2) := by decide +kernel
theorem dX4_findBest_19 : decode cX4_findBest 19 = .ok (.iload_n 3, 1) := by decide +kernel
theorem dX4_findBest_20 : decode cX4_findBest 20 = .ok (.iconst (-1), 1) := by decide +kernel
theorem dX4_findBest_21 : decode cX4_findBest 21 = .ok (.ixor, 1) := by decide +kernel
theorem dX4_findBest_22 : decode cX4_findBest 22 = .ok (.iand, 1) := by decide +kernel
theorem dX4_findBest_23 : decode cX4_findBest 23 = .ok (.ifCond .ne 29, 3) := by decide +kernel
theorem dX4_findBest_26 : decode cX4_findBest 26 = .ok (.iload 5, 2) := by decide +kernel
theorem dX4_findBest_28 : decode cX4_findBest 28 = .ok (.invokestatic 137, 3) := by decide +kernel
theorem dX4_findBest_31 : decode cX4_findBest 31 = .ok (.iload_n 1, 1) := by decide +kernel
theorem dX4_findBest_32 : decode cX4_findBest 32 = .ok (.if_icmp .gt 20, 3) := by decide +kernel
theorem dX4_findBest_35 : decode cX4_findBest 35 = .ok (.aload_n 0, 1) := by decide +kernel
theorem dX4_findBest_36 : decode cX4_findBest 36 = .ok (.getfield 26, 3) := by decide +kernel
theorem dX4_findBest_39 : decode cX4_findBest 39 = .ok (.iload 5, 2) := by decide +kernel
theorem dX4_findBest_41 : decode cX4_findBest 41 = .ok (.invokevirtual 122, 3) := by decide +kernel
theorem dX4_findBest_44 : decode cX4_findBest 44 = .ok (.iload_n 2, 1) := by decide +kernel
theorem dX4_findBest_45 : decode cX4_findBest 45 = .ok (.if_icmp .gt 7, 3) := by decide +kernel
theorem dX4_findBest_48 : decode cX4_findBest 48 = .ok (.iconst 1, 1) := by decide +kernel
theorem dX4_findBest_49 : decode cX4_findBest 49 = .ok (.goto 4, 3) := by decide +kernel
theorem dX4_findBest_52 : decode cX4_findBest 52 = .ok (.iconst 0, 1) := by decide +kernel
theorem dX4_findBest_53 : decode cX4_findBest 53 = .ok (.istore 6, 2) := by decide +kernel
theorem dX4_findBest_55 : decode cX4_findBest 55 = .ok (.iload 6, 2) := by decide +kernel
theorem dX4_findBest_57 : decode cX4_findBest 57 = .ok (.ifCond .eq 18, 3) := by decide +kernel
theorem dX4_findBest_60 : decode cX4_findBest 60 = .ok (.aload_n 0, 1) := by decide +kernel
theorem dX4_findBest_61 : decode cX4_findBest 61 = .ok (.iload 5, 2) := by decide +kernel
theorem dX4_findBest_63 : decode cX4_findBest 63 = .ok (.iload 4, 2) := by decide +kernel
theorem dX4_findBest_65 : decode cX4_findBest 65 = .ok (.invokevirtual 187, 3) := by decide +kernel
theorem dX4_findBest_68 : decode cX4_findBest 68 = .ok (.ifCond .eq 7, 3) := by decide +kernel
theorem dX4_findBest_71 : decode cX4_findBest 71 = .ok (.iload 5, 2) := by decide +kernel
theorem dX4_findBest_73 : decode cX4_findBest 73 = .ok (.istore 4, 2) := by decide +kernel
theorem dX4_findBest_75 : decode cX4_findBest 75 = .ok (.iinc 5 1, 3) := by decide +kernel
theorem dX4_findBest_78 : decode cX4_findBest 78 = .ok (.goto (-67), 3) := by decide +kernel
theorem dX4_findBest_81 : decode cX4_findBest 81 = .ok (.iload 4, 2) := by decide +kernel
theorem dX4_findBest_83 : decode cX4_findBest 83 = .ok (.ireturn, 1) := by decide +kernel
set_option maxRecDepth 20000 in
theorem ggX4_isBetter_X3_countTouchedBy : GoodIn wsX4_isBetter wsX3_countTouchedBy := goodIn_r _ [7, 8, 9, 31, 32, 33, 34] (by decide +kernel) (by decide +kernel)
set_option maxRecDepth 20000 in
theorem gX4_isBetter_X3_countTouchedBy : GoodIn wsX4_isBetter (wsV RX4 119 RX3 yX3_countTouchedBy wsX3_countTouchedBy) := goodIn_app (goodIn_of _ (by decide +kernel)) ggX4_isBetter_X3_countTouchedBy
set_option maxRecDepth 20000 in
theorem ggX4_isBetter_J6_bitCount_0f7a4 : GoodIn wsX4_isBetter wsJ6_bitCount_0f7a4 := goodIn_r _ [13, 14, 15, 16] (by decide +kernel) (by decide +kernel)
set_option maxRecDepth 20000 in
theorem gX4_isBetter_J6_bitCount_0f7a4 : GoodIn wsX4_isBetter (va_wsS RX4 137 yJ6_bitCount_0f7a4 wsJ6_bitCount_0f7a4) := goodIn_app (goodIn_of _ (by decide +kernel)) ggX4_isBetter_J6_bitCount_0f7a4
set_option maxRecDepth 20000 in
theorem ggX4_isBetter_X1_touchesOf : GoodIn wsX4_isBetter wsX1_touchesOf := goodIn_r _ [21, 22, 23, 24, 25, 35, 36, 37, 38] (by decide +kernel) (by decide +kernel)
set_option maxRecDepth 20000 in
theorem gX4_isBetter_X1_touchesOf : GoodIn wsX4_isBetter (wsV RX4 122 RX1 yX1_touchesOf wsX1_touchesOf) := goodIn_app (goodIn_of _ (by decide +kernel)) ggX4_isBetter_X1_touchesOf
theorem dX4_isBetter_0 : decode cX4_isBetter 0 = .ok (.aload_n 0, 1) := by decide +kernel
theorem dX4_isBetter_1 : decode cX4_isBetter 1 = .ok (.getfield 19, 3) := by decide +kernel
theorem dX4_isBetter_4 : decode cX4_isBetter 4 = .ok (.iload_n 1, 1) := by decide +kernel
theorem dX4_isBetter_5 : decode cX4_isBetter 5 = .ok (.invokevirtual 119, 3) := by decide +kernel
theorem dX4_isBetter_8 : decode cX4_isBetter 8 = .ok (.aload_n 0, 1) := by decide +kernel
theorem dX4_isBetter_9 : decode cX4_isBetter 9 = .ok (.getfield 19, 3) := by decide +kernel
theorem dX4_isBetter_12 : decode cX4_isBetter 12 = .ok (.iload_n 2, 1) := by decide +kernel
theorem dX4_isBetter_13 : decode cX4_isBetter 13 = .ok (.invokevirtual 119, 3) := by decide +kernel
theorem dX4_isBetter_16 : decode cX4_isBetter 16 = .ok (.isub, 1) := by decide +kernel
theorem dX4_isBetter_17 : decode cX4_isBetter 17 = .ok (.istore_n 3, 1) := by decide +kernel
theorem dX4_isBetter_18 : decode cX4_isBetter 18 = .ok (.iload_n 3, 1) := by decide +kernel
theorem dX4_isBetter_19 : decode cX4_isBetter 19 = .ok (.ifCond .eq 13, 3) := by decide +kernel
theorem dX4_isBetter_22 : decode cX4_isBetter 22 = .ok (.iload_n 3, 1) := by decide +kernel
theorem dX4_isBetter_23 : decode cX4_isBetter 23 = .ok (.ifCond .le 7, 3) := by decide +kernel
theorem dX4_isBetter_26 : decode cX4_isBetter 26 = .ok (.iconst 1, 1) := by decide +kernel
theorem dX4_isBetter_27 : decode cX4_isBetter 27 = .ok (.goto 4, 3) := by decide +kernel
theorem dX4_isBetter_30 : decode cX4_isBetter 30 = .ok (.iconst 0, 1) := by decide +kernel
theorem dX4_isBetter_31 : decode cX4_isBetter 31 = .ok (.ireturn, 1) := by decide +kernel
theorem dX4_isBetter_32 : decode cX4_isBetter 32 = .ok (.iload_n 1, 1) := by decide +kernel
theorem dX4_isBetter_33 : decode cX4_isBetter 33 = .ok (.invokestatic 137, 3) := by decide +kernel
theorem dX4_isBetter_36 : decode cX4_isBetter 36 = .ok (.iload_n 2, 1) := by decide +kernel
theorem dX4_isBetter_37 : decode cX4_isBetter 37 = .ok (.invokestatic 137, 3) := by decide +kernel
theorem dX4_isBetter_40 : decode cX4_isBetter 40 = .ok (.isub, 1) := by decide +kernel
theorem dX4_isBetter_41 : decode cX4_isBetter 41 = .ok (.istore 4, 2) := by decide +kernel
theorem dX4_isBetter_43 : decode cX4_isBetter 43 = .ok (.iload 4, 2) := by decide +kernel
theorem dX4_isBetter_45 : decode cX4_isBetter 45 = .ok (.ifCond .eq 14, 3) := by decide +kernel
theorem dX4_isBetter_48 : decode cX4_isBetter 48 = .ok (.iload 4, 2) := by decide +kernel
theorem dX4_isBetter_50 : decode cX4_isBetter 50 = .ok (.ifCond .ge 7, 3) := by decide +kernel
theorem dX4_isBetter_53 : decode cX4_isBetter 53 = .ok (.iconst 1, 1) := by decide +kernel
theorem dX4_isBetter_54 : decode cX4_isBetter 54 = .ok (.goto 4, 3) := by decide +kernel
theorem dX4_isBetter_57 : decode cX4_isBetter 57 = .ok (.iconst 0, 1) := by decide +kernel
theorem dX4_isBetter_58 : decode cX4_isBetter 58 = .ok (.ireturn, 1) := by decide +kernel
theorem dX4_isBetter_59 : decode cX4_isBetter 59 = .ok (.aload_n 0, 1) := by decide +kernel
theorem dX4_isBetter_60 : decode cX4_isBetter 60 = .ok (.getfield 26, 3) := by decide +kernel
theorem dX4_isBetter_63 : decode cX4_isBetter 63 = .ok (.iload_n 1, 1) := by decide +kernel
theorem dX4_isBetter_64 : decode cX4_isBetter 64 = .ok (.invokevirtual 122, 3) := by decide +kernel
theorem dX4_isBetter_67 : decode cX4_isBetter 67 = .ok (.aload_n 0, 1) := by decide +kernel
theorem dX4_isBetter_68 : decode cX4_isBetter 68 = .ok (.getfield 26, 3) := by decide +kernel
theorem dX4_isBetter_71 : decode cX4_isBetter 71 = .ok (.iload_n 2, 1) := by decide +kernel
theorem dX4_isBetter_72 : decode cX4_isBetter 72 = .ok (.invokevirtual 122, 3) := by decide +kernel
theorem dX4_isBetter_75 : decode cX4_isBetter 75 = .ok (.if_icmp .ge 7, 3) := by decide +kernel
theorem dX4_isBetter_78 : decode cX4_isBetter 78 = .ok (.iconst 1, 1) := by decide +kernel
theorem dX4_isBetter_79 : decode cX4_isBetter 79 = .ok (.goto 4, 3) := by decide +kernel
theorem dX4_isBetter_82 : decode cX4_isBetter 82 = .ok (.iconst 0, 1) := by decide +kernel
theorem dX4_isBetter_83 : decode cX4_isBetter 83 = .ok (.ireturn, 1) := by decide +kernel
set_option maxRecDepth 20000 in
theorem ggX4_findMove_X2_decoySet : GoodIn wsX4_findMove wsX2_decoySet := goodIn_r _ [8, 9, 63, 64, 65, 66, 67, 68, 69] (by decide +kernel) (by decide +kernel)
set_option maxRecDepth 20000 in
theorem gX4_findMove_X2_decoySet : GoodIn wsX4_findMove (wsV RX4 56 RX2 yX2_decoySet wsX2_decoySet) := goodIn_app (goodIn_of _ (by decide +kernel)) ggX4_findMove_X2_decoySet
set_option maxRecDepth 20000 in
theorem ggX4_findMove_J6_bitCount_0f7a4 : GoodIn wsX4_findMove wsJ6_bitCount_0f7a4 := goodIn_r _ [13, 14, 15, 16] (by decide +kernel) (by decide +kernel)
set_option maxRecDepth 20000 in
theorem gX4_findMove_J6_bitCount_0f7a4 : GoodIn wsX4_findMove (va_wsS RX4 137 yJ6_bitCount_0f7a4 wsJ6_bitCount_0f7a4) := goodIn_app (goodIn_of _ (by decide +kernel)) ggX4_findMove_J6_bitCount_0f7a4
set_option maxRecDepth 20000 in
theorem ggX4_findMove_X4_layableSet : GoodIn wsX4_findMove wsX4_layableSet := goodIn_r _ [21, 22, 1, 23, 24, 25, 26, 27, 28, 29, 30, 31, 32, 33, 7, 34, 35, 36, 37, 20, 38, 58, 59, 60, 61, 62, 70, 71, 72, 73, 74, 63, 64, 65, 66, 67, 68, 69] (by decide +kernel) (by decide +kernel)
set_option maxRecDepth 20000 in
theorem gX4_findMove_X4_layableSet : GoodIn wsX4_findMove (wsV RX4 128 RX4 yX4_layableSet wsX4_layableSet) := goodIn_app (goodIn_of _ (by decide +kernel)) ggX4_findMove_X4_layableSet
set_option maxRecDepth 20000 in
theorem ggX4_findMove_X1_touchesOf : GoodIn wsX4_findMove wsX1_touchesOf := goodIn_r _ [43, 44, 45, 20, 46, 75, 76, 77, 78] (by decide +kernel) (by decide +kernel)
set_option maxRecDepth 20000 in
theorem gX4_findMove_X1_touchesOf : GoodIn wsX4_findMove (wsV RX4 122 RX1 yX1_touchesOf wsX1_touchesOf) := goodIn_app (goodIn_of _ (by decide +kernel)) ggX4_findMove_X1_touchesOf
set_option maxRecDepth 20000 in
theorem ggX4_findMove_X3_countTouchedBy : GoodIn wsX4_findMove wsX3_countTouchedBy := goodIn_r _ [51, 52, 53, 79, 80, 81, 82] (by decide +kernel) (by decide +kernel)
set_option maxRecDepth 20000 in
theorem gX4_findMove_X3_countTouchedBy : GoodIn wsX4_findMove (wsV RX4 119 RX3 yX3_countTouchedBy wsX3_countTouchedBy) := goodIn_app (goodIn_of _ (by decide +kernel)) ggX4_findMove_X3_countTouchedBy
set_option maxRecDepth 20000 in
theorem ggX4_findMove_X4_isBetterMove : GoodIn wsX4_findMove wsX4_isBetterMove := goodIn_r _ [57, 1, 3, 4, 5, 6, 7, 8, 9, 10, 11, 12, 13, 14, 15, 16, 47, 48, 49, 50, 51, 52, 53, 58, 59, 60, 61, 62, 63, 64, 65, 66, 67, 68, 69, 79, 80, 81, 82] (by decide +kernel) (by decide +kernel)
set_option maxRecDepth 20000 in
theorem gX4_findMove_X4_isBetterMove : GoodIn wsX4_findMove (wsV RX4 190 RX4 yX4_isBetterMove wsX4_isBetterMove) := goodIn_app (goodIn_of _ (by decide +kernel)) ggX4_findMove_X4_isBetterMove
theorem dX4_findMove_0 : decode cX4_findMove 0 = .ok (.aload_n 0, 1) := by decide +kernel
theorem dX4_findMove_1 : decode cX4_findMove 1 = .ok (.getfield 33, 3) := by decide +kernel
theorem dX4_findMove_4 : decode cX4_findMove 4 = .ok (.invokevirtual 56, 3) := by decide +kernel
theorem dX4_findMove_7 : decode cX4_findMove 7 = .ok (.invokestatic 137, 3) := by decide +kernel
theorem dX4_findMove_10 : decode cX4_findMove 10 = .ok (.istore_n 3, 1) := by decide +kernel
theorem dX4_findMove_11 : decode cX4_findMove 11 = .ok (.aload_n 0, 1) := by decide +kernel
theorem dX4_findMove_12 : decode cX4_findMove 12 = .ok (.invokevirtual 128, 3) := by decide +kernel
theorem dX4_findMove_15 : decode cX4_findMove 15 = .ok (.istore 4, 2) := by decide +kernel
theorem dX4_findMove_17 : decode cX4_findMove 17 = .ok (.iconst (-1), 1) := by decide +kernel
theorem dX4_findMove_18 : decode cX4_findMove 18 = .ok (.istore 5, 2) := by decide +kernel
theorem dX4_findMove_20 : decode cX4_findMove 20 = .ok (.iconst 0, 1) := by decide +kernel
theorem dX4_findMove_21 : decode cX4_findMove 21 = .ok (.istore 6, 2) := by decide +kernel
theorem dX4_findMove_23 : decode cX4_findMove 23 = .ok (.iload 6, 2) := by decide +kernel
theorem dX4_findMove_25 : decode cX4_findMove 25 = .ok (.iload 4, 2) := by decide +kernel
theorem dX4_findMove_27 : decode cX4_findMove 27 = .ok (.if_icmp .gt 87, 3) := by decide +kernel
theorem dX4_findMove_30 : decode cX4_findMove 30 = .ok (.iload 6, 2) := by decide +kernel
theorem dX4_findMove_32 : decode cX4_findMove 32 = .ok (.iload 4, 2) := by decide +kernel
theorem dX4_findMove_34 : decode cX4_findMove 34 = .ok (.iconst (-1), 1) := by decide +kernel
theorem dX4_findMove_35 : decode cX4_findMove 35 = .ok (.ixor, 1) := by decide +kernel
theorem dX4_findMove_36 : decode cX4_findMove 36 = .ok (.iand, 1) := by decide +kernel
theorem dX4_findMove_37 : decode cX4_findMove 37 = .ok (.ifCond .ne 42, 3) := by decide +kernel
theorem dX4_findMove_40 : decode cX4_findMove 40 = .ok (.iload 6, 2) := by decide +kernel
theorem dX4_findMove_42 : decode cX4_findMove 42 = .ok (.invokestatic 137, 3) := by decide +kernel
theorem dX4_findMove_45 : decode cX4_findMove 45 = .ok (.iload_n 3, 1) := by decide +kernel
theorem dX4_findMove_46 : decode cX4_findMove 46 = .ok (.if_icmp .ne 33, 3) := by decide +kernel
theorem dX4_findMove_49 : decode cX4_findMove 49 = .ok (.aload_n 0, 1) := by decide +kernel
theorem dX4_findMove_50 : decode cX4_findMove 50 = .ok (.getfield 26, 3) := by decide +kernel
theorem dX4_findMove_53 : decode cX4_findMove 53 = .ok (.iload 6, 2) := by decide +kernel
theorem dX4_findMove_55 : decode cX4_findMove 55 = .ok (.invokevirtual 122, 3) := by decide +kernel
theorem dX4_findMove_58 : decode cX4_findMove 58 = .ok (.iload_n 1, 1) := by decide +kernel
theorem dX4_findMove_59 : decode cX4_findMove 59 = .ok (.if_icmp .gt 20, 3) := by decide +kernel
theorem dX4_findMove_62 : decode cX4_findMove 62 = .ok (.aload_n 0, 1) := by decide +kernel
theorem dX4_findMove_63 : decode cX4_findMove 63 = .ok (.getfield 19, 3) := by decide +kernel
theorem dX4_findMove_66 : decode cX4_findMove 66 = .ok (.iload 6, 2) := by decide +kernel
theorem dX4_findMove_68 : decode cX4_findMove 68 = .ok (.invokevirtual 119, 3) := by decide +kernel
theorem dX4_findMove_71 : decode cX4_findMove 71 = .ok (.iload_n 2, 1) := by decide +kernel
theorem dX4_findMove_72 : decode cX4_findMove 72 = .ok (.if_icmp .lt 7, 3) := by decide +kernel
theorem dX4_findMove_75 : decode cX4_findMove 75 = .ok (.iconst 1, 1) := by decide +kernel
theorem dX4_findMove_76 : decode cX4_findMove 76 = .ok (.goto 4, 3) := by decide +kernel
theorem dX4_findMove_79 : decode cX4_findMove 79 = .ok (.iconst 0, 1) := by decide +kernel
theorem dX4_findMove_80 : decode cX4_findMove 80 = .ok (.istore 7, 2) := by decide +kernel
theorem dX4_findMove_82 : decode cX4_findMove 82 = .ok (.iload 7, 2) := by decide +kernel
theorem dX4_findMove_84 : decode cX4_findMove 84 = .ok (.ifCond .eq 24, 3) := by decide +kernel
theorem dX4_findMove_87 : decode cX4_findMove 87 = .ok (.iload 5, 2) := by decide +kernel
theorem dX4_findMove_89 : decode cX4_findMove 89 = .ok (.iconst (-1), 1) := by decide +kernel
theorem dX4_findMove_90 : decode cX4_findMove 90 = .ok (.if_icmp .eq 14, 3) := by decide +kernel
theorem dX4_findMove_93 : decode cX4_findMove 93 = .ok (.aload_n 0, 1) := by decide +kernel
theorem dX4_findMove_94 : decode cX4_findMove 94 = .ok (.iload 6, 2) := by decide +kernel
theorem dX4_findMove_96 : decode cX4_findMove 96 = .ok (.iload 5, 2) := by decide +kernel
theorem dX4_findMove_98 : decode cX4_findMove 98 = .ok (.invokevirtual 190, 3) := by decide +kernel
theorem dX4_findMove_101 : decode cX4_findMove 101 = .ok (.ifCond .eq 7, 3) := by decide +kernel
theorem dX4_findMove_104 : decode cX4_findMove 104 = .ok (.iload 6, 2) := by decide +kernel
theorem dX4_findMove_106 : decode cX4_findMove 106 = .ok (.istore 5, 2) := by decide +kernel
theorem dX4_findMove_108 : decode cX4_findMove 108 = .ok (.iinc 6 1, 3) := by decide +kernel
theorem dX4_findMove_111 : decode cX4_findMove 111 = .ok (.goto (-88), 3) := by decide +kernel
theorem dX4_findMove_114 : decode cX4_findMove 114 = .ok (.iload 5, 2) := by decide +kernel
theorem dX4_findMove_116 : decode cX4_findMove 116 = .ok (.ireturn, 1) := by decide +kernel
set_option maxRecDepth 20000 in
theorem ggX4_isBetterMove_X2_decoySet : GoodIn wsX4_isBetterMove wsX2_decoySet := goodIn_r _ [7, 8, 28, 29, 30, 31, 32, 33, 34] (by decide +kernel) (by decide +kernel)
set_option maxRecDepth 20000 in
theorem gX4_isBetterMove_X2_decoySet : GoodIn wsX4_isBetterMove (wsV RX4 56 RX2 yX2_decoySet wsX2_decoySet) := goodIn_app (goodIn_of _ (by decide +kernel)) ggX4_isBetterMove_X2_decoySet
set_option maxRecDepth 20000 in
theorem ggX4_isBetterMove_J6_bitCount_0f7a4 : GoodIn wsX4_isBetterMove wsJ6_bitCount_0f7a4 := goodIn_r _ [12, 13, 14, 15] (by decide +kernel) (by decide +kernel)
set_option maxRecDepth 20000 in
theorem gX4_isBetterMove_J6_bitCount_0f7a4 : GoodIn wsX4_isBetterMove (va_wsS RX4 137 yJ6_bitCount_0f7a4 wsJ6_bitCount_0f7a4) := goodIn_app (goodIn_of _ (by decide +kernel)) ggX4_isBetterMove_J6_bitCount_0f7a4
set_option maxRecDepth 20000 in
theorem ggX4_isBetterMove_X3_countTouchedBy : GoodIn wsX4_isBetterMove wsX3_countTouchedBy := goodIn_r _ [20, 21, 22, 35, 36, 37, 38] (by decide +kernel) (by decide +kernel)
set_option maxRecDepth 20000 in
theorem gX4_isBetterMove_X3_countTouchedBy : GoodIn wsX4_isBetterMove (wsV RX4 119 RX3 yX3_countTouchedBy wsX3_countTouchedBy) := goodIn_app (goodIn_of _ (by decide +kernel)) ggX4_isBetterMove_X3_countTouchedBy
theorem dX4_isBetterMove_0 : decode cX4_isBetterMove 0 = .ok (.aload_n 0, 1) := by decide +kernel
theorem dX4_isBetterMove_1 : decode cX4_isBetterMove 1 = .ok (.getfield 33, 3) := by decide +kernel
theorem dX4_isBetterMove_4 : decode cX4_isBetterMove 4 = .ok (.invokevirtual 56, 3) := by decide +kernel
theorem dX4_isBetterMove_7 : decode cX4_isBetterMove 7 = .ok (.istore_n 3, 1) := by decide +kernel
theorem dX4_isBetterMove_8 : decode cX4_isBetterMove 8 = .ok (.iload_n 1, 1) := by decide +kernel
theorem dX4_isBetterMove_9 : decode cX4_isBetterMove 9 = .ok (.iload_n 3, 1) := by decide +kernel
theorem dX4_isBetterMove_10 : decode cX4_isBetterMove 10 = .ok (.iand, 1) := by decide +kernel
theorem dX4_isBetterMove_11 : decode cX4_isBetterMove 11 = .ok (.invokestatic 137, 3) := by decide +kernel
theorem dX4_isBetterMove_14 : decode cX4_isBetterMove 14 = .ok (.iload_n 2, 1) := by decide +kernel
theorem dX4_isBetterMove_15 : decode cX4_isBetterMove 15 = .ok (.iload_n 3, 1) := by decide +kernel
theorem dX4_isBetterMove_16 : decode cX4_isBetterMove 16 = .ok (.iand, 1) := by decide +kernel
theorem dX4_isBetterMove_17 : decode cX4_isBetterMove 17 = .ok (.invokestatic 137, 3) := by decide +kernel
theorem dX4_isBetterMove_20 : decode cX4_isBetterMove 20 = .ok (.isub, 1) := by decide +kernel
theorem dX4_isBetterMove_21 : decode cX4_isBetterMove 21 = .ok (.istore 4, 2) := by decide +kernel
theorem dX4_isBetterMove_23 : decode cX4_isBetterMove 23 = .ok (.iload 4, 2) := by decide +kernel
theorem dX4_isBetterMove_25 : decode cX4_isBetterMove 25 = .ok (.ifCond .eq 14, 3) := by decide +kernel
theorem dX4_isBetterMove_28 : decode cX4_isBetterMove 28 = .ok (.iload 4, 2) := by decide +kernel
theorem dX4_isBetterMove_30 : decode cX4_isBetterMove 30 = .ok (.ifCond .le 7, 3) := by decide +kernel
theorem dX4_isBetterMove_33 : decode cX4_isBetterMove 33 = .ok (.iconst 1, 1) := by decide +kernel
theorem dX4_isBetterMove_34 : decode cX4_isBetterMove 34 = .ok (.goto 4, 3) := by decide +kernel
theorem dX4_isBetterMove_37 : decode cX4_isBetterMove 37 = .ok (.iconst 0, 1) := by decide +kernel
theorem dX4_isBetterMove_38 : decode cX4_isBetterMove 38 = .ok (.ireturn, 1) := by decide +kernel
theorem dX4_isBetterMove_39 : decode cX4_isBetterMove 39 = .ok (.aload_n 0, 1) := by decide +kernel
theorem dX4_isBetterMove_40 : decode cX4_isBetterMove 40 = .ok (.getfield 19, 3) := by decide +kernel
theorem dX4_isBetterMove_43 : decode cX4_isBetterMove 43 = .ok (.iload_n 1, 1) := by decide +kernel
theorem dX4_isBetterMove_44 : decode cX4_isBetterMove 44 = .ok (.invokevirtual 119, 3) := by decide +kernel
theorem dX4_isBetterMove_47 : decode cX4_isBetterMove 47 = .ok (.aload_n 0, 1) := by decide +kernel
theorem dX4_isBetterMove_48 : decode cX4_isBetterMove 48 = .ok (.getfield 19, 3) := by decide +kernel
theorem dX4_isBetterMove_51 : decode cX4_isBetterMove 51 = .ok (.iload_n 2, 1) := by decide +kernel
theorem dX4_isBetterMove_52 : decode cX4_isBetterMove 52 = .ok (.invokevirtual 119, 3) := by decide +kernel
theorem dX4_isBetterMove_55 : decode cX4_isBetterMove 55 = .ok (.if_icmp .le 7, 3) := by decide +kernel
theorem dX4_isBetterMove_58 : decode cX4_isBetterMove 58 = .ok (.iconst 1, 1) := by decide +kernel
theorem dX4_isBetterMove_59 : decode cX4_isBetterMove 59 = .ok (.goto 4, 3) := by decide +kernel
theorem dX4_isBetterMove_62 : decode cX4_isBetterMove 62 = .ok (.iconst 0, 1) := by decide +kernel
theorem dX4_isBetterMove_63 : decode cX4_isBetterMove 63 = .ok (.ireturn, 1) := by decide +kernel
theorem dX4_areMarks_0 : decode cX4_areMarks 0 = .ok (.iload_n 0, 1) := by decide +kernel
theorem dX4_areMarks_1 : decode cX4_areMarks 1 = .ok (.ifCond .lt 14, 3) := by decide +kernel
theorem dX4_areMarks_4 : decode cX4_areMarks 4 = .ok (.iload_n 0, 1) := by decide +kernel
theorem dX4_areMarks_5 : decode cX4_areMarks 5 = .ok (.sipush 255, 3) := by decide +kernel
theorem dX4_areMarks_8 : decode cX4_areMarks 8 = .ok (.if_icmp .gt 7, 3) := by decide +kernel
theorem dX4_areMarks_11 : decode cX4_areMarks 11 = .ok (.iconst 1, 1) := by decide +kernel
theorem dX4_areMarks_12 : decode cX4_areMarks 12 = .ok (.goto 4, 3) := by decide +kernel
theorem dX4_areMarks_15 : decode cX4_areMarks 15 = .ok (.iconst 0, 1) := by decide +kernel
theorem dX4_areMarks_16 : decode cX4_areMarks 16 = .ok (.ireturn, 1) := by decide +kernel
theorem dX4_has_0 : decode cX4_has 0 = .ok (.iload_n 1, 1) := by decide +kernel
theorem dX4_has_1 : decode cX4_has 1 = .ok (.ifCond .lt 22, 3) := by decide +kernel
theorem dX4_has_4 : decode cX4_has 4 = .ok (.iload_n 1, 1) := by decide +kernel
theorem dX4_has_5 : decode cX4_has 5 = .ok (.bipush 9, 2) := by decide +kernel
theorem dX4_has_7 : decode cX4_has 7 = .ok (.if_icmp .ge 16, 3) := by decide +kernel
theorem dX4_has_10 : decode cX4_has 10 = .ok (.iload_n 0, 1) := by decide +kernel
theorem dX4_has_11 : decode cX4_has 11 = .ok (.iload_n 1, 1) := by decide +kernel
theorem dX4_has_12 : decode cX4_has 12 = .ok (.iushr, 1) := by decide +kernel
theorem dX4_has_13 : decode cX4_has 13 = .ok (.iconst 1, 1) := by decide +kernel
theorem dX4_has_14 : decode cX4_has 14 = .ok (.iand, 1) := by decide +kernel
theorem dX4_has_15 : decode cX4_has 15 = .ok (.iconst 1, 1) := by decide +kernel
theorem dX4_has_16 : decode cX4_has 16 = .ok (.if_icmp .ne 7, 3) := by decide +kernel
theorem dX4_has_19 : decode cX4_has 19 = .ok (.iconst 1, 1) := by decide +kernel
theorem dX4_has_20 : decode cX4_has 20 = .ok (.goto 4, 3) := by decide +kernel
theorem dX4_has_23 : decode cX4_has 23 = .ok (.iconst 0, 1) := by decide +kernel
theorem dX4_has_24 : decode cX4_has 24 = .ok (.ireturn, 1) := by decide +kernel
theorem dX4_setOf_0 : decode cX4_setOf 0 = .ok (.iload_n 0, 1) := by decide +kernel
theorem dX4_setOf_1 : decode cX4_setOf 1 = .ok (.ifCond .lt 15, 3) := by decide +kernel
theorem dX4_setOf_4 : decode cX4_setOf 4 = .ok (.iload_n 0, 1) := by decide +kernel
theorem dX4_setOf_5 : decode cX4_setOf 5 = .ok (.bipush 9, 2) := by decide +kernel
theorem dX4_setOf_7 : decode cX4_setOf 7 = .ok (.if_icmp .ge 9, 3) := by decide +kernel
theorem dX4_setOf_10 : decode cX4_setOf 10 = .ok (.iconst 1, 1) := by decide +kernel
theorem dX4_setOf_11 : decode cX4_setOf 11 = .ok (.iload_n 0, 1) := by decide +kernel
theorem dX4_setOf_12 : decode cX4_setOf 12 = .ok (.ishl, 1) := by decide +kernel
theorem dX4_setOf_13 : decode cX4_setOf 13 = .ok (.goto 4, 3) := by decide +kernel
theorem dX4_setOf_16 : decode cX4_setOf 16 = .ok (.iconst 0, 1) := by decide +kernel
theorem dX4_setOf_17 : decode cX4_setOf 17 = .ok (.ireturn, 1) := by decide +kernel
theorem dX4_placeInRow_0 : decode cX4_placeInRow 0 = .ok (.iload_n 0, 1) := by decide +kernel
theorem dX4_placeInRow_1 : decode cX4_placeInRow 1 = .ok (.iconst 4, 1) := by decide +kernel
theorem dX4_placeInRow_2 : decode cX4_placeInRow 2 = .ok (.iload_n 1, 1) := by decide +kernel
theorem dX4_placeInRow_3 : decode cX4_placeInRow 3 = .ok (.imul, 1) := by decide +kernel
theorem dX4_placeInRow_4 : decode cX4_placeInRow 4 = .ok (.iushr, 1) := by decide +kernel
theorem dX4_placeInRow_5 : decode cX4_placeInRow 5 = .ok (.bipush 15, 2) := by decide +kernel
theorem dX4_placeInRow_7 : decode cX4_placeInRow 7 = .ok (.iand, 1) := by decide +kernel
theorem dX4_placeInRow_8 : decode cX4_placeInRow 8 = .ok (.ireturn, 1) := by decide +kernel
theorem dX4_placeOn_0 : decode cX4_placeOn 0 = .ok (.iload_n 1, 1) := by decide +kernel
theorem dX4_placeOn_1 : decode cX4_placeOn 1 = .ok (.ifCond .lt 22, 3) := by decide +kernel
theorem dX4_placeOn_4 : decode cX4_placeOn 4 = .ok (.iload_n 1, 1) := by decide +kernel
theorem dX4_placeOn_5 : decode cX4_placeOn 5 = .ok (.bipush 6, 2) := by decide +kernel
theorem dX4_placeOn_7 : decode cX4_placeOn 7 = .ok (.if_icmp .ge 16, 3) := by decide +kernel
theorem dX4_placeOn_10 : decode cX4_placeOn 10 = .ok (.iload_n 0, 1) := by decide +kernel
theorem dX4_placeOn_11 : decode cX4_placeOn 11 = .ok (.iconst 4, 1) := by decide +kernel
theorem dX4_placeOn_12 : decode cX4_placeOn 12 = .ok (.iload_n 1, 1) := by decide +kernel
theorem dX4_placeOn_13 : decode cX4_placeOn 13 = .ok (.imul, 1) := by decide +kernel
theorem dX4_placeOn_14 : decode cX4_placeOn 14 = .ok (.iushr, 1) := by decide +kernel
theorem dX4_placeOn_15 : decode cX4_placeOn 15 = .ok (.bipush 15, 2) := by decide +kernel
theorem dX4_placeOn_17 : decode cX4_placeOn 17 = .ok (.iand, 1) := by decide +kernel
theorem dX4_placeOn_18 : decode cX4_placeOn 18 = .ok (.iconst 1, 1) := by decide +kernel
theorem dX4_placeOn_19 : decode cX4_placeOn 19 = .ok (.isub, 1) := by decide +kernel
theorem dX4_placeOn_20 : decode cX4_placeOn 20 = .ok (.goto 4, 3) := by decide +kernel
theorem dX4_placeOn_23 : decode cX4_placeOn 23 = .ok (.iconst (-1), 1) := by decide +kernel
theorem dX4_placeOn_24 : decode cX4_placeOn 24 = .ok (.ireturn, 1) := by decide +kernel
theorem dX4_withPlace_0 : decode cX4_withPlace 0 = .ok (.iload_n 1, 1) := by decide +kernel
theorem dX4_withPlace_1 : decode cX4_withPlace 1 = .ok (.ifCond .lt 21, 3) := by decide +kernel
theorem dX4_withPlace_4 : decode cX4_withPlace 4 = .ok (.iload_n 1, 1) := by decide +kernel
theorem dX4_withPlace_5 : decode cX4_withPlace 5 = .ok (.bipush 6, 2) := by decide +kernel
theorem dX4_withPlace_7 : decode cX4_withPlace 7 = .ok (.if_icmp .ge 15, 3) := by decide +kernel
theorem dX4_withPlace_10 : decode cX4_withPlace 10 = .ok (.iload_n 0, 1) := by decide +kernel
theorem dX4_withPlace_11 : decode cX4_withPlace 11 = .ok (.iload_n 2, 1) := by decide +kernel
theorem dX4_withPlace_12 : decode cX4_withPlace 12 = .ok (.iconst 1, 1) := by decide +kernel
theorem dX4_withPlace_13 : decode cX4_withPlace 13 = .ok (.iadd, 1) := by decide +kernel
theorem dX4_withPlace_14 : decode cX4_withPlace 14 = .ok (.iconst 4, 1) := by decide +kernel
theorem dX4_withPlace_15 : decode cX4_withPlace 15 = .ok (.iload_n 1, 1) := by decide +kernel
theorem dX4_withPlace_16 : decode cX4_withPlace 16 = .ok (.imul, 1) := by decide +kernel
theorem dX4_withPlace_17 : decode cX4_withPlace 17 = .ok (.ishl, 1) := by decide +kernel
theorem dX4_withPlace_18 : decode cX4_withPlace 18 = .ok (.ior, 1) := by decide +kernel
theorem dX4_withPlace_19 : decode cX4_withPlace 19 = .ok (.goto 4, 3) := by decide +kernel
theorem dX4_withPlace_22 : decode cX4_withPlace 22 = .ok (.iload_n 0, 1) := by decide +kernel
theorem dX4_withPlace_23 : decode cX4_withPlace 23 = .ok (.ireturn, 1) := by decide +kernel
