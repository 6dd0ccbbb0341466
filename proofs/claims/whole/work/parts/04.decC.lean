theorem dX5_init_0 : decode cX5_init 0 = .ok (.aload_n 0, 1) := by decide +kernel
theorem dX5_init_1 : decode cX5_init 1 = .ok (.invokespecial 1, 3) := by decide +kernel
theorem dX5_init_4 : decode cX5_init 4 = .ok (.aload_n 0, 1) := by decide +kernel
theorem dX5_init_5 : decode cX5_init 5 = .ok (.iconst 2, 1) := by decide +kernel
theorem dX5_init_6 : decode cX5_init 6 = .ok (.putfield 7, 3) := by decide +kernel
theorem dX5_init_9 : decode cX5_init 9 = .ok (.aload_n 0, 1) := by decide +kernel
theorem dX5_init_10 : decode cX5_init 10 = .ok (.sipush 255, 3) := by decide +kernel
theorem dX5_init_13 : decode cX5_init 13 = .ok (.putfield 13, 3) := by decide +kernel
theorem dX5_init_16 : decode cX5_init 16 = .ok (.aload_n 0, 1) := by decide +kernel
theorem dX5_init_17 : decode cX5_init 17 = .ok (.iconst 3, 1) := by decide +kernel
theorem dX5_init_18 : decode cX5_init 18 = .ok (.putfield 16, 3) := by decide +kernel
theorem dX5_init_21 : decode cX5_init 21 = .ok (.aload_n 0, 1) := by decide +kernel
theorem dX5_init_22 : decode cX5_init 22 = .ok (.bipush 81, 2) := by decide +kernel
theorem dX5_init_24 : decode cX5_init 24 = .ok (.newarray .boolean, 2) := by decide +kernel
theorem dX5_init_26 : decode cX5_init 26 = .ok (.putfield 19, 3) := by decide +kernel
theorem dX5_init_29 : decode cX5_init 29 = .ok (.aload_n 0, 1) := by decide +kernel
theorem dX5_init_30 : decode cX5_init 30 = .ok (.bipush 9, 2) := by decide +kernel
theorem dX5_init_32 : decode cX5_init 32 = .ok (.newarray .int, 2) := by decide +kernel
theorem dX5_init_34 : decode cX5_init 34 = .ok (.putfield 23, 3) := by decide +kernel
theorem dX5_init_37 : decode cX5_init 37 = .ok (.aload_n 0, 1) := by decide +kernel
theorem dX5_init_38 : decode cX5_init 38 = .ok (.bipush 9, 2) := by decide +kernel
theorem dX5_init_40 : decode cX5_init 40 = .ok (.newarray .int, 2) := by decide +kernel
theorem dX5_init_42 : decode cX5_init 42 = .ok (.putfield 27, 3) := by decide +kernel
theorem dX5_init_45 : decode cX5_init 45 = .ok (.aload_n 0, 1) := by decide +kernel
theorem dX5_init_46 : decode cX5_init 46 = .ok (.bipush 9, 2) := by decide +kernel
theorem dX5_init_48 : decode cX5_init 48 = .ok (.newarray .int, 2) := by decide +kernel
theorem dX5_init_50 : decode cX5_init 50 = .ok (.putfield 30, 3) := by decide +kernel
theorem dX5_init_53 : decode cX5_init 53 = .ok (.aload_n 0, 1) := by decide +kernel
theorem dX5_init_54 : decode cX5_init 54 = .ok (.bipush 9, 2) := by decide +kernel
theorem dX5_init_56 : decode cX5_init 56 = .ok (.newarray .int, 2) := by decide +kernel
theorem dX5_init_58 : decode cX5_init 58 = .ok (.putfield 33, 3) := by decide +kernel
theorem dX5_init_61 : decode cX5_init 61 = .ok (.aload_n 0, 1) := by decide +kernel
theorem dX5_init_62 : decode cX5_init 62 = .ok (.bipush 6, 2) := by decide +kernel
theorem dX5_init_64 : decode cX5_init 64 = .ok (.newarray .int, 2) := by decide +kernel
theorem dX5_init_66 : decode cX5_init 66 = .ok (.putfield 36, 3) := by decide +kernel
theorem dX5_init_69 : decode cX5_init 69 = .ok (.aload_n 0, 1) := by decide +kernel
theorem dX5_init_70 : decode cX5_init 70 = .ok (.bipush 6, 2) := by decide +kernel
theorem dX5_init_72 : decode cX5_init 72 = .ok (.newarray .int, 2) := by decide +kernel
theorem dX5_init_74 : decode cX5_init 74 = .ok (.putfield 39, 3) := by decide +kernel
theorem dX5_init_77 : decode cX5_init 77 = .ok (.aload_n 0, 1) := by decide +kernel
theorem dX5_init_78 : decode cX5_init 78 = .ok (.bipush 48, 2) := by decide +kernel
theorem dX5_init_80 : decode cX5_init 80 = .ok (.newarray .int, 2) := by decide +kernel
theorem dX5_init_82 : decode cX5_init 82 = .ok (.putfield 42, 3) := by decide +kernel
theorem dX5_init_85 : decode cX5_init 85 = .ok (.aload_n 0, 1) := by decide +kernel
theorem dX5_init_86 : decode cX5_init 86 = .ok (.bipush 6, 2) := by decide +kernel
theorem dX5_init_88 : decode cX5_init 88 = .ok (.newarray .int, 2) := by decide +kernel
theorem dX5_init_90 : decode cX5_init 90 = .ok (.putfield 45, 3) := by decide +kernel
theorem dX5_init_93 : decode cX5_init 93 = .ok (.aload_n 0, 1) := by decide +kernel
theorem dX5_init_94 : decode cX5_init 94 = .ok (.sipush 12000, 3) := by decide +kernel
theorem dX5_init_97 : decode cX5_init 97 = .ok (.newarray .int, 2) := by decide +kernel
theorem dX5_init_99 : decode cX5_init 99 = .ok (.putfield 48, 3) := by decide +kernel
theorem dX5_init_102 : decode cX5_init 102 = .ok (.aload_n 0, 1) := by decide +kernel
theorem dX5_init_103 : decode cX5_init 103 = .ok (.sipush 2000, 3) := by decide +kernel
theorem dX5_init_106 : decode cX5_init 106 = .ok (.newarray .int, 2) := by decide +kernel
theorem dX5_init_108 : decode cX5_init 108 = .ok (.putfield 51, 3) := by decide +kernel
theorem dX5_init_111 : decode cX5_init 111 = .ok (.aload_n 0, 1) := by decide +kernel
theorem dX5_init_112 : decode cX5_init 112 = .ok (.sipush 2000, 3) := by decide +kernel
theorem dX5_init_115 : decode cX5_init 115 = .ok (.newarray .int, 2) := by decide +kernel
theorem dX5_init_117 : decode cX5_init 117 = .ok (.putfield 54, 3) := by decide +kernel
theorem dX5_init_120 : decode cX5_init 120 = .ok (.aload_n 0, 1) := by decide +kernel
theorem dX5_init_121 : decode cX5_init 121 = .ok (.bipush 7, 2) := by decide +kernel
theorem dX5_init_123 : decode cX5_init 123 = .ok (.newarray .int, 2) := by decide +kernel
theorem dX5_init_125 : decode cX5_init 125 = .ok (.putfield 57, 3) := by decide +kernel
theorem dX5_init_128 : decode cX5_init 128 = .ok (.aload_n 0, 1) := by decide +kernel
theorem dX5_init_129 : decode cX5_init 129 = .ok (.bipush 7, 2) := by decide +kernel
theorem dX5_init_131 : decode cX5_init 131 = .ok (.newarray .int, 2) := by decide +kernel
theorem dX5_init_133 : decode cX5_init 133 = .ok (.putfield 60, 3) := by decide +kernel
theorem dX5_init_136 : decode cX5_init 136 = .ok (.return_, 1) := by decide +kernel
theorem dX5_isIn_0 : decode cX5_isIn 0 = .ok (.iload_n 0, 1) := by decide +kernel
theorem dX5_isIn_1 : decode cX5_isIn 1 = .ok (.iload_n 1, 1) := by decide +kernel
theorem dX5_isIn_2 : decode cX5_isIn 2 = .ok (.if_icmp .lt 12, 3) := by decide +kernel
theorem dX5_isIn_5 : decode cX5_isIn 5 = .ok (.iload_n 0, 1) := by decide +kernel
theorem dX5_isIn_6 : decode cX5_isIn 6 = .ok (.iload_n 2, 1) := by decide +kernel
theorem dX5_isIn_7 : decode cX5_isIn 7 = .ok (.if_icmp .gt 7, 3) := by decide +kernel
theorem dX5_isIn_10 : decode cX5_isIn 10 = .ok (.iconst 1, 1) := by decide +kernel
theorem dX5_isIn_11 : decode cX5_isIn 11 = .ok (.goto 4, 3) := by decide +kernel
theorem dX5_isIn_14 : decode cX5_isIn 14 = .ok (.iconst 0, 1) := by decide +kernel
theorem dX5_isIn_15 : decode cX5_isIn 15 = .ok (.ireturn, 1) := by decide +kernel
set_option maxRecDepth 20000 in
theorem ggX5_isPlace_X5_isIn : GoodIn wsX5_isPlace wsX5_isIn := goodIn_r _ [5] (by decide +kernel) (by decide +kernel)
set_option maxRecDepth 20000 in
theorem gX5_isPlace_X5_isIn : GoodIn wsX5_isPlace (va_wsS RX5 63 yX5_isIn wsX5_isIn) := goodIn_app (goodIn_of _ (by decide +kernel)) ggX5_isPlace_X5_isIn
theorem dX5_isPlace_0 : decode cX5_isPlace 0 = .ok (.iload_n 1, 1) := by decide +kernel
theorem dX5_isPlace_1 : decode cX5_isPlace 1 = .ok (.iconst 0, 1) := by decide +kernel
theorem dX5_isPlace_2 : decode cX5_isPlace 2 = .ok (.aload_n 0, 1) := by decide +kernel
theorem dX5_isPlace_3 : decode cX5_isPlace 3 = .ok (.getfield 7, 3) := by decide +kernel
theorem dX5_isPlace_6 : decode cX5_isPlace 6 = .ok (.iconst 1, 1) := by decide +kernel
theorem dX5_isPlace_7 : decode cX5_isPlace 7 = .ok (.isub, 1) := by decide +kernel
theorem dX5_isPlace_8 : decode cX5_isPlace 8 = .ok (.invokestatic 63, 3) := by decide +kernel
theorem dX5_isPlace_11 : decode cX5_isPlace 11 = .ok (.ireturn, 1) := by decide +kernel
set_option maxRecDepth 20000 in
theorem ggX5_house_X5_isIn : GoodIn wsX5_house wsX5_isIn := goodIn_r _ [17] (by decide +kernel) (by decide +kernel)
set_option maxRecDepth 20000 in
theorem gX5_house_X5_isIn : GoodIn wsX5_house (va_wsS RX5 63 yX5_isIn wsX5_isIn) := goodIn_app (goodIn_of _ (by decide +kernel)) ggX5_house_X5_isIn
theorem dX5_house_0 : decode cX5_house 0 = .ok (.iload_n 1, 1) := by decide +kernel
theorem dX5_house_1 : decode cX5_house 1 = .ok (.iconst 2, 1) := by decide +kernel
theorem dX5_house_2 : decode cX5_house 2 = .ok (.bipush 9, 2) := by decide +kernel
theorem dX5_house_4 : decode cX5_house 4 = .ok (.invokestatic 63, 3) := by decide +kernel
theorem dX5_house_7 : decode cX5_house 7 = .ok (.ifCond .ne 5, 3) := by decide +kernel
theorem dX5_house_10 : decode cX5_house 10 = .ok (.iconst 0, 1) := by decide +kernel
theorem dX5_house_11 : decode cX5_house 11 = .ok (.ireturn, 1) := by decide +kernel
theorem dX5_house_12 : decode cX5_house 12 = .ok (.aload_n 0, 1) := by decide +kernel
theorem dX5_house_13 : decode cX5_house 13 = .ok (.iload_n 1, 1) := by decide +kernel
theorem dX5_house_14 : decode cX5_house 14 = .ok (.putfield 7, 3) := by decide +kernel
theorem dX5_house_17 : decode cX5_house 17 = .ok (.aload_n 0, 1) := by decide +kernel
theorem dX5_house_18 : decode cX5_house 18 = .ok (.sipush 255, 3) := by decide +kernel
theorem dX5_house_21 : decode cX5_house 21 = .ok (.putfield 13, 3) := by decide +kernel
theorem dX5_house_24 : decode cX5_house 24 = .ok (.aload_n 0, 1) := by decide +kernel
theorem dX5_house_25 : decode cX5_house 25 = .ok (.iconst 3, 1) := by decide +kernel
theorem dX5_house_26 : decode cX5_house 26 = .ok (.putfield 16, 3) := by decide +kernel
theorem dX5_house_29 : decode cX5_house 29 = .ok (.aload_n 0, 1) := by decide +kernel
theorem dX5_house_30 : decode cX5_house 30 = .ok (.iconst 0, 1) := by decide +kernel
theorem dX5_house_31 : decode cX5_house 31 = .ok (.putfield 67, 3) := by decide +kernel
theorem dX5_house_34 : decode cX5_house 34 = .ok (.aload_n 0, 1) := by decide +kernel
theorem dX5_house_35 : decode cX5_house 35 = .ok (.iconst 0, 1) := by decide +kernel
theorem dX5_house_36 : decode cX5_house 36 = .ok (.putfield 70, 3) := by decide +kernel
theorem dX5_house_39 : decode cX5_house 39 = .ok (.aload_n 0, 1) := by decide +kernel
theorem dX5_house_40 : decode cX5_house 40 = .ok (.iconst 0, 1) := by decide +kernel
theorem dX5_house_41 : decode cX5_house 41 = .ok (.putfield 73, 3) := by decide +kernel
theorem dX5_house_44 : decode cX5_house 44 = .ok (.iconst 0, 1) := by decide +kernel
theorem dX5_house_45 : decode cX5_house 45 = .ok (.istore_n 2, 1) := by decide +kernel
theorem dX5_house_46 : decode cX5_house 46 = .ok (.iload_n 2, 1) := by decide +kernel
theorem dX5_house_47 : decode cX5_house 47 = .ok (.bipush 81, 2) := by decide +kernel
theorem dX5_house_49 : decode cX5_house 49 = .ok (.if_icmp .ge 16, 3) := by decide +kernel
theorem dX5_house_52 : decode cX5_house 52 = .ok (.aload_n 0, 1) := by decide +kernel
theorem dX5_house_53 : decode cX5_house 53 = .ok (.getfield 19, 3) := by decide +kernel
theorem dX5_house_56 : decode cX5_house 56 = .ok (.iload_n 2, 1) := by decide +kernel
theorem dX5_house_57 : decode cX5_house 57 = .ok (.iconst 0, 1) := by decide +kernel
theorem dX5_house_58 : decode cX5_house 58 = .ok (.bastore, 1) := by decide +kernel
theorem dX5_house_59 : decode cX5_house 59 = .ok (.iinc 2 1, 3) := by decide +kernel
theorem dX5_house_62 : decode cX5_house 62 = .ok (.goto (-16), 3) := by decide +kernel
theorem dX5_house_65 : decode cX5_house 65 = .ok (.iconst 0, 1) := by decide +kernel
theorem dX5_house_66 : decode cX5_house 66 = .ok (.istore_n 2, 1) := by decide +kernel
theorem dX5_house_67 : decode cX5_house 67 = .ok (.iload_n 2, 1) := by decide +kernel
theorem dX5_house_68 : decode cX5_house 68 = .ok (.bipush 9, 2) := by decide +kernel
theorem dX5_house_70 : decode cX5_house 70 = .ok (.if_icmp .ge 37, 3) := by decide +kernel
theorem dX5_house_73 : decode cX5_house 73 = .ok (.aload_n 0, 1) := by decide +kernel
theorem dX5_house_74 : decode cX5_house 74 = .ok (.getfield 23, 3) := by decide +kernel
theorem dX5_house_77 : decode cX5_house 77 = .ok (.iload_n 2, 1) := by decide +kernel
theorem dX5_house_78 : decode cX5_house 78 = .ok (.iconst 0, 1) := by decide +kernel
theorem dX5_house_79 : decode cX5_house 79 = .ok (.iastore, 1) := by decide +kernel
theorem dX5_house_80 : decode cX5_house 80 = .ok (.aload_n 0, 1) := by decide +kernel
theorem dX5_house_81 : decode cX5_house 81 = .ok (.getfield 27, 3) := by decide +kernel
theorem dX5_house_84 : decode cX5_house 84 = .ok (.iload_n 2, 1) := by decide +kernel
theorem dX5_house_85 : decode cX5_house 85 = .ok (.iconst 0, 1) := by decide +kernel
theorem dX5_house_86 : decode cX5_house 86 = .ok (.iastore, 1) := by decide +kernel
theorem dX5_house_87 : decode cX5_house 87 = .ok (.aload_n 0, 1) := by decide +kernel
theorem dX5_house_88 : decode cX5_house 88 = .ok (.getfield 30, 3) := by decide +kernel
theorem dX5_house_91 : decode cX5_house 91 = .ok (.iload_n 2, 1) := by decide +kernel
theorem dX5_house_92 : decode cX5_house 92 = .ok (.iconst 0, 1) := by decide +kernel
theorem dX5_house_93 : decode cX5_house 93 = .ok (.iastore, 1) := by decide +kernel
theorem dX5_house_94 : decode cX5_house 94 = .ok (.aload_n 0, 1) := by decide +kernel
theorem dX5_house_95 : decode cX5_house 95 = .ok (.getfield 33, 3) := by decide +kernel
theorem dX5_house_98 : decode cX5_house 98 = .ok (.iload_n 2, 1) := by decide +kernel
theorem dX5_house_99 : decode cX5_house 99 = .ok (.iconst 0, 1) := by decide +kernel
theorem dX5_house_100 : decode cX5_house 100 = .ok (.iastore, 1) := by decide +kernel
theorem dX5_house_101 : decode cX5_house 101 = .ok (.iinc 2 1, 3) := by decide +kernel
theorem dX5_house_104 : decode cX5_house 104 = .ok (.goto (-37), 3) := by decide +kernel
theorem dX5_house_107 : decode cX5_house 107 = .ok (.iconst 0, 1) := by decide +kernel
theorem dX5_house_108 : decode cX5_house 108 = .ok (.istore_n 2, 1) := by decide +kernel
theorem dX5_house_109 : decode cX5_house 109 = .ok (.iload_n 2, 1) := by decide +kernel
theorem dX5_house_110 : decode cX5_house 110 = .ok (.bipush 6, 2) := by decide +kernel
theorem dX5_house_112 : decode cX5_house 112 = .ok (.if_icmp .ge 23, 3) := by decide +kernel
theorem dX5_house_115 : decode cX5_house 115 = .ok (.aload_n 0, 1) := by decide +kernel
theorem dX5_house_116 : decode cX5_house 116 = .ok (.getfield 36, 3) := by decide +kernel
theorem dX5_house_119 : decode cX5_house 119 = .ok (.iload_n 2, 1) := by decide +kernel
theorem dX5_house_120 : decode cX5_house 120 = .ok (.iconst 0, 1) := by decide +kernel
theorem dX5_house_121 : decode cX5_house 121 = .ok (.iastore, 1) := by decide +kernel
theorem dX5_house_122 : decode cX5_house 122 = .ok (.aload_n 0, 1) := by decide +kernel
theorem dX5_house_123 : decode cX5_house 123 = .ok (.getfield 39, 3) := by decide +kernel
theorem dX5_house_126 : decode cX5_house 126 = .ok (.iload_n 2, 1) := by decide +kernel
theorem dX5_house_127 : decode cX5_house 127 = .ok (.iconst 0, 1) := by decide +kernel
theorem dX5_house_128 : decode cX5_house 128 = .ok (.iastore, 1) := by decide +kernel
theorem dX5_house_129 : decode cX5_house 129 = .ok (.iinc 2 1, 3) := by decide +kernel
theorem dX5_house_132 : decode cX5_house 132 = .ok (.goto (-23), 3) := by decide +kernel
theorem dX5_house_135 : decode cX5_house 135 = .ok (.iconst 1, 1) := by decide +kernel
theorem dX5_house_136 : decode cX5_house 136 = .ok (.ireturn, 1) := by decide +kernel
theorem dX5_isDecoy_0 : decode cX5_isDecoy 0 = .ok (.aload_n 0, 1) := by decide +kernel
theorem dX5_isDecoy_1 : decode cX5_isDecoy 1 = .ok (.getfield 70, 3) := by decide +kernel
theorem dX5_isDecoy_4 : decode cX5_isDecoy 4 = .ok (.iload_n 1, 1) := by decide +kernel
theorem dX5_isDecoy_5 : decode cX5_isDecoy 5 = .ok (.ishr, 1) := by decide +kernel
theorem dX5_isDecoy_6 : decode cX5_isDecoy 6 = .ok (.iconst 1, 1) := by decide +kernel
theorem dX5_isDecoy_7 : decode cX5_isDecoy 7 = .ok (.iand, 1) := by decide +kernel
theorem dX5_isDecoy_8 : decode cX5_isDecoy 8 = .ok (.iconst 1, 1) := by decide +kernel
theorem dX5_isDecoy_9 : decode cX5_isDecoy 9 = .ok (.if_icmp .ne 7, 3) := by decide +kernel
theorem dX5_isDecoy_12 : decode cX5_isDecoy 12 = .ok (.iconst 1, 1) := by decide +kernel
theorem dX5_isDecoy_13 : decode cX5_isDecoy 13 = .ok (.goto 4, 3) := by decide +kernel
theorem dX5_isDecoy_16 : decode cX5_isDecoy 16 = .ok (.iconst 0, 1) := by decide +kernel
theorem dX5_isDecoy_17 : decode cX5_isDecoy 17 = .ok (.ireturn, 1) := by decide +kernel
theorem dX5_isKnown_0 : decode cX5_isKnown 0 = .ok (.aload_n 0, 1) := by decide +kernel
theorem dX5_isKnown_1 : decode cX5_isKnown 1 = .ok (.getfield 67, 3) := by decide +kernel
theorem dX5_isKnown_4 : decode cX5_isKnown 4 = .ok (.aload_n 0, 1) := by decide +kernel
theorem dX5_isKnown_5 : decode cX5_isKnown 5 = .ok (.getfield 33, 3) := by decide +kernel
theorem dX5_isKnown_8 : decode cX5_isKnown 8 = .ok (.iload_n 1, 1) := by decide +kernel
theorem dX5_isKnown_9 : decode cX5_isKnown 9 = .ok (.iaload, 1) := by decide +kernel
theorem dX5_isKnown_10 : decode cX5_isKnown 10 = .ok (.if_icmp .ge 7, 3) := by decide +kernel
theorem dX5_isKnown_13 : decode cX5_isKnown 13 = .ok (.iconst 1, 1) := by decide +kernel
theorem dX5_isKnown_14 : decode cX5_isKnown 14 = .ok (.goto 4, 3) := by decide +kernel
theorem dX5_isKnown_17 : decode cX5_isKnown 17 = .ok (.iconst 0, 1) := by decide +kernel
theorem dX5_isKnown_18 : decode cX5_isKnown 18 = .ok (.ireturn, 1) := by decide +kernel
set_option maxRecDepth 20000 in
theorem ggX5_door_X5_isPlace : GoodIn wsX5_door wsX5_isPlace := goodIn_r _ [6, 7, 8, 9, 5, 10, 11, 12, 13, 14, 15, 16, 17, 18, 19, 20, 21, 22, 23, 24, 25, 26, 27, 28, 29, 30, 31] (by decide +kernel) (by decide +kernel)
set_option maxRecDepth 20000 in
theorem gX5_door_X5_isPlace : GoodIn wsX5_door (wsV RX5 76 RX5 yX5_isPlace wsX5_isPlace) := goodIn_app (goodIn_of _ (by decide +kernel)) ggX5_door_X5_isPlace
theorem dX5_door_0 : decode cX5_door 0 = .ok (.aload_n 0, 1) := by decide +kernel
theorem dX5_door_1 : decode cX5_door 1 = .ok (.iload_n 1, 1) := by decide +kernel
theorem dX5_door_2 : decode cX5_door 2 = .ok (.invokevirtual 76, 3) := by decide +kernel
theorem dX5_door_5 : decode cX5_door 5 = .ok (.ifCond .eq 31, 3) := by decide +kernel
theorem dX5_door_8 : decode cX5_door 8 = .ok (.aload_n 0, 1) := by decide +kernel
theorem dX5_door_9 : decode cX5_door 9 = .ok (.iload_n 2, 1) := by decide +kernel
theorem dX5_door_10 : decode cX5_door 10 = .ok (.invokevirtual 76, 3) := by decide +kernel
theorem dX5_door_13 : decode cX5_door 13 = .ok (.ifCond .eq 23, 3) := by decide +kernel
theorem dX5_door_16 : decode cX5_door 16 = .ok (.iload_n 1, 1) := by decide +kernel
theorem dX5_door_17 : decode cX5_door 17 = .ok (.iload_n 2, 1) := by decide +kernel
theorem dX5_door_18 : decode cX5_door 18 = .ok (.if_icmp .eq 18, 3) := by decide +kernel
theorem dX5_door_21 : decode cX5_door 21 = .ok (.aload_n 0, 1) := by decide +kernel
theorem dX5_door_22 : decode cX5_door 22 = .ok (.getfield 19, 3) := by decide +kernel
theorem dX5_door_25 : decode cX5_door 25 = .ok (.bipush 9, 2) := by decide +kernel
theorem dX5_door_27 : decode cX5_door 27 = .ok (.iload_n 1, 1) := by decide +kernel
theorem dX5_door_28 : decode cX5_door 28 = .ok (.imul, 1) := by decide +kernel
theorem dX5_door_29 : decode cX5_door 29 = .ok (.iload_n 2, 1) := by decide +kernel
theorem dX5_door_30 : decode cX5_door 30 = .ok (.iadd, 1) := by decide +kernel
theorem dX5_door_31 : decode cX5_door 31 = .ok (.baload, 1) := by decide +kernel
theorem dX5_door_32 : decode cX5_door 32 = .ok (.iload_n 3, 1) := by decide +kernel
theorem dX5_door_33 : decode cX5_door 33 = .ok (.if_icmp .ne 5, 3) := by decide +kernel
theorem dX5_door_36 : decode cX5_door 36 = .ok (.iconst 0, 1) := by decide +kernel
theorem dX5_door_37 : decode cX5_door 37 = .ok (.ireturn, 1) := by decide +kernel
theorem dX5_door_38 : decode cX5_door 38 = .ok (.aload_n 0, 1) := by decide +kernel
theorem dX5_door_39 : decode cX5_door 39 = .ok (.getfield 19, 3) := by decide +kernel
theorem dX5_door_42 : decode cX5_door 42 = .ok (.bipush 9, 2) := by decide +kernel
theorem dX5_door_44 : decode cX5_door 44 = .ok (.iload_n 1, 1) := by decide +kernel
theorem dX5_door_45 : decode cX5_door 45 = .ok (.imul, 1) := by decide +kernel
theorem dX5_door_46 : decode cX5_door 46 = .ok (.iload_n 2, 1) := by decide +kernel
theorem dX5_door_47 : decode cX5_door 47 = .ok (.iadd, 1) := by decide +kernel
theorem dX5_door_48 : decode cX5_door 48 = .ok (.iload_n 3, 1) := by decide +kernel
theorem dX5_door_49 : decode cX5_door 49 = .ok (.bastore, 1) := by decide +kernel
theorem dX5_door_50 : decode cX5_door 50 = .ok (.iconst 1, 1) := by decide +kernel
theorem dX5_door_51 : decode cX5_door 51 = .ok (.ireturn, 1) := by decide +kernel
set_option maxRecDepth 20000 in
theorem ggX5_is_X5_isPlace : GoodIn wsX5_is wsX5_isPlace := goodIn_r _ [6, 7, 8, 9, 5, 10, 16, 17, 18, 19, 20, 21, 22, 23, 24, 25, 26, 27, 28, 29, 30, 31, 32, 33, 34, 35, 36] (by decide +kernel) (by decide +kernel)
set_option maxRecDepth 20000 in
theorem gX5_is_X5_isPlace : GoodIn wsX5_is (wsV RX5 76 RX5 yX5_isPlace wsX5_isPlace) := goodIn_app (goodIn_of _ (by decide +kernel)) ggX5_is_X5_isPlace
set_option maxRecDepth 20000 in
theorem ggX5_is_X5_isIn : GoodIn wsX5_is wsX5_isIn := goodIn_r _ [10] (by decide +kernel) (by decide +kernel)
set_option maxRecDepth 20000 in
theorem gX5_is_X5_isIn : GoodIn wsX5_is (va_wsS RX5 63 yX5_isIn wsX5_isIn) := goodIn_app (goodIn_of _ (by decide +kernel)) ggX5_is_X5_isIn
set_option maxRecDepth 20000 in
theorem ggX5_is_X5_isDecoy : GoodIn wsX5_is wsX5_isDecoy := goodIn_r _ [14, 15, 16, 17, 18, 19, 20, 21, 22, 23, 24, 25, 26, 27, 28, 29, 30, 31, 32, 33, 34, 35, 36] (by decide +kernel) (by decide +kernel)
set_option maxRecDepth 20000 in
theorem gX5_is_X5_isDecoy : GoodIn wsX5_is (wsV RX5 80 RX5 yX5_isDecoy wsX5_isDecoy) := goodIn_app (goodIn_of _ (by decide +kernel)) ggX5_is_X5_isDecoy
theorem dX5_is_0 : decode cX5_is 0 = .ok (.aload_n 0, 1) := by decide +kernel
theorem dX5_is_1 : decode cX5_is 1 = .ok (.iload_n 1, 1) := by decide +kernel
theorem dX5_is_2 : decode cX5_is 2 = .ok (.invokevirtual 76, 3) := by decide +kernel
theorem dX5_is_5 : decode cX5_is 5 = .ok (.ifCond .eq 20, 3) := by decide +kernel
theorem dX5_is_8 : decode cX5_is 8 = .ok (.iload_n 2, 1) := by decide +kernel
theorem dX5_is_9 : decode cX5_is 9 = .ok (.iconst 0, 1) := by decide +kernel
theorem dX5_is_10 : decode cX5_is 10 = .ok (.iconst 2, 1) := by decide +kernel
theorem dX5_is_11 : decode cX5_is 11 = .ok (.invokestatic 63, 3) := by decide +kernel
theorem dX5_is_14 : decode cX5_is 14 = .ok (.ifCond .eq 11, 3) := by decide +kernel
theorem dX5_is_17 : decode cX5_is 17 = .ok (.aload_n 0, 1) := by decide +kernel
theorem dX5_is_18 : decode cX5_is 18 = .ok (.iload_n 1, 1) := by decide +kernel
theorem dX5_is_19 : decode cX5_is 19 = .ok (.invokevirtual 80, 3) := by decide +kernel
theorem dX5_is_22 : decode cX5_is 22 = .ok (.ifCond .eq 5, 3) := by decide +kernel
theorem dX5_is_25 : decode cX5_is 25 = .ok (.iconst 0, 1) := by decide +kernel
theorem dX5_is_26 : decode cX5_is 26 = .ok (.ireturn, 1) := by decide +kernel
theorem dX5_is_27 : decode cX5_is 27 = .ok (.aload_n 0, 1) := by decide +kernel
theorem dX5_is_28 : decode cX5_is 28 = .ok (.getfield 23, 3) := by decide +kernel
theorem dX5_is_31 : decode cX5_is 31 = .ok (.iload_n 1, 1) := by decide +kernel
theorem dX5_is_32 : decode cX5_is 32 = .ok (.iload_n 2, 1) := by decide +kernel
theorem dX5_is_33 : decode cX5_is 33 = .ok (.iastore, 1) := by decide +kernel
theorem dX5_is_34 : decode cX5_is 34 = .ok (.iconst 1, 1) := by decide +kernel
theorem dX5_is_35 : decode cX5_is 35 = .ok (.ireturn, 1) := by decide +kernel
set_option maxRecDepth 20000 in
theorem ggX5_looks_X5_isPlace : GoodIn wsX5_looks wsX5_isPlace := goodIn_r _ [6, 7, 8, 9, 5, 10, 11, 12, 13, 14, 15, 16, 17, 18, 19, 20, 21, 22, 23, 24, 25, 26, 27, 28, 29, 30, 31] (by decide +kernel) (by decide +kernel)
set_option maxRecDepth 20000 in
theorem gX5_looks_X5_isPlace : GoodIn wsX5_looks (wsV RX5 76 RX5 yX5_isPlace wsX5_isPlace) := goodIn_app (goodIn_of _ (by decide +kernel)) ggX5_looks_X5_isPlace
set_option maxRecDepth 20000 in
theorem ggX5_looks_X5_isIn : GoodIn wsX5_looks wsX5_isIn := goodIn_r _ [10] (by decide +kernel) (by decide +kernel)
set_option maxRecDepth 20000 in
theorem gX5_looks_X5_isIn : GoodIn wsX5_looks (va_wsS RX5 63 yX5_isIn wsX5_isIn) := goodIn_app (goodIn_of _ (by decide +kernel)) ggX5_looks_X5_isIn
theorem dX5_looks_0 : decode cX5_looks 0 = .ok (.aload_n 0, 1) := by decide +kernel
theorem dX5_looks_1 : decode cX5_looks 1 = .ok (.iload_n 1, 1) := by decide +kernel
theorem dX5_looks_2 : decode cX5_looks 2 = .ok (.invokevirtual 76, 3) := by decide +kernel
theorem dX5_looks_5 : decode cX5_looks 5 = .ok (.ifCond .eq 14, 3) := by decide +kernel
theorem dX5_looks_8 : decode cX5_looks 8 = .ok (.iload_n 2, 1) := by decide +kernel
theorem dX5_looks_9 : decode cX5_looks 9 = .ok (.iconst 0, 1) := by decide +kernel
theorem dX5_looks_10 : decode cX5_looks 10 = .ok (.sipush 255, 3) := by decide +kernel
theorem dX5_looks_13 : decode cX5_looks 13 = .ok (.invokestatic 63, 3) := by decide +kernel
theorem dX5_looks_16 : decode cX5_looks 16 = .ok (.ifCond .ne 5, 3) := by decide +kernel
theorem dX5_looks_19 : decode cX5_looks 19 = .ok (.iconst 0, 1) := by decide +kernel
theorem dX5_looks_20 : decode cX5_looks 20 = .ok (.ireturn, 1) := by decide +kernel
theorem dX5_looks_21 : decode cX5_looks 21 = .ok (.aload_n 0, 1) := by decide +kernel
theorem dX5_looks_22 : decode cX5_looks 22 = .ok (.getfield 27, 3) := by decide +kernel
theorem dX5_looks_25 : decode cX5_looks 25 = .ok (.iload_n 1, 1) := by decide +kernel
theorem dX5_looks_26 : decode cX5_looks 26 = .ok (.iload_n 2, 1) := by decide +kernel
theorem dX5_looks_27 : decode cX5_looks 27 = .ok (.iastore, 1) := by decide +kernel
theorem dX5_looks_28 : decode cX5_looks 28 = .ok (.iconst 1, 1) := by decide +kernel
theorem dX5_looks_29 : decode cX5_looks 29 = .ok (.ireturn, 1) := by decide +kernel
set_option maxRecDepth 20000 in
theorem ggX5_visible_X5_isIn : GoodIn wsX5_visible wsX5_isIn := goodIn_r _ [5] (by decide +kernel) (by decide +kernel)
set_option maxRecDepth 20000 in
theorem gX5_visible_X5_isIn : GoodIn wsX5_visible (va_wsS RX5 63 yX5_isIn wsX5_isIn) := goodIn_app (goodIn_of _ (by decide +kernel)) ggX5_visible_X5_isIn
theorem dX5_visible_0 : decode cX5_visible 0 = .ok (.iload_n 1, 1) := by decide +kernel
theorem dX5_visible_1 : decode cX5_visible 1 = .ok (.iconst 0, 1) := by decide +kernel
theorem dX5_visible_2 : decode cX5_visible 2 = .ok (.sipush 255, 3) := by decide +kernel
theorem dX5_visible_5 : decode cX5_visible 5 = .ok (.invokestatic 63, 3) := by decide +kernel
theorem dX5_visible_8 : decode cX5_visible 8 = .ok (.ifCond .ne 5, 3) := by decide +kernel
theorem dX5_visible_11 : decode cX5_visible 11 = .ok (.iconst 0, 1) := by decide +kernel
theorem dX5_visible_12 : decode cX5_visible 12 = .ok (.ireturn, 1) := by decide +kernel
theorem dX5_visible_13 : decode cX5_visible 13 = .ok (.aload_n 0, 1) := by decide +kernel
theorem dX5_visible_14 : decode cX5_visible 14 = .ok (.iload_n 1, 1) := by decide +kernel
theorem dX5_visible_15 : decode cX5_visible 15 = .ok (.putfield 13, 3) := by decide +kernel
theorem dX5_visible_18 : decode cX5_visible 18 = .ok (.iconst 1, 1) := by decide +kernel
theorem dX5_visible_19 : decode cX5_visible 19 = .ok (.ireturn, 1) := by decide +kernel
set_option maxRecDepth 20000 in
theorem ggX5_round_X5_isIn : GoodIn wsX5_round wsX5_isIn := goodIn_r _ [7] (by decide +kernel) (by decide +kernel)
set_option maxRecDepth 20000 in
theorem gX5_round_X5_isIn : GoodIn wsX5_round (va_wsS RX5 63 yX5_isIn wsX5_isIn) := goodIn_app (goodIn_of _ (by decide +kernel)) ggX5_round_X5_isIn
set_option maxRecDepth 20000 in
theorem ggX5_round_X5_isPlace : GoodIn wsX5_round wsX5_isPlace := goodIn_r _ [11, 12, 4, 5, 6, 7, 13, 14, 15, 16, 17, 18, 19, 20, 21, 22, 23, 24, 25, 26, 27, 28, 29, 30, 31, 32, 33] (by decide +kernel) (by decide +kernel)
set_option maxRecDepth 20000 in
theorem gX5_round_X5_isPlace : GoodIn wsX5_round (wsV RX5 76 RX5 yX5_isPlace wsX5_isPlace) := goodIn_app (goodIn_of _ (by decide +kernel)) ggX5_round_X5_isPlace
theorem dX5_round_0 : decode cX5_round 0 = .ok (.iload_n 1, 1) := by decide +kernel
theorem dX5_round_1 : decode cX5_round 1 = .ok (.iconst 0, 1) := by decide +kernel
theorem dX5_round_2 : decode cX5_round 2 = .ok (.iconst 5, 1) := by decide +kernel
theorem dX5_round_3 : decode cX5_round 3 = .ok (.invokestatic 63, 3) := by decide +kernel
theorem dX5_round_6 : decode cX5_round 6 = .ok (.ifCond .eq 23, 3) := by decide +kernel
theorem dX5_round_9 : decode cX5_round 9 = .ok (.iload_n 2, 1) := by decide +kernel
theorem dX5_round_10 : decode cX5_round 10 = .ok (.iconst 0, 1) := by decide +kernel
theorem dX5_round_11 : decode cX5_round 11 = .ok (.bipush 99, 2) := by decide +kernel
theorem dX5_round_13 : decode cX5_round 13 = .ok (.invokestatic 63, 3) := by decide +kernel
theorem dX5_round_16 : decode cX5_round 16 = .ok (.ifCond .eq 13, 3) := by decide +kernel
theorem dX5_round_19 : decode cX5_round 19 = .ok (.iload_n 3, 1) := by decide +kernel
theorem dX5_round_20 : decode cX5_round 20 = .ok (.iconst 0, 1) := by decide +kernel
theorem dX5_round_21 : decode cX5_round 21 = .ok (.bipush 8, 2) := by decide +kernel
theorem dX5_round_23 : decode cX5_round 23 = .ok (.invokestatic 63, 3) := by decide +kernel
theorem dX5_round_26 : decode cX5_round 26 = .ok (.ifCond .ne 5, 3) := by decide +kernel
theorem dX5_round_29 : decode cX5_round 29 = .ok (.iconst 0, 1) := by decide +kernel
theorem dX5_round_30 : decode cX5_round 30 = .ok (.ireturn, 1) := by decide +kernel
theorem dX5_round_31 : decode cX5_round 31 = .ok (.iconst 0, 1) := by decide +kernel
theorem dX5_round_32 : decode cX5_round 32 = .ok (.istore 5, 2) := by decide +kernel
theorem dX5_round_34 : decode cX5_round 34 = .ok (.iload 5, 2) := by decide +kernel
theorem dX5_round_36 : decode cX5_round 36 = .ok (.iload_n 3, 1) := by decide +kernel
theorem dX5_round_37 : decode cX5_round 37 = .ok (.if_icmp .ge 28, 3) := by decide +kernel
theorem dX5_round_40 : decode cX5_round 40 = .ok (.aload_n 0, 1) := by decide +kernel
theorem dX5_round_41 : decode cX5_round 41 = .ok (.iload 4, 2) := by decide +kernel
theorem dX5_round_43 : decode cX5_round 43 = .ok (.iconst 4, 1) := by decide +kernel
theorem dX5_round_44 : decode cX5_round 44 = .ok (.iload 5, 2) := by decide +kernel
theorem dX5_round_46 : decode cX5_round 46 = .ok (.imul, 1) := by decide +kernel
theorem dX5_round_47 : decode cX5_round 47 = .ok (.ishr, 1) := by decide +kernel
theorem dX5_round_48 : decode cX5_round 48 = .ok (.bipush 15, 2) := by decide +kernel
theorem dX5_round_50 : decode cX5_round 50 = .ok (.iand, 1) := by decide +kernel
theorem dX5_round_51 : decode cX5_round 51 = .ok (.invokevirtual 76, 3) := by decide +kernel
theorem dX5_round_54 : decode cX5_round 54 = .ok (.ifCond .ne 5, 3) := by decide +kernel
theorem dX5_round_57 : decode cX5_round 57 = .ok (.iconst 0, 1) := by decide +kernel
theorem dX5_round_58 : decode cX5_round 58 = .ok (.ireturn, 1) := by decide +kernel
theorem dX5_round_59 : decode cX5_round 59 = .ok (.iinc 5 1, 3) := by decide +kernel
theorem dX5_round_62 : decode cX5_round 62 = .ok (.goto (-28), 3) := by decide +kernel
theorem dX5_round_65 : decode cX5_round 65 = .ok (.aload_n 0, 1) := by decide +kernel
theorem dX5_round_66 : decode cX5_round 66 = .ok (.getfield 36, 3) := by decide +kernel
theorem dX5_round_69 : decode cX5_round 69 = .ok (.iload_n 1, 1) := by decide +kernel
theorem dX5_round_70 : decode cX5_round 70 = .ok (.iload_n 2, 1) := by decide +kernel
theorem dX5_round_71 : decode cX5_round 71 = .ok (.iastore, 1) := by decide +kernel
theorem dX5_round_72 : decode cX5_round 72 = .ok (.aload_n 0, 1) := by decide +kernel
theorem dX5_round_73 : decode cX5_round 73 = .ok (.getfield 39, 3) := by decide +kernel
theorem dX5_round_76 : decode cX5_round 76 = .ok (.iload_n 1, 1) := by decide +kernel
theorem dX5_round_77 : decode cX5_round 77 = .ok (.iload_n 3, 1) := by decide +kernel
theorem dX5_round_78 : decode cX5_round 78 = .ok (.iastore, 1) := by decide +kernel
theorem dX5_round_79 : decode cX5_round 79 = .ok (.iconst 0, 1) := by decide +kernel
theorem dX5_round_80 : decode cX5_round 80 = .ok (.istore 5, 2) := by decide +kernel
theorem dX5_round_82 : decode cX5_round 82 = .ok (.iload 5, 2) := by decide +kernel
theorem dX5_round_84 : decode cX5_round 84 = .ok (.iload_n 3, 1) := by decide +kernel
theorem dX5_round_85 : decode cX5_round 85 = .ok (.if_icmp .ge 31, 3) := by decide +kernel
theorem dX5_round_88 : decode cX5_round 88 = .ok (.aload_n 0, 1) := by decide +kernel
theorem dX5_round_89 : decode cX5_round 89 = .ok (.getfield 42, 3) := by decide +kernel
theorem dX5_round_92 : decode cX5_round 92 = .ok (.bipush 8, 2) := by decide +kernel
theorem dX5_round_94 : decode cX5_round 94 = .ok (.iload_n 1, 1) := by decide +kernel
theorem dX5_round_95 : decode cX5_round 95 = .ok (.imul, 1) := by decide +kernel
theorem dX5_round_96 : decode cX5_round 96 = .ok (.iload 5, 2) := by decide +kernel
theorem dX5_round_98 : decode cX5_round 98 = .ok (.iadd, 1) := by decide +kernel
theorem dX5_round_99 : decode cX5_round 99 = .ok (.iload 4, 2) := by decide +kernel
theorem dX5_round_101 : decode cX5_round 101 = .ok (.iconst 4, 1) := by decide +kernel
theorem dX5_round_102 : decode cX5_round 102 = .ok (.iload 5, 2) := by decide +kernel
theorem dX5_round_104 : decode cX5_round 104 = .ok (.imul, 1) := by decide +kernel
theorem dX5_round_105 : decode cX5_round 105 = .ok (.ishr, 1) := by decide +kernel
theorem dX5_round_106 : decode cX5_round 106 = .ok (.bipush 15, 2) := by decide +kernel
theorem dX5_round_108 : decode cX5_round 108 = .ok (.iand, 1) := by decide +kernel
theorem dX5_round_109 : decode cX5_round 109 = .ok (.iastore, 1) := by decide +kernel
theorem dX5_round_110 : decode cX5_round 110 = .ok (.iinc 5 1, 3) := by decide +kernel
theorem dX5_round_113 : decode cX5_round 113 = .ok (.goto (-31), 3) := by decide +kernel
theorem dX5_round_116 : decode cX5_round 116 = .ok (.iconst 1, 1) := by decide +kernel
theorem dX5_round_117 : decode cX5_round 117 = .ok (.ireturn, 1) := by decide +kernel
set_option maxRecDepth 20000 in
theorem ggX5_look_X5_isKnown : GoodIn wsX5_look wsX5_isKnown := goodIn_r _ [12, 4, 13, 14, 15, 16, 17, 18, 19, 20, 21, 22, 23, 24, 25, 26, 27, 28, 29, 30, 31, 32, 33, 34] (by decide +kernel) (by decide +kernel)
set_option maxRecDepth 20000 in
theorem gX5_look_X5_isKnown : GoodIn wsX5_look (wsV RX5 83 RX5 yX5_isKnown wsX5_isKnown) := goodIn_app (goodIn_of _ (by decide +kernel)) ggX5_look_X5_isKnown
theorem dX5_look_0 : decode cX5_look 0 = .ok (.iconst 0, 1) := by decide +kernel
theorem dX5_look_1 : decode cX5_look 1 = .ok (.istore_n 2, 1) := by decide +kernel
theorem dX5_look_2 : decode cX5_look 2 = .ok (.iload_n 1, 1) := by decide +kernel
theorem dX5_look_3 : decode cX5_look 3 = .ok (.tableswitch 144 0 7 #[45, 50, 83, 88, 124, 129, 134, 139], 45) := by decide +kernel
theorem dX5_look_48 : decode cX5_look 48 = .ok (.aload_n 0, 1) := by decide +kernel
theorem dX5_look_49 : decode cX5_look 49 = .ok (.getfield 7, 3) := by decide +kernel
theorem dX5_look_52 : decode cX5_look 52 = .ok (.ireturn, 1) := by decide +kernel
theorem dX5_look_53 : decode cX5_look 53 = .ok (.iconst 0, 1) := by decide +kernel
theorem dX5_look_54 : decode cX5_look 54 = .ok (.istore_n 3, 1) := by decide +kernel
theorem dX5_look_55 : decode cX5_look 55 = .ok (.iload_n 3, 1) := by decide +kernel
theorem dX5_look_56 : decode cX5_look 56 = .ok (.bipush 81, 2) := by decide +kernel
theorem dX5_look_58 : decode cX5_look 58 = .ok (.if_icmp .ge 26, 3) := by decide +kernel
theorem dX5_look_61 : decode cX5_look 61 = .ok (.iload_n 2, 1) := by decide +kernel
theorem dX5_look_62 : decode cX5_look 62 = .ok (.aload_n 0, 1) := by decide +kernel
theorem dX5_look_63 : decode cX5_look 63 = .ok (.getfield 19, 3) := by decide +kernel
theorem dX5_look_66 : decode cX5_look 66 = .ok (.iload_n 3, 1) := by decide +kernel
theorem dX5_look_67 : decode cX5_look 67 = .ok (.baload, 1) := by decide +kernel
theorem dX5_look_68 : decode cX5_look 68 = .ok (.ifCond .eq 7, 3) := by decide +kernel
theorem dX5_look_71 : decode cX5_look 71 = .ok (.iconst 1, 1) := by decide +kernel
theorem dX5_look_72 : decode cX5_look 72 = .ok (.goto 4, 3) := by decide +kernel
theorem dX5_look_75 : decode cX5_look 75 = .ok (.iconst 0, 1) := by decide +kernel
theorem dX5_look_76 : decode cX5_look 76 = .ok (.iadd, 1) := by decide +kernel
theorem dX5_look_77 : decode cX5_look 77 = .ok (.istore_n 2, 1) := by decide +kernel
theorem dX5_look_78 : decode cX5_look 78 = .ok (.iinc 3 1, 3) := by decide +kernel
theorem dX5_look_81 : decode cX5_look 81 = .ok (.goto (-26), 3) := by decide +kernel
theorem dX5_look_84 : decode cX5_look 84 = .ok (.iload_n 2, 1) := by decide +kernel
theorem dX5_look_85 : decode cX5_look 85 = .ok (.ireturn, 1) := by decide +kernel
theorem dX5_look_86 : decode cX5_look 86 = .ok (.aload_n 0, 1) := by decide +kernel
theorem dX5_look_87 : decode cX5_look 87 = .ok (.getfield 70, 3) := by decide +kernel
theorem dX5_look_90 : decode cX5_look 90 = .ok (.ireturn, 1) := by decide +kernel
theorem dX5_look_91 : decode cX5_look 91 = .ok (.iconst 0, 1) := by decide +kernel
theorem dX5_look_92 : decode cX5_look 92 = .ok (.istore_n 3, 1) := by decide +kernel
theorem dX5_look_93 : decode cX5_look 93 = .ok (.iload_n 3, 1) := by decide +kernel
theorem dX5_look_94 : decode cX5_look 94 = .ok (.aload_n 0, 1) := by decide +kernel
theorem dX5_look_95 : decode cX5_look 95 = .ok (.getfield 7, 3) := by decide +kernel
theorem dX5_look_98 : decode cX5_look 98 = .ok (.if_icmp .ge 27, 3) := by decide +kernel
theorem dX5_look_101 : decode cX5_look 101 = .ok (.iload_n 2, 1) := by decide +kernel
theorem dX5_look_102 : decode cX5_look 102 = .ok (.aload_n 0, 1) := by decide +kernel
theorem dX5_look_103 : decode cX5_look 103 = .ok (.iload_n 3, 1) := by decide +kernel
theorem dX5_look_104 : decode cX5_look 104 = .ok (.invokevirtual 83, 3) := by decide +kernel
theorem dX5_look_107 : decode cX5_look 107 = .ok (.ifCond .eq 9, 3) := by decide +kernel
theorem dX5_look_110 : decode cX5_look 110 = .ok (.iconst 1, 1) := by decide +kernel
theorem dX5_look_111 : decode cX5_look 111 = .ok (.iload_n 3, 1) := by decide +kernel
theorem dX5_look_112 : decode cX5_look 112 = .ok (.ishl, 1) := by decide +kernel
theorem dX5_look_113 : decode cX5_look 113 = .ok (.goto 4, 3) := by decide +kernel
theorem dX5_look_116 : decode cX5_look 116 = .ok (.iconst 0, 1) := by decide +kernel
theorem dX5_look_117 : decode cX5_look 117 = .ok (.ior, 1) := by decide +kernel
theorem dX5_look_118 : decode cX5_look 118 = .ok (.istore_n 2, 1) := by decide +kernel
theorem dX5_look_119 : decode cX5_look 119 = .ok (.iinc 3 1, 3) := by decide +kernel
theorem dX5_look_122 : decode cX5_look 122 = .ok (.goto (-29), 3) := by decide +kernel
theorem dX5_look_125 : decode cX5_look 125 = .ok (.iload_n 2, 1) := by decide +kernel
theorem dX5_look_126 : decode cX5_look 126 = .ok (.ireturn, 1) := by decide +kernel
theorem dX5_look_127 : decode cX5_look 127 = .ok (.aload_n 0, 1) := by decide +kernel
theorem dX5_look_128 : decode cX5_look 128 = .ok (.getfield 67, 3) := by decide +kernel
theorem dX5_look_131 : decode cX5_look 131 = .ok (.ireturn, 1) := by decide +kernel
theorem dX5_look_132 : decode cX5_look 132 = .ok (.aload_n 0, 1) := by decide +kernel
theorem dX5_look_133 : decode cX5_look 133 = .ok (.getfield 73, 3) := by decide +kernel
theorem dX5_look_136 : decode cX5_look 136 = .ok (.ireturn, 1) := by decide +kernel
theorem dX5_look_137 : decode cX5_look 137 = .ok (.aload_n 0, 1) := by decide +kernel
theorem dX5_look_138 : decode cX5_look 138 = .ok (.getfield 13, 3) := by decide +kernel
theorem dX5_look_141 : decode cX5_look 141 = .ok (.ireturn, 1) := by decide +kernel
theorem dX5_look_142 : decode cX5_look 142 = .ok (.aload_n 0, 1) := by decide +kernel
theorem dX5_look_143 : decode cX5_look 143 = .ok (.getfield 16, 3) := by decide +kernel
theorem dX5_look_146 : decode cX5_look 146 = .ok (.ireturn, 1) := by decide +kernel
theorem dX5_look_147 : decode cX5_look 147 = .ok (.iconst (-1), 1) := by decide +kernel
theorem dX5_look_148 : decode cX5_look 148 = .ok (.ireturn, 1) := by decide +kernel
set_option maxRecDepth 20000 in
theorem ggX5_finds_X5_goes : GoodIn wsX5_finds wsX5_goes := goodIn_r _ [8, 9, 10, 2, 11, 3, 1, 12, 13, 14, 15, 16, 17, 18, 19, 20, 21, 22, 23, 24, 25, 26, 27, 28, 29, 30, 31, 32, 33, 34, 35] (by decide +kernel) (by decide +kernel)
set_option maxRecDepth 20000 in
theorem gX5_finds_X5_goes : GoodIn wsX5_finds (wsV RX5 89 RX5 yX5_goes wsX5_goes) := goodIn_app (goodIn_of _ (by decide +kernel)) ggX5_finds_X5_goes
theorem dX5_finds_0 : decode cX5_finds 0 = .ok (.aload_n 0, 1) := by decide +kernel
theorem dX5_finds_1 : decode cX5_finds 1 = .ok (.iconst 0, 1) := by decide +kernel
theorem dX5_finds_2 : decode cX5_finds 2 = .ok (.putfield 86, 3) := by decide +kernel
theorem dX5_finds_5 : decode cX5_finds 5 = .ok (.iconst 0, 1) := by decide +kernel
theorem dX5_finds_6 : decode cX5_finds 6 = .ok (.istore_n 1, 1) := by decide +kernel
theorem dX5_finds_7 : decode cX5_finds 7 = .ok (.iload_n 1, 1) := by decide +kernel
theorem dX5_finds_8 : decode cX5_finds 8 = .ok (.aload_n 0, 1) := by decide +kernel
theorem dX5_finds_9 : decode cX5_finds 9 = .ok (.getfield 7, 3) := by decide +kernel
theorem dX5_finds_12 : decode cX5_finds 12 = .ok (.if_icmp .ge 29, 3) := by decide +kernel
theorem dX5_finds_15 : decode cX5_finds 15 = .ok (.aload_n 0, 1) := by decide +kernel
theorem dX5_finds_16 : decode cX5_finds 16 = .ok (.getfield 23, 3) := by decide +kernel
theorem dX5_finds_19 : decode cX5_finds 19 = .ok (.iload_n 1, 1) := by decide +kernel
theorem dX5_finds_20 : decode cX5_finds 20 = .ok (.iaload, 1) := by decide +kernel
theorem dX5_finds_21 : decode cX5_finds 21 = .ok (.iconst 1, 1) := by decide +kernel
theorem dX5_finds_22 : decode cX5_finds 22 = .ok (.if_icmp .ne 13, 3) := by decide +kernel
theorem dX5_finds_25 : decode cX5_finds 25 = .ok (.aload_n 0, 1) := by decide +kernel
theorem dX5_finds_26 : decode cX5_finds 26 = .ok (.iload_n 1, 1) := by decide +kernel
theorem dX5_finds_27 : decode cX5_finds 27 = .ok (.invokevirtual 89, 3) := by decide +kernel
theorem dX5_finds_30 : decode cX5_finds 30 = .ok (.ifCond .ne 5, 3) := by decide +kernel
theorem dX5_finds_33 : decode cX5_finds 33 = .ok (.iconst 0, 1) := by decide +kernel
theorem dX5_finds_34 : decode cX5_finds 34 = .ok (.ireturn, 1) := by decide +kernel
theorem dX5_finds_35 : decode cX5_finds 35 = .ok (.iinc 1 1, 3) := by decide +kernel
theorem dX5_finds_38 : decode cX5_finds 38 = .ok (.goto (-31), 3) := by decide +kernel
theorem dX5_finds_41 : decode cX5_finds 41 = .ok (.iconst 1, 1) := by decide +kernel
theorem dX5_finds_42 : decode cX5_finds 42 = .ok (.ireturn, 1) := by decide +kernel
theorem dX5_goes_0 : decode cX5_goes 0 = .ok (.iconst 1, 1) := by decide +kernel
theorem dX5_goes_1 : decode cX5_goes 1 = .ok (.istore_n 2, 1) := by decide +kernel
theorem dX5_goes_2 : decode cX5_goes 2 = .ok (.iconst 1, 1) := by decide +kernel
theorem dX5_goes_3 : decode cX5_goes 3 = .ok (.iload_n 1, 1) := by decide +kernel
theorem dX5_goes_4 : decode cX5_goes 4 = .ok (.ishl, 1) := by decide +kernel
theorem dX5_goes_5 : decode cX5_goes 5 = .ok (.istore_n 3, 1) := by decide +kernel
theorem dX5_goes_6 : decode cX5_goes 6 = .ok (.aload_n 0, 1) := by decide +kernel
theorem dX5_goes_7 : decode cX5_goes 7 = .ok (.getfield 57, 3) := by decide +kernel
theorem dX5_goes_10 : decode cX5_goes 10 = .ok (.iconst 0, 1) := by decide +kernel
theorem dX5_goes_11 : decode cX5_goes 11 = .ok (.iload_n 1, 1) := by decide +kernel
theorem dX5_goes_12 : decode cX5_goes 12 = .ok (.iastore, 1) := by decide +kernel
theorem dX5_goes_13 : decode cX5_goes 13 = .ok (.aload_n 0, 1) := by decide +kernel
theorem dX5_goes_14 : decode cX5_goes 14 = .ok (.getfield 60, 3) := by decide +kernel
theorem dX5_goes_17 : decode cX5_goes 17 = .ok (.iconst 0, 1) := by decide +kernel
theorem dX5_goes_18 : decode cX5_goes 18 = .ok (.iconst 0, 1) := by decide +kernel
theorem dX5_goes_19 : decode cX5_goes 19 = .ok (.iastore, 1) := by decide +kernel
theorem dX5_goes_20 : decode cX5_goes 20 = .ok (.iload_n 2, 1) := by decide +kernel
theorem dX5_goes_21 : decode cX5_goes 21 = .ok (.ifCond .le 249, 3) := by decide +kernel
theorem dX5_goes_24 : decode cX5_goes 24 = .ok (.aload_n 0, 1) := by decide +kernel
theorem dX5_goes_25 : decode cX5_goes 25 = .ok (.getfield 57, 3) := by decide +kernel
theorem dX5_goes_28 : decode cX5_goes 28 = .ok (.iload_n 2, 1) := by decide +kernel
theorem dX5_goes_29 : decode cX5_goes 29 = .ok (.iconst 1, 1) := by decide +kernel
theorem dX5_goes_30 : decode cX5_goes 30 = .ok (.isub, 1) := by decide +kernel
theorem dX5_goes_31 : decode cX5_goes 31 = .ok (.iaload, 1) := by decide +kernel
theorem dX5_goes_32 : decode cX5_goes 32 = .ok (.istore 4, 2) := by decide +kernel
theorem dX5_goes_34 : decode cX5_goes 34 = .ok (.aload_n 0, 1) := by decide +kernel
theorem dX5_goes_35 : decode cX5_goes 35 = .ok (.getfield 60, 3) := by decide +kernel
theorem dX5_goes_38 : decode cX5_goes 38 = .ok (.iload_n 2, 1) := by decide +kernel
theorem dX5_goes_39 : decode cX5_goes 39 = .ok (.iconst 1, 1) := by decide +kernel
theorem dX5_goes_40 : decode cX5_goes 40 = .ok (.isub, 1) := by decide +kernel
theorem dX5_goes_41 : decode cX5_goes 41 = .ok (.iaload, 1) := by decide +kernel
theorem dX5_goes_42 : decode cX5_goes 42 = .ok (.istore 5, 2) := by decide +kernel
theorem dX5_goes_44 : decode cX5_goes 44 = .ok (.iload 5, 2) := by decide +kernel
theorem dX5_goes_46 : decode cX5_goes 46 = .ok (.aload_n 0, 1) := by decide +kernel
theorem dX5_goes_47 : decode cX5_goes 47 = .ok (.getfield 7, 3) := by decide +kernel
theorem dX5_goes_50 : decode cX5_goes 50 = .ok (.if_icmp .ge 35, 3) := by decide +kernel
theorem dX5_goes_53 : decode cX5_goes 53 = .ok (.aload_n 0, 1) := by decide +kernel
theorem dX5_goes_54 : decode cX5_goes 54 = .ok (.getfield 19, 3) := by decide +kernel
theorem dX5_goes_57 : decode cX5_goes 57 = .ok (.bipush 9, 2) := by decide +kernel
theorem dX5_goes_59 : decode cX5_goes 59 = .ok (.iload 4, 2) := by decide +kernel
theorem dX5_goes_61 : decode cX5_goes 61 = .ok (.imul, 1) := by decide +kernel
theorem dX5_goes_62 : decode cX5_goes 62 = .ok (.iload 5, 2) := by decide +kernel
theorem dX5_goes_64 : decode cX5_goes 64 = .ok (.iadd, 1) := by decide +kernel
theorem dX5_goes_65 : decode cX5_goes 65 = .ok (.baload, 1) := by decide +kernel
theorem dX5_goes_66 : decode cX5_goes 66 = .ok (.ifCond .eq 13, 3) := by decide +kernel
theorem dX5_goes_69 : decode cX5_goes 69 = .ok (.iload_n 3, 1) := by decide +kernel
theorem dX5_goes_70 : decode cX5_goes 70 = .ok (.iload 5, 2) := by decide +kernel
theorem dX5_goes_72 : decode cX5_goes 72 = .ok (.ishr, 1) := by decide +kernel
theorem dX5_goes_73 : decode cX5_goes 73 = .ok (.iconst 1, 1) := by decide +kernel
theorem dX5_goes_74 : decode cX5_goes 74 = .ok (.iand, 1) := by decide +kernel
theorem dX5_goes_75 : decode cX5_goes 75 = .ok (.iconst 1, 1) := by decide +kernel
theorem dX5_goes_76 : decode cX5_goes 76 = .ok (.if_icmp .ne 9, 3) := by decide +kernel
theorem dX5_goes_79 : decode cX5_goes 79 = .ok (.iinc 5 1, 3) := by decide +kernel
theorem dX5_goes_82 : decode cX5_goes 82 = .ok (.goto (-38), 3) := by decide +kernel
theorem dX5_goes_85 : decode cX5_goes 85 = .ok (.aload_n 0, 1) := by decide +kernel
theorem dX5_goes_86 : decode cX5_goes 86 = .ok (.getfield 60, 3) := by decide +kernel
theorem dX5_goes_89 : decode cX5_goes 89 = .ok (.iload_n 2, 1) := by decide +kernel
theorem dX5_goes_90 : decode cX5_goes 90 = .ok (.iconst 1, 1) := by decide +kernel
theorem dX5_goes_91 : decode cX5_goes 91 = .ok (.isub, 1) := by decide +kernel
theorem dX5_goes_92 : decode cX5_goes 92 = .ok (.iload 5, 2) := by decide +kernel
theorem dX5_goes_94 : decode cX5_goes 94 = .ok (.iconst 1, 1) := by decide +kernel
theorem dX5_goes_95 : decode cX5_goes 95 = .ok (.iadd, 1) := by decide +kernel
theorem dX5_goes_96 : decode cX5_goes 96 = .ok (.iastore, 1) := by decide +kernel
theorem dX5_goes_97 : decode cX5_goes 97 = .ok (.iload 5, 2) := by decide +kernel
theorem dX5_goes_99 : decode cX5_goes 99 = .ok (.aload_n 0, 1) := by decide +kernel
theorem dX5_goes_100 : decode cX5_goes 100 = .ok (.getfield 7, 3) := by decide +kernel
theorem dX5_goes_103 : decode cX5_goes 103 = .ok (.if_icmp .lt 18, 3) := by decide +kernel
theorem dX5_goes_106 : decode cX5_goes 106 = .ok (.iinc 2 (-1), 3) := by decide +kernel
theorem dX5_goes_109 : decode cX5_goes 109 = .ok (.iload_n 3, 1) := by decide +kernel
theorem dX5_goes_110 : decode cX5_goes 110 = .ok (.iconst 1, 1) := by decide +kernel
theorem dX5_goes_111 : decode cX5_goes 111 = .ok (.iload 4, 2) := by decide +kernel
theorem dX5_goes_113 : decode cX5_goes 113 = .ok (.ishl, 1) := by decide +kernel
theorem dX5_goes_114 : decode cX5_goes 114 = .ok (.iconst (-1), 1) := by decide +kernel
theorem dX5_goes_115 : decode cX5_goes 115 = .ok (.ixor, 1) := by decide +kernel
theorem dX5_goes_116 : decode cX5_goes 116 = .ok (.iand, 1) := by decide +kernel
theorem dX5_goes_117 : decode cX5_goes 117 = .ok (.istore_n 3, 1) := by decide +kernel
theorem dX5_goes_118 : decode cX5_goes 118 = .ok (.goto (-98), 3) := by decide +kernel
theorem dX5_goes_121 : decode cX5_goes 121 = .ok (.aload_n 0, 1) := by decide +kernel
theorem dX5_goes_122 : decode cX5_goes 122 = .ok (.getfield 23, 3) := by decide +kernel
theorem dX5_goes_125 : decode cX5_goes 125 = .ok (.iload 5, 2) := by decide +kernel
theorem dX5_goes_127 : decode cX5_goes 127 = .ok (.iaload, 1) := by decide +kernel
theorem dX5_goes_128 : decode cX5_goes 128 = .ok (.iconst 2, 1) := by decide +kernel
theorem dX5_goes_129 : decode cX5_goes 129 = .ok (.if_icmp .ne 108, 3) := by decide +kernel
theorem dX5_goes_132 : decode cX5_goes 132 = .ok (.aload_n 0, 1) := by decide +kernel
theorem dX5_goes_133 : decode cX5_goes 133 = .ok (.getfield 86, 3) := by decide +kernel
theorem dX5_goes_136 : decode cX5_goes 136 = .ok (.sipush 2000, 3) := by decide +kernel
theorem dX5_goes_139 : decode cX5_goes 139 = .ok (.if_icmp .ne 5, 3) := by decide +kernel
theorem dX5_goes_142 : decode cX5_goes 142 = .ok (.iconst 0, 1) := by decide +kernel
theorem dX5_goes_143 : decode cX5_goes 143 = .ok (.ireturn, 1) := by decide +kernel
theorem dX5_goes_144 : decode cX5_goes 144 = .ok (.iconst 0, 1) := by decide +kernel
theorem dX5_goes_145 : decode cX5_goes 145 = .ok (.istore 6, 2) := by decide +kernel
theorem dX5_goes_147 : decode cX5_goes 147 = .ok (.iload 6, 2) := by decide +kernel
theorem dX5_goes_149 : decode cX5_goes 149 = .ok (.iload_n 2, 1) := by decide +kernel
theorem dX5_goes_150 : decode cX5_goes 150 = .ok (.if_icmp .ge 31, 3) := by decide +kernel
theorem dX5_goes_153 : decode cX5_goes 153 = .ok (.aload_n 0, 1) := by decide +kernel
theorem dX5_goes_154 : decode cX5_goes 154 = .ok (.getfield 48, 3) := by decide +kernel
theorem dX5_goes_157 : decode cX5_goes 157 = .ok (.bipush 6, 2) := by decide +kernel
theorem dX5_goes_159 : decode cX5_goes 159 = .ok (.aload_n 0, 1) := by decide +kernel
theorem dX5_goes_160 : decode cX5_goes 160 = .ok (.getfield 86, 3) := by decide +kernel
theorem dX5_goes_163 : decode cX5_goes 163 = .ok (.imul, 1) := by decide +kernel
theorem dX5_goes_164 : decode cX5_goes 164 = .ok (.iload 6, 2) := by decide +kernel
theorem dX5_goes_166 : decode cX5_goes 166 = .ok (.iadd, 1) := by decide +kernel
theorem dX5_goes_167 : decode cX5_goes 167 = .ok (.aload_n 0, 1) := by decide +kernel
theorem dX5_goes_168 : decode cX5_goes 168 = .ok (.getfield 57, 3) := by decide +kernel
theorem dX5_goes_171 : decode cX5_goes 171 = .ok (.iload 6, 2) := by decide +kernel
theorem dX5_goes_173 : decode cX5_goes 173 = .ok (.iaload, 1) := by decide +kernel
theorem dX5_goes_174 : decode cX5_goes 174 = .ok (.iastore, 1) := by decide +kernel
theorem dX5_goes_175 : decode cX5_goes 175 = .ok (.iinc 6 1, 3) := by decide +kernel
theorem dX5_goes_178 : decode cX5_goes 178 = .ok (.goto (-31), 3) := by decide +kernel
theorem dX5_goes_181 : decode cX5_goes 181 = .ok (.aload_n 0, 1) := by decide +kernel
theorem dX5_goes_182 : decode cX5_goes 182 = .ok (.getfield 48, 3) := by decide +kernel
theorem dX5_goes_185 : decode cX5_goes 185 = .ok (.bipush 6, 2) := by decide +kernel
theorem dX5_goes_187 : decode cX5_goes 187 = .ok (.aload_n 0, 1) := by decide +kernel
theorem dX5_goes_188 : decode cX5_goes 188 = .ok (.getfield 86, 3) := by decide +kernel
theorem dX5_goes_191 : decode cX5_goes 191 = .ok (.imul, 1) := by decide +kernel
theorem dX5_goes_192 : decode cX5_goes 192 = .ok (.iload_n 2, 1) := by decide +kernel
theorem dX5_goes_193 : decode cX5_goes 193 = .ok (.iadd, 1) := by decide +kernel
theorem dX5_goes_194 : decode cX5_goes 194 = .ok (.iload 5, 2) := by decide +kernel
theorem dX5_goes_196 : decode cX5_goes 196 = .ok (.iastore, 1) := by decide +kernel
theorem dX5_goes_197 : decode cX5_goes 197 = .ok (.aload_n 0, 1) := by decide +kernel
theorem dX5_goes_198 : decode cX5_goes 198 = .ok (.getfield 51, 3) := by decide +kernel
theorem dX5_goes_201 : decode cX5_goes 201 = .ok (.aload_n 0, 1) := by decide +kernel
theorem dX5_goes_202 : decode cX5_goes 202 = .ok (.getfield 86, 3) := by decide +kernel
theorem dX5_goes_205 : decode cX5_goes 205 = .ok (.iload_n 2, 1) := by decide +kernel
theorem dX5_goes_206 : decode cX5_goes 206 = .ok (.iconst 1, 1) := by decide +kernel
theorem dX5_goes_207 : decode cX5_goes 207 = .ok (.iadd, 1) := by decide +kernel
theorem dX5_goes_208 : decode cX5_goes 208 = .ok (.iastore, 1) := by decide +kernel
theorem dX5_goes_209 : decode cX5_goes 209 = .ok (.aload_n 0, 1) := by decide +kernel
theorem dX5_goes_210 : decode cX5_goes 210 = .ok (.getfield 54, 3) := by decide +kernel
theorem dX5_goes_213 : decode cX5_goes 213 = .ok (.aload_n 0, 1) := by decide +kernel
theorem dX5_goes_214 : decode cX5_goes 214 = .ok (.getfield 86, 3) := by decide +kernel
theorem dX5_goes_217 : decode cX5_goes 217 = .ok (.iload_n 3, 1) := by decide +kernel
theorem dX5_goes_218 : decode cX5_goes 218 = .ok (.iconst 1, 1) := by decide +kernel
theorem dX5_goes_219 : decode cX5_goes 219 = .ok (.iload 5, 2) := by decide +kernel
theorem dX5_goes_221 : decode cX5_goes 221 = .ok (.ishl, 1) := by decide +kernel
theorem dX5_goes_222 : decode cX5_goes 222 = .ok (.ior, 1) := by decide +kernel
theorem dX5_goes_223 : decode cX5_goes 223 = .ok (.iastore, 1) := by decide +kernel
theorem dX5_goes_224 : decode cX5_goes 224 = .ok (.aload_n 0, 1) := by decide +kernel
theorem dX5_goes_225 : decode cX5_goes 225 = .ok (.dup, 1) := by decide +kernel
theorem dX5_goes_226 : decode cX5_goes 226 = .ok (.getfield 86, 3) := by decide +kernel
theorem dX5_goes_229 : decode cX5_goes 229 = .ok (.iconst 1, 1) := by decide +kernel
theorem dX5_goes_230 : decode cX5_goes 230 = .ok (.iadd, 1) := by decide +kernel
theorem dX5_goes_231 : decode cX5_goes 231 = .ok (.putfield 86, 3) := by decide +kernel
theorem dX5_goes_234 : decode cX5_goes 234 = .ok (.goto 33, 3) := by decide +kernel
theorem dX5_goes_237 : decode cX5_goes 237 = .ok (.iload_n 2, 1) := by decide +kernel
theorem dX5_goes_238 : decode cX5_goes 238 = .ok (.iconst 5, 1) := by decide +kernel
theorem dX5_goes_239 : decode cX5_goes 239 = .ok (.if_icmp .ge 28, 3) := by decide +kernel
theorem dX5_goes_242 : decode cX5_goes 242 = .ok (.aload_n 0, 1) := by decide +kernel
theorem dX5_goes_243 : decode cX5_goes 243 = .ok (.getfield 57, 3) := by decide +kernel
theorem dX5_goes_246 : decode cX5_goes 246 = .ok (.iload_n 2, 1) := by decide +kernel
theorem dX5_goes_247 : decode cX5_goes 247 = .ok (.iload 5, 2) := by decide +kernel
theorem dX5_goes_249 : decode cX5_goes 249 = .ok (.iastore, 1) := by decide +kernel
theorem dX5_goes_250 : decode cX5_goes 250 = .ok (.aload_n 0, 1) := by decide +kernel
theorem dX5_goes_251 : decode cX5_goes 251 = .ok (.getfield 60, 3) := by decide +kernel
theorem dX5_goes_254 : decode cX5_goes 254 = .ok (.iload_n 2, 1) := by decide +kernel
theorem dX5_goes_255 : decode cX5_goes 255 = .ok (.iconst 0, 1) := by decide +kernel
theorem dX5_goes_256 : decode cX5_goes 256 = .ok (.iastore, 1) := by decide +kernel
theorem dX5_goes_257 : decode cX5_goes 257 = .ok (.iinc 2 1, 3) := by decide +kernel
theorem dX5_goes_260 : decode cX5_goes 260 = .ok (.iload_n 3, 1) := by decide +kernel
theorem dX5_goes_261 : decode cX5_goes 261 = .ok (.iconst 1, 1) := by decide +kernel
theorem dX5_goes_262 : decode cX5_goes 262 = .ok (.iload 5, 2) := by decide +kernel
theorem dX5_goes_264 : decode cX5_goes 264 = .ok (.ishl, 1) := by decide +kernel
theorem dX5_goes_265 : decode cX5_goes 265 = .ok (.ior, 1) := by decide +kernel
theorem dX5_goes_266 : decode cX5_goes 266 = .ok (.istore_n 3, 1) := by decide +kernel
theorem dX5_goes_267 : decode cX5_goes 267 = .ok (.goto (-247), 3) := by decide +kernel
theorem dX5_goes_270 : decode cX5_goes 270 = .ok (.iconst 1, 1) := by decide +kernel
theorem dX5_goes_271 : decode cX5_goes 271 = .ok (.ireturn, 1) := by decide +kernel
set_option maxRecDepth 20000 in
theorem ggX5_ways_X5_finds : GoodIn wsX5_ways wsX5_finds := goodIn_r _ [6, 1, 7, 8, 9, 10, 11, 5, 12, 13, 14, 15, 16, 17, 18, 19, 20, 21, 22, 23, 24, 25, 26, 27, 28, 29, 30, 31, 32, 33, 34, 35, 36, 37, 38, 39] (by decide +kernel) (by decide +kernel)
set_option maxRecDepth 20000 in
theorem gX5_ways_X5_finds : GoodIn wsX5_ways (wsV RX5 92 RX5 yX5_finds wsX5_finds) := goodIn_app (goodIn_of _ (by decide +kernel)) ggX5_ways_X5_finds
theorem dX5_ways_0 : decode cX5_ways 0 = .ok (.aload_n 0, 1) := by decide +kernel
theorem dX5_ways_1 : decode cX5_ways 1 = .ok (.invokevirtual 92, 3) := by decide +kernel
theorem dX5_ways_4 : decode cX5_ways 4 = .ok (.ifCond .eq 10, 3) := by decide +kernel
theorem dX5_ways_7 : decode cX5_ways 7 = .ok (.aload_n 0, 1) := by decide +kernel
theorem dX5_ways_8 : decode cX5_ways 8 = .ok (.getfield 86, 3) := by decide +kernel
theorem dX5_ways_11 : decode cX5_ways 11 = .ok (.goto 4, 3) := by decide +kernel
theorem dX5_ways_14 : decode cX5_ways 14 = .ok (.iconst (-1), 1) := by decide +kernel
theorem dX5_ways_15 : decode cX5_ways 15 = .ok (.ireturn, 1) := by decide +kernel
set_option maxRecDepth 20000 in
theorem ggX5_way_X5_finds : GoodIn wsX5_way wsX5_finds := goodIn_r _ [8, 1, 9, 10, 11, 12, 13, 7, 14, 15, 16, 17, 3, 2, 18, 22, 23, 24, 25, 26, 27, 28, 29, 30, 31, 32, 33, 34, 35, 36, 37, 38, 39, 40, 41, 42] (by decide +kernel) (by decide +kernel)
set_option maxRecDepth 20000 in
theorem gX5_way_X5_finds : GoodIn wsX5_way (wsV RX5 92 RX5 yX5_finds wsX5_finds) := goodIn_app (goodIn_of _ (by decide +kernel)) ggX5_way_X5_finds
set_option maxRecDepth 20000 in
theorem ggX5_way_X5_isIn : GoodIn wsX5_way wsX5_isIn := goodIn_r _ [21] (by decide +kernel) (by decide +kernel)
set_option maxRecDepth 20000 in
theorem gX5_way_X5_isIn : GoodIn wsX5_way (va_wsS RX5 63 yX5_isIn wsX5_isIn) := goodIn_app (goodIn_of _ (by decide +kernel)) ggX5_way_X5_isIn
theorem dX5_way_0 : decode cX5_way 0 = .ok (.aload_n 0, 1) := by decide +kernel
theorem dX5_way_1 : decode cX5_way 1 = .ok (.invokevirtual 92, 3) := by decide +kernel
theorem dX5_way_4 : decode cX5_way 4 = .ok (.ifCond .eq 47, 3) := by decide +kernel
theorem dX5_way_7 : decode cX5_way 7 = .ok (.iload_n 1, 1) := by decide +kernel
theorem dX5_way_8 : decode cX5_way 8 = .ok (.iconst 0, 1) := by decide +kernel
theorem dX5_way_9 : decode cX5_way 9 = .ok (.aload_n 0, 1) := by decide +kernel
theorem dX5_way_10 : decode cX5_way 10 = .ok (.getfield 86, 3) := by decide +kernel
theorem dX5_way_13 : decode cX5_way 13 = .ok (.iconst 1, 1) := by decide +kernel
theorem dX5_way_14 : decode cX5_way 14 = .ok (.isub, 1) := by decide +kernel
theorem dX5_way_15 : decode cX5_way 15 = .ok (.invokestatic 63, 3) := by decide +kernel
theorem dX5_way_18 : decode cX5_way 18 = .ok (.ifCond .eq 33, 3) := by decide +kernel
theorem dX5_way_21 : decode cX5_way 21 = .ok (.iload_n 2, 1) := by decide +kernel
theorem dX5_way_22 : decode cX5_way 22 = .ok (.iconst 0, 1) := by decide +kernel
theorem dX5_way_23 : decode cX5_way 23 = .ok (.aload_n 0, 1) := by decide +kernel
theorem dX5_way_24 : decode cX5_way 24 = .ok (.getfield 51, 3) := by decide +kernel
theorem dX5_way_27 : decode cX5_way 27 = .ok (.iload_n 1, 1) := by decide +kernel
theorem dX5_way_28 : decode cX5_way 28 = .ok (.iaload, 1) := by decide +kernel
theorem dX5_way_29 : decode cX5_way 29 = .ok (.iconst 1, 1) := by decide +kernel
theorem dX5_way_30 : decode cX5_way 30 = .ok (.isub, 1) := by decide +kernel
theorem dX5_way_31 : decode cX5_way 31 = .ok (.invokestatic 63, 3) := by decide +kernel
theorem dX5_way_34 : decode cX5_way 34 = .ok (.ifCond .eq 17, 3) := by decide +kernel
theorem dX5_way_37 : decode cX5_way 37 = .ok (.aload_n 0, 1) := by decide +kernel
theorem dX5_way_38 : decode cX5_way 38 = .ok (.getfield 48, 3) := by decide +kernel
theorem dX5_way_41 : decode cX5_way 41 = .ok (.bipush 6, 2) := by decide +kernel
theorem dX5_way_43 : decode cX5_way 43 = .ok (.iload_n 1, 1) := by decide +kernel
theorem dX5_way_44 : decode cX5_way 44 = .ok (.imul, 1) := by decide +kernel
theorem dX5_way_45 : decode cX5_way 45 = .ok (.iload_n 2, 1) := by decide +kernel
theorem dX5_way_46 : decode cX5_way 46 = .ok (.iadd, 1) := by decide +kernel
theorem dX5_way_47 : decode cX5_way 47 = .ok (.iaload, 1) := by decide +kernel
theorem dX5_way_48 : decode cX5_way 48 = .ok (.goto 4, 3) := by decide +kernel
theorem dX5_way_51 : decode cX5_way 51 = .ok (.iconst (-1), 1) := by decide +kernel
theorem dX5_way_52 : decode cX5_way 52 = .ok (.ireturn, 1) := by decide +kernel
set_option maxRecDepth 20000 in
theorem ggX5_isSet_X5_isIn : GoodIn wsX5_isSet wsX5_isIn := goodIn_r _ [5] (by decide +kernel) (by decide +kernel)
set_option maxRecDepth 20000 in
theorem gX5_isSet_X5_isIn : GoodIn wsX5_isSet (va_wsS RX5 63 yX5_isIn wsX5_isIn) := goodIn_app (goodIn_of _ (by decide +kernel)) ggX5_isSet_X5_isIn
theorem dX5_isSet_0 : decode cX5_isSet 0 = .ok (.iload_n 1, 1) := by decide +kernel
theorem dX5_isSet_1 : decode cX5_isSet 1 = .ok (.iconst 0, 1) := by decide +kernel
theorem dX5_isSet_2 : decode cX5_isSet 2 = .ok (.iconst 1, 1) := by decide +kernel
theorem dX5_isSet_3 : decode cX5_isSet 3 = .ok (.aload_n 0, 1) := by decide +kernel
theorem dX5_isSet_4 : decode cX5_isSet 4 = .ok (.getfield 7, 3) := by decide +kernel
theorem dX5_isSet_7 : decode cX5_isSet 7 = .ok (.ishl, 1) := by decide +kernel
theorem dX5_isSet_8 : decode cX5_isSet 8 = .ok (.iconst 1, 1) := by decide +kernel
theorem dX5_isSet_9 : decode cX5_isSet 9 = .ok (.isub, 1) := by decide +kernel
theorem dX5_isSet_10 : decode cX5_isSet 10 = .ok (.invokestatic 63, 3) := by decide +kernel
theorem dX5_isSet_13 : decode cX5_isSet 13 = .ok (.ireturn, 1) := by decide +kernel
theorem dX5_touchedBy_0 : decode cX5_touchedBy 0 = .ok (.iconst 0, 1) := by decide +kernel
theorem dX5_touchedBy_1 : decode cX5_touchedBy 1 = .ok (.istore_n 2, 1) := by decide +kernel
theorem dX5_touchedBy_2 : decode cX5_touchedBy 2 = .ok (.iconst 0, 1) := by decide +kernel
theorem dX5_touchedBy_3 : decode cX5_touchedBy 3 = .ok (.istore_n 3, 1) := by decide +kernel
theorem dX5_touchedBy_4 : decode cX5_touchedBy 4 = .ok (.iload_n 3, 1) := by decide +kernel
theorem dX5_touchedBy_5 : decode cX5_touchedBy 5 = .ok (.aload_n 0, 1) := by decide +kernel
theorem dX5_touchedBy_6 : decode cX5_touchedBy 6 = .ok (.getfield 86, 3) := by decide +kernel
theorem dX5_touchedBy_9 : decode cX5_touchedBy 9 = .ok (.if_icmp .ge 28, 3) := by decide +kernel
theorem dX5_touchedBy_12 : decode cX5_touchedBy 12 = .ok (.iload_n 2, 1) := by decide +kernel
theorem dX5_touchedBy_13 : decode cX5_touchedBy 13 = .ok (.aload_n 0, 1) := by decide +kernel
theorem dX5_touchedBy_14 : decode cX5_touchedBy 14 = .ok (.getfield 54, 3) := by decide +kernel
theorem dX5_touchedBy_17 : decode cX5_touchedBy 17 = .ok (.iload_n 3, 1) := by decide +kernel
theorem dX5_touchedBy_18 : decode cX5_touchedBy 18 = .ok (.iaload, 1) := by decide +kernel
theorem dX5_touchedBy_19 : decode cX5_touchedBy 19 = .ok (.iload_n 1, 1) := by decide +kernel
theorem dX5_touchedBy_20 : decode cX5_touchedBy 20 = .ok (.iand, 1) := by decide +kernel
theorem dX5_touchedBy_21 : decode cX5_touchedBy 21 = .ok (.ifCond .eq 7, 3) := by decide +kernel
theorem dX5_touchedBy_24 : decode cX5_touchedBy 24 = .ok (.iconst 1, 1) := by decide +kernel
theorem dX5_touchedBy_25 : decode cX5_touchedBy 25 = .ok (.goto 4, 3) := by decide +kernel
theorem dX5_touchedBy_28 : decode cX5_touchedBy 28 = .ok (.iconst 0, 1) := by decide +kernel
theorem dX5_touchedBy_29 : decode cX5_touchedBy 29 = .ok (.iadd, 1) := by decide +kernel
theorem dX5_touchedBy_30 : decode cX5_touchedBy 30 = .ok (.istore_n 2, 1) := by decide +kernel
theorem dX5_touchedBy_31 : decode cX5_touchedBy 31 = .ok (.iinc 3 1, 3) := by decide +kernel
theorem dX5_touchedBy_34 : decode cX5_touchedBy 34 = .ok (.goto (-30), 3) := by decide +kernel
theorem dX5_touchedBy_37 : decode cX5_touchedBy 37 = .ok (.iload_n 2, 1) := by decide +kernel
theorem dX5_touchedBy_38 : decode cX5_touchedBy 38 = .ok (.ireturn, 1) := by decide +kernel
set_option maxRecDepth 20000 in
theorem ggX5_touched_X5_isSet : GoodIn wsX5_touched wsX5_isSet := goodIn_r _ [5, 6, 7, 8, 4, 9, 30, 31, 32, 33, 34, 35, 36, 37, 38, 39, 40, 41, 42, 43, 44, 45, 46, 47, 48, 49, 50] (by decide +kernel) (by decide +kernel)
set_option maxRecDepth 20000 in
theorem gX5_touched_X5_isSet : GoodIn wsX5_touched (wsV RX5 96 RX5 yX5_isSet wsX5_isSet) := goodIn_app (goodIn_of _ (by decide +kernel)) ggX5_touched_X5_isSet
set_option maxRecDepth 20000 in
theorem ggX5_touched_X5_finds : GoodIn wsX5_touched wsX5_finds := goodIn_r _ [13, 14, 6, 15, 16, 17, 18, 4, 19, 20, 21, 22, 23, 24, 25, 30, 31, 32, 33, 34, 35, 36, 37, 38, 39, 40, 41, 42, 43, 44, 45, 46, 47, 48, 49, 50] (by decide +kernel) (by decide +kernel)
set_option maxRecDepth 20000 in
theorem gX5_touched_X5_finds : GoodIn wsX5_touched (wsV RX5 92 RX5 yX5_finds wsX5_finds) := goodIn_app (goodIn_of _ (by decide +kernel)) ggX5_touched_X5_finds
set_option maxRecDepth 20000 in
theorem ggX5_touched_X5_touchedBy : GoodIn wsX5_touched wsX5_touchedBy := goodIn_r _ [29, 14, 25, 30, 31, 32, 33, 34, 35, 36, 37, 38, 39, 40, 41, 42, 43, 44, 45, 46, 47, 48, 49, 50] (by decide +kernel) (by decide +kernel)
set_option maxRecDepth 20000 in
theorem gX5_touched_X5_touchedBy : GoodIn wsX5_touched (wsV RX5 99 RX5 yX5_touchedBy wsX5_touchedBy) := goodIn_app (goodIn_of _ (by decide +kernel)) ggX5_touched_X5_touchedBy
theorem dX5_touched_0 : decode cX5_touched 0 = .ok (.aload_n 0, 1) := by decide +kernel
theorem dX5_touched_1 : decode cX5_touched 1 = .ok (.iload_n 1, 1) := by decide +kernel
theorem dX5_touched_2 : decode cX5_touched 2 = .ok (.invokevirtual 96, 3) := by decide +kernel
theorem dX5_touched_5 : decode cX5_touched 5 = .ok (.ifCond .eq 18, 3) := by decide +kernel
theorem dX5_touched_8 : decode cX5_touched 8 = .ok (.aload_n 0, 1) := by decide +kernel
theorem dX5_touched_9 : decode cX5_touched 9 = .ok (.invokevirtual 92, 3) := by decide +kernel
theorem dX5_touched_12 : decode cX5_touched 12 = .ok (.ifCond .eq 11, 3) := by decide +kernel
theorem dX5_touched_15 : decode cX5_touched 15 = .ok (.aload_n 0, 1) := by decide +kernel
theorem dX5_touched_16 : decode cX5_touched 16 = .ok (.iload_n 1, 1) := by decide +kernel
theorem dX5_touched_17 : decode cX5_touched 17 = .ok (.invokevirtual 99, 3) := by decide +kernel
theorem dX5_touched_20 : decode cX5_touched 20 = .ok (.goto 4, 3) := by decide +kernel
theorem dX5_touched_23 : decode cX5_touched 23 = .ok (.iconst (-1), 1) := by decide +kernel
theorem dX5_touched_24 : decode cX5_touched 24 = .ok (.ireturn, 1) := by decide +kernel
theorem dX5_honestOf_0 : decode cX5_honestOf 0 = .ok (.iconst 0, 1) := by decide +kernel
theorem dX5_honestOf_1 : decode cX5_honestOf 1 = .ok (.istore_n 2, 1) := by decide +kernel
theorem dX5_honestOf_2 : decode cX5_honestOf 2 = .ok (.iconst 0, 1) := by decide +kernel
theorem dX5_honestOf_3 : decode cX5_honestOf 3 = .ok (.istore_n 3, 1) := by decide +kernel
theorem dX5_honestOf_4 : decode cX5_honestOf 4 = .ok (.iload_n 3, 1) := by decide +kernel
theorem dX5_honestOf_5 : decode cX5_honestOf 5 = .ok (.bipush 6, 2) := by decide +kernel
theorem dX5_honestOf_7 : decode cX5_honestOf 7 = .ok (.if_icmp .ge 62, 3) := by decide +kernel
theorem dX5_honestOf_10 : decode cX5_honestOf 10 = .ok (.iconst 0, 1) := by decide +kernel
theorem dX5_honestOf_11 : decode cX5_honestOf 11 = .ok (.istore 4, 2) := by decide +kernel
theorem dX5_honestOf_13 : decode cX5_honestOf 13 = .ok (.iload 4, 2) := by decide +kernel
theorem dX5_honestOf_15 : decode cX5_honestOf 15 = .ok (.aload_n 0, 1) := by decide +kernel
theorem dX5_honestOf_16 : decode cX5_honestOf 16 = .ok (.getfield 39, 3) := by decide +kernel
theorem dX5_honestOf_19 : decode cX5_honestOf 19 = .ok (.iload_n 3, 1) := by decide +kernel
theorem dX5_honestOf_20 : decode cX5_honestOf 20 = .ok (.iaload, 1) := by decide +kernel
theorem dX5_honestOf_21 : decode cX5_honestOf 21 = .ok (.if_icmp .ge 42, 3) := by decide +kernel
theorem dX5_honestOf_24 : decode cX5_honestOf 24 = .ok (.iload_n 2, 1) := by decide +kernel
theorem dX5_honestOf_25 : decode cX5_honestOf 25 = .ok (.iload_n 1, 1) := by decide +kernel
theorem dX5_honestOf_26 : decode cX5_honestOf 26 = .ok (.aload_n 0, 1) := by decide +kernel
theorem dX5_honestOf_27 : decode cX5_honestOf 27 = .ok (.getfield 42, 3) := by decide +kernel
theorem dX5_honestOf_30 : decode cX5_honestOf 30 = .ok (.bipush 8, 2) := by decide +kernel
theorem dX5_honestOf_32 : decode cX5_honestOf 32 = .ok (.iload_n 3, 1) := by decide +kernel
theorem dX5_honestOf_33 : decode cX5_honestOf 33 = .ok (.imul, 1) := by decide +kernel
theorem dX5_honestOf_34 : decode cX5_honestOf 34 = .ok (.iload 4, 2) := by decide +kernel
theorem dX5_honestOf_36 : decode cX5_honestOf 36 = .ok (.iadd, 1) := by decide +kernel
theorem dX5_honestOf_37 : decode cX5_honestOf 37 = .ok (.iaload, 1) := by decide +kernel
theorem dX5_honestOf_38 : decode cX5_honestOf 38 = .ok (.ishr, 1) := by decide +kernel
theorem dX5_honestOf_39 : decode cX5_honestOf 39 = .ok (.iconst 1, 1) := by decide +kernel
theorem dX5_honestOf_40 : decode cX5_honestOf 40 = .ok (.iand, 1) := by decide +kernel
theorem dX5_honestOf_41 : decode cX5_honestOf 41 = .ok (.iconst 1, 1) := by decide +kernel
theorem dX5_honestOf_42 : decode cX5_honestOf 42 = .ok (.if_icmp .ne 12, 3) := by decide +kernel
theorem dX5_honestOf_45 : decode cX5_honestOf 45 = .ok (.aload_n 0, 1) := by decide +kernel
theorem dX5_honestOf_46 : decode cX5_honestOf 46 = .ok (.getfield 36, 3) := by decide +kernel
theorem dX5_honestOf_49 : decode cX5_honestOf 49 = .ok (.iload_n 3, 1) := by decide +kernel
theorem dX5_honestOf_50 : decode cX5_honestOf 50 = .ok (.iaload, 1) := by decide +kernel
theorem dX5_honestOf_51 : decode cX5_honestOf 51 = .ok (.goto 4, 3) := by decide +kernel
theorem dX5_honestOf_54 : decode cX5_honestOf 54 = .ok (.iconst 0, 1) := by decide +kernel
theorem dX5_honestOf_55 : decode cX5_honestOf 55 = .ok (.iadd, 1) := by decide +kernel
theorem dX5_honestOf_56 : decode cX5_honestOf 56 = .ok (.istore_n 2, 1) := by decide +kernel
theorem dX5_honestOf_57 : decode cX5_honestOf 57 = .ok (.iinc 4 1, 3) := by decide +kernel
theorem dX5_honestOf_60 : decode cX5_honestOf 60 = .ok (.goto (-47), 3) := by decide +kernel
theorem dX5_honestOf_63 : decode cX5_honestOf 63 = .ok (.iinc 3 1, 3) := by decide +kernel
theorem dX5_honestOf_66 : decode cX5_honestOf 66 = .ok (.goto (-62), 3) := by decide +kernel
theorem dX5_honestOf_69 : decode cX5_honestOf 69 = .ok (.iload_n 2, 1) := by decide +kernel
theorem dX5_honestOf_70 : decode cX5_honestOf 70 = .ok (.ireturn, 1) := by decide +kernel
set_option maxRecDepth 20000 in
theorem ggX5_honest_X5_isSet : GoodIn wsX5_honest wsX5_isSet := goodIn_r _ [5, 6, 7, 8, 4, 9, 17, 18, 19, 20, 21, 22, 23, 24, 25, 26, 27, 28, 29, 30, 31, 32, 33, 34, 35, 36, 37] (by decide +kernel) (by decide +kernel)
set_option maxRecDepth 20000 in
theorem gX5_honest_X5_isSet : GoodIn wsX5_honest (wsV RX5 96 RX5 yX5_isSet wsX5_isSet) := goodIn_app (goodIn_of _ (by decide +kernel)) ggX5_honest_X5_isSet
set_option maxRecDepth 20000 in
theorem ggX5_honest_X5_honestOf : GoodIn wsX5_honest wsX5_honestOf := goodIn_r _ [13, 14, 15, 16, 17, 18, 19, 20, 21, 22, 23, 24, 25, 26, 27, 28, 29, 30, 31, 32, 33, 34, 35, 36, 37] (by decide +kernel) (by decide +kernel)
set_option maxRecDepth 20000 in
theorem gX5_honest_X5_honestOf : GoodIn wsX5_honest (wsV RX5 103 RX5 yX5_honestOf wsX5_honestOf) := goodIn_app (goodIn_of _ (by decide +kernel)) ggX5_honest_X5_honestOf
theorem dX5_honest_0 : decode cX5_honest 0 = .ok (.aload_n 0, 1) := by decide +kernel
theorem dX5_honest_1 : decode cX5_honest 1 = .ok (.iload_n 1, 1) := by decide +kernel
theorem dX5_honest_2 : decode cX5_honest 2 = .ok (.invokevirtual 96, 3) := by decide +kernel
theorem dX5_honest_5 : decode cX5_honest 5 = .ok (.ifCond .eq 11, 3) := by decide +kernel
theorem dX5_honest_8 : decode cX5_honest 8 = .ok (.aload_n 0, 1) := by decide +kernel
theorem dX5_honest_9 : decode cX5_honest 9 = .ok (.iload_n 1, 1) := by decide +kernel
theorem dX5_honest_10 : decode cX5_honest 10 = .ok (.invokevirtual 103, 3) := by decide +kernel
theorem dX5_honest_13 : decode cX5_honest 13 = .ok (.goto 4, 3) := by decide +kernel
theorem dX5_honest_16 : decode cX5_honest 16 = .ok (.iconst (-1), 1) := by decide +kernel
theorem dX5_honest_17 : decode cX5_honest 17 = .ok (.ireturn, 1) := by decide +kernel
theorem dX5_bits_0 : decode cX5_bits 0 = .ok (.iconst 0, 1) := by decide +kernel
theorem dX5_bits_1 : decode cX5_bits 1 = .ok (.istore_n 1, 1) := by decide +kernel
theorem dX5_bits_2 : decode cX5_bits 2 = .ok (.iconst 0, 1) := by decide +kernel
theorem dX5_bits_3 : decode cX5_bits 3 = .ok (.istore_n 2, 1) := by decide +kernel
theorem dX5_bits_4 : decode cX5_bits 4 = .ok (.iload_n 2, 1) := by decide +kernel
theorem dX5_bits_5 : decode cX5_bits 5 = .ok (.bipush 9, 2) := by decide +kernel
theorem dX5_bits_7 : decode cX5_bits 7 = .ok (.if_icmp .ge 17, 3) := by decide +kernel
theorem dX5_bits_10 : decode cX5_bits 10 = .ok (.iload_n 1, 1) := by decide +kernel
theorem dX5_bits_11 : decode cX5_bits 11 = .ok (.iload_n 0, 1) := by decide +kernel
theorem dX5_bits_12 : decode cX5_bits 12 = .ok (.iload_n 2, 1) := by decide +kernel
theorem dX5_bits_13 : decode cX5_bits 13 = .ok (.ishr, 1) := by decide +kernel
theorem dX5_bits_14 : decode cX5_bits 14 = .ok (.iconst 1, 1) := by decide +kernel
theorem dX5_bits_15 : decode cX5_bits 15 = .ok (.iand, 1) := by decide +kernel
theorem dX5_bits_16 : decode cX5_bits 16 = .ok (.iadd, 1) := by decide +kernel
theorem dX5_bits_17 : decode cX5_bits 17 = .ok (.istore_n 1, 1) := by decide +kernel
theorem dX5_bits_18 : decode cX5_bits 18 = .ok (.iinc 2 1, 3) := by decide +kernel
theorem dX5_bits_21 : decode cX5_bits 21 = .ok (.goto (-17), 3) := by decide +kernel
theorem dX5_bits_24 : decode cX5_bits 24 = .ok (.iload_n 1, 1) := by decide +kernel
theorem dX5_bits_25 : decode cX5_bits 25 = .ok (.ireturn, 1) := by decide +kernel
set_option maxRecDepth 20000 in
theorem ggX5_isFree_X5_isKnown : GoodIn wsX5_isFree wsX5_isKnown := goodIn_r _ [7, 8, 9, 10, 11, 12, 13, 14, 15, 16, 17, 18, 19, 20, 21, 22, 23, 24, 25, 26, 27, 28, 29, 30] (by decide +kernel) (by decide +kernel)
set_option maxRecDepth 20000 in
theorem gX5_isFree_X5_isKnown : GoodIn wsX5_isFree (wsV RX5 83 RX5 yX5_isKnown wsX5_isKnown) := goodIn_app (goodIn_of _ (by decide +kernel)) ggX5_isFree_X5_isKnown
theorem dX5_isFree_0 : decode cX5_isFree 0 = .ok (.iconst 1, 1) := by decide +kernel
theorem dX5_isFree_1 : decode cX5_isFree 1 = .ok (.istore_n 2, 1) := by decide +kernel
theorem dX5_isFree_2 : decode cX5_isFree 2 = .ok (.iconst 0, 1) := by decide +kernel
theorem dX5_isFree_3 : decode cX5_isFree 3 = .ok (.istore_n 3, 1) := by decide +kernel
theorem dX5_isFree_4 : decode cX5_isFree 4 = .ok (.iload_n 3, 1) := by decide +kernel
theorem dX5_isFree_5 : decode cX5_isFree 5 = .ok (.aload_n 0, 1) := by decide +kernel
theorem dX5_isFree_6 : decode cX5_isFree 6 = .ok (.getfield 7, 3) := by decide +kernel
theorem dX5_isFree_9 : decode cX5_isFree 9 = .ok (.if_icmp .ge 44, 3) := by decide +kernel
theorem dX5_isFree_12 : decode cX5_isFree 12 = .ok (.iload_n 2, 1) := by decide +kernel
theorem dX5_isFree_13 : decode cX5_isFree 13 = .ok (.ifCond .eq 32, 3) := by decide +kernel
theorem dX5_isFree_16 : decode cX5_isFree 16 = .ok (.iload_n 1, 1) := by decide +kernel
theorem dX5_isFree_17 : decode cX5_isFree 17 = .ok (.iload_n 3, 1) := by decide +kernel
theorem dX5_isFree_18 : decode cX5_isFree 18 = .ok (.ishr, 1) := by decide +kernel
theorem dX5_isFree_19 : decode cX5_isFree 19 = .ok (.iconst 1, 1) := by decide +kernel
theorem dX5_isFree_20 : decode cX5_isFree 20 = .ok (.iand, 1) := by decide +kernel
theorem dX5_isFree_21 : decode cX5_isFree 21 = .ok (.ifCond .eq 20, 3) := by decide +kernel
theorem dX5_isFree_24 : decode cX5_isFree 24 = .ok (.aload_n 0, 1) := by decide +kernel
theorem dX5_isFree_25 : decode cX5_isFree 25 = .ok (.getfield 23, 3) := by decide +kernel
theorem dX5_isFree_28 : decode cX5_isFree 28 = .ok (.iload_n 3, 1) := by decide +kernel
theorem dX5_isFree_29 : decode cX5_isFree 29 = .ok (.iaload, 1) := by decide +kernel
theorem dX5_isFree_30 : decode cX5_isFree 30 = .ok (.ifCond .ne 15, 3) := by decide +kernel
theorem dX5_isFree_33 : decode cX5_isFree 33 = .ok (.aload_n 0, 1) := by decide +kernel
theorem dX5_isFree_34 : decode cX5_isFree 34 = .ok (.iload_n 3, 1) := by decide +kernel
theorem dX5_isFree_35 : decode cX5_isFree 35 = .ok (.invokevirtual 83, 3) := by decide +kernel
theorem dX5_isFree_38 : decode cX5_isFree 38 = .ok (.ifCond .ne 7, 3) := by decide +kernel
theorem dX5_isFree_41 : decode cX5_isFree 41 = .ok (.iconst 1, 1) := by decide +kernel
theorem dX5_isFree_42 : decode cX5_isFree 42 = .ok (.goto 4, 3) := by decide +kernel
theorem dX5_isFree_45 : decode cX5_isFree 45 = .ok (.iconst 0, 1) := by decide +kernel
theorem dX5_isFree_46 : decode cX5_isFree 46 = .ok (.istore_n 2, 1) := by decide +kernel
theorem dX5_isFree_47 : decode cX5_isFree 47 = .ok (.iinc 3 1, 3) := by decide +kernel
theorem dX5_isFree_50 : decode cX5_isFree 50 = .ok (.goto (-46), 3) := by decide +kernel
theorem dX5_isFree_53 : decode cX5_isFree 53 = .ok (.iload_n 2, 1) := by decide +kernel
theorem dX5_isFree_54 : decode cX5_isFree 54 = .ok (.ireturn, 1) := by decide +kernel
set_option maxRecDepth 20000 in
theorem ggX5_best_X5_isIn : GoodIn wsX5_best wsX5_isIn := goodIn_r _ [5] (by decide +kernel) (by decide +kernel)
set_option maxRecDepth 20000 in
theorem gX5_best_X5_isIn : GoodIn wsX5_best (va_wsS RX5 63 yX5_isIn wsX5_isIn) := goodIn_app (goodIn_of _ (by decide +kernel)) ggX5_best_X5_isIn
set_option maxRecDepth 20000 in
theorem ggX5_best_X5_finds : GoodIn wsX5_best wsX5_finds := goodIn_r _ [9, 10, 1, 11, 12, 13, 14, 4, 15, 16, 17, 18, 19, 20, 21, 46, 47, 48, 49, 50, 51, 52, 53, 54, 55, 56, 57, 58, 59, 60, 61, 62, 63, 64, 65, 66] (by decide +kernel) (by decide +kernel)
set_option maxRecDepth 20000 in
theorem gX5_best_X5_finds : GoodIn wsX5_best (wsV RX5 92 RX5 yX5_finds wsX5_finds) := goodIn_app (goodIn_of _ (by decide +kernel)) ggX5_best_X5_finds
set_option maxRecDepth 20000 in
theorem ggX5_best_X5_bits : GoodIn wsX5_best wsX5_bits := goodIn_r _ [24] (by decide +kernel) (by decide +kernel)
set_option maxRecDepth 20000 in
theorem gX5_best_X5_bits : GoodIn wsX5_best (va_wsS RX5 106 yX5_bits wsX5_bits) := goodIn_app (goodIn_of _ (by decide +kernel)) ggX5_best_X5_bits
set_option maxRecDepth 20000 in
theorem ggX5_best_X5_honestOf : GoodIn wsX5_best wsX5_honestOf := goodIn_r _ [28, 29, 30, 31, 46, 47, 48, 49, 50, 51, 52, 53, 54, 55, 56, 57, 58, 59, 60, 61, 62, 63, 64, 65, 66] (by decide +kernel) (by decide +kernel)
set_option maxRecDepth 20000 in
theorem gX5_best_X5_honestOf : GoodIn wsX5_best (wsV RX5 103 RX5 yX5_honestOf wsX5_honestOf) := goodIn_app (goodIn_of _ (by decide +kernel)) ggX5_best_X5_honestOf
set_option maxRecDepth 20000 in
theorem ggX5_best_X5_isFree : GoodIn wsX5_best wsX5_isFree := goodIn_r _ [35, 1, 11, 36, 37, 38, 4, 39, 40, 41, 46, 47, 48, 49, 50, 51, 52, 53, 54, 55, 56, 57, 58, 59, 60, 61, 62, 63, 64, 65, 66] (by decide +kernel) (by decide +kernel)
set_option maxRecDepth 20000 in
theorem gX5_best_X5_isFree : GoodIn wsX5_best (wsV RX5 109 RX5 yX5_isFree wsX5_isFree) := goodIn_app (goodIn_of _ (by decide +kernel)) ggX5_best_X5_isFree
set_option maxRecDepth 20000 in
theorem ggX5_best_X5_touchedBy : GoodIn wsX5_best wsX5_touchedBy := goodIn_r _ [45, 10, 21, 46, 47, 48, 49, 50, 51, 52, 53, 54, 55, 56, 57, 58, 59, 60, 61, 62, 63, 64, 65, 66] (by decide +kernel) (by decide +kernel)
set_option maxRecDepth 20000 in
theorem gX5_best_X5_touchedBy : GoodIn wsX5_best (wsV RX5 99 RX5 yX5_touchedBy wsX5_touchedBy) := goodIn_app (goodIn_of _ (by decide +kernel)) ggX5_best_X5_touchedBy
theorem dX5_best_0 : decode cX5_best 0 = .ok (.iload_n 1, 1) := by decide +kernel
theorem dX5_best_1 : decode cX5_best 1 = .ok (.iconst 0, 1) := by decide +kernel
theorem dX5_best_2 : decode cX5_best 2 = .ok (.bipush 9, 2) := by decide +kernel
theorem dX5_best_4 : decode cX5_best 4 = .ok (.invokestatic 63, 3) := by decide +kernel
theorem dX5_best_7 : decode cX5_best 7 = .ok (.ifCond .eq 23, 3) := by decide +kernel
theorem dX5_best_10 : decode cX5_best 10 = .ok (.iload_n 2, 1) := by decide +kernel
theorem dX5_best_11 : decode cX5_best 11 = .ok (.ifCond .lt 19, 3) := by decide +kernel
theorem dX5_best_14 : decode cX5_best 14 = .ok (.iload_n 3, 1) := by decide +kernel
theorem dX5_best_15 : decode cX5_best 15 = .ok (.iconst 0, 1) := by decide +kernel
theorem dX5_best_16 : decode cX5_best 16 = .ok (.iconst 2, 1) := by decide +kernel
theorem dX5_best_17 : decode cX5_best 17 = .ok (.invokestatic 63, 3) := by decide +kernel
theorem dX5_best_20 : decode cX5_best 20 = .ok (.ifCond .eq 10, 3) := by decide +kernel
theorem dX5_best_23 : decode cX5_best 23 = .ok (.aload_n 0, 1) := by decide +kernel
theorem dX5_best_24 : decode cX5_best 24 = .ok (.invokevirtual 92, 3) := by decide +kernel
theorem dX5_best_27 : decode cX5_best 27 = .ok (.ifCond .ne 5, 3) := by decide +kernel
theorem dX5_best_30 : decode cX5_best 30 = .ok (.iconst (-1), 1) := by decide +kernel
theorem dX5_best_31 : decode cX5_best 31 = .ok (.ireturn, 1) := by decide +kernel
theorem dX5_best_32 : decode cX5_best 32 = .ok (.iconst 0, 1) := by decide +kernel
theorem dX5_best_33 : decode cX5_best 33 = .ok (.istore 4, 2) := by decide +kernel
theorem dX5_best_35 : decode cX5_best 35 = .ok (.iconst 0, 1) := by decide +kernel
theorem dX5_best_36 : decode cX5_best 36 = .ok (.istore 5, 2) := by decide +kernel
theorem dX5_best_38 : decode cX5_best 38 = .ok (.iconst 1, 1) := by decide +kernel
theorem dX5_best_39 : decode cX5_best 39 = .ok (.istore 6, 2) := by decide +kernel
theorem dX5_best_41 : decode cX5_best 41 = .ok (.iload 6, 2) := by decide +kernel
theorem dX5_best_43 : decode cX5_best 43 = .ok (.iconst 1, 1) := by decide +kernel
theorem dX5_best_44 : decode cX5_best 44 = .ok (.aload_n 0, 1) := by decide +kernel
theorem dX5_best_45 : decode cX5_best 45 = .ok (.getfield 7, 3) := by decide +kernel
theorem dX5_best_48 : decode cX5_best 48 = .ok (.ishl, 1) := by decide +kernel
theorem dX5_best_49 : decode cX5_best 49 = .ok (.if_icmp .ge 126, 3) := by decide +kernel
theorem dX5_best_52 : decode cX5_best 52 = .ok (.iload 6, 2) := by decide +kernel
theorem dX5_best_54 : decode cX5_best 54 = .ok (.invokestatic 106, 3) := by decide +kernel
theorem dX5_best_57 : decode cX5_best 57 = .ok (.iload_n 1, 1) := by decide +kernel
theorem dX5_best_58 : decode cX5_best 58 = .ok (.if_icmp .gt 111, 3) := by decide +kernel
theorem dX5_best_61 : decode cX5_best 61 = .ok (.aload_n 0, 1) := by decide +kernel
theorem dX5_best_62 : decode cX5_best 62 = .ok (.iload 6, 2) := by decide +kernel
theorem dX5_best_64 : decode cX5_best 64 = .ok (.invokevirtual 103, 3) := by decide +kernel
theorem dX5_best_67 : decode cX5_best 67 = .ok (.iload_n 2, 1) := by decide +kernel
theorem dX5_best_68 : decode cX5_best 68 = .ok (.if_icmp .gt 101, 3) := by decide +kernel
theorem dX5_best_71 : decode cX5_best 71 = .ok (.aload_n 0, 1) := by decide +kernel
theorem dX5_best_72 : decode cX5_best 72 = .ok (.iload 6, 2) := by decide +kernel
theorem dX5_best_74 : decode cX5_best 74 = .ok (.invokevirtual 109, 3) := by decide +kernel
theorem dX5_best_77 : decode cX5_best 77 = .ok (.ifCond .ne 6, 3) := by decide +kernel
theorem dX5_best_80 : decode cX5_best 80 = .ok (.goto 89, 3) := by decide +kernel
theorem dX5_best_83 : decode cX5_best 83 = .ok (.aload_n 0, 1) := by decide +kernel
theorem dX5_best_84 : decode cX5_best 84 = .ok (.iload 6, 2) := by decide +kernel
theorem dX5_best_86 : decode cX5_best 86 = .ok (.invokevirtual 99, 3) := by decide +kernel
theorem dX5_best_89 : decode cX5_best 89 = .ok (.istore 7, 2) := by decide +kernel
theorem dX5_best_91 : decode cX5_best 91 = .ok (.iload 7, 2) := by decide +kernel
theorem dX5_best_93 : decode cX5_best 93 = .ok (.iload 5, 2) := by decide +kernel
theorem dX5_best_95 : decode cX5_best 95 = .ok (.if_icmp .gt 51, 3) := by decide +kernel
theorem dX5_best_98 : decode cX5_best 98 = .ok (.iload 7, 2) := by decide +kernel
theorem dX5_best_100 : decode cX5_best 100 = .ok (.iload 5, 2) := by decide +kernel
theorem dX5_best_102 : decode cX5_best 102 = .ok (.if_icmp .ne 48, 3) := by decide +kernel
theorem dX5_best_105 : decode cX5_best 105 = .ok (.iload 6, 2) := by decide +kernel
theorem dX5_best_107 : decode cX5_best 107 = .ok (.invokestatic 106, 3) := by decide +kernel
theorem dX5_best_110 : decode cX5_best 110 = .ok (.iload 4, 2) := by decide +kernel
theorem dX5_best_112 : decode cX5_best 112 = .ok (.invokestatic 106, 3) := by decide +kernel
theorem dX5_best_115 : decode cX5_best 115 = .ok (.if_icmp .lt 31, 3) := by decide +kernel
theorem dX5_best_118 : decode cX5_best 118 = .ok (.iload 6, 2) := by decide +kernel
theorem dX5_best_120 : decode cX5_best 120 = .ok (.invokestatic 106, 3) := by decide +kernel
theorem dX5_best_123 : decode cX5_best 123 = .ok (.iload 4, 2) := by decide +kernel
theorem dX5_best_125 : decode cX5_best 125 = .ok (.invokestatic 106, 3) := by decide +kernel
theorem dX5_best_128 : decode cX5_best 128 = .ok (.if_icmp .ne 22, 3) := by decide +kernel
theorem dX5_best_131 : decode cX5_best 131 = .ok (.aload_n 0, 1) := by decide +kernel
theorem dX5_best_132 : decode cX5_best 132 = .ok (.iload 6, 2) := by decide +kernel
theorem dX5_best_134 : decode cX5_best 134 = .ok (.invokevirtual 103, 3) := by decide +kernel
theorem dX5_best_137 : decode cX5_best 137 = .ok (.aload_n 0, 1) := by decide +kernel
theorem dX5_best_138 : decode cX5_best 138 = .ok (.iload 4, 2) := by decide +kernel
theorem dX5_best_140 : decode cX5_best 140 = .ok (.invokevirtual 103, 3) := by decide +kernel
theorem dX5_best_143 : decode cX5_best 143 = .ok (.if_icmp .ge 7, 3) := by decide +kernel
theorem dX5_best_146 : decode cX5_best 146 = .ok (.iconst 1, 1) := by decide +kernel
theorem dX5_best_147 : decode cX5_best 147 = .ok (.goto 4, 3) := by decide +kernel
theorem dX5_best_150 : decode cX5_best 150 = .ok (.iconst 0, 1) := by decide +kernel
theorem dX5_best_151 : decode cX5_best 151 = .ok (.istore 8, 2) := by decide +kernel
theorem dX5_best_153 : decode cX5_best 153 = .ok (.iload 8, 2) := by decide +kernel
theorem dX5_best_155 : decode cX5_best 155 = .ok (.ifCond .ne 6, 3) := by decide +kernel
theorem dX5_best_158 : decode cX5_best 158 = .ok (.goto 11, 3) := by decide +kernel
theorem dX5_best_161 : decode cX5_best 161 = .ok (.iload 6, 2) := by decide +kernel
theorem dX5_best_163 : decode cX5_best 163 = .ok (.istore 4, 2) := by decide +kernel
theorem dX5_best_165 : decode cX5_best 165 = .ok (.iload 7, 2) := by decide +kernel
theorem dX5_best_167 : decode cX5_best 167 = .ok (.istore 5, 2) := by decide +kernel
theorem dX5_best_169 : decode cX5_best 169 = .ok (.iinc 6 1, 3) := by decide +kernel
theorem dX5_best_172 : decode cX5_best 172 = .ok (.goto (-131), 3) := by decide +kernel
theorem dX5_best_175 : decode cX5_best 175 = .ok (.iload_n 3, 1) := by decide +kernel
theorem dX5_best_176 : decode cX5_best 176 = .ok (.ifCond .ne 8, 3) := by decide +kernel
theorem dX5_best_179 : decode cX5_best 179 = .ok (.iload 5, 2) := by decide +kernel
theorem dX5_best_181 : decode cX5_best 181 = .ok (.goto 19, 3) := by decide +kernel
theorem dX5_best_184 : decode cX5_best 184 = .ok (.iload_n 3, 1) := by decide +kernel
theorem dX5_best_185 : decode cX5_best 185 = .ok (.iconst 1, 1) := by decide +kernel
theorem dX5_best_186 : decode cX5_best 186 = .ok (.if_icmp .ne 8, 3) := by decide +kernel
theorem dX5_best_189 : decode cX5_best 189 = .ok (.iload 4, 2) := by decide +kernel
theorem dX5_best_191 : decode cX5_best 191 = .ok (.goto 9, 3) := by decide +kernel
theorem dX5_best_194 : decode cX5_best 194 = .ok (.aload_n 0, 1) := by decide +kernel
theorem dX5_best_195 : decode cX5_best 195 = .ok (.iload 4, 2) := by decide +kernel
theorem dX5_best_197 : decode cX5_best 197 = .ok (.invokevirtual 103, 3) := by decide +kernel
theorem dX5_best_200 : decode cX5_best 200 = .ok (.ireturn, 1) := by decide +kernel
set_option maxRecDepth 20000 in
theorem ggX5_cover_X5_finds : GoodIn wsX5_cover wsX5_finds := goodIn_r _ [7, 2, 1, 8, 9, 10, 11, 6, 12, 13, 14, 15, 16, 17, 18, 43, 44, 45, 46, 47, 48, 49, 50, 51, 52, 53, 54, 55, 56, 57, 58, 59, 60, 61, 62, 63] (by decide +kernel) (by decide +kernel)
set_option maxRecDepth 20000 in
theorem gX5_cover_X5_finds : GoodIn wsX5_cover (wsV RX5 92 RX5 yX5_finds wsX5_finds) := goodIn_app (goodIn_of _ (by decide +kernel)) ggX5_cover_X5_finds
set_option maxRecDepth 20000 in
theorem ggX5_cover_X5_isFree : GoodIn wsX5_cover wsX5_isFree := goodIn_r _ [22, 1, 8, 23, 24, 25, 6, 26, 27, 28, 43, 44, 45, 46, 47, 48, 49, 50, 51, 52, 53, 54, 55, 56, 57, 58, 59, 60, 61, 62, 63] (by decide +kernel) (by decide +kernel)
set_option maxRecDepth 20000 in
theorem gX5_cover_X5_isFree : GoodIn wsX5_cover (wsV RX5 109 RX5 yX5_isFree wsX5_isFree) := goodIn_app (goodIn_of _ (by decide +kernel)) ggX5_cover_X5_isFree
set_option maxRecDepth 20000 in
theorem ggX5_cover_X5_touchedBy : GoodIn wsX5_cover wsX5_touchedBy := goodIn_r _ [32, 2, 18, 43, 44, 45, 46, 47, 48, 49, 50, 51, 52, 53, 54, 55, 56, 57, 58, 59, 60, 61, 62, 63] (by decide +kernel) (by decide +kernel)
set_option maxRecDepth 20000 in
theorem gX5_cover_X5_touchedBy : GoodIn wsX5_cover (wsV RX5 99 RX5 yX5_touchedBy wsX5_touchedBy) := goodIn_app (goodIn_of _ (by decide +kernel)) ggX5_cover_X5_touchedBy
set_option maxRecDepth 20000 in
theorem ggX5_cover_X5_bits : GoodIn wsX5_cover wsX5_bits := goodIn_r _ [35] (by decide +kernel) (by decide +kernel)
set_option maxRecDepth 20000 in
theorem gX5_cover_X5_bits : GoodIn wsX5_cover (va_wsS RX5 106 yX5_bits wsX5_bits) := goodIn_app (goodIn_of _ (by decide +kernel)) ggX5_cover_X5_bits
set_option maxRecDepth 20000 in
theorem ggX5_cover_X5_honestOf : GoodIn wsX5_cover wsX5_honestOf := goodIn_r _ [39, 40, 41, 42, 43, 44, 45, 46, 47, 48, 49, 50, 51, 52, 53, 54, 55, 56, 57, 58, 59, 60, 61, 62, 63] (by decide +kernel) (by decide +kernel)
set_option maxRecDepth 20000 in
theorem gX5_cover_X5_honestOf : GoodIn wsX5_cover (wsV RX5 103 RX5 yX5_honestOf wsX5_honestOf) := goodIn_app (goodIn_of _ (by decide +kernel)) ggX5_cover_X5_honestOf
theorem dX5_cover_0 : decode cX5_cover 0 = .ok (.aload_n 0, 1) := by decide +kernel
theorem dX5_cover_1 : decode cX5_cover 1 = .ok (.invokevirtual 92, 3) := by decide +kernel
theorem dX5_cover_4 : decode cX5_cover 4 = .ok (.ifCond .ne 5, 3) := by decide +kernel
theorem dX5_cover_7 : decode cX5_cover 7 = .ok (.iconst (-1), 1) := by decide +kernel
theorem dX5_cover_8 : decode cX5_cover 8 = .ok (.ireturn, 1) := by decide +kernel
theorem dX5_cover_9 : decode cX5_cover 9 = .ok (.iconst (-1), 1) := by decide +kernel
theorem dX5_cover_10 : decode cX5_cover 10 = .ok (.istore_n 1, 1) := by decide +kernel
theorem dX5_cover_11 : decode cX5_cover 11 = .ok (.iconst 0, 1) := by decide +kernel
theorem dX5_cover_12 : decode cX5_cover 12 = .ok (.istore_n 2, 1) := by decide +kernel
theorem dX5_cover_13 : decode cX5_cover 13 = .ok (.iload_n 2, 1) := by decide +kernel
theorem dX5_cover_14 : decode cX5_cover 14 = .ok (.iconst 1, 1) := by decide +kernel
theorem dX5_cover_15 : decode cX5_cover 15 = .ok (.aload_n 0, 1) := by decide +kernel
theorem dX5_cover_16 : decode cX5_cover 16 = .ok (.getfield 7, 3) := by decide +kernel
theorem dX5_cover_19 : decode cX5_cover 19 = .ok (.ishl, 1) := by decide +kernel
theorem dX5_cover_20 : decode cX5_cover 20 = .ok (.if_icmp .ge 74, 3) := by decide +kernel
theorem dX5_cover_23 : decode cX5_cover 23 = .ok (.aload_n 0, 1) := by decide +kernel
theorem dX5_cover_24 : decode cX5_cover 24 = .ok (.iload_n 2, 1) := by decide +kernel
theorem dX5_cover_25 : decode cX5_cover 25 = .ok (.invokevirtual 109, 3) := by decide +kernel
theorem dX5_cover_28 : decode cX5_cover 28 = .ok (.ifCond .eq 60, 3) := by decide +kernel
theorem dX5_cover_31 : decode cX5_cover 31 = .ok (.aload_n 0, 1) := by decide +kernel
theorem dX5_cover_32 : decode cX5_cover 32 = .ok (.iload_n 2, 1) := by decide +kernel
theorem dX5_cover_33 : decode cX5_cover 33 = .ok (.invokevirtual 99, 3) := by decide +kernel
theorem dX5_cover_36 : decode cX5_cover 36 = .ok (.aload_n 0, 1) := by decide +kernel
theorem dX5_cover_37 : decode cX5_cover 37 = .ok (.getfield 86, 3) := by decide +kernel
theorem dX5_cover_40 : decode cX5_cover 40 = .ok (.if_icmp .ge 6, 3) := by decide +kernel
theorem dX5_cover_43 : decode cX5_cover 43 = .ok (.goto 45, 3) := by decide +kernel
theorem dX5_cover_46 : decode cX5_cover 46 = .ok (.iload_n 1, 1) := by decide +kernel
theorem dX5_cover_47 : decode cX5_cover 47 = .ok (.iconst (-1), 1) := by decide +kernel
theorem dX5_cover_48 : decode cX5_cover 48 = .ok (.if_icmp .eq 38, 3) := by decide +kernel
theorem dX5_cover_51 : decode cX5_cover 51 = .ok (.iload_n 2, 1) := by decide +kernel
theorem dX5_cover_52 : decode cX5_cover 52 = .ok (.invokestatic 106, 3) := by decide +kernel
theorem dX5_cover_55 : decode cX5_cover 55 = .ok (.iload_n 1, 1) := by decide +kernel
theorem dX5_cover_56 : decode cX5_cover 56 = .ok (.invokestatic 106, 3) := by decide +kernel
theorem dX5_cover_59 : decode cX5_cover 59 = .ok (.if_icmp .lt 27, 3) := by decide +kernel
theorem dX5_cover_62 : decode cX5_cover 62 = .ok (.iload_n 2, 1) := by decide +kernel
theorem dX5_cover_63 : decode cX5_cover 63 = .ok (.invokestatic 106, 3) := by decide +kernel
theorem dX5_cover_66 : decode cX5_cover 66 = .ok (.iload_n 1, 1) := by decide +kernel
theorem dX5_cover_67 : decode cX5_cover 67 = .ok (.invokestatic 106, 3) := by decide +kernel
theorem dX5_cover_70 : decode cX5_cover 70 = .ok (.if_icmp .ne 18, 3) := by decide +kernel
theorem dX5_cover_73 : decode cX5_cover 73 = .ok (.aload_n 0, 1) := by decide +kernel
theorem dX5_cover_74 : decode cX5_cover 74 = .ok (.iload_n 2, 1) := by decide +kernel
theorem dX5_cover_75 : decode cX5_cover 75 = .ok (.invokevirtual 103, 3) := by decide +kernel
theorem dX5_cover_78 : decode cX5_cover 78 = .ok (.aload_n 0, 1) := by decide +kernel
theorem dX5_cover_79 : decode cX5_cover 79 = .ok (.iload_n 1, 1) := by decide +kernel
theorem dX5_cover_80 : decode cX5_cover 80 = .ok (.invokevirtual 103, 3) := by decide +kernel
theorem dX5_cover_83 : decode cX5_cover 83 = .ok (.if_icmp .ge 5, 3) := by decide +kernel
theorem dX5_cover_86 : decode cX5_cover 86 = .ok (.iload_n 2, 1) := by decide +kernel
theorem dX5_cover_87 : decode cX5_cover 87 = .ok (.istore_n 1, 1) := by decide +kernel
theorem dX5_cover_88 : decode cX5_cover 88 = .ok (.iinc 2 1, 3) := by decide +kernel
theorem dX5_cover_91 : decode cX5_cover 91 = .ok (.goto (-78), 3) := by decide +kernel
theorem dX5_cover_94 : decode cX5_cover 94 = .ok (.iload_n 1, 1) := by decide +kernel
theorem dX5_cover_95 : decode cX5_cover 95 = .ok (.ireturn, 1) := by decide +kernel
set_option maxRecDepth 20000 in
theorem ggX5_lay_X5_isSet : GoodIn wsX5_lay wsX5_isSet := goodIn_r _ [9, 1, 10, 11, 8, 12, 28, 29, 30, 31, 32, 33, 34, 35, 36, 37, 38, 39, 40, 41, 42, 43, 44, 45, 46, 47, 48] (by decide +kernel) (by decide +kernel)
set_option maxRecDepth 20000 in
theorem gX5_lay_X5_isSet : GoodIn wsX5_lay (wsV RX5 96 RX5 yX5_isSet wsX5_isSet) := goodIn_app (goodIn_of _ (by decide +kernel)) ggX5_lay_X5_isSet
set_option maxRecDepth 20000 in
theorem ggX5_lay_X5_isFree : GoodIn wsX5_lay wsX5_isFree := goodIn_r _ [16, 1, 17, 18, 19, 20, 8, 21, 22, 23, 28, 29, 30, 31, 32, 33, 34, 35, 36, 37, 38, 39, 40, 41, 42, 43, 44, 45, 46, 47, 48] (by decide +kernel) (by decide +kernel)
set_option maxRecDepth 20000 in
theorem gX5_lay_X5_isFree : GoodIn wsX5_lay (wsV RX5 109 RX5 yX5_isFree wsX5_isFree) := goodIn_app (goodIn_of _ (by decide +kernel)) ggX5_lay_X5_isFree
set_option maxRecDepth 20000 in
theorem ggX5_lay_X5_isDecoy : GoodIn wsX5_lay wsX5_isDecoy := goodIn_r _ [27, 3, 28, 29, 30, 31, 32, 33, 34, 35, 36, 37, 38, 39, 40, 41, 42, 43, 44, 45, 46, 47, 48] (by decide +kernel) (by decide +kernel)
set_option maxRecDepth 20000 in
theorem gX5_lay_X5_isDecoy : GoodIn wsX5_lay (wsV RX5 80 RX5 yX5_isDecoy wsX5_isDecoy) := goodIn_app (goodIn_of _ (by decide +kernel)) ggX5_lay_X5_isDecoy
theorem dX5_lay_0 : decode cX5_lay 0 = .ok (.aload_n 0, 1) := by decide +kernel
theorem dX5_lay_1 : decode cX5_lay 1 = .ok (.iload_n 1, 1) := by decide +kernel
theorem dX5_lay_2 : decode cX5_lay 2 = .ok (.invokevirtual 96, 3) := by decide +kernel
theorem dX5_lay_5 : decode cX5_lay 5 = .ok (.ifCond .eq 11, 3) := by decide +kernel
theorem dX5_lay_8 : decode cX5_lay 8 = .ok (.aload_n 0, 1) := by decide +kernel
theorem dX5_lay_9 : decode cX5_lay 9 = .ok (.iload_n 1, 1) := by decide +kernel
theorem dX5_lay_10 : decode cX5_lay 10 = .ok (.invokevirtual 109, 3) := by decide +kernel
theorem dX5_lay_13 : decode cX5_lay 13 = .ok (.ifCond .ne 5, 3) := by decide +kernel
theorem dX5_lay_16 : decode cX5_lay 16 = .ok (.iconst 0, 1) := by decide +kernel
theorem dX5_lay_17 : decode cX5_lay 17 = .ok (.ireturn, 1) := by decide +kernel
theorem dX5_lay_18 : decode cX5_lay 18 = .ok (.iconst 0, 1) := by decide +kernel
theorem dX5_lay_19 : decode cX5_lay 19 = .ok (.istore_n 2, 1) := by decide +kernel
theorem dX5_lay_20 : decode cX5_lay 20 = .ok (.iload_n 2, 1) := by decide +kernel
theorem dX5_lay_21 : decode cX5_lay 21 = .ok (.aload_n 0, 1) := by decide +kernel
theorem dX5_lay_22 : decode cX5_lay 22 = .ok (.getfield 7, 3) := by decide +kernel
theorem dX5_lay_25 : decode cX5_lay 25 = .ok (.if_icmp .ge 32, 3) := by decide +kernel
theorem dX5_lay_28 : decode cX5_lay 28 = .ok (.iload_n 1, 1) := by decide +kernel
theorem dX5_lay_29 : decode cX5_lay 29 = .ok (.iload_n 2, 1) := by decide +kernel
theorem dX5_lay_30 : decode cX5_lay 30 = .ok (.ishr, 1) := by decide +kernel
theorem dX5_lay_31 : decode cX5_lay 31 = .ok (.iconst 1, 1) := by decide +kernel
theorem dX5_lay_32 : decode cX5_lay 32 = .ok (.iand, 1) := by decide +kernel
theorem dX5_lay_33 : decode cX5_lay 33 = .ok (.ifCond .eq 11, 3) := by decide +kernel
theorem dX5_lay_36 : decode cX5_lay 36 = .ok (.aload_n 0, 1) := by decide +kernel
theorem dX5_lay_37 : decode cX5_lay 37 = .ok (.iload_n 2, 1) := by decide +kernel
theorem dX5_lay_38 : decode cX5_lay 38 = .ok (.invokevirtual 80, 3) := by decide +kernel
theorem dX5_lay_41 : decode cX5_lay 41 = .ok (.ifCond .ne 10, 3) := by decide +kernel
theorem dX5_lay_44 : decode cX5_lay 44 = .ok (.aload_n 0, 1) := by decide +kernel
theorem dX5_lay_45 : decode cX5_lay 45 = .ok (.getfield 30, 3) := by decide +kernel
theorem dX5_lay_48 : decode cX5_lay 48 = .ok (.iload_n 2, 1) := by decide +kernel
theorem dX5_lay_49 : decode cX5_lay 49 = .ok (.iconst 0, 1) := by decide +kernel
theorem dX5_lay_50 : decode cX5_lay 50 = .ok (.iastore, 1) := by decide +kernel
theorem dX5_lay_51 : decode cX5_lay 51 = .ok (.iinc 2 1, 3) := by decide +kernel
theorem dX5_lay_54 : decode cX5_lay 54 = .ok (.goto (-34), 3) := by decide +kernel
theorem dX5_lay_57 : decode cX5_lay 57 = .ok (.aload_n 0, 1) := by decide +kernel
theorem dX5_lay_58 : decode cX5_lay 58 = .ok (.iload_n 1, 1) := by decide +kernel
theorem dX5_lay_59 : decode cX5_lay 59 = .ok (.putfield 70, 3) := by decide +kernel
theorem dX5_lay_62 : decode cX5_lay 62 = .ok (.aload_n 0, 1) := by decide +kernel
theorem dX5_lay_63 : decode cX5_lay 63 = .ok (.iconst 0, 1) := by decide +kernel
theorem dX5_lay_64 : decode cX5_lay 64 = .ok (.putfield 73, 3) := by decide +kernel
theorem dX5_lay_67 : decode cX5_lay 67 = .ok (.iconst 1, 1) := by decide +kernel
theorem dX5_lay_68 : decode cX5_lay 68 = .ok (.ireturn, 1) := by decide +kernel
set_option maxRecDepth 20000 in
theorem ggX5_unlike_X5_isPlace : GoodIn wsX5_unlike wsX5_isPlace := goodIn_r _ [8, 1, 9, 10, 7, 11, 20, 21, 22, 23, 24, 25, 26, 27, 28, 29, 30, 31, 32, 33, 34, 35, 36, 37, 38, 39, 40] (by decide +kernel) (by decide +kernel)
set_option maxRecDepth 20000 in
theorem gX5_unlike_X5_isPlace : GoodIn wsX5_unlike (wsV RX5 76 RX5 yX5_isPlace wsX5_isPlace) := goodIn_app (goodIn_of _ (by decide +kernel)) ggX5_unlike_X5_isPlace
set_option maxRecDepth 20000 in
theorem ggX5_unlike_X5_isDecoy : GoodIn wsX5_unlike wsX5_isDecoy := goodIn_r _ [15, 16, 20, 21, 22, 23, 24, 25, 26, 27, 28, 29, 30, 31, 32, 33, 34, 35, 36, 37, 38, 39, 40] (by decide +kernel) (by decide +kernel)
set_option maxRecDepth 20000 in
theorem gX5_unlike_X5_isDecoy : GoodIn wsX5_unlike (wsV RX5 80 RX5 yX5_isDecoy wsX5_isDecoy) := goodIn_app (goodIn_of _ (by decide +kernel)) ggX5_unlike_X5_isDecoy
set_option maxRecDepth 20000 in
theorem ggX5_unlike_X5_bits : GoodIn wsX5_unlike wsX5_bits := goodIn_r _ [19] (by decide +kernel) (by decide +kernel)
set_option maxRecDepth 20000 in
theorem gX5_unlike_X5_bits : GoodIn wsX5_unlike (va_wsS RX5 106 yX5_bits wsX5_bits) := goodIn_app (goodIn_of _ (by decide +kernel)) ggX5_unlike_X5_bits
theorem dX5_unlike_0 : decode cX5_unlike 0 = .ok (.aload_n 0, 1) := by decide +kernel
theorem dX5_unlike_1 : decode cX5_unlike 1 = .ok (.iload_n 1, 1) := by decide +kernel
theorem dX5_unlike_2 : decode cX5_unlike 2 = .ok (.invokevirtual 76, 3) := by decide +kernel
theorem dX5_unlike_5 : decode cX5_unlike 5 = .ok (.ifCond .eq 11, 3) := by decide +kernel
theorem dX5_unlike_8 : decode cX5_unlike 8 = .ok (.aload_n 0, 1) := by decide +kernel
theorem dX5_unlike_9 : decode cX5_unlike 9 = .ok (.iload_n 1, 1) := by decide +kernel
theorem dX5_unlike_10 : decode cX5_unlike 10 = .ok (.invokevirtual 80, 3) := by decide +kernel
theorem dX5_unlike_13 : decode cX5_unlike 13 = .ok (.ifCond .ne 5, 3) := by decide +kernel
theorem dX5_unlike_16 : decode cX5_unlike 16 = .ok (.iconst (-1), 1) := by decide +kernel
theorem dX5_unlike_17 : decode cX5_unlike 17 = .ok (.ireturn, 1) := by decide +kernel
theorem dX5_unlike_18 : decode cX5_unlike 18 = .ok (.iconst (-1), 1) := by decide +kernel
theorem dX5_unlike_19 : decode cX5_unlike 19 = .ok (.istore_n 2, 1) := by decide +kernel
theorem dX5_unlike_20 : decode cX5_unlike 20 = .ok (.iconst 0, 1) := by decide +kernel
theorem dX5_unlike_21 : decode cX5_unlike 21 = .ok (.istore_n 3, 1) := by decide +kernel
theorem dX5_unlike_22 : decode cX5_unlike 22 = .ok (.iload_n 3, 1) := by decide +kernel
theorem dX5_unlike_23 : decode cX5_unlike 23 = .ok (.aload_n 0, 1) := by decide +kernel
theorem dX5_unlike_24 : decode cX5_unlike 24 = .ok (.getfield 7, 3) := by decide +kernel
theorem dX5_unlike_27 : decode cX5_unlike 27 = .ok (.if_icmp .ge 61, 3) := by decide +kernel
theorem dX5_unlike_30 : decode cX5_unlike 30 = .ok (.aload_n 0, 1) := by decide +kernel
theorem dX5_unlike_31 : decode cX5_unlike 31 = .ok (.iload_n 3, 1) := by decide +kernel
theorem dX5_unlike_32 : decode cX5_unlike 32 = .ok (.invokevirtual 80, 3) := by decide +kernel
theorem dX5_unlike_35 : decode cX5_unlike 35 = .ok (.ifCond .eq 6, 3) := by decide +kernel
theorem dX5_unlike_38 : decode cX5_unlike 38 = .ok (.goto 44, 3) := by decide +kernel
theorem dX5_unlike_41 : decode cX5_unlike 41 = .ok (.aload_n 0, 1) := by decide +kernel
theorem dX5_unlike_42 : decode cX5_unlike 42 = .ok (.getfield 27, 3) := by decide +kernel
theorem dX5_unlike_45 : decode cX5_unlike 45 = .ok (.iload_n 1, 1) := by decide +kernel
theorem dX5_unlike_46 : decode cX5_unlike 46 = .ok (.iaload, 1) := by decide +kernel
theorem dX5_unlike_47 : decode cX5_unlike 47 = .ok (.aload_n 0, 1) := by decide +kernel
theorem dX5_unlike_48 : decode cX5_unlike 48 = .ok (.getfield 27, 3) := by decide +kernel
theorem dX5_unlike_51 : decode cX5_unlike 51 = .ok (.iload_n 3, 1) := by decide +kernel
theorem dX5_unlike_52 : decode cX5_unlike 52 = .ok (.iaload, 1) := by decide +kernel
theorem dX5_unlike_53 : decode cX5_unlike 53 = .ok (.ixor, 1) := by decide +kernel
theorem dX5_unlike_54 : decode cX5_unlike 54 = .ok (.aload_n 0, 1) := by decide +kernel
theorem dX5_unlike_55 : decode cX5_unlike 55 = .ok (.getfield 13, 3) := by decide +kernel
theorem dX5_unlike_58 : decode cX5_unlike 58 = .ok (.iand, 1) := by decide +kernel
theorem dX5_unlike_59 : decode cX5_unlike 59 = .ok (.invokestatic 106, 3) := by decide +kernel
theorem dX5_unlike_62 : decode cX5_unlike 62 = .ok (.istore 4, 2) := by decide +kernel
theorem dX5_unlike_64 : decode cX5_unlike 64 = .ok (.iload_n 2, 1) := by decide +kernel
theorem dX5_unlike_65 : decode cX5_unlike 65 = .ok (.iconst (-1), 1) := by decide +kernel
theorem dX5_unlike_66 : decode cX5_unlike 66 = .ok (.if_icmp .eq 9, 3) := by decide +kernel
theorem dX5_unlike_69 : decode cX5_unlike 69 = .ok (.iload 4, 2) := by decide +kernel
theorem dX5_unlike_71 : decode cX5_unlike 71 = .ok (.iload_n 2, 1) := by decide +kernel
theorem dX5_unlike_72 : decode cX5_unlike 72 = .ok (.if_icmp .ge 8, 3) := by decide +kernel
theorem dX5_unlike_75 : decode cX5_unlike 75 = .ok (.iload 4, 2) := by decide +kernel
theorem dX5_unlike_77 : decode cX5_unlike 77 = .ok (.goto 4, 3) := by decide +kernel
theorem dX5_unlike_80 : decode cX5_unlike 80 = .ok (.iload_n 2, 1) := by decide +kernel
theorem dX5_unlike_81 : decode cX5_unlike 81 = .ok (.istore_n 2, 1) := by decide +kernel
theorem dX5_unlike_82 : decode cX5_unlike 82 = .ok (.iinc 3 1, 3) := by decide +kernel
theorem dX5_unlike_85 : decode cX5_unlike 85 = .ok (.goto (-63), 3) := by decide +kernel
theorem dX5_unlike_88 : decode cX5_unlike 88 = .ok (.iload_n 2, 1) := by decide +kernel
theorem dX5_unlike_89 : decode cX5_unlike 89 = .ok (.ireturn, 1) := by decide +kernel
set_option maxRecDepth 20000 in
theorem ggX5_touch_X5_isPlace : GoodIn wsX5_touch wsX5_isPlace := goodIn_r _ [7, 8, 9, 10, 6, 11, 17, 18, 19, 20, 21, 22, 23, 24, 25, 26, 27, 28, 29, 30, 31, 32, 33, 34, 35, 36, 37] (by decide +kernel) (by decide +kernel)
set_option maxRecDepth 20000 in
theorem gX5_touch_X5_isPlace : GoodIn wsX5_touch (wsV RX5 76 RX5 yX5_isPlace wsX5_isPlace) := goodIn_app (goodIn_of _ (by decide +kernel)) ggX5_touch_X5_isPlace
set_option maxRecDepth 20000 in
theorem ggX5_touch_X5_isDecoy : GoodIn wsX5_touch wsX5_isDecoy := goodIn_r _ [15, 16, 17, 18, 19, 20, 21, 22, 23, 24, 25, 26, 27, 28, 29, 30, 31, 32, 33, 34, 35, 36, 37] (by decide +kernel) (by decide +kernel)
set_option maxRecDepth 20000 in
theorem gX5_touch_X5_isDecoy : GoodIn wsX5_touch (wsV RX5 80 RX5 yX5_isDecoy wsX5_isDecoy) := goodIn_app (goodIn_of _ (by decide +kernel)) ggX5_touch_X5_isDecoy
theorem dX5_touch_0 : decode cX5_touch 0 = .ok (.aload_n 0, 1) := by decide +kernel
theorem dX5_touch_1 : decode cX5_touch 1 = .ok (.iload_n 1, 1) := by decide +kernel
theorem dX5_touch_2 : decode cX5_touch 2 = .ok (.invokevirtual 76, 3) := by decide +kernel
theorem dX5_touch_5 : decode cX5_touch 5 = .ok (.ifCond .eq 20, 3) := by decide +kernel
theorem dX5_touch_8 : decode cX5_touch 8 = .ok (.aload_n 0, 1) := by decide +kernel
theorem dX5_touch_9 : decode cX5_touch 9 = .ok (.iload_n 1, 1) := by decide +kernel
theorem dX5_touch_10 : decode cX5_touch 10 = .ok (.invokevirtual 80, 3) := by decide +kernel
theorem dX5_touch_13 : decode cX5_touch 13 = .ok (.ifCond .eq 12, 3) := by decide +kernel
theorem dX5_touch_16 : decode cX5_touch 16 = .ok (.aload_n 0, 1) := by decide +kernel
theorem dX5_touch_17 : decode cX5_touch 17 = .ok (.getfield 73, 3) := by decide +kernel
theorem dX5_touch_20 : decode cX5_touch 20 = .ok (.bipush 6, 2) := by decide +kernel
theorem dX5_touch_22 : decode cX5_touch 22 = .ok (.if_icmp .ne 5, 3) := by decide +kernel
theorem dX5_touch_25 : decode cX5_touch 25 = .ok (.iconst 0, 1) := by decide +kernel
theorem dX5_touch_26 : decode cX5_touch 26 = .ok (.ireturn, 1) := by decide +kernel
theorem dX5_touch_27 : decode cX5_touch 27 = .ok (.iconst 0, 1) := by decide +kernel
theorem dX5_touch_28 : decode cX5_touch 28 = .ok (.istore_n 2, 1) := by decide +kernel
theorem dX5_touch_29 : decode cX5_touch 29 = .ok (.iload_n 2, 1) := by decide +kernel
theorem dX5_touch_30 : decode cX5_touch 30 = .ok (.aload_n 0, 1) := by decide +kernel
theorem dX5_touch_31 : decode cX5_touch 31 = .ok (.getfield 73, 3) := by decide +kernel
theorem dX5_touch_34 : decode cX5_touch 34 = .ok (.if_icmp .ge 21, 3) := by decide +kernel
theorem dX5_touch_37 : decode cX5_touch 37 = .ok (.aload_n 0, 1) := by decide +kernel
theorem dX5_touch_38 : decode cX5_touch 38 = .ok (.getfield 45, 3) := by decide +kernel
theorem dX5_touch_41 : decode cX5_touch 41 = .ok (.iload_n 2, 1) := by decide +kernel
theorem dX5_touch_42 : decode cX5_touch 42 = .ok (.iaload, 1) := by decide +kernel
theorem dX5_touch_43 : decode cX5_touch 43 = .ok (.iload_n 1, 1) := by decide +kernel
theorem dX5_touch_44 : decode cX5_touch 44 = .ok (.if_icmp .ne 5, 3) := by decide +kernel
theorem dX5_touch_47 : decode cX5_touch 47 = .ok (.iconst 0, 1) := by decide +kernel
theorem dX5_touch_48 : decode cX5_touch 48 = .ok (.ireturn, 1) := by decide +kernel
theorem dX5_touch_49 : decode cX5_touch 49 = .ok (.iinc 2 1, 3) := by decide +kernel
theorem dX5_touch_52 : decode cX5_touch 52 = .ok (.goto (-23), 3) := by decide +kernel
theorem dX5_touch_55 : decode cX5_touch 55 = .ok (.aload_n 0, 1) := by decide +kernel
theorem dX5_touch_56 : decode cX5_touch 56 = .ok (.getfield 45, 3) := by decide +kernel
theorem dX5_touch_59 : decode cX5_touch 59 = .ok (.aload_n 0, 1) := by decide +kernel
theorem dX5_touch_60 : decode cX5_touch 60 = .ok (.getfield 73, 3) := by decide +kernel
theorem dX5_touch_63 : decode cX5_touch 63 = .ok (.iload_n 1, 1) := by decide +kernel
theorem dX5_touch_64 : decode cX5_touch 64 = .ok (.iastore, 1) := by decide +kernel
theorem dX5_touch_65 : decode cX5_touch 65 = .ok (.aload_n 0, 1) := by decide +kernel
theorem dX5_touch_66 : decode cX5_touch 66 = .ok (.dup, 1) := by decide +kernel
theorem dX5_touch_67 : decode cX5_touch 67 = .ok (.getfield 73, 3) := by decide +kernel
theorem dX5_touch_70 : decode cX5_touch 70 = .ok (.iconst 1, 1) := by decide +kernel
theorem dX5_touch_71 : decode cX5_touch 71 = .ok (.iadd, 1) := by decide +kernel
theorem dX5_touch_72 : decode cX5_touch 72 = .ok (.putfield 73, 3) := by decide +kernel
theorem dX5_touch_75 : decode cX5_touch 75 = .ok (.iconst 1, 1) := by decide +kernel
theorem dX5_touch_76 : decode cX5_touch 76 = .ok (.ireturn, 1) := by decide +kernel
set_option maxRecDepth 20000 in
theorem ggX5_leftTo_X5_isDecoy : GoodIn wsX5_leftTo wsX5_isDecoy := goodIn_r _ [9, 10, 11, 12, 13, 14, 15, 16, 17, 18, 19, 20, 21, 22, 23, 24, 25, 26, 27, 28, 29, 30, 31] (by decide +kernel) (by decide +kernel)
set_option maxRecDepth 20000 in
theorem gX5_leftTo_X5_isDecoy : GoodIn wsX5_leftTo (wsV RX5 80 RX5 yX5_isDecoy wsX5_isDecoy) := goodIn_app (goodIn_of _ (by decide +kernel)) ggX5_leftTo_X5_isDecoy
theorem dX5_leftTo_0 : decode cX5_leftTo 0 = .ok (.iconst 0, 1) := by decide +kernel
theorem dX5_leftTo_1 : decode cX5_leftTo 1 = .ok (.istore_n 2, 1) := by decide +kernel
theorem dX5_leftTo_2 : decode cX5_leftTo 2 = .ok (.iconst 0, 1) := by decide +kernel
theorem dX5_leftTo_3 : decode cX5_leftTo 3 = .ok (.istore_n 3, 1) := by decide +kernel
theorem dX5_leftTo_4 : decode cX5_leftTo 4 = .ok (.iload_n 3, 1) := by decide +kernel
theorem dX5_leftTo_5 : decode cX5_leftTo 5 = .ok (.aload_n 0, 1) := by decide +kernel
theorem dX5_leftTo_6 : decode cX5_leftTo 6 = .ok (.getfield 51, 3) := by decide +kernel
theorem dX5_leftTo_9 : decode cX5_leftTo 9 = .ok (.iload_n 1, 1) := by decide +kernel
theorem dX5_leftTo_10 : decode cX5_leftTo 10 = .ok (.iaload, 1) := by decide +kernel
theorem dX5_leftTo_11 : decode cX5_leftTo 11 = .ok (.if_icmp .ge 60, 3) := by decide +kernel
theorem dX5_leftTo_14 : decode cX5_leftTo 14 = .ok (.iload_n 2, 1) := by decide +kernel
theorem dX5_leftTo_15 : decode cX5_leftTo 15 = .ok (.aload_n 0, 1) := by decide +kernel
theorem dX5_leftTo_16 : decode cX5_leftTo 16 = .ok (.getfield 73, 3) := by decide +kernel
theorem dX5_leftTo_19 : decode cX5_leftTo 19 = .ok (.if_icmp .ne 5, 3) := by decide +kernel
theorem dX5_leftTo_22 : decode cX5_leftTo 22 = .ok (.iload_n 3, 1) := by decide +kernel
theorem dX5_leftTo_23 : decode cX5_leftTo 23 = .ok (.ireturn, 1) := by decide +kernel
theorem dX5_leftTo_24 : decode cX5_leftTo 24 = .ok (.aload_n 0, 1) := by decide +kernel
theorem dX5_leftTo_25 : decode cX5_leftTo 25 = .ok (.getfield 48, 3) := by decide +kernel
theorem dX5_leftTo_28 : decode cX5_leftTo 28 = .ok (.bipush 6, 2) := by decide +kernel
theorem dX5_leftTo_30 : decode cX5_leftTo 30 = .ok (.iload_n 1, 1) := by decide +kernel
theorem dX5_leftTo_31 : decode cX5_leftTo 31 = .ok (.imul, 1) := by decide +kernel
theorem dX5_leftTo_32 : decode cX5_leftTo 32 = .ok (.iload_n 3, 1) := by decide +kernel
theorem dX5_leftTo_33 : decode cX5_leftTo 33 = .ok (.iadd, 1) := by decide +kernel
theorem dX5_leftTo_34 : decode cX5_leftTo 34 = .ok (.iaload, 1) := by decide +kernel
theorem dX5_leftTo_35 : decode cX5_leftTo 35 = .ok (.istore 4, 2) := by decide +kernel
theorem dX5_leftTo_37 : decode cX5_leftTo 37 = .ok (.aload_n 0, 1) := by decide +kernel
theorem dX5_leftTo_38 : decode cX5_leftTo 38 = .ok (.iload 4, 2) := by decide +kernel
theorem dX5_leftTo_40 : decode cX5_leftTo 40 = .ok (.invokevirtual 80, 3) := by decide +kernel
theorem dX5_leftTo_43 : decode cX5_leftTo 43 = .ok (.ifCond .ne 6, 3) := by decide +kernel
theorem dX5_leftTo_46 : decode cX5_leftTo 46 = .ok (.goto 19, 3) := by decide +kernel
theorem dX5_leftTo_49 : decode cX5_leftTo 49 = .ok (.aload_n 0, 1) := by decide +kernel
theorem dX5_leftTo_50 : decode cX5_leftTo 50 = .ok (.getfield 45, 3) := by decide +kernel
theorem dX5_leftTo_53 : decode cX5_leftTo 53 = .ok (.iload_n 2, 1) := by decide +kernel
theorem dX5_leftTo_54 : decode cX5_leftTo 54 = .ok (.iaload, 1) := by decide +kernel
theorem dX5_leftTo_55 : decode cX5_leftTo 55 = .ok (.iload 4, 2) := by decide +kernel
theorem dX5_leftTo_57 : decode cX5_leftTo 57 = .ok (.if_icmp .eq 5, 3) := by decide +kernel
theorem dX5_leftTo_60 : decode cX5_leftTo 60 = .ok (.iconst (-1), 1) := by decide +kernel
theorem dX5_leftTo_61 : decode cX5_leftTo 61 = .ok (.ireturn, 1) := by decide +kernel
theorem dX5_leftTo_62 : decode cX5_leftTo 62 = .ok (.iinc 2 1, 3) := by decide +kernel
theorem dX5_leftTo_65 : decode cX5_leftTo 65 = .ok (.iinc 3 1, 3) := by decide +kernel
theorem dX5_leftTo_68 : decode cX5_leftTo 68 = .ok (.goto (-64), 3) := by decide +kernel
theorem dX5_leftTo_71 : decode cX5_leftTo 71 = .ok (.iload_n 2, 1) := by decide +kernel
theorem dX5_leftTo_72 : decode cX5_leftTo 72 = .ok (.aload_n 0, 1) := by decide +kernel
theorem dX5_leftTo_73 : decode cX5_leftTo 73 = .ok (.getfield 73, 3) := by decide +kernel
theorem dX5_leftTo_76 : decode cX5_leftTo 76 = .ok (.if_icmp .ne 12, 3) := by decide +kernel
theorem dX5_leftTo_79 : decode cX5_leftTo 79 = .ok (.aload_n 0, 1) := by decide +kernel
theorem dX5_leftTo_80 : decode cX5_leftTo 80 = .ok (.getfield 51, 3) := by decide +kernel
theorem dX5_leftTo_83 : decode cX5_leftTo 83 = .ok (.iload_n 1, 1) := by decide +kernel
theorem dX5_leftTo_84 : decode cX5_leftTo 84 = .ok (.iaload, 1) := by decide +kernel
theorem dX5_leftTo_85 : decode cX5_leftTo 85 = .ok (.goto 4, 3) := by decide +kernel
theorem dX5_leftTo_88 : decode cX5_leftTo 88 = .ok (.iconst (-1), 1) := by decide +kernel
theorem dX5_leftTo_89 : decode cX5_leftTo 89 = .ok (.ireturn, 1) := by decide +kernel
set_option maxRecDepth 20000 in
theorem ggX5_left_X5_finds : GoodIn wsX5_left wsX5_finds := goodIn_r _ [6, 1, 7, 8, 9, 10, 11, 5, 12, 13, 14, 15, 16, 17, 18, 30, 31, 32, 33, 34, 35, 36, 37, 38, 39, 40, 41, 42, 43, 44, 45, 46, 47, 48, 49, 50] (by decide +kernel) (by decide +kernel)
set_option maxRecDepth 20000 in
theorem gX5_left_X5_finds : GoodIn wsX5_left (wsV RX5 92 RX5 yX5_finds wsX5_finds) := goodIn_app (goodIn_of _ (by decide +kernel)) ggX5_left_X5_finds
set_option maxRecDepth 20000 in
theorem ggX5_left_X5_leftTo : GoodIn wsX5_left wsX5_leftTo := goodIn_r _ [22, 17, 23, 16, 24, 25, 26, 27, 5, 28, 29, 30, 31, 32, 33, 34, 35, 36, 37, 38, 39, 40, 41, 42, 43, 44, 45, 46, 47, 48, 49, 50] (by decide +kernel) (by decide +kernel)
set_option maxRecDepth 20000 in
theorem gX5_left_X5_leftTo : GoodIn wsX5_left (wsV RX5 112 RX5 yX5_leftTo wsX5_leftTo) := goodIn_app (goodIn_of _ (by decide +kernel)) ggX5_left_X5_leftTo
theorem dX5_left_0 : decode cX5_left 0 = .ok (.aload_n 0, 1) := by decide +kernel
theorem dX5_left_1 : decode cX5_left 1 = .ok (.invokevirtual 92, 3) := by decide +kernel
theorem dX5_left_4 : decode cX5_left 4 = .ok (.ifCond .ne 5, 3) := by decide +kernel
theorem dX5_left_7 : decode cX5_left 7 = .ok (.iconst (-1), 1) := by decide +kernel
theorem dX5_left_8 : decode cX5_left 8 = .ok (.ireturn, 1) := by decide +kernel
theorem dX5_left_9 : decode cX5_left 9 = .ok (.iconst 0, 1) := by decide +kernel
theorem dX5_left_10 : decode cX5_left 10 = .ok (.istore_n 1, 1) := by decide +kernel
theorem dX5_left_11 : decode cX5_left 11 = .ok (.iconst 0, 1) := by decide +kernel
theorem dX5_left_12 : decode cX5_left 12 = .ok (.istore_n 2, 1) := by decide +kernel
theorem dX5_left_13 : decode cX5_left 13 = .ok (.iload_n 2, 1) := by decide +kernel
theorem dX5_left_14 : decode cX5_left 14 = .ok (.aload_n 0, 1) := by decide +kernel
theorem dX5_left_15 : decode cX5_left 15 = .ok (.getfield 86, 3) := by decide +kernel
theorem dX5_left_18 : decode cX5_left 18 = .ok (.if_icmp .ge 26, 3) := by decide +kernel
theorem dX5_left_21 : decode cX5_left 21 = .ok (.iload_n 1, 1) := by decide +kernel
theorem dX5_left_22 : decode cX5_left 22 = .ok (.aload_n 0, 1) := by decide +kernel
theorem dX5_left_23 : decode cX5_left 23 = .ok (.iload_n 2, 1) := by decide +kernel
theorem dX5_left_24 : decode cX5_left 24 = .ok (.invokevirtual 112, 3) := by decide +kernel
theorem dX5_left_27 : decode cX5_left 27 = .ok (.iconst (-1), 1) := by decide +kernel
theorem dX5_left_28 : decode cX5_left 28 = .ok (.if_icmp .eq 7, 3) := by decide +kernel
theorem dX5_left_31 : decode cX5_left 31 = .ok (.iconst 1, 1) := by decide +kernel
theorem dX5_left_32 : decode cX5_left 32 = .ok (.goto 4, 3) := by decide +kernel
theorem dX5_left_35 : decode cX5_left 35 = .ok (.iconst 0, 1) := by decide +kernel
theorem dX5_left_36 : decode cX5_left 36 = .ok (.iadd, 1) := by decide +kernel
theorem dX5_left_37 : decode cX5_left 37 = .ok (.istore_n 1, 1) := by decide +kernel
theorem dX5_left_38 : decode cX5_left 38 = .ok (.iinc 2 1, 3) := by decide +kernel
theorem dX5_left_41 : decode cX5_left 41 = .ok (.goto (-28), 3) := by decide +kernel
theorem dX5_left_44 : decode cX5_left 44 = .ok (.iload_n 1, 1) := by decide +kernel
theorem dX5_left_45 : decode cX5_left 45 = .ok (.ireturn, 1) := by decide +kernel
set_option maxRecDepth 20000 in
theorem ggX5_leftWay_X5_finds : GoodIn wsX5_leftWay wsX5_finds := goodIn_r _ [6, 1, 7, 8, 9, 10, 11, 5, 12, 13, 14, 15, 16, 17, 18, 30, 31, 32, 33, 34, 35, 36, 37, 38, 39, 40, 41, 42, 43, 44, 45, 46, 47, 48, 49, 50] (by decide +kernel) (by decide +kernel)
set_option maxRecDepth 20000 in
theorem gX5_leftWay_X5_finds : GoodIn wsX5_leftWay (wsV RX5 92 RX5 yX5_finds wsX5_finds) := goodIn_app (goodIn_of _ (by decide +kernel)) ggX5_leftWay_X5_finds
set_option maxRecDepth 20000 in
theorem ggX5_leftWay_X5_leftTo : GoodIn wsX5_leftWay wsX5_leftTo := goodIn_r _ [22, 17, 23, 16, 24, 25, 26, 27, 5, 28, 29, 30, 31, 32, 33, 34, 35, 36, 37, 38, 39, 40, 41, 42, 43, 44, 45, 46, 47, 48, 49, 50] (by decide +kernel) (by decide +kernel)
set_option maxRecDepth 20000 in
theorem gX5_leftWay_X5_leftTo : GoodIn wsX5_leftWay (wsV RX5 112 RX5 yX5_leftTo wsX5_leftTo) := goodIn_app (goodIn_of _ (by decide +kernel)) ggX5_leftWay_X5_leftTo
theorem dX5_leftWay_0 : decode cX5_leftWay 0 = .ok (.aload_n 0, 1) := by decide +kernel
theorem dX5_leftWay_1 : decode cX5_leftWay 1 = .ok (.invokevirtual 92, 3) := by decide +kernel
theorem dX5_leftWay_4 : decode cX5_leftWay 4 = .ok (.ifCond .ne 5, 3) := by decide +kernel
theorem dX5_leftWay_7 : decode cX5_leftWay 7 = .ok (.iconst (-1), 1) := by decide +kernel
theorem dX5_leftWay_8 : decode cX5_leftWay 8 = .ok (.ireturn, 1) := by decide +kernel
theorem dX5_leftWay_9 : decode cX5_leftWay 9 = .ok (.iconst 0, 1) := by decide +kernel
theorem dX5_leftWay_10 : decode cX5_leftWay 10 = .ok (.istore_n 2, 1) := by decide +kernel
theorem dX5_leftWay_11 : decode cX5_leftWay 11 = .ok (.iconst 0, 1) := by decide +kernel
theorem dX5_leftWay_12 : decode cX5_leftWay 12 = .ok (.istore_n 3, 1) := by decide +kernel
theorem dX5_leftWay_13 : decode cX5_leftWay 13 = .ok (.iload_n 3, 1) := by decide +kernel
theorem dX5_leftWay_14 : decode cX5_leftWay 14 = .ok (.aload_n 0, 1) := by decide +kernel
theorem dX5_leftWay_15 : decode cX5_leftWay 15 = .ok (.getfield 86, 3) := by decide +kernel
theorem dX5_leftWay_18 : decode cX5_leftWay 18 = .ok (.if_icmp .ge 31, 3) := by decide +kernel
theorem dX5_leftWay_21 : decode cX5_leftWay 21 = .ok (.aload_n 0, 1) := by decide +kernel
theorem dX5_leftWay_22 : decode cX5_leftWay 22 = .ok (.iload_n 3, 1) := by decide +kernel
theorem dX5_leftWay_23 : decode cX5_leftWay 23 = .ok (.invokevirtual 112, 3) := by decide +kernel
theorem dX5_leftWay_26 : decode cX5_leftWay 26 = .ok (.iconst (-1), 1) := by decide +kernel
theorem dX5_leftWay_27 : decode cX5_leftWay 27 = .ok (.if_icmp .ne 6, 3) := by decide +kernel
theorem dX5_leftWay_30 : decode cX5_leftWay 30 = .ok (.goto 13, 3) := by decide +kernel
theorem dX5_leftWay_33 : decode cX5_leftWay 33 = .ok (.iload_n 2, 1) := by decide +kernel
theorem dX5_leftWay_34 : decode cX5_leftWay 34 = .ok (.iload_n 1, 1) := by decide +kernel
theorem dX5_leftWay_35 : decode cX5_leftWay 35 = .ok (.if_icmp .ne 5, 3) := by decide +kernel
theorem dX5_leftWay_38 : decode cX5_leftWay 38 = .ok (.iload_n 3, 1) := by decide +kernel
theorem dX5_leftWay_39 : decode cX5_leftWay 39 = .ok (.ireturn, 1) := by decide +kernel
theorem dX5_leftWay_40 : decode cX5_leftWay 40 = .ok (.iinc 2 1, 3) := by decide +kernel
theorem dX5_leftWay_43 : decode cX5_leftWay 43 = .ok (.iinc 3 1, 3) := by decide +kernel
theorem dX5_leftWay_46 : decode cX5_leftWay 46 = .ok (.goto (-33), 3) := by decide +kernel
theorem dX5_leftWay_49 : decode cX5_leftWay 49 = .ok (.iconst (-1), 1) := by decide +kernel
theorem dX5_leftWay_50 : decode cX5_leftWay 50 = .ok (.ireturn, 1) := by decide +kernel
set_option maxRecDepth 20000 in
theorem ggX5_next_X5_finds : GoodIn wsX5_next wsX5_finds := goodIn_r _ [8, 1, 9, 10, 11, 12, 13, 7, 14, 15, 16, 17, 3, 2, 18, 30, 31, 32, 33, 34, 35, 36, 37, 38, 39, 40, 41, 42, 43, 44, 45, 46, 47, 48, 49, 50] (by decide +kernel) (by decide +kernel)
set_option maxRecDepth 20000 in
theorem gX5_next_X5_finds : GoodIn wsX5_next (wsV RX5 92 RX5 yX5_finds wsX5_finds) := goodIn_app (goodIn_of _ (by decide +kernel)) ggX5_next_X5_finds
set_option maxRecDepth 20000 in
theorem ggX5_next_X5_leftTo : GoodIn wsX5_next wsX5_leftTo := goodIn_r _ [22, 2, 23, 3, 24, 25, 26, 27, 7, 28, 29, 30, 31, 32, 33, 34, 35, 36, 37, 38, 39, 40, 41, 42, 43, 44, 45, 46, 47, 48, 49, 50] (by decide +kernel) (by decide +kernel)
set_option maxRecDepth 20000 in
theorem gX5_next_X5_leftTo : GoodIn wsX5_next (wsV RX5 112 RX5 yX5_leftTo wsX5_leftTo) := goodIn_app (goodIn_of _ (by decide +kernel)) ggX5_next_X5_leftTo
theorem dX5_next_0 : decode cX5_next 0 = .ok (.aload_n 0, 1) := by decide +kernel
theorem dX5_next_1 : decode cX5_next 1 = .ok (.invokevirtual 92, 3) := by decide +kernel
theorem dX5_next_4 : decode cX5_next 4 = .ok (.ifCond .ne 5, 3) := by decide +kernel
theorem dX5_next_7 : decode cX5_next 7 = .ok (.iconst (-1), 1) := by decide +kernel
theorem dX5_next_8 : decode cX5_next 8 = .ok (.ireturn, 1) := by decide +kernel
theorem dX5_next_9 : decode cX5_next 9 = .ok (.iconst 0, 1) := by decide +kernel
theorem dX5_next_10 : decode cX5_next 10 = .ok (.istore_n 1, 1) := by decide +kernel
theorem dX5_next_11 : decode cX5_next 11 = .ok (.iconst 0, 1) := by decide +kernel
theorem dX5_next_12 : decode cX5_next 12 = .ok (.istore_n 2, 1) := by decide +kernel
theorem dX5_next_13 : decode cX5_next 13 = .ok (.iload_n 2, 1) := by decide +kernel
theorem dX5_next_14 : decode cX5_next 14 = .ok (.aload_n 0, 1) := by decide +kernel
theorem dX5_next_15 : decode cX5_next 15 = .ok (.getfield 86, 3) := by decide +kernel
theorem dX5_next_18 : decode cX5_next 18 = .ok (.if_icmp .ge 46, 3) := by decide +kernel
theorem dX5_next_21 : decode cX5_next 21 = .ok (.aload_n 0, 1) := by decide +kernel
theorem dX5_next_22 : decode cX5_next 22 = .ok (.iload_n 2, 1) := by decide +kernel
theorem dX5_next_23 : decode cX5_next 23 = .ok (.invokevirtual 112, 3) := by decide +kernel
theorem dX5_next_26 : decode cX5_next 26 = .ok (.istore_n 3, 1) := by decide +kernel
theorem dX5_next_27 : decode cX5_next 27 = .ok (.iload_n 3, 1) := by decide +kernel
theorem dX5_next_28 : decode cX5_next 28 = .ok (.iconst (-1), 1) := by decide +kernel
theorem dX5_next_29 : decode cX5_next 29 = .ok (.if_icmp .eq 29, 3) := by decide +kernel
theorem dX5_next_32 : decode cX5_next 32 = .ok (.iload_n 3, 1) := by decide +kernel
theorem dX5_next_33 : decode cX5_next 33 = .ok (.aload_n 0, 1) := by decide +kernel
theorem dX5_next_34 : decode cX5_next 34 = .ok (.getfield 51, 3) := by decide +kernel
theorem dX5_next_37 : decode cX5_next 37 = .ok (.iload_n 2, 1) := by decide +kernel
theorem dX5_next_38 : decode cX5_next 38 = .ok (.iaload, 1) := by decide +kernel
theorem dX5_next_39 : decode cX5_next 39 = .ok (.if_icmp .ge 19, 3) := by decide +kernel
theorem dX5_next_42 : decode cX5_next 42 = .ok (.iload_n 1, 1) := by decide +kernel
theorem dX5_next_43 : decode cX5_next 43 = .ok (.iconst 1, 1) := by decide +kernel
theorem dX5_next_44 : decode cX5_next 44 = .ok (.aload_n 0, 1) := by decide +kernel
theorem dX5_next_45 : decode cX5_next 45 = .ok (.getfield 48, 3) := by decide +kernel
theorem dX5_next_48 : decode cX5_next 48 = .ok (.bipush 6, 2) := by decide +kernel
theorem dX5_next_50 : decode cX5_next 50 = .ok (.iload_n 2, 1) := by decide +kernel
theorem dX5_next_51 : decode cX5_next 51 = .ok (.imul, 1) := by decide +kernel
theorem dX5_next_52 : decode cX5_next 52 = .ok (.iload_n 3, 1) := by decide +kernel
theorem dX5_next_53 : decode cX5_next 53 = .ok (.iadd, 1) := by decide +kernel
theorem dX5_next_54 : decode cX5_next 54 = .ok (.iaload, 1) := by decide +kernel
theorem dX5_next_55 : decode cX5_next 55 = .ok (.ishl, 1) := by decide +kernel
theorem dX5_next_56 : decode cX5_next 56 = .ok (.ior, 1) := by decide +kernel
theorem dX5_next_57 : decode cX5_next 57 = .ok (.istore_n 1, 1) := by decide +kernel
theorem dX5_next_58 : decode cX5_next 58 = .ok (.iinc 2 1, 3) := by decide +kernel
theorem dX5_next_61 : decode cX5_next 61 = .ok (.goto (-48), 3) := by decide +kernel
theorem dX5_next_64 : decode cX5_next 64 = .ok (.iload_n 1, 1) := by decide +kernel
theorem dX5_next_65 : decode cX5_next 65 = .ok (.ireturn, 1) := by decide +kernel
theorem dX5_tell_0 : decode cX5_tell 0 = .ok (.iconst 0, 1) := by decide +kernel
theorem dX5_tell_1 : decode cX5_tell 1 = .ok (.istore_n 1, 1) := by decide +kernel
theorem dX5_tell_2 : decode cX5_tell 2 = .ok (.iconst 0, 1) := by decide +kernel
theorem dX5_tell_3 : decode cX5_tell 3 = .ok (.istore_n 2, 1) := by decide +kernel
theorem dX5_tell_4 : decode cX5_tell 4 = .ok (.iload_n 2, 1) := by decide +kernel
theorem dX5_tell_5 : decode cX5_tell 5 = .ok (.aload_n 0, 1) := by decide +kernel
theorem dX5_tell_6 : decode cX5_tell 6 = .ok (.getfield 73, 3) := by decide +kernel
theorem dX5_tell_9 : decode cX5_tell 9 = .ok (.if_icmp .ge 65, 3) := by decide +kernel
theorem dX5_tell_12 : decode cX5_tell 12 = .ok (.aload_n 0, 1) := by decide +kernel
theorem dX5_tell_13 : decode cX5_tell 13 = .ok (.getfield 45, 3) := by decide +kernel
theorem dX5_tell_16 : decode cX5_tell 16 = .ok (.iload_n 2, 1) := by decide +kernel
theorem dX5_tell_17 : decode cX5_tell 17 = .ok (.iaload, 1) := by decide +kernel
theorem dX5_tell_18 : decode cX5_tell 18 = .ok (.istore_n 3, 1) := by decide +kernel
theorem dX5_tell_19 : decode cX5_tell 19 = .ok (.aload_n 0, 1) := by decide +kernel
theorem dX5_tell_20 : decode cX5_tell 20 = .ok (.getfield 30, 3) := by decide +kernel
theorem dX5_tell_23 : decode cX5_tell 23 = .ok (.iload_n 3, 1) := by decide +kernel
theorem dX5_tell_24 : decode cX5_tell 24 = .ok (.dup2, 1) := by decide +kernel
theorem dX5_tell_25 : decode cX5_tell 25 = .ok (.iaload, 1) := by decide +kernel
theorem dX5_tell_26 : decode cX5_tell 26 = .ok (.iconst 1, 1) := by decide +kernel
theorem dX5_tell_27 : decode cX5_tell 27 = .ok (.iadd, 1) := by decide +kernel
theorem dX5_tell_28 : decode cX5_tell 28 = .ok (.iastore, 1) := by decide +kernel
theorem dX5_tell_29 : decode cX5_tell 29 = .ok (.aload_n 0, 1) := by decide +kernel
theorem dX5_tell_30 : decode cX5_tell 30 = .ok (.getfield 30, 3) := by decide +kernel
theorem dX5_tell_33 : decode cX5_tell 33 = .ok (.iload_n 3, 1) := by decide +kernel
theorem dX5_tell_34 : decode cX5_tell 34 = .ok (.iaload, 1) := by decide +kernel
theorem dX5_tell_35 : decode cX5_tell 35 = .ok (.aload_n 0, 1) := by decide +kernel
theorem dX5_tell_36 : decode cX5_tell 36 = .ok (.getfield 16, 3) := by decide +kernel
theorem dX5_tell_39 : decode cX5_tell 39 = .ok (.if_icmp .ge 6, 3) := by decide +kernel
theorem dX5_tell_42 : decode cX5_tell 42 = .ok (.goto 26, 3) := by decide +kernel
theorem dX5_tell_45 : decode cX5_tell 45 = .ok (.aload_n 0, 1) := by decide +kernel
theorem dX5_tell_46 : decode cX5_tell 46 = .ok (.getfield 30, 3) := by decide +kernel
theorem dX5_tell_49 : decode cX5_tell 49 = .ok (.iload_n 3, 1) := by decide +kernel
theorem dX5_tell_50 : decode cX5_tell 50 = .ok (.iconst 0, 1) := by decide +kernel
theorem dX5_tell_51 : decode cX5_tell 51 = .ok (.iastore, 1) := by decide +kernel
theorem dX5_tell_52 : decode cX5_tell 52 = .ok (.aload_n 0, 1) := by decide +kernel
theorem dX5_tell_53 : decode cX5_tell 53 = .ok (.getfield 33, 3) := by decide +kernel
theorem dX5_tell_56 : decode cX5_tell 56 = .ok (.iload_n 3, 1) := by decide +kernel
theorem dX5_tell_57 : decode cX5_tell 57 = .ok (.aload_n 0, 1) := by decide +kernel
theorem dX5_tell_58 : decode cX5_tell 58 = .ok (.getfield 67, 3) := by decide +kernel
theorem dX5_tell_61 : decode cX5_tell 61 = .ok (.bipush 10, 2) := by decide +kernel
theorem dX5_tell_63 : decode cX5_tell 63 = .ok (.iadd, 1) := by decide +kernel
theorem dX5_tell_64 : decode cX5_tell 64 = .ok (.iastore, 1) := by decide +kernel
theorem dX5_tell_65 : decode cX5_tell 65 = .ok (.iinc 1 1, 3) := by decide +kernel
theorem dX5_tell_68 : decode cX5_tell 68 = .ok (.iinc 2 1, 3) := by decide +kernel
theorem dX5_tell_71 : decode cX5_tell 71 = .ok (.goto (-67), 3) := by decide +kernel
theorem dX5_tell_74 : decode cX5_tell 74 = .ok (.aload_n 0, 1) := by decide +kernel
theorem dX5_tell_75 : decode cX5_tell 75 = .ok (.iconst 0, 1) := by decide +kernel
theorem dX5_tell_76 : decode cX5_tell 76 = .ok (.putfield 73, 3) := by decide +kernel
theorem dX5_tell_79 : decode cX5_tell 79 = .ok (.iload_n 1, 1) := by decide +kernel
theorem dX5_tell_80 : decode cX5_tell 80 = .ok (.ireturn, 1) := by decide +kernel
set_option maxRecDepth 20000 in
theorem ggX5_bear_X5_isIn : GoodIn wsX5_bear wsX5_isIn := goodIn_r _ [5] (by decide +kernel) (by decide +kernel)
set_option maxRecDepth 20000 in
theorem gX5_bear_X5_isIn : GoodIn wsX5_bear (va_wsS RX5 63 yX5_isIn wsX5_isIn) := goodIn_app (goodIn_of _ (by decide +kernel)) ggX5_bear_X5_isIn
theorem dX5_bear_0 : decode cX5_bear 0 = .ok (.iload_n 1, 1) := by decide +kernel
theorem dX5_bear_1 : decode cX5_bear 1 = .ok (.iconst 1, 1) := by decide +kernel
theorem dX5_bear_2 : decode cX5_bear 2 = .ok (.bipush 9, 2) := by decide +kernel
theorem dX5_bear_4 : decode cX5_bear 4 = .ok (.invokestatic 63, 3) := by decide +kernel
theorem dX5_bear_7 : decode cX5_bear 7 = .ok (.ifCond .ne 5, 3) := by decide +kernel
theorem dX5_bear_10 : decode cX5_bear 10 = .ok (.iconst 0, 1) := by decide +kernel
theorem dX5_bear_11 : decode cX5_bear 11 = .ok (.ireturn, 1) := by decide +kernel
theorem dX5_bear_12 : decode cX5_bear 12 = .ok (.aload_n 0, 1) := by decide +kernel
theorem dX5_bear_13 : decode cX5_bear 13 = .ok (.iload_n 1, 1) := by decide +kernel
theorem dX5_bear_14 : decode cX5_bear 14 = .ok (.putfield 16, 3) := by decide +kernel
theorem dX5_bear_17 : decode cX5_bear 17 = .ok (.iconst 1, 1) := by decide +kernel
theorem dX5_bear_18 : decode cX5_bear 18 = .ok (.ireturn, 1) := by decide +kernel
set_option maxRecDepth 20000 in
theorem ggX5_tales_X5_isPlace : GoodIn wsX5_tales wsX5_isPlace := goodIn_r _ [6, 7, 8, 9, 5, 10, 11, 12, 13, 14, 15, 16, 17, 18, 19, 20, 21, 22, 23, 24, 25, 26, 27, 28, 29, 30, 31] (by decide +kernel) (by decide +kernel)
set_option maxRecDepth 20000 in
theorem gX5_tales_X5_isPlace : GoodIn wsX5_tales (wsV RX5 76 RX5 yX5_isPlace wsX5_isPlace) := goodIn_app (goodIn_of _ (by decide +kernel)) ggX5_tales_X5_isPlace
theorem dX5_tales_0 : decode cX5_tales 0 = .ok (.aload_n 0, 1) := by decide +kernel
theorem dX5_tales_1 : decode cX5_tales 1 = .ok (.iload_n 1, 1) := by decide +kernel
theorem dX5_tales_2 : decode cX5_tales 2 = .ok (.invokevirtual 76, 3) := by decide +kernel
theorem dX5_tales_5 : decode cX5_tales 5 = .ok (.ifCond .eq 12, 3) := by decide +kernel
theorem dX5_tales_8 : decode cX5_tales 8 = .ok (.aload_n 0, 1) := by decide +kernel
theorem dX5_tales_9 : decode cX5_tales 9 = .ok (.getfield 30, 3) := by decide +kernel
theorem dX5_tales_12 : decode cX5_tales 12 = .ok (.iload_n 1, 1) := by decide +kernel
theorem dX5_tales_13 : decode cX5_tales 13 = .ok (.iaload, 1) := by decide +kernel
theorem dX5_tales_14 : decode cX5_tales 14 = .ok (.goto 4, 3) := by decide +kernel
theorem dX5_tales_17 : decode cX5_tales 17 = .ok (.iconst (-1), 1) := by decide +kernel
theorem dX5_tales_18 : decode cX5_tales 18 = .ok (.ireturn, 1) := by decide +kernel
theorem dX5_day_0 : decode cX5_day 0 = .ok (.aload_n 0, 1) := by decide +kernel
theorem dX5_day_1 : decode cX5_day 1 = .ok (.getfield 67, 3) := by decide +kernel
theorem dX5_day_4 : decode cX5_day 4 = .ok (.sipush 10000, 3) := by decide +kernel
theorem dX5_day_7 : decode cX5_day 7 = .ok (.if_icmp .ne 5, 3) := by decide +kernel
theorem dX5_day_10 : decode cX5_day 10 = .ok (.iconst (-1), 1) := by decide +kernel
theorem dX5_day_11 : decode cX5_day 11 = .ok (.ireturn, 1) := by decide +kernel
theorem dX5_day_12 : decode cX5_day 12 = .ok (.aload_n 0, 1) := by decide +kernel
theorem dX5_day_13 : decode cX5_day 13 = .ok (.dup, 1) := by decide +kernel
theorem dX5_day_14 : decode cX5_day 14 = .ok (.getfield 67, 3) := by decide +kernel
theorem dX5_day_17 : decode cX5_day 17 = .ok (.iconst 1, 1) := by decide +kernel
theorem dX5_day_18 : decode cX5_day 18 = .ok (.iadd, 1) := by decide +kernel
theorem dX5_day_19 : decode cX5_day 19 = .ok (.putfield 67, 3) := by decide +kernel
theorem dX5_day_22 : decode cX5_day 22 = .ok (.aload_n 0, 1) := by decide +kernel
theorem dX5_day_23 : decode cX5_day 23 = .ok (.getfield 67, 3) := by decide +kernel
theorem dX5_day_26 : decode cX5_day 26 = .ok (.ireturn, 1) := by decide +kernel
set_option maxRecDepth 20000 in
theorem ggX5_move_X5_isIn : GoodIn wsX5_move wsX5_isIn := goodIn_r _ [6] (by decide +kernel) (by decide +kernel)
set_option maxRecDepth 20000 in
theorem gX5_move_X5_isIn : GoodIn wsX5_move (va_wsS RX5 63 yX5_isIn wsX5_isIn) := goodIn_app (goodIn_of _ (by decide +kernel)) ggX5_move_X5_isIn
set_option maxRecDepth 20000 in
theorem ggX5_move_X5_finds : GoodIn wsX5_move wsX5_finds := goodIn_r _ [10, 11, 1, 12, 13, 14, 15, 5, 16, 17, 18, 19, 20, 21, 22, 47, 48, 49, 50, 51, 52, 53, 54, 55, 56, 57, 58, 59, 60, 61, 62, 63, 64, 65, 66, 67] (by decide +kernel) (by decide +kernel)
set_option maxRecDepth 20000 in
theorem gX5_move_X5_finds : GoodIn wsX5_move (wsV RX5 92 RX5 yX5_finds wsX5_finds) := goodIn_app (goodIn_of _ (by decide +kernel)) ggX5_move_X5_finds
set_option maxRecDepth 20000 in
theorem ggX5_move_X5_bits : GoodIn wsX5_move wsX5_bits := goodIn_r _ [25] (by decide +kernel) (by decide +kernel)
set_option maxRecDepth 20000 in
theorem gX5_move_X5_bits : GoodIn wsX5_move (va_wsS RX5 106 yX5_bits wsX5_bits) := goodIn_app (goodIn_of _ (by decide +kernel)) ggX5_move_X5_bits
set_option maxRecDepth 20000 in
theorem ggX5_move_X5_isFree : GoodIn wsX5_move wsX5_isFree := goodIn_r _ [29, 1, 12, 30, 31, 32, 5, 33, 34, 35, 47, 48, 49, 50, 51, 52, 53, 54, 55, 56, 57, 58, 59, 60, 61, 62, 63, 64, 65, 66, 67] (by decide +kernel) (by decide +kernel)
set_option maxRecDepth 20000 in
theorem gX5_move_X5_isFree : GoodIn wsX5_move (wsV RX5 109 RX5 yX5_isFree wsX5_isFree) := goodIn_app (goodIn_of _ (by decide +kernel)) ggX5_move_X5_isFree
set_option maxRecDepth 20000 in
theorem ggX5_move_X5_honestOf : GoodIn wsX5_move wsX5_honestOf := goodIn_r _ [39, 40, 41, 42, 47, 48, 49, 50, 51, 52, 53, 54, 55, 56, 57, 58, 59, 60, 61, 62, 63, 64, 65, 66, 67] (by decide +kernel) (by decide +kernel)
set_option maxRecDepth 20000 in
theorem gX5_move_X5_honestOf : GoodIn wsX5_move (wsV RX5 103 RX5 yX5_honestOf wsX5_honestOf) := goodIn_app (goodIn_of _ (by decide +kernel)) ggX5_move_X5_honestOf
set_option maxRecDepth 20000 in
theorem ggX5_move_X5_touchedBy : GoodIn wsX5_move wsX5_touchedBy := goodIn_r _ [46, 11, 22, 47, 48, 49, 50, 51, 52, 53, 54, 55, 56, 57, 58, 59, 60, 61, 62, 63, 64, 65, 66, 67] (by decide +kernel) (by decide +kernel)
set_option maxRecDepth 20000 in
theorem gX5_move_X5_touchedBy : GoodIn wsX5_move (wsV RX5 99 RX5 yX5_touchedBy wsX5_touchedBy) := goodIn_app (goodIn_of _ (by decide +kernel)) ggX5_move_X5_touchedBy
theorem dX5_move_0 : decode cX5_move 0 = .ok (.iload_n 1, 1) := by decide +kernel
theorem dX5_move_1 : decode cX5_move 1 = .ok (.ifCond .lt 23, 3) := by decide +kernel
theorem dX5_move_4 : decode cX5_move 4 = .ok (.iload_n 2, 1) := by decide +kernel
theorem dX5_move_5 : decode cX5_move 5 = .ok (.ifCond .lt 19, 3) := by decide +kernel
theorem dX5_move_8 : decode cX5_move 8 = .ok (.iload_n 3, 1) := by decide +kernel
theorem dX5_move_9 : decode cX5_move 9 = .ok (.iconst 0, 1) := by decide +kernel
theorem dX5_move_10 : decode cX5_move 10 = .ok (.iconst 2, 1) := by decide +kernel
theorem dX5_move_11 : decode cX5_move 11 = .ok (.invokestatic 63, 3) := by decide +kernel
theorem dX5_move_14 : decode cX5_move 14 = .ok (.ifCond .eq 10, 3) := by decide +kernel
theorem dX5_move_17 : decode cX5_move 17 = .ok (.aload_n 0, 1) := by decide +kernel
theorem dX5_move_18 : decode cX5_move 18 = .ok (.invokevirtual 92, 3) := by decide +kernel
theorem dX5_move_21 : decode cX5_move 21 = .ok (.ifCond .ne 5, 3) := by decide +kernel
theorem dX5_move_24 : decode cX5_move 24 = .ok (.iconst (-1), 1) := by decide +kernel
theorem dX5_move_25 : decode cX5_move 25 = .ok (.ireturn, 1) := by decide +kernel
theorem dX5_move_26 : decode cX5_move 26 = .ok (.iconst (-1), 1) := by decide +kernel
theorem dX5_move_27 : decode cX5_move 27 = .ok (.istore 4, 2) := by decide +kernel
theorem dX5_move_29 : decode cX5_move 29 = .ok (.iconst 0, 1) := by decide +kernel
theorem dX5_move_30 : decode cX5_move 30 = .ok (.istore 5, 2) := by decide +kernel
theorem dX5_move_32 : decode cX5_move 32 = .ok (.iconst 0, 1) := by decide +kernel
theorem dX5_move_33 : decode cX5_move 33 = .ok (.istore 6, 2) := by decide +kernel
theorem dX5_move_35 : decode cX5_move 35 = .ok (.iconst 0, 1) := by decide +kernel
theorem dX5_move_36 : decode cX5_move 36 = .ok (.istore 7, 2) := by decide +kernel
theorem dX5_move_38 : decode cX5_move 38 = .ok (.iload 7, 2) := by decide +kernel
theorem dX5_move_40 : decode cX5_move 40 = .ok (.iconst 1, 1) := by decide +kernel
theorem dX5_move_41 : decode cX5_move 41 = .ok (.aload_n 0, 1) := by decide +kernel
theorem dX5_move_42 : decode cX5_move 42 = .ok (.getfield 7, 3) := by decide +kernel
theorem dX5_move_45 : decode cX5_move 45 = .ok (.ishl, 1) := by decide +kernel
theorem dX5_move_46 : decode cX5_move 46 = .ok (.if_icmp .ge 114, 3) := by decide +kernel
theorem dX5_move_49 : decode cX5_move 49 = .ok (.iload 7, 2) := by decide +kernel
theorem dX5_move_51 : decode cX5_move 51 = .ok (.invokestatic 106, 3) := by decide +kernel
theorem dX5_move_54 : decode cX5_move 54 = .ok (.aload_n 0, 1) := by decide +kernel
theorem dX5_move_55 : decode cX5_move 55 = .ok (.getfield 70, 3) := by decide +kernel
theorem dX5_move_58 : decode cX5_move 58 = .ok (.invokestatic 106, 3) := by decide +kernel
theorem dX5_move_61 : decode cX5_move 61 = .ok (.if_icmp .ne 93, 3) := by decide +kernel
theorem dX5_move_64 : decode cX5_move 64 = .ok (.aload_n 0, 1) := by decide +kernel
theorem dX5_move_65 : decode cX5_move 65 = .ok (.iload 7, 2) := by decide +kernel
theorem dX5_move_67 : decode cX5_move 67 = .ok (.invokevirtual 109, 3) := by decide +kernel
theorem dX5_move_70 : decode cX5_move 70 = .ok (.ifCond .eq 84, 3) := by decide +kernel
theorem dX5_move_73 : decode cX5_move 73 = .ok (.aload_n 0, 1) := by decide +kernel
theorem dX5_move_74 : decode cX5_move 74 = .ok (.iload 7, 2) := by decide +kernel
theorem dX5_move_76 : decode cX5_move 76 = .ok (.invokevirtual 103, 3) := by decide +kernel
theorem dX5_move_79 : decode cX5_move 79 = .ok (.iload_n 1, 1) := by decide +kernel
theorem dX5_move_80 : decode cX5_move 80 = .ok (.if_icmp .le 6, 3) := by decide +kernel
theorem dX5_move_83 : decode cX5_move 83 = .ok (.goto 71, 3) := by decide +kernel
theorem dX5_move_86 : decode cX5_move 86 = .ok (.aload_n 0, 1) := by decide +kernel
theorem dX5_move_87 : decode cX5_move 87 = .ok (.iload 7, 2) := by decide +kernel
theorem dX5_move_89 : decode cX5_move 89 = .ok (.invokevirtual 99, 3) := by decide +kernel
theorem dX5_move_92 : decode cX5_move 92 = .ok (.istore 8, 2) := by decide +kernel
theorem dX5_move_94 : decode cX5_move 94 = .ok (.iload 7, 2) := by decide +kernel
theorem dX5_move_96 : decode cX5_move 96 = .ok (.aload_n 0, 1) := by decide +kernel
theorem dX5_move_97 : decode cX5_move 97 = .ok (.getfield 70, 3) := by decide +kernel
theorem dX5_move_100 : decode cX5_move 100 = .ok (.iand, 1) := by decide +kernel
theorem dX5_move_101 : decode cX5_move 101 = .ok (.invokestatic 106, 3) := by decide +kernel
theorem dX5_move_104 : decode cX5_move 104 = .ok (.istore 9, 2) := by decide +kernel
theorem dX5_move_106 : decode cX5_move 106 = .ok (.iload 8, 2) := by decide +kernel
theorem dX5_move_108 : decode cX5_move 108 = .ok (.iload_n 2, 1) := by decide +kernel
theorem dX5_move_109 : decode cX5_move 109 = .ok (.if_icmp .lt 45, 3) := by decide +kernel
theorem dX5_move_112 : decode cX5_move 112 = .ok (.iload 4, 2) := by decide +kernel
theorem dX5_move_114 : decode cX5_move 114 = .ok (.iconst (-1), 1) := by decide +kernel
theorem dX5_move_115 : decode cX5_move 115 = .ok (.if_icmp .eq 27, 3) := by decide +kernel
theorem dX5_move_118 : decode cX5_move 118 = .ok (.iload 9, 2) := by decide +kernel
theorem dX5_move_120 : decode cX5_move 120 = .ok (.iload 5, 2) := by decide +kernel
theorem dX5_move_122 : decode cX5_move 122 = .ok (.if_icmp .lt 32, 3) := by decide +kernel
theorem dX5_move_125 : decode cX5_move 125 = .ok (.iload 9, 2) := by decide +kernel
theorem dX5_move_127 : decode cX5_move 127 = .ok (.iload 5, 2) := by decide +kernel
theorem dX5_move_129 : decode cX5_move 129 = .ok (.if_icmp .ne 13, 3) := by decide +kernel
theorem dX5_move_132 : decode cX5_move 132 = .ok (.iload 8, 2) := by decide +kernel
theorem dX5_move_134 : decode cX5_move 134 = .ok (.iload 6, 2) := by decide +kernel
theorem dX5_move_136 : decode cX5_move 136 = .ok (.if_icmp .gt 6, 3) := by decide +kernel
theorem dX5_move_139 : decode cX5_move 139 = .ok (.goto 15, 3) := by decide +kernel
theorem dX5_move_142 : decode cX5_move 142 = .ok (.iload 7, 2) := by decide +kernel
theorem dX5_move_144 : decode cX5_move 144 = .ok (.istore 4, 2) := by decide +kernel
theorem dX5_move_146 : decode cX5_move 146 = .ok (.iload 9, 2) := by decide +kernel
theorem dX5_move_148 : decode cX5_move 148 = .ok (.istore 5, 2) := by decide +kernel
theorem dX5_move_150 : decode cX5_move 150 = .ok (.iload 8, 2) := by decide +kernel
theorem dX5_move_152 : decode cX5_move 152 = .ok (.istore 6, 2) := by decide +kernel
theorem dX5_move_154 : decode cX5_move 154 = .ok (.iinc 7 1, 3) := by decide +kernel
theorem dX5_move_157 : decode cX5_move 157 = .ok (.goto (-119), 3) := by decide +kernel
theorem dX5_move_160 : decode cX5_move 160 = .ok (.iload 4, 2) := by decide +kernel
theorem dX5_move_162 : decode cX5_move 162 = .ok (.iconst (-1), 1) := by decide +kernel
theorem dX5_move_163 : decode cX5_move 163 = .ok (.if_icmp .ne 7, 3) := by decide +kernel
theorem dX5_move_166 : decode cX5_move 166 = .ok (.iconst (-1), 1) := by decide +kernel
theorem dX5_move_167 : decode cX5_move 167 = .ok (.goto 32, 3) := by decide +kernel
theorem dX5_move_170 : decode cX5_move 170 = .ok (.iload_n 3, 1) := by decide +kernel
theorem dX5_move_171 : decode cX5_move 171 = .ok (.ifCond .ne 8, 3) := by decide +kernel
theorem dX5_move_174 : decode cX5_move 174 = .ok (.iload 4, 2) := by decide +kernel
theorem dX5_move_176 : decode cX5_move 176 = .ok (.goto 23, 3) := by decide +kernel
theorem dX5_move_179 : decode cX5_move 179 = .ok (.iload_n 3, 1) := by decide +kernel
theorem dX5_move_180 : decode cX5_move 180 = .ok (.iconst 1, 1) := by decide +kernel
theorem dX5_move_181 : decode cX5_move 181 = .ok (.if_icmp .ne 16, 3) := by decide +kernel
theorem dX5_move_184 : decode cX5_move 184 = .ok (.aload_n 0, 1) := by decide +kernel
theorem dX5_move_185 : decode cX5_move 185 = .ok (.getfield 70, 3) := by decide +kernel
theorem dX5_move_188 : decode cX5_move 188 = .ok (.invokestatic 106, 3) := by decide +kernel
theorem dX5_move_191 : decode cX5_move 191 = .ok (.iload 5, 2) := by decide +kernel
theorem dX5_move_193 : decode cX5_move 193 = .ok (.isub, 1) := by decide +kernel
theorem dX5_move_194 : decode cX5_move 194 = .ok (.goto 5, 3) := by decide +kernel
theorem dX5_move_197 : decode cX5_move 197 = .ok (.iload 6, 2) := by decide +kernel
theorem dX5_move_199 : decode cX5_move 199 = .ok (.ireturn, 1) := by decide +kernel
theorem dJ6_bitCount_0f7a4_0 : decode cJ6_bitCount_0f7a4 0 = .ok (.iload_n 0, 1) := by decide +kernel
theorem dJ6_bitCount_0f7a4_1 : decode cJ6_bitCount_0f7a4 1 = .ok (.iload_n 0, 1) := by decide +kernel
theorem dJ6_bitCount_0f7a4_2 : decode cJ6_bitCount_0f7a4 2 = .ok (.iconst 1, 1) := by decide +kernel
theorem dJ6_bitCount_0f7a4_3 : decode cJ6_bitCount_0f7a4 3 = .ok (.iushr, 1) := by decide +kernel
theorem dJ6_bitCount_0f7a4_4 : decode cJ6_bitCount_0f7a4 4 = .ok (.ldc_w 265, 3) := by decide +kernel
theorem dJ6_bitCount_0f7a4_7 : decode cJ6_bitCount_0f7a4 7 = .ok (.iand, 1) := by decide +kernel
theorem dJ6_bitCount_0f7a4_8 : decode cJ6_bitCount_0f7a4 8 = .ok (.isub, 1) := by decide +kernel
theorem dJ6_bitCount_0f7a4_9 : decode cJ6_bitCount_0f7a4 9 = .ok (.istore_n 0, 1) := by decide +kernel
theorem dJ6_bitCount_0f7a4_10 : decode cJ6_bitCount_0f7a4 10 = .ok (.iload_n 0, 1) := by decide +kernel
theorem dJ6_bitCount_0f7a4_11 : decode cJ6_bitCount_0f7a4 11 = .ok (.ldc_w 266, 3) := by decide +kernel
theorem dJ6_bitCount_0f7a4_14 : decode cJ6_bitCount_0f7a4 14 = .ok (.iand, 1) := by decide +kernel
theorem dJ6_bitCount_0f7a4_15 : decode cJ6_bitCount_0f7a4 15 = .ok (.iload_n 0, 1) := by decide +kernel
theorem dJ6_bitCount_0f7a4_16 : decode cJ6_bitCount_0f7a4 16 = .ok (.iconst 2, 1) := by decide +kernel
theorem dJ6_bitCount_0f7a4_17 : decode cJ6_bitCount_0f7a4 17 = .ok (.iushr, 1) := by decide +kernel
theorem dJ6_bitCount_0f7a4_18 : decode cJ6_bitCount_0f7a4 18 = .ok (.ldc_w 266, 3) := by decide +kernel
theorem dJ6_bitCount_0f7a4_21 : decode cJ6_bitCount_0f7a4 21 = .ok (.iand, 1) := by decide +kernel
theorem dJ6_bitCount_0f7a4_22 : decode cJ6_bitCount_0f7a4 22 = .ok (.iadd, 1) := by decide +kernel
theorem dJ6_bitCount_0f7a4_23 : decode cJ6_bitCount_0f7a4 23 = .ok (.istore_n 0, 1) := by decide +kernel
theorem dJ6_bitCount_0f7a4_24 : decode cJ6_bitCount_0f7a4 24 = .ok (.iload_n 0, 1) := by decide +kernel
theorem dJ6_bitCount_0f7a4_25 : decode cJ6_bitCount_0f7a4 25 = .ok (.iload_n 0, 1) := by decide +kernel
theorem dJ6_bitCount_0f7a4_26 : decode cJ6_bitCount_0f7a4 26 = .ok (.iconst 4, 1) := by decide +kernel
theorem dJ6_bitCount_0f7a4_27 : decode cJ6_bitCount_0f7a4 27 = .ok (.iushr, 1) := by decide +kernel
theorem dJ6_bitCount_0f7a4_28 : decode cJ6_bitCount_0f7a4 28 = .ok (.iadd, 1) := by decide +kernel
theorem dJ6_bitCount_0f7a4_29 : decode cJ6_bitCount_0f7a4 29 = .ok (.ldc_w 267, 3) := by decide +kernel
theorem dJ6_bitCount_0f7a4_32 : decode cJ6_bitCount_0f7a4 32 = .ok (.iand, 1) := by decide +kernel
theorem dJ6_bitCount_0f7a4_33 : decode cJ6_bitCount_0f7a4 33 = .ok (.istore_n 0, 1) := by decide +kernel
theorem dJ6_bitCount_0f7a4_34 : decode cJ6_bitCount_0f7a4 34 = .ok (.iload_n 0, 1) := by decide +kernel
theorem dJ6_bitCount_0f7a4_35 : decode cJ6_bitCount_0f7a4 35 = .ok (.iload_n 0, 1) := by decide +kernel
theorem dJ6_bitCount_0f7a4_36 : decode cJ6_bitCount_0f7a4 36 = .ok (.bipush 8, 2) := by decide +kernel
theorem dJ6_bitCount_0f7a4_38 : decode cJ6_bitCount_0f7a4 38 = .ok (.iushr, 1) := by decide +kernel
theorem dJ6_bitCount_0f7a4_39 : decode cJ6_bitCount_0f7a4 39 = .ok (.iadd, 1) := by decide +kernel
theorem dJ6_bitCount_0f7a4_40 : decode cJ6_bitCount_0f7a4 40 = .ok (.istore_n 0, 1) := by decide +kernel
theorem dJ6_bitCount_0f7a4_41 : decode cJ6_bitCount_0f7a4 41 = .ok (.iload_n 0, 1) := by decide +kernel
theorem dJ6_bitCount_0f7a4_42 : decode cJ6_bitCount_0f7a4 42 = .ok (.iload_n 0, 1) := by decide +kernel
theorem dJ6_bitCount_0f7a4_43 : decode cJ6_bitCount_0f7a4 43 = .ok (.bipush 16, 2) := by decide +kernel
theorem dJ6_bitCount_0f7a4_45 : decode cJ6_bitCount_0f7a4 45 = .ok (.iushr, 1) := by decide +kernel
theorem dJ6_bitCount_0f7a4_46 : decode cJ6_bitCount_0f7a4 46 = .ok (.iadd, 1) := by decide +kernel
theorem dJ6_bitCount_0f7a4_47 : decode cJ6_bitCount_0f7a4 47 = .ok (.istore_n 0, 1) := by decide +kernel
theorem dJ6_bitCount_0f7a4_48 : decode cJ6_bitCount_0f7a4 48 = .ok (.iload_n 0, 1) := by decide +kernel
theorem dJ6_bitCount_0f7a4_49 : decode cJ6_bitCount_0f7a4 49 = .ok (.bipush 63, 2) := by decide +kernel
theorem dJ6_bitCount_0f7a4_51 : decode cJ6_bitCount_0f7a4 51 = .ok (.iand, 1) := by decide +kernel
theorem dJ6_bitCount_0f7a4_52 : decode cJ6_bitCount_0f7a4 52 = .ok (.ireturn, 1) := by decide +kernel
theorem dJ9_min_7cf53_0 : decode cJ9_min_7cf53 0 = .ok (.iload_n 0, 1) := by decide +kernel
theorem dJ9_min_7cf53_1 : decode cJ9_min_7cf53 1 = .ok (.iload_n 1, 1) := by decide +kernel
theorem dJ9_min_7cf53_2 : decode cJ9_min_7cf53 2 = .ok (.if_icmp .gt 7, 3) := by decide +kernel
theorem dJ9_min_7cf53_5 : decode cJ9_min_7cf53 5 = .ok (.iload_n 0, 1) := by decide +kernel
theorem dJ9_min_7cf53_6 : decode cJ9_min_7cf53 6 = .ok (.goto 4, 3) := by decide +kernel
theorem dJ9_min_7cf53_9 : decode cJ9_min_7cf53 9 = .ok (.iload_n 1, 1) := by decide +kernel
theorem dJ9_min_7cf53_10 : decode cJ9_min_7cf53 10 = .ok (.ireturn, 1) := by decide +kernel
theorem dJ7_fill_53178_0 : decode cJ7_fill_53178 0 = .ok (.iconst 0, 1) := by decide +kernel
theorem dJ7_fill_53178_1 : decode cJ7_fill_53178 1 = .ok (.istore_n 2, 1) := by decide +kernel
theorem dJ7_fill_53178_2 : decode cJ7_fill_53178 2 = .ok (.aload_n 0, 1) := by decide +kernel
theorem dJ7_fill_53178_3 : decode cJ7_fill_53178 3 = .ok (.arraylength, 1) := by decide +kernel
theorem dJ7_fill_53178_4 : decode cJ7_fill_53178 4 = .ok (.istore_n 3, 1) := by decide +kernel
theorem dJ7_fill_53178_5 : decode cJ7_fill_53178 5 = .ok (.iload_n 2, 1) := by decide +kernel
theorem dJ7_fill_53178_6 : decode cJ7_fill_53178 6 = .ok (.iload_n 3, 1) := by decide +kernel
theorem dJ7_fill_53178_7 : decode cJ7_fill_53178 7 = .ok (.if_icmp .ge 13, 3) := by decide +kernel
theorem dJ7_fill_53178_10 : decode cJ7_fill_53178 10 = .ok (.aload_n 0, 1) := by decide +kernel
theorem dJ7_fill_53178_11 : decode cJ7_fill_53178 11 = .ok (.iload_n 2, 1) := by decide +kernel
theorem dJ7_fill_53178_12 : decode cJ7_fill_53178 12 = .ok (.iload_n 1, 1) := by decide +kernel
theorem dJ7_fill_53178_13 : decode cJ7_fill_53178 13 = .ok (.iastore, 1) := by decide +kernel
theorem dJ7_fill_53178_14 : decode cJ7_fill_53178 14 = .ok (.iinc 2 1, 3) := by decide +kernel
theorem dJ7_fill_53178_17 : decode cJ7_fill_53178 17 = .ok (.goto (-12), 3) := by decide +kernel
theorem dJ7_fill_53178_20 : decode cJ7_fill_53178 20 = .ok (.return_, 1) := by decide +kernel
