theorem dX6_init_0 : decode cX6_init 0 = .ok (.aload_n 0, 1) := by decide +kernel
theorem dX6_init_1 : decode cX6_init 1 = .ok (.invokespecial 1, 3) := by decide +kernel
theorem dX6_init_4 : decode cX6_init 4 = .ok (.aload_n 0, 1) := by decide +kernel
theorem dX6_init_5 : decode cX6_init 5 = .ok (.bipush 6, 2) := by decide +kernel
theorem dX6_init_7 : decode cX6_init 7 = .ok (.newarray .int, 2) := by decide +kernel
theorem dX6_init_9 : decode cX6_init 9 = .ok (.putfield 7, 3) := by decide +kernel
theorem dX6_init_12 : decode cX6_init 12 = .ok (.aload_n 0, 1) := by decide +kernel
theorem dX6_init_13 : decode cX6_init 13 = .ok (.bipush 6, 2) := by decide +kernel
theorem dX6_init_15 : decode cX6_init 15 = .ok (.newarray .int, 2) := by decide +kernel
theorem dX6_init_17 : decode cX6_init 17 = .ok (.putfield 13, 3) := by decide +kernel
theorem dX6_init_20 : decode cX6_init 20 = .ok (.aload_n 0, 1) := by decide +kernel
theorem dX6_init_21 : decode cX6_init 21 = .ok (.bipush 6, 2) := by decide +kernel
theorem dX6_init_23 : decode cX6_init 23 = .ok (.newarray .int, 2) := by decide +kernel
theorem dX6_init_25 : decode cX6_init 25 = .ok (.putfield 16, 3) := by decide +kernel
theorem dX6_init_28 : decode cX6_init 28 = .ok (.aload_n 0, 1) := by decide +kernel
theorem dX6_init_29 : decode cX6_init 29 = .ok (.bipush 6, 2) := by decide +kernel
theorem dX6_init_31 : decode cX6_init 31 = .ok (.newarray .int, 2) := by decide +kernel
theorem dX6_init_33 : decode cX6_init 33 = .ok (.putfield 19, 3) := by decide +kernel
theorem dX6_init_36 : decode cX6_init 36 = .ok (.aload_n 0, 1) := by decide +kernel
theorem dX6_init_37 : decode cX6_init 37 = .ok (.sipush 1001, 3) := by decide +kernel
theorem dX6_init_40 : decode cX6_init 40 = .ok (.newarray .boolean, 2) := by decide +kernel
theorem dX6_init_42 : decode cX6_init 42 = .ok (.putfield 22, 3) := by decide +kernel
theorem dX6_init_45 : decode cX6_init 45 = .ok (.aload_n 0, 1) := by decide +kernel
theorem dX6_init_46 : decode cX6_init 46 = .ok (.iconst 3, 1) := by decide +kernel
theorem dX6_init_47 : decode cX6_init 47 = .ok (.newarray .int, 2) := by decide +kernel
theorem dX6_init_49 : decode cX6_init 49 = .ok (.putfield 26, 3) := by decide +kernel
theorem dX6_init_52 : decode cX6_init 52 = .ok (.aload_n 0, 1) := by decide +kernel
theorem dX6_init_53 : decode cX6_init 53 = .ok (.bipush 6, 2) := by decide +kernel
theorem dX6_init_55 : decode cX6_init 55 = .ok (.newarray .int, 2) := by decide +kernel
theorem dX6_init_57 : decode cX6_init 57 = .ok (.putfield 29, 3) := by decide +kernel
theorem dX6_init_60 : decode cX6_init 60 = .ok (.aload_n 0, 1) := by decide +kernel
theorem dX6_init_61 : decode cX6_init 61 = .ok (.bipush 8, 2) := by decide +kernel
theorem dX6_init_63 : decode cX6_init 63 = .ok (.newarray .int, 2) := by decide +kernel
theorem dX6_init_65 : decode cX6_init 65 = .ok (.putfield 32, 3) := by decide +kernel
theorem dX6_init_68 : decode cX6_init 68 = .ok (.aload_n 0, 1) := by decide +kernel
theorem dX6_init_69 : decode cX6_init 69 = .ok (.bipush 8, 2) := by decide +kernel
theorem dX6_init_71 : decode cX6_init 71 = .ok (.newarray .int, 2) := by decide +kernel
theorem dX6_init_73 : decode cX6_init 73 = .ok (.putfield 35, 3) := by decide +kernel
theorem dX6_init_76 : decode cX6_init 76 = .ok (.aload_n 0, 1) := by decide +kernel
theorem dX6_init_77 : decode cX6_init 77 = .ok (.bipush 8, 2) := by decide +kernel
theorem dX6_init_79 : decode cX6_init 79 = .ok (.newarray .int, 2) := by decide +kernel
theorem dX6_init_81 : decode cX6_init 81 = .ok (.putfield 38, 3) := by decide +kernel
theorem dX6_init_84 : decode cX6_init 84 = .ok (.aload_n 0, 1) := by decide +kernel
theorem dX6_init_85 : decode cX6_init 85 = .ok (.bipush 8, 2) := by decide +kernel
theorem dX6_init_87 : decode cX6_init 87 = .ok (.newarray .int, 2) := by decide +kernel
theorem dX6_init_89 : decode cX6_init 89 = .ok (.putfield 41, 3) := by decide +kernel
theorem dX6_init_92 : decode cX6_init 92 = .ok (.aload_n 0, 1) := by decide +kernel
theorem dX6_init_93 : decode cX6_init 93 = .ok (.bipush 8, 2) := by decide +kernel
theorem dX6_init_95 : decode cX6_init 95 = .ok (.newarray .int, 2) := by decide +kernel
theorem dX6_init_97 : decode cX6_init 97 = .ok (.putfield 44, 3) := by decide +kernel
theorem dX6_init_100 : decode cX6_init 100 = .ok (.aload_n 0, 1) := by decide +kernel
theorem dX6_init_101 : decode cX6_init 101 = .ok (.sipush 800, 3) := by decide +kernel
theorem dX6_init_104 : decode cX6_init 104 = .ok (.newarray .int, 2) := by decide +kernel
theorem dX6_init_106 : decode cX6_init 106 = .ok (.putfield 47, 3) := by decide +kernel
theorem dX6_init_109 : decode cX6_init 109 = .ok (.aload_n 0, 1) := by decide +kernel
theorem dX6_init_110 : decode cX6_init 110 = .ok (.bipush 100, 2) := by decide +kernel
theorem dX6_init_112 : decode cX6_init 112 = .ok (.newarray .int, 2) := by decide +kernel
theorem dX6_init_114 : decode cX6_init 114 = .ok (.putfield 50, 3) := by decide +kernel
theorem dX6_init_117 : decode cX6_init 117 = .ok (.return_, 1) := by decide +kernel
theorem dX6_isIn_0 : decode cX6_isIn 0 = .ok (.iload_n 0, 1) := by decide +kernel
theorem dX6_isIn_1 : decode cX6_isIn 1 = .ok (.iload_n 1, 1) := by decide +kernel
theorem dX6_isIn_2 : decode cX6_isIn 2 = .ok (.if_icmp .lt 12, 3) := by decide +kernel
theorem dX6_isIn_5 : decode cX6_isIn 5 = .ok (.iload_n 0, 1) := by decide +kernel
theorem dX6_isIn_6 : decode cX6_isIn 6 = .ok (.iload_n 2, 1) := by decide +kernel
theorem dX6_isIn_7 : decode cX6_isIn 7 = .ok (.if_icmp .gt 7, 3) := by decide +kernel
theorem dX6_isIn_10 : decode cX6_isIn 10 = .ok (.iconst 1, 1) := by decide +kernel
theorem dX6_isIn_11 : decode cX6_isIn 11 = .ok (.goto 4, 3) := by decide +kernel
theorem dX6_isIn_14 : decode cX6_isIn 14 = .ok (.iconst 0, 1) := by decide +kernel
theorem dX6_isIn_15 : decode cX6_isIn 15 = .ok (.ireturn, 1) := by decide +kernel
theorem dX6_move_0 : decode cX6_move 0 = .ok (.iconst 0, 1) := by decide +kernel
theorem dX6_move_1 : decode cX6_move 1 = .ok (.istore_n 2, 1) := by decide +kernel
theorem dX6_move_2 : decode cX6_move 2 = .ok (.iload_n 2, 1) := by decide +kernel
theorem dX6_move_3 : decode cX6_move 3 = .ok (.aload_n 0, 1) := by decide +kernel
theorem dX6_move_4 : decode cX6_move 4 = .ok (.arraylength, 1) := by decide +kernel
theorem dX6_move_5 : decode cX6_move 5 = .ok (.if_icmp .ge 15, 3) := by decide +kernel
theorem dX6_move_8 : decode cX6_move 8 = .ok (.aload_n 1, 1) := by decide +kernel
theorem dX6_move_9 : decode cX6_move 9 = .ok (.iload_n 2, 1) := by decide +kernel
theorem dX6_move_10 : decode cX6_move 10 = .ok (.aload_n 0, 1) := by decide +kernel
theorem dX6_move_11 : decode cX6_move 11 = .ok (.iload_n 2, 1) := by decide +kernel
theorem dX6_move_12 : decode cX6_move 12 = .ok (.iaload, 1) := by decide +kernel
theorem dX6_move_13 : decode cX6_move 13 = .ok (.iastore, 1) := by decide +kernel
theorem dX6_move_14 : decode cX6_move 14 = .ok (.iinc 2 1, 3) := by decide +kernel
theorem dX6_move_17 : decode cX6_move 17 = .ok (.goto (-15), 3) := by decide +kernel
theorem dX6_move_20 : decode cX6_move 20 = .ok (.return_, 1) := by decide +kernel
set_option maxRecDepth 20000 in
theorem ggX6_image_X6_move : GoodIn wsX6_image wsX6_move := goodIn_r _ [11] (by decide +kernel) (by decide +kernel)
set_option maxRecDepth 20000 in
theorem gX6_image_X6_move : GoodIn wsX6_image (va_wsS RX6 64 yX6_move wsX6_move) := goodIn_app (goodIn_of _ (by decide +kernel)) ggX6_image_X6_move
theorem dX6_image_0 : decode cX6_image 0 = .ok (.aload_n 0, 1) := by decide +kernel
theorem dX6_image_1 : decode cX6_image 1 = .ok (.iconst 1, 1) := by decide +kernel
theorem dX6_image_2 : decode cX6_image 2 = .ok (.putfield 53, 3) := by decide +kernel
theorem dX6_image_5 : decode cX6_image 5 = .ok (.aload_n 0, 1) := by decide +kernel
theorem dX6_image_6 : decode cX6_image 6 = .ok (.aload_n 0, 1) := by decide +kernel
theorem dX6_image_7 : decode cX6_image 7 = .ok (.getfield 57, 3) := by decide +kernel
theorem dX6_image_10 : decode cX6_image 10 = .ok (.putfield 61, 3) := by decide +kernel
theorem dX6_image_13 : decode cX6_image 13 = .ok (.aload_n 0, 1) := by decide +kernel
theorem dX6_image_14 : decode cX6_image 14 = .ok (.getfield 7, 3) := by decide +kernel
theorem dX6_image_17 : decode cX6_image 17 = .ok (.aload_n 0, 1) := by decide +kernel
theorem dX6_image_18 : decode cX6_image 18 = .ok (.getfield 16, 3) := by decide +kernel
theorem dX6_image_21 : decode cX6_image 21 = .ok (.invokestatic 64, 3) := by decide +kernel
theorem dX6_image_24 : decode cX6_image 24 = .ok (.aload_n 0, 1) := by decide +kernel
theorem dX6_image_25 : decode cX6_image 25 = .ok (.getfield 13, 3) := by decide +kernel
theorem dX6_image_28 : decode cX6_image 28 = .ok (.aload_n 0, 1) := by decide +kernel
theorem dX6_image_29 : decode cX6_image 29 = .ok (.getfield 19, 3) := by decide +kernel
theorem dX6_image_32 : decode cX6_image 32 = .ok (.invokestatic 64, 3) := by decide +kernel
theorem dX6_image_35 : decode cX6_image 35 = .ok (.aload_n 0, 1) := by decide +kernel
theorem dX6_image_36 : decode cX6_image 36 = .ok (.getfield 57, 3) := by decide +kernel
theorem dX6_image_39 : decode cX6_image 39 = .ok (.ireturn, 1) := by decide +kernel
set_option maxRecDepth 20000 in
theorem ggX6_restore_X6_move : GoodIn wsX6_restore wsX6_move := goodIn_r _ [11] (by decide +kernel) (by decide +kernel)
set_option maxRecDepth 20000 in
theorem gX6_restore_X6_move : GoodIn wsX6_restore (va_wsS RX6 64 yX6_move wsX6_move) := goodIn_app (goodIn_of _ (by decide +kernel)) ggX6_restore_X6_move
theorem dX6_restore_0 : decode cX6_restore 0 = .ok (.aload_n 0, 1) := by decide +kernel
theorem dX6_restore_1 : decode cX6_restore 1 = .ok (.getfield 53, 3) := by decide +kernel
theorem dX6_restore_4 : decode cX6_restore 4 = .ok (.ifCond .ne 6, 3) := by decide +kernel
theorem dX6_restore_7 : decode cX6_restore 7 = .ok (.bipush (-3), 2) := by decide +kernel
theorem dX6_restore_9 : decode cX6_restore 9 = .ok (.ireturn, 1) := by decide +kernel
theorem dX6_restore_10 : decode cX6_restore 10 = .ok (.aload_n 0, 1) := by decide +kernel
theorem dX6_restore_11 : decode cX6_restore 11 = .ok (.aload_n 0, 1) := by decide +kernel
theorem dX6_restore_12 : decode cX6_restore 12 = .ok (.getfield 61, 3) := by decide +kernel
theorem dX6_restore_15 : decode cX6_restore 15 = .ok (.putfield 57, 3) := by decide +kernel
theorem dX6_restore_18 : decode cX6_restore 18 = .ok (.aload_n 0, 1) := by decide +kernel
theorem dX6_restore_19 : decode cX6_restore 19 = .ok (.getfield 16, 3) := by decide +kernel
theorem dX6_restore_22 : decode cX6_restore 22 = .ok (.aload_n 0, 1) := by decide +kernel
theorem dX6_restore_23 : decode cX6_restore 23 = .ok (.getfield 7, 3) := by decide +kernel
theorem dX6_restore_26 : decode cX6_restore 26 = .ok (.invokestatic 64, 3) := by decide +kernel
theorem dX6_restore_29 : decode cX6_restore 29 = .ok (.aload_n 0, 1) := by decide +kernel
theorem dX6_restore_30 : decode cX6_restore 30 = .ok (.getfield 19, 3) := by decide +kernel
theorem dX6_restore_33 : decode cX6_restore 33 = .ok (.aload_n 0, 1) := by decide +kernel
theorem dX6_restore_34 : decode cX6_restore 34 = .ok (.getfield 13, 3) := by decide +kernel
theorem dX6_restore_37 : decode cX6_restore 37 = .ok (.invokestatic 64, 3) := by decide +kernel
theorem dX6_restore_40 : decode cX6_restore 40 = .ok (.aload_n 0, 1) := by decide +kernel
theorem dX6_restore_41 : decode cX6_restore 41 = .ok (.getfield 57, 3) := by decide +kernel
theorem dX6_restore_44 : decode cX6_restore 44 = .ok (.ireturn, 1) := by decide +kernel
set_option maxRecDepth 20000 in
theorem ggX6_isStone_X6_isIn : GoodIn wsX6_isStone wsX6_isIn := goodIn_r _ [5] (by decide +kernel) (by decide +kernel)
set_option maxRecDepth 20000 in
theorem gX6_isStone_X6_isIn : GoodIn wsX6_isStone (va_wsS RX6 68 yX6_isIn wsX6_isIn) := goodIn_app (goodIn_of _ (by decide +kernel)) ggX6_isStone_X6_isIn
theorem dX6_isStone_0 : decode cX6_isStone 0 = .ok (.iload_n 1, 1) := by decide +kernel
theorem dX6_isStone_1 : decode cX6_isStone 1 = .ok (.iconst 0, 1) := by decide +kernel
theorem dX6_isStone_2 : decode cX6_isStone 2 = .ok (.aload_n 0, 1) := by decide +kernel
theorem dX6_isStone_3 : decode cX6_isStone 3 = .ok (.getfield 57, 3) := by decide +kernel
theorem dX6_isStone_6 : decode cX6_isStone 6 = .ok (.iconst 1, 1) := by decide +kernel
theorem dX6_isStone_7 : decode cX6_isStone 7 = .ok (.isub, 1) := by decide +kernel
theorem dX6_isStone_8 : decode cX6_isStone 8 = .ok (.invokestatic 68, 3) := by decide +kernel
theorem dX6_isStone_11 : decode cX6_isStone 11 = .ok (.ireturn, 1) := by decide +kernel
set_option maxRecDepth 20000 in
theorem ggX6_stone_X6_isStone : GoodIn wsX6_stone wsX6_isStone := goodIn_r _ [7, 8, 9, 10, 6, 11, 12, 13, 14, 15, 16, 17, 18, 19, 20, 21, 22, 23, 24, 25, 26, 27, 28, 29, 30, 31, 32, 33, 34, 35, 36, 37, 38, 39, 40, 41, 42, 43] (by decide +kernel) (by decide +kernel)
set_option maxRecDepth 20000 in
theorem gX6_stone_X6_isStone : GoodIn wsX6_stone (wsV RX6 72 RX6 yX6_isStone wsX6_isStone) := goodIn_app (goodIn_of _ (by decide +kernel)) ggX6_stone_X6_isStone
set_option maxRecDepth 20000 in
theorem ggX6_stone_X6_isIn : GoodIn wsX6_stone wsX6_isIn := goodIn_r _ [11] (by decide +kernel) (by decide +kernel)
set_option maxRecDepth 20000 in
theorem gX6_stone_X6_isIn : GoodIn wsX6_stone (va_wsS RX6 68 yX6_isIn wsX6_isIn) := goodIn_app (goodIn_of _ (by decide +kernel)) ggX6_stone_X6_isIn
theorem dX6_stone_0 : decode cX6_stone 0 = .ok (.aload_n 0, 1) := by decide +kernel
theorem dX6_stone_1 : decode cX6_stone 1 = .ok (.iload_n 1, 1) := by decide +kernel
theorem dX6_stone_2 : decode cX6_stone 2 = .ok (.invokevirtual 72, 3) := by decide +kernel
theorem dX6_stone_5 : decode cX6_stone 5 = .ok (.ifCond .eq 12, 3) := by decide +kernel
theorem dX6_stone_8 : decode cX6_stone 8 = .ok (.iload_n 2, 1) := by decide +kernel
theorem dX6_stone_9 : decode cX6_stone 9 = .ok (.iconst 0, 1) := by decide +kernel
theorem dX6_stone_10 : decode cX6_stone 10 = .ok (.iconst 1, 1) := by decide +kernel
theorem dX6_stone_11 : decode cX6_stone 11 = .ok (.invokestatic 68, 3) := by decide +kernel
theorem dX6_stone_14 : decode cX6_stone 14 = .ok (.ifCond .ne 5, 3) := by decide +kernel
theorem dX6_stone_17 : decode cX6_stone 17 = .ok (.iconst (-1), 1) := by decide +kernel
theorem dX6_stone_18 : decode cX6_stone 18 = .ok (.ireturn, 1) := by decide +kernel
theorem dX6_stone_19 : decode cX6_stone 19 = .ok (.iload_n 2, 1) := by decide +kernel
theorem dX6_stone_20 : decode cX6_stone 20 = .ok (.ifCond .ne 12, 3) := by decide +kernel
theorem dX6_stone_23 : decode cX6_stone 23 = .ok (.aload_n 0, 1) := by decide +kernel
theorem dX6_stone_24 : decode cX6_stone 24 = .ok (.getfield 7, 3) := by decide +kernel
theorem dX6_stone_27 : decode cX6_stone 27 = .ok (.iload_n 1, 1) := by decide +kernel
theorem dX6_stone_28 : decode cX6_stone 28 = .ok (.iaload, 1) := by decide +kernel
theorem dX6_stone_29 : decode cX6_stone 29 = .ok (.goto 9, 3) := by decide +kernel
theorem dX6_stone_32 : decode cX6_stone 32 = .ok (.aload_n 0, 1) := by decide +kernel
theorem dX6_stone_33 : decode cX6_stone 33 = .ok (.getfield 13, 3) := by decide +kernel
theorem dX6_stone_36 : decode cX6_stone 36 = .ok (.iload_n 1, 1) := by decide +kernel
theorem dX6_stone_37 : decode cX6_stone 37 = .ok (.iaload, 1) := by decide +kernel
theorem dX6_stone_38 : decode cX6_stone 38 = .ok (.ireturn, 1) := by decide +kernel
theorem dX6_power_0 : decode cX6_power 0 = .ok (.iconst 1, 1) := by decide +kernel
theorem dX6_power_1 : decode cX6_power 1 = .ok (.istore_n 1, 1) := by decide +kernel
theorem dX6_power_2 : decode cX6_power 2 = .ok (.iconst 0, 1) := by decide +kernel
theorem dX6_power_3 : decode cX6_power 3 = .ok (.istore_n 2, 1) := by decide +kernel
theorem dX6_power_4 : decode cX6_power 4 = .ok (.iload_n 2, 1) := by decide +kernel
theorem dX6_power_5 : decode cX6_power 5 = .ok (.iload_n 0, 1) := by decide +kernel
theorem dX6_power_6 : decode cX6_power 6 = .ok (.if_icmp .ge 13, 3) := by decide +kernel
theorem dX6_power_9 : decode cX6_power 9 = .ok (.iload_n 1, 1) := by decide +kernel
theorem dX6_power_10 : decode cX6_power 10 = .ok (.iconst 3, 1) := by decide +kernel
theorem dX6_power_11 : decode cX6_power 11 = .ok (.imul, 1) := by decide +kernel
theorem dX6_power_12 : decode cX6_power 12 = .ok (.istore_n 1, 1) := by decide +kernel
theorem dX6_power_13 : decode cX6_power 13 = .ok (.iinc 2 1, 3) := by decide +kernel
theorem dX6_power_16 : decode cX6_power 16 = .ok (.goto (-12), 3) := by decide +kernel
theorem dX6_power_19 : decode cX6_power 19 = .ok (.iload_n 1, 1) := by decide +kernel
theorem dX6_power_20 : decode cX6_power 20 = .ok (.ireturn, 1) := by decide +kernel
set_option maxRecDepth 20000 in
theorem ggX6_isLying_X6_power : GoodIn wsX6_isLying wsX6_power := goodIn_r _ [5] (by decide +kernel) (by decide +kernel)
set_option maxRecDepth 20000 in
theorem gX6_isLying_X6_power : GoodIn wsX6_isLying (va_wsS RX6 76 yX6_power wsX6_power) := goodIn_app (goodIn_of _ (by decide +kernel)) ggX6_isLying_X6_power
set_option maxRecDepth 20000 in
theorem ggX6_isLying_X6_isIn : GoodIn wsX6_isLying wsX6_isIn := goodIn_r _ [8] (by decide +kernel) (by decide +kernel)
set_option maxRecDepth 20000 in
theorem gX6_isLying_X6_isIn : GoodIn wsX6_isLying (va_wsS RX6 68 yX6_isIn wsX6_isIn) := goodIn_app (goodIn_of _ (by decide +kernel)) ggX6_isLying_X6_isIn
theorem dX6_isLying_0 : decode cX6_isLying 0 = .ok (.iload_n 1, 1) := by decide +kernel
theorem dX6_isLying_1 : decode cX6_isLying 1 = .ok (.iconst 0, 1) := by decide +kernel
theorem dX6_isLying_2 : decode cX6_isLying 2 = .ok (.aload_n 0, 1) := by decide +kernel
theorem dX6_isLying_3 : decode cX6_isLying 3 = .ok (.getfield 57, 3) := by decide +kernel
theorem dX6_isLying_6 : decode cX6_isLying 6 = .ok (.invokestatic 76, 3) := by decide +kernel
theorem dX6_isLying_9 : decode cX6_isLying 9 = .ok (.iconst 1, 1) := by decide +kernel
theorem dX6_isLying_10 : decode cX6_isLying 10 = .ok (.isub, 1) := by decide +kernel
theorem dX6_isLying_11 : decode cX6_isLying 11 = .ok (.invokestatic 68, 3) := by decide +kernel
theorem dX6_isLying_14 : decode cX6_isLying 14 = .ok (.ireturn, 1) := by decide +kernel
theorem dX6_look_0 : decode cX6_look 0 = .ok (.aload_n 0, 1) := by decide +kernel
theorem dX6_look_1 : decode cX6_look 1 = .ok (.iconst 0, 1) := by decide +kernel
theorem dX6_look_2 : decode cX6_look 2 = .ok (.putfield 80, 3) := by decide +kernel
theorem dX6_look_5 : decode cX6_look 5 = .ok (.aload_n 0, 1) := by decide +kernel
theorem dX6_look_6 : decode cX6_look 6 = .ok (.iconst 0, 1) := by decide +kernel
theorem dX6_look_7 : decode cX6_look 7 = .ok (.putfield 83, 3) := by decide +kernel
theorem dX6_look_10 : decode cX6_look 10 = .ok (.aload_n 0, 1) := by decide +kernel
theorem dX6_look_11 : decode cX6_look 11 = .ok (.iconst 0, 1) := by decide +kernel
theorem dX6_look_12 : decode cX6_look 12 = .ok (.putfield 86, 3) := by decide +kernel
theorem dX6_look_15 : decode cX6_look 15 = .ok (.aload_n 0, 1) := by decide +kernel
theorem dX6_look_16 : decode cX6_look 16 = .ok (.iconst 0, 1) := by decide +kernel
theorem dX6_look_17 : decode cX6_look 17 = .ok (.putfield 89, 3) := by decide +kernel
theorem dX6_look_20 : decode cX6_look 20 = .ok (.aload_n 0, 1) := by decide +kernel
theorem dX6_look_21 : decode cX6_look 21 = .ok (.iconst 0, 1) := by decide +kernel
theorem dX6_look_22 : decode cX6_look 22 = .ok (.putfield 92, 3) := by decide +kernel
theorem dX6_look_25 : decode cX6_look 25 = .ok (.aload_n 0, 1) := by decide +kernel
theorem dX6_look_26 : decode cX6_look 26 = .ok (.iconst 0, 1) := by decide +kernel
theorem dX6_look_27 : decode cX6_look 27 = .ok (.putfield 95, 3) := by decide +kernel
theorem dX6_look_30 : decode cX6_look 30 = .ok (.iload_n 1, 1) := by decide +kernel
theorem dX6_look_31 : decode cX6_look 31 = .ok (.istore_n 2, 1) := by decide +kernel
theorem dX6_look_32 : decode cX6_look 32 = .ok (.iconst 0, 1) := by decide +kernel
theorem dX6_look_33 : decode cX6_look 33 = .ok (.istore_n 3, 1) := by decide +kernel
theorem dX6_look_34 : decode cX6_look 34 = .ok (.iload_n 3, 1) := by decide +kernel
theorem dX6_look_35 : decode cX6_look 35 = .ok (.aload_n 0, 1) := by decide +kernel
theorem dX6_look_36 : decode cX6_look 36 = .ok (.getfield 57, 3) := by decide +kernel
theorem dX6_look_39 : decode cX6_look 39 = .ok (.if_icmp .ge 153, 3) := by decide +kernel
theorem dX6_look_42 : decode cX6_look 42 = .ok (.iload_n 2, 1) := by decide +kernel
theorem dX6_look_43 : decode cX6_look 43 = .ok (.iconst 3, 1) := by decide +kernel
theorem dX6_look_44 : decode cX6_look 44 = .ok (.irem, 1) := by decide +kernel
theorem dX6_look_45 : decode cX6_look 45 = .ok (.istore 4, 2) := by decide +kernel
theorem dX6_look_47 : decode cX6_look 47 = .ok (.iload_n 2, 1) := by decide +kernel
theorem dX6_look_48 : decode cX6_look 48 = .ok (.iconst 3, 1) := by decide +kernel
theorem dX6_look_49 : decode cX6_look 49 = .ok (.idiv, 1) := by decide +kernel
theorem dX6_look_50 : decode cX6_look 50 = .ok (.istore_n 2, 1) := by decide +kernel
theorem dX6_look_51 : decode cX6_look 51 = .ok (.aload_n 0, 1) := by decide +kernel
theorem dX6_look_52 : decode cX6_look 52 = .ok (.dup, 1) := by decide +kernel
theorem dX6_look_53 : decode cX6_look 53 = .ok (.getfield 80, 3) := by decide +kernel
theorem dX6_look_56 : decode cX6_look 56 = .ok (.iload 4, 2) := by decide +kernel
theorem dX6_look_58 : decode cX6_look 58 = .ok (.iconst 1, 1) := by decide +kernel
theorem dX6_look_59 : decode cX6_look 59 = .ok (.if_icmp .ne 12, 3) := by decide +kernel
theorem dX6_look_62 : decode cX6_look 62 = .ok (.aload_n 0, 1) := by decide +kernel
theorem dX6_look_63 : decode cX6_look 63 = .ok (.getfield 7, 3) := by decide +kernel
theorem dX6_look_66 : decode cX6_look 66 = .ok (.iload_n 3, 1) := by decide +kernel
theorem dX6_look_67 : decode cX6_look 67 = .ok (.iaload, 1) := by decide +kernel
theorem dX6_look_68 : decode cX6_look 68 = .ok (.goto 4, 3) := by decide +kernel
theorem dX6_look_71 : decode cX6_look 71 = .ok (.iconst 0, 1) := by decide +kernel
theorem dX6_look_72 : decode cX6_look 72 = .ok (.iadd, 1) := by decide +kernel
theorem dX6_look_73 : decode cX6_look 73 = .ok (.putfield 80, 3) := by decide +kernel
theorem dX6_look_76 : decode cX6_look 76 = .ok (.aload_n 0, 1) := by decide +kernel
theorem dX6_look_77 : decode cX6_look 77 = .ok (.dup, 1) := by decide +kernel
theorem dX6_look_78 : decode cX6_look 78 = .ok (.getfield 83, 3) := by decide +kernel
theorem dX6_look_81 : decode cX6_look 81 = .ok (.iload 4, 2) := by decide +kernel
theorem dX6_look_83 : decode cX6_look 83 = .ok (.iconst 2, 1) := by decide +kernel
theorem dX6_look_84 : decode cX6_look 84 = .ok (.if_icmp .ne 12, 3) := by decide +kernel
theorem dX6_look_87 : decode cX6_look 87 = .ok (.aload_n 0, 1) := by decide +kernel
theorem dX6_look_88 : decode cX6_look 88 = .ok (.getfield 7, 3) := by decide +kernel
theorem dX6_look_91 : decode cX6_look 91 = .ok (.iload_n 3, 1) := by decide +kernel
theorem dX6_look_92 : decode cX6_look 92 = .ok (.iaload, 1) := by decide +kernel
theorem dX6_look_93 : decode cX6_look 93 = .ok (.goto 4, 3) := by decide +kernel
theorem dX6_look_96 : decode cX6_look 96 = .ok (.iconst 0, 1) := by decide +kernel
theorem dX6_look_97 : decode cX6_look 97 = .ok (.iadd, 1) := by decide +kernel
theorem dX6_look_98 : decode cX6_look 98 = .ok (.putfield 83, 3) := by decide +kernel
theorem dX6_look_101 : decode cX6_look 101 = .ok (.aload_n 0, 1) := by decide +kernel
theorem dX6_look_102 : decode cX6_look 102 = .ok (.dup, 1) := by decide +kernel
theorem dX6_look_103 : decode cX6_look 103 = .ok (.getfield 86, 3) := by decide +kernel
theorem dX6_look_106 : decode cX6_look 106 = .ok (.iload 4, 2) := by decide +kernel
theorem dX6_look_108 : decode cX6_look 108 = .ok (.iconst 1, 1) := by decide +kernel
theorem dX6_look_109 : decode cX6_look 109 = .ok (.if_icmp .ne 7, 3) := by decide +kernel
theorem dX6_look_112 : decode cX6_look 112 = .ok (.iconst 1, 1) := by decide +kernel
theorem dX6_look_113 : decode cX6_look 113 = .ok (.goto 4, 3) := by decide +kernel
theorem dX6_look_116 : decode cX6_look 116 = .ok (.iconst 0, 1) := by decide +kernel
theorem dX6_look_117 : decode cX6_look 117 = .ok (.iadd, 1) := by decide +kernel
theorem dX6_look_118 : decode cX6_look 118 = .ok (.putfield 86, 3) := by decide +kernel
theorem dX6_look_121 : decode cX6_look 121 = .ok (.aload_n 0, 1) := by decide +kernel
theorem dX6_look_122 : decode cX6_look 122 = .ok (.dup, 1) := by decide +kernel
theorem dX6_look_123 : decode cX6_look 123 = .ok (.getfield 89, 3) := by decide +kernel
theorem dX6_look_126 : decode cX6_look 126 = .ok (.iload 4, 2) := by decide +kernel
theorem dX6_look_128 : decode cX6_look 128 = .ok (.iconst 2, 1) := by decide +kernel
theorem dX6_look_129 : decode cX6_look 129 = .ok (.if_icmp .ne 7, 3) := by decide +kernel
theorem dX6_look_132 : decode cX6_look 132 = .ok (.iconst 1, 1) := by decide +kernel
theorem dX6_look_133 : decode cX6_look 133 = .ok (.goto 4, 3) := by decide +kernel
theorem dX6_look_136 : decode cX6_look 136 = .ok (.iconst 0, 1) := by decide +kernel
theorem dX6_look_137 : decode cX6_look 137 = .ok (.iadd, 1) := by decide +kernel
theorem dX6_look_138 : decode cX6_look 138 = .ok (.putfield 89, 3) := by decide +kernel
theorem dX6_look_141 : decode cX6_look 141 = .ok (.aload_n 0, 1) := by decide +kernel
theorem dX6_look_142 : decode cX6_look 142 = .ok (.dup, 1) := by decide +kernel
theorem dX6_look_143 : decode cX6_look 143 = .ok (.getfield 92, 3) := by decide +kernel
theorem dX6_look_146 : decode cX6_look 146 = .ok (.iload 4, 2) := by decide +kernel
theorem dX6_look_148 : decode cX6_look 148 = .ok (.ifCond .ne 7, 3) := by decide +kernel
theorem dX6_look_151 : decode cX6_look 151 = .ok (.iconst 0, 1) := by decide +kernel
theorem dX6_look_152 : decode cX6_look 152 = .ok (.goto 9, 3) := by decide +kernel
theorem dX6_look_155 : decode cX6_look 155 = .ok (.aload_n 0, 1) := by decide +kernel
theorem dX6_look_156 : decode cX6_look 156 = .ok (.getfield 13, 3) := by decide +kernel
theorem dX6_look_159 : decode cX6_look 159 = .ok (.iload_n 3, 1) := by decide +kernel
theorem dX6_look_160 : decode cX6_look 160 = .ok (.iaload, 1) := by decide +kernel
theorem dX6_look_161 : decode cX6_look 161 = .ok (.iadd, 1) := by decide +kernel
theorem dX6_look_162 : decode cX6_look 162 = .ok (.putfield 92, 3) := by decide +kernel
theorem dX6_look_165 : decode cX6_look 165 = .ok (.aload_n 0, 1) := by decide +kernel
theorem dX6_look_166 : decode cX6_look 166 = .ok (.dup, 1) := by decide +kernel
theorem dX6_look_167 : decode cX6_look 167 = .ok (.getfield 95, 3) := by decide +kernel
theorem dX6_look_170 : decode cX6_look 170 = .ok (.iload 4, 2) := by decide +kernel
theorem dX6_look_172 : decode cX6_look 172 = .ok (.ifCond .ne 7, 3) := by decide +kernel
theorem dX6_look_175 : decode cX6_look 175 = .ok (.iconst 0, 1) := by decide +kernel
theorem dX6_look_176 : decode cX6_look 176 = .ok (.goto 6, 3) := by decide +kernel
theorem dX6_look_179 : decode cX6_look 179 = .ok (.iconst 1, 1) := by decide +kernel
theorem dX6_look_180 : decode cX6_look 180 = .ok (.iload_n 3, 1) := by decide +kernel
theorem dX6_look_181 : decode cX6_look 181 = .ok (.ishl, 1) := by decide +kernel
theorem dX6_look_182 : decode cX6_look 182 = .ok (.ior, 1) := by decide +kernel
theorem dX6_look_183 : decode cX6_look 183 = .ok (.putfield 95, 3) := by decide +kernel
theorem dX6_look_186 : decode cX6_look 186 = .ok (.iinc 3 1, 3) := by decide +kernel
theorem dX6_look_189 : decode cX6_look 189 = .ok (.goto (-155), 3) := by decide +kernel
theorem dX6_look_192 : decode cX6_look 192 = .ok (.return_, 1) := by decide +kernel
set_option maxRecDepth 20000 in
theorem ggX6_lying_X6_isLying : GoodIn wsX6_lying wsX6_isLying := goodIn_r _ [10, 11, 12, 13, 9, 14, 15, 16, 17, 25, 26, 27, 28, 29, 30, 31, 32, 33, 34, 35, 36, 37, 38, 39, 40, 41, 42, 43, 44, 45, 46, 47, 48, 49, 50, 51, 52, 53, 54, 55, 56] (by decide +kernel) (by decide +kernel)
set_option maxRecDepth 20000 in
theorem gX6_lying_X6_isLying : GoodIn wsX6_lying (wsV RX6 98 RX6 yX6_isLying wsX6_isLying) := goodIn_app (goodIn_of _ (by decide +kernel)) ggX6_lying_X6_isLying
set_option maxRecDepth 20000 in
theorem ggX6_lying_X6_isIn : GoodIn wsX6_lying wsX6_isIn := goodIn_r _ [17] (by decide +kernel) (by decide +kernel)
set_option maxRecDepth 20000 in
theorem gX6_lying_X6_isIn : GoodIn wsX6_lying (va_wsS RX6 68 yX6_isIn wsX6_isIn) := goodIn_app (goodIn_of _ (by decide +kernel)) ggX6_lying_X6_isIn
set_option maxRecDepth 20000 in
theorem ggX6_lying_X6_look : GoodIn wsX6_lying wsX6_look := goodIn_r _ [21, 1, 2, 3, 4, 5, 22, 11, 23, 24, 25, 26, 27, 28, 29, 30, 31, 32, 33, 34, 35, 36, 37, 38, 39, 40, 41, 42, 43, 44, 45, 46, 47, 48, 49, 50, 51, 52, 53, 54, 55, 56] (by decide +kernel) (by decide +kernel)
set_option maxRecDepth 20000 in
theorem gX6_lying_X6_look : GoodIn wsX6_lying (wsV RX6 101 RX6 yX6_look wsX6_look) := goodIn_app (goodIn_of _ (by decide +kernel)) ggX6_lying_X6_look
theorem dX6_lying_0 : decode cX6_lying 0 = .ok (.aload_n 0, 1) := by decide +kernel
theorem dX6_lying_1 : decode cX6_lying 1 = .ok (.iload_n 1, 1) := by decide +kernel
theorem dX6_lying_2 : decode cX6_lying 2 = .ok (.invokevirtual 98, 3) := by decide +kernel
theorem dX6_lying_5 : decode cX6_lying 5 = .ok (.ifCond .eq 12, 3) := by decide +kernel
theorem dX6_lying_8 : decode cX6_lying 8 = .ok (.iload_n 2, 1) := by decide +kernel
theorem dX6_lying_9 : decode cX6_lying 9 = .ok (.iconst 0, 1) := by decide +kernel
theorem dX6_lying_10 : decode cX6_lying 10 = .ok (.iconst 3, 1) := by decide +kernel
theorem dX6_lying_11 : decode cX6_lying 11 = .ok (.invokestatic 68, 3) := by decide +kernel
theorem dX6_lying_14 : decode cX6_lying 14 = .ok (.ifCond .ne 5, 3) := by decide +kernel
theorem dX6_lying_17 : decode cX6_lying 17 = .ok (.iconst (-1), 1) := by decide +kernel
theorem dX6_lying_18 : decode cX6_lying 18 = .ok (.ireturn, 1) := by decide +kernel
theorem dX6_lying_19 : decode cX6_lying 19 = .ok (.aload_n 0, 1) := by decide +kernel
theorem dX6_lying_20 : decode cX6_lying 20 = .ok (.iload_n 1, 1) := by decide +kernel
theorem dX6_lying_21 : decode cX6_lying 21 = .ok (.invokevirtual 101, 3) := by decide +kernel
theorem dX6_lying_24 : decode cX6_lying 24 = .ok (.iload_n 2, 1) := by decide +kernel
theorem dX6_lying_25 : decode cX6_lying 25 = .ok (.ifCond .ne 10, 3) := by decide +kernel
theorem dX6_lying_28 : decode cX6_lying 28 = .ok (.aload_n 0, 1) := by decide +kernel
theorem dX6_lying_29 : decode cX6_lying 29 = .ok (.getfield 80, 3) := by decide +kernel
theorem dX6_lying_32 : decode cX6_lying 32 = .ok (.goto 36, 3) := by decide +kernel
theorem dX6_lying_35 : decode cX6_lying 35 = .ok (.iload_n 2, 1) := by decide +kernel
theorem dX6_lying_36 : decode cX6_lying 36 = .ok (.iconst 1, 1) := by decide +kernel
theorem dX6_lying_37 : decode cX6_lying 37 = .ok (.if_icmp .ne 10, 3) := by decide +kernel
theorem dX6_lying_40 : decode cX6_lying 40 = .ok (.aload_n 0, 1) := by decide +kernel
theorem dX6_lying_41 : decode cX6_lying 41 = .ok (.getfield 83, 3) := by decide +kernel
theorem dX6_lying_44 : decode cX6_lying 44 = .ok (.goto 24, 3) := by decide +kernel
theorem dX6_lying_47 : decode cX6_lying 47 = .ok (.iload_n 2, 1) := by decide +kernel
theorem dX6_lying_48 : decode cX6_lying 48 = .ok (.iconst 2, 1) := by decide +kernel
theorem dX6_lying_49 : decode cX6_lying 49 = .ok (.if_icmp .ne 15, 3) := by decide +kernel
theorem dX6_lying_52 : decode cX6_lying 52 = .ok (.aload_n 0, 1) := by decide +kernel
theorem dX6_lying_53 : decode cX6_lying 53 = .ok (.getfield 86, 3) := by decide +kernel
theorem dX6_lying_56 : decode cX6_lying 56 = .ok (.aload_n 0, 1) := by decide +kernel
theorem dX6_lying_57 : decode cX6_lying 57 = .ok (.getfield 89, 3) := by decide +kernel
theorem dX6_lying_60 : decode cX6_lying 60 = .ok (.iadd, 1) := by decide +kernel
theorem dX6_lying_61 : decode cX6_lying 61 = .ok (.goto 7, 3) := by decide +kernel
theorem dX6_lying_64 : decode cX6_lying 64 = .ok (.aload_n 0, 1) := by decide +kernel
theorem dX6_lying_65 : decode cX6_lying 65 = .ok (.getfield 92, 3) := by decide +kernel
theorem dX6_lying_68 : decode cX6_lying 68 = .ok (.ireturn, 1) := by decide +kernel
theorem dX6_readBy_0 : decode cX6_readBy 0 = .ok (.iload_n 0, 1) := by decide +kernel
theorem dX6_readBy_1 : decode cX6_readBy 1 = .ok (.tableswitch 92 2 7 #[39, 47, 53, 63, 70, 76], 39) := by decide +kernel
theorem dX6_readBy_40 : decode cX6_readBy 40 = .ok (.iload_n 1, 1) := by decide +kernel
theorem dX6_readBy_41 : decode cX6_readBy 41 = .ok (.iconst 1, 1) := by decide +kernel
theorem dX6_readBy_42 : decode cX6_readBy 42 = .ok (.iadd, 1) := by decide +kernel
theorem dX6_readBy_43 : decode cX6_readBy 43 = .ok (.iload_n 2, 1) := by decide +kernel
theorem dX6_readBy_44 : decode cX6_readBy 44 = .ok (.imul, 1) := by decide +kernel
theorem dX6_readBy_45 : decode cX6_readBy 45 = .ok (.iload_n 3, 1) := by decide +kernel
theorem dX6_readBy_46 : decode cX6_readBy 46 = .ok (.isub, 1) := by decide +kernel
theorem dX6_readBy_47 : decode cX6_readBy 47 = .ok (.ireturn, 1) := by decide +kernel
theorem dX6_readBy_48 : decode cX6_readBy 48 = .ok (.iload_n 2, 1) := by decide +kernel
theorem dX6_readBy_49 : decode cX6_readBy 49 = .ok (.iload_n 3, 1) := by decide +kernel
theorem dX6_readBy_50 : decode cX6_readBy 50 = .ok (.isub, 1) := by decide +kernel
theorem dX6_readBy_51 : decode cX6_readBy 51 = .ok (.iload_n 1, 1) := by decide +kernel
theorem dX6_readBy_52 : decode cX6_readBy 52 = .ok (.isub, 1) := by decide +kernel
theorem dX6_readBy_53 : decode cX6_readBy 53 = .ok (.ireturn, 1) := by decide +kernel
theorem dX6_readBy_54 : decode cX6_readBy 54 = .ok (.iload_n 1, 1) := by decide +kernel
theorem dX6_readBy_55 : decode cX6_readBy 55 = .ok (.iconst 1, 1) := by decide +kernel
theorem dX6_readBy_56 : decode cX6_readBy 56 = .ok (.iadd, 1) := by decide +kernel
theorem dX6_readBy_57 : decode cX6_readBy 57 = .ok (.iload_n 2, 1) := by decide +kernel
theorem dX6_readBy_58 : decode cX6_readBy 58 = .ok (.imul, 1) := by decide +kernel
theorem dX6_readBy_59 : decode cX6_readBy 59 = .ok (.iload_n 3, 1) := by decide +kernel
theorem dX6_readBy_60 : decode cX6_readBy 60 = .ok (.isub, 1) := by decide +kernel
theorem dX6_readBy_61 : decode cX6_readBy 61 = .ok (.iload_n 2, 1) := by decide +kernel
theorem dX6_readBy_62 : decode cX6_readBy 62 = .ok (.iadd, 1) := by decide +kernel
theorem dX6_readBy_63 : decode cX6_readBy 63 = .ok (.ireturn, 1) := by decide +kernel
theorem dX6_readBy_64 : decode cX6_readBy 64 = .ok (.iload_n 2, 1) := by decide +kernel
theorem dX6_readBy_65 : decode cX6_readBy 65 = .ok (.iload_n 3, 1) := by decide +kernel
theorem dX6_readBy_66 : decode cX6_readBy 66 = .ok (.isub, 1) := by decide +kernel
theorem dX6_readBy_67 : decode cX6_readBy 67 = .ok (.invokestatic 105, 3) := by decide +kernel
theorem dX6_readBy_70 : decode cX6_readBy 70 = .ok (.ireturn, 1) := by decide +kernel
theorem dX6_readBy_71 : decode cX6_readBy 71 = .ok (.iload_n 2, 1) := by decide +kernel
theorem dX6_readBy_72 : decode cX6_readBy 72 = .ok (.iload_n 3, 1) := by decide +kernel
theorem dX6_readBy_73 : decode cX6_readBy 73 = .ok (.isub, 1) := by decide +kernel
theorem dX6_readBy_74 : decode cX6_readBy 74 = .ok (.iconst 2, 1) := by decide +kernel
theorem dX6_readBy_75 : decode cX6_readBy 75 = .ok (.idiv, 1) := by decide +kernel
theorem dX6_readBy_76 : decode cX6_readBy 76 = .ok (.ireturn, 1) := by decide +kernel
theorem dX6_readBy_77 : decode cX6_readBy 77 = .ok (.iload_n 2, 1) := by decide +kernel
theorem dX6_readBy_78 : decode cX6_readBy 78 = .ok (.iload_n 3, 1) := by decide +kernel
theorem dX6_readBy_79 : decode cX6_readBy 79 = .ok (.isub, 1) := by decide +kernel
theorem dX6_readBy_80 : decode cX6_readBy 80 = .ok (.iload_n 1, 1) := by decide +kernel
theorem dX6_readBy_81 : decode cX6_readBy 81 = .ok (.isub, 1) := by decide +kernel
theorem dX6_readBy_82 : decode cX6_readBy 82 = .ok (.iload_n 3, 1) := by decide +kernel
theorem dX6_readBy_83 : decode cX6_readBy 83 = .ok (.ifCond .le 7, 3) := by decide +kernel
theorem dX6_readBy_86 : decode cX6_readBy 86 = .ok (.iconst 1, 1) := by decide +kernel
theorem dX6_readBy_87 : decode cX6_readBy 87 = .ok (.goto 4, 3) := by decide +kernel
theorem dX6_readBy_90 : decode cX6_readBy 90 = .ok (.iconst 0, 1) := by decide +kernel
theorem dX6_readBy_91 : decode cX6_readBy 91 = .ok (.iadd, 1) := by decide +kernel
theorem dX6_readBy_92 : decode cX6_readBy 92 = .ok (.ireturn, 1) := by decide +kernel
theorem dX6_readBy_93 : decode cX6_readBy 93 = .ok (.iload_n 2, 1) := by decide +kernel
theorem dX6_readBy_94 : decode cX6_readBy 94 = .ok (.iload_n 3, 1) := by decide +kernel
theorem dX6_readBy_95 : decode cX6_readBy 95 = .ok (.isub, 1) := by decide +kernel
theorem dX6_readBy_96 : decode cX6_readBy 96 = .ok (.ireturn, 1) := by decide +kernel
theorem dX6_mayBe_0 : decode cX6_mayBe 0 = .ok (.iload_n 1, 1) := by decide +kernel
theorem dX6_mayBe_1 : decode cX6_mayBe 1 = .ok (.iconst 1, 1) := by decide +kernel
theorem dX6_mayBe_2 : decode cX6_mayBe 2 = .ok (.if_icmp .eq 9, 3) := by decide +kernel
theorem dX6_mayBe_5 : decode cX6_mayBe 5 = .ok (.iload_n 1, 1) := by decide +kernel
theorem dX6_mayBe_6 : decode cX6_mayBe 6 = .ok (.bipush 6, 2) := by decide +kernel
theorem dX6_mayBe_8 : decode cX6_mayBe 8 = .ok (.if_icmp .ne 18, 3) := by decide +kernel
theorem dX6_mayBe_11 : decode cX6_mayBe 11 = .ok (.aload_n 0, 1) := by decide +kernel
theorem dX6_mayBe_12 : decode cX6_mayBe 12 = .ok (.getfield 89, 3) := by decide +kernel
theorem dX6_mayBe_15 : decode cX6_mayBe 15 = .ok (.ifCond .ne 7, 3) := by decide +kernel
theorem dX6_mayBe_18 : decode cX6_mayBe 18 = .ok (.iconst 1, 1) := by decide +kernel
theorem dX6_mayBe_19 : decode cX6_mayBe 19 = .ok (.goto 25, 3) := by decide +kernel
theorem dX6_mayBe_22 : decode cX6_mayBe 22 = .ok (.iconst 0, 1) := by decide +kernel
theorem dX6_mayBe_23 : decode cX6_mayBe 23 = .ok (.goto 21, 3) := by decide +kernel
theorem dX6_mayBe_26 : decode cX6_mayBe 26 = .ok (.iload_n 1, 1) := by decide +kernel
theorem dX6_mayBe_27 : decode cX6_mayBe 27 = .ok (.iconst 4, 1) := by decide +kernel
theorem dX6_mayBe_28 : decode cX6_mayBe 28 = .ok (.if_icmp .ne 11, 3) := by decide +kernel
theorem dX6_mayBe_31 : decode cX6_mayBe 31 = .ok (.aload_n 0, 1) := by decide +kernel
theorem dX6_mayBe_32 : decode cX6_mayBe 32 = .ok (.getfield 86, 3) := by decide +kernel
theorem dX6_mayBe_35 : decode cX6_mayBe 35 = .ok (.iconst 2, 1) := by decide +kernel
theorem dX6_mayBe_36 : decode cX6_mayBe 36 = .ok (.if_icmp .gt 7, 3) := by decide +kernel
theorem dX6_mayBe_39 : decode cX6_mayBe 39 = .ok (.iconst 1, 1) := by decide +kernel
theorem dX6_mayBe_40 : decode cX6_mayBe 40 = .ok (.goto 4, 3) := by decide +kernel
theorem dX6_mayBe_43 : decode cX6_mayBe 43 = .ok (.iconst 0, 1) := by decide +kernel
theorem dX6_mayBe_44 : decode cX6_mayBe 44 = .ok (.ireturn, 1) := by decide +kernel
set_option maxRecDepth 20000 in
theorem ggX6_isWeight_X6_look : GoodIn wsX6_isWeight wsX6_look := goodIn_r _ [9, 3, 4, 10, 11, 12, 13, 14, 15, 16, 28, 29, 30, 31, 32, 33, 34, 35, 36, 37, 38, 39, 40, 41, 42, 43, 44, 45, 46, 47, 48, 49, 50, 51, 52, 53, 54, 55, 56, 57, 58, 59] (by decide +kernel) (by decide +kernel)
set_option maxRecDepth 20000 in
theorem gX6_isWeight_X6_look : GoodIn wsX6_isWeight (wsV RX6 101 RX6 yX6_look wsX6_look) := goodIn_app (goodIn_of _ (by decide +kernel)) ggX6_isWeight_X6_look
set_option maxRecDepth 20000 in
theorem ggX6_isWeight_X6_mayBe : GoodIn wsX6_isWeight wsX6_mayBe := goodIn_r _ [20, 11, 10, 28, 29, 30, 31, 32, 33, 34, 35, 36, 37, 38, 39, 40, 41, 42, 43, 44, 45, 46, 47, 48, 49, 50, 51, 52, 53, 54, 55, 56, 57, 58, 59] (by decide +kernel) (by decide +kernel)
set_option maxRecDepth 20000 in
theorem gX6_isWeight_X6_mayBe : GoodIn wsX6_isWeight (wsV RX6 110 RX6 yX6_mayBe wsX6_mayBe) := goodIn_app (goodIn_of _ (by decide +kernel)) ggX6_isWeight_X6_mayBe
set_option maxRecDepth 20000 in
theorem ggX6_isWeight_X6_readBy : GoodIn wsX6_isWeight wsX6_readBy := goodIn_r _ [23, 24, 25, 26, 27] (by decide +kernel) (by decide +kernel)
set_option maxRecDepth 20000 in
theorem gX6_isWeight_X6_readBy : GoodIn wsX6_isWeight (va_wsS RX6 113 yX6_readBy wsX6_readBy) := goodIn_app (goodIn_of _ (by decide +kernel)) ggX6_isWeight_X6_readBy
theorem dX6_isWeight_0 : decode cX6_isWeight 0 = .ok (.aload_n 0, 1) := by decide +kernel
theorem dX6_isWeight_1 : decode cX6_isWeight 1 = .ok (.iload_n 2, 1) := by decide +kernel
theorem dX6_isWeight_2 : decode cX6_isWeight 2 = .ok (.invokevirtual 101, 3) := by decide +kernel
theorem dX6_isWeight_5 : decode cX6_isWeight 5 = .ok (.aload_n 0, 1) := by decide +kernel
theorem dX6_isWeight_6 : decode cX6_isWeight 6 = .ok (.aload_n 0, 1) := by decide +kernel
theorem dX6_isWeight_7 : decode cX6_isWeight 7 = .ok (.getfield 35, 3) := by decide +kernel
theorem dX6_isWeight_10 : decode cX6_isWeight 10 = .ok (.iload_n 1, 1) := by decide +kernel
theorem dX6_isWeight_11 : decode cX6_isWeight 11 = .ok (.iaload, 1) := by decide +kernel
theorem dX6_isWeight_12 : decode cX6_isWeight 12 = .ok (.invokevirtual 110, 3) := by decide +kernel
theorem dX6_isWeight_15 : decode cX6_isWeight 15 = .ok (.ifCond .eq 34, 3) := by decide +kernel
theorem dX6_isWeight_18 : decode cX6_isWeight 18 = .ok (.aload_n 0, 1) := by decide +kernel
theorem dX6_isWeight_19 : decode cX6_isWeight 19 = .ok (.getfield 35, 3) := by decide +kernel
theorem dX6_isWeight_22 : decode cX6_isWeight 22 = .ok (.iload_n 1, 1) := by decide +kernel
theorem dX6_isWeight_23 : decode cX6_isWeight 23 = .ok (.iaload, 1) := by decide +kernel
theorem dX6_isWeight_24 : decode cX6_isWeight 24 = .ok (.aload_n 0, 1) := by decide +kernel
theorem dX6_isWeight_25 : decode cX6_isWeight 25 = .ok (.getfield 38, 3) := by decide +kernel
theorem dX6_isWeight_28 : decode cX6_isWeight 28 = .ok (.iload_n 1, 1) := by decide +kernel
theorem dX6_isWeight_29 : decode cX6_isWeight 29 = .ok (.iaload, 1) := by decide +kernel
theorem dX6_isWeight_30 : decode cX6_isWeight 30 = .ok (.aload_n 0, 1) := by decide +kernel
theorem dX6_isWeight_31 : decode cX6_isWeight 31 = .ok (.getfield 80, 3) := by decide +kernel
theorem dX6_isWeight_34 : decode cX6_isWeight 34 = .ok (.aload_n 0, 1) := by decide +kernel
theorem dX6_isWeight_35 : decode cX6_isWeight 35 = .ok (.getfield 83, 3) := by decide +kernel
theorem dX6_isWeight_38 : decode cX6_isWeight 38 = .ok (.invokestatic 113, 3) := by decide +kernel
theorem dX6_isWeight_41 : decode cX6_isWeight 41 = .ok (.iload_n 3, 1) := by decide +kernel
theorem dX6_isWeight_42 : decode cX6_isWeight 42 = .ok (.if_icmp .ne 7, 3) := by decide +kernel
theorem dX6_isWeight_45 : decode cX6_isWeight 45 = .ok (.iconst 1, 1) := by decide +kernel
theorem dX6_isWeight_46 : decode cX6_isWeight 46 = .ok (.goto 4, 3) := by decide +kernel
theorem dX6_isWeight_49 : decode cX6_isWeight 49 = .ok (.iconst 0, 1) := by decide +kernel
theorem dX6_isWeight_50 : decode cX6_isWeight 50 = .ok (.ireturn, 1) := by decide +kernel
theorem dX6_noScale_0 : decode cX6_noScale 0 = .ok (.aload_n 0, 1) := by decide +kernel
theorem dX6_noScale_1 : decode cX6_noScale 1 = .ok (.getfield 32, 3) := by decide +kernel
theorem dX6_noScale_4 : decode cX6_noScale 4 = .ok (.iload_n 1, 1) := by decide +kernel
theorem dX6_noScale_5 : decode cX6_noScale 5 = .ok (.iaload, 1) := by decide +kernel
theorem dX6_noScale_6 : decode cX6_noScale 6 = .ok (.ifCond .ne 8, 3) := by decide +kernel
theorem dX6_noScale_9 : decode cX6_noScale 9 = .ok (.bipush (-11), 2) := by decide +kernel
theorem dX6_noScale_11 : decode cX6_noScale 11 = .ok (.goto 19, 3) := by decide +kernel
theorem dX6_noScale_14 : decode cX6_noScale 14 = .ok (.aload_n 0, 1) := by decide +kernel
theorem dX6_noScale_15 : decode cX6_noScale 15 = .ok (.getfield 32, 3) := by decide +kernel
theorem dX6_noScale_18 : decode cX6_noScale 18 = .ok (.iload_n 1, 1) := by decide +kernel
theorem dX6_noScale_19 : decode cX6_noScale 19 = .ok (.iaload, 1) := by decide +kernel
theorem dX6_noScale_20 : decode cX6_noScale 20 = .ok (.iconst 2, 1) := by decide +kernel
theorem dX6_noScale_21 : decode cX6_noScale 21 = .ok (.if_icmp .ne 8, 3) := by decide +kernel
theorem dX6_noScale_24 : decode cX6_noScale 24 = .ok (.bipush (-12), 2) := by decide +kernel
theorem dX6_noScale_26 : decode cX6_noScale 26 = .ok (.goto 4, 3) := by decide +kernel
theorem dX6_noScale_29 : decode cX6_noScale 29 = .ok (.iconst 0, 1) := by decide +kernel
theorem dX6_noScale_30 : decode cX6_noScale 30 = .ok (.ireturn, 1) := by decide +kernel
set_option maxRecDepth 20000 in
theorem ggX6_isShelf_X6_isIn : GoodIn wsX6_isShelf wsX6_isIn := goodIn_r _ [4] (by decide +kernel) (by decide +kernel)
set_option maxRecDepth 20000 in
theorem gX6_isShelf_X6_isIn : GoodIn wsX6_isShelf (va_wsS RX6 68 yX6_isIn wsX6_isIn) := goodIn_app (goodIn_of _ (by decide +kernel)) ggX6_isShelf_X6_isIn
theorem dX6_isShelf_0 : decode cX6_isShelf 0 = .ok (.iload_n 0, 1) := by decide +kernel
theorem dX6_isShelf_1 : decode cX6_isShelf 1 = .ok (.iconst 0, 1) := by decide +kernel
theorem dX6_isShelf_2 : decode cX6_isShelf 2 = .ok (.bipush 7, 2) := by decide +kernel
theorem dX6_isShelf_4 : decode cX6_isShelf 4 = .ok (.invokestatic 68, 3) := by decide +kernel
theorem dX6_isShelf_7 : decode cX6_isShelf 7 = .ok (.ireturn, 1) := by decide +kernel
set_option maxRecDepth 20000 in
theorem ggX6_weighs_X6_isShelf : GoodIn wsX6_weighs wsX6_isShelf := goodIn_r _ [11, 12, 13, 10, 14] (by decide +kernel) (by decide +kernel)
set_option maxRecDepth 20000 in
theorem gX6_weighs_X6_isShelf : GoodIn wsX6_weighs (va_wsS RX6 117 yX6_isShelf wsX6_isShelf) := goodIn_app (goodIn_of _ (by decide +kernel)) ggX6_weighs_X6_isShelf
set_option maxRecDepth 20000 in
theorem ggX6_weighs_X6_isLying : GoodIn wsX6_weighs wsX6_isLying := goodIn_r _ [18, 19, 20, 21, 10, 22, 12, 13, 14, 49, 50, 51, 52, 53, 54, 55, 56, 57, 58, 59, 60, 61, 62, 63, 64, 65, 66, 67, 68, 69, 70, 71, 72, 73, 74, 75, 76, 77, 78, 79, 80] (by decide +kernel) (by decide +kernel)
set_option maxRecDepth 20000 in
theorem gX6_weighs_X6_isLying : GoodIn wsX6_weighs (wsV RX6 98 RX6 yX6_isLying wsX6_isLying) := goodIn_app (goodIn_of _ (by decide +kernel)) ggX6_weighs_X6_isLying
set_option maxRecDepth 20000 in
theorem ggX6_weighs_X6_noScale : GoodIn wsX6_weighs wsX6_noScale := goodIn_r _ [26, 27, 49, 50, 51, 52, 53, 54, 55, 56, 57, 58, 59, 60, 61, 62, 63, 64, 65, 66, 67, 68, 69, 70, 71, 72, 73, 74, 75, 76, 77, 78, 79, 80] (by decide +kernel) (by decide +kernel)
set_option maxRecDepth 20000 in
theorem gX6_weighs_X6_noScale : GoodIn wsX6_weighs (wsV RX6 121 RX6 yX6_noScale wsX6_noScale) := goodIn_app (goodIn_of _ (by decide +kernel)) ggX6_weighs_X6_noScale
set_option maxRecDepth 20000 in
theorem ggX6_weighs_X6_look : GoodIn wsX6_weighs wsX6_look := goodIn_r _ [31, 5, 6, 32, 33, 34, 35, 19, 36, 37, 49, 50, 51, 52, 53, 54, 55, 56, 57, 58, 59, 60, 61, 62, 63, 64, 65, 66, 67, 68, 69, 70, 71, 72, 73, 74, 75, 76, 77, 78, 79, 80] (by decide +kernel) (by decide +kernel)
set_option maxRecDepth 20000 in
theorem gX6_weighs_X6_look : GoodIn wsX6_weighs (wsV RX6 101 RX6 yX6_look wsX6_look) := goodIn_app (goodIn_of _ (by decide +kernel)) ggX6_weighs_X6_look
set_option maxRecDepth 20000 in
theorem ggX6_weighs_X6_mayBe : GoodIn wsX6_weighs wsX6_mayBe := goodIn_r _ [41, 33, 32, 49, 50, 51, 52, 53, 54, 55, 56, 57, 58, 59, 60, 61, 62, 63, 64, 65, 66, 67, 68, 69, 70, 71, 72, 73, 74, 75, 76, 77, 78, 79, 80] (by decide +kernel) (by decide +kernel)
set_option maxRecDepth 20000 in
theorem gX6_weighs_X6_mayBe : GoodIn wsX6_weighs (wsV RX6 110 RX6 yX6_mayBe wsX6_mayBe) := goodIn_app (goodIn_of _ (by decide +kernel)) ggX6_weighs_X6_mayBe
set_option maxRecDepth 20000 in
theorem ggX6_weighs_X6_readBy : GoodIn wsX6_weighs wsX6_readBy := goodIn_r _ [44, 45, 46, 47, 48] (by decide +kernel) (by decide +kernel)
set_option maxRecDepth 20000 in
theorem gX6_weighs_X6_readBy : GoodIn wsX6_weighs (va_wsS RX6 113 yX6_readBy wsX6_readBy) := goodIn_app (goodIn_of _ (by decide +kernel)) ggX6_weighs_X6_readBy
theorem dX6_weighs_0 : decode cX6_weighs 0 = .ok (.iload_n 1, 1) := by decide +kernel
theorem dX6_weighs_1 : decode cX6_weighs 1 = .ok (.invokestatic 117, 3) := by decide +kernel
theorem dX6_weighs_4 : decode cX6_weighs 4 = .ok (.ifCond .eq 11, 3) := by decide +kernel
theorem dX6_weighs_7 : decode cX6_weighs 7 = .ok (.aload_n 0, 1) := by decide +kernel
theorem dX6_weighs_8 : decode cX6_weighs 8 = .ok (.iload_n 2, 1) := by decide +kernel
theorem dX6_weighs_9 : decode cX6_weighs 9 = .ok (.invokevirtual 98, 3) := by decide +kernel
theorem dX6_weighs_12 : decode cX6_weighs 12 = .ok (.ifCond .ne 6, 3) := by decide +kernel
theorem dX6_weighs_15 : decode cX6_weighs 15 = .ok (.ldc 120, 2) := by decide +kernel
theorem dX6_weighs_17 : decode cX6_weighs 17 = .ok (.ireturn, 1) := by decide +kernel
theorem dX6_weighs_18 : decode cX6_weighs 18 = .ok (.aload_n 0, 1) := by decide +kernel
theorem dX6_weighs_19 : decode cX6_weighs 19 = .ok (.iload_n 1, 1) := by decide +kernel
theorem dX6_weighs_20 : decode cX6_weighs 20 = .ok (.invokevirtual 121, 3) := by decide +kernel
theorem dX6_weighs_23 : decode cX6_weighs 23 = .ok (.ifCond .eq 12, 3) := by decide +kernel
theorem dX6_weighs_26 : decode cX6_weighs 26 = .ok (.aload_n 0, 1) := by decide +kernel
theorem dX6_weighs_27 : decode cX6_weighs 27 = .ok (.iload_n 1, 1) := by decide +kernel
theorem dX6_weighs_28 : decode cX6_weighs 28 = .ok (.invokevirtual 121, 3) := by decide +kernel
theorem dX6_weighs_31 : decode cX6_weighs 31 = .ok (.ldc 124, 2) := by decide +kernel
theorem dX6_weighs_33 : decode cX6_weighs 33 = .ok (.isub, 1) := by decide +kernel
theorem dX6_weighs_34 : decode cX6_weighs 34 = .ok (.ireturn, 1) := by decide +kernel
theorem dX6_weighs_35 : decode cX6_weighs 35 = .ok (.aload_n 0, 1) := by decide +kernel
theorem dX6_weighs_36 : decode cX6_weighs 36 = .ok (.iload_n 2, 1) := by decide +kernel
theorem dX6_weighs_37 : decode cX6_weighs 37 = .ok (.invokevirtual 101, 3) := by decide +kernel
theorem dX6_weighs_40 : decode cX6_weighs 40 = .ok (.aload_n 0, 1) := by decide +kernel
theorem dX6_weighs_41 : decode cX6_weighs 41 = .ok (.aload_n 0, 1) := by decide +kernel
theorem dX6_weighs_42 : decode cX6_weighs 42 = .ok (.getfield 35, 3) := by decide +kernel
theorem dX6_weighs_45 : decode cX6_weighs 45 = .ok (.iload_n 1, 1) := by decide +kernel
theorem dX6_weighs_46 : decode cX6_weighs 46 = .ok (.iaload, 1) := by decide +kernel
theorem dX6_weighs_47 : decode cX6_weighs 47 = .ok (.invokevirtual 110, 3) := by decide +kernel
theorem dX6_weighs_50 : decode cX6_weighs 50 = .ok (.ifCond .eq 29, 3) := by decide +kernel
theorem dX6_weighs_53 : decode cX6_weighs 53 = .ok (.aload_n 0, 1) := by decide +kernel
theorem dX6_weighs_54 : decode cX6_weighs 54 = .ok (.getfield 35, 3) := by decide +kernel
theorem dX6_weighs_57 : decode cX6_weighs 57 = .ok (.iload_n 1, 1) := by decide +kernel
theorem dX6_weighs_58 : decode cX6_weighs 58 = .ok (.iaload, 1) := by decide +kernel
theorem dX6_weighs_59 : decode cX6_weighs 59 = .ok (.aload_n 0, 1) := by decide +kernel
theorem dX6_weighs_60 : decode cX6_weighs 60 = .ok (.getfield 38, 3) := by decide +kernel
theorem dX6_weighs_63 : decode cX6_weighs 63 = .ok (.iload_n 1, 1) := by decide +kernel
theorem dX6_weighs_64 : decode cX6_weighs 64 = .ok (.iaload, 1) := by decide +kernel
theorem dX6_weighs_65 : decode cX6_weighs 65 = .ok (.aload_n 0, 1) := by decide +kernel
theorem dX6_weighs_66 : decode cX6_weighs 66 = .ok (.getfield 80, 3) := by decide +kernel
theorem dX6_weighs_69 : decode cX6_weighs 69 = .ok (.aload_n 0, 1) := by decide +kernel
theorem dX6_weighs_70 : decode cX6_weighs 70 = .ok (.getfield 83, 3) := by decide +kernel
theorem dX6_weighs_73 : decode cX6_weighs 73 = .ok (.invokestatic 113, 3) := by decide +kernel
theorem dX6_weighs_76 : decode cX6_weighs 76 = .ok (.goto 5, 3) := by decide +kernel
theorem dX6_weighs_79 : decode cX6_weighs 79 = .ok (.ldc 125, 2) := by decide +kernel
theorem dX6_weighs_81 : decode cX6_weighs 81 = .ok (.ireturn, 1) := by decide +kernel
set_option maxRecDepth 20000 in
theorem ggX6_may_X6_isShelf : GoodIn wsX6_may wsX6_isShelf := goodIn_r _ [5, 6, 7, 4, 8] (by decide +kernel) (by decide +kernel)
set_option maxRecDepth 20000 in
theorem gX6_may_X6_isShelf : GoodIn wsX6_may (va_wsS RX6 117 yX6_isShelf wsX6_isShelf) := goodIn_app (goodIn_of _ (by decide +kernel)) ggX6_may_X6_isShelf
set_option maxRecDepth 20000 in
theorem ggX6_may_X6_isLying : GoodIn wsX6_may wsX6_isLying := goodIn_r _ [12, 13, 14, 15, 4, 16, 6, 7, 8, 38, 39, 40, 41, 42, 43, 44, 45, 46, 47, 48, 49, 50, 51, 52, 53, 54, 55, 56, 57, 58, 59, 60, 61, 62, 63, 64, 65, 66, 67, 68, 69] (by decide +kernel) (by decide +kernel)
set_option maxRecDepth 20000 in
theorem gX6_may_X6_isLying : GoodIn wsX6_may (wsV RX6 98 RX6 yX6_isLying wsX6_isLying) := goodIn_app (goodIn_of _ (by decide +kernel)) ggX6_may_X6_isLying
set_option maxRecDepth 20000 in
theorem ggX6_may_X6_noScale : GoodIn wsX6_may wsX6_noScale := goodIn_r _ [20, 21, 38, 39, 40, 41, 42, 43, 44, 45, 46, 47, 48, 49, 50, 51, 52, 53, 54, 55, 56, 57, 58, 59, 60, 61, 62, 63, 64, 65, 66, 67, 68, 69] (by decide +kernel) (by decide +kernel)
set_option maxRecDepth 20000 in
theorem gX6_may_X6_noScale : GoodIn wsX6_may (wsV RX6 121 RX6 yX6_noScale wsX6_noScale) := goodIn_app (goodIn_of _ (by decide +kernel)) ggX6_may_X6_noScale
set_option maxRecDepth 20000 in
theorem ggX6_may_X6_look : GoodIn wsX6_may wsX6_look := goodIn_r _ [25, 26, 27, 28, 29, 30, 31, 13, 32, 33, 38, 39, 40, 41, 42, 43, 44, 45, 46, 47, 48, 49, 50, 51, 52, 53, 54, 55, 56, 57, 58, 59, 60, 61, 62, 63, 64, 65, 66, 67, 68, 69] (by decide +kernel) (by decide +kernel)
set_option maxRecDepth 20000 in
theorem gX6_may_X6_look : GoodIn wsX6_may (wsV RX6 101 RX6 yX6_look wsX6_look) := goodIn_app (goodIn_of _ (by decide +kernel)) ggX6_may_X6_look
set_option maxRecDepth 20000 in
theorem ggX6_may_X6_mayBe : GoodIn wsX6_may wsX6_mayBe := goodIn_r _ [37, 29, 28, 38, 39, 40, 41, 42, 43, 44, 45, 46, 47, 48, 49, 50, 51, 52, 53, 54, 55, 56, 57, 58, 59, 60, 61, 62, 63, 64, 65, 66, 67, 68, 69] (by decide +kernel) (by decide +kernel)
set_option maxRecDepth 20000 in
theorem gX6_may_X6_mayBe : GoodIn wsX6_may (wsV RX6 110 RX6 yX6_mayBe wsX6_mayBe) := goodIn_app (goodIn_of _ (by decide +kernel)) ggX6_may_X6_mayBe
theorem dX6_may_0 : decode cX6_may 0 = .ok (.iload_n 1, 1) := by decide +kernel
theorem dX6_may_1 : decode cX6_may 1 = .ok (.invokestatic 117, 3) := by decide +kernel
theorem dX6_may_4 : decode cX6_may 4 = .ok (.ifCond .eq 11, 3) := by decide +kernel
theorem dX6_may_7 : decode cX6_may 7 = .ok (.aload_n 0, 1) := by decide +kernel
theorem dX6_may_8 : decode cX6_may 8 = .ok (.iload_n 2, 1) := by decide +kernel
theorem dX6_may_9 : decode cX6_may 9 = .ok (.invokevirtual 98, 3) := by decide +kernel
theorem dX6_may_12 : decode cX6_may 12 = .ok (.ifCond .ne 5, 3) := by decide +kernel
theorem dX6_may_15 : decode cX6_may 15 = .ok (.iconst (-1), 1) := by decide +kernel
theorem dX6_may_16 : decode cX6_may 16 = .ok (.ireturn, 1) := by decide +kernel
theorem dX6_may_17 : decode cX6_may 17 = .ok (.aload_n 0, 1) := by decide +kernel
theorem dX6_may_18 : decode cX6_may 18 = .ok (.iload_n 1, 1) := by decide +kernel
theorem dX6_may_19 : decode cX6_may 19 = .ok (.invokevirtual 121, 3) := by decide +kernel
theorem dX6_may_22 : decode cX6_may 22 = .ok (.ifCond .eq 9, 3) := by decide +kernel
theorem dX6_may_25 : decode cX6_may 25 = .ok (.aload_n 0, 1) := by decide +kernel
theorem dX6_may_26 : decode cX6_may 26 = .ok (.iload_n 1, 1) := by decide +kernel
theorem dX6_may_27 : decode cX6_may 27 = .ok (.invokevirtual 121, 3) := by decide +kernel
theorem dX6_may_30 : decode cX6_may 30 = .ok (.ireturn, 1) := by decide +kernel
theorem dX6_may_31 : decode cX6_may 31 = .ok (.aload_n 0, 1) := by decide +kernel
theorem dX6_may_32 : decode cX6_may 32 = .ok (.iload_n 2, 1) := by decide +kernel
theorem dX6_may_33 : decode cX6_may 33 = .ok (.invokevirtual 101, 3) := by decide +kernel
theorem dX6_may_36 : decode cX6_may 36 = .ok (.aload_n 0, 1) := by decide +kernel
theorem dX6_may_37 : decode cX6_may 37 = .ok (.aload_n 0, 1) := by decide +kernel
theorem dX6_may_38 : decode cX6_may 38 = .ok (.getfield 35, 3) := by decide +kernel
theorem dX6_may_41 : decode cX6_may 41 = .ok (.iload_n 1, 1) := by decide +kernel
theorem dX6_may_42 : decode cX6_may 42 = .ok (.iaload, 1) := by decide +kernel
theorem dX6_may_43 : decode cX6_may 43 = .ok (.invokevirtual 110, 3) := by decide +kernel
theorem dX6_may_46 : decode cX6_may 46 = .ok (.ifCond .eq 7, 3) := by decide +kernel
theorem dX6_may_49 : decode cX6_may 49 = .ok (.iconst 1, 1) := by decide +kernel
theorem dX6_may_50 : decode cX6_may 50 = .ok (.goto 4, 3) := by decide +kernel
theorem dX6_may_53 : decode cX6_may 53 = .ok (.iconst 0, 1) := by decide +kernel
theorem dX6_may_54 : decode cX6_may 54 = .ok (.ireturn, 1) := by decide +kernel
set_option maxRecDepth 20000 in
theorem ggX6_ways_X6_isShelf : GoodIn wsX6_ways wsX6_isShelf := goodIn_r _ [5, 6, 7, 4, 8] (by decide +kernel) (by decide +kernel)
set_option maxRecDepth 20000 in
theorem gX6_ways_X6_isShelf : GoodIn wsX6_ways (va_wsS RX6 117 yX6_isShelf wsX6_isShelf) := goodIn_app (goodIn_of _ (by decide +kernel)) ggX6_ways_X6_isShelf
set_option maxRecDepth 20000 in
theorem ggX6_ways_X6_isIn : GoodIn wsX6_ways wsX6_isIn := goodIn_r _ [8] (by decide +kernel) (by decide +kernel)
set_option maxRecDepth 20000 in
theorem gX6_ways_X6_isIn : GoodIn wsX6_ways (va_wsS RX6 68 yX6_isIn wsX6_isIn) := goodIn_app (goodIn_of _ (by decide +kernel)) ggX6_ways_X6_isIn
set_option maxRecDepth 20000 in
theorem ggX6_ways_X6_noScale : GoodIn wsX6_ways wsX6_noScale := goodIn_r _ [12, 13, 46, 47, 48, 49, 50, 51, 52, 53, 54, 55, 56, 57, 58, 59, 60, 61, 62, 63, 64, 65, 66, 67, 68, 69, 70, 71, 72, 73, 74, 75, 76, 77] (by decide +kernel) (by decide +kernel)
set_option maxRecDepth 20000 in
theorem gX6_ways_X6_noScale : GoodIn wsX6_ways (wsV RX6 121 RX6 yX6_noScale wsX6_noScale) := goodIn_app (goodIn_of _ (by decide +kernel)) ggX6_ways_X6_noScale
set_option maxRecDepth 20000 in
theorem ggX6_ways_X6_power : GoodIn wsX6_ways wsX6_power := goodIn_r _ [16] (by decide +kernel) (by decide +kernel)
set_option maxRecDepth 20000 in
theorem gX6_ways_X6_power : GoodIn wsX6_ways (va_wsS RX6 76 yX6_power wsX6_power) := goodIn_app (goodIn_of _ (by decide +kernel)) ggX6_ways_X6_power
set_option maxRecDepth 20000 in
theorem ggX6_ways_X6_isWeight : GoodIn wsX6_ways wsX6_isWeight := goodIn_r _ [20, 21, 22, 23, 24, 25, 26, 27, 4, 28, 29, 30, 31, 32, 1, 33, 34, 35, 36, 37, 38, 39, 40, 41, 42, 43, 44, 45, 46, 47, 48, 49, 50, 51, 52, 53, 54, 55, 56, 57, 58, 59, 60, 61, 62, 63, 64, 65, 66, 67, 68, 69, 70, 71, 72, 73, 74, 75, 76, 77] (by decide +kernel) (by decide +kernel)
set_option maxRecDepth 20000 in
theorem gX6_ways_X6_isWeight : GoodIn wsX6_ways (wsV RX6 126 RX6 yX6_isWeight wsX6_isWeight) := goodIn_app (goodIn_of _ (by decide +kernel)) ggX6_ways_X6_isWeight
theorem dX6_ways_0 : decode cX6_ways 0 = .ok (.iload_n 1, 1) := by decide +kernel
theorem dX6_ways_1 : decode cX6_ways 1 = .ok (.invokestatic 117, 3) := by decide +kernel
theorem dX6_ways_4 : decode cX6_ways 4 = .ok (.ifCond .eq 16, 3) := by decide +kernel
theorem dX6_ways_7 : decode cX6_ways 7 = .ok (.iload_n 2, 1) := by decide +kernel
theorem dX6_ways_8 : decode cX6_ways 8 = .ok (.sipush (-9999), 3) := by decide +kernel
theorem dX6_ways_11 : decode cX6_ways 11 = .ok (.sipush 9999, 3) := by decide +kernel
theorem dX6_ways_14 : decode cX6_ways 14 = .ok (.invokestatic 68, 3) := by decide +kernel
theorem dX6_ways_17 : decode cX6_ways 17 = .ok (.ifCond .ne 5, 3) := by decide +kernel
theorem dX6_ways_20 : decode cX6_ways 20 = .ok (.iconst (-1), 1) := by decide +kernel
theorem dX6_ways_21 : decode cX6_ways 21 = .ok (.ireturn, 1) := by decide +kernel
theorem dX6_ways_22 : decode cX6_ways 22 = .ok (.aload_n 0, 1) := by decide +kernel
theorem dX6_ways_23 : decode cX6_ways 23 = .ok (.iload_n 1, 1) := by decide +kernel
theorem dX6_ways_24 : decode cX6_ways 24 = .ok (.invokevirtual 121, 3) := by decide +kernel
theorem dX6_ways_27 : decode cX6_ways 27 = .ok (.ifCond .eq 9, 3) := by decide +kernel
theorem dX6_ways_30 : decode cX6_ways 30 = .ok (.aload_n 0, 1) := by decide +kernel
theorem dX6_ways_31 : decode cX6_ways 31 = .ok (.iload_n 1, 1) := by decide +kernel
theorem dX6_ways_32 : decode cX6_ways 32 = .ok (.invokevirtual 121, 3) := by decide +kernel
theorem dX6_ways_35 : decode cX6_ways 35 = .ok (.ireturn, 1) := by decide +kernel
theorem dX6_ways_36 : decode cX6_ways 36 = .ok (.iconst 0, 1) := by decide +kernel
theorem dX6_ways_37 : decode cX6_ways 37 = .ok (.istore_n 3, 1) := by decide +kernel
theorem dX6_ways_38 : decode cX6_ways 38 = .ok (.iconst 0, 1) := by decide +kernel
theorem dX6_ways_39 : decode cX6_ways 39 = .ok (.istore 4, 2) := by decide +kernel
theorem dX6_ways_41 : decode cX6_ways 41 = .ok (.iload 4, 2) := by decide +kernel
theorem dX6_ways_43 : decode cX6_ways 43 = .ok (.aload_n 0, 1) := by decide +kernel
theorem dX6_ways_44 : decode cX6_ways 44 = .ok (.getfield 57, 3) := by decide +kernel
theorem dX6_ways_47 : decode cX6_ways 47 = .ok (.invokestatic 76, 3) := by decide +kernel
theorem dX6_ways_50 : decode cX6_ways 50 = .ok (.if_icmp .ge 28, 3) := by decide +kernel
theorem dX6_ways_53 : decode cX6_ways 53 = .ok (.iload_n 3, 1) := by decide +kernel
theorem dX6_ways_54 : decode cX6_ways 54 = .ok (.aload_n 0, 1) := by decide +kernel
theorem dX6_ways_55 : decode cX6_ways 55 = .ok (.iload_n 1, 1) := by decide +kernel
theorem dX6_ways_56 : decode cX6_ways 56 = .ok (.iload 4, 2) := by decide +kernel
theorem dX6_ways_58 : decode cX6_ways 58 = .ok (.iload_n 2, 1) := by decide +kernel
theorem dX6_ways_59 : decode cX6_ways 59 = .ok (.invokevirtual 126, 3) := by decide +kernel
theorem dX6_ways_62 : decode cX6_ways 62 = .ok (.ifCond .eq 7, 3) := by decide +kernel
theorem dX6_ways_65 : decode cX6_ways 65 = .ok (.iconst 1, 1) := by decide +kernel
theorem dX6_ways_66 : decode cX6_ways 66 = .ok (.goto 4, 3) := by decide +kernel
theorem dX6_ways_69 : decode cX6_ways 69 = .ok (.iconst 0, 1) := by decide +kernel
theorem dX6_ways_70 : decode cX6_ways 70 = .ok (.iadd, 1) := by decide +kernel
theorem dX6_ways_71 : decode cX6_ways 71 = .ok (.istore_n 3, 1) := by decide +kernel
theorem dX6_ways_72 : decode cX6_ways 72 = .ok (.iinc 4 1, 3) := by decide +kernel
theorem dX6_ways_75 : decode cX6_ways 75 = .ok (.goto (-34), 3) := by decide +kernel
theorem dX6_ways_78 : decode cX6_ways 78 = .ok (.iload_n 3, 1) := by decide +kernel
theorem dX6_ways_79 : decode cX6_ways 79 = .ok (.ireturn, 1) := by decide +kernel
set_option maxRecDepth 20000 in
theorem ggX6_first_X6_isShelf : GoodIn wsX6_first wsX6_isShelf := goodIn_r _ [5, 6, 7, 4, 8] (by decide +kernel) (by decide +kernel)
set_option maxRecDepth 20000 in
theorem gX6_first_X6_isShelf : GoodIn wsX6_first (va_wsS RX6 117 yX6_isShelf wsX6_isShelf) := goodIn_app (goodIn_of _ (by decide +kernel)) ggX6_first_X6_isShelf
set_option maxRecDepth 20000 in
theorem ggX6_first_X6_isIn : GoodIn wsX6_first wsX6_isIn := goodIn_r _ [8] (by decide +kernel) (by decide +kernel)
set_option maxRecDepth 20000 in
theorem gX6_first_X6_isIn : GoodIn wsX6_first (va_wsS RX6 68 yX6_isIn wsX6_isIn) := goodIn_app (goodIn_of _ (by decide +kernel)) ggX6_first_X6_isIn
set_option maxRecDepth 20000 in
theorem ggX6_first_X6_noScale : GoodIn wsX6_first wsX6_noScale := goodIn_r _ [12, 13, 46, 47, 48, 49, 50, 51, 52, 53, 54, 55, 56, 57, 58, 59, 60, 61, 62, 63, 64, 65, 66, 67, 68, 69, 70, 71, 72, 73, 74, 75, 76, 77] (by decide +kernel) (by decide +kernel)
set_option maxRecDepth 20000 in
theorem gX6_first_X6_noScale : GoodIn wsX6_first (wsV RX6 121 RX6 yX6_noScale wsX6_noScale) := goodIn_app (goodIn_of _ (by decide +kernel)) ggX6_first_X6_noScale
set_option maxRecDepth 20000 in
theorem ggX6_first_X6_power : GoodIn wsX6_first wsX6_power := goodIn_r _ [16] (by decide +kernel) (by decide +kernel)
set_option maxRecDepth 20000 in
theorem gX6_first_X6_power : GoodIn wsX6_first (va_wsS RX6 76 yX6_power wsX6_power) := goodIn_app (goodIn_of _ (by decide +kernel)) ggX6_first_X6_power
set_option maxRecDepth 20000 in
theorem ggX6_first_X6_isWeight : GoodIn wsX6_first wsX6_isWeight := goodIn_r _ [20, 21, 22, 23, 24, 25, 26, 27, 4, 28, 29, 30, 31, 32, 1, 33, 34, 35, 36, 37, 38, 39, 40, 41, 42, 43, 44, 45, 46, 47, 48, 49, 50, 51, 52, 53, 54, 55, 56, 57, 58, 59, 60, 61, 62, 63, 64, 65, 66, 67, 68, 69, 70, 71, 72, 73, 74, 75, 76, 77] (by decide +kernel) (by decide +kernel)
set_option maxRecDepth 20000 in
theorem gX6_first_X6_isWeight : GoodIn wsX6_first (wsV RX6 126 RX6 yX6_isWeight wsX6_isWeight) := goodIn_app (goodIn_of _ (by decide +kernel)) ggX6_first_X6_isWeight
theorem dX6_first_0 : decode cX6_first 0 = .ok (.iload_n 1, 1) := by decide +kernel
theorem dX6_first_1 : decode cX6_first 1 = .ok (.invokestatic 117, 3) := by decide +kernel
theorem dX6_first_4 : decode cX6_first 4 = .ok (.ifCond .eq 16, 3) := by decide +kernel
theorem dX6_first_7 : decode cX6_first 7 = .ok (.iload_n 2, 1) := by decide +kernel
theorem dX6_first_8 : decode cX6_first 8 = .ok (.sipush (-9999), 3) := by decide +kernel
theorem dX6_first_11 : decode cX6_first 11 = .ok (.sipush 9999, 3) := by decide +kernel
theorem dX6_first_14 : decode cX6_first 14 = .ok (.invokestatic 68, 3) := by decide +kernel
theorem dX6_first_17 : decode cX6_first 17 = .ok (.ifCond .ne 5, 3) := by decide +kernel
theorem dX6_first_20 : decode cX6_first 20 = .ok (.iconst (-1), 1) := by decide +kernel
theorem dX6_first_21 : decode cX6_first 21 = .ok (.ireturn, 1) := by decide +kernel
theorem dX6_first_22 : decode cX6_first 22 = .ok (.aload_n 0, 1) := by decide +kernel
theorem dX6_first_23 : decode cX6_first 23 = .ok (.iload_n 1, 1) := by decide +kernel
theorem dX6_first_24 : decode cX6_first 24 = .ok (.invokevirtual 121, 3) := by decide +kernel
theorem dX6_first_27 : decode cX6_first 27 = .ok (.ifCond .eq 9, 3) := by decide +kernel
theorem dX6_first_30 : decode cX6_first 30 = .ok (.aload_n 0, 1) := by decide +kernel
theorem dX6_first_31 : decode cX6_first 31 = .ok (.iload_n 1, 1) := by decide +kernel
theorem dX6_first_32 : decode cX6_first 32 = .ok (.invokevirtual 121, 3) := by decide +kernel
theorem dX6_first_35 : decode cX6_first 35 = .ok (.ireturn, 1) := by decide +kernel
theorem dX6_first_36 : decode cX6_first 36 = .ok (.iconst 0, 1) := by decide +kernel
theorem dX6_first_37 : decode cX6_first 37 = .ok (.istore_n 3, 1) := by decide +kernel
theorem dX6_first_38 : decode cX6_first 38 = .ok (.iload_n 3, 1) := by decide +kernel
theorem dX6_first_39 : decode cX6_first 39 = .ok (.aload_n 0, 1) := by decide +kernel
theorem dX6_first_40 : decode cX6_first 40 = .ok (.getfield 57, 3) := by decide +kernel
theorem dX6_first_43 : decode cX6_first 43 = .ok (.invokestatic 76, 3) := by decide +kernel
theorem dX6_first_46 : decode cX6_first 46 = .ok (.if_icmp .ge 21, 3) := by decide +kernel
theorem dX6_first_49 : decode cX6_first 49 = .ok (.aload_n 0, 1) := by decide +kernel
theorem dX6_first_50 : decode cX6_first 50 = .ok (.iload_n 1, 1) := by decide +kernel
theorem dX6_first_51 : decode cX6_first 51 = .ok (.iload_n 3, 1) := by decide +kernel
theorem dX6_first_52 : decode cX6_first 52 = .ok (.iload_n 2, 1) := by decide +kernel
theorem dX6_first_53 : decode cX6_first 53 = .ok (.invokevirtual 126, 3) := by decide +kernel
theorem dX6_first_56 : decode cX6_first 56 = .ok (.ifCond .eq 5, 3) := by decide +kernel
theorem dX6_first_59 : decode cX6_first 59 = .ok (.iload_n 3, 1) := by decide +kernel
theorem dX6_first_60 : decode cX6_first 60 = .ok (.ireturn, 1) := by decide +kernel
theorem dX6_first_61 : decode cX6_first 61 = .ok (.iinc 3 1, 3) := by decide +kernel
theorem dX6_first_64 : decode cX6_first 64 = .ok (.goto (-26), 3) := by decide +kernel
theorem dX6_first_67 : decode cX6_first 67 = .ok (.bipush (-4), 2) := by decide +kernel
theorem dX6_first_69 : decode cX6_first 69 = .ok (.ireturn, 1) := by decide +kernel
set_option maxRecDepth 20000 in
theorem ggX6_lifts_X6_isShelf : GoodIn wsX6_lifts wsX6_isShelf := goodIn_r _ [7, 8, 9, 6, 10] (by decide +kernel) (by decide +kernel)
set_option maxRecDepth 20000 in
theorem gX6_lifts_X6_isShelf : GoodIn wsX6_lifts (va_wsS RX6 117 yX6_isShelf wsX6_isShelf) := goodIn_app (goodIn_of _ (by decide +kernel)) ggX6_lifts_X6_isShelf
set_option maxRecDepth 20000 in
theorem ggX6_lifts_X6_isIn : GoodIn wsX6_lifts wsX6_isIn := goodIn_r _ [10] (by decide +kernel) (by decide +kernel)
set_option maxRecDepth 20000 in
theorem gX6_lifts_X6_isIn : GoodIn wsX6_lifts (va_wsS RX6 68 yX6_isIn wsX6_isIn) := goodIn_app (goodIn_of _ (by decide +kernel)) ggX6_lifts_X6_isIn
set_option maxRecDepth 20000 in
theorem ggX6_lifts_X6_noScale : GoodIn wsX6_lifts wsX6_noScale := goodIn_r _ [14, 15, 46, 47, 48, 49, 50, 51, 52, 53, 54, 55, 56, 57, 58, 59, 60, 61, 62, 63, 64, 65, 66, 67, 68, 69, 70, 71, 72, 73, 74, 75, 76, 77] (by decide +kernel) (by decide +kernel)
set_option maxRecDepth 20000 in
theorem gX6_lifts_X6_noScale : GoodIn wsX6_lifts (wsV RX6 121 RX6 yX6_noScale wsX6_noScale) := goodIn_app (goodIn_of _ (by decide +kernel)) ggX6_lifts_X6_noScale
set_option maxRecDepth 20000 in
theorem ggX6_lifts_X6_power : GoodIn wsX6_lifts wsX6_power := goodIn_r _ [18] (by decide +kernel) (by decide +kernel)
set_option maxRecDepth 20000 in
theorem gX6_lifts_X6_power : GoodIn wsX6_lifts (va_wsS RX6 76 yX6_power wsX6_power) := goodIn_app (goodIn_of _ (by decide +kernel)) ggX6_lifts_X6_power
set_option maxRecDepth 20000 in
theorem ggX6_lifts_X6_isWeight : GoodIn wsX6_lifts wsX6_isWeight := goodIn_r _ [22, 23, 24, 25, 26, 27, 28, 29, 6, 30, 2, 3, 31, 32, 1, 33, 34, 35, 36, 37, 38, 39, 40, 41, 42, 43, 44, 45, 46, 47, 48, 49, 50, 51, 52, 53, 54, 55, 56, 57, 58, 59, 60, 61, 62, 63, 64, 65, 66, 67, 68, 69, 70, 71, 72, 73, 74, 75, 76, 77] (by decide +kernel) (by decide +kernel)
set_option maxRecDepth 20000 in
theorem gX6_lifts_X6_isWeight : GoodIn wsX6_lifts (wsV RX6 126 RX6 yX6_isWeight wsX6_isWeight) := goodIn_app (goodIn_of _ (by decide +kernel)) ggX6_lifts_X6_isWeight
theorem dX6_lifts_0 : decode cX6_lifts 0 = .ok (.iload_n 1, 1) := by decide +kernel
theorem dX6_lifts_1 : decode cX6_lifts 1 = .ok (.invokestatic 117, 3) := by decide +kernel
theorem dX6_lifts_4 : decode cX6_lifts 4 = .ok (.ifCond .eq 25, 3) := by decide +kernel
theorem dX6_lifts_7 : decode cX6_lifts 7 = .ok (.iload_n 2, 1) := by decide +kernel
theorem dX6_lifts_8 : decode cX6_lifts 8 = .ok (.sipush (-9999), 3) := by decide +kernel
theorem dX6_lifts_11 : decode cX6_lifts 11 = .ok (.sipush 9999, 3) := by decide +kernel
theorem dX6_lifts_14 : decode cX6_lifts 14 = .ok (.invokestatic 68, 3) := by decide +kernel
theorem dX6_lifts_17 : decode cX6_lifts 17 = .ok (.ifCond .eq 12, 3) := by decide +kernel
theorem dX6_lifts_20 : decode cX6_lifts 20 = .ok (.iload_n 3, 1) := by decide +kernel
theorem dX6_lifts_21 : decode cX6_lifts 21 = .ok (.iconst 0, 1) := by decide +kernel
theorem dX6_lifts_22 : decode cX6_lifts 22 = .ok (.iconst 1, 1) := by decide +kernel
theorem dX6_lifts_23 : decode cX6_lifts 23 = .ok (.invokestatic 68, 3) := by decide +kernel
theorem dX6_lifts_26 : decode cX6_lifts 26 = .ok (.ifCond .ne 5, 3) := by decide +kernel
theorem dX6_lifts_29 : decode cX6_lifts 29 = .ok (.iconst (-1), 1) := by decide +kernel
theorem dX6_lifts_30 : decode cX6_lifts 30 = .ok (.ireturn, 1) := by decide +kernel
theorem dX6_lifts_31 : decode cX6_lifts 31 = .ok (.aload_n 0, 1) := by decide +kernel
theorem dX6_lifts_32 : decode cX6_lifts 32 = .ok (.iload_n 1, 1) := by decide +kernel
theorem dX6_lifts_33 : decode cX6_lifts 33 = .ok (.invokevirtual 121, 3) := by decide +kernel
theorem dX6_lifts_36 : decode cX6_lifts 36 = .ok (.ifCond .eq 9, 3) := by decide +kernel
theorem dX6_lifts_39 : decode cX6_lifts 39 = .ok (.aload_n 0, 1) := by decide +kernel
theorem dX6_lifts_40 : decode cX6_lifts 40 = .ok (.iload_n 1, 1) := by decide +kernel
theorem dX6_lifts_41 : decode cX6_lifts 41 = .ok (.invokevirtual 121, 3) := by decide +kernel
theorem dX6_lifts_44 : decode cX6_lifts 44 = .ok (.ireturn, 1) := by decide +kernel
theorem dX6_lifts_45 : decode cX6_lifts 45 = .ok (.bipush (-4), 2) := by decide +kernel
theorem dX6_lifts_47 : decode cX6_lifts 47 = .ok (.istore 4, 2) := by decide +kernel
theorem dX6_lifts_49 : decode cX6_lifts 49 = .ok (.bipush (-4), 2) := by decide +kernel
theorem dX6_lifts_51 : decode cX6_lifts 51 = .ok (.istore 5, 2) := by decide +kernel
theorem dX6_lifts_53 : decode cX6_lifts 53 = .ok (.iconst 0, 1) := by decide +kernel
theorem dX6_lifts_54 : decode cX6_lifts 54 = .ok (.istore 6, 2) := by decide +kernel
theorem dX6_lifts_56 : decode cX6_lifts 56 = .ok (.iload 6, 2) := by decide +kernel
theorem dX6_lifts_58 : decode cX6_lifts 58 = .ok (.aload_n 0, 1) := by decide +kernel
theorem dX6_lifts_59 : decode cX6_lifts 59 = .ok (.getfield 57, 3) := by decide +kernel
theorem dX6_lifts_62 : decode cX6_lifts 62 = .ok (.invokestatic 76, 3) := by decide +kernel
theorem dX6_lifts_65 : decode cX6_lifts 65 = .ok (.if_icmp .ge 56, 3) := by decide +kernel
theorem dX6_lifts_68 : decode cX6_lifts 68 = .ok (.aload_n 0, 1) := by decide +kernel
theorem dX6_lifts_69 : decode cX6_lifts 69 = .ok (.iload_n 1, 1) := by decide +kernel
theorem dX6_lifts_70 : decode cX6_lifts 70 = .ok (.iload 6, 2) := by decide +kernel
theorem dX6_lifts_72 : decode cX6_lifts 72 = .ok (.iload_n 2, 1) := by decide +kernel
theorem dX6_lifts_73 : decode cX6_lifts 73 = .ok (.invokevirtual 126, 3) := by decide +kernel
theorem dX6_lifts_76 : decode cX6_lifts 76 = .ok (.ifCond .eq 39, 3) := by decide +kernel
theorem dX6_lifts_79 : decode cX6_lifts 79 = .ok (.iload 5, 2) := by decide +kernel
theorem dX6_lifts_81 : decode cX6_lifts 81 = .ok (.bipush (-4), 2) := by decide +kernel
theorem dX6_lifts_83 : decode cX6_lifts 83 = .ok (.if_icmp .eq 17, 3) := by decide +kernel
theorem dX6_lifts_86 : decode cX6_lifts 86 = .ok (.aload_n 0, 1) := by decide +kernel
theorem dX6_lifts_87 : decode cX6_lifts 87 = .ok (.getfield 86, 3) := by decide +kernel
theorem dX6_lifts_90 : decode cX6_lifts 90 = .ok (.aload_n 0, 1) := by decide +kernel
theorem dX6_lifts_91 : decode cX6_lifts 91 = .ok (.getfield 89, 3) := by decide +kernel
theorem dX6_lifts_94 : decode cX6_lifts 94 = .ok (.iadd, 1) := by decide +kernel
theorem dX6_lifts_95 : decode cX6_lifts 95 = .ok (.iload 4, 2) := by decide +kernel
theorem dX6_lifts_97 : decode cX6_lifts 97 = .ok (.if_icmp .ge 18, 3) := by decide +kernel
theorem dX6_lifts_100 : decode cX6_lifts 100 = .ok (.aload_n 0, 1) := by decide +kernel
theorem dX6_lifts_101 : decode cX6_lifts 101 = .ok (.getfield 86, 3) := by decide +kernel
theorem dX6_lifts_104 : decode cX6_lifts 104 = .ok (.aload_n 0, 1) := by decide +kernel
theorem dX6_lifts_105 : decode cX6_lifts 105 = .ok (.getfield 89, 3) := by decide +kernel
theorem dX6_lifts_108 : decode cX6_lifts 108 = .ok (.iadd, 1) := by decide +kernel
theorem dX6_lifts_109 : decode cX6_lifts 109 = .ok (.istore 4, 2) := by decide +kernel
theorem dX6_lifts_111 : decode cX6_lifts 111 = .ok (.iload 6, 2) := by decide +kernel
theorem dX6_lifts_113 : decode cX6_lifts 113 = .ok (.istore 5, 2) := by decide +kernel
theorem dX6_lifts_115 : decode cX6_lifts 115 = .ok (.iinc 6 1, 3) := by decide +kernel
theorem dX6_lifts_118 : decode cX6_lifts 118 = .ok (.goto (-62), 3) := by decide +kernel
theorem dX6_lifts_121 : decode cX6_lifts 121 = .ok (.iload_n 3, 1) := by decide +kernel
theorem dX6_lifts_122 : decode cX6_lifts 122 = .ok (.ifCond .ne 8, 3) := by decide +kernel
theorem dX6_lifts_125 : decode cX6_lifts 125 = .ok (.iload 4, 2) := by decide +kernel
theorem dX6_lifts_127 : decode cX6_lifts 127 = .ok (.goto 5, 3) := by decide +kernel
theorem dX6_lifts_130 : decode cX6_lifts 130 = .ok (.iload 5, 2) := by decide +kernel
theorem dX6_lifts_132 : decode cX6_lifts 132 = .ok (.ireturn, 1) := by decide +kernel
set_option maxRecDepth 20000 in
theorem ggX6_have_X6_power : GoodIn wsX6_have wsX6_power := goodIn_r _ [11] (by decide +kernel) (by decide +kernel)
set_option maxRecDepth 20000 in
theorem gX6_have_X6_power : GoodIn wsX6_have (va_wsS RX6 76 yX6_power wsX6_power) := goodIn_app (goodIn_of _ (by decide +kernel)) ggX6_have_X6_power
set_option maxRecDepth 20000 in
theorem ggX6_have_X6_look : GoodIn wsX6_have wsX6_look := goodIn_r _ [15, 5, 6, 16, 17, 18, 7, 2, 19, 20, 35, 36, 37, 38, 39, 40, 41, 42, 43, 44, 45, 46, 47, 48, 49, 50, 51, 52, 53, 54, 55, 56, 57, 58, 59, 60, 61, 62, 63, 64, 65, 66] (by decide +kernel) (by decide +kernel)
set_option maxRecDepth 20000 in
theorem gX6_have_X6_look : GoodIn wsX6_have (wsV RX6 101 RX6 yX6_look wsX6_look) := goodIn_app (goodIn_of _ (by decide +kernel)) ggX6_have_X6_look
set_option maxRecDepth 20000 in
theorem ggX6_have_X6_readBy : GoodIn wsX6_have wsX6_readBy := goodIn_r _ [23, 24, 25, 26, 27] (by decide +kernel) (by decide +kernel)
set_option maxRecDepth 20000 in
theorem gX6_have_X6_readBy : GoodIn wsX6_have (va_wsS RX6 113 yX6_readBy wsX6_readBy) := goodIn_app (goodIn_of _ (by decide +kernel)) ggX6_have_X6_readBy
set_option maxRecDepth 20000 in
theorem ggX6_have_X6_mayBe : GoodIn wsX6_have wsX6_mayBe := goodIn_r _ [31, 17, 16, 35, 36, 37, 38, 39, 40, 41, 42, 43, 44, 45, 46, 47, 48, 49, 50, 51, 52, 53, 54, 55, 56, 57, 58, 59, 60, 61, 62, 63, 64, 65, 66] (by decide +kernel) (by decide +kernel)
set_option maxRecDepth 20000 in
theorem gX6_have_X6_mayBe : GoodIn wsX6_have (wsV RX6 110 RX6 yX6_mayBe wsX6_mayBe) := goodIn_app (goodIn_of _ (by decide +kernel)) ggX6_have_X6_mayBe
set_option maxRecDepth 20000 in
theorem ggX6_have_X6_isIn : GoodIn wsX6_have wsX6_isIn := goodIn_r _ [34] (by decide +kernel) (by decide +kernel)
set_option maxRecDepth 20000 in
theorem gX6_have_X6_isIn : GoodIn wsX6_have (va_wsS RX6 68 yX6_isIn wsX6_isIn) := goodIn_app (goodIn_of _ (by decide +kernel)) ggX6_have_X6_isIn
theorem dX6_have_0 : decode cX6_have 0 = .ok (.iconst 0, 1) := by decide +kernel
theorem dX6_have_1 : decode cX6_have 1 = .ok (.istore_n 3, 1) := by decide +kernel
theorem dX6_have_2 : decode cX6_have 2 = .ok (.iload_n 3, 1) := by decide +kernel
theorem dX6_have_3 : decode cX6_have 3 = .ok (.sipush 1000, 3) := by decide +kernel
theorem dX6_have_6 : decode cX6_have 6 = .ok (.if_icmp .gt 16, 3) := by decide +kernel
theorem dX6_have_9 : decode cX6_have 9 = .ok (.aload_n 0, 1) := by decide +kernel
theorem dX6_have_10 : decode cX6_have 10 = .ok (.getfield 22, 3) := by decide +kernel
theorem dX6_have_13 : decode cX6_have 13 = .ok (.iload_n 3, 1) := by decide +kernel
theorem dX6_have_14 : decode cX6_have 14 = .ok (.iconst 0, 1) := by decide +kernel
theorem dX6_have_15 : decode cX6_have 15 = .ok (.bastore, 1) := by decide +kernel
theorem dX6_have_16 : decode cX6_have 16 = .ok (.iinc 3 1, 3) := by decide +kernel
theorem dX6_have_19 : decode cX6_have 19 = .ok (.goto (-17), 3) := by decide +kernel
theorem dX6_have_22 : decode cX6_have 22 = .ok (.iconst 0, 1) := by decide +kernel
theorem dX6_have_23 : decode cX6_have 23 = .ok (.istore_n 3, 1) := by decide +kernel
theorem dX6_have_24 : decode cX6_have 24 = .ok (.iload_n 3, 1) := by decide +kernel
theorem dX6_have_25 : decode cX6_have 25 = .ok (.aload_n 0, 1) := by decide +kernel
theorem dX6_have_26 : decode cX6_have 26 = .ok (.getfield 57, 3) := by decide +kernel
theorem dX6_have_29 : decode cX6_have 29 = .ok (.invokestatic 76, 3) := by decide +kernel
theorem dX6_have_32 : decode cX6_have 32 = .ok (.if_icmp .ge 83, 3) := by decide +kernel
theorem dX6_have_35 : decode cX6_have 35 = .ok (.aload_n 0, 1) := by decide +kernel
theorem dX6_have_36 : decode cX6_have 36 = .ok (.iload_n 3, 1) := by decide +kernel
theorem dX6_have_37 : decode cX6_have 37 = .ok (.invokevirtual 101, 3) := by decide +kernel
theorem dX6_have_40 : decode cX6_have 40 = .ok (.aload_n 0, 1) := by decide +kernel
theorem dX6_have_41 : decode cX6_have 41 = .ok (.getfield 35, 3) := by decide +kernel
theorem dX6_have_44 : decode cX6_have 44 = .ok (.iload_n 1, 1) := by decide +kernel
theorem dX6_have_45 : decode cX6_have 45 = .ok (.iaload, 1) := by decide +kernel
theorem dX6_have_46 : decode cX6_have 46 = .ok (.aload_n 0, 1) := by decide +kernel
theorem dX6_have_47 : decode cX6_have 47 = .ok (.getfield 38, 3) := by decide +kernel
theorem dX6_have_50 : decode cX6_have 50 = .ok (.iload_n 1, 1) := by decide +kernel
theorem dX6_have_51 : decode cX6_have 51 = .ok (.iaload, 1) := by decide +kernel
theorem dX6_have_52 : decode cX6_have 52 = .ok (.aload_n 0, 1) := by decide +kernel
theorem dX6_have_53 : decode cX6_have 53 = .ok (.getfield 80, 3) := by decide +kernel
theorem dX6_have_56 : decode cX6_have 56 = .ok (.aload_n 0, 1) := by decide +kernel
theorem dX6_have_57 : decode cX6_have 57 = .ok (.getfield 83, 3) := by decide +kernel
theorem dX6_have_60 : decode cX6_have 60 = .ok (.invokestatic 113, 3) := by decide +kernel
theorem dX6_have_63 : decode cX6_have 63 = .ok (.istore 4, 2) := by decide +kernel
theorem dX6_have_65 : decode cX6_have 65 = .ok (.aload_n 0, 1) := by decide +kernel
theorem dX6_have_66 : decode cX6_have 66 = .ok (.aload_n 0, 1) := by decide +kernel
theorem dX6_have_67 : decode cX6_have 67 = .ok (.getfield 35, 3) := by decide +kernel
theorem dX6_have_70 : decode cX6_have 70 = .ok (.iload_n 1, 1) := by decide +kernel
theorem dX6_have_71 : decode cX6_have 71 = .ok (.iaload, 1) := by decide +kernel
theorem dX6_have_72 : decode cX6_have 72 = .ok (.invokevirtual 110, 3) := by decide +kernel
theorem dX6_have_75 : decode cX6_have 75 = .ok (.ifCond .eq 34, 3) := by decide +kernel
theorem dX6_have_78 : decode cX6_have 78 = .ok (.aload_n 0, 1) := by decide +kernel
theorem dX6_have_79 : decode cX6_have 79 = .ok (.getfield 95, 3) := by decide +kernel
theorem dX6_have_82 : decode cX6_have 82 = .ok (.iload_n 2, 1) := by decide +kernel
theorem dX6_have_83 : decode cX6_have 83 = .ok (.iconst (-1), 1) := by decide +kernel
theorem dX6_have_84 : decode cX6_have 84 = .ok (.ixor, 1) := by decide +kernel
theorem dX6_have_85 : decode cX6_have 85 = .ok (.iand, 1) := by decide +kernel
theorem dX6_have_86 : decode cX6_have 86 = .ok (.ifCond .ne 23, 3) := by decide +kernel
theorem dX6_have_89 : decode cX6_have 89 = .ok (.iload 4, 2) := by decide +kernel
theorem dX6_have_91 : decode cX6_have 91 = .ok (.iconst 1, 1) := by decide +kernel
theorem dX6_have_92 : decode cX6_have 92 = .ok (.sipush 999, 3) := by decide +kernel
theorem dX6_have_95 : decode cX6_have 95 = .ok (.invokestatic 68, 3) := by decide +kernel
theorem dX6_have_98 : decode cX6_have 98 = .ok (.ifCond .eq 11, 3) := by decide +kernel
theorem dX6_have_101 : decode cX6_have 101 = .ok (.aload_n 0, 1) := by decide +kernel
theorem dX6_have_102 : decode cX6_have 102 = .ok (.getfield 22, 3) := by decide +kernel
theorem dX6_have_105 : decode cX6_have 105 = .ok (.iload 4, 2) := by decide +kernel
theorem dX6_have_107 : decode cX6_have 107 = .ok (.iconst 1, 1) := by decide +kernel
theorem dX6_have_108 : decode cX6_have 108 = .ok (.bastore, 1) := by decide +kernel
theorem dX6_have_109 : decode cX6_have 109 = .ok (.iinc 3 1, 3) := by decide +kernel
theorem dX6_have_112 : decode cX6_have 112 = .ok (.goto (-88), 3) := by decide +kernel
theorem dX6_have_115 : decode cX6_have 115 = .ok (.return_, 1) := by decide +kernel
theorem dX6_reached_0 : decode cX6_reached 0 = .ok (.iconst 0, 1) := by decide +kernel
theorem dX6_reached_1 : decode cX6_reached 1 = .ok (.istore_n 1, 1) := by decide +kernel
theorem dX6_reached_2 : decode cX6_reached 2 = .ok (.aload_n 0, 1) := by decide +kernel
theorem dX6_reached_3 : decode cX6_reached 3 = .ok (.getfield 22, 3) := by decide +kernel
theorem dX6_reached_6 : decode cX6_reached 6 = .ok (.iload_n 1, 1) := by decide +kernel
theorem dX6_reached_7 : decode cX6_reached 7 = .ok (.iconst 1, 1) := by decide +kernel
theorem dX6_reached_8 : decode cX6_reached 8 = .ok (.iadd, 1) := by decide +kernel
theorem dX6_reached_9 : decode cX6_reached 9 = .ok (.baload, 1) := by decide +kernel
theorem dX6_reached_10 : decode cX6_reached 10 = .ok (.ifCond .eq 9, 3) := by decide +kernel
theorem dX6_reached_13 : decode cX6_reached 13 = .ok (.iinc 1 1, 3) := by decide +kernel
theorem dX6_reached_16 : decode cX6_reached 16 = .ok (.goto (-14), 3) := by decide +kernel
theorem dX6_reached_19 : decode cX6_reached 19 = .ok (.iload_n 1, 1) := by decide +kernel
theorem dX6_reached_20 : decode cX6_reached 20 = .ok (.ireturn, 1) := by decide +kernel
set_option maxRecDepth 20000 in
theorem ggX6_reach_X6_isShelf : GoodIn wsX6_reach wsX6_isShelf := goodIn_r _ [4, 5, 6, 3, 7] (by decide +kernel) (by decide +kernel)
set_option maxRecDepth 20000 in
theorem gX6_reach_X6_isShelf : GoodIn wsX6_reach (va_wsS RX6 117 yX6_isShelf wsX6_isShelf) := goodIn_app (goodIn_of _ (by decide +kernel)) ggX6_reach_X6_isShelf
set_option maxRecDepth 20000 in
theorem ggX6_reach_X6_noScale : GoodIn wsX6_reach wsX6_noScale := goodIn_r _ [11, 12, 51, 52, 53, 54, 55, 56, 57, 58, 59, 60, 61, 62, 63, 64, 65, 66, 67, 68, 69, 70, 71, 72, 73, 74, 75, 76, 77, 78, 79, 80, 81, 82] (by decide +kernel) (by decide +kernel)
set_option maxRecDepth 20000 in
theorem gX6_reach_X6_noScale : GoodIn wsX6_reach (wsV RX6 121 RX6 yX6_noScale wsX6_noScale) := goodIn_app (goodIn_of _ (by decide +kernel)) ggX6_reach_X6_noScale
set_option maxRecDepth 20000 in
theorem ggX6_reach_X6_have : GoodIn wsX6_reach wsX6_have := goodIn_r _ [16, 17, 18, 19, 20, 21, 22, 23, 24, 25, 3, 26, 27, 28, 29, 30, 31, 32, 33, 34, 35, 36, 37, 38, 39, 40, 41, 42, 43, 44, 45, 46, 5, 6, 7, 51, 52, 53, 54, 55, 56, 57, 58, 59, 60, 61, 62, 63, 64, 65, 66, 67, 68, 69, 70, 71, 72, 73, 74, 75, 76, 77, 78, 79, 80, 81, 82] (by decide +kernel) (by decide +kernel)
set_option maxRecDepth 20000 in
theorem gX6_reach_X6_have : GoodIn wsX6_reach (wsV RX6 129 RX6 yX6_have wsX6_have) := goodIn_app (goodIn_of _ (by decide +kernel)) ggX6_reach_X6_have
set_option maxRecDepth 20000 in
theorem ggX6_reach_X6_reached : GoodIn wsX6_reach wsX6_reached := goodIn_r _ [50, 17, 51, 52, 53, 54, 55, 56, 57, 58, 59, 60, 61, 62, 63, 64, 65, 66, 67, 68, 69, 70, 71, 72, 73, 74, 75, 76, 77, 78, 79, 80, 81, 82] (by decide +kernel) (by decide +kernel)
set_option maxRecDepth 20000 in
theorem gX6_reach_X6_reached : GoodIn wsX6_reach (wsV RX6 133 RX6 yX6_reached wsX6_reached) := goodIn_app (goodIn_of _ (by decide +kernel)) ggX6_reach_X6_reached
theorem dX6_reach_0 : decode cX6_reach 0 = .ok (.iload_n 1, 1) := by decide +kernel
theorem dX6_reach_1 : decode cX6_reach 1 = .ok (.invokestatic 117, 3) := by decide +kernel
theorem dX6_reach_4 : decode cX6_reach 4 = .ok (.ifCond .ne 5, 3) := by decide +kernel
theorem dX6_reach_7 : decode cX6_reach 7 = .ok (.iconst (-1), 1) := by decide +kernel
theorem dX6_reach_8 : decode cX6_reach 8 = .ok (.ireturn, 1) := by decide +kernel
theorem dX6_reach_9 : decode cX6_reach 9 = .ok (.aload_n 0, 1) := by decide +kernel
theorem dX6_reach_10 : decode cX6_reach 10 = .ok (.iload_n 1, 1) := by decide +kernel
theorem dX6_reach_11 : decode cX6_reach 11 = .ok (.invokevirtual 121, 3) := by decide +kernel
theorem dX6_reach_14 : decode cX6_reach 14 = .ok (.ifCond .eq 9, 3) := by decide +kernel
theorem dX6_reach_17 : decode cX6_reach 17 = .ok (.aload_n 0, 1) := by decide +kernel
theorem dX6_reach_18 : decode cX6_reach 18 = .ok (.iload_n 1, 1) := by decide +kernel
theorem dX6_reach_19 : decode cX6_reach 19 = .ok (.invokevirtual 121, 3) := by decide +kernel
theorem dX6_reach_22 : decode cX6_reach 22 = .ok (.ireturn, 1) := by decide +kernel
theorem dX6_reach_23 : decode cX6_reach 23 = .ok (.aload_n 0, 1) := by decide +kernel
theorem dX6_reach_24 : decode cX6_reach 24 = .ok (.iload_n 1, 1) := by decide +kernel
theorem dX6_reach_25 : decode cX6_reach 25 = .ok (.bipush 63, 2) := by decide +kernel
theorem dX6_reach_27 : decode cX6_reach 27 = .ok (.invokevirtual 129, 3) := by decide +kernel
theorem dX6_reach_30 : decode cX6_reach 30 = .ok (.aload_n 0, 1) := by decide +kernel
theorem dX6_reach_31 : decode cX6_reach 31 = .ok (.invokevirtual 133, 3) := by decide +kernel
theorem dX6_reach_34 : decode cX6_reach 34 = .ok (.ireturn, 1) := by decide +kernel
set_option maxRecDepth 20000 in
theorem ggX6_hole_X6_isShelf : GoodIn wsX6_hole wsX6_isShelf := goodIn_r _ [4, 5, 6, 3, 7] (by decide +kernel) (by decide +kernel)
set_option maxRecDepth 20000 in
theorem gX6_hole_X6_isShelf : GoodIn wsX6_hole (va_wsS RX6 117 yX6_isShelf wsX6_isShelf) := goodIn_app (goodIn_of _ (by decide +kernel)) ggX6_hole_X6_isShelf
set_option maxRecDepth 20000 in
theorem ggX6_hole_X6_noScale : GoodIn wsX6_hole wsX6_noScale := goodIn_r _ [11, 12, 51, 52, 53, 54, 55, 56, 57, 58, 59, 60, 61, 62, 63, 64, 65, 66, 67, 68, 69, 70, 71, 72, 73, 74, 75, 76, 77, 78, 79, 80, 81, 82] (by decide +kernel) (by decide +kernel)
set_option maxRecDepth 20000 in
theorem gX6_hole_X6_noScale : GoodIn wsX6_hole (wsV RX6 121 RX6 yX6_noScale wsX6_noScale) := goodIn_app (goodIn_of _ (by decide +kernel)) ggX6_hole_X6_noScale
set_option maxRecDepth 20000 in
theorem ggX6_hole_X6_have : GoodIn wsX6_hole wsX6_have := goodIn_r _ [16, 17, 18, 19, 20, 21, 22, 23, 24, 25, 3, 26, 27, 28, 29, 30, 31, 32, 33, 34, 35, 36, 37, 38, 39, 40, 41, 42, 43, 44, 45, 46, 5, 6, 7, 51, 52, 53, 54, 55, 56, 57, 58, 59, 60, 61, 62, 63, 64, 65, 66, 67, 68, 69, 70, 71, 72, 73, 74, 75, 76, 77, 78, 79, 80, 81, 82] (by decide +kernel) (by decide +kernel)
set_option maxRecDepth 20000 in
theorem gX6_hole_X6_have : GoodIn wsX6_hole (wsV RX6 129 RX6 yX6_have wsX6_have) := goodIn_app (goodIn_of _ (by decide +kernel)) ggX6_hole_X6_have
set_option maxRecDepth 20000 in
theorem ggX6_hole_X6_reached : GoodIn wsX6_hole wsX6_reached := goodIn_r _ [50, 17, 51, 52, 53, 54, 55, 56, 57, 58, 59, 60, 61, 62, 63, 64, 65, 66, 67, 68, 69, 70, 71, 72, 73, 74, 75, 76, 77, 78, 79, 80, 81, 82] (by decide +kernel) (by decide +kernel)
set_option maxRecDepth 20000 in
theorem gX6_hole_X6_reached : GoodIn wsX6_hole (wsV RX6 133 RX6 yX6_reached wsX6_reached) := goodIn_app (goodIn_of _ (by decide +kernel)) ggX6_hole_X6_reached
theorem dX6_hole_0 : decode cX6_hole 0 = .ok (.iload_n 1, 1) := by decide +kernel
theorem dX6_hole_1 : decode cX6_hole 1 = .ok (.invokestatic 117, 3) := by decide +kernel
theorem dX6_hole_4 : decode cX6_hole 4 = .ok (.ifCond .ne 5, 3) := by decide +kernel
theorem dX6_hole_7 : decode cX6_hole 7 = .ok (.iconst (-1), 1) := by decide +kernel
theorem dX6_hole_8 : decode cX6_hole 8 = .ok (.ireturn, 1) := by decide +kernel
theorem dX6_hole_9 : decode cX6_hole 9 = .ok (.aload_n 0, 1) := by decide +kernel
theorem dX6_hole_10 : decode cX6_hole 10 = .ok (.iload_n 1, 1) := by decide +kernel
theorem dX6_hole_11 : decode cX6_hole 11 = .ok (.invokevirtual 121, 3) := by decide +kernel
theorem dX6_hole_14 : decode cX6_hole 14 = .ok (.ifCond .eq 9, 3) := by decide +kernel
theorem dX6_hole_17 : decode cX6_hole 17 = .ok (.aload_n 0, 1) := by decide +kernel
theorem dX6_hole_18 : decode cX6_hole 18 = .ok (.iload_n 1, 1) := by decide +kernel
theorem dX6_hole_19 : decode cX6_hole 19 = .ok (.invokevirtual 121, 3) := by decide +kernel
theorem dX6_hole_22 : decode cX6_hole 22 = .ok (.ireturn, 1) := by decide +kernel
theorem dX6_hole_23 : decode cX6_hole 23 = .ok (.aload_n 0, 1) := by decide +kernel
theorem dX6_hole_24 : decode cX6_hole 24 = .ok (.iload_n 1, 1) := by decide +kernel
theorem dX6_hole_25 : decode cX6_hole 25 = .ok (.bipush 63, 2) := by decide +kernel
theorem dX6_hole_27 : decode cX6_hole 27 = .ok (.invokevirtual 129, 3) := by decide +kernel
theorem dX6_hole_30 : decode cX6_hole 30 = .ok (.aload_n 0, 1) := by decide +kernel
theorem dX6_hole_31 : decode cX6_hole 31 = .ok (.invokevirtual 133, 3) := by decide +kernel
theorem dX6_hole_34 : decode cX6_hole 34 = .ok (.sipush 999, 3) := by decide +kernel
theorem dX6_hole_37 : decode cX6_hole 37 = .ok (.if_icmp .ne 8, 3) := by decide +kernel
theorem dX6_hole_40 : decode cX6_hole 40 = .ok (.bipush (-4), 2) := by decide +kernel
theorem dX6_hole_42 : decode cX6_hole 42 = .ok (.goto 9, 3) := by decide +kernel
theorem dX6_hole_45 : decode cX6_hole 45 = .ok (.aload_n 0, 1) := by decide +kernel
theorem dX6_hole_46 : decode cX6_hole 46 = .ok (.invokevirtual 133, 3) := by decide +kernel
theorem dX6_hole_49 : decode cX6_hole 49 = .ok (.iconst 1, 1) := by decide +kernel
theorem dX6_hole_50 : decode cX6_hole 50 = .ok (.iadd, 1) := by decide +kernel
theorem dX6_hole_51 : decode cX6_hole 51 = .ok (.ireturn, 1) := by decide +kernel
set_option maxRecDepth 20000 in
theorem ggX6_noList_X6_isIn : GoodIn wsX6_noList wsX6_isIn := goodIn_r _ [8] (by decide +kernel) (by decide +kernel)
set_option maxRecDepth 20000 in
theorem gX6_noList_X6_isIn : GoodIn wsX6_noList (va_wsS RX6 68 yX6_isIn wsX6_isIn) := goodIn_app (goodIn_of _ (by decide +kernel)) ggX6_noList_X6_isIn
theorem dX6_noList_0 : decode cX6_noList 0 = .ok (.aload_n 0, 1) := by decide +kernel
theorem dX6_noList_1 : decode cX6_noList 1 = .ok (.getfield 32, 3) := by decide +kernel
theorem dX6_noList_4 : decode cX6_noList 4 = .ok (.iload_n 1, 1) := by decide +kernel
theorem dX6_noList_5 : decode cX6_noList 5 = .ok (.iaload, 1) := by decide +kernel
theorem dX6_noList_6 : decode cX6_noList 6 = .ok (.ifCond .ne 6, 3) := by decide +kernel
theorem dX6_noList_9 : decode cX6_noList 9 = .ok (.bipush (-11), 2) := by decide +kernel
theorem dX6_noList_11 : decode cX6_noList 11 = .ok (.ireturn, 1) := by decide +kernel
theorem dX6_noList_12 : decode cX6_noList 12 = .ok (.aload_n 0, 1) := by decide +kernel
theorem dX6_noList_13 : decode cX6_noList 13 = .ok (.getfield 32, 3) := by decide +kernel
theorem dX6_noList_16 : decode cX6_noList 16 = .ok (.iload_n 1, 1) := by decide +kernel
theorem dX6_noList_17 : decode cX6_noList 17 = .ok (.iaload, 1) := by decide +kernel
theorem dX6_noList_18 : decode cX6_noList 18 = .ok (.iconst 1, 1) := by decide +kernel
theorem dX6_noList_19 : decode cX6_noList 19 = .ok (.if_icmp .eq 13, 3) := by decide +kernel
theorem dX6_noList_22 : decode cX6_noList 22 = .ok (.aload_n 0, 1) := by decide +kernel
theorem dX6_noList_23 : decode cX6_noList 23 = .ok (.getfield 41, 3) := by decide +kernel
theorem dX6_noList_26 : decode cX6_noList 26 = .ok (.iload_n 1, 1) := by decide +kernel
theorem dX6_noList_27 : decode cX6_noList 27 = .ok (.iaload, 1) := by decide +kernel
theorem dX6_noList_28 : decode cX6_noList 28 = .ok (.iconst 1, 1) := by decide +kernel
theorem dX6_noList_29 : decode cX6_noList 29 = .ok (.if_icmp .eq 6, 3) := by decide +kernel
theorem dX6_noList_32 : decode cX6_noList 32 = .ok (.bipush (-12), 2) := by decide +kernel
theorem dX6_noList_34 : decode cX6_noList 34 = .ok (.ireturn, 1) := by decide +kernel
theorem dX6_noList_35 : decode cX6_noList 35 = .ok (.aload_n 0, 1) := by decide +kernel
theorem dX6_noList_36 : decode cX6_noList 36 = .ok (.getfield 44, 3) := by decide +kernel
theorem dX6_noList_39 : decode cX6_noList 39 = .ok (.iload_n 1, 1) := by decide +kernel
theorem dX6_noList_40 : decode cX6_noList 40 = .ok (.iaload, 1) := by decide +kernel
theorem dX6_noList_41 : decode cX6_noList 41 = .ok (.iconst 1, 1) := by decide +kernel
theorem dX6_noList_42 : decode cX6_noList 42 = .ok (.bipush 8, 2) := by decide +kernel
theorem dX6_noList_44 : decode cX6_noList 44 = .ok (.invokestatic 68, 3) := by decide +kernel
theorem dX6_noList_47 : decode cX6_noList 47 = .ok (.istore_n 2, 1) := by decide +kernel
theorem dX6_noList_48 : decode cX6_noList 48 = .ok (.iconst 0, 1) := by decide +kernel
theorem dX6_noList_49 : decode cX6_noList 49 = .ok (.istore_n 3, 1) := by decide +kernel
theorem dX6_noList_50 : decode cX6_noList 50 = .ok (.iload_n 3, 1) := by decide +kernel
theorem dX6_noList_51 : decode cX6_noList 51 = .ok (.aload_n 0, 1) := by decide +kernel
theorem dX6_noList_52 : decode cX6_noList 52 = .ok (.getfield 44, 3) := by decide +kernel
theorem dX6_noList_55 : decode cX6_noList 55 = .ok (.iload_n 1, 1) := by decide +kernel
theorem dX6_noList_56 : decode cX6_noList 56 = .ok (.iaload, 1) := by decide +kernel
theorem dX6_noList_57 : decode cX6_noList 57 = .ok (.if_icmp .ge 32, 3) := by decide +kernel
theorem dX6_noList_60 : decode cX6_noList 60 = .ok (.iload_n 2, 1) := by decide +kernel
theorem dX6_noList_61 : decode cX6_noList 61 = .ok (.ifCond .eq 28, 3) := by decide +kernel
theorem dX6_noList_64 : decode cX6_noList 64 = .ok (.aload_n 0, 1) := by decide +kernel
theorem dX6_noList_65 : decode cX6_noList 65 = .ok (.getfield 47, 3) := by decide +kernel
theorem dX6_noList_68 : decode cX6_noList 68 = .ok (.bipush 100, 2) := by decide +kernel
theorem dX6_noList_70 : decode cX6_noList 70 = .ok (.iload_n 1, 1) := by decide +kernel
theorem dX6_noList_71 : decode cX6_noList 71 = .ok (.imul, 1) := by decide +kernel
theorem dX6_noList_72 : decode cX6_noList 72 = .ok (.iload_n 3, 1) := by decide +kernel
theorem dX6_noList_73 : decode cX6_noList 73 = .ok (.iadd, 1) := by decide +kernel
theorem dX6_noList_74 : decode cX6_noList 74 = .ok (.iaload, 1) := by decide +kernel
theorem dX6_noList_75 : decode cX6_noList 75 = .ok (.iconst 1, 1) := by decide +kernel
theorem dX6_noList_76 : decode cX6_noList 76 = .ok (.sipush 999, 3) := by decide +kernel
theorem dX6_noList_79 : decode cX6_noList 79 = .ok (.invokestatic 68, 3) := by decide +kernel
theorem dX6_noList_82 : decode cX6_noList 82 = .ok (.istore_n 2, 1) := by decide +kernel
theorem dX6_noList_83 : decode cX6_noList 83 = .ok (.iinc 3 1, 3) := by decide +kernel
theorem dX6_noList_86 : decode cX6_noList 86 = .ok (.goto (-36), 3) := by decide +kernel
theorem dX6_noList_89 : decode cX6_noList 89 = .ok (.iload_n 2, 1) := by decide +kernel
theorem dX6_noList_90 : decode cX6_noList 90 = .ok (.ifCond .eq 7, 3) := by decide +kernel
theorem dX6_noList_93 : decode cX6_noList 93 = .ok (.iconst 0, 1) := by decide +kernel
theorem dX6_noList_94 : decode cX6_noList 94 = .ok (.goto 5, 3) := by decide +kernel
theorem dX6_noList_97 : decode cX6_noList 97 = .ok (.bipush (-13), 2) := by decide +kernel
theorem dX6_noList_99 : decode cX6_noList 99 = .ok (.ireturn, 1) := by decide +kernel
theorem dX6_bits_0 : decode cX6_bits 0 = .ok (.iconst 0, 1) := by decide +kernel
theorem dX6_bits_1 : decode cX6_bits 1 = .ok (.istore_n 1, 1) := by decide +kernel
theorem dX6_bits_2 : decode cX6_bits 2 = .ok (.iconst 0, 1) := by decide +kernel
theorem dX6_bits_3 : decode cX6_bits 3 = .ok (.istore_n 2, 1) := by decide +kernel
theorem dX6_bits_4 : decode cX6_bits 4 = .ok (.iload_n 2, 1) := by decide +kernel
theorem dX6_bits_5 : decode cX6_bits 5 = .ok (.bipush 6, 2) := by decide +kernel
theorem dX6_bits_7 : decode cX6_bits 7 = .ok (.if_icmp .ge 17, 3) := by decide +kernel
theorem dX6_bits_10 : decode cX6_bits 10 = .ok (.iload_n 1, 1) := by decide +kernel
theorem dX6_bits_11 : decode cX6_bits 11 = .ok (.iload_n 0, 1) := by decide +kernel
theorem dX6_bits_12 : decode cX6_bits 12 = .ok (.iload_n 2, 1) := by decide +kernel
theorem dX6_bits_13 : decode cX6_bits 13 = .ok (.ishr, 1) := by decide +kernel
theorem dX6_bits_14 : decode cX6_bits 14 = .ok (.iconst 1, 1) := by decide +kernel
theorem dX6_bits_15 : decode cX6_bits 15 = .ok (.iand, 1) := by decide +kernel
theorem dX6_bits_16 : decode cX6_bits 16 = .ok (.iadd, 1) := by decide +kernel
theorem dX6_bits_17 : decode cX6_bits 17 = .ok (.istore_n 1, 1) := by decide +kernel
theorem dX6_bits_18 : decode cX6_bits 18 = .ok (.iinc 2 1, 3) := by decide +kernel
theorem dX6_bits_21 : decode cX6_bits 21 = .ok (.goto (-17), 3) := by decide +kernel
theorem dX6_bits_24 : decode cX6_bits 24 = .ok (.iload_n 1, 1) := by decide +kernel
theorem dX6_bits_25 : decode cX6_bits 25 = .ok (.ireturn, 1) := by decide +kernel
theorem dX6_priceOf_0 : decode cX6_priceOf 0 = .ok (.iconst 0, 1) := by decide +kernel
theorem dX6_priceOf_1 : decode cX6_priceOf 1 = .ok (.istore_n 2, 1) := by decide +kernel
theorem dX6_priceOf_2 : decode cX6_priceOf 2 = .ok (.iconst 0, 1) := by decide +kernel
theorem dX6_priceOf_3 : decode cX6_priceOf 3 = .ok (.istore_n 3, 1) := by decide +kernel
theorem dX6_priceOf_4 : decode cX6_priceOf 4 = .ok (.iload_n 3, 1) := by decide +kernel
theorem dX6_priceOf_5 : decode cX6_priceOf 5 = .ok (.aload_n 0, 1) := by decide +kernel
theorem dX6_priceOf_6 : decode cX6_priceOf 6 = .ok (.getfield 57, 3) := by decide +kernel
theorem dX6_priceOf_9 : decode cX6_priceOf 9 = .ok (.if_icmp .ge 24, 3) := by decide +kernel
theorem dX6_priceOf_12 : decode cX6_priceOf 12 = .ok (.iload_n 2, 1) := by decide +kernel
theorem dX6_priceOf_13 : decode cX6_priceOf 13 = .ok (.iload_n 1, 1) := by decide +kernel
theorem dX6_priceOf_14 : decode cX6_priceOf 14 = .ok (.iload_n 3, 1) := by decide +kernel
theorem dX6_priceOf_15 : decode cX6_priceOf 15 = .ok (.ishr, 1) := by decide +kernel
theorem dX6_priceOf_16 : decode cX6_priceOf 16 = .ok (.iconst 1, 1) := by decide +kernel
theorem dX6_priceOf_17 : decode cX6_priceOf 17 = .ok (.iand, 1) := by decide +kernel
theorem dX6_priceOf_18 : decode cX6_priceOf 18 = .ok (.aload_n 0, 1) := by decide +kernel
theorem dX6_priceOf_19 : decode cX6_priceOf 19 = .ok (.getfield 13, 3) := by decide +kernel
theorem dX6_priceOf_22 : decode cX6_priceOf 22 = .ok (.iload_n 3, 1) := by decide +kernel
theorem dX6_priceOf_23 : decode cX6_priceOf 23 = .ok (.iaload, 1) := by decide +kernel
theorem dX6_priceOf_24 : decode cX6_priceOf 24 = .ok (.imul, 1) := by decide +kernel
theorem dX6_priceOf_25 : decode cX6_priceOf 25 = .ok (.iadd, 1) := by decide +kernel
theorem dX6_priceOf_26 : decode cX6_priceOf 26 = .ok (.istore_n 2, 1) := by decide +kernel
theorem dX6_priceOf_27 : decode cX6_priceOf 27 = .ok (.iinc 3 1, 3) := by decide +kernel
theorem dX6_priceOf_30 : decode cX6_priceOf 30 = .ok (.goto (-26), 3) := by decide +kernel
theorem dX6_priceOf_33 : decode cX6_priceOf 33 = .ok (.iload_n 2, 1) := by decide +kernel
theorem dX6_priceOf_34 : decode cX6_priceOf 34 = .ok (.ireturn, 1) := by decide +kernel
set_option maxRecDepth 20000 in
theorem ggX6_hasAll_X6_have : GoodIn wsX6_hasAll wsX6_have := goodIn_r _ [8, 2, 9, 10, 11, 12, 13, 14, 15, 16, 7, 17, 18, 19, 20, 21, 22, 23, 24, 25, 26, 27, 28, 29, 30, 31, 32, 33, 34, 35, 36, 37, 38, 39, 40, 41, 42, 43, 44, 45, 46, 47, 48, 49, 50, 51, 52, 53, 54, 55, 56, 57, 58, 59, 60, 61, 62, 63, 64, 65, 66, 67, 68, 69, 70, 71, 72] (by decide +kernel) (by decide +kernel)
set_option maxRecDepth 20000 in
theorem gX6_hasAll_X6_have : GoodIn wsX6_hasAll (wsV RX6 129 RX6 yX6_have wsX6_have) := goodIn_app (goodIn_of _ (by decide +kernel)) ggX6_hasAll_X6_have
theorem dX6_hasAll_0 : decode cX6_hasAll 0 = .ok (.aload_n 0, 1) := by decide +kernel
theorem dX6_hasAll_1 : decode cX6_hasAll 1 = .ok (.iload_n 1, 1) := by decide +kernel
theorem dX6_hasAll_2 : decode cX6_hasAll 2 = .ok (.iload_n 3, 1) := by decide +kernel
theorem dX6_hasAll_3 : decode cX6_hasAll 3 = .ok (.invokevirtual 129, 3) := by decide +kernel
theorem dX6_hasAll_6 : decode cX6_hasAll 6 = .ok (.iconst 1, 1) := by decide +kernel
theorem dX6_hasAll_7 : decode cX6_hasAll 7 = .ok (.istore 4, 2) := by decide +kernel
theorem dX6_hasAll_9 : decode cX6_hasAll 9 = .ok (.iconst 0, 1) := by decide +kernel
theorem dX6_hasAll_10 : decode cX6_hasAll 10 = .ok (.istore 5, 2) := by decide +kernel
theorem dX6_hasAll_12 : decode cX6_hasAll 12 = .ok (.iload 5, 2) := by decide +kernel
theorem dX6_hasAll_14 : decode cX6_hasAll 14 = .ok (.aload_n 0, 1) := by decide +kernel
theorem dX6_hasAll_15 : decode cX6_hasAll 15 = .ok (.getfield 44, 3) := by decide +kernel
theorem dX6_hasAll_18 : decode cX6_hasAll 18 = .ok (.iload_n 2, 1) := by decide +kernel
theorem dX6_hasAll_19 : decode cX6_hasAll 19 = .ok (.iaload, 1) := by decide +kernel
theorem dX6_hasAll_20 : decode cX6_hasAll 20 = .ok (.if_icmp .ge 41, 3) := by decide +kernel
theorem dX6_hasAll_23 : decode cX6_hasAll 23 = .ok (.iload 4, 2) := by decide +kernel
theorem dX6_hasAll_25 : decode cX6_hasAll 25 = .ok (.ifCond .eq 27, 3) := by decide +kernel
theorem dX6_hasAll_28 : decode cX6_hasAll 28 = .ok (.aload_n 0, 1) := by decide +kernel
theorem dX6_hasAll_29 : decode cX6_hasAll 29 = .ok (.getfield 22, 3) := by decide +kernel
theorem dX6_hasAll_32 : decode cX6_hasAll 32 = .ok (.aload_n 0, 1) := by decide +kernel
theorem dX6_hasAll_33 : decode cX6_hasAll 33 = .ok (.getfield 47, 3) := by decide +kernel
theorem dX6_hasAll_36 : decode cX6_hasAll 36 = .ok (.bipush 100, 2) := by decide +kernel
theorem dX6_hasAll_38 : decode cX6_hasAll 38 = .ok (.iload_n 2, 1) := by decide +kernel
theorem dX6_hasAll_39 : decode cX6_hasAll 39 = .ok (.imul, 1) := by decide +kernel
theorem dX6_hasAll_40 : decode cX6_hasAll 40 = .ok (.iload 5, 2) := by decide +kernel
theorem dX6_hasAll_42 : decode cX6_hasAll 42 = .ok (.iadd, 1) := by decide +kernel
theorem dX6_hasAll_43 : decode cX6_hasAll 43 = .ok (.iaload, 1) := by decide +kernel
theorem dX6_hasAll_44 : decode cX6_hasAll 44 = .ok (.baload, 1) := by decide +kernel
theorem dX6_hasAll_45 : decode cX6_hasAll 45 = .ok (.ifCond .eq 7, 3) := by decide +kernel
theorem dX6_hasAll_48 : decode cX6_hasAll 48 = .ok (.iconst 1, 1) := by decide +kernel
theorem dX6_hasAll_49 : decode cX6_hasAll 49 = .ok (.goto 4, 3) := by decide +kernel
theorem dX6_hasAll_52 : decode cX6_hasAll 52 = .ok (.iconst 0, 1) := by decide +kernel
theorem dX6_hasAll_53 : decode cX6_hasAll 53 = .ok (.istore 4, 2) := by decide +kernel
theorem dX6_hasAll_55 : decode cX6_hasAll 55 = .ok (.iinc 5 1, 3) := by decide +kernel
theorem dX6_hasAll_58 : decode cX6_hasAll 58 = .ok (.goto (-46), 3) := by decide +kernel
theorem dX6_hasAll_61 : decode cX6_hasAll 61 = .ok (.iload 4, 2) := by decide +kernel
theorem dX6_hasAll_63 : decode cX6_hasAll 63 = .ok (.ireturn, 1) := by decide +kernel
set_option maxRecDepth 20000 in
theorem ggX6_bestSet_X6_bits : GoodIn wsX6_bestSet wsX6_bits := goodIn_r _ [5] (by decide +kernel) (by decide +kernel)
set_option maxRecDepth 20000 in
theorem gX6_bestSet_X6_bits : GoodIn wsX6_bestSet (va_wsS RX6 137 yX6_bits wsX6_bits) := goodIn_app (goodIn_of _ (by decide +kernel)) ggX6_bestSet_X6_bits
set_option maxRecDepth 20000 in
theorem ggX6_bestSet_X6_priceOf : GoodIn wsX6_bestSet wsX6_priceOf := goodIn_r _ [9, 1, 10, 52, 53, 54, 55, 56, 57, 58, 59, 60, 61, 62, 63, 64, 65, 66, 67, 68, 69, 70, 71, 72, 73, 74, 75, 76, 77, 78, 79, 80, 81, 82, 83] (by decide +kernel) (by decide +kernel)
set_option maxRecDepth 20000 in
theorem gX6_bestSet_X6_priceOf : GoodIn wsX6_bestSet (wsV RX6 140 RX6 yX6_priceOf wsX6_priceOf) := goodIn_app (goodIn_of _ (by decide +kernel)) ggX6_bestSet_X6_priceOf
set_option maxRecDepth 20000 in
theorem ggX6_bestSet_X6_hasAll : GoodIn wsX6_bestSet wsX6_hasAll := goodIn_r _ [14, 15, 16, 17, 18, 19, 20, 4, 21, 1, 22, 23, 24, 25, 26, 27, 28, 29, 30, 31, 32, 33, 34, 35, 36, 37, 10, 38, 39, 40, 41, 42, 43, 44, 45, 46, 47, 48, 49, 50, 51, 52, 53, 54, 55, 56, 57, 58, 59, 60, 61, 62, 63, 64, 65, 66, 67, 68, 69, 70, 71, 72, 73, 74, 75, 76, 77, 78, 79, 80, 81, 82, 83] (by decide +kernel) (by decide +kernel)
set_option maxRecDepth 20000 in
theorem gX6_bestSet_X6_hasAll : GoodIn wsX6_bestSet (wsV RX6 143 RX6 yX6_hasAll wsX6_hasAll) := goodIn_app (goodIn_of _ (by decide +kernel)) ggX6_bestSet_X6_hasAll
theorem dX6_bestSet_0 : decode cX6_bestSet 0 = .ok (.bipush (-4), 2) := by decide +kernel
theorem dX6_bestSet_2 : decode cX6_bestSet 2 = .ok (.istore 5, 2) := by decide +kernel
theorem dX6_bestSet_4 : decode cX6_bestSet 4 = .ok (.iconst 0, 1) := by decide +kernel
theorem dX6_bestSet_5 : decode cX6_bestSet 5 = .ok (.istore 6, 2) := by decide +kernel
theorem dX6_bestSet_7 : decode cX6_bestSet 7 = .ok (.iconst 0, 1) := by decide +kernel
theorem dX6_bestSet_8 : decode cX6_bestSet 8 = .ok (.istore 7, 2) := by decide +kernel
theorem dX6_bestSet_10 : decode cX6_bestSet 10 = .ok (.iconst 0, 1) := by decide +kernel
theorem dX6_bestSet_11 : decode cX6_bestSet 11 = .ok (.istore 8, 2) := by decide +kernel
theorem dX6_bestSet_13 : decode cX6_bestSet 13 = .ok (.iload 8, 2) := by decide +kernel
theorem dX6_bestSet_15 : decode cX6_bestSet 15 = .ok (.iconst 1, 1) := by decide +kernel
theorem dX6_bestSet_16 : decode cX6_bestSet 16 = .ok (.aload_n 0, 1) := by decide +kernel
theorem dX6_bestSet_17 : decode cX6_bestSet 17 = .ok (.getfield 57, 3) := by decide +kernel
theorem dX6_bestSet_20 : decode cX6_bestSet 20 = .ok (.ishl, 1) := by decide +kernel
theorem dX6_bestSet_21 : decode cX6_bestSet 21 = .ok (.if_icmp .ge 127, 3) := by decide +kernel
theorem dX6_bestSet_24 : decode cX6_bestSet 24 = .ok (.iload 8, 2) := by decide +kernel
theorem dX6_bestSet_26 : decode cX6_bestSet 26 = .ok (.invokestatic 137, 3) := by decide +kernel
theorem dX6_bestSet_29 : decode cX6_bestSet 29 = .ok (.istore 9, 2) := by decide +kernel
theorem dX6_bestSet_31 : decode cX6_bestSet 31 = .ok (.aload_n 0, 1) := by decide +kernel
theorem dX6_bestSet_32 : decode cX6_bestSet 32 = .ok (.iload 8, 2) := by decide +kernel
theorem dX6_bestSet_34 : decode cX6_bestSet 34 = .ok (.iload_n 3, 1) := by decide +kernel
theorem dX6_bestSet_35 : decode cX6_bestSet 35 = .ok (.iconst (-1), 1) := by decide +kernel
theorem dX6_bestSet_36 : decode cX6_bestSet 36 = .ok (.ixor, 1) := by decide +kernel
theorem dX6_bestSet_37 : decode cX6_bestSet 37 = .ok (.iand, 1) := by decide +kernel
theorem dX6_bestSet_38 : decode cX6_bestSet 38 = .ok (.invokevirtual 140, 3) := by decide +kernel
theorem dX6_bestSet_41 : decode cX6_bestSet 41 = .ok (.istore 10, 2) := by decide +kernel
theorem dX6_bestSet_43 : decode cX6_bestSet 43 = .ok (.iload 4, 2) := by decide +kernel
theorem dX6_bestSet_45 : decode cX6_bestSet 45 = .ok (.ifCond .eq 8, 3) := by decide +kernel
theorem dX6_bestSet_48 : decode cX6_bestSet 48 = .ok (.iload 10, 2) := by decide +kernel
theorem dX6_bestSet_50 : decode cX6_bestSet 50 = .ok (.goto 5, 3) := by decide +kernel
theorem dX6_bestSet_53 : decode cX6_bestSet 53 = .ok (.iload 9, 2) := by decide +kernel
theorem dX6_bestSet_55 : decode cX6_bestSet 55 = .ok (.istore 11, 2) := by decide +kernel
theorem dX6_bestSet_57 : decode cX6_bestSet 57 = .ok (.iload 4, 2) := by decide +kernel
theorem dX6_bestSet_59 : decode cX6_bestSet 59 = .ok (.ifCond .eq 8, 3) := by decide +kernel
theorem dX6_bestSet_62 : decode cX6_bestSet 62 = .ok (.iload 9, 2) := by decide +kernel
theorem dX6_bestSet_64 : decode cX6_bestSet 64 = .ok (.goto 5, 3) := by decide +kernel
theorem dX6_bestSet_67 : decode cX6_bestSet 67 = .ok (.iload 10, 2) := by decide +kernel
theorem dX6_bestSet_69 : decode cX6_bestSet 69 = .ok (.istore 12, 2) := by decide +kernel
theorem dX6_bestSet_71 : decode cX6_bestSet 71 = .ok (.iload 5, 2) := by decide +kernel
theorem dX6_bestSet_73 : decode cX6_bestSet 73 = .ok (.bipush (-4), 2) := by decide +kernel
theorem dX6_bestSet_75 : decode cX6_bestSet 75 = .ok (.if_icmp .eq 24, 3) := by decide +kernel
theorem dX6_bestSet_78 : decode cX6_bestSet 78 = .ok (.iload 11, 2) := by decide +kernel
theorem dX6_bestSet_80 : decode cX6_bestSet 80 = .ok (.iload 6, 2) := by decide +kernel
theorem dX6_bestSet_82 : decode cX6_bestSet 82 = .ok (.if_icmp .lt 17, 3) := by decide +kernel
theorem dX6_bestSet_85 : decode cX6_bestSet 85 = .ok (.iload 11, 2) := by decide +kernel
theorem dX6_bestSet_87 : decode cX6_bestSet 87 = .ok (.iload 6, 2) := by decide +kernel
theorem dX6_bestSet_89 : decode cX6_bestSet 89 = .ok (.if_icmp .ne 14, 3) := by decide +kernel
theorem dX6_bestSet_92 : decode cX6_bestSet 92 = .ok (.iload 12, 2) := by decide +kernel
theorem dX6_bestSet_94 : decode cX6_bestSet 94 = .ok (.iload 7, 2) := by decide +kernel
theorem dX6_bestSet_96 : decode cX6_bestSet 96 = .ok (.if_icmp .ge 7, 3) := by decide +kernel
theorem dX6_bestSet_99 : decode cX6_bestSet 99 = .ok (.iconst 1, 1) := by decide +kernel
theorem dX6_bestSet_100 : decode cX6_bestSet 100 = .ok (.goto 4, 3) := by decide +kernel
theorem dX6_bestSet_103 : decode cX6_bestSet 103 = .ok (.iconst 0, 1) := by decide +kernel
theorem dX6_bestSet_104 : decode cX6_bestSet 104 = .ok (.istore 13, 2) := by decide +kernel
theorem dX6_bestSet_106 : decode cX6_bestSet 106 = .ok (.iload 8, 2) := by decide +kernel
theorem dX6_bestSet_108 : decode cX6_bestSet 108 = .ok (.iload_n 3, 1) := by decide +kernel
theorem dX6_bestSet_109 : decode cX6_bestSet 109 = .ok (.iand, 1) := by decide +kernel
theorem dX6_bestSet_110 : decode cX6_bestSet 110 = .ok (.iload_n 3, 1) := by decide +kernel
theorem dX6_bestSet_111 : decode cX6_bestSet 111 = .ok (.if_icmp .ne 31, 3) := by decide +kernel
theorem dX6_bestSet_114 : decode cX6_bestSet 114 = .ok (.iload 13, 2) := by decide +kernel
theorem dX6_bestSet_116 : decode cX6_bestSet 116 = .ok (.ifCond .eq 26, 3) := by decide +kernel
theorem dX6_bestSet_119 : decode cX6_bestSet 119 = .ok (.aload_n 0, 1) := by decide +kernel
theorem dX6_bestSet_120 : decode cX6_bestSet 120 = .ok (.iload_n 1, 1) := by decide +kernel
theorem dX6_bestSet_121 : decode cX6_bestSet 121 = .ok (.iload_n 2, 1) := by decide +kernel
theorem dX6_bestSet_122 : decode cX6_bestSet 122 = .ok (.iload 8, 2) := by decide +kernel
theorem dX6_bestSet_124 : decode cX6_bestSet 124 = .ok (.invokevirtual 143, 3) := by decide +kernel
theorem dX6_bestSet_127 : decode cX6_bestSet 127 = .ok (.ifCond .eq 15, 3) := by decide +kernel
theorem dX6_bestSet_130 : decode cX6_bestSet 130 = .ok (.iload 8, 2) := by decide +kernel
theorem dX6_bestSet_132 : decode cX6_bestSet 132 = .ok (.istore 5, 2) := by decide +kernel
theorem dX6_bestSet_134 : decode cX6_bestSet 134 = .ok (.iload 11, 2) := by decide +kernel
theorem dX6_bestSet_136 : decode cX6_bestSet 136 = .ok (.istore 6, 2) := by decide +kernel
theorem dX6_bestSet_138 : decode cX6_bestSet 138 = .ok (.iload 12, 2) := by decide +kernel
theorem dX6_bestSet_140 : decode cX6_bestSet 140 = .ok (.istore 7, 2) := by decide +kernel
theorem dX6_bestSet_142 : decode cX6_bestSet 142 = .ok (.iinc 8 1, 3) := by decide +kernel
theorem dX6_bestSet_145 : decode cX6_bestSet 145 = .ok (.goto (-132), 3) := by decide +kernel
theorem dX6_bestSet_148 : decode cX6_bestSet 148 = .ok (.iload 5, 2) := by decide +kernel
theorem dX6_bestSet_150 : decode cX6_bestSet 150 = .ok (.ireturn, 1) := by decide +kernel
set_option maxRecDepth 20000 in
theorem ggX6_list_X6_isShelf : GoodIn wsX6_list wsX6_isShelf := goodIn_r _ [4, 5, 6, 3, 7] (by decide +kernel) (by decide +kernel)
set_option maxRecDepth 20000 in
theorem gX6_list_X6_isShelf : GoodIn wsX6_list (va_wsS RX6 117 yX6_isShelf wsX6_isShelf) := goodIn_app (goodIn_of _ (by decide +kernel)) ggX6_list_X6_isShelf
set_option maxRecDepth 20000 in
theorem ggX6_list_X6_noScale : GoodIn wsX6_list wsX6_noScale := goodIn_r _ [11, 12, 69, 70, 71, 72, 73, 74, 75, 76, 77, 78, 79, 80, 81, 82, 83, 84, 85, 86, 87, 88, 89, 90, 91, 92, 93, 94, 95, 96, 97, 98, 99, 100] (by decide +kernel) (by decide +kernel)
set_option maxRecDepth 20000 in
theorem gX6_list_X6_noScale : GoodIn wsX6_list (wsV RX6 121 RX6 yX6_noScale wsX6_noScale) := goodIn_app (goodIn_of _ (by decide +kernel)) ggX6_list_X6_noScale
set_option maxRecDepth 20000 in
theorem ggX6_list_X6_noList : GoodIn wsX6_list wsX6_noList := goodIn_r _ [16, 12, 17, 18, 19, 5, 6, 3, 7, 69, 70, 71, 72, 73, 74, 75, 76, 77, 78, 79, 80, 81, 82, 83, 84, 85, 86, 87, 88, 89, 90, 91, 92, 93, 94, 95, 96, 97, 98, 99, 100] (by decide +kernel) (by decide +kernel)
set_option maxRecDepth 20000 in
theorem gX6_list_X6_noList : GoodIn wsX6_list (wsV RX6 146 RX6 yX6_noList wsX6_noList) := goodIn_app (goodIn_of _ (by decide +kernel)) ggX6_list_X6_noList
set_option maxRecDepth 20000 in
theorem ggX6_list_X6_bestSet : GoodIn wsX6_list wsX6_bestSet := goodIn_r _ [23, 24, 25, 26, 3, 27, 28, 29, 30, 31, 32, 33, 34, 35, 36, 18, 37, 19, 38, 39, 40, 41, 42, 43, 44, 45, 46, 47, 48, 49, 50, 51, 52, 53, 54, 55, 56, 57, 58, 59, 60, 61, 62, 63, 64, 65, 66, 67, 68, 5, 6, 7, 69, 70, 71, 72, 73, 74, 75, 76, 77, 78, 79, 80, 81, 82, 83, 84, 85, 86, 87, 88, 89, 90, 91, 92, 93, 94, 95, 96, 97, 98, 99, 100] (by decide +kernel) (by decide +kernel)
set_option maxRecDepth 20000 in
theorem gX6_list_X6_bestSet : GoodIn wsX6_list (wsV RX6 149 RX6 yX6_bestSet wsX6_bestSet) := goodIn_app (goodIn_of _ (by decide +kernel)) ggX6_list_X6_bestSet
theorem dX6_list_0 : decode cX6_list 0 = .ok (.iload_n 1, 1) := by decide +kernel
theorem dX6_list_1 : decode cX6_list 1 = .ok (.invokestatic 117, 3) := by decide +kernel
theorem dX6_list_4 : decode cX6_list 4 = .ok (.ifCond .eq 10, 3) := by decide +kernel
theorem dX6_list_7 : decode cX6_list 7 = .ok (.iload_n 2, 1) := by decide +kernel
theorem dX6_list_8 : decode cX6_list 8 = .ok (.invokestatic 117, 3) := by decide +kernel
theorem dX6_list_11 : decode cX6_list 11 = .ok (.ifCond .ne 5, 3) := by decide +kernel
theorem dX6_list_14 : decode cX6_list 14 = .ok (.iconst (-1), 1) := by decide +kernel
theorem dX6_list_15 : decode cX6_list 15 = .ok (.ireturn, 1) := by decide +kernel
theorem dX6_list_16 : decode cX6_list 16 = .ok (.aload_n 0, 1) := by decide +kernel
theorem dX6_list_17 : decode cX6_list 17 = .ok (.iload_n 1, 1) := by decide +kernel
theorem dX6_list_18 : decode cX6_list 18 = .ok (.invokevirtual 121, 3) := by decide +kernel
theorem dX6_list_21 : decode cX6_list 21 = .ok (.ifCond .eq 9, 3) := by decide +kernel
theorem dX6_list_24 : decode cX6_list 24 = .ok (.aload_n 0, 1) := by decide +kernel
theorem dX6_list_25 : decode cX6_list 25 = .ok (.iload_n 1, 1) := by decide +kernel
theorem dX6_list_26 : decode cX6_list 26 = .ok (.invokevirtual 121, 3) := by decide +kernel
theorem dX6_list_29 : decode cX6_list 29 = .ok (.ireturn, 1) := by decide +kernel
theorem dX6_list_30 : decode cX6_list 30 = .ok (.aload_n 0, 1) := by decide +kernel
theorem dX6_list_31 : decode cX6_list 31 = .ok (.iload_n 2, 1) := by decide +kernel
theorem dX6_list_32 : decode cX6_list 32 = .ok (.invokevirtual 146, 3) := by decide +kernel
theorem dX6_list_35 : decode cX6_list 35 = .ok (.ifCond .eq 11, 3) := by decide +kernel
theorem dX6_list_38 : decode cX6_list 38 = .ok (.aload_n 0, 1) := by decide +kernel
theorem dX6_list_39 : decode cX6_list 39 = .ok (.iload_n 2, 1) := by decide +kernel
theorem dX6_list_40 : decode cX6_list 40 = .ok (.invokevirtual 146, 3) := by decide +kernel
theorem dX6_list_43 : decode cX6_list 43 = .ok (.goto 11, 3) := by decide +kernel
theorem dX6_list_46 : decode cX6_list 46 = .ok (.aload_n 0, 1) := by decide +kernel
theorem dX6_list_47 : decode cX6_list 47 = .ok (.iload_n 1, 1) := by decide +kernel
theorem dX6_list_48 : decode cX6_list 48 = .ok (.iload_n 2, 1) := by decide +kernel
theorem dX6_list_49 : decode cX6_list 49 = .ok (.iconst 0, 1) := by decide +kernel
theorem dX6_list_50 : decode cX6_list 50 = .ok (.iconst 0, 1) := by decide +kernel
theorem dX6_list_51 : decode cX6_list 51 = .ok (.invokevirtual 149, 3) := by decide +kernel
theorem dX6_list_54 : decode cX6_list 54 = .ok (.ireturn, 1) := by decide +kernel
set_option maxRecDepth 20000 in
theorem ggX6_cheapest_X6_isShelf : GoodIn wsX6_cheapest wsX6_isShelf := goodIn_r _ [5, 6, 7, 4, 8] (by decide +kernel) (by decide +kernel)
set_option maxRecDepth 20000 in
theorem gX6_cheapest_X6_isShelf : GoodIn wsX6_cheapest (va_wsS RX6 117 yX6_isShelf wsX6_isShelf) := goodIn_app (goodIn_of _ (by decide +kernel)) ggX6_cheapest_X6_isShelf
set_option maxRecDepth 20000 in
theorem ggX6_cheapest_X6_isIn : GoodIn wsX6_cheapest wsX6_isIn := goodIn_r _ [8] (by decide +kernel) (by decide +kernel)
set_option maxRecDepth 20000 in
theorem gX6_cheapest_X6_isIn : GoodIn wsX6_cheapest (va_wsS RX6 68 yX6_isIn wsX6_isIn) := goodIn_app (goodIn_of _ (by decide +kernel)) ggX6_cheapest_X6_isIn
set_option maxRecDepth 20000 in
theorem ggX6_cheapest_X6_noScale : GoodIn wsX6_cheapest wsX6_noScale := goodIn_r _ [12, 13, 69, 70, 71, 72, 73, 74, 75, 76, 77, 78, 79, 80, 81, 82, 83, 84, 85, 86, 87, 88, 89, 90, 91, 92, 93, 94, 95, 96, 97, 98, 99, 100] (by decide +kernel) (by decide +kernel)
set_option maxRecDepth 20000 in
theorem gX6_cheapest_X6_noScale : GoodIn wsX6_cheapest (wsV RX6 121 RX6 yX6_noScale wsX6_noScale) := goodIn_app (goodIn_of _ (by decide +kernel)) ggX6_cheapest_X6_noScale
set_option maxRecDepth 20000 in
theorem ggX6_cheapest_X6_noList : GoodIn wsX6_cheapest wsX6_noList := goodIn_r _ [17, 13, 18, 19, 20, 6, 7, 4, 8, 69, 70, 71, 72, 73, 74, 75, 76, 77, 78, 79, 80, 81, 82, 83, 84, 85, 86, 87, 88, 89, 90, 91, 92, 93, 94, 95, 96, 97, 98, 99, 100] (by decide +kernel) (by decide +kernel)
set_option maxRecDepth 20000 in
theorem gX6_cheapest_X6_noList : GoodIn wsX6_cheapest (wsV RX6 146 RX6 yX6_noList wsX6_noList) := goodIn_app (goodIn_of _ (by decide +kernel)) ggX6_cheapest_X6_noList
set_option maxRecDepth 20000 in
theorem ggX6_cheapest_X6_bestSet : GoodIn wsX6_cheapest wsX6_bestSet := goodIn_r _ [24, 1, 25, 26, 4, 27, 28, 29, 30, 31, 32, 33, 34, 35, 36, 19, 37, 20, 38, 39, 40, 41, 42, 43, 44, 45, 46, 47, 48, 49, 50, 51, 52, 53, 54, 55, 56, 57, 58, 59, 60, 61, 62, 63, 64, 65, 66, 67, 68, 6, 7, 8, 69, 70, 71, 72, 73, 74, 75, 76, 77, 78, 79, 80, 81, 82, 83, 84, 85, 86, 87, 88, 89, 90, 91, 92, 93, 94, 95, 96, 97, 98, 99, 100] (by decide +kernel) (by decide +kernel)
set_option maxRecDepth 20000 in
theorem gX6_cheapest_X6_bestSet : GoodIn wsX6_cheapest (wsV RX6 149 RX6 yX6_bestSet wsX6_bestSet) := goodIn_app (goodIn_of _ (by decide +kernel)) ggX6_cheapest_X6_bestSet
set_option maxRecDepth 20000 in
theorem ggX6_cheapest_X6_priceOf : GoodIn wsX6_cheapest wsX6_priceOf := goodIn_r _ [31, 1, 32, 69, 70, 71, 72, 73, 74, 75, 76, 77, 78, 79, 80, 81, 82, 83, 84, 85, 86, 87, 88, 89, 90, 91, 92, 93, 94, 95, 96, 97, 98, 99, 100] (by decide +kernel) (by decide +kernel)
set_option maxRecDepth 20000 in
theorem gX6_cheapest_X6_priceOf : GoodIn wsX6_cheapest (wsV RX6 140 RX6 yX6_priceOf wsX6_priceOf) := goodIn_app (goodIn_of _ (by decide +kernel)) ggX6_cheapest_X6_priceOf
theorem dX6_cheapest_0 : decode cX6_cheapest 0 = .ok (.iload_n 1, 1) := by decide +kernel
theorem dX6_cheapest_1 : decode cX6_cheapest 1 = .ok (.invokestatic 117, 3) := by decide +kernel
theorem dX6_cheapest_4 : decode cX6_cheapest 4 = .ok (.ifCond .eq 36, 3) := by decide +kernel
theorem dX6_cheapest_7 : decode cX6_cheapest 7 = .ok (.iload_n 2, 1) := by decide +kernel
theorem dX6_cheapest_8 : decode cX6_cheapest 8 = .ok (.invokestatic 117, 3) := by decide +kernel
theorem dX6_cheapest_11 : decode cX6_cheapest 11 = .ok (.ifCond .eq 29, 3) := by decide +kernel
theorem dX6_cheapest_14 : decode cX6_cheapest 14 = .ok (.iload_n 3, 1) := by decide +kernel
theorem dX6_cheapest_15 : decode cX6_cheapest 15 = .ok (.iconst 0, 1) := by decide +kernel
theorem dX6_cheapest_16 : decode cX6_cheapest 16 = .ok (.iconst 1, 1) := by decide +kernel
theorem dX6_cheapest_17 : decode cX6_cheapest 17 = .ok (.aload_n 0, 1) := by decide +kernel
theorem dX6_cheapest_18 : decode cX6_cheapest 18 = .ok (.getfield 57, 3) := by decide +kernel
theorem dX6_cheapest_21 : decode cX6_cheapest 21 = .ok (.ishl, 1) := by decide +kernel
theorem dX6_cheapest_22 : decode cX6_cheapest 22 = .ok (.iconst 1, 1) := by decide +kernel
theorem dX6_cheapest_23 : decode cX6_cheapest 23 = .ok (.isub, 1) := by decide +kernel
theorem dX6_cheapest_24 : decode cX6_cheapest 24 = .ok (.invokestatic 68, 3) := by decide +kernel
theorem dX6_cheapest_27 : decode cX6_cheapest 27 = .ok (.ifCond .eq 13, 3) := by decide +kernel
theorem dX6_cheapest_30 : decode cX6_cheapest 30 = .ok (.iload 4, 2) := by decide +kernel
theorem dX6_cheapest_32 : decode cX6_cheapest 32 = .ok (.iconst 0, 1) := by decide +kernel
theorem dX6_cheapest_33 : decode cX6_cheapest 33 = .ok (.iconst 1, 1) := by decide +kernel
theorem dX6_cheapest_34 : decode cX6_cheapest 34 = .ok (.invokestatic 68, 3) := by decide +kernel
theorem dX6_cheapest_37 : decode cX6_cheapest 37 = .ok (.ifCond .ne 5, 3) := by decide +kernel
theorem dX6_cheapest_40 : decode cX6_cheapest 40 = .ok (.iconst (-1), 1) := by decide +kernel
theorem dX6_cheapest_41 : decode cX6_cheapest 41 = .ok (.ireturn, 1) := by decide +kernel
theorem dX6_cheapest_42 : decode cX6_cheapest 42 = .ok (.aload_n 0, 1) := by decide +kernel
theorem dX6_cheapest_43 : decode cX6_cheapest 43 = .ok (.iload_n 1, 1) := by decide +kernel
theorem dX6_cheapest_44 : decode cX6_cheapest 44 = .ok (.invokevirtual 121, 3) := by decide +kernel
theorem dX6_cheapest_47 : decode cX6_cheapest 47 = .ok (.ifCond .eq 9, 3) := by decide +kernel
theorem dX6_cheapest_50 : decode cX6_cheapest 50 = .ok (.aload_n 0, 1) := by decide +kernel
theorem dX6_cheapest_51 : decode cX6_cheapest 51 = .ok (.iload_n 1, 1) := by decide +kernel
theorem dX6_cheapest_52 : decode cX6_cheapest 52 = .ok (.invokevirtual 121, 3) := by decide +kernel
theorem dX6_cheapest_55 : decode cX6_cheapest 55 = .ok (.ireturn, 1) := by decide +kernel
theorem dX6_cheapest_56 : decode cX6_cheapest 56 = .ok (.aload_n 0, 1) := by decide +kernel
theorem dX6_cheapest_57 : decode cX6_cheapest 57 = .ok (.iload_n 2, 1) := by decide +kernel
theorem dX6_cheapest_58 : decode cX6_cheapest 58 = .ok (.invokevirtual 146, 3) := by decide +kernel
theorem dX6_cheapest_61 : decode cX6_cheapest 61 = .ok (.ifCond .eq 9, 3) := by decide +kernel
theorem dX6_cheapest_64 : decode cX6_cheapest 64 = .ok (.aload_n 0, 1) := by decide +kernel
theorem dX6_cheapest_65 : decode cX6_cheapest 65 = .ok (.iload_n 2, 1) := by decide +kernel
theorem dX6_cheapest_66 : decode cX6_cheapest 66 = .ok (.invokevirtual 146, 3) := by decide +kernel
theorem dX6_cheapest_69 : decode cX6_cheapest 69 = .ok (.ireturn, 1) := by decide +kernel
theorem dX6_cheapest_70 : decode cX6_cheapest 70 = .ok (.aload_n 0, 1) := by decide +kernel
theorem dX6_cheapest_71 : decode cX6_cheapest 71 = .ok (.iload_n 1, 1) := by decide +kernel
theorem dX6_cheapest_72 : decode cX6_cheapest 72 = .ok (.iload_n 2, 1) := by decide +kernel
theorem dX6_cheapest_73 : decode cX6_cheapest 73 = .ok (.iload_n 3, 1) := by decide +kernel
theorem dX6_cheapest_74 : decode cX6_cheapest 74 = .ok (.iconst 1, 1) := by decide +kernel
theorem dX6_cheapest_75 : decode cX6_cheapest 75 = .ok (.invokevirtual 149, 3) := by decide +kernel
theorem dX6_cheapest_78 : decode cX6_cheapest 78 = .ok (.istore 5, 2) := by decide +kernel
theorem dX6_cheapest_80 : decode cX6_cheapest 80 = .ok (.iload 5, 2) := by decide +kernel
theorem dX6_cheapest_82 : decode cX6_cheapest 82 = .ok (.bipush (-4), 2) := by decide +kernel
theorem dX6_cheapest_84 : decode cX6_cheapest 84 = .ok (.if_icmp .eq 8, 3) := by decide +kernel
theorem dX6_cheapest_87 : decode cX6_cheapest 87 = .ok (.iload 4, 2) := by decide +kernel
theorem dX6_cheapest_89 : decode cX6_cheapest 89 = .ok (.ifCond .ne 8, 3) := by decide +kernel
theorem dX6_cheapest_92 : decode cX6_cheapest 92 = .ok (.iload 5, 2) := by decide +kernel
theorem dX6_cheapest_94 : decode cX6_cheapest 94 = .ok (.goto 13, 3) := by decide +kernel
theorem dX6_cheapest_97 : decode cX6_cheapest 97 = .ok (.aload_n 0, 1) := by decide +kernel
theorem dX6_cheapest_98 : decode cX6_cheapest 98 = .ok (.iload 5, 2) := by decide +kernel
theorem dX6_cheapest_100 : decode cX6_cheapest 100 = .ok (.iload_n 3, 1) := by decide +kernel
theorem dX6_cheapest_101 : decode cX6_cheapest 101 = .ok (.iconst (-1), 1) := by decide +kernel
theorem dX6_cheapest_102 : decode cX6_cheapest 102 = .ok (.ixor, 1) := by decide +kernel
theorem dX6_cheapest_103 : decode cX6_cheapest 103 = .ok (.iand, 1) := by decide +kernel
theorem dX6_cheapest_104 : decode cX6_cheapest 104 = .ok (.invokevirtual 140, 3) := by decide +kernel
theorem dX6_cheapest_107 : decode cX6_cheapest 107 = .ok (.ireturn, 1) := by decide +kernel
set_option maxRecDepth 20000 in
theorem ggX6_threes_X6_isIn : GoodIn wsX6_threes wsX6_isIn := goodIn_r _ [4] (by decide +kernel) (by decide +kernel)
set_option maxRecDepth 20000 in
theorem gX6_threes_X6_isIn : GoodIn wsX6_threes (va_wsS RX6 68 yX6_isIn wsX6_isIn) := goodIn_app (goodIn_of _ (by decide +kernel)) ggX6_threes_X6_isIn
set_option maxRecDepth 20000 in
theorem ggX6_threes_X6_power : GoodIn wsX6_threes wsX6_power := goodIn_r _ [7] (by decide +kernel) (by decide +kernel)
set_option maxRecDepth 20000 in
theorem gX6_threes_X6_power : GoodIn wsX6_threes (va_wsS RX6 76 yX6_power wsX6_power) := goodIn_app (goodIn_of _ (by decide +kernel)) ggX6_threes_X6_power
theorem dX6_threes_0 : decode cX6_threes 0 = .ok (.iload_n 1, 1) := by decide +kernel
theorem dX6_threes_1 : decode cX6_threes 1 = .ok (.iconst 1, 1) := by decide +kernel
theorem dX6_threes_2 : decode cX6_threes 2 = .ok (.sipush 9999, 3) := by decide +kernel
theorem dX6_threes_5 : decode cX6_threes 5 = .ok (.invokestatic 68, 3) := by decide +kernel
theorem dX6_threes_8 : decode cX6_threes 8 = .ok (.ifCond .eq 8, 3) := by decide +kernel
theorem dX6_threes_11 : decode cX6_threes 11 = .ok (.iload_n 2, 1) := by decide +kernel
theorem dX6_threes_12 : decode cX6_threes 12 = .ok (.iconst (-1), 1) := by decide +kernel
theorem dX6_threes_13 : decode cX6_threes 13 = .ok (.if_icmp .ge 5, 3) := by decide +kernel
theorem dX6_threes_16 : decode cX6_threes 16 = .ok (.iconst (-1), 1) := by decide +kernel
theorem dX6_threes_17 : decode cX6_threes 17 = .ok (.ireturn, 1) := by decide +kernel
theorem dX6_threes_18 : decode cX6_threes 18 = .ok (.iconst 0, 1) := by decide +kernel
theorem dX6_threes_19 : decode cX6_threes 19 = .ok (.istore_n 3, 1) := by decide +kernel
theorem dX6_threes_20 : decode cX6_threes 20 = .ok (.iconst 0, 1) := by decide +kernel
theorem dX6_threes_21 : decode cX6_threes 21 = .ok (.istore 4, 2) := by decide +kernel
theorem dX6_threes_23 : decode cX6_threes 23 = .ok (.iconst 1, 1) := by decide +kernel
theorem dX6_threes_24 : decode cX6_threes 24 = .ok (.istore 5, 2) := by decide +kernel
theorem dX6_threes_26 : decode cX6_threes 26 = .ok (.iload 4, 2) := by decide +kernel
theorem dX6_threes_28 : decode cX6_threes 28 = .ok (.iload_n 1, 1) := by decide +kernel
theorem dX6_threes_29 : decode cX6_threes 29 = .ok (.if_icmp .ge 22, 3) := by decide +kernel
theorem dX6_threes_32 : decode cX6_threes 32 = .ok (.iload 4, 2) := by decide +kernel
theorem dX6_threes_34 : decode cX6_threes 34 = .ok (.iload 5, 2) := by decide +kernel
theorem dX6_threes_36 : decode cX6_threes 36 = .ok (.iadd, 1) := by decide +kernel
theorem dX6_threes_37 : decode cX6_threes 37 = .ok (.istore 4, 2) := by decide +kernel
theorem dX6_threes_39 : decode cX6_threes 39 = .ok (.iload 5, 2) := by decide +kernel
theorem dX6_threes_41 : decode cX6_threes 41 = .ok (.iconst 3, 1) := by decide +kernel
theorem dX6_threes_42 : decode cX6_threes 42 = .ok (.imul, 1) := by decide +kernel
theorem dX6_threes_43 : decode cX6_threes 43 = .ok (.istore 5, 2) := by decide +kernel
theorem dX6_threes_45 : decode cX6_threes 45 = .ok (.iinc 3 1, 3) := by decide +kernel
theorem dX6_threes_48 : decode cX6_threes 48 = .ok (.goto (-22), 3) := by decide +kernel
theorem dX6_threes_51 : decode cX6_threes 51 = .ok (.iload_n 2, 1) := by decide +kernel
theorem dX6_threes_52 : decode cX6_threes 52 = .ok (.ifCond .ge 7, 3) := by decide +kernel
theorem dX6_threes_55 : decode cX6_threes 55 = .ok (.iload_n 3, 1) := by decide +kernel
theorem dX6_threes_56 : decode cX6_threes 56 = .ok (.goto 17, 3) := by decide +kernel
theorem dX6_threes_59 : decode cX6_threes 59 = .ok (.iload_n 2, 1) := by decide +kernel
theorem dX6_threes_60 : decode cX6_threes 60 = .ok (.iload_n 3, 1) := by decide +kernel
theorem dX6_threes_61 : decode cX6_threes 61 = .ok (.if_icmp .ge 10, 3) := by decide +kernel
theorem dX6_threes_64 : decode cX6_threes 64 = .ok (.iload_n 2, 1) := by decide +kernel
theorem dX6_threes_65 : decode cX6_threes 65 = .ok (.invokestatic 76, 3) := by decide +kernel
theorem dX6_threes_68 : decode cX6_threes 68 = .ok (.goto 5, 3) := by decide +kernel
theorem dX6_threes_71 : decode cX6_threes 71 = .ok (.bipush (-4), 2) := by decide +kernel
theorem dX6_threes_73 : decode cX6_threes 73 = .ok (.ireturn, 1) := by decide +kernel
set_option maxRecDepth 20000 in
theorem ggX6_doubles_X6_isIn : GoodIn wsX6_doubles wsX6_isIn := goodIn_r _ [4] (by decide +kernel) (by decide +kernel)
set_option maxRecDepth 20000 in
theorem gX6_doubles_X6_isIn : GoodIn wsX6_doubles (va_wsS RX6 68 yX6_isIn wsX6_isIn) := goodIn_app (goodIn_of _ (by decide +kernel)) ggX6_doubles_X6_isIn
theorem dX6_doubles_0 : decode cX6_doubles 0 = .ok (.iload_n 1, 1) := by decide +kernel
theorem dX6_doubles_1 : decode cX6_doubles 1 = .ok (.iconst 1, 1) := by decide +kernel
theorem dX6_doubles_2 : decode cX6_doubles 2 = .ok (.sipush 9999, 3) := by decide +kernel
theorem dX6_doubles_5 : decode cX6_doubles 5 = .ok (.invokestatic 68, 3) := by decide +kernel
theorem dX6_doubles_8 : decode cX6_doubles 8 = .ok (.ifCond .eq 8, 3) := by decide +kernel
theorem dX6_doubles_11 : decode cX6_doubles 11 = .ok (.iload_n 2, 1) := by decide +kernel
theorem dX6_doubles_12 : decode cX6_doubles 12 = .ok (.iconst (-1), 1) := by decide +kernel
theorem dX6_doubles_13 : decode cX6_doubles 13 = .ok (.if_icmp .ge 5, 3) := by decide +kernel
theorem dX6_doubles_16 : decode cX6_doubles 16 = .ok (.iconst (-1), 1) := by decide +kernel
theorem dX6_doubles_17 : decode cX6_doubles 17 = .ok (.ireturn, 1) := by decide +kernel
theorem dX6_doubles_18 : decode cX6_doubles 18 = .ok (.iconst 0, 1) := by decide +kernel
theorem dX6_doubles_19 : decode cX6_doubles 19 = .ok (.istore_n 3, 1) := by decide +kernel
theorem dX6_doubles_20 : decode cX6_doubles 20 = .ok (.iconst 1, 1) := by decide +kernel
theorem dX6_doubles_21 : decode cX6_doubles 21 = .ok (.iload_n 3, 1) := by decide +kernel
theorem dX6_doubles_22 : decode cX6_doubles 22 = .ok (.ishl, 1) := by decide +kernel
theorem dX6_doubles_23 : decode cX6_doubles 23 = .ok (.iconst 1, 1) := by decide +kernel
theorem dX6_doubles_24 : decode cX6_doubles 24 = .ok (.isub, 1) := by decide +kernel
theorem dX6_doubles_25 : decode cX6_doubles 25 = .ok (.iload_n 1, 1) := by decide +kernel
theorem dX6_doubles_26 : decode cX6_doubles 26 = .ok (.if_icmp .ge 9, 3) := by decide +kernel
theorem dX6_doubles_29 : decode cX6_doubles 29 = .ok (.iinc 3 1, 3) := by decide +kernel
theorem dX6_doubles_32 : decode cX6_doubles 32 = .ok (.goto (-12), 3) := by decide +kernel
theorem dX6_doubles_35 : decode cX6_doubles 35 = .ok (.iload_n 2, 1) := by decide +kernel
theorem dX6_doubles_36 : decode cX6_doubles 36 = .ok (.ifCond .ge 7, 3) := by decide +kernel
theorem dX6_doubles_39 : decode cX6_doubles 39 = .ok (.iload_n 3, 1) := by decide +kernel
theorem dX6_doubles_40 : decode cX6_doubles 40 = .ok (.goto 16, 3) := by decide +kernel
theorem dX6_doubles_43 : decode cX6_doubles 43 = .ok (.iload_n 2, 1) := by decide +kernel
theorem dX6_doubles_44 : decode cX6_doubles 44 = .ok (.iload_n 3, 1) := by decide +kernel
theorem dX6_doubles_45 : decode cX6_doubles 45 = .ok (.if_icmp .ge 9, 3) := by decide +kernel
theorem dX6_doubles_48 : decode cX6_doubles 48 = .ok (.iconst 1, 1) := by decide +kernel
theorem dX6_doubles_49 : decode cX6_doubles 49 = .ok (.iload_n 2, 1) := by decide +kernel
theorem dX6_doubles_50 : decode cX6_doubles 50 = .ok (.ishl, 1) := by decide +kernel
theorem dX6_doubles_51 : decode cX6_doubles 51 = .ok (.goto 5, 3) := by decide +kernel
theorem dX6_doubles_54 : decode cX6_doubles 54 = .ok (.bipush (-4), 2) := by decide +kernel
theorem dX6_doubles_56 : decode cX6_doubles 56 = .ok (.ireturn, 1) := by decide +kernel
theorem dX6_lowest_0 : decode cX6_lowest 0 = .ok (.iload_n 0, 1) := by decide +kernel
theorem dX6_lowest_1 : decode cX6_lowest 1 = .ok (.iconst 3, 1) := by decide +kernel
theorem dX6_lowest_2 : decode cX6_lowest 2 = .ok (.irem, 1) := by decide +kernel
theorem dX6_lowest_3 : decode cX6_lowest 3 = .ok (.iconst 3, 1) := by decide +kernel
theorem dX6_lowest_4 : decode cX6_lowest 4 = .ok (.iadd, 1) := by decide +kernel
theorem dX6_lowest_5 : decode cX6_lowest 5 = .ok (.iconst 3, 1) := by decide +kernel
theorem dX6_lowest_6 : decode cX6_lowest 6 = .ok (.irem, 1) := by decide +kernel
theorem dX6_lowest_7 : decode cX6_lowest 7 = .ok (.istore_n 1, 1) := by decide +kernel
theorem dX6_lowest_8 : decode cX6_lowest 8 = .ok (.iload_n 1, 1) := by decide +kernel
theorem dX6_lowest_9 : decode cX6_lowest 9 = .ok (.iconst 2, 1) := by decide +kernel
theorem dX6_lowest_10 : decode cX6_lowest 10 = .ok (.if_icmp .ne 7, 3) := by decide +kernel
theorem dX6_lowest_13 : decode cX6_lowest 13 = .ok (.iconst (-1), 1) := by decide +kernel
theorem dX6_lowest_14 : decode cX6_lowest 14 = .ok (.goto 4, 3) := by decide +kernel
theorem dX6_lowest_17 : decode cX6_lowest 17 = .ok (.iload_n 1, 1) := by decide +kernel
theorem dX6_lowest_18 : decode cX6_lowest 18 = .ok (.ireturn, 1) := by decide +kernel
set_option maxRecDepth 20000 in
theorem ggX6_digits_X6_isIn : GoodIn wsX6_digits wsX6_isIn := goodIn_r _ [4] (by decide +kernel) (by decide +kernel)
set_option maxRecDepth 20000 in
theorem gX6_digits_X6_isIn : GoodIn wsX6_digits (va_wsS RX6 68 yX6_isIn wsX6_isIn) := goodIn_app (goodIn_of _ (by decide +kernel)) ggX6_digits_X6_isIn
set_option maxRecDepth 20000 in
theorem ggX6_digits_X6_lowest : GoodIn wsX6_digits wsX6_lowest := goodIn_r _ [7] (by decide +kernel) (by decide +kernel)
set_option maxRecDepth 20000 in
theorem gX6_digits_X6_lowest : GoodIn wsX6_digits (va_wsS RX6 153 yX6_lowest wsX6_lowest) := goodIn_app (goodIn_of _ (by decide +kernel)) ggX6_digits_X6_lowest
theorem dX6_digits_0 : decode cX6_digits 0 = .ok (.iload_n 1, 1) := by decide +kernel
theorem dX6_digits_1 : decode cX6_digits 1 = .ok (.sipush (-9999), 3) := by decide +kernel
theorem dX6_digits_4 : decode cX6_digits 4 = .ok (.sipush 9999, 3) := by decide +kernel
theorem dX6_digits_7 : decode cX6_digits 7 = .ok (.invokestatic 68, 3) := by decide +kernel
theorem dX6_digits_10 : decode cX6_digits 10 = .ok (.ifCond .eq 8, 3) := by decide +kernel
theorem dX6_digits_13 : decode cX6_digits 13 = .ok (.iload_n 2, 1) := by decide +kernel
theorem dX6_digits_14 : decode cX6_digits 14 = .ok (.iconst (-1), 1) := by decide +kernel
theorem dX6_digits_15 : decode cX6_digits 15 = .ok (.if_icmp .ge 5, 3) := by decide +kernel
theorem dX6_digits_18 : decode cX6_digits 18 = .ok (.iconst (-1), 1) := by decide +kernel
theorem dX6_digits_19 : decode cX6_digits 19 = .ok (.ireturn, 1) := by decide +kernel
theorem dX6_digits_20 : decode cX6_digits 20 = .ok (.iload_n 1, 1) := by decide +kernel
theorem dX6_digits_21 : decode cX6_digits 21 = .ok (.istore_n 3, 1) := by decide +kernel
theorem dX6_digits_22 : decode cX6_digits 22 = .ok (.iconst 0, 1) := by decide +kernel
theorem dX6_digits_23 : decode cX6_digits 23 = .ok (.istore 4, 2) := by decide +kernel
theorem dX6_digits_25 : decode cX6_digits 25 = .ok (.iconst 0, 1) := by decide +kernel
theorem dX6_digits_26 : decode cX6_digits 26 = .ok (.istore 5, 2) := by decide +kernel
theorem dX6_digits_28 : decode cX6_digits 28 = .ok (.iload_n 3, 1) := by decide +kernel
theorem dX6_digits_29 : decode cX6_digits 29 = .ok (.ifCond .eq 37, 3) := by decide +kernel
theorem dX6_digits_32 : decode cX6_digits 32 = .ok (.iload_n 3, 1) := by decide +kernel
theorem dX6_digits_33 : decode cX6_digits 33 = .ok (.invokestatic 153, 3) := by decide +kernel
theorem dX6_digits_36 : decode cX6_digits 36 = .ok (.istore 6, 2) := by decide +kernel
theorem dX6_digits_38 : decode cX6_digits 38 = .ok (.iload 4, 2) := by decide +kernel
theorem dX6_digits_40 : decode cX6_digits 40 = .ok (.iload_n 2, 1) := by decide +kernel
theorem dX6_digits_41 : decode cX6_digits 41 = .ok (.if_icmp .ne 8, 3) := by decide +kernel
theorem dX6_digits_44 : decode cX6_digits 44 = .ok (.iload 6, 2) := by decide +kernel
theorem dX6_digits_46 : decode cX6_digits 46 = .ok (.goto 5, 3) := by decide +kernel
theorem dX6_digits_49 : decode cX6_digits 49 = .ok (.iload 5, 2) := by decide +kernel
theorem dX6_digits_51 : decode cX6_digits 51 = .ok (.istore 5, 2) := by decide +kernel
theorem dX6_digits_53 : decode cX6_digits 53 = .ok (.iload_n 3, 1) := by decide +kernel
theorem dX6_digits_54 : decode cX6_digits 54 = .ok (.iload 6, 2) := by decide +kernel
theorem dX6_digits_56 : decode cX6_digits 56 = .ok (.isub, 1) := by decide +kernel
theorem dX6_digits_57 : decode cX6_digits 57 = .ok (.iconst 3, 1) := by decide +kernel
theorem dX6_digits_58 : decode cX6_digits 58 = .ok (.idiv, 1) := by decide +kernel
theorem dX6_digits_59 : decode cX6_digits 59 = .ok (.istore_n 3, 1) := by decide +kernel
theorem dX6_digits_60 : decode cX6_digits 60 = .ok (.iinc 4 1, 3) := by decide +kernel
theorem dX6_digits_63 : decode cX6_digits 63 = .ok (.goto (-35), 3) := by decide +kernel
theorem dX6_digits_66 : decode cX6_digits 66 = .ok (.iload_n 2, 1) := by decide +kernel
theorem dX6_digits_67 : decode cX6_digits 67 = .ok (.ifCond .ge 8, 3) := by decide +kernel
theorem dX6_digits_70 : decode cX6_digits 70 = .ok (.iload 4, 2) := by decide +kernel
theorem dX6_digits_72 : decode cX6_digits 72 = .ok (.goto 14, 3) := by decide +kernel
theorem dX6_digits_75 : decode cX6_digits 75 = .ok (.iload 5, 2) := by decide +kernel
theorem dX6_digits_77 : decode cX6_digits 77 = .ok (.ifCond .ge 7, 3) := by decide +kernel
theorem dX6_digits_80 : decode cX6_digits 80 = .ok (.iconst 2, 1) := by decide +kernel
theorem dX6_digits_81 : decode cX6_digits 81 = .ok (.goto 5, 3) := by decide +kernel
theorem dX6_digits_84 : decode cX6_digits 84 = .ok (.iload 5, 2) := by decide +kernel
theorem dX6_digits_86 : decode cX6_digits 86 = .ok (.ireturn, 1) := by decide +kernel
set_option maxRecDepth 20000 in
theorem ggX6_added_X6_isIn : GoodIn wsX6_added wsX6_isIn := goodIn_r _ [4] (by decide +kernel) (by decide +kernel)
set_option maxRecDepth 20000 in
theorem gX6_added_X6_isIn : GoodIn wsX6_added (va_wsS RX6 68 yX6_isIn wsX6_isIn) := goodIn_app (goodIn_of _ (by decide +kernel)) ggX6_added_X6_isIn
set_option maxRecDepth 20000 in
theorem ggX6_added_X6_lowest : GoodIn wsX6_added wsX6_lowest := goodIn_r _ [7] (by decide +kernel) (by decide +kernel)
set_option maxRecDepth 20000 in
theorem gX6_added_X6_lowest : GoodIn wsX6_added (va_wsS RX6 153 yX6_lowest wsX6_lowest) := goodIn_app (goodIn_of _ (by decide +kernel)) ggX6_added_X6_lowest
theorem dX6_added_0 : decode cX6_added 0 = .ok (.iload_n 1, 1) := by decide +kernel
theorem dX6_added_1 : decode cX6_added 1 = .ok (.sipush (-9999), 3) := by decide +kernel
theorem dX6_added_4 : decode cX6_added 4 = .ok (.sipush 9999, 3) := by decide +kernel
theorem dX6_added_7 : decode cX6_added 7 = .ok (.invokestatic 68, 3) := by decide +kernel
theorem dX6_added_10 : decode cX6_added 10 = .ok (.ifCond .eq 16, 3) := by decide +kernel
theorem dX6_added_13 : decode cX6_added 13 = .ok (.iload_n 2, 1) := by decide +kernel
theorem dX6_added_14 : decode cX6_added 14 = .ok (.sipush (-9999), 3) := by decide +kernel
theorem dX6_added_17 : decode cX6_added 17 = .ok (.sipush 9999, 3) := by decide +kernel
theorem dX6_added_20 : decode cX6_added 20 = .ok (.invokestatic 68, 3) := by decide +kernel
theorem dX6_added_23 : decode cX6_added 23 = .ok (.ifCond .ne 5, 3) := by decide +kernel
theorem dX6_added_26 : decode cX6_added 26 = .ok (.iconst (-1), 1) := by decide +kernel
theorem dX6_added_27 : decode cX6_added 27 = .ok (.ireturn, 1) := by decide +kernel
theorem dX6_added_28 : decode cX6_added 28 = .ok (.iload_n 1, 1) := by decide +kernel
theorem dX6_added_29 : decode cX6_added 29 = .ok (.istore_n 3, 1) := by decide +kernel
theorem dX6_added_30 : decode cX6_added 30 = .ok (.iload_n 2, 1) := by decide +kernel
theorem dX6_added_31 : decode cX6_added 31 = .ok (.istore 4, 2) := by decide +kernel
theorem dX6_added_33 : decode cX6_added 33 = .ok (.iconst 0, 1) := by decide +kernel
theorem dX6_added_34 : decode cX6_added 34 = .ok (.istore 5, 2) := by decide +kernel
theorem dX6_added_36 : decode cX6_added 36 = .ok (.iconst 0, 1) := by decide +kernel
theorem dX6_added_37 : decode cX6_added 37 = .ok (.istore 6, 2) := by decide +kernel
theorem dX6_added_39 : decode cX6_added 39 = .ok (.iload_n 3, 1) := by decide +kernel
theorem dX6_added_40 : decode cX6_added 40 = .ok (.ifCond .ne 13, 3) := by decide +kernel
theorem dX6_added_43 : decode cX6_added 43 = .ok (.iload 4, 2) := by decide +kernel
theorem dX6_added_45 : decode cX6_added 45 = .ok (.ifCond .ne 8, 3) := by decide +kernel
theorem dX6_added_48 : decode cX6_added 48 = .ok (.iload 5, 2) := by decide +kernel
theorem dX6_added_50 : decode cX6_added 50 = .ok (.ifCond .eq 83, 3) := by decide +kernel
theorem dX6_added_53 : decode cX6_added 53 = .ok (.iload_n 3, 1) := by decide +kernel
theorem dX6_added_54 : decode cX6_added 54 = .ok (.invokestatic 153, 3) := by decide +kernel
theorem dX6_added_57 : decode cX6_added 57 = .ok (.istore 7, 2) := by decide +kernel
theorem dX6_added_59 : decode cX6_added 59 = .ok (.iload 4, 2) := by decide +kernel
theorem dX6_added_61 : decode cX6_added 61 = .ok (.invokestatic 153, 3) := by decide +kernel
theorem dX6_added_64 : decode cX6_added 64 = .ok (.istore 8, 2) := by decide +kernel
theorem dX6_added_66 : decode cX6_added 66 = .ok (.iload 7, 2) := by decide +kernel
theorem dX6_added_68 : decode cX6_added 68 = .ok (.iload 8, 2) := by decide +kernel
theorem dX6_added_70 : decode cX6_added 70 = .ok (.iadd, 1) := by decide +kernel
theorem dX6_added_71 : decode cX6_added 71 = .ok (.iload 5, 2) := by decide +kernel
theorem dX6_added_73 : decode cX6_added 73 = .ok (.iadd, 1) := by decide +kernel
theorem dX6_added_74 : decode cX6_added 74 = .ok (.istore 9, 2) := by decide +kernel
theorem dX6_added_76 : decode cX6_added 76 = .ok (.iload 9, 2) := by decide +kernel
theorem dX6_added_78 : decode cX6_added 78 = .ok (.iconst 1, 1) := by decide +kernel
theorem dX6_added_79 : decode cX6_added 79 = .ok (.if_icmp .le 7, 3) := by decide +kernel
theorem dX6_added_82 : decode cX6_added 82 = .ok (.iconst 1, 1) := by decide +kernel
theorem dX6_added_83 : decode cX6_added 83 = .ok (.goto 14, 3) := by decide +kernel
theorem dX6_added_86 : decode cX6_added 86 = .ok (.iload 9, 2) := by decide +kernel
theorem dX6_added_88 : decode cX6_added 88 = .ok (.iconst (-1), 1) := by decide +kernel
theorem dX6_added_89 : decode cX6_added 89 = .ok (.if_icmp .ge 7, 3) := by decide +kernel
theorem dX6_added_92 : decode cX6_added 92 = .ok (.iconst (-1), 1) := by decide +kernel
theorem dX6_added_93 : decode cX6_added 93 = .ok (.goto 4, 3) := by decide +kernel
theorem dX6_added_96 : decode cX6_added 96 = .ok (.iconst 0, 1) := by decide +kernel
theorem dX6_added_97 : decode cX6_added 97 = .ok (.istore 5, 2) := by decide +kernel
theorem dX6_added_99 : decode cX6_added 99 = .ok (.iload 6, 2) := by decide +kernel
theorem dX6_added_101 : decode cX6_added 101 = .ok (.iload 5, 2) := by decide +kernel
theorem dX6_added_103 : decode cX6_added 103 = .ok (.ifCond .ne 7, 3) := by decide +kernel
theorem dX6_added_106 : decode cX6_added 106 = .ok (.iconst 0, 1) := by decide +kernel
theorem dX6_added_107 : decode cX6_added 107 = .ok (.goto 4, 3) := by decide +kernel
theorem dX6_added_110 : decode cX6_added 110 = .ok (.iconst 1, 1) := by decide +kernel
theorem dX6_added_111 : decode cX6_added 111 = .ok (.iadd, 1) := by decide +kernel
theorem dX6_added_112 : decode cX6_added 112 = .ok (.istore 6, 2) := by decide +kernel
theorem dX6_added_114 : decode cX6_added 114 = .ok (.iload_n 3, 1) := by decide +kernel
theorem dX6_added_115 : decode cX6_added 115 = .ok (.iload 7, 2) := by decide +kernel
theorem dX6_added_117 : decode cX6_added 117 = .ok (.isub, 1) := by decide +kernel
theorem dX6_added_118 : decode cX6_added 118 = .ok (.iconst 3, 1) := by decide +kernel
theorem dX6_added_119 : decode cX6_added 119 = .ok (.idiv, 1) := by decide +kernel
theorem dX6_added_120 : decode cX6_added 120 = .ok (.istore_n 3, 1) := by decide +kernel
theorem dX6_added_121 : decode cX6_added 121 = .ok (.iload 4, 2) := by decide +kernel
theorem dX6_added_123 : decode cX6_added 123 = .ok (.iload 8, 2) := by decide +kernel
theorem dX6_added_125 : decode cX6_added 125 = .ok (.isub, 1) := by decide +kernel
theorem dX6_added_126 : decode cX6_added 126 = .ok (.iconst 3, 1) := by decide +kernel
theorem dX6_added_127 : decode cX6_added 127 = .ok (.idiv, 1) := by decide +kernel
theorem dX6_added_128 : decode cX6_added 128 = .ok (.istore 4, 2) := by decide +kernel
theorem dX6_added_130 : decode cX6_added 130 = .ok (.goto (-91), 3) := by decide +kernel
theorem dX6_added_133 : decode cX6_added 133 = .ok (.iload 6, 2) := by decide +kernel
theorem dX6_added_135 : decode cX6_added 135 = .ok (.ireturn, 1) := by decide +kernel
set_option maxRecDepth 20000 in
theorem ggX6_isAllHad_X6_power : GoodIn wsX6_isAllHad wsX6_power := goodIn_r _ [5] (by decide +kernel) (by decide +kernel)
set_option maxRecDepth 20000 in
theorem gX6_isAllHad_X6_power : GoodIn wsX6_isAllHad (va_wsS RX6 76 yX6_power wsX6_power) := goodIn_app (goodIn_of _ (by decide +kernel)) ggX6_isAllHad_X6_power
theorem dX6_isAllHad_0 : decode cX6_isAllHad 0 = .ok (.iconst 1, 1) := by decide +kernel
theorem dX6_isAllHad_1 : decode cX6_isAllHad 1 = .ok (.istore_n 3, 1) := by decide +kernel
theorem dX6_isAllHad_2 : decode cX6_isAllHad 2 = .ok (.iload_n 3, 1) := by decide +kernel
theorem dX6_isAllHad_3 : decode cX6_isAllHad 3 = .ok (.iload_n 2, 1) := by decide +kernel
theorem dX6_isAllHad_4 : decode cX6_isAllHad 4 = .ok (.if_icmp .gt 128, 3) := by decide +kernel
theorem dX6_isAllHad_7 : decode cX6_isAllHad 7 = .ok (.iconst 0, 1) := by decide +kernel
theorem dX6_isAllHad_8 : decode cX6_isAllHad 8 = .ok (.istore 4, 2) := by decide +kernel
theorem dX6_isAllHad_10 : decode cX6_isAllHad 10 = .ok (.iconst 0, 1) := by decide +kernel
theorem dX6_isAllHad_11 : decode cX6_isAllHad 11 = .ok (.istore 5, 2) := by decide +kernel
theorem dX6_isAllHad_13 : decode cX6_isAllHad 13 = .ok (.iload 5, 2) := by decide +kernel
theorem dX6_isAllHad_15 : decode cX6_isAllHad 15 = .ok (.iload_n 1, 1) := by decide +kernel
theorem dX6_isAllHad_16 : decode cX6_isAllHad 16 = .ok (.invokestatic 76, 3) := by decide +kernel
theorem dX6_isAllHad_19 : decode cX6_isAllHad 19 = .ok (.if_icmp .ge 100, 3) := by decide +kernel
theorem dX6_isAllHad_22 : decode cX6_isAllHad 22 = .ok (.iconst 0, 1) := by decide +kernel
theorem dX6_isAllHad_23 : decode cX6_isAllHad 23 = .ok (.istore 6, 2) := by decide +kernel
theorem dX6_isAllHad_25 : decode cX6_isAllHad 25 = .ok (.iload 5, 2) := by decide +kernel
theorem dX6_isAllHad_27 : decode cX6_isAllHad 27 = .ok (.istore 7, 2) := by decide +kernel
theorem dX6_isAllHad_29 : decode cX6_isAllHad 29 = .ok (.iconst 0, 1) := by decide +kernel
theorem dX6_isAllHad_30 : decode cX6_isAllHad 30 = .ok (.istore 8, 2) := by decide +kernel
theorem dX6_isAllHad_32 : decode cX6_isAllHad 32 = .ok (.iload 8, 2) := by decide +kernel
theorem dX6_isAllHad_34 : decode cX6_isAllHad 34 = .ok (.iload_n 1, 1) := by decide +kernel
theorem dX6_isAllHad_35 : decode cX6_isAllHad 35 = .ok (.if_icmp .ge 60, 3) := by decide +kernel
theorem dX6_isAllHad_38 : decode cX6_isAllHad 38 = .ok (.iload 7, 2) := by decide +kernel
theorem dX6_isAllHad_40 : decode cX6_isAllHad 40 = .ok (.iconst 3, 1) := by decide +kernel
theorem dX6_isAllHad_41 : decode cX6_isAllHad 41 = .ok (.irem, 1) := by decide +kernel
theorem dX6_isAllHad_42 : decode cX6_isAllHad 42 = .ok (.istore 9, 2) := by decide +kernel
theorem dX6_isAllHad_44 : decode cX6_isAllHad 44 = .ok (.iload 7, 2) := by decide +kernel
theorem dX6_isAllHad_46 : decode cX6_isAllHad 46 = .ok (.iconst 3, 1) := by decide +kernel
theorem dX6_isAllHad_47 : decode cX6_isAllHad 47 = .ok (.idiv, 1) := by decide +kernel
theorem dX6_isAllHad_48 : decode cX6_isAllHad 48 = .ok (.istore 7, 2) := by decide +kernel
theorem dX6_isAllHad_50 : decode cX6_isAllHad 50 = .ok (.iload 6, 2) := by decide +kernel
theorem dX6_isAllHad_52 : decode cX6_isAllHad 52 = .ok (.iload 9, 2) := by decide +kernel
theorem dX6_isAllHad_54 : decode cX6_isAllHad 54 = .ok (.iconst 1, 1) := by decide +kernel
theorem dX6_isAllHad_55 : decode cX6_isAllHad 55 = .ok (.if_icmp .ne 13, 3) := by decide +kernel
theorem dX6_isAllHad_58 : decode cX6_isAllHad 58 = .ok (.aload_n 0, 1) := by decide +kernel
theorem dX6_isAllHad_59 : decode cX6_isAllHad 59 = .ok (.getfield 26, 3) := by decide +kernel
theorem dX6_isAllHad_62 : decode cX6_isAllHad 62 = .ok (.iload 8, 2) := by decide +kernel
theorem dX6_isAllHad_64 : decode cX6_isAllHad 64 = .ok (.iaload, 1) := by decide +kernel
theorem dX6_isAllHad_65 : decode cX6_isAllHad 65 = .ok (.goto 21, 3) := by decide +kernel
theorem dX6_isAllHad_68 : decode cX6_isAllHad 68 = .ok (.iload 9, 2) := by decide +kernel
theorem dX6_isAllHad_70 : decode cX6_isAllHad 70 = .ok (.iconst 2, 1) := by decide +kernel
theorem dX6_isAllHad_71 : decode cX6_isAllHad 71 = .ok (.if_icmp .ne 14, 3) := by decide +kernel
theorem dX6_isAllHad_74 : decode cX6_isAllHad 74 = .ok (.aload_n 0, 1) := by decide +kernel
theorem dX6_isAllHad_75 : decode cX6_isAllHad 75 = .ok (.getfield 26, 3) := by decide +kernel
theorem dX6_isAllHad_78 : decode cX6_isAllHad 78 = .ok (.iload 8, 2) := by decide +kernel
theorem dX6_isAllHad_80 : decode cX6_isAllHad 80 = .ok (.iaload, 1) := by decide +kernel
theorem dX6_isAllHad_81 : decode cX6_isAllHad 81 = .ok (.ineg, 1) := by decide +kernel
theorem dX6_isAllHad_82 : decode cX6_isAllHad 82 = .ok (.goto 4, 3) := by decide +kernel
theorem dX6_isAllHad_85 : decode cX6_isAllHad 85 = .ok (.iconst 0, 1) := by decide +kernel
theorem dX6_isAllHad_86 : decode cX6_isAllHad 86 = .ok (.iadd, 1) := by decide +kernel
theorem dX6_isAllHad_87 : decode cX6_isAllHad 87 = .ok (.istore 6, 2) := by decide +kernel
theorem dX6_isAllHad_89 : decode cX6_isAllHad 89 = .ok (.iinc 8 1, 3) := by decide +kernel
theorem dX6_isAllHad_92 : decode cX6_isAllHad 92 = .ok (.goto (-60), 3) := by decide +kernel
theorem dX6_isAllHad_95 : decode cX6_isAllHad 95 = .ok (.iload 4, 2) := by decide +kernel
theorem dX6_isAllHad_97 : decode cX6_isAllHad 97 = .ok (.ifCond .ne 9, 3) := by decide +kernel
theorem dX6_isAllHad_100 : decode cX6_isAllHad 100 = .ok (.iload 6, 2) := by decide +kernel
theorem dX6_isAllHad_102 : decode cX6_isAllHad 102 = .ok (.iload_n 3, 1) := by decide +kernel
theorem dX6_isAllHad_103 : decode cX6_isAllHad 103 = .ok (.if_icmp .ne 7, 3) := by decide +kernel
theorem dX6_isAllHad_106 : decode cX6_isAllHad 106 = .ok (.iconst 1, 1) := by decide +kernel
theorem dX6_isAllHad_107 : decode cX6_isAllHad 107 = .ok (.goto 4, 3) := by decide +kernel
theorem dX6_isAllHad_110 : decode cX6_isAllHad 110 = .ok (.iconst 0, 1) := by decide +kernel
theorem dX6_isAllHad_111 : decode cX6_isAllHad 111 = .ok (.istore 4, 2) := by decide +kernel
theorem dX6_isAllHad_113 : decode cX6_isAllHad 113 = .ok (.iinc 5 1, 3) := by decide +kernel
theorem dX6_isAllHad_116 : decode cX6_isAllHad 116 = .ok (.goto (-103), 3) := by decide +kernel
theorem dX6_isAllHad_119 : decode cX6_isAllHad 119 = .ok (.iload 4, 2) := by decide +kernel
theorem dX6_isAllHad_121 : decode cX6_isAllHad 121 = .ok (.ifCond .ne 5, 3) := by decide +kernel
theorem dX6_isAllHad_124 : decode cX6_isAllHad 124 = .ok (.iconst 0, 1) := by decide +kernel
theorem dX6_isAllHad_125 : decode cX6_isAllHad 125 = .ok (.ireturn, 1) := by decide +kernel
theorem dX6_isAllHad_126 : decode cX6_isAllHad 126 = .ok (.iinc 3 1, 3) := by decide +kernel
theorem dX6_isAllHad_129 : decode cX6_isAllHad 129 = .ok (.goto (-127), 3) := by decide +kernel
theorem dX6_isAllHad_132 : decode cX6_isAllHad 132 = .ok (.iconst 1, 1) := by decide +kernel
theorem dX6_isAllHad_133 : decode cX6_isAllHad 133 = .ok (.ireturn, 1) := by decide +kernel
set_option maxRecDepth 20000 in
theorem ggX6_choose_X6_isAllHad : GoodIn wsX6_choose wsX6_isAllHad := goodIn_r _ [8, 3, 9, 10, 7, 11, 15, 16, 17, 18, 19, 20, 21, 22, 23, 24, 25, 26, 27, 28, 29, 30, 31, 32, 33, 34, 35, 36, 37, 38, 39, 40, 41, 42, 43, 44, 45, 46] (by decide +kernel) (by decide +kernel)
set_option maxRecDepth 20000 in
theorem gX6_choose_X6_isAllHad : GoodIn wsX6_choose (wsV RX6 156 RX6 yX6_isAllHad wsX6_isAllHad) := goodIn_app (goodIn_of _ (by decide +kernel)) ggX6_choose_X6_isAllHad
set_option maxRecDepth 20000 in
theorem ggX6_choose_X6_choose : GoodIn wsX6_choose wsX6_choose := goodIn_r _ [0, 1, 2, 3, 4, 5, 6, 7, 8, 9, 10, 11, 12, 13, 14, 15, 16, 17, 18, 19, 20, 21, 22, 23, 24, 25, 26, 27, 28, 29, 30, 31, 32, 33, 34, 35, 36, 37, 38, 39, 40, 41, 42, 43, 44, 45, 46] (by decide +kernel) (by decide +kernel)
set_option maxRecDepth 20000 in
theorem gX6_choose_X6_choose : GoodIn wsX6_choose (wsV RX6 166 RX6 yX6_choose wsX6_choose) := goodIn_app (goodIn_of _ (by decide +kernel)) ggX6_choose_X6_choose
theorem dX6_choose_0 : decode cX6_choose 0 = .ok (.iload_n 1, 1) := by decide +kernel
theorem dX6_choose_1 : decode cX6_choose 1 = .ok (.iload_n 2, 1) := by decide +kernel
theorem dX6_choose_2 : decode cX6_choose 2 = .ok (.if_icmp .ne 70, 3) := by decide +kernel
theorem dX6_choose_5 : decode cX6_choose 5 = .ok (.aload_n 0, 1) := by decide +kernel
theorem dX6_choose_6 : decode cX6_choose 6 = .ok (.iload_n 2, 1) := by decide +kernel
theorem dX6_choose_7 : decode cX6_choose 7 = .ok (.iload 4, 2) := by decide +kernel
theorem dX6_choose_9 : decode cX6_choose 9 = .ok (.invokevirtual 156, 3) := by decide +kernel
theorem dX6_choose_12 : decode cX6_choose 12 = .ok (.ifCond .eq 59, 3) := by decide +kernel
theorem dX6_choose_15 : decode cX6_choose 15 = .ok (.aload_n 0, 1) := by decide +kernel
theorem dX6_choose_16 : decode cX6_choose 16 = .ok (.getfield 160, 3) := by decide +kernel
theorem dX6_choose_19 : decode cX6_choose 19 = .ok (.ifCond .ne 42, 3) := by decide +kernel
theorem dX6_choose_22 : decode cX6_choose 22 = .ok (.aload_n 0, 1) := by decide +kernel
theorem dX6_choose_23 : decode cX6_choose 23 = .ok (.iconst 0, 1) := by decide +kernel
theorem dX6_choose_24 : decode cX6_choose 24 = .ok (.putfield 163, 3) := by decide +kernel
theorem dX6_choose_27 : decode cX6_choose 27 = .ok (.iconst 0, 1) := by decide +kernel
theorem dX6_choose_28 : decode cX6_choose 28 = .ok (.istore 5, 2) := by decide +kernel
theorem dX6_choose_30 : decode cX6_choose 30 = .ok (.iload 5, 2) := by decide +kernel
theorem dX6_choose_32 : decode cX6_choose 32 = .ok (.iload_n 2, 1) := by decide +kernel
theorem dX6_choose_33 : decode cX6_choose 33 = .ok (.if_icmp .ge 28, 3) := by decide +kernel
theorem dX6_choose_36 : decode cX6_choose 36 = .ok (.aload_n 0, 1) := by decide +kernel
theorem dX6_choose_37 : decode cX6_choose 37 = .ok (.bipush 100, 2) := by decide +kernel
theorem dX6_choose_39 : decode cX6_choose 39 = .ok (.aload_n 0, 1) := by decide +kernel
theorem dX6_choose_40 : decode cX6_choose 40 = .ok (.getfield 163, 3) := by decide +kernel
theorem dX6_choose_43 : decode cX6_choose 43 = .ok (.imul, 1) := by decide +kernel
theorem dX6_choose_44 : decode cX6_choose 44 = .ok (.aload_n 0, 1) := by decide +kernel
theorem dX6_choose_45 : decode cX6_choose 45 = .ok (.getfield 26, 3) := by decide +kernel
theorem dX6_choose_48 : decode cX6_choose 48 = .ok (.iload 5, 2) := by decide +kernel
theorem dX6_choose_50 : decode cX6_choose 50 = .ok (.iaload, 1) := by decide +kernel
theorem dX6_choose_51 : decode cX6_choose 51 = .ok (.iadd, 1) := by decide +kernel
theorem dX6_choose_52 : decode cX6_choose 52 = .ok (.putfield 163, 3) := by decide +kernel
theorem dX6_choose_55 : decode cX6_choose 55 = .ok (.iinc 5 1, 3) := by decide +kernel
theorem dX6_choose_58 : decode cX6_choose 58 = .ok (.goto (-28), 3) := by decide +kernel
theorem dX6_choose_61 : decode cX6_choose 61 = .ok (.aload_n 0, 1) := by decide +kernel
theorem dX6_choose_62 : decode cX6_choose 62 = .ok (.dup, 1) := by decide +kernel
theorem dX6_choose_63 : decode cX6_choose 63 = .ok (.getfield 160, 3) := by decide +kernel
theorem dX6_choose_66 : decode cX6_choose 66 = .ok (.iconst 1, 1) := by decide +kernel
theorem dX6_choose_67 : decode cX6_choose 67 = .ok (.iadd, 1) := by decide +kernel
theorem dX6_choose_68 : decode cX6_choose 68 = .ok (.putfield 160, 3) := by decide +kernel
theorem dX6_choose_71 : decode cX6_choose 71 = .ok (.return_, 1) := by decide +kernel
theorem dX6_choose_72 : decode cX6_choose 72 = .ok (.iload_n 1, 1) := by decide +kernel
theorem dX6_choose_73 : decode cX6_choose 73 = .ok (.ifCond .ne 7, 3) := by decide +kernel
theorem dX6_choose_76 : decode cX6_choose 76 = .ok (.iconst 1, 1) := by decide +kernel
theorem dX6_choose_77 : decode cX6_choose 77 = .ok (.goto 13, 3) := by decide +kernel
theorem dX6_choose_80 : decode cX6_choose 80 = .ok (.aload_n 0, 1) := by decide +kernel
theorem dX6_choose_81 : decode cX6_choose 81 = .ok (.getfield 26, 3) := by decide +kernel
theorem dX6_choose_84 : decode cX6_choose 84 = .ok (.iload_n 1, 1) := by decide +kernel
theorem dX6_choose_85 : decode cX6_choose 85 = .ok (.iconst 1, 1) := by decide +kernel
theorem dX6_choose_86 : decode cX6_choose 86 = .ok (.isub, 1) := by decide +kernel
theorem dX6_choose_87 : decode cX6_choose 87 = .ok (.iaload, 1) := by decide +kernel
theorem dX6_choose_88 : decode cX6_choose 88 = .ok (.iconst 1, 1) := by decide +kernel
theorem dX6_choose_89 : decode cX6_choose 89 = .ok (.iadd, 1) := by decide +kernel
theorem dX6_choose_90 : decode cX6_choose 90 = .ok (.istore 5, 2) := by decide +kernel
theorem dX6_choose_92 : decode cX6_choose 92 = .ok (.iload 5, 2) := by decide +kernel
theorem dX6_choose_94 : decode cX6_choose 94 = .ok (.iload_n 3, 1) := by decide +kernel
theorem dX6_choose_95 : decode cX6_choose 95 = .ok (.if_icmp .gt 28, 3) := by decide +kernel
theorem dX6_choose_98 : decode cX6_choose 98 = .ok (.aload_n 0, 1) := by decide +kernel
theorem dX6_choose_99 : decode cX6_choose 99 = .ok (.getfield 26, 3) := by decide +kernel
theorem dX6_choose_102 : decode cX6_choose 102 = .ok (.iload_n 1, 1) := by decide +kernel
theorem dX6_choose_103 : decode cX6_choose 103 = .ok (.iload 5, 2) := by decide +kernel
theorem dX6_choose_105 : decode cX6_choose 105 = .ok (.iastore, 1) := by decide +kernel
theorem dX6_choose_106 : decode cX6_choose 106 = .ok (.aload_n 0, 1) := by decide +kernel
theorem dX6_choose_107 : decode cX6_choose 107 = .ok (.iload_n 1, 1) := by decide +kernel
theorem dX6_choose_108 : decode cX6_choose 108 = .ok (.iconst 1, 1) := by decide +kernel
theorem dX6_choose_109 : decode cX6_choose 109 = .ok (.iadd, 1) := by decide +kernel
theorem dX6_choose_110 : decode cX6_choose 110 = .ok (.iload_n 2, 1) := by decide +kernel
theorem dX6_choose_111 : decode cX6_choose 111 = .ok (.iload_n 3, 1) := by decide +kernel
theorem dX6_choose_112 : decode cX6_choose 112 = .ok (.iload 4, 2) := by decide +kernel
theorem dX6_choose_114 : decode cX6_choose 114 = .ok (.invokevirtual 166, 3) := by decide +kernel
theorem dX6_choose_117 : decode cX6_choose 117 = .ok (.iinc 5 1, 3) := by decide +kernel
theorem dX6_choose_120 : decode cX6_choose 120 = .ok (.goto (-28), 3) := by decide +kernel
theorem dX6_choose_123 : decode cX6_choose 123 = .ok (.return_, 1) := by decide +kernel
set_option maxRecDepth 20000 in
theorem ggX6_sets_X6_isIn : GoodIn wsX6_sets wsX6_isIn := goodIn_r _ [6] (by decide +kernel) (by decide +kernel)
set_option maxRecDepth 20000 in
theorem gX6_sets_X6_isIn : GoodIn wsX6_sets (va_wsS RX6 68 yX6_isIn wsX6_isIn) := goodIn_app (goodIn_of _ (by decide +kernel)) ggX6_sets_X6_isIn
set_option maxRecDepth 20000 in
theorem ggX6_sets_X6_choose : GoodIn wsX6_sets wsX6_choose := goodIn_r _ [10, 1, 2, 11, 12, 13, 14, 5, 15, 16, 17, 18, 7, 8, 9, 19, 20, 21, 22, 23, 24, 25, 26, 27, 28, 29, 30, 31, 32, 33, 34, 35, 36, 37, 38, 39, 40, 41, 42, 43, 44, 45, 46, 47, 48, 49, 50] (by decide +kernel) (by decide +kernel)
set_option maxRecDepth 20000 in
theorem gX6_sets_X6_choose : GoodIn wsX6_sets (wsV RX6 166 RX6 yX6_choose wsX6_choose) := goodIn_app (goodIn_of _ (by decide +kernel)) ggX6_sets_X6_choose
theorem dX6_sets_0 : decode cX6_sets 0 = .ok (.iload_n 1, 1) := by decide +kernel
theorem dX6_sets_1 : decode cX6_sets 1 = .ok (.iconst 1, 1) := by decide +kernel
theorem dX6_sets_2 : decode cX6_sets 2 = .ok (.iconst 3, 1) := by decide +kernel
theorem dX6_sets_3 : decode cX6_sets 3 = .ok (.invokestatic 68, 3) := by decide +kernel
theorem dX6_sets_6 : decode cX6_sets 6 = .ok (.ifCond .eq 33, 3) := by decide +kernel
theorem dX6_sets_9 : decode cX6_sets 9 = .ok (.iload_n 2, 1) := by decide +kernel
theorem dX6_sets_10 : decode cX6_sets 10 = .ok (.iconst 1, 1) := by decide +kernel
theorem dX6_sets_11 : decode cX6_sets 11 = .ok (.bipush 30, 2) := by decide +kernel
theorem dX6_sets_13 : decode cX6_sets 13 = .ok (.invokestatic 68, 3) := by decide +kernel
theorem dX6_sets_16 : decode cX6_sets 16 = .ok (.ifCond .eq 23, 3) := by decide +kernel
theorem dX6_sets_19 : decode cX6_sets 19 = .ok (.iload_n 3, 1) := by decide +kernel
theorem dX6_sets_20 : decode cX6_sets 20 = .ok (.iconst 1, 1) := by decide +kernel
theorem dX6_sets_21 : decode cX6_sets 21 = .ok (.bipush 13, 2) := by decide +kernel
theorem dX6_sets_23 : decode cX6_sets 23 = .ok (.invokestatic 68, 3) := by decide +kernel
theorem dX6_sets_26 : decode cX6_sets 26 = .ok (.ifCond .eq 13, 3) := by decide +kernel
theorem dX6_sets_29 : decode cX6_sets 29 = .ok (.iload 4, 2) := by decide +kernel
theorem dX6_sets_31 : decode cX6_sets 31 = .ok (.iconst 0, 1) := by decide +kernel
theorem dX6_sets_32 : decode cX6_sets 32 = .ok (.iconst 1, 1) := by decide +kernel
theorem dX6_sets_33 : decode cX6_sets 33 = .ok (.invokestatic 68, 3) := by decide +kernel
theorem dX6_sets_36 : decode cX6_sets 36 = .ok (.ifCond .ne 5, 3) := by decide +kernel
theorem dX6_sets_39 : decode cX6_sets 39 = .ok (.iconst (-1), 1) := by decide +kernel
theorem dX6_sets_40 : decode cX6_sets 40 = .ok (.ireturn, 1) := by decide +kernel
theorem dX6_sets_41 : decode cX6_sets 41 = .ok (.aload_n 0, 1) := by decide +kernel
theorem dX6_sets_42 : decode cX6_sets 42 = .ok (.iconst 0, 1) := by decide +kernel
theorem dX6_sets_43 : decode cX6_sets 43 = .ok (.putfield 160, 3) := by decide +kernel
theorem dX6_sets_46 : decode cX6_sets 46 = .ok (.aload_n 0, 1) := by decide +kernel
theorem dX6_sets_47 : decode cX6_sets 47 = .ok (.bipush (-4), 2) := by decide +kernel
theorem dX6_sets_49 : decode cX6_sets 49 = .ok (.putfield 163, 3) := by decide +kernel
theorem dX6_sets_52 : decode cX6_sets 52 = .ok (.aload_n 0, 1) := by decide +kernel
theorem dX6_sets_53 : decode cX6_sets 53 = .ok (.iconst 0, 1) := by decide +kernel
theorem dX6_sets_54 : decode cX6_sets 54 = .ok (.iload_n 1, 1) := by decide +kernel
theorem dX6_sets_55 : decode cX6_sets 55 = .ok (.iload_n 2, 1) := by decide +kernel
theorem dX6_sets_56 : decode cX6_sets 56 = .ok (.iload_n 3, 1) := by decide +kernel
theorem dX6_sets_57 : decode cX6_sets 57 = .ok (.invokevirtual 166, 3) := by decide +kernel
theorem dX6_sets_60 : decode cX6_sets 60 = .ok (.iload 4, 2) := by decide +kernel
theorem dX6_sets_62 : decode cX6_sets 62 = .ok (.ifCond .ne 10, 3) := by decide +kernel
theorem dX6_sets_65 : decode cX6_sets 65 = .ok (.aload_n 0, 1) := by decide +kernel
theorem dX6_sets_66 : decode cX6_sets 66 = .ok (.getfield 160, 3) := by decide +kernel
theorem dX6_sets_69 : decode cX6_sets 69 = .ok (.goto 7, 3) := by decide +kernel
theorem dX6_sets_72 : decode cX6_sets 72 = .ok (.aload_n 0, 1) := by decide +kernel
theorem dX6_sets_73 : decode cX6_sets 73 = .ok (.getfield 163, 3) := by decide +kernel
theorem dX6_sets_76 : decode cX6_sets 76 = .ok (.ireturn, 1) := by decide +kernel
set_option maxRecDepth 20000 in
theorem ggX6_lostBy_X6_have : GoodIn wsX6_lostBy wsX6_have := goodIn_r _ [6, 1, 7, 8, 9, 10, 11, 12, 13, 14, 5, 15, 16, 17, 18, 19, 20, 21, 22, 23, 24, 25, 26, 27, 28, 29, 30, 31, 32, 33, 34, 35, 36, 37, 38, 43, 44, 45, 46, 47, 48, 49, 50, 51, 52, 53, 54, 55, 56, 57, 58, 59, 60, 61, 62, 63, 64, 65, 66, 67, 68, 69, 70, 71, 72, 73, 74] (by decide +kernel) (by decide +kernel)
set_option maxRecDepth 20000 in
theorem gX6_lostBy_X6_have : GoodIn wsX6_lostBy (wsV RX6 129 RX6 yX6_have wsX6_have) := goodIn_app (goodIn_of _ (by decide +kernel)) ggX6_lostBy_X6_have
set_option maxRecDepth 20000 in
theorem ggX6_lostBy_X6_reached : GoodIn wsX6_lostBy wsX6_reached := goodIn_r _ [42, 1, 43, 44, 45, 46, 47, 48, 49, 50, 51, 52, 53, 54, 55, 56, 57, 58, 59, 60, 61, 62, 63, 64, 65, 66, 67, 68, 69, 70, 71, 72, 73, 74] (by decide +kernel) (by decide +kernel)
set_option maxRecDepth 20000 in
theorem gX6_lostBy_X6_reached : GoodIn wsX6_lostBy (wsV RX6 133 RX6 yX6_reached wsX6_reached) := goodIn_app (goodIn_of _ (by decide +kernel)) ggX6_lostBy_X6_reached
theorem dX6_lostBy_0 : decode cX6_lostBy 0 = .ok (.aload_n 0, 1) := by decide +kernel
theorem dX6_lostBy_1 : decode cX6_lostBy 1 = .ok (.iload_n 1, 1) := by decide +kernel
theorem dX6_lostBy_2 : decode cX6_lostBy 2 = .ok (.bipush 63, 2) := by decide +kernel
theorem dX6_lostBy_4 : decode cX6_lostBy 4 = .ok (.invokevirtual 129, 3) := by decide +kernel
theorem dX6_lostBy_7 : decode cX6_lostBy 7 = .ok (.aload_n 0, 1) := by decide +kernel
theorem dX6_lostBy_8 : decode cX6_lostBy 8 = .ok (.invokevirtual 133, 3) := by decide +kernel
theorem dX6_lostBy_11 : decode cX6_lostBy 11 = .ok (.istore_n 3, 1) := by decide +kernel
theorem dX6_lostBy_12 : decode cX6_lostBy 12 = .ok (.aload_n 0, 1) := by decide +kernel
theorem dX6_lostBy_13 : decode cX6_lostBy 13 = .ok (.iload_n 1, 1) := by decide +kernel
theorem dX6_lostBy_14 : decode cX6_lostBy 14 = .ok (.bipush 63, 2) := by decide +kernel
theorem dX6_lostBy_16 : decode cX6_lostBy 16 = .ok (.iconst 1, 1) := by decide +kernel
theorem dX6_lostBy_17 : decode cX6_lostBy 17 = .ok (.iload_n 2, 1) := by decide +kernel
theorem dX6_lostBy_18 : decode cX6_lostBy 18 = .ok (.ishl, 1) := by decide +kernel
theorem dX6_lostBy_19 : decode cX6_lostBy 19 = .ok (.iconst (-1), 1) := by decide +kernel
theorem dX6_lostBy_20 : decode cX6_lostBy 20 = .ok (.ixor, 1) := by decide +kernel
theorem dX6_lostBy_21 : decode cX6_lostBy 21 = .ok (.iand, 1) := by decide +kernel
theorem dX6_lostBy_22 : decode cX6_lostBy 22 = .ok (.invokevirtual 129, 3) := by decide +kernel
theorem dX6_lostBy_25 : decode cX6_lostBy 25 = .ok (.iconst 0, 1) := by decide +kernel
theorem dX6_lostBy_26 : decode cX6_lostBy 26 = .ok (.istore 4, 2) := by decide +kernel
theorem dX6_lostBy_28 : decode cX6_lostBy 28 = .ok (.iconst 1, 1) := by decide +kernel
theorem dX6_lostBy_29 : decode cX6_lostBy 29 = .ok (.istore 5, 2) := by decide +kernel
theorem dX6_lostBy_31 : decode cX6_lostBy 31 = .ok (.iload 5, 2) := by decide +kernel
theorem dX6_lostBy_33 : decode cX6_lostBy 33 = .ok (.iload_n 3, 1) := by decide +kernel
theorem dX6_lostBy_34 : decode cX6_lostBy 34 = .ok (.if_icmp .gt 29, 3) := by decide +kernel
theorem dX6_lostBy_37 : decode cX6_lostBy 37 = .ok (.iload 4, 2) := by decide +kernel
theorem dX6_lostBy_39 : decode cX6_lostBy 39 = .ok (.aload_n 0, 1) := by decide +kernel
theorem dX6_lostBy_40 : decode cX6_lostBy 40 = .ok (.getfield 22, 3) := by decide +kernel
theorem dX6_lostBy_43 : decode cX6_lostBy 43 = .ok (.iload 5, 2) := by decide +kernel
theorem dX6_lostBy_45 : decode cX6_lostBy 45 = .ok (.baload, 1) := by decide +kernel
theorem dX6_lostBy_46 : decode cX6_lostBy 46 = .ok (.ifCond .eq 7, 3) := by decide +kernel
theorem dX6_lostBy_49 : decode cX6_lostBy 49 = .ok (.iconst 0, 1) := by decide +kernel
theorem dX6_lostBy_50 : decode cX6_lostBy 50 = .ok (.goto 4, 3) := by decide +kernel
theorem dX6_lostBy_53 : decode cX6_lostBy 53 = .ok (.iconst 1, 1) := by decide +kernel
theorem dX6_lostBy_54 : decode cX6_lostBy 54 = .ok (.iadd, 1) := by decide +kernel
theorem dX6_lostBy_55 : decode cX6_lostBy 55 = .ok (.istore 4, 2) := by decide +kernel
theorem dX6_lostBy_57 : decode cX6_lostBy 57 = .ok (.iinc 5 1, 3) := by decide +kernel
theorem dX6_lostBy_60 : decode cX6_lostBy 60 = .ok (.goto (-29), 3) := by decide +kernel
theorem dX6_lostBy_63 : decode cX6_lostBy 63 = .ok (.iload 4, 2) := by decide +kernel
theorem dX6_lostBy_65 : decode cX6_lostBy 65 = .ok (.ireturn, 1) := by decide +kernel
set_option maxRecDepth 20000 in
theorem ggX6_lost_X6_isShelf : GoodIn wsX6_lost wsX6_isShelf := goodIn_r _ [4, 5, 6, 3, 7] (by decide +kernel) (by decide +kernel)
set_option maxRecDepth 20000 in
theorem gX6_lost_X6_isShelf : GoodIn wsX6_lost (va_wsS RX6 117 yX6_isShelf wsX6_isShelf) := goodIn_app (goodIn_of _ (by decide +kernel)) ggX6_lost_X6_isShelf
set_option maxRecDepth 20000 in
theorem ggX6_lost_X6_isStone : GoodIn wsX6_lost wsX6_isStone := goodIn_r _ [11, 12, 5, 6, 3, 7, 59, 60, 61, 62, 63, 64, 65, 66, 67, 68, 69, 70, 71, 72, 73, 74, 75, 76, 77, 78, 79, 80, 81, 82, 83, 84, 85, 86, 87, 88, 89, 90] (by decide +kernel) (by decide +kernel)
set_option maxRecDepth 20000 in
theorem gX6_lost_X6_isStone : GoodIn wsX6_lost (wsV RX6 72 RX6 yX6_isStone wsX6_isStone) := goodIn_app (goodIn_of _ (by decide +kernel)) ggX6_lost_X6_isStone
set_option maxRecDepth 20000 in
theorem ggX6_lost_X6_noScale : GoodIn wsX6_lost wsX6_noScale := goodIn_r _ [16, 17, 59, 60, 61, 62, 63, 64, 65, 66, 67, 68, 69, 70, 71, 72, 73, 74, 75, 76, 77, 78, 79, 80, 81, 82, 83, 84, 85, 86, 87, 88, 89, 90] (by decide +kernel) (by decide +kernel)
set_option maxRecDepth 20000 in
theorem gX6_lost_X6_noScale : GoodIn wsX6_lost (wsV RX6 121 RX6 yX6_noScale wsX6_noScale) := goodIn_app (goodIn_of _ (by decide +kernel)) ggX6_lost_X6_noScale
set_option maxRecDepth 20000 in
theorem ggX6_lost_X6_lostBy : GoodIn wsX6_lost wsX6_lostBy := goodIn_r _ [21, 22, 23, 24, 25, 3, 26, 12, 27, 28, 29, 30, 31, 32, 33, 34, 35, 36, 37, 38, 39, 40, 41, 42, 43, 44, 45, 46, 47, 48, 49, 50, 51, 52, 53, 54, 5, 6, 7, 55, 56, 57, 58, 59, 60, 61, 62, 63, 64, 65, 66, 67, 68, 69, 70, 71, 72, 73, 74, 75, 76, 77, 78, 79, 80, 81, 82, 83, 84, 85, 86, 87, 88, 89, 90] (by decide +kernel) (by decide +kernel)
set_option maxRecDepth 20000 in
theorem gX6_lost_X6_lostBy : GoodIn wsX6_lost (wsV RX6 170 RX6 yX6_lostBy wsX6_lostBy) := goodIn_app (goodIn_of _ (by decide +kernel)) ggX6_lost_X6_lostBy
theorem dX6_lost_0 : decode cX6_lost 0 = .ok (.iload_n 1, 1) := by decide +kernel
theorem dX6_lost_1 : decode cX6_lost 1 = .ok (.invokestatic 117, 3) := by decide +kernel
theorem dX6_lost_4 : decode cX6_lost 4 = .ok (.ifCond .eq 11, 3) := by decide +kernel
theorem dX6_lost_7 : decode cX6_lost 7 = .ok (.aload_n 0, 1) := by decide +kernel
theorem dX6_lost_8 : decode cX6_lost 8 = .ok (.iload_n 2, 1) := by decide +kernel
theorem dX6_lost_9 : decode cX6_lost 9 = .ok (.invokevirtual 72, 3) := by decide +kernel
theorem dX6_lost_12 : decode cX6_lost 12 = .ok (.ifCond .ne 5, 3) := by decide +kernel
theorem dX6_lost_15 : decode cX6_lost 15 = .ok (.iconst (-1), 1) := by decide +kernel
theorem dX6_lost_16 : decode cX6_lost 16 = .ok (.ireturn, 1) := by decide +kernel
theorem dX6_lost_17 : decode cX6_lost 17 = .ok (.aload_n 0, 1) := by decide +kernel
theorem dX6_lost_18 : decode cX6_lost 18 = .ok (.iload_n 1, 1) := by decide +kernel
theorem dX6_lost_19 : decode cX6_lost 19 = .ok (.invokevirtual 121, 3) := by decide +kernel
theorem dX6_lost_22 : decode cX6_lost 22 = .ok (.ifCond .eq 11, 3) := by decide +kernel
theorem dX6_lost_25 : decode cX6_lost 25 = .ok (.aload_n 0, 1) := by decide +kernel
theorem dX6_lost_26 : decode cX6_lost 26 = .ok (.iload_n 1, 1) := by decide +kernel
theorem dX6_lost_27 : decode cX6_lost 27 = .ok (.invokevirtual 121, 3) := by decide +kernel
theorem dX6_lost_30 : decode cX6_lost 30 = .ok (.goto 9, 3) := by decide +kernel
theorem dX6_lost_33 : decode cX6_lost 33 = .ok (.aload_n 0, 1) := by decide +kernel
theorem dX6_lost_34 : decode cX6_lost 34 = .ok (.iload_n 1, 1) := by decide +kernel
theorem dX6_lost_35 : decode cX6_lost 35 = .ok (.iload_n 2, 1) := by decide +kernel
theorem dX6_lost_36 : decode cX6_lost 36 = .ok (.invokevirtual 170, 3) := by decide +kernel
theorem dX6_lost_39 : decode cX6_lost 39 = .ok (.ireturn, 1) := by decide +kernel
set_option maxRecDepth 20000 in
theorem ggX6_harmsLeast_X6_isShelf : GoodIn wsX6_harmsLeast wsX6_isShelf := goodIn_r _ [5, 6, 7, 4, 8] (by decide +kernel) (by decide +kernel)
set_option maxRecDepth 20000 in
theorem gX6_harmsLeast_X6_isShelf : GoodIn wsX6_harmsLeast (va_wsS RX6 117 yX6_isShelf wsX6_isShelf) := goodIn_app (goodIn_of _ (by decide +kernel)) ggX6_harmsLeast_X6_isShelf
set_option maxRecDepth 20000 in
theorem ggX6_harmsLeast_X6_noScale : GoodIn wsX6_harmsLeast wsX6_noScale := goodIn_r _ [12, 13, 55, 56, 57, 58, 59, 60, 61, 62, 63, 64, 65, 66, 67, 68, 69, 70, 71, 72, 73, 74, 75, 76, 77, 78, 79, 80, 81, 82, 83, 84, 85, 86] (by decide +kernel) (by decide +kernel)
set_option maxRecDepth 20000 in
theorem gX6_harmsLeast_X6_noScale : GoodIn wsX6_harmsLeast (wsV RX6 121 RX6 yX6_noScale wsX6_noScale) := goodIn_app (goodIn_of _ (by decide +kernel)) ggX6_harmsLeast_X6_noScale
set_option maxRecDepth 20000 in
theorem ggX6_harmsLeast_X6_lostBy : GoodIn wsX6_harmsLeast wsX6_lostBy := goodIn_r _ [17, 18, 19, 20, 21, 4, 22, 1, 23, 24, 25, 26, 27, 28, 29, 30, 31, 32, 33, 34, 35, 36, 37, 38, 39, 40, 41, 42, 43, 44, 45, 46, 47, 48, 49, 50, 6, 7, 8, 51, 52, 53, 54, 55, 56, 57, 58, 59, 60, 61, 62, 63, 64, 65, 66, 67, 68, 69, 70, 71, 72, 73, 74, 75, 76, 77, 78, 79, 80, 81, 82, 83, 84, 85, 86] (by decide +kernel) (by decide +kernel)
set_option maxRecDepth 20000 in
theorem gX6_harmsLeast_X6_lostBy : GoodIn wsX6_harmsLeast (wsV RX6 170 RX6 yX6_lostBy wsX6_lostBy) := goodIn_app (goodIn_of _ (by decide +kernel)) ggX6_harmsLeast_X6_lostBy
theorem dX6_harmsLeast_0 : decode cX6_harmsLeast 0 = .ok (.iload_n 1, 1) := by decide +kernel
theorem dX6_harmsLeast_1 : decode cX6_harmsLeast 1 = .ok (.invokestatic 117, 3) := by decide +kernel
theorem dX6_harmsLeast_4 : decode cX6_harmsLeast 4 = .ok (.ifCond .ne 5, 3) := by decide +kernel
theorem dX6_harmsLeast_7 : decode cX6_harmsLeast 7 = .ok (.iconst (-1), 1) := by decide +kernel
theorem dX6_harmsLeast_8 : decode cX6_harmsLeast 8 = .ok (.ireturn, 1) := by decide +kernel
theorem dX6_harmsLeast_9 : decode cX6_harmsLeast 9 = .ok (.aload_n 0, 1) := by decide +kernel
theorem dX6_harmsLeast_10 : decode cX6_harmsLeast 10 = .ok (.iload_n 1, 1) := by decide +kernel
theorem dX6_harmsLeast_11 : decode cX6_harmsLeast 11 = .ok (.invokevirtual 121, 3) := by decide +kernel
theorem dX6_harmsLeast_14 : decode cX6_harmsLeast 14 = .ok (.ifCond .eq 9, 3) := by decide +kernel
theorem dX6_harmsLeast_17 : decode cX6_harmsLeast 17 = .ok (.aload_n 0, 1) := by decide +kernel
theorem dX6_harmsLeast_18 : decode cX6_harmsLeast 18 = .ok (.iload_n 1, 1) := by decide +kernel
theorem dX6_harmsLeast_19 : decode cX6_harmsLeast 19 = .ok (.invokevirtual 121, 3) := by decide +kernel
theorem dX6_harmsLeast_22 : decode cX6_harmsLeast 22 = .ok (.ireturn, 1) := by decide +kernel
theorem dX6_harmsLeast_23 : decode cX6_harmsLeast 23 = .ok (.bipush (-4), 2) := by decide +kernel
theorem dX6_harmsLeast_25 : decode cX6_harmsLeast 25 = .ok (.istore_n 2, 1) := by decide +kernel
theorem dX6_harmsLeast_26 : decode cX6_harmsLeast 26 = .ok (.iconst 0, 1) := by decide +kernel
theorem dX6_harmsLeast_27 : decode cX6_harmsLeast 27 = .ok (.istore_n 3, 1) := by decide +kernel
theorem dX6_harmsLeast_28 : decode cX6_harmsLeast 28 = .ok (.iconst 0, 1) := by decide +kernel
theorem dX6_harmsLeast_29 : decode cX6_harmsLeast 29 = .ok (.istore 4, 2) := by decide +kernel
theorem dX6_harmsLeast_31 : decode cX6_harmsLeast 31 = .ok (.iload 4, 2) := by decide +kernel
theorem dX6_harmsLeast_33 : decode cX6_harmsLeast 33 = .ok (.aload_n 0, 1) := by decide +kernel
theorem dX6_harmsLeast_34 : decode cX6_harmsLeast 34 = .ok (.getfield 57, 3) := by decide +kernel
theorem dX6_harmsLeast_37 : decode cX6_harmsLeast 37 = .ok (.if_icmp .ge 36, 3) := by decide +kernel
theorem dX6_harmsLeast_40 : decode cX6_harmsLeast 40 = .ok (.aload_n 0, 1) := by decide +kernel
theorem dX6_harmsLeast_41 : decode cX6_harmsLeast 41 = .ok (.iload_n 1, 1) := by decide +kernel
theorem dX6_harmsLeast_42 : decode cX6_harmsLeast 42 = .ok (.iload 4, 2) := by decide +kernel
theorem dX6_harmsLeast_44 : decode cX6_harmsLeast 44 = .ok (.invokevirtual 170, 3) := by decide +kernel
theorem dX6_harmsLeast_47 : decode cX6_harmsLeast 47 = .ok (.istore 5, 2) := by decide +kernel
theorem dX6_harmsLeast_49 : decode cX6_harmsLeast 49 = .ok (.iload_n 2, 1) := by decide +kernel
theorem dX6_harmsLeast_50 : decode cX6_harmsLeast 50 = .ok (.bipush (-4), 2) := by decide +kernel
theorem dX6_harmsLeast_52 : decode cX6_harmsLeast 52 = .ok (.if_icmp .eq 9, 3) := by decide +kernel
theorem dX6_harmsLeast_55 : decode cX6_harmsLeast 55 = .ok (.iload 5, 2) := by decide +kernel
theorem dX6_harmsLeast_57 : decode cX6_harmsLeast 57 = .ok (.iload_n 3, 1) := by decide +kernel
theorem dX6_harmsLeast_58 : decode cX6_harmsLeast 58 = .ok (.if_icmp .ge 9, 3) := by decide +kernel
theorem dX6_harmsLeast_61 : decode cX6_harmsLeast 61 = .ok (.iload 4, 2) := by decide +kernel
theorem dX6_harmsLeast_63 : decode cX6_harmsLeast 63 = .ok (.istore_n 2, 1) := by decide +kernel
theorem dX6_harmsLeast_64 : decode cX6_harmsLeast 64 = .ok (.iload 5, 2) := by decide +kernel
theorem dX6_harmsLeast_66 : decode cX6_harmsLeast 66 = .ok (.istore_n 3, 1) := by decide +kernel
theorem dX6_harmsLeast_67 : decode cX6_harmsLeast 67 = .ok (.iinc 4 1, 3) := by decide +kernel
theorem dX6_harmsLeast_70 : decode cX6_harmsLeast 70 = .ok (.goto (-39), 3) := by decide +kernel
theorem dX6_harmsLeast_73 : decode cX6_harmsLeast 73 = .ok (.iload_n 2, 1) := by decide +kernel
theorem dX6_harmsLeast_74 : decode cX6_harmsLeast 74 = .ok (.ireturn, 1) := by decide +kernel
set_option maxRecDepth 20000 in
theorem ggX6_trials_X6_bits : GoodIn wsX6_trials wsX6_bits := goodIn_r _ [5] (by decide +kernel) (by decide +kernel)
set_option maxRecDepth 20000 in
theorem gX6_trials_X6_bits : GoodIn wsX6_trials (va_wsS RX6 137 yX6_bits wsX6_bits) := goodIn_app (goodIn_of _ (by decide +kernel)) ggX6_trials_X6_bits
set_option maxRecDepth 20000 in
theorem ggX6_trials_X6_power : GoodIn wsX6_trials wsX6_power := goodIn_r _ [8] (by decide +kernel) (by decide +kernel)
set_option maxRecDepth 20000 in
theorem gX6_trials_X6_power : GoodIn wsX6_trials (va_wsS RX6 76 yX6_power wsX6_power) := goodIn_app (goodIn_of _ (by decide +kernel)) ggX6_trials_X6_power
theorem dX6_trials_0 : decode cX6_trials 0 = .ok (.iload_n 1, 1) := by decide +kernel
theorem dX6_trials_1 : decode cX6_trials 1 = .ok (.ifCond .lt 21, 3) := by decide +kernel
theorem dX6_trials_4 : decode cX6_trials 4 = .ok (.iload_n 1, 1) := by decide +kernel
theorem dX6_trials_5 : decode cX6_trials 5 = .ok (.iconst 1, 1) := by decide +kernel
theorem dX6_trials_6 : decode cX6_trials 6 = .ok (.aload_n 0, 1) := by decide +kernel
theorem dX6_trials_7 : decode cX6_trials 7 = .ok (.getfield 57, 3) := by decide +kernel
theorem dX6_trials_10 : decode cX6_trials 10 = .ok (.ishl, 1) := by decide +kernel
theorem dX6_trials_11 : decode cX6_trials 11 = .ok (.if_icmp .ge 11, 3) := by decide +kernel
theorem dX6_trials_14 : decode cX6_trials 14 = .ok (.iload_n 1, 1) := by decide +kernel
theorem dX6_trials_15 : decode cX6_trials 15 = .ok (.invokestatic 137, 3) := by decide +kernel
theorem dX6_trials_18 : decode cX6_trials 18 = .ok (.iconst 2, 1) := by decide +kernel
theorem dX6_trials_19 : decode cX6_trials 19 = .ok (.if_icmp .ge 5, 3) := by decide +kernel
theorem dX6_trials_22 : decode cX6_trials 22 = .ok (.iconst (-1), 1) := by decide +kernel
theorem dX6_trials_23 : decode cX6_trials 23 = .ok (.ireturn, 1) := by decide +kernel
theorem dX6_trials_24 : decode cX6_trials 24 = .ok (.iconst 1, 1) := by decide +kernel
theorem dX6_trials_25 : decode cX6_trials 25 = .ok (.istore_n 2, 1) := by decide +kernel
theorem dX6_trials_26 : decode cX6_trials 26 = .ok (.iload_n 2, 1) := by decide +kernel
theorem dX6_trials_27 : decode cX6_trials 27 = .ok (.invokestatic 76, 3) := by decide +kernel
theorem dX6_trials_30 : decode cX6_trials 30 = .ok (.iload_n 1, 1) := by decide +kernel
theorem dX6_trials_31 : decode cX6_trials 31 = .ok (.invokestatic 137, 3) := by decide +kernel
theorem dX6_trials_34 : decode cX6_trials 34 = .ok (.if_icmp .ge 9, 3) := by decide +kernel
theorem dX6_trials_37 : decode cX6_trials 37 = .ok (.iinc 2 1, 3) := by decide +kernel
theorem dX6_trials_40 : decode cX6_trials 40 = .ok (.goto (-14), 3) := by decide +kernel
theorem dX6_trials_43 : decode cX6_trials 43 = .ok (.iload_n 2, 1) := by decide +kernel
theorem dX6_trials_44 : decode cX6_trials 44 = .ok (.ireturn, 1) := by decide +kernel
set_option maxRecDepth 20000 in
theorem ggX6_found_X6_isShelf : GoodIn wsX6_found wsX6_isShelf := goodIn_r _ [8, 9, 10, 7, 11] (by decide +kernel) (by decide +kernel)
set_option maxRecDepth 20000 in
theorem gX6_found_X6_isShelf : GoodIn wsX6_found (va_wsS RX6 117 yX6_isShelf wsX6_isShelf) := goodIn_app (goodIn_of _ (by decide +kernel)) ggX6_found_X6_isShelf
set_option maxRecDepth 20000 in
theorem ggX6_found_X6_isIn : GoodIn wsX6_found wsX6_isIn := goodIn_r _ [11] (by decide +kernel) (by decide +kernel)
set_option maxRecDepth 20000 in
theorem gX6_found_X6_isIn : GoodIn wsX6_found (va_wsS RX6 68 yX6_isIn wsX6_isIn) := goodIn_app (goodIn_of _ (by decide +kernel)) ggX6_found_X6_isIn
set_option maxRecDepth 20000 in
theorem ggX6_found_X6_power : GoodIn wsX6_found wsX6_power := goodIn_r _ [14] (by decide +kernel) (by decide +kernel)
set_option maxRecDepth 20000 in
theorem gX6_found_X6_power : GoodIn wsX6_found (va_wsS RX6 76 yX6_power wsX6_power) := goodIn_app (goodIn_of _ (by decide +kernel)) ggX6_found_X6_power
theorem dX6_found_0 : decode cX6_found 0 = .ok (.iload_n 1, 1) := by decide +kernel
theorem dX6_found_1 : decode cX6_found 1 = .ok (.invokestatic 117, 3) := by decide +kernel
theorem dX6_found_4 : decode cX6_found 4 = .ok (.ifCond .ne 5, 3) := by decide +kernel
theorem dX6_found_7 : decode cX6_found 7 = .ok (.iconst (-1), 1) := by decide +kernel
theorem dX6_found_8 : decode cX6_found 8 = .ok (.ireturn, 1) := by decide +kernel
theorem dX6_found_9 : decode cX6_found 9 = .ok (.aload_n 0, 1) := by decide +kernel
theorem dX6_found_10 : decode cX6_found 10 = .ok (.getfield 32, 3) := by decide +kernel
theorem dX6_found_13 : decode cX6_found 13 = .ok (.iload_n 1, 1) := by decide +kernel
theorem dX6_found_14 : decode cX6_found 14 = .ok (.iaload, 1) := by decide +kernel
theorem dX6_found_15 : decode cX6_found 15 = .ok (.ifCond .ne 6, 3) := by decide +kernel
theorem dX6_found_18 : decode cX6_found 18 = .ok (.bipush (-11), 2) := by decide +kernel
theorem dX6_found_20 : decode cX6_found 20 = .ok (.ireturn, 1) := by decide +kernel
theorem dX6_found_21 : decode cX6_found 21 = .ok (.aload_n 0, 1) := by decide +kernel
theorem dX6_found_22 : decode cX6_found 22 = .ok (.getfield 32, 3) := by decide +kernel
theorem dX6_found_25 : decode cX6_found 25 = .ok (.iload_n 1, 1) := by decide +kernel
theorem dX6_found_26 : decode cX6_found 26 = .ok (.iaload, 1) := by decide +kernel
theorem dX6_found_27 : decode cX6_found 27 = .ok (.iconst 1, 1) := by decide +kernel
theorem dX6_found_28 : decode cX6_found 28 = .ok (.if_icmp .eq 12, 3) := by decide +kernel
theorem dX6_found_31 : decode cX6_found 31 = .ok (.aload_n 0, 1) := by decide +kernel
theorem dX6_found_32 : decode cX6_found 32 = .ok (.getfield 41, 3) := by decide +kernel
theorem dX6_found_35 : decode cX6_found 35 = .ok (.iload_n 1, 1) := by decide +kernel
theorem dX6_found_36 : decode cX6_found 36 = .ok (.iaload, 1) := by decide +kernel
theorem dX6_found_37 : decode cX6_found 37 = .ok (.ifCond .eq 6, 3) := by decide +kernel
theorem dX6_found_40 : decode cX6_found 40 = .ok (.bipush (-12), 2) := by decide +kernel
theorem dX6_found_42 : decode cX6_found 42 = .ok (.ireturn, 1) := by decide +kernel
theorem dX6_found_43 : decode cX6_found 43 = .ok (.aload_n 0, 1) := by decide +kernel
theorem dX6_found_44 : decode cX6_found 44 = .ok (.getfield 44, 3) := by decide +kernel
theorem dX6_found_47 : decode cX6_found 47 = .ok (.iload_n 1, 1) := by decide +kernel
theorem dX6_found_48 : decode cX6_found 48 = .ok (.iaload, 1) := by decide +kernel
theorem dX6_found_49 : decode cX6_found 49 = .ok (.iconst 2, 1) := by decide +kernel
theorem dX6_found_50 : decode cX6_found 50 = .ok (.irem, 1) := by decide +kernel
theorem dX6_found_51 : decode cX6_found 51 = .ok (.ifCond .ne 7, 3) := by decide +kernel
theorem dX6_found_54 : decode cX6_found 54 = .ok (.iconst 1, 1) := by decide +kernel
theorem dX6_found_55 : decode cX6_found 55 = .ok (.goto 4, 3) := by decide +kernel
theorem dX6_found_58 : decode cX6_found 58 = .ok (.iconst 0, 1) := by decide +kernel
theorem dX6_found_59 : decode cX6_found 59 = .ok (.istore_n 2, 1) := by decide +kernel
theorem dX6_found_60 : decode cX6_found 60 = .ok (.iconst 0, 1) := by decide +kernel
theorem dX6_found_61 : decode cX6_found 61 = .ok (.istore_n 3, 1) := by decide +kernel
theorem dX6_found_62 : decode cX6_found 62 = .ok (.iload_n 3, 1) := by decide +kernel
theorem dX6_found_63 : decode cX6_found 63 = .ok (.iconst 1, 1) := by decide +kernel
theorem dX6_found_64 : decode cX6_found 64 = .ok (.iadd, 1) := by decide +kernel
theorem dX6_found_65 : decode cX6_found 65 = .ok (.aload_n 0, 1) := by decide +kernel
theorem dX6_found_66 : decode cX6_found 66 = .ok (.getfield 44, 3) := by decide +kernel
theorem dX6_found_69 : decode cX6_found 69 = .ok (.iload_n 1, 1) := by decide +kernel
theorem dX6_found_70 : decode cX6_found 70 = .ok (.iaload, 1) := by decide +kernel
theorem dX6_found_71 : decode cX6_found 71 = .ok (.if_icmp .ge 60, 3) := by decide +kernel
theorem dX6_found_74 : decode cX6_found 74 = .ok (.iload_n 2, 1) := by decide +kernel
theorem dX6_found_75 : decode cX6_found 75 = .ok (.ifCond .eq 56, 3) := by decide +kernel
theorem dX6_found_78 : decode cX6_found 78 = .ok (.aload_n 0, 1) := by decide +kernel
theorem dX6_found_79 : decode cX6_found 79 = .ok (.getfield 47, 3) := by decide +kernel
theorem dX6_found_82 : decode cX6_found 82 = .ok (.bipush 100, 2) := by decide +kernel
theorem dX6_found_84 : decode cX6_found 84 = .ok (.iload_n 1, 1) := by decide +kernel
theorem dX6_found_85 : decode cX6_found 85 = .ok (.imul, 1) := by decide +kernel
theorem dX6_found_86 : decode cX6_found 86 = .ok (.iload_n 3, 1) := by decide +kernel
theorem dX6_found_87 : decode cX6_found 87 = .ok (.iadd, 1) := by decide +kernel
theorem dX6_found_88 : decode cX6_found 88 = .ok (.iaload, 1) := by decide +kernel
theorem dX6_found_89 : decode cX6_found 89 = .ok (.iconst 0, 1) := by decide +kernel
theorem dX6_found_90 : decode cX6_found 90 = .ok (.bipush 80, 2) := by decide +kernel
theorem dX6_found_92 : decode cX6_found 92 = .ok (.invokestatic 68, 3) := by decide +kernel
theorem dX6_found_95 : decode cX6_found 95 = .ok (.ifCond .eq 28, 3) := by decide +kernel
theorem dX6_found_98 : decode cX6_found 98 = .ok (.aload_n 0, 1) := by decide +kernel
theorem dX6_found_99 : decode cX6_found 99 = .ok (.getfield 47, 3) := by decide +kernel
theorem dX6_found_102 : decode cX6_found 102 = .ok (.bipush 100, 2) := by decide +kernel
theorem dX6_found_104 : decode cX6_found 104 = .ok (.iload_n 1, 1) := by decide +kernel
theorem dX6_found_105 : decode cX6_found 105 = .ok (.imul, 1) := by decide +kernel
theorem dX6_found_106 : decode cX6_found 106 = .ok (.iload_n 3, 1) := by decide +kernel
theorem dX6_found_107 : decode cX6_found 107 = .ok (.iadd, 1) := by decide +kernel
theorem dX6_found_108 : decode cX6_found 108 = .ok (.iconst 1, 1) := by decide +kernel
theorem dX6_found_109 : decode cX6_found 109 = .ok (.iadd, 1) := by decide +kernel
theorem dX6_found_110 : decode cX6_found 110 = .ok (.iaload, 1) := by decide +kernel
theorem dX6_found_111 : decode cX6_found 111 = .ok (.iconst 0, 1) := by decide +kernel
theorem dX6_found_112 : decode cX6_found 112 = .ok (.iconst 2, 1) := by decide +kernel
theorem dX6_found_113 : decode cX6_found 113 = .ok (.invokestatic 68, 3) := by decide +kernel
theorem dX6_found_116 : decode cX6_found 116 = .ok (.ifCond .eq 7, 3) := by decide +kernel
theorem dX6_found_119 : decode cX6_found 119 = .ok (.iconst 1, 1) := by decide +kernel
theorem dX6_found_120 : decode cX6_found 120 = .ok (.goto 4, 3) := by decide +kernel
theorem dX6_found_123 : decode cX6_found 123 = .ok (.iconst 0, 1) := by decide +kernel
theorem dX6_found_124 : decode cX6_found 124 = .ok (.istore_n 2, 1) := by decide +kernel
theorem dX6_found_125 : decode cX6_found 125 = .ok (.iinc 3 2, 3) := by decide +kernel
theorem dX6_found_128 : decode cX6_found 128 = .ok (.goto (-66), 3) := by decide +kernel
theorem dX6_found_131 : decode cX6_found 131 = .ok (.iload_n 2, 1) := by decide +kernel
theorem dX6_found_132 : decode cX6_found 132 = .ok (.ifCond .ne 6, 3) := by decide +kernel
theorem dX6_found_135 : decode cX6_found 135 = .ok (.bipush (-13), 2) := by decide +kernel
theorem dX6_found_137 : decode cX6_found 137 = .ok (.ireturn, 1) := by decide +kernel
theorem dX6_found_138 : decode cX6_found 138 = .ok (.iconst 0, 1) := by decide +kernel
theorem dX6_found_139 : decode cX6_found 139 = .ok (.istore_n 3, 1) := by decide +kernel
theorem dX6_found_140 : decode cX6_found 140 = .ok (.iconst 0, 1) := by decide +kernel
theorem dX6_found_141 : decode cX6_found 141 = .ok (.istore 4, 2) := by decide +kernel
theorem dX6_found_143 : decode cX6_found 143 = .ok (.iload 4, 2) := by decide +kernel
theorem dX6_found_145 : decode cX6_found 145 = .ok (.iconst 4, 1) := by decide +kernel
theorem dX6_found_146 : decode cX6_found 146 = .ok (.if_icmp .ge 97, 3) := by decide +kernel
theorem dX6_found_149 : decode cX6_found 149 = .ok (.iconst 1, 1) := by decide +kernel
theorem dX6_found_150 : decode cX6_found 150 = .ok (.istore 5, 2) := by decide +kernel
theorem dX6_found_152 : decode cX6_found 152 = .ok (.iconst 0, 1) := by decide +kernel
theorem dX6_found_153 : decode cX6_found 153 = .ok (.istore 6, 2) := by decide +kernel
theorem dX6_found_155 : decode cX6_found 155 = .ok (.iload 6, 2) := by decide +kernel
theorem dX6_found_157 : decode cX6_found 157 = .ok (.aload_n 0, 1) := by decide +kernel
theorem dX6_found_158 : decode cX6_found 158 = .ok (.getfield 44, 3) := by decide +kernel
theorem dX6_found_161 : decode cX6_found 161 = .ok (.iload_n 1, 1) := by decide +kernel
theorem dX6_found_162 : decode cX6_found 162 = .ok (.iaload, 1) := by decide +kernel
theorem dX6_found_163 : decode cX6_found 163 = .ok (.if_icmp .ge 58, 3) := by decide +kernel
theorem dX6_found_166 : decode cX6_found 166 = .ok (.iload 5, 2) := by decide +kernel
theorem dX6_found_168 : decode cX6_found 168 = .ok (.ifCond .eq 44, 3) := by decide +kernel
theorem dX6_found_171 : decode cX6_found 171 = .ok (.aload_n 0, 1) := by decide +kernel
theorem dX6_found_172 : decode cX6_found 172 = .ok (.getfield 47, 3) := by decide +kernel
theorem dX6_found_175 : decode cX6_found 175 = .ok (.bipush 100, 2) := by decide +kernel
theorem dX6_found_177 : decode cX6_found 177 = .ok (.iload_n 1, 1) := by decide +kernel
theorem dX6_found_178 : decode cX6_found 178 = .ok (.imul, 1) := by decide +kernel
theorem dX6_found_179 : decode cX6_found 179 = .ok (.iload 6, 2) := by decide +kernel
theorem dX6_found_181 : decode cX6_found 181 = .ok (.iadd, 1) := by decide +kernel
theorem dX6_found_182 : decode cX6_found 182 = .ok (.iaload, 1) := by decide +kernel
theorem dX6_found_183 : decode cX6_found 183 = .ok (.iload 4, 2) := by decide +kernel
theorem dX6_found_185 : decode cX6_found 185 = .ok (.invokestatic 76, 3) := by decide +kernel
theorem dX6_found_188 : decode cX6_found 188 = .ok (.idiv, 1) := by decide +kernel
theorem dX6_found_189 : decode cX6_found 189 = .ok (.iconst 3, 1) := by decide +kernel
theorem dX6_found_190 : decode cX6_found 190 = .ok (.irem, 1) := by decide +kernel
theorem dX6_found_191 : decode cX6_found 191 = .ok (.aload_n 0, 1) := by decide +kernel
theorem dX6_found_192 : decode cX6_found 192 = .ok (.getfield 47, 3) := by decide +kernel
theorem dX6_found_195 : decode cX6_found 195 = .ok (.bipush 100, 2) := by decide +kernel
theorem dX6_found_197 : decode cX6_found 197 = .ok (.iload_n 1, 1) := by decide +kernel
theorem dX6_found_198 : decode cX6_found 198 = .ok (.imul, 1) := by decide +kernel
theorem dX6_found_199 : decode cX6_found 199 = .ok (.iload 6, 2) := by decide +kernel
theorem dX6_found_201 : decode cX6_found 201 = .ok (.iadd, 1) := by decide +kernel
theorem dX6_found_202 : decode cX6_found 202 = .ok (.iconst 1, 1) := by decide +kernel
theorem dX6_found_203 : decode cX6_found 203 = .ok (.iadd, 1) := by decide +kernel
theorem dX6_found_204 : decode cX6_found 204 = .ok (.iaload, 1) := by decide +kernel
theorem dX6_found_205 : decode cX6_found 205 = .ok (.if_icmp .ne 7, 3) := by decide +kernel
theorem dX6_found_208 : decode cX6_found 208 = .ok (.iconst 1, 1) := by decide +kernel
theorem dX6_found_209 : decode cX6_found 209 = .ok (.goto 4, 3) := by decide +kernel
theorem dX6_found_212 : decode cX6_found 212 = .ok (.iconst 0, 1) := by decide +kernel
theorem dX6_found_213 : decode cX6_found 213 = .ok (.istore 5, 2) := by decide +kernel
theorem dX6_found_215 : decode cX6_found 215 = .ok (.iinc 6 2, 3) := by decide +kernel
theorem dX6_found_218 : decode cX6_found 218 = .ok (.goto (-63), 3) := by decide +kernel
theorem dX6_found_221 : decode cX6_found 221 = .ok (.iload_n 3, 1) := by decide +kernel
theorem dX6_found_222 : decode cX6_found 222 = .ok (.iload 5, 2) := by decide +kernel
theorem dX6_found_224 : decode cX6_found 224 = .ok (.ifCond .eq 10, 3) := by decide +kernel
theorem dX6_found_227 : decode cX6_found 227 = .ok (.iconst 1, 1) := by decide +kernel
theorem dX6_found_228 : decode cX6_found 228 = .ok (.iload 4, 2) := by decide +kernel
theorem dX6_found_230 : decode cX6_found 230 = .ok (.ishl, 1) := by decide +kernel
theorem dX6_found_231 : decode cX6_found 231 = .ok (.goto 4, 3) := by decide +kernel
theorem dX6_found_234 : decode cX6_found 234 = .ok (.iconst 0, 1) := by decide +kernel
theorem dX6_found_235 : decode cX6_found 235 = .ok (.ior, 1) := by decide +kernel
theorem dX6_found_236 : decode cX6_found 236 = .ok (.istore_n 3, 1) := by decide +kernel
theorem dX6_found_237 : decode cX6_found 237 = .ok (.iinc 4 1, 3) := by decide +kernel
theorem dX6_found_240 : decode cX6_found 240 = .ok (.goto (-97), 3) := by decide +kernel
theorem dX6_found_243 : decode cX6_found 243 = .ok (.iload_n 3, 1) := by decide +kernel
theorem dX6_found_244 : decode cX6_found 244 = .ok (.ireturn, 1) := by decide +kernel
set_option maxRecDepth 20000 in
theorem ggX6_twice_X6_isIn : GoodIn wsX6_twice wsX6_isIn := goodIn_r _ [5] (by decide +kernel) (by decide +kernel)
set_option maxRecDepth 20000 in
theorem gX6_twice_X6_isIn : GoodIn wsX6_twice (va_wsS RX6 68 yX6_isIn wsX6_isIn) := goodIn_app (goodIn_of _ (by decide +kernel)) ggX6_twice_X6_isIn
theorem dX6_twice_0 : decode cX6_twice 0 = .ok (.iload_n 3, 1) := by decide +kernel
theorem dX6_twice_1 : decode cX6_twice 1 = .ok (.iconst 1, 1) := by decide +kernel
theorem dX6_twice_2 : decode cX6_twice 2 = .ok (.if_icmp .ne 8, 3) := by decide +kernel
theorem dX6_twice_5 : decode cX6_twice 5 = .ok (.ldc 124, 2) := by decide +kernel
theorem dX6_twice_7 : decode cX6_twice 7 = .ok (.goto 4, 3) := by decide +kernel
theorem dX6_twice_10 : decode cX6_twice 10 = .ok (.iconst 0, 1) := by decide +kernel
theorem dX6_twice_11 : decode cX6_twice 11 = .ok (.istore 4, 2) := by decide +kernel
theorem dX6_twice_13 : decode cX6_twice 13 = .ok (.iload_n 1, 1) := by decide +kernel
theorem dX6_twice_14 : decode cX6_twice 14 = .ok (.iconst 0, 1) := by decide +kernel
theorem dX6_twice_15 : decode cX6_twice 15 = .ok (.sipush 999, 3) := by decide +kernel
theorem dX6_twice_18 : decode cX6_twice 18 = .ok (.invokestatic 68, 3) := by decide +kernel
theorem dX6_twice_21 : decode cX6_twice 21 = .ok (.ifCond .eq 23, 3) := by decide +kernel
theorem dX6_twice_24 : decode cX6_twice 24 = .ok (.iload_n 2, 1) := by decide +kernel
theorem dX6_twice_25 : decode cX6_twice 25 = .ok (.iconst 0, 1) := by decide +kernel
theorem dX6_twice_26 : decode cX6_twice 26 = .ok (.sipush 999, 3) := by decide +kernel
theorem dX6_twice_29 : decode cX6_twice 29 = .ok (.invokestatic 68, 3) := by decide +kernel
theorem dX6_twice_32 : decode cX6_twice 32 = .ok (.ifCond .eq 12, 3) := by decide +kernel
theorem dX6_twice_35 : decode cX6_twice 35 = .ok (.iload_n 3, 1) := by decide +kernel
theorem dX6_twice_36 : decode cX6_twice 36 = .ok (.iconst 0, 1) := by decide +kernel
theorem dX6_twice_37 : decode cX6_twice 37 = .ok (.iconst 1, 1) := by decide +kernel
theorem dX6_twice_38 : decode cX6_twice 38 = .ok (.invokestatic 68, 3) := by decide +kernel
theorem dX6_twice_41 : decode cX6_twice 41 = .ok (.ifCond .ne 8, 3) := by decide +kernel
theorem dX6_twice_44 : decode cX6_twice 44 = .ok (.iconst (-1), 1) := by decide +kernel
theorem dX6_twice_45 : decode cX6_twice 45 = .ok (.iload 4, 2) := by decide +kernel
theorem dX6_twice_47 : decode cX6_twice 47 = .ok (.isub, 1) := by decide +kernel
theorem dX6_twice_48 : decode cX6_twice 48 = .ok (.ireturn, 1) := by decide +kernel
theorem dX6_twice_49 : decode cX6_twice 49 = .ok (.iload_n 1, 1) := by decide +kernel
theorem dX6_twice_50 : decode cX6_twice 50 = .ok (.iload_n 2, 1) := by decide +kernel
theorem dX6_twice_51 : decode cX6_twice 51 = .ok (.iadd, 1) := by decide +kernel
theorem dX6_twice_52 : decode cX6_twice 52 = .ok (.iconst 2, 1) := by decide +kernel
theorem dX6_twice_53 : decode cX6_twice 53 = .ok (.irem, 1) := by decide +kernel
theorem dX6_twice_54 : decode cX6_twice 54 = .ok (.iconst 1, 1) := by decide +kernel
theorem dX6_twice_55 : decode cX6_twice 55 = .ok (.if_icmp .ne 9, 3) := by decide +kernel
theorem dX6_twice_58 : decode cX6_twice 58 = .ok (.bipush (-4), 2) := by decide +kernel
theorem dX6_twice_60 : decode cX6_twice 60 = .ok (.iload 4, 2) := by decide +kernel
theorem dX6_twice_62 : decode cX6_twice 62 = .ok (.isub, 1) := by decide +kernel
theorem dX6_twice_63 : decode cX6_twice 63 = .ok (.ireturn, 1) := by decide +kernel
theorem dX6_twice_64 : decode cX6_twice 64 = .ok (.iload_n 3, 1) := by decide +kernel
theorem dX6_twice_65 : decode cX6_twice 65 = .ok (.ifCond .ne 11, 3) := by decide +kernel
theorem dX6_twice_68 : decode cX6_twice 68 = .ok (.iload_n 1, 1) := by decide +kernel
theorem dX6_twice_69 : decode cX6_twice 69 = .ok (.iload_n 2, 1) := by decide +kernel
theorem dX6_twice_70 : decode cX6_twice 70 = .ok (.iadd, 1) := by decide +kernel
theorem dX6_twice_71 : decode cX6_twice 71 = .ok (.iconst 2, 1) := by decide +kernel
theorem dX6_twice_72 : decode cX6_twice 72 = .ok (.idiv, 1) := by decide +kernel
theorem dX6_twice_73 : decode cX6_twice 73 = .ok (.goto 10, 3) := by decide +kernel
theorem dX6_twice_76 : decode cX6_twice 76 = .ok (.iload_n 1, 1) := by decide +kernel
theorem dX6_twice_77 : decode cX6_twice 77 = .ok (.iload_n 1, 1) := by decide +kernel
theorem dX6_twice_78 : decode cX6_twice 78 = .ok (.iload_n 2, 1) := by decide +kernel
theorem dX6_twice_79 : decode cX6_twice 79 = .ok (.iadd, 1) := by decide +kernel
theorem dX6_twice_80 : decode cX6_twice 80 = .ok (.iconst 2, 1) := by decide +kernel
theorem dX6_twice_81 : decode cX6_twice 81 = .ok (.idiv, 1) := by decide +kernel
theorem dX6_twice_82 : decode cX6_twice 82 = .ok (.isub, 1) := by decide +kernel
theorem dX6_twice_83 : decode cX6_twice 83 = .ok (.ireturn, 1) := by decide +kernel
set_option maxRecDepth 20000 in
theorem ggX6_customers_X6_isIn : GoodIn wsX6_customers wsX6_isIn := goodIn_r _ [8] (by decide +kernel) (by decide +kernel)
set_option maxRecDepth 20000 in
theorem gX6_customers_X6_isIn : GoodIn wsX6_customers (va_wsS RX6 68 yX6_isIn wsX6_isIn) := goodIn_app (goodIn_of _ (by decide +kernel)) ggX6_customers_X6_isIn
set_option maxRecDepth 20000 in
theorem ggX6_customers_X6_power : GoodIn wsX6_customers wsX6_power := goodIn_r _ [11] (by decide +kernel) (by decide +kernel)
set_option maxRecDepth 20000 in
theorem gX6_customers_X6_power : GoodIn wsX6_customers (va_wsS RX6 76 yX6_power wsX6_power) := goodIn_app (goodIn_of _ (by decide +kernel)) ggX6_customers_X6_power
set_option maxRecDepth 20000 in
theorem ggX6_customers_X6_look : GoodIn wsX6_customers wsX6_look := goodIn_r _ [15, 2, 3, 16, 17, 18, 4, 1, 19, 20, 21, 22, 23, 24, 25, 26, 27, 28, 29, 30, 31, 32, 33, 34, 35, 36, 37, 38, 39, 40, 41, 42, 43, 44, 45, 46, 47, 48, 49, 50, 51, 52] (by decide +kernel) (by decide +kernel)
set_option maxRecDepth 20000 in
theorem gX6_customers_X6_look : GoodIn wsX6_customers (wsV RX6 101 RX6 yX6_look wsX6_look) := goodIn_app (goodIn_of _ (by decide +kernel)) ggX6_customers_X6_look
theorem dX6_customers_0 : decode cX6_customers 0 = .ok (.iload_n 1, 1) := by decide +kernel
theorem dX6_customers_1 : decode cX6_customers 1 = .ok (.iconst 1, 1) := by decide +kernel
theorem dX6_customers_2 : decode cX6_customers 2 = .ok (.sipush 999, 3) := by decide +kernel
theorem dX6_customers_5 : decode cX6_customers 5 = .ok (.invokestatic 68, 3) := by decide +kernel
theorem dX6_customers_8 : decode cX6_customers 8 = .ok (.ifCond .eq 23, 3) := by decide +kernel
theorem dX6_customers_11 : decode cX6_customers 11 = .ok (.iload_n 2, 1) := by decide +kernel
theorem dX6_customers_12 : decode cX6_customers 12 = .ok (.iconst 1, 1) := by decide +kernel
theorem dX6_customers_13 : decode cX6_customers 13 = .ok (.sipush 999, 3) := by decide +kernel
theorem dX6_customers_16 : decode cX6_customers 16 = .ok (.invokestatic 68, 3) := by decide +kernel
theorem dX6_customers_19 : decode cX6_customers 19 = .ok (.ifCond .eq 12, 3) := by decide +kernel
theorem dX6_customers_22 : decode cX6_customers 22 = .ok (.iload_n 3, 1) := by decide +kernel
theorem dX6_customers_23 : decode cX6_customers 23 = .ok (.iconst 0, 1) := by decide +kernel
theorem dX6_customers_24 : decode cX6_customers 24 = .ok (.iconst 2, 1) := by decide +kernel
theorem dX6_customers_25 : decode cX6_customers 25 = .ok (.invokestatic 68, 3) := by decide +kernel
theorem dX6_customers_28 : decode cX6_customers 28 = .ok (.ifCond .ne 5, 3) := by decide +kernel
theorem dX6_customers_31 : decode cX6_customers 31 = .ok (.iconst (-1), 1) := by decide +kernel
theorem dX6_customers_32 : decode cX6_customers 32 = .ok (.ireturn, 1) := by decide +kernel
theorem dX6_customers_33 : decode cX6_customers 33 = .ok (.iconst 0, 1) := by decide +kernel
theorem dX6_customers_34 : decode cX6_customers 34 = .ok (.istore 4, 2) := by decide +kernel
theorem dX6_customers_36 : decode cX6_customers 36 = .ok (.bipush (-4), 2) := by decide +kernel
theorem dX6_customers_38 : decode cX6_customers 38 = .ok (.istore 5, 2) := by decide +kernel
theorem dX6_customers_40 : decode cX6_customers 40 = .ok (.bipush (-4), 2) := by decide +kernel
theorem dX6_customers_42 : decode cX6_customers 42 = .ok (.istore 6, 2) := by decide +kernel
theorem dX6_customers_44 : decode cX6_customers 44 = .ok (.iconst 0, 1) := by decide +kernel
theorem dX6_customers_45 : decode cX6_customers 45 = .ok (.istore 7, 2) := by decide +kernel
theorem dX6_customers_47 : decode cX6_customers 47 = .ok (.iload 7, 2) := by decide +kernel
theorem dX6_customers_49 : decode cX6_customers 49 = .ok (.aload_n 0, 1) := by decide +kernel
theorem dX6_customers_50 : decode cX6_customers 50 = .ok (.getfield 57, 3) := by decide +kernel
theorem dX6_customers_53 : decode cX6_customers 53 = .ok (.invokestatic 76, 3) := by decide +kernel
theorem dX6_customers_56 : decode cX6_customers 56 = .ok (.if_icmp .ge 115, 3) := by decide +kernel
theorem dX6_customers_59 : decode cX6_customers 59 = .ok (.aload_n 0, 1) := by decide +kernel
theorem dX6_customers_60 : decode cX6_customers 60 = .ok (.iload 7, 2) := by decide +kernel
theorem dX6_customers_62 : decode cX6_customers 62 = .ok (.invokevirtual 101, 3) := by decide +kernel
theorem dX6_customers_65 : decode cX6_customers 65 = .ok (.aload_n 0, 1) := by decide +kernel
theorem dX6_customers_66 : decode cX6_customers 66 = .ok (.getfield 80, 3) := by decide +kernel
theorem dX6_customers_69 : decode cX6_customers 69 = .ok (.aload_n 0, 1) := by decide +kernel
theorem dX6_customers_70 : decode cX6_customers 70 = .ok (.getfield 83, 3) := by decide +kernel
theorem dX6_customers_73 : decode cX6_customers 73 = .ok (.isub, 1) := by decide +kernel
theorem dX6_customers_74 : decode cX6_customers 74 = .ok (.iload_n 1, 1) := by decide +kernel
theorem dX6_customers_75 : decode cX6_customers 75 = .ok (.if_icmp .ne 90, 3) := by decide +kernel
theorem dX6_customers_78 : decode cX6_customers 78 = .ok (.aload_n 0, 1) := by decide +kernel
theorem dX6_customers_79 : decode cX6_customers 79 = .ok (.getfield 95, 3) := by decide +kernel
theorem dX6_customers_82 : decode cX6_customers 82 = .ok (.istore 8, 2) := by decide +kernel
theorem dX6_customers_84 : decode cX6_customers 84 = .ok (.iconst 0, 1) := by decide +kernel
theorem dX6_customers_85 : decode cX6_customers 85 = .ok (.istore 9, 2) := by decide +kernel
theorem dX6_customers_87 : decode cX6_customers 87 = .ok (.iload 9, 2) := by decide +kernel
theorem dX6_customers_89 : decode cX6_customers 89 = .ok (.aload_n 0, 1) := by decide +kernel
theorem dX6_customers_90 : decode cX6_customers 90 = .ok (.getfield 57, 3) := by decide +kernel
theorem dX6_customers_93 : decode cX6_customers 93 = .ok (.invokestatic 76, 3) := by decide +kernel
theorem dX6_customers_96 : decode cX6_customers 96 = .ok (.if_icmp .ge 69, 3) := by decide +kernel
theorem dX6_customers_99 : decode cX6_customers 99 = .ok (.aload_n 0, 1) := by decide +kernel
theorem dX6_customers_100 : decode cX6_customers 100 = .ok (.iload 9, 2) := by decide +kernel
theorem dX6_customers_102 : decode cX6_customers 102 = .ok (.invokevirtual 101, 3) := by decide +kernel
theorem dX6_customers_105 : decode cX6_customers 105 = .ok (.aload_n 0, 1) := by decide +kernel
theorem dX6_customers_106 : decode cX6_customers 106 = .ok (.getfield 80, 3) := by decide +kernel
theorem dX6_customers_109 : decode cX6_customers 109 = .ok (.aload_n 0, 1) := by decide +kernel
theorem dX6_customers_110 : decode cX6_customers 110 = .ok (.getfield 83, 3) := by decide +kernel
theorem dX6_customers_113 : decode cX6_customers 113 = .ok (.isub, 1) := by decide +kernel
theorem dX6_customers_114 : decode cX6_customers 114 = .ok (.iload_n 2, 1) := by decide +kernel
theorem dX6_customers_115 : decode cX6_customers 115 = .ok (.if_icmp .ne 44, 3) := by decide +kernel
theorem dX6_customers_118 : decode cX6_customers 118 = .ok (.aload_n 0, 1) := by decide +kernel
theorem dX6_customers_119 : decode cX6_customers 119 = .ok (.getfield 95, 3) := by decide +kernel
theorem dX6_customers_122 : decode cX6_customers 122 = .ok (.iload 8, 2) := by decide +kernel
theorem dX6_customers_124 : decode cX6_customers 124 = .ok (.iand, 1) := by decide +kernel
theorem dX6_customers_125 : decode cX6_customers 125 = .ok (.ifCond .ne 34, 3) := by decide +kernel
theorem dX6_customers_128 : decode cX6_customers 128 = .ok (.iload 4, 2) := by decide +kernel
theorem dX6_customers_130 : decode cX6_customers 130 = .ok (.ifCond .ne 8, 3) := by decide +kernel
theorem dX6_customers_133 : decode cX6_customers 133 = .ok (.iload 7, 2) := by decide +kernel
theorem dX6_customers_135 : decode cX6_customers 135 = .ok (.goto 5, 3) := by decide +kernel
theorem dX6_customers_138 : decode cX6_customers 138 = .ok (.iload 5, 2) := by decide +kernel
theorem dX6_customers_140 : decode cX6_customers 140 = .ok (.istore 5, 2) := by decide +kernel
theorem dX6_customers_142 : decode cX6_customers 142 = .ok (.iload 4, 2) := by decide +kernel
theorem dX6_customers_144 : decode cX6_customers 144 = .ok (.ifCond .ne 8, 3) := by decide +kernel
theorem dX6_customers_147 : decode cX6_customers 147 = .ok (.iload 9, 2) := by decide +kernel
theorem dX6_customers_149 : decode cX6_customers 149 = .ok (.goto 5, 3) := by decide +kernel
theorem dX6_customers_152 : decode cX6_customers 152 = .ok (.iload 6, 2) := by decide +kernel
theorem dX6_customers_154 : decode cX6_customers 154 = .ok (.istore 6, 2) := by decide +kernel
theorem dX6_customers_156 : decode cX6_customers 156 = .ok (.iinc 4 1, 3) := by decide +kernel
theorem dX6_customers_159 : decode cX6_customers 159 = .ok (.iinc 9 1, 3) := by decide +kernel
theorem dX6_customers_162 : decode cX6_customers 162 = .ok (.goto (-75), 3) := by decide +kernel
theorem dX6_customers_165 : decode cX6_customers 165 = .ok (.iinc 7 1, 3) := by decide +kernel
theorem dX6_customers_168 : decode cX6_customers 168 = .ok (.goto (-121), 3) := by decide +kernel
theorem dX6_customers_171 : decode cX6_customers 171 = .ok (.iload_n 3, 1) := by decide +kernel
theorem dX6_customers_172 : decode cX6_customers 172 = .ok (.ifCond .ne 8, 3) := by decide +kernel
theorem dX6_customers_175 : decode cX6_customers 175 = .ok (.iload 4, 2) := by decide +kernel
theorem dX6_customers_177 : decode cX6_customers 177 = .ok (.goto 15, 3) := by decide +kernel
theorem dX6_customers_180 : decode cX6_customers 180 = .ok (.iload_n 3, 1) := by decide +kernel
theorem dX6_customers_181 : decode cX6_customers 181 = .ok (.iconst 1, 1) := by decide +kernel
theorem dX6_customers_182 : decode cX6_customers 182 = .ok (.if_icmp .ne 8, 3) := by decide +kernel
theorem dX6_customers_185 : decode cX6_customers 185 = .ok (.iload 5, 2) := by decide +kernel
theorem dX6_customers_187 : decode cX6_customers 187 = .ok (.goto 5, 3) := by decide +kernel
theorem dX6_customers_190 : decode cX6_customers 190 = .ok (.iload 6, 2) := by decide +kernel
theorem dX6_customers_192 : decode cX6_customers 192 = .ok (.ireturn, 1) := by decide +kernel
set_option maxRecDepth 20000 in
theorem ggX6_unknown_X6_isStone : GoodIn wsX6_unknown wsX6_isStone := goodIn_r _ [12, 13, 14, 15, 11, 16, 36, 37, 38, 39, 40, 41, 42, 43, 44, 45, 46, 47, 48, 49, 50, 51, 52, 53, 54, 55, 56, 57, 58, 59, 60, 61, 62, 63, 64, 65, 66, 67] (by decide +kernel) (by decide +kernel)
set_option maxRecDepth 20000 in
theorem gX6_unknown_X6_isStone : GoodIn wsX6_unknown (wsV RX6 72 RX6 yX6_isStone wsX6_isStone) := goodIn_app (goodIn_of _ (by decide +kernel)) ggX6_unknown_X6_isStone
set_option maxRecDepth 20000 in
theorem ggX6_unknown_X6_isShelf : GoodIn wsX6_unknown wsX6_isShelf := goodIn_r _ [19, 14, 15, 11, 16] (by decide +kernel) (by decide +kernel)
set_option maxRecDepth 20000 in
theorem gX6_unknown_X6_isShelf : GoodIn wsX6_unknown (va_wsS RX6 117 yX6_isShelf wsX6_isShelf) := goodIn_app (goodIn_of _ (by decide +kernel)) ggX6_unknown_X6_isShelf
set_option maxRecDepth 20000 in
theorem ggX6_unknown_X6_isIn : GoodIn wsX6_unknown wsX6_isIn := goodIn_r _ [16] (by decide +kernel) (by decide +kernel)
set_option maxRecDepth 20000 in
theorem gX6_unknown_X6_isIn : GoodIn wsX6_unknown (va_wsS RX6 68 yX6_isIn wsX6_isIn) := goodIn_app (goodIn_of _ (by decide +kernel)) ggX6_unknown_X6_isIn
set_option maxRecDepth 20000 in
theorem ggX6_unknown_X6_isLying : GoodIn wsX6_unknown wsX6_isLying := goodIn_r _ [23, 13, 24, 25, 11, 26, 14, 15, 16, 36, 37, 38, 39, 40, 41, 42, 43, 44, 45, 46, 47, 48, 49, 50, 51, 52, 53, 54, 55, 56, 57, 58, 59, 60, 61, 62, 63, 64, 65, 66, 67] (by decide +kernel) (by decide +kernel)
set_option maxRecDepth 20000 in
theorem gX6_unknown_X6_isLying : GoodIn wsX6_unknown (wsV RX6 98 RX6 yX6_isLying wsX6_isLying) := goodIn_app (goodIn_of _ (by decide +kernel)) ggX6_unknown_X6_isLying
set_option maxRecDepth 20000 in
theorem ggX6_unknown_X6_look : GoodIn wsX6_unknown wsX6_look := goodIn_r _ [30, 6, 7, 31, 32, 33, 34, 13, 5, 35, 36, 37, 38, 39, 40, 41, 42, 43, 44, 45, 46, 47, 48, 49, 50, 51, 52, 53, 54, 55, 56, 57, 58, 59, 60, 61, 62, 63, 64, 65, 66, 67] (by decide +kernel) (by decide +kernel)
set_option maxRecDepth 20000 in
theorem gX6_unknown_X6_look : GoodIn wsX6_unknown (wsV RX6 101 RX6 yX6_look wsX6_look) := goodIn_app (goodIn_of _ (by decide +kernel)) ggX6_unknown_X6_look
theorem dX6_unknown_0 : decode cX6_unknown 0 = .ok (.aload_n 0, 1) := by decide +kernel
theorem dX6_unknown_1 : decode cX6_unknown 1 = .ok (.iload_n 1, 1) := by decide +kernel
theorem dX6_unknown_2 : decode cX6_unknown 2 = .ok (.invokevirtual 72, 3) := by decide +kernel
theorem dX6_unknown_5 : decode cX6_unknown 5 = .ok (.ifCond .eq 19, 3) := by decide +kernel
theorem dX6_unknown_8 : decode cX6_unknown 8 = .ok (.iload_n 2, 1) := by decide +kernel
theorem dX6_unknown_9 : decode cX6_unknown 9 = .ok (.invokestatic 117, 3) := by decide +kernel
theorem dX6_unknown_12 : decode cX6_unknown 12 = .ok (.ifCond .eq 12, 3) := by decide +kernel
theorem dX6_unknown_15 : decode cX6_unknown 15 = .ok (.iload_n 3, 1) := by decide +kernel
theorem dX6_unknown_16 : decode cX6_unknown 16 = .ok (.iconst 0, 1) := by decide +kernel
theorem dX6_unknown_17 : decode cX6_unknown 17 = .ok (.iconst 1, 1) := by decide +kernel
theorem dX6_unknown_18 : decode cX6_unknown 18 = .ok (.invokestatic 68, 3) := by decide +kernel
theorem dX6_unknown_21 : decode cX6_unknown 21 = .ok (.ifCond .ne 5, 3) := by decide +kernel
theorem dX6_unknown_24 : decode cX6_unknown 24 = .ok (.iconst (-1), 1) := by decide +kernel
theorem dX6_unknown_25 : decode cX6_unknown 25 = .ok (.ireturn, 1) := by decide +kernel
theorem dX6_unknown_26 : decode cX6_unknown 26 = .ok (.aload_n 0, 1) := by decide +kernel
theorem dX6_unknown_27 : decode cX6_unknown 27 = .ok (.getfield 32, 3) := by decide +kernel
theorem dX6_unknown_30 : decode cX6_unknown 30 = .ok (.iload_n 2, 1) := by decide +kernel
theorem dX6_unknown_31 : decode cX6_unknown 31 = .ok (.iaload, 1) := by decide +kernel
theorem dX6_unknown_32 : decode cX6_unknown 32 = .ok (.ifCond .ne 6, 3) := by decide +kernel
theorem dX6_unknown_35 : decode cX6_unknown 35 = .ok (.bipush (-11), 2) := by decide +kernel
theorem dX6_unknown_37 : decode cX6_unknown 37 = .ok (.ireturn, 1) := by decide +kernel
theorem dX6_unknown_38 : decode cX6_unknown 38 = .ok (.aload_n 0, 1) := by decide +kernel
theorem dX6_unknown_39 : decode cX6_unknown 39 = .ok (.getfield 32, 3) := by decide +kernel
theorem dX6_unknown_42 : decode cX6_unknown 42 = .ok (.iload_n 2, 1) := by decide +kernel
theorem dX6_unknown_43 : decode cX6_unknown 43 = .ok (.iaload, 1) := by decide +kernel
theorem dX6_unknown_44 : decode cX6_unknown 44 = .ok (.iconst 1, 1) := by decide +kernel
theorem dX6_unknown_45 : decode cX6_unknown 45 = .ok (.if_icmp .eq 13, 3) := by decide +kernel
theorem dX6_unknown_48 : decode cX6_unknown 48 = .ok (.aload_n 0, 1) := by decide +kernel
theorem dX6_unknown_49 : decode cX6_unknown 49 = .ok (.getfield 41, 3) := by decide +kernel
theorem dX6_unknown_52 : decode cX6_unknown 52 = .ok (.iload_n 2, 1) := by decide +kernel
theorem dX6_unknown_53 : decode cX6_unknown 53 = .ok (.iaload, 1) := by decide +kernel
theorem dX6_unknown_54 : decode cX6_unknown 54 = .ok (.iconst 2, 1) := by decide +kernel
theorem dX6_unknown_55 : decode cX6_unknown 55 = .ok (.if_icmp .eq 6, 3) := by decide +kernel
theorem dX6_unknown_58 : decode cX6_unknown 58 = .ok (.bipush (-12), 2) := by decide +kernel
theorem dX6_unknown_60 : decode cX6_unknown 60 = .ok (.ireturn, 1) := by decide +kernel
theorem dX6_unknown_61 : decode cX6_unknown 61 = .ok (.aload_n 0, 1) := by decide +kernel
theorem dX6_unknown_62 : decode cX6_unknown 62 = .ok (.getfield 44, 3) := by decide +kernel
theorem dX6_unknown_65 : decode cX6_unknown 65 = .ok (.iload_n 2, 1) := by decide +kernel
theorem dX6_unknown_66 : decode cX6_unknown 66 = .ok (.iaload, 1) := by decide +kernel
theorem dX6_unknown_67 : decode cX6_unknown 67 = .ok (.iconst 2, 1) := by decide +kernel
theorem dX6_unknown_68 : decode cX6_unknown 68 = .ok (.irem, 1) := by decide +kernel
theorem dX6_unknown_69 : decode cX6_unknown 69 = .ok (.ifCond .ne 7, 3) := by decide +kernel
theorem dX6_unknown_72 : decode cX6_unknown 72 = .ok (.iconst 1, 1) := by decide +kernel
theorem dX6_unknown_73 : decode cX6_unknown 73 = .ok (.goto 4, 3) := by decide +kernel
theorem dX6_unknown_76 : decode cX6_unknown 76 = .ok (.iconst 0, 1) := by decide +kernel
theorem dX6_unknown_77 : decode cX6_unknown 77 = .ok (.istore 4, 2) := by decide +kernel
theorem dX6_unknown_79 : decode cX6_unknown 79 = .ok (.iconst 0, 1) := by decide +kernel
theorem dX6_unknown_80 : decode cX6_unknown 80 = .ok (.istore 5, 2) := by decide +kernel
theorem dX6_unknown_82 : decode cX6_unknown 82 = .ok (.iload 5, 2) := by decide +kernel
theorem dX6_unknown_84 : decode cX6_unknown 84 = .ok (.aload_n 0, 1) := by decide +kernel
theorem dX6_unknown_85 : decode cX6_unknown 85 = .ok (.getfield 44, 3) := by decide +kernel
theorem dX6_unknown_88 : decode cX6_unknown 88 = .ok (.iload_n 2, 1) := by decide +kernel
theorem dX6_unknown_89 : decode cX6_unknown 89 = .ok (.iaload, 1) := by decide +kernel
theorem dX6_unknown_90 : decode cX6_unknown 90 = .ok (.if_icmp .ge 32, 3) := by decide +kernel
theorem dX6_unknown_93 : decode cX6_unknown 93 = .ok (.iload 4, 2) := by decide +kernel
theorem dX6_unknown_95 : decode cX6_unknown 95 = .ok (.ifCond .eq 27, 3) := by decide +kernel
theorem dX6_unknown_98 : decode cX6_unknown 98 = .ok (.aload_n 0, 1) := by decide +kernel
theorem dX6_unknown_99 : decode cX6_unknown 99 = .ok (.aload_n 0, 1) := by decide +kernel
theorem dX6_unknown_100 : decode cX6_unknown 100 = .ok (.getfield 47, 3) := by decide +kernel
theorem dX6_unknown_103 : decode cX6_unknown 103 = .ok (.bipush 100, 2) := by decide +kernel
theorem dX6_unknown_105 : decode cX6_unknown 105 = .ok (.iload_n 2, 1) := by decide +kernel
theorem dX6_unknown_106 : decode cX6_unknown 106 = .ok (.imul, 1) := by decide +kernel
theorem dX6_unknown_107 : decode cX6_unknown 107 = .ok (.iload 5, 2) := by decide +kernel
theorem dX6_unknown_109 : decode cX6_unknown 109 = .ok (.iadd, 1) := by decide +kernel
theorem dX6_unknown_110 : decode cX6_unknown 110 = .ok (.iaload, 1) := by decide +kernel
theorem dX6_unknown_111 : decode cX6_unknown 111 = .ok (.invokevirtual 98, 3) := by decide +kernel
theorem dX6_unknown_114 : decode cX6_unknown 114 = .ok (.istore 4, 2) := by decide +kernel
theorem dX6_unknown_116 : decode cX6_unknown 116 = .ok (.iinc 5 2, 3) := by decide +kernel
theorem dX6_unknown_119 : decode cX6_unknown 119 = .ok (.goto (-37), 3) := by decide +kernel
theorem dX6_unknown_122 : decode cX6_unknown 122 = .ok (.iload 4, 2) := by decide +kernel
theorem dX6_unknown_124 : decode cX6_unknown 124 = .ok (.ifCond .ne 6, 3) := by decide +kernel
theorem dX6_unknown_127 : decode cX6_unknown 127 = .ok (.bipush (-13), 2) := by decide +kernel
theorem dX6_unknown_129 : decode cX6_unknown 129 = .ok (.ireturn, 1) := by decide +kernel
theorem dX6_unknown_130 : decode cX6_unknown 130 = .ok (.aload_n 0, 1) := by decide +kernel
theorem dX6_unknown_131 : decode cX6_unknown 131 = .ok (.getfield 7, 3) := by decide +kernel
theorem dX6_unknown_134 : decode cX6_unknown 134 = .ok (.iload_n 1, 1) := by decide +kernel
theorem dX6_unknown_135 : decode cX6_unknown 135 = .ok (.iaload, 1) := by decide +kernel
theorem dX6_unknown_136 : decode cX6_unknown 136 = .ok (.istore 5, 2) := by decide +kernel
theorem dX6_unknown_138 : decode cX6_unknown 138 = .ok (.iconst 0, 1) := by decide +kernel
theorem dX6_unknown_139 : decode cX6_unknown 139 = .ok (.istore 6, 2) := by decide +kernel
theorem dX6_unknown_141 : decode cX6_unknown 141 = .ok (.bipush (-4), 2) := by decide +kernel
theorem dX6_unknown_143 : decode cX6_unknown 143 = .ok (.istore 7, 2) := by decide +kernel
theorem dX6_unknown_145 : decode cX6_unknown 145 = .ok (.iconst 1, 1) := by decide +kernel
theorem dX6_unknown_146 : decode cX6_unknown 146 = .ok (.istore 8, 2) := by decide +kernel
theorem dX6_unknown_148 : decode cX6_unknown 148 = .ok (.iload 8, 2) := by decide +kernel
theorem dX6_unknown_150 : decode cX6_unknown 150 = .ok (.bipush 100, 2) := by decide +kernel
theorem dX6_unknown_152 : decode cX6_unknown 152 = .ok (.if_icmp .ge 116, 3) := by decide +kernel
theorem dX6_unknown_155 : decode cX6_unknown 155 = .ok (.aload_n 0, 1) := by decide +kernel
theorem dX6_unknown_156 : decode cX6_unknown 156 = .ok (.getfield 7, 3) := by decide +kernel
theorem dX6_unknown_159 : decode cX6_unknown 159 = .ok (.iload_n 1, 1) := by decide +kernel
theorem dX6_unknown_160 : decode cX6_unknown 160 = .ok (.iload 8, 2) := by decide +kernel
theorem dX6_unknown_162 : decode cX6_unknown 162 = .ok (.iastore, 1) := by decide +kernel
theorem dX6_unknown_163 : decode cX6_unknown 163 = .ok (.iconst 1, 1) := by decide +kernel
theorem dX6_unknown_164 : decode cX6_unknown 164 = .ok (.istore 9, 2) := by decide +kernel
theorem dX6_unknown_166 : decode cX6_unknown 166 = .ok (.iconst 0, 1) := by decide +kernel
theorem dX6_unknown_167 : decode cX6_unknown 167 = .ok (.istore 10, 2) := by decide +kernel
theorem dX6_unknown_169 : decode cX6_unknown 169 = .ok (.iload 10, 2) := by decide +kernel
theorem dX6_unknown_171 : decode cX6_unknown 171 = .ok (.aload_n 0, 1) := by decide +kernel
theorem dX6_unknown_172 : decode cX6_unknown 172 = .ok (.getfield 44, 3) := by decide +kernel
theorem dX6_unknown_175 : decode cX6_unknown 175 = .ok (.iload_n 2, 1) := by decide +kernel
theorem dX6_unknown_176 : decode cX6_unknown 176 = .ok (.iaload, 1) := by decide +kernel
theorem dX6_unknown_177 : decode cX6_unknown 177 = .ok (.if_icmp .ge 63, 3) := by decide +kernel
theorem dX6_unknown_180 : decode cX6_unknown 180 = .ok (.aload_n 0, 1) := by decide +kernel
theorem dX6_unknown_181 : decode cX6_unknown 181 = .ok (.aload_n 0, 1) := by decide +kernel
theorem dX6_unknown_182 : decode cX6_unknown 182 = .ok (.getfield 47, 3) := by decide +kernel
theorem dX6_unknown_185 : decode cX6_unknown 185 = .ok (.bipush 100, 2) := by decide +kernel
theorem dX6_unknown_187 : decode cX6_unknown 187 = .ok (.iload_n 2, 1) := by decide +kernel
theorem dX6_unknown_188 : decode cX6_unknown 188 = .ok (.imul, 1) := by decide +kernel
theorem dX6_unknown_189 : decode cX6_unknown 189 = .ok (.iload 10, 2) := by decide +kernel
theorem dX6_unknown_191 : decode cX6_unknown 191 = .ok (.iadd, 1) := by decide +kernel
theorem dX6_unknown_192 : decode cX6_unknown 192 = .ok (.iaload, 1) := by decide +kernel
theorem dX6_unknown_193 : decode cX6_unknown 193 = .ok (.invokevirtual 101, 3) := by decide +kernel
theorem dX6_unknown_196 : decode cX6_unknown 196 = .ok (.iload 9, 2) := by decide +kernel
theorem dX6_unknown_198 : decode cX6_unknown 198 = .ok (.ifCond .eq 33, 3) := by decide +kernel
theorem dX6_unknown_201 : decode cX6_unknown 201 = .ok (.aload_n 0, 1) := by decide +kernel
theorem dX6_unknown_202 : decode cX6_unknown 202 = .ok (.getfield 80, 3) := by decide +kernel
theorem dX6_unknown_205 : decode cX6_unknown 205 = .ok (.aload_n 0, 1) := by decide +kernel
theorem dX6_unknown_206 : decode cX6_unknown 206 = .ok (.getfield 83, 3) := by decide +kernel
theorem dX6_unknown_209 : decode cX6_unknown 209 = .ok (.isub, 1) := by decide +kernel
theorem dX6_unknown_210 : decode cX6_unknown 210 = .ok (.aload_n 0, 1) := by decide +kernel
theorem dX6_unknown_211 : decode cX6_unknown 211 = .ok (.getfield 47, 3) := by decide +kernel
theorem dX6_unknown_214 : decode cX6_unknown 214 = .ok (.bipush 100, 2) := by decide +kernel
theorem dX6_unknown_216 : decode cX6_unknown 216 = .ok (.iload_n 2, 1) := by decide +kernel
theorem dX6_unknown_217 : decode cX6_unknown 217 = .ok (.imul, 1) := by decide +kernel
theorem dX6_unknown_218 : decode cX6_unknown 218 = .ok (.iload 10, 2) := by decide +kernel
theorem dX6_unknown_220 : decode cX6_unknown 220 = .ok (.iadd, 1) := by decide +kernel
theorem dX6_unknown_221 : decode cX6_unknown 221 = .ok (.iconst 1, 1) := by decide +kernel
theorem dX6_unknown_222 : decode cX6_unknown 222 = .ok (.iadd, 1) := by decide +kernel
theorem dX6_unknown_223 : decode cX6_unknown 223 = .ok (.iaload, 1) := by decide +kernel
theorem dX6_unknown_224 : decode cX6_unknown 224 = .ok (.if_icmp .ne 7, 3) := by decide +kernel
theorem dX6_unknown_227 : decode cX6_unknown 227 = .ok (.iconst 1, 1) := by decide +kernel
theorem dX6_unknown_228 : decode cX6_unknown 228 = .ok (.goto 4, 3) := by decide +kernel
theorem dX6_unknown_231 : decode cX6_unknown 231 = .ok (.iconst 0, 1) := by decide +kernel
theorem dX6_unknown_232 : decode cX6_unknown 232 = .ok (.istore 9, 2) := by decide +kernel
theorem dX6_unknown_234 : decode cX6_unknown 234 = .ok (.iinc 10 2, 3) := by decide +kernel
theorem dX6_unknown_237 : decode cX6_unknown 237 = .ok (.goto (-68), 3) := by decide +kernel
theorem dX6_unknown_240 : decode cX6_unknown 240 = .ok (.iload 9, 2) := by decide +kernel
theorem dX6_unknown_242 : decode cX6_unknown 242 = .ok (.ifCond .eq 20, 3) := by decide +kernel
theorem dX6_unknown_245 : decode cX6_unknown 245 = .ok (.iload 6, 2) := by decide +kernel
theorem dX6_unknown_247 : decode cX6_unknown 247 = .ok (.ifCond .ne 8, 3) := by decide +kernel
theorem dX6_unknown_250 : decode cX6_unknown 250 = .ok (.iload 8, 2) := by decide +kernel
theorem dX6_unknown_252 : decode cX6_unknown 252 = .ok (.goto 5, 3) := by decide +kernel
theorem dX6_unknown_255 : decode cX6_unknown 255 = .ok (.iload 7, 2) := by decide +kernel
theorem dX6_unknown_257 : decode cX6_unknown 257 = .ok (.istore 7, 2) := by decide +kernel
theorem dX6_unknown_259 : decode cX6_unknown 259 = .ok (.iinc 6 1, 3) := by decide +kernel
theorem dX6_unknown_262 : decode cX6_unknown 262 = .ok (.iinc 8 1, 3) := by decide +kernel
theorem dX6_unknown_265 : decode cX6_unknown 265 = .ok (.goto (-117), 3) := by decide +kernel
theorem dX6_unknown_268 : decode cX6_unknown 268 = .ok (.aload_n 0, 1) := by decide +kernel
theorem dX6_unknown_269 : decode cX6_unknown 269 = .ok (.getfield 7, 3) := by decide +kernel
theorem dX6_unknown_272 : decode cX6_unknown 272 = .ok (.iload_n 1, 1) := by decide +kernel
theorem dX6_unknown_273 : decode cX6_unknown 273 = .ok (.iload 5, 2) := by decide +kernel
theorem dX6_unknown_275 : decode cX6_unknown 275 = .ok (.iastore, 1) := by decide +kernel
theorem dX6_unknown_276 : decode cX6_unknown 276 = .ok (.iload_n 3, 1) := by decide +kernel
theorem dX6_unknown_277 : decode cX6_unknown 277 = .ok (.ifCond .ne 8, 3) := by decide +kernel
theorem dX6_unknown_280 : decode cX6_unknown 280 = .ok (.iload 6, 2) := by decide +kernel
theorem dX6_unknown_282 : decode cX6_unknown 282 = .ok (.goto 5, 3) := by decide +kernel
theorem dX6_unknown_285 : decode cX6_unknown 285 = .ok (.iload 7, 2) := by decide +kernel
theorem dX6_unknown_287 : decode cX6_unknown 287 = .ok (.ireturn, 1) := by decide +kernel
set_option maxRecDepth 20000 in
theorem ggX6_seeded_X6_isShelf : GoodIn wsX6_seeded wsX6_isShelf := goodIn_r _ [10, 11, 12, 9, 13] (by decide +kernel) (by decide +kernel)
set_option maxRecDepth 20000 in
theorem gX6_seeded_X6_isShelf : GoodIn wsX6_seeded (va_wsS RX6 117 yX6_isShelf wsX6_isShelf) := goodIn_app (goodIn_of _ (by decide +kernel)) ggX6_seeded_X6_isShelf
set_option maxRecDepth 20000 in
theorem ggX6_seeded_X6_isIn : GoodIn wsX6_seeded wsX6_isIn := goodIn_r _ [13] (by decide +kernel) (by decide +kernel)
set_option maxRecDepth 20000 in
theorem gX6_seeded_X6_isIn : GoodIn wsX6_seeded (va_wsS RX6 68 yX6_isIn wsX6_isIn) := goodIn_app (goodIn_of _ (by decide +kernel)) ggX6_seeded_X6_isIn
set_option maxRecDepth 20000 in
theorem ggX6_seeded_X6_noScale : GoodIn wsX6_seeded wsX6_noScale := goodIn_r _ [17, 18, 58, 59, 60, 61, 62, 63, 64, 65, 66, 67, 68, 69, 70, 71, 72, 73, 74, 75, 76, 77, 78, 79, 80, 81, 82, 83, 84, 85, 86, 87, 88, 89] (by decide +kernel) (by decide +kernel)
set_option maxRecDepth 20000 in
theorem gX6_seeded_X6_noScale : GoodIn wsX6_seeded (wsV RX6 121 RX6 yX6_noScale wsX6_noScale) := goodIn_app (goodIn_of _ (by decide +kernel)) ggX6_seeded_X6_noScale
set_option maxRecDepth 20000 in
theorem ggX6_seeded_X6_move : GoodIn wsX6_seeded wsX6_move := goodIn_r _ [21] (by decide +kernel) (by decide +kernel)
set_option maxRecDepth 20000 in
theorem gX6_seeded_X6_move : GoodIn wsX6_seeded (va_wsS RX6 64 yX6_move wsX6_move) := goodIn_app (goodIn_of _ (by decide +kernel)) ggX6_seeded_X6_move
set_option maxRecDepth 20000 in
theorem ggX6_seeded_X6_have : GoodIn wsX6_seeded wsX6_have := goodIn_r _ [25, 26, 1, 27, 28, 29, 30, 31, 32, 33, 9, 34, 35, 36, 37, 38, 39, 40, 41, 2, 42, 43, 44, 45, 46, 47, 48, 49, 50, 51, 52, 53, 11, 12, 13, 58, 59, 60, 61, 62, 63, 64, 65, 66, 67, 68, 69, 70, 71, 72, 73, 74, 75, 76, 77, 78, 79, 80, 81, 82, 83, 84, 85, 86, 87, 88, 89] (by decide +kernel) (by decide +kernel)
set_option maxRecDepth 20000 in
theorem gX6_seeded_X6_have : GoodIn wsX6_seeded (wsV RX6 129 RX6 yX6_have wsX6_have) := goodIn_app (goodIn_of _ (by decide +kernel)) ggX6_seeded_X6_have
set_option maxRecDepth 20000 in
theorem ggX6_seeded_X6_reached : GoodIn wsX6_seeded wsX6_reached := goodIn_r _ [57, 26, 58, 59, 60, 61, 62, 63, 64, 65, 66, 67, 68, 69, 70, 71, 72, 73, 74, 75, 76, 77, 78, 79, 80, 81, 82, 83, 84, 85, 86, 87, 88, 89] (by decide +kernel) (by decide +kernel)
set_option maxRecDepth 20000 in
theorem gX6_seeded_X6_reached : GoodIn wsX6_seeded (wsV RX6 133 RX6 yX6_reached wsX6_reached) := goodIn_app (goodIn_of _ (by decide +kernel)) ggX6_seeded_X6_reached
theorem dX6_seeded_0 : decode cX6_seeded 0 = .ok (.iload_n 1, 1) := by decide +kernel
theorem dX6_seeded_1 : decode cX6_seeded 1 = .ok (.invokestatic 117, 3) := by decide +kernel
theorem dX6_seeded_4 : decode cX6_seeded 4 = .ok (.ifCond .eq 13, 3) := by decide +kernel
theorem dX6_seeded_7 : decode cX6_seeded 7 = .ok (.iload_n 2, 1) := by decide +kernel
theorem dX6_seeded_8 : decode cX6_seeded 8 = .ok (.iconst 1, 1) := by decide +kernel
theorem dX6_seeded_9 : decode cX6_seeded 9 = .ok (.bipush 6, 2) := by decide +kernel
theorem dX6_seeded_11 : decode cX6_seeded 11 = .ok (.invokestatic 68, 3) := by decide +kernel
theorem dX6_seeded_14 : decode cX6_seeded 14 = .ok (.ifCond .ne 5, 3) := by decide +kernel
theorem dX6_seeded_17 : decode cX6_seeded 17 = .ok (.iconst (-1), 1) := by decide +kernel
theorem dX6_seeded_18 : decode cX6_seeded 18 = .ok (.ireturn, 1) := by decide +kernel
theorem dX6_seeded_19 : decode cX6_seeded 19 = .ok (.aload_n 0, 1) := by decide +kernel
theorem dX6_seeded_20 : decode cX6_seeded 20 = .ok (.iload_n 1, 1) := by decide +kernel
theorem dX6_seeded_21 : decode cX6_seeded 21 = .ok (.invokevirtual 121, 3) := by decide +kernel
theorem dX6_seeded_24 : decode cX6_seeded 24 = .ok (.ifCond .eq 9, 3) := by decide +kernel
theorem dX6_seeded_27 : decode cX6_seeded 27 = .ok (.aload_n 0, 1) := by decide +kernel
theorem dX6_seeded_28 : decode cX6_seeded 28 = .ok (.iload_n 1, 1) := by decide +kernel
theorem dX6_seeded_29 : decode cX6_seeded 29 = .ok (.invokevirtual 121, 3) := by decide +kernel
theorem dX6_seeded_32 : decode cX6_seeded 32 = .ok (.ireturn, 1) := by decide +kernel
theorem dX6_seeded_33 : decode cX6_seeded 33 = .ok (.aload_n 0, 1) := by decide +kernel
theorem dX6_seeded_34 : decode cX6_seeded 34 = .ok (.getfield 57, 3) := by decide +kernel
theorem dX6_seeded_37 : decode cX6_seeded 37 = .ok (.istore 4, 2) := by decide +kernel
theorem dX6_seeded_39 : decode cX6_seeded 39 = .ok (.aload_n 0, 1) := by decide +kernel
theorem dX6_seeded_40 : decode cX6_seeded 40 = .ok (.getfield 7, 3) := by decide +kernel
theorem dX6_seeded_43 : decode cX6_seeded 43 = .ok (.aload_n 0, 1) := by decide +kernel
theorem dX6_seeded_44 : decode cX6_seeded 44 = .ok (.getfield 29, 3) := by decide +kernel
theorem dX6_seeded_47 : decode cX6_seeded 47 = .ok (.invokestatic 64, 3) := by decide +kernel
theorem dX6_seeded_50 : decode cX6_seeded 50 = .ok (.iload_n 3, 1) := by decide +kernel
theorem dX6_seeded_51 : decode cX6_seeded 51 = .ok (.istore 5, 2) := by decide +kernel
theorem dX6_seeded_53 : decode cX6_seeded 53 = .ok (.aload_n 0, 1) := by decide +kernel
theorem dX6_seeded_54 : decode cX6_seeded 54 = .ok (.iload_n 2, 1) := by decide +kernel
theorem dX6_seeded_55 : decode cX6_seeded 55 = .ok (.putfield 57, 3) := by decide +kernel
theorem dX6_seeded_58 : decode cX6_seeded 58 = .ok (.iconst 0, 1) := by decide +kernel
theorem dX6_seeded_59 : decode cX6_seeded 59 = .ok (.istore 6, 2) := by decide +kernel
theorem dX6_seeded_61 : decode cX6_seeded 61 = .ok (.iload 6, 2) := by decide +kernel
theorem dX6_seeded_63 : decode cX6_seeded 63 = .ok (.iload_n 2, 1) := by decide +kernel
theorem dX6_seeded_64 : decode cX6_seeded 64 = .ok (.if_icmp .ge 40, 3) := by decide +kernel
theorem dX6_seeded_67 : decode cX6_seeded 67 = .ok (.iload 5, 2) := by decide +kernel
theorem dX6_seeded_69 : decode cX6_seeded 69 = .ok (.ldc 174, 2) := by decide +kernel
theorem dX6_seeded_71 : decode cX6_seeded 71 = .ok (.imul, 1) := by decide +kernel
theorem dX6_seeded_72 : decode cX6_seeded 72 = .ok (.sipush 12345, 3) := by decide +kernel
theorem dX6_seeded_75 : decode cX6_seeded 75 = .ok (.iadd, 1) := by decide +kernel
theorem dX6_seeded_76 : decode cX6_seeded 76 = .ok (.istore 5, 2) := by decide +kernel
theorem dX6_seeded_78 : decode cX6_seeded 78 = .ok (.aload_n 0, 1) := by decide +kernel
theorem dX6_seeded_79 : decode cX6_seeded 79 = .ok (.getfield 7, 3) := by decide +kernel
theorem dX6_seeded_82 : decode cX6_seeded 82 = .ok (.iload 6, 2) := by decide +kernel
theorem dX6_seeded_84 : decode cX6_seeded 84 = .ok (.iconst 1, 1) := by decide +kernel
theorem dX6_seeded_85 : decode cX6_seeded 85 = .ok (.iload 5, 2) := by decide +kernel
theorem dX6_seeded_87 : decode cX6_seeded 87 = .ok (.ldc 175, 2) := by decide +kernel
theorem dX6_seeded_89 : decode cX6_seeded 89 = .ok (.iand, 1) := by decide +kernel
theorem dX6_seeded_90 : decode cX6_seeded 90 = .ok (.ldc 176, 2) := by decide +kernel
theorem dX6_seeded_92 : decode cX6_seeded 92 = .ok (.idiv, 1) := by decide +kernel
theorem dX6_seeded_93 : decode cX6_seeded 93 = .ok (.bipush 40, 2) := by decide +kernel
theorem dX6_seeded_95 : decode cX6_seeded 95 = .ok (.irem, 1) := by decide +kernel
theorem dX6_seeded_96 : decode cX6_seeded 96 = .ok (.iadd, 1) := by decide +kernel
theorem dX6_seeded_97 : decode cX6_seeded 97 = .ok (.iastore, 1) := by decide +kernel
theorem dX6_seeded_98 : decode cX6_seeded 98 = .ok (.iinc 6 1, 3) := by decide +kernel
theorem dX6_seeded_101 : decode cX6_seeded 101 = .ok (.goto (-40), 3) := by decide +kernel
theorem dX6_seeded_104 : decode cX6_seeded 104 = .ok (.aload_n 0, 1) := by decide +kernel
theorem dX6_seeded_105 : decode cX6_seeded 105 = .ok (.iload_n 1, 1) := by decide +kernel
theorem dX6_seeded_106 : decode cX6_seeded 106 = .ok (.bipush 63, 2) := by decide +kernel
theorem dX6_seeded_108 : decode cX6_seeded 108 = .ok (.invokevirtual 129, 3) := by decide +kernel
theorem dX6_seeded_111 : decode cX6_seeded 111 = .ok (.aload_n 0, 1) := by decide +kernel
theorem dX6_seeded_112 : decode cX6_seeded 112 = .ok (.iload 4, 2) := by decide +kernel
theorem dX6_seeded_114 : decode cX6_seeded 114 = .ok (.putfield 57, 3) := by decide +kernel
theorem dX6_seeded_117 : decode cX6_seeded 117 = .ok (.aload_n 0, 1) := by decide +kernel
theorem dX6_seeded_118 : decode cX6_seeded 118 = .ok (.getfield 29, 3) := by decide +kernel
theorem dX6_seeded_121 : decode cX6_seeded 121 = .ok (.aload_n 0, 1) := by decide +kernel
theorem dX6_seeded_122 : decode cX6_seeded 122 = .ok (.getfield 7, 3) := by decide +kernel
theorem dX6_seeded_125 : decode cX6_seeded 125 = .ok (.invokestatic 64, 3) := by decide +kernel
theorem dX6_seeded_128 : decode cX6_seeded 128 = .ok (.aload_n 0, 1) := by decide +kernel
theorem dX6_seeded_129 : decode cX6_seeded 129 = .ok (.invokevirtual 133, 3) := by decide +kernel
theorem dX6_seeded_132 : decode cX6_seeded 132 = .ok (.ireturn, 1) := by decide +kernel
set_option maxRecDepth 20000 in
theorem ggX6_judge_X6_isShelf : GoodIn wsX6_judge wsX6_isShelf := goodIn_r _ [7, 8, 9, 6, 10] (by decide +kernel) (by decide +kernel)
set_option maxRecDepth 20000 in
theorem gX6_judge_X6_isShelf : GoodIn wsX6_judge (va_wsS RX6 117 yX6_isShelf wsX6_isShelf) := goodIn_app (goodIn_of _ (by decide +kernel)) ggX6_judge_X6_isShelf
set_option maxRecDepth 20000 in
theorem ggX6_judge_X6_noScale : GoodIn wsX6_judge wsX6_noScale := goodIn_r _ [14, 1, 52, 53, 54, 55, 56, 57, 58, 59, 60, 61, 62, 63, 64, 65, 66, 67, 68, 69, 70, 71, 72, 73, 74, 75, 76, 77, 78, 79, 80, 81, 82, 83] (by decide +kernel) (by decide +kernel)
set_option maxRecDepth 20000 in
theorem gX6_judge_X6_noScale : GoodIn wsX6_judge (wsV RX6 121 RX6 yX6_noScale wsX6_noScale) := goodIn_app (goodIn_of _ (by decide +kernel)) ggX6_judge_X6_noScale
set_option maxRecDepth 20000 in
theorem ggX6_judge_X6_isLying : GoodIn wsX6_judge wsX6_isLying := goodIn_r _ [18, 19, 20, 21, 6, 22, 8, 9, 10, 52, 53, 54, 55, 56, 57, 58, 59, 60, 61, 62, 63, 64, 65, 66, 67, 68, 69, 70, 71, 72, 73, 74, 75, 76, 77, 78, 79, 80, 81, 82, 83] (by decide +kernel) (by decide +kernel)
set_option maxRecDepth 20000 in
theorem gX6_judge_X6_isLying : GoodIn wsX6_judge (wsV RX6 98 RX6 yX6_isLying wsX6_isLying) := goodIn_app (goodIn_of _ (by decide +kernel)) ggX6_judge_X6_isLying
set_option maxRecDepth 20000 in
theorem ggX6_judge_X6_isWeight : GoodIn wsX6_judge wsX6_isWeight := goodIn_r _ [26, 27, 28, 29, 30, 31, 32, 33, 6, 34, 35, 36, 37, 38, 19, 39, 40, 41, 42, 43, 44, 45, 46, 47, 48, 49, 50, 51, 52, 53, 54, 55, 56, 57, 58, 59, 60, 61, 62, 63, 64, 65, 66, 67, 68, 69, 70, 71, 72, 73, 74, 75, 76, 77, 78, 79, 80, 81, 82, 83] (by decide +kernel) (by decide +kernel)
set_option maxRecDepth 20000 in
theorem gX6_judge_X6_isWeight : GoodIn wsX6_judge (wsV RX6 126 RX6 yX6_isWeight wsX6_isWeight) := goodIn_app (goodIn_of _ (by decide +kernel)) ggX6_judge_X6_isWeight
theorem dX6_judge_0 : decode cX6_judge 0 = .ok (.iload_n 1, 1) := by decide +kernel
theorem dX6_judge_1 : decode cX6_judge 1 = .ok (.invokestatic 117, 3) := by decide +kernel
theorem dX6_judge_4 : decode cX6_judge 4 = .ok (.ifCond .eq 10, 3) := by decide +kernel
theorem dX6_judge_7 : decode cX6_judge 7 = .ok (.iload_n 2, 1) := by decide +kernel
theorem dX6_judge_8 : decode cX6_judge 8 = .ok (.invokestatic 117, 3) := by decide +kernel
theorem dX6_judge_11 : decode cX6_judge 11 = .ok (.ifCond .ne 5, 3) := by decide +kernel
theorem dX6_judge_14 : decode cX6_judge 14 = .ok (.iconst (-1), 1) := by decide +kernel
theorem dX6_judge_15 : decode cX6_judge 15 = .ok (.ireturn, 1) := by decide +kernel
theorem dX6_judge_16 : decode cX6_judge 16 = .ok (.aload_n 0, 1) := by decide +kernel
theorem dX6_judge_17 : decode cX6_judge 17 = .ok (.iload_n 1, 1) := by decide +kernel
theorem dX6_judge_18 : decode cX6_judge 18 = .ok (.invokevirtual 121, 3) := by decide +kernel
theorem dX6_judge_21 : decode cX6_judge 21 = .ok (.ifCond .eq 9, 3) := by decide +kernel
theorem dX6_judge_24 : decode cX6_judge 24 = .ok (.aload_n 0, 1) := by decide +kernel
theorem dX6_judge_25 : decode cX6_judge 25 = .ok (.iload_n 1, 1) := by decide +kernel
theorem dX6_judge_26 : decode cX6_judge 26 = .ok (.invokevirtual 121, 3) := by decide +kernel
theorem dX6_judge_29 : decode cX6_judge 29 = .ok (.ireturn, 1) := by decide +kernel
theorem dX6_judge_30 : decode cX6_judge 30 = .ok (.aload_n 0, 1) := by decide +kernel
theorem dX6_judge_31 : decode cX6_judge 31 = .ok (.getfield 32, 3) := by decide +kernel
theorem dX6_judge_34 : decode cX6_judge 34 = .ok (.iload_n 2, 1) := by decide +kernel
theorem dX6_judge_35 : decode cX6_judge 35 = .ok (.iaload, 1) := by decide +kernel
theorem dX6_judge_36 : decode cX6_judge 36 = .ok (.iconst 2, 1) := by decide +kernel
theorem dX6_judge_37 : decode cX6_judge 37 = .ok (.if_icmp .eq 20, 3) := by decide +kernel
theorem dX6_judge_40 : decode cX6_judge 40 = .ok (.aload_n 0, 1) := by decide +kernel
theorem dX6_judge_41 : decode cX6_judge 41 = .ok (.getfield 32, 3) := by decide +kernel
theorem dX6_judge_44 : decode cX6_judge 44 = .ok (.iload_n 2, 1) := by decide +kernel
theorem dX6_judge_45 : decode cX6_judge 45 = .ok (.iaload, 1) := by decide +kernel
theorem dX6_judge_46 : decode cX6_judge 46 = .ok (.ifCond .ne 8, 3) := by decide +kernel
theorem dX6_judge_49 : decode cX6_judge 49 = .ok (.bipush (-11), 2) := by decide +kernel
theorem dX6_judge_51 : decode cX6_judge 51 = .ok (.goto 5, 3) := by decide +kernel
theorem dX6_judge_54 : decode cX6_judge 54 = .ok (.bipush (-12), 2) := by decide +kernel
theorem dX6_judge_56 : decode cX6_judge 56 = .ok (.ireturn, 1) := by decide +kernel
theorem dX6_judge_57 : decode cX6_judge 57 = .ok (.iconst 0, 1) := by decide +kernel
theorem dX6_judge_58 : decode cX6_judge 58 = .ok (.istore_n 3, 1) := by decide +kernel
theorem dX6_judge_59 : decode cX6_judge 59 = .ok (.iload_n 3, 1) := by decide +kernel
theorem dX6_judge_60 : decode cX6_judge 60 = .ok (.iconst 1, 1) := by decide +kernel
theorem dX6_judge_61 : decode cX6_judge 61 = .ok (.iadd, 1) := by decide +kernel
theorem dX6_judge_62 : decode cX6_judge 62 = .ok (.aload_n 0, 1) := by decide +kernel
theorem dX6_judge_63 : decode cX6_judge 63 = .ok (.getfield 44, 3) := by decide +kernel
theorem dX6_judge_66 : decode cX6_judge 66 = .ok (.iload_n 2, 1) := by decide +kernel
theorem dX6_judge_67 : decode cX6_judge 67 = .ok (.iaload, 1) := by decide +kernel
theorem dX6_judge_68 : decode cX6_judge 68 = .ok (.if_icmp .ge 56, 3) := by decide +kernel
theorem dX6_judge_71 : decode cX6_judge 71 = .ok (.aload_n 0, 1) := by decide +kernel
theorem dX6_judge_72 : decode cX6_judge 72 = .ok (.getfield 47, 3) := by decide +kernel
theorem dX6_judge_75 : decode cX6_judge 75 = .ok (.bipush 100, 2) := by decide +kernel
theorem dX6_judge_77 : decode cX6_judge 77 = .ok (.iload_n 2, 1) := by decide +kernel
theorem dX6_judge_78 : decode cX6_judge 78 = .ok (.imul, 1) := by decide +kernel
theorem dX6_judge_79 : decode cX6_judge 79 = .ok (.iload_n 3, 1) := by decide +kernel
theorem dX6_judge_80 : decode cX6_judge 80 = .ok (.iadd, 1) := by decide +kernel
theorem dX6_judge_81 : decode cX6_judge 81 = .ok (.iaload, 1) := by decide +kernel
theorem dX6_judge_82 : decode cX6_judge 82 = .ok (.istore 4, 2) := by decide +kernel
theorem dX6_judge_84 : decode cX6_judge 84 = .ok (.aload_n 0, 1) := by decide +kernel
theorem dX6_judge_85 : decode cX6_judge 85 = .ok (.iload 4, 2) := by decide +kernel
theorem dX6_judge_87 : decode cX6_judge 87 = .ok (.invokevirtual 98, 3) := by decide +kernel
theorem dX6_judge_90 : decode cX6_judge 90 = .ok (.ifCond .eq 26, 3) := by decide +kernel
theorem dX6_judge_93 : decode cX6_judge 93 = .ok (.aload_n 0, 1) := by decide +kernel
theorem dX6_judge_94 : decode cX6_judge 94 = .ok (.iload_n 1, 1) := by decide +kernel
theorem dX6_judge_95 : decode cX6_judge 95 = .ok (.iload 4, 2) := by decide +kernel
theorem dX6_judge_97 : decode cX6_judge 97 = .ok (.aload_n 0, 1) := by decide +kernel
theorem dX6_judge_98 : decode cX6_judge 98 = .ok (.getfield 47, 3) := by decide +kernel
theorem dX6_judge_101 : decode cX6_judge 101 = .ok (.bipush 100, 2) := by decide +kernel
theorem dX6_judge_103 : decode cX6_judge 103 = .ok (.iload_n 2, 1) := by decide +kernel
theorem dX6_judge_104 : decode cX6_judge 104 = .ok (.imul, 1) := by decide +kernel
theorem dX6_judge_105 : decode cX6_judge 105 = .ok (.iload_n 3, 1) := by decide +kernel
theorem dX6_judge_106 : decode cX6_judge 106 = .ok (.iadd, 1) := by decide +kernel
theorem dX6_judge_107 : decode cX6_judge 107 = .ok (.iconst 1, 1) := by decide +kernel
theorem dX6_judge_108 : decode cX6_judge 108 = .ok (.iadd, 1) := by decide +kernel
theorem dX6_judge_109 : decode cX6_judge 109 = .ok (.iaload, 1) := by decide +kernel
theorem dX6_judge_110 : decode cX6_judge 110 = .ok (.invokevirtual 126, 3) := by decide +kernel
theorem dX6_judge_113 : decode cX6_judge 113 = .ok (.ifCond .ne 5, 3) := by decide +kernel
theorem dX6_judge_116 : decode cX6_judge 116 = .ok (.iload_n 3, 1) := by decide +kernel
theorem dX6_judge_117 : decode cX6_judge 117 = .ok (.ireturn, 1) := by decide +kernel
theorem dX6_judge_118 : decode cX6_judge 118 = .ok (.iinc 3 2, 3) := by decide +kernel
theorem dX6_judge_121 : decode cX6_judge 121 = .ok (.goto (-62), 3) := by decide +kernel
theorem dX6_judge_124 : decode cX6_judge 124 = .ok (.aload_n 0, 1) := by decide +kernel
theorem dX6_judge_125 : decode cX6_judge 125 = .ok (.getfield 44, 3) := by decide +kernel
theorem dX6_judge_128 : decode cX6_judge 128 = .ok (.iload_n 2, 1) := by decide +kernel
theorem dX6_judge_129 : decode cX6_judge 129 = .ok (.iaload, 1) := by decide +kernel
theorem dX6_judge_130 : decode cX6_judge 130 = .ok (.iconst 2, 1) := by decide +kernel
theorem dX6_judge_131 : decode cX6_judge 131 = .ok (.irem, 1) := by decide +kernel
theorem dX6_judge_132 : decode cX6_judge 132 = .ok (.iconst 1, 1) := by decide +kernel
theorem dX6_judge_133 : decode cX6_judge 133 = .ok (.if_icmp .ne 12, 3) := by decide +kernel
theorem dX6_judge_136 : decode cX6_judge 136 = .ok (.aload_n 0, 1) := by decide +kernel
theorem dX6_judge_137 : decode cX6_judge 137 = .ok (.getfield 44, 3) := by decide +kernel
theorem dX6_judge_140 : decode cX6_judge 140 = .ok (.iload_n 2, 1) := by decide +kernel
theorem dX6_judge_141 : decode cX6_judge 141 = .ok (.iaload, 1) := by decide +kernel
theorem dX6_judge_142 : decode cX6_judge 142 = .ok (.goto 5, 3) := by decide +kernel
theorem dX6_judge_145 : decode cX6_judge 145 = .ok (.bipush (-4), 2) := by decide +kernel
theorem dX6_judge_147 : decode cX6_judge 147 = .ok (.ireturn, 1) := by decide +kernel
set_option maxRecDepth 20000 in
theorem ggX6_count_X6_priceOf : GoodIn wsX6_count wsX6_priceOf := goodIn_r _ [7, 1, 8, 12, 13, 14, 15, 16, 17, 18, 19, 20, 21, 22, 23, 24, 25, 26, 27, 28, 29, 30, 31, 32, 33, 34, 35, 36, 37, 38, 39, 40, 41, 42, 43] (by decide +kernel) (by decide +kernel)
set_option maxRecDepth 20000 in
theorem gX6_count_X6_priceOf : GoodIn wsX6_count (wsV RX6 140 RX6 yX6_priceOf wsX6_priceOf) := goodIn_app (goodIn_of _ (by decide +kernel)) ggX6_count_X6_priceOf
set_option maxRecDepth 20000 in
theorem ggX6_count_X6_power : GoodIn wsX6_count wsX6_power := goodIn_r _ [11] (by decide +kernel) (by decide +kernel)
set_option maxRecDepth 20000 in
theorem gX6_count_X6_power : GoodIn wsX6_count (va_wsS RX6 76 yX6_power wsX6_power) := goodIn_app (goodIn_of _ (by decide +kernel)) ggX6_count_X6_power
theorem dX6_count_0 : decode cX6_count 0 = .ok (.iconst 0, 1) := by decide +kernel
theorem dX6_count_1 : decode cX6_count 1 = .ok (.istore_n 2, 1) := by decide +kernel
theorem dX6_count_2 : decode cX6_count 2 = .ok (.iload_n 1, 1) := by decide +kernel
theorem dX6_count_3 : decode cX6_count 3 = .ok (.tableswitch 76 0 3 #[29, 34, 61, 68], 29) := by decide +kernel
theorem dX6_count_32 : decode cX6_count 32 = .ok (.aload_n 0, 1) := by decide +kernel
theorem dX6_count_33 : decode cX6_count 33 = .ok (.getfield 57, 3) := by decide +kernel
theorem dX6_count_36 : decode cX6_count 36 = .ok (.ireturn, 1) := by decide +kernel
theorem dX6_count_37 : decode cX6_count 37 = .ok (.iconst 0, 1) := by decide +kernel
theorem dX6_count_38 : decode cX6_count 38 = .ok (.istore_n 3, 1) := by decide +kernel
theorem dX6_count_39 : decode cX6_count 39 = .ok (.iload_n 3, 1) := by decide +kernel
theorem dX6_count_40 : decode cX6_count 40 = .ok (.aload_n 0, 1) := by decide +kernel
theorem dX6_count_41 : decode cX6_count 41 = .ok (.getfield 57, 3) := by decide +kernel
theorem dX6_count_44 : decode cX6_count 44 = .ok (.if_icmp .ge 18, 3) := by decide +kernel
theorem dX6_count_47 : decode cX6_count 47 = .ok (.iload_n 2, 1) := by decide +kernel
theorem dX6_count_48 : decode cX6_count 48 = .ok (.aload_n 0, 1) := by decide +kernel
theorem dX6_count_49 : decode cX6_count 49 = .ok (.getfield 7, 3) := by decide +kernel
theorem dX6_count_52 : decode cX6_count 52 = .ok (.iload_n 3, 1) := by decide +kernel
theorem dX6_count_53 : decode cX6_count 53 = .ok (.iaload, 1) := by decide +kernel
theorem dX6_count_54 : decode cX6_count 54 = .ok (.iadd, 1) := by decide +kernel
theorem dX6_count_55 : decode cX6_count 55 = .ok (.istore_n 2, 1) := by decide +kernel
theorem dX6_count_56 : decode cX6_count 56 = .ok (.iinc 3 1, 3) := by decide +kernel
theorem dX6_count_59 : decode cX6_count 59 = .ok (.goto (-20), 3) := by decide +kernel
theorem dX6_count_62 : decode cX6_count 62 = .ok (.iload_n 2, 1) := by decide +kernel
theorem dX6_count_63 : decode cX6_count 63 = .ok (.ireturn, 1) := by decide +kernel
theorem dX6_count_64 : decode cX6_count 64 = .ok (.aload_n 0, 1) := by decide +kernel
theorem dX6_count_65 : decode cX6_count 65 = .ok (.bipush 63, 2) := by decide +kernel
theorem dX6_count_67 : decode cX6_count 67 = .ok (.invokevirtual 140, 3) := by decide +kernel
theorem dX6_count_70 : decode cX6_count 70 = .ok (.ireturn, 1) := by decide +kernel
theorem dX6_count_71 : decode cX6_count 71 = .ok (.aload_n 0, 1) := by decide +kernel
theorem dX6_count_72 : decode cX6_count 72 = .ok (.getfield 57, 3) := by decide +kernel
theorem dX6_count_75 : decode cX6_count 75 = .ok (.invokestatic 76, 3) := by decide +kernel
theorem dX6_count_78 : decode cX6_count 78 = .ok (.ireturn, 1) := by decide +kernel
theorem dX6_count_79 : decode cX6_count 79 = .ok (.iconst (-1), 1) := by decide +kernel
theorem dX6_count_80 : decode cX6_count 80 = .ok (.ireturn, 1) := by decide +kernel
theorem dX6_comes_0 : decode cX6_comes 0 = .ok (.aload_n 0, 1) := by decide +kernel
theorem dX6_comes_1 : decode cX6_comes 1 = .ok (.getfield 177, 3) := by decide +kernel
theorem dX6_comes_4 : decode cX6_comes 4 = .ok (.aload_n 0, 1) := by decide +kernel
theorem dX6_comes_5 : decode cX6_comes 5 = .ok (.getfield 180, 3) := by decide +kernel
theorem dX6_comes_8 : decode cX6_comes 8 = .ok (.if_icmp .ge 25, 3) := by decide +kernel
theorem dX6_comes_11 : decode cX6_comes 11 = .ok (.aload_n 0, 1) := by decide +kernel
theorem dX6_comes_12 : decode cX6_comes 12 = .ok (.getfield 47, 3) := by decide +kernel
theorem dX6_comes_15 : decode cX6_comes 15 = .ok (.aload_n 0, 1) := by decide +kernel
theorem dX6_comes_16 : decode cX6_comes 16 = .ok (.getfield 183, 3) := by decide +kernel
theorem dX6_comes_19 : decode cX6_comes 19 = .ok (.aload_n 0, 1) := by decide +kernel
theorem dX6_comes_20 : decode cX6_comes 20 = .ok (.getfield 177, 3) := by decide +kernel
theorem dX6_comes_23 : decode cX6_comes 23 = .ok (.iadd, 1) := by decide +kernel
theorem dX6_comes_24 : decode cX6_comes 24 = .ok (.iaload, 1) := by decide +kernel
theorem dX6_comes_25 : decode cX6_comes 25 = .ok (.iload_n 1, 1) := by decide +kernel
theorem dX6_comes_26 : decode cX6_comes 26 = .ok (.if_icmp .ne 7, 3) := by decide +kernel
theorem dX6_comes_29 : decode cX6_comes 29 = .ok (.iconst 1, 1) := by decide +kernel
theorem dX6_comes_30 : decode cX6_comes 30 = .ok (.goto 4, 3) := by decide +kernel
theorem dX6_comes_33 : decode cX6_comes 33 = .ok (.iconst 0, 1) := by decide +kernel
theorem dX6_comes_34 : decode cX6_comes 34 = .ok (.ireturn, 1) := by decide +kernel
set_option maxRecDepth 20000 in
theorem ggX6_expect_X6_comes : GoodIn wsX6_expect wsX6_comes := goodIn_r _ [7, 2, 8, 9, 10, 11, 12, 13, 14, 15, 16, 17, 18, 19, 20, 21, 22, 23, 24, 25, 26, 27, 28, 29, 30, 31, 32, 33, 34, 35, 36, 37, 38, 39, 40, 41, 42] (by decide +kernel) (by decide +kernel)
set_option maxRecDepth 20000 in
theorem gX6_expect_X6_comes : GoodIn wsX6_expect (wsV RX6 189 RX6 yX6_comes wsX6_comes) := goodIn_app (goodIn_of _ (by decide +kernel)) ggX6_expect_X6_comes
theorem dX6_expect_0 : decode cX6_expect 0 = .ok (.aload_n 0, 1) := by decide +kernel
theorem dX6_expect_1 : decode cX6_expect 1 = .ok (.getfield 186, 3) := by decide +kernel
theorem dX6_expect_4 : decode cX6_expect 4 = .ok (.ifCond .eq 24, 3) := by decide +kernel
theorem dX6_expect_7 : decode cX6_expect 7 = .ok (.aload_n 0, 1) := by decide +kernel
theorem dX6_expect_8 : decode cX6_expect 8 = .ok (.iload_n 1, 1) := by decide +kernel
theorem dX6_expect_9 : decode cX6_expect 9 = .ok (.invokevirtual 189, 3) := by decide +kernel
theorem dX6_expect_12 : decode cX6_expect 12 = .ok (.ifCond .eq 16, 3) := by decide +kernel
theorem dX6_expect_15 : decode cX6_expect 15 = .ok (.aload_n 0, 1) := by decide +kernel
theorem dX6_expect_16 : decode cX6_expect 16 = .ok (.dup, 1) := by decide +kernel
theorem dX6_expect_17 : decode cX6_expect 17 = .ok (.getfield 177, 3) := by decide +kernel
theorem dX6_expect_20 : decode cX6_expect 20 = .ok (.iconst 1, 1) := by decide +kernel
theorem dX6_expect_21 : decode cX6_expect 21 = .ok (.iadd, 1) := by decide +kernel
theorem dX6_expect_22 : decode cX6_expect 22 = .ok (.putfield 177, 3) := by decide +kernel
theorem dX6_expect_25 : decode cX6_expect 25 = .ok (.goto 8, 3) := by decide +kernel
theorem dX6_expect_28 : decode cX6_expect 28 = .ok (.aload_n 0, 1) := by decide +kernel
theorem dX6_expect_29 : decode cX6_expect 29 = .ok (.iconst 0, 1) := by decide +kernel
theorem dX6_expect_30 : decode cX6_expect 30 = .ok (.putfield 186, 3) := by decide +kernel
theorem dX6_expect_33 : decode cX6_expect 33 = .ok (.return_, 1) := by decide +kernel
theorem dX6_isDigit_0 : decode cX6_isDigit 0 = .ok (.aload_n 0, 1) := by decide +kernel
theorem dX6_isDigit_1 : decode cX6_isDigit 1 = .ok (.getfield 177, 3) := by decide +kernel
theorem dX6_isDigit_4 : decode cX6_isDigit 4 = .ok (.aload_n 0, 1) := by decide +kernel
theorem dX6_isDigit_5 : decode cX6_isDigit 5 = .ok (.getfield 180, 3) := by decide +kernel
theorem dX6_isDigit_8 : decode cX6_isDigit 8 = .ok (.if_icmp .ge 45, 3) := by decide +kernel
theorem dX6_isDigit_11 : decode cX6_isDigit 11 = .ok (.aload_n 0, 1) := by decide +kernel
theorem dX6_isDigit_12 : decode cX6_isDigit 12 = .ok (.getfield 47, 3) := by decide +kernel
theorem dX6_isDigit_15 : decode cX6_isDigit 15 = .ok (.aload_n 0, 1) := by decide +kernel
theorem dX6_isDigit_16 : decode cX6_isDigit 16 = .ok (.getfield 183, 3) := by decide +kernel
theorem dX6_isDigit_19 : decode cX6_isDigit 19 = .ok (.aload_n 0, 1) := by decide +kernel
theorem dX6_isDigit_20 : decode cX6_isDigit 20 = .ok (.getfield 177, 3) := by decide +kernel
theorem dX6_isDigit_23 : decode cX6_isDigit 23 = .ok (.iadd, 1) := by decide +kernel
theorem dX6_isDigit_24 : decode cX6_isDigit 24 = .ok (.iaload, 1) := by decide +kernel
theorem dX6_isDigit_25 : decode cX6_isDigit 25 = .ok (.bipush 48, 2) := by decide +kernel
theorem dX6_isDigit_27 : decode cX6_isDigit 27 = .ok (.if_icmp .lt 26, 3) := by decide +kernel
theorem dX6_isDigit_30 : decode cX6_isDigit 30 = .ok (.aload_n 0, 1) := by decide +kernel
theorem dX6_isDigit_31 : decode cX6_isDigit 31 = .ok (.getfield 47, 3) := by decide +kernel
theorem dX6_isDigit_34 : decode cX6_isDigit 34 = .ok (.aload_n 0, 1) := by decide +kernel
theorem dX6_isDigit_35 : decode cX6_isDigit 35 = .ok (.getfield 183, 3) := by decide +kernel
theorem dX6_isDigit_38 : decode cX6_isDigit 38 = .ok (.aload_n 0, 1) := by decide +kernel
theorem dX6_isDigit_39 : decode cX6_isDigit 39 = .ok (.getfield 177, 3) := by decide +kernel
theorem dX6_isDigit_42 : decode cX6_isDigit 42 = .ok (.iadd, 1) := by decide +kernel
theorem dX6_isDigit_43 : decode cX6_isDigit 43 = .ok (.iaload, 1) := by decide +kernel
theorem dX6_isDigit_44 : decode cX6_isDigit 44 = .ok (.bipush 57, 2) := by decide +kernel
theorem dX6_isDigit_46 : decode cX6_isDigit 46 = .ok (.if_icmp .gt 7, 3) := by decide +kernel
theorem dX6_isDigit_49 : decode cX6_isDigit 49 = .ok (.iconst 1, 1) := by decide +kernel
theorem dX6_isDigit_50 : decode cX6_isDigit 50 = .ok (.goto 4, 3) := by decide +kernel
theorem dX6_isDigit_53 : decode cX6_isDigit 53 = .ok (.iconst 0, 1) := by decide +kernel
theorem dX6_isDigit_54 : decode cX6_isDigit 54 = .ok (.ireturn, 1) := by decide +kernel
set_option maxRecDepth 20000 in
theorem ggX6_figures_X6_isDigit : GoodIn wsX6_figures wsX6_isDigit := goodIn_r _ [9, 4, 10, 2, 3, 11, 12, 13, 14, 15, 16, 17, 18, 19, 20, 21, 22, 23, 24, 25, 26, 27, 28, 29, 30, 31, 32, 33, 34, 35, 36, 37, 38, 39, 40, 41, 42] (by decide +kernel) (by decide +kernel)
set_option maxRecDepth 20000 in
theorem gX6_figures_X6_isDigit : GoodIn wsX6_figures (wsV RX6 192 RX6 yX6_isDigit wsX6_isDigit) := goodIn_app (goodIn_of _ (by decide +kernel)) ggX6_figures_X6_isDigit
theorem dX6_figures_0 : decode cX6_figures 0 = .ok (.aload_n 0, 1) := by decide +kernel
theorem dX6_figures_1 : decode cX6_figures 1 = .ok (.getfield 186, 3) := by decide +kernel
theorem dX6_figures_4 : decode cX6_figures 4 = .ok (.ifCond .eq 10, 3) := by decide +kernel
theorem dX6_figures_7 : decode cX6_figures 7 = .ok (.aload_n 0, 1) := by decide +kernel
theorem dX6_figures_8 : decode cX6_figures 8 = .ok (.invokevirtual 192, 3) := by decide +kernel
theorem dX6_figures_11 : decode cX6_figures 11 = .ok (.ifCond .ne 10, 3) := by decide +kernel
theorem dX6_figures_14 : decode cX6_figures 14 = .ok (.aload_n 0, 1) := by decide +kernel
theorem dX6_figures_15 : decode cX6_figures 15 = .ok (.iconst 0, 1) := by decide +kernel
theorem dX6_figures_16 : decode cX6_figures 16 = .ok (.putfield 186, 3) := by decide +kernel
theorem dX6_figures_19 : decode cX6_figures 19 = .ok (.iconst 0, 1) := by decide +kernel
theorem dX6_figures_20 : decode cX6_figures 20 = .ok (.ireturn, 1) := by decide +kernel
theorem dX6_figures_21 : decode cX6_figures 21 = .ok (.aload_n 0, 1) := by decide +kernel
theorem dX6_figures_22 : decode cX6_figures 22 = .ok (.getfield 47, 3) := by decide +kernel
theorem dX6_figures_25 : decode cX6_figures 25 = .ok (.aload_n 0, 1) := by decide +kernel
theorem dX6_figures_26 : decode cX6_figures 26 = .ok (.getfield 183, 3) := by decide +kernel
theorem dX6_figures_29 : decode cX6_figures 29 = .ok (.aload_n 0, 1) := by decide +kernel
theorem dX6_figures_30 : decode cX6_figures 30 = .ok (.getfield 177, 3) := by decide +kernel
theorem dX6_figures_33 : decode cX6_figures 33 = .ok (.iadd, 1) := by decide +kernel
theorem dX6_figures_34 : decode cX6_figures 34 = .ok (.iaload, 1) := by decide +kernel
theorem dX6_figures_35 : decode cX6_figures 35 = .ok (.bipush 48, 2) := by decide +kernel
theorem dX6_figures_37 : decode cX6_figures 37 = .ok (.isub, 1) := by decide +kernel
theorem dX6_figures_38 : decode cX6_figures 38 = .ok (.istore_n 2, 1) := by decide +kernel
theorem dX6_figures_39 : decode cX6_figures 39 = .ok (.aload_n 0, 1) := by decide +kernel
theorem dX6_figures_40 : decode cX6_figures 40 = .ok (.dup, 1) := by decide +kernel
theorem dX6_figures_41 : decode cX6_figures 41 = .ok (.getfield 177, 3) := by decide +kernel
theorem dX6_figures_44 : decode cX6_figures 44 = .ok (.iconst 1, 1) := by decide +kernel
theorem dX6_figures_45 : decode cX6_figures 45 = .ok (.iadd, 1) := by decide +kernel
theorem dX6_figures_46 : decode cX6_figures 46 = .ok (.putfield 177, 3) := by decide +kernel
theorem dX6_figures_49 : decode cX6_figures 49 = .ok (.iconst 1, 1) := by decide +kernel
theorem dX6_figures_50 : decode cX6_figures 50 = .ok (.istore_n 3, 1) := by decide +kernel
theorem dX6_figures_51 : decode cX6_figures 51 = .ok (.iload_n 3, 1) := by decide +kernel
theorem dX6_figures_52 : decode cX6_figures 52 = .ok (.iload_n 1, 1) := by decide +kernel
theorem dX6_figures_53 : decode cX6_figures 53 = .ok (.if_icmp .ge 53, 3) := by decide +kernel
theorem dX6_figures_56 : decode cX6_figures 56 = .ok (.iload_n 2, 1) := by decide +kernel
theorem dX6_figures_57 : decode cX6_figures 57 = .ok (.ifCond .le 49, 3) := by decide +kernel
theorem dX6_figures_60 : decode cX6_figures 60 = .ok (.aload_n 0, 1) := by decide +kernel
theorem dX6_figures_61 : decode cX6_figures 61 = .ok (.invokevirtual 192, 3) := by decide +kernel
theorem dX6_figures_64 : decode cX6_figures 64 = .ok (.ifCond .eq 42, 3) := by decide +kernel
theorem dX6_figures_67 : decode cX6_figures 67 = .ok (.bipush 10, 2) := by decide +kernel
theorem dX6_figures_69 : decode cX6_figures 69 = .ok (.iload_n 2, 1) := by decide +kernel
theorem dX6_figures_70 : decode cX6_figures 70 = .ok (.imul, 1) := by decide +kernel
theorem dX6_figures_71 : decode cX6_figures 71 = .ok (.aload_n 0, 1) := by decide +kernel
theorem dX6_figures_72 : decode cX6_figures 72 = .ok (.getfield 47, 3) := by decide +kernel
theorem dX6_figures_75 : decode cX6_figures 75 = .ok (.aload_n 0, 1) := by decide +kernel
theorem dX6_figures_76 : decode cX6_figures 76 = .ok (.getfield 183, 3) := by decide +kernel
theorem dX6_figures_79 : decode cX6_figures 79 = .ok (.aload_n 0, 1) := by decide +kernel
theorem dX6_figures_80 : decode cX6_figures 80 = .ok (.getfield 177, 3) := by decide +kernel
theorem dX6_figures_83 : decode cX6_figures 83 = .ok (.iadd, 1) := by decide +kernel
theorem dX6_figures_84 : decode cX6_figures 84 = .ok (.iaload, 1) := by decide +kernel
theorem dX6_figures_85 : decode cX6_figures 85 = .ok (.iadd, 1) := by decide +kernel
theorem dX6_figures_86 : decode cX6_figures 86 = .ok (.bipush 48, 2) := by decide +kernel
theorem dX6_figures_88 : decode cX6_figures 88 = .ok (.isub, 1) := by decide +kernel
theorem dX6_figures_89 : decode cX6_figures 89 = .ok (.istore_n 2, 1) := by decide +kernel
theorem dX6_figures_90 : decode cX6_figures 90 = .ok (.aload_n 0, 1) := by decide +kernel
theorem dX6_figures_91 : decode cX6_figures 91 = .ok (.dup, 1) := by decide +kernel
theorem dX6_figures_92 : decode cX6_figures 92 = .ok (.getfield 177, 3) := by decide +kernel
theorem dX6_figures_95 : decode cX6_figures 95 = .ok (.iconst 1, 1) := by decide +kernel
theorem dX6_figures_96 : decode cX6_figures 96 = .ok (.iadd, 1) := by decide +kernel
theorem dX6_figures_97 : decode cX6_figures 97 = .ok (.putfield 177, 3) := by decide +kernel
theorem dX6_figures_100 : decode cX6_figures 100 = .ok (.iinc 3 1, 3) := by decide +kernel
theorem dX6_figures_103 : decode cX6_figures 103 = .ok (.goto (-52), 3) := by decide +kernel
theorem dX6_figures_106 : decode cX6_figures 106 = .ok (.iload_n 2, 1) := by decide +kernel
theorem dX6_figures_107 : decode cX6_figures 107 = .ok (.ireturn, 1) := by decide +kernel
set_option maxRecDepth 20000 in
theorem ggX6_statement_X6_figures : GoodIn wsX6_statement wsX6_figures := goodIn_r _ [12, 7, 3, 4, 1, 13, 14, 15, 11, 16, 2, 25, 26, 27, 28, 29, 30, 31, 32, 33, 34, 35, 36, 37, 38, 39, 40, 41, 42, 43, 44, 45, 46, 47, 48, 49, 50, 51, 52, 53, 54, 55, 56] (by decide +kernel) (by decide +kernel)
set_option maxRecDepth 20000 in
theorem gX6_statement_X6_figures : GoodIn wsX6_statement (wsV RX6 196 RX6 yX6_figures wsX6_figures) := goodIn_app (goodIn_of _ (by decide +kernel)) ggX6_statement_X6_figures
set_option maxRecDepth 20000 in
theorem ggX6_statement_X6_expect : GoodIn wsX6_statement wsX6_expect := goodIn_r _ [20, 7, 1, 21, 22, 23, 11, 24, 2, 3, 4, 25, 26, 27, 28, 29, 30, 31, 32, 33, 34, 35, 36, 37, 38, 39, 40, 41, 42, 43, 44, 45, 46, 47, 48, 49, 50, 51, 52, 53, 54, 55, 56] (by decide +kernel) (by decide +kernel)
set_option maxRecDepth 20000 in
theorem gX6_statement_X6_expect : GoodIn wsX6_statement (wsV RX6 202 RX6 yX6_expect wsX6_expect) := goodIn_app (goodIn_of _ (by decide +kernel)) ggX6_statement_X6_expect
theorem dX6_statement_0 : decode cX6_statement 0 = .ok (.aload_n 0, 1) := by decide +kernel
theorem dX6_statement_1 : decode cX6_statement 1 = .ok (.getfield 177, 3) := by decide +kernel
theorem dX6_statement_4 : decode cX6_statement 4 = .ok (.aload_n 0, 1) := by decide +kernel
theorem dX6_statement_5 : decode cX6_statement 5 = .ok (.getfield 180, 3) := by decide +kernel
theorem dX6_statement_8 : decode cX6_statement 8 = .ok (.if_icmp .ge 20, 3) := by decide +kernel
theorem dX6_statement_11 : decode cX6_statement 11 = .ok (.aload_n 0, 1) := by decide +kernel
theorem dX6_statement_12 : decode cX6_statement 12 = .ok (.getfield 47, 3) := by decide +kernel
theorem dX6_statement_15 : decode cX6_statement 15 = .ok (.aload_n 0, 1) := by decide +kernel
theorem dX6_statement_16 : decode cX6_statement 16 = .ok (.getfield 183, 3) := by decide +kernel
theorem dX6_statement_19 : decode cX6_statement 19 = .ok (.aload_n 0, 1) := by decide +kernel
theorem dX6_statement_20 : decode cX6_statement 20 = .ok (.getfield 177, 3) := by decide +kernel
theorem dX6_statement_23 : decode cX6_statement 23 = .ok (.iadd, 1) := by decide +kernel
theorem dX6_statement_24 : decode cX6_statement 24 = .ok (.iaload, 1) := by decide +kernel
theorem dX6_statement_25 : decode cX6_statement 25 = .ok (.goto 4, 3) := by decide +kernel
theorem dX6_statement_28 : decode cX6_statement 28 = .ok (.iconst 0, 1) := by decide +kernel
theorem dX6_statement_29 : decode cX6_statement 29 = .ok (.istore_n 1, 1) := by decide +kernel
theorem dX6_statement_30 : decode cX6_statement 30 = .ok (.aload_n 0, 1) := by decide +kernel
theorem dX6_statement_31 : decode cX6_statement 31 = .ok (.dup, 1) := by decide +kernel
theorem dX6_statement_32 : decode cX6_statement 32 = .ok (.getfield 177, 3) := by decide +kernel
theorem dX6_statement_35 : decode cX6_statement 35 = .ok (.iconst 1, 1) := by decide +kernel
theorem dX6_statement_36 : decode cX6_statement 36 = .ok (.iadd, 1) := by decide +kernel
theorem dX6_statement_37 : decode cX6_statement 37 = .ok (.putfield 177, 3) := by decide +kernel
theorem dX6_statement_40 : decode cX6_statement 40 = .ok (.iload_n 1, 1) := by decide +kernel
theorem dX6_statement_41 : decode cX6_statement 41 = .ok (.bipush 115, 2) := by decide +kernel
theorem dX6_statement_43 : decode cX6_statement 43 = .ok (.if_icmp .eq 15, 3) := by decide +kernel
theorem dX6_statement_46 : decode cX6_statement 46 = .ok (.iload_n 1, 1) := by decide +kernel
theorem dX6_statement_47 : decode cX6_statement 47 = .ok (.bipush 119, 2) := by decide +kernel
theorem dX6_statement_49 : decode cX6_statement 49 = .ok (.if_icmp .eq 9, 3) := by decide +kernel
theorem dX6_statement_52 : decode cX6_statement 52 = .ok (.iload_n 1, 1) := by decide +kernel
theorem dX6_statement_53 : decode cX6_statement 53 = .ok (.bipush 112, 2) := by decide +kernel
theorem dX6_statement_55 : decode cX6_statement 55 = .ok (.if_icmp .ne 40, 3) := by decide +kernel
theorem dX6_statement_58 : decode cX6_statement 58 = .ok (.aload_n 0, 1) := by decide +kernel
theorem dX6_statement_59 : decode cX6_statement 59 = .ok (.aload_n 0, 1) := by decide +kernel
theorem dX6_statement_60 : decode cX6_statement 60 = .ok (.iload_n 1, 1) := by decide +kernel
theorem dX6_statement_61 : decode cX6_statement 61 = .ok (.bipush 115, 2) := by decide +kernel
theorem dX6_statement_63 : decode cX6_statement 63 = .ok (.if_icmp .ne 7, 3) := by decide +kernel
theorem dX6_statement_66 : decode cX6_statement 66 = .ok (.iconst 2, 1) := by decide +kernel
theorem dX6_statement_67 : decode cX6_statement 67 = .ok (.goto 4, 3) := by decide +kernel
theorem dX6_statement_70 : decode cX6_statement 70 = .ok (.iconst 1, 1) := by decide +kernel
theorem dX6_statement_71 : decode cX6_statement 71 = .ok (.invokevirtual 196, 3) := by decide +kernel
theorem dX6_statement_74 : decode cX6_statement 74 = .ok (.putfield 199, 3) := by decide +kernel
theorem dX6_statement_77 : decode cX6_statement 77 = .ok (.aload_n 0, 1) := by decide +kernel
theorem dX6_statement_78 : decode cX6_statement 78 = .ok (.bipush 32, 2) := by decide +kernel
theorem dX6_statement_80 : decode cX6_statement 80 = .ok (.invokevirtual 202, 3) := by decide +kernel
theorem dX6_statement_83 : decode cX6_statement 83 = .ok (.aload_n 0, 1) := by decide +kernel
theorem dX6_statement_84 : decode cX6_statement 84 = .ok (.aload_n 0, 1) := by decide +kernel
theorem dX6_statement_85 : decode cX6_statement 85 = .ok (.iconst 2, 1) := by decide +kernel
theorem dX6_statement_86 : decode cX6_statement 86 = .ok (.invokevirtual 196, 3) := by decide +kernel
theorem dX6_statement_89 : decode cX6_statement 89 = .ok (.putfield 205, 3) := by decide +kernel
theorem dX6_statement_92 : decode cX6_statement 92 = .ok (.goto 24, 3) := by decide +kernel
theorem dX6_statement_95 : decode cX6_statement 95 = .ok (.iload_n 1, 1) := by decide +kernel
theorem dX6_statement_96 : decode cX6_statement 96 = .ok (.bipush 120, 2) := by decide +kernel
theorem dX6_statement_98 : decode cX6_statement 98 = .ok (.if_icmp .eq 18, 3) := by decide +kernel
theorem dX6_statement_101 : decode cX6_statement 101 = .ok (.aload_n 0, 1) := by decide +kernel
theorem dX6_statement_102 : decode cX6_statement 102 = .ok (.dup, 1) := by decide +kernel
theorem dX6_statement_103 : decode cX6_statement 103 = .ok (.getfield 177, 3) := by decide +kernel
theorem dX6_statement_106 : decode cX6_statement 106 = .ok (.iconst 1, 1) := by decide +kernel
theorem dX6_statement_107 : decode cX6_statement 107 = .ok (.isub, 1) := by decide +kernel
theorem dX6_statement_108 : decode cX6_statement 108 = .ok (.putfield 177, 3) := by decide +kernel
theorem dX6_statement_111 : decode cX6_statement 111 = .ok (.aload_n 0, 1) := by decide +kernel
theorem dX6_statement_112 : decode cX6_statement 112 = .ok (.iconst 0, 1) := by decide +kernel
theorem dX6_statement_113 : decode cX6_statement 113 = .ok (.putfield 186, 3) := by decide +kernel
theorem dX6_statement_116 : decode cX6_statement 116 = .ok (.aload_n 0, 1) := by decide +kernel
theorem dX6_statement_117 : decode cX6_statement 117 = .ok (.bipush 59, 2) := by decide +kernel
theorem dX6_statement_119 : decode cX6_statement 119 = .ok (.invokevirtual 202, 3) := by decide +kernel
theorem dX6_statement_122 : decode cX6_statement 122 = .ok (.iload_n 1, 1) := by decide +kernel
theorem dX6_statement_123 : decode cX6_statement 123 = .ok (.ireturn, 1) := by decide +kernel
theorem dX6_isAsTold_0 : decode cX6_isAsTold 0 = .ok (.iload_n 0, 1) := by decide +kernel
theorem dX6_isAsTold_1 : decode cX6_isAsTold 1 = .ok (.lookupswitch 79 #[(112, 68), (115, 35), (119, 52)], 35) := by decide +kernel
theorem dX6_isAsTold_36 : decode cX6_isAsTold 36 = .ok (.iload_n 1, 1) := by decide +kernel
theorem dX6_isAsTold_37 : decode cX6_isAsTold 37 = .ok (.iconst 1, 1) := by decide +kernel
theorem dX6_isAsTold_38 : decode cX6_isAsTold 38 = .ok (.if_icmp .lt 13, 3) := by decide +kernel
theorem dX6_isAsTold_41 : decode cX6_isAsTold 41 = .ok (.iload_n 3, 1) := by decide +kernel
theorem dX6_isAsTold_42 : decode cX6_isAsTold 42 = .ok (.bipush 6, 2) := by decide +kernel
theorem dX6_isAsTold_44 : decode cX6_isAsTold 44 = .ok (.if_icmp .ge 7, 3) := by decide +kernel
theorem dX6_isAsTold_47 : decode cX6_isAsTold 47 = .ok (.iconst 1, 1) := by decide +kernel
theorem dX6_isAsTold_48 : decode cX6_isAsTold 48 = .ok (.goto 4, 3) := by decide +kernel
theorem dX6_isAsTold_51 : decode cX6_isAsTold 51 = .ok (.iconst 0, 1) := by decide +kernel
theorem dX6_isAsTold_52 : decode cX6_isAsTold 52 = .ok (.ireturn, 1) := by decide +kernel
theorem dX6_isAsTold_53 : decode cX6_isAsTold 53 = .ok (.iload_n 1, 1) := by decide +kernel
theorem dX6_isAsTold_54 : decode cX6_isAsTold 54 = .ok (.iload_n 3, 1) := by decide +kernel
theorem dX6_isAsTold_55 : decode cX6_isAsTold 55 = .ok (.if_icmp .ge 12, 3) := by decide +kernel
theorem dX6_isAsTold_58 : decode cX6_isAsTold 58 = .ok (.iload_n 2, 1) := by decide +kernel
theorem dX6_isAsTold_59 : decode cX6_isAsTold 59 = .ok (.iconst 1, 1) := by decide +kernel
theorem dX6_isAsTold_60 : decode cX6_isAsTold 60 = .ok (.if_icmp .lt 7, 3) := by decide +kernel
theorem dX6_isAsTold_63 : decode cX6_isAsTold 63 = .ok (.iconst 1, 1) := by decide +kernel
theorem dX6_isAsTold_64 : decode cX6_isAsTold 64 = .ok (.goto 4, 3) := by decide +kernel
theorem dX6_isAsTold_67 : decode cX6_isAsTold 67 = .ok (.iconst 0, 1) := by decide +kernel
theorem dX6_isAsTold_68 : decode cX6_isAsTold 68 = .ok (.ireturn, 1) := by decide +kernel
theorem dX6_isAsTold_69 : decode cX6_isAsTold 69 = .ok (.iload_n 1, 1) := by decide +kernel
theorem dX6_isAsTold_70 : decode cX6_isAsTold 70 = .ok (.iload_n 3, 1) := by decide +kernel
theorem dX6_isAsTold_71 : decode cX6_isAsTold 71 = .ok (.if_icmp .ge 7, 3) := by decide +kernel
theorem dX6_isAsTold_74 : decode cX6_isAsTold 74 = .ok (.iconst 1, 1) := by decide +kernel
theorem dX6_isAsTold_75 : decode cX6_isAsTold 75 = .ok (.goto 4, 3) := by decide +kernel
theorem dX6_isAsTold_78 : decode cX6_isAsTold 78 = .ok (.iconst 0, 1) := by decide +kernel
theorem dX6_isAsTold_79 : decode cX6_isAsTold 79 = .ok (.ireturn, 1) := by decide +kernel
theorem dX6_isAsTold_80 : decode cX6_isAsTold 80 = .ok (.iload_n 3, 1) := by decide +kernel
theorem dX6_isAsTold_81 : decode cX6_isAsTold 81 = .ok (.ifCond .le 7, 3) := by decide +kernel
theorem dX6_isAsTold_84 : decode cX6_isAsTold 84 = .ok (.iconst 1, 1) := by decide +kernel
theorem dX6_isAsTold_85 : decode cX6_isAsTold 85 = .ok (.goto 4, 3) := by decide +kernel
theorem dX6_isAsTold_88 : decode cX6_isAsTold 88 = .ok (.iconst 0, 1) := by decide +kernel
theorem dX6_isAsTold_89 : decode cX6_isAsTold 89 = .ok (.ireturn, 1) := by decide +kernel
theorem dX6_come_0 : decode cX6_come 0 = .ok (.iload_n 1, 1) := by decide +kernel
theorem dX6_come_1 : decode cX6_come 1 = .ok (.lookupswitch 106 #[(112, 90), (115, 35), (119, 74)], 35) := by decide +kernel
theorem dX6_come_36 : decode cX6_come 36 = .ok (.aload_n 0, 1) := by decide +kernel
theorem dX6_come_37 : decode cX6_come 37 = .ok (.getfield 7, 3) := by decide +kernel
theorem dX6_come_40 : decode cX6_come 40 = .ok (.aload_n 0, 1) := by decide +kernel
theorem dX6_come_41 : decode cX6_come 41 = .ok (.getfield 57, 3) := by decide +kernel
theorem dX6_come_44 : decode cX6_come 44 = .ok (.aload_n 0, 1) := by decide +kernel
theorem dX6_come_45 : decode cX6_come 45 = .ok (.getfield 199, 3) := by decide +kernel
theorem dX6_come_48 : decode cX6_come 48 = .ok (.iastore, 1) := by decide +kernel
theorem dX6_come_49 : decode cX6_come 49 = .ok (.aload_n 0, 1) := by decide +kernel
theorem dX6_come_50 : decode cX6_come 50 = .ok (.getfield 13, 3) := by decide +kernel
theorem dX6_come_53 : decode cX6_come 53 = .ok (.aload_n 0, 1) := by decide +kernel
theorem dX6_come_54 : decode cX6_come 54 = .ok (.getfield 57, 3) := by decide +kernel
theorem dX6_come_57 : decode cX6_come 57 = .ok (.aload_n 0, 1) := by decide +kernel
theorem dX6_come_58 : decode cX6_come 58 = .ok (.getfield 205, 3) := by decide +kernel
theorem dX6_come_61 : decode cX6_come 61 = .ok (.iastore, 1) := by decide +kernel
theorem dX6_come_62 : decode cX6_come 62 = .ok (.aload_n 0, 1) := by decide +kernel
theorem dX6_come_63 : decode cX6_come 63 = .ok (.dup, 1) := by decide +kernel
theorem dX6_come_64 : decode cX6_come 64 = .ok (.getfield 57, 3) := by decide +kernel
theorem dX6_come_67 : decode cX6_come 67 = .ok (.iconst 1, 1) := by decide +kernel
theorem dX6_come_68 : decode cX6_come 68 = .ok (.iadd, 1) := by decide +kernel
theorem dX6_come_69 : decode cX6_come 69 = .ok (.putfield 57, 3) := by decide +kernel
theorem dX6_come_72 : decode cX6_come 72 = .ok (.goto 45, 3) := by decide +kernel
theorem dX6_come_75 : decode cX6_come 75 = .ok (.aload_n 0, 1) := by decide +kernel
theorem dX6_come_76 : decode cX6_come 76 = .ok (.getfield 7, 3) := by decide +kernel
theorem dX6_come_79 : decode cX6_come 79 = .ok (.aload_n 0, 1) := by decide +kernel
theorem dX6_come_80 : decode cX6_come 80 = .ok (.getfield 199, 3) := by decide +kernel
theorem dX6_come_83 : decode cX6_come 83 = .ok (.aload_n 0, 1) := by decide +kernel
theorem dX6_come_84 : decode cX6_come 84 = .ok (.getfield 205, 3) := by decide +kernel
theorem dX6_come_87 : decode cX6_come 87 = .ok (.iastore, 1) := by decide +kernel
theorem dX6_come_88 : decode cX6_come 88 = .ok (.goto 29, 3) := by decide +kernel
theorem dX6_come_91 : decode cX6_come 91 = .ok (.aload_n 0, 1) := by decide +kernel
theorem dX6_come_92 : decode cX6_come 92 = .ok (.getfield 13, 3) := by decide +kernel
theorem dX6_come_95 : decode cX6_come 95 = .ok (.aload_n 0, 1) := by decide +kernel
theorem dX6_come_96 : decode cX6_come 96 = .ok (.getfield 199, 3) := by decide +kernel
theorem dX6_come_99 : decode cX6_come 99 = .ok (.aload_n 0, 1) := by decide +kernel
theorem dX6_come_100 : decode cX6_come 100 = .ok (.getfield 205, 3) := by decide +kernel
theorem dX6_come_103 : decode cX6_come 103 = .ok (.iastore, 1) := by decide +kernel
theorem dX6_come_104 : decode cX6_come 104 = .ok (.goto 13, 3) := by decide +kernel
theorem dX6_come_107 : decode cX6_come 107 = .ok (.aload_n 0, 1) := by decide +kernel
theorem dX6_come_108 : decode cX6_come 108 = .ok (.dup, 1) := by decide +kernel
theorem dX6_come_109 : decode cX6_come 109 = .ok (.getfield 57, 3) := by decide +kernel
theorem dX6_come_112 : decode cX6_come 112 = .ok (.iconst 1, 1) := by decide +kernel
theorem dX6_come_113 : decode cX6_come 113 = .ok (.isub, 1) := by decide +kernel
theorem dX6_come_114 : decode cX6_come 114 = .ok (.putfield 57, 3) := by decide +kernel
theorem dX6_come_117 : decode cX6_come 117 = .ok (.return_, 1) := by decide +kernel
set_option maxRecDepth 20000 in
theorem ggX6_read_X6_statement : GoodIn wsX6_read wsX6_statement := goodIn_r _ [11, 1, 3, 12, 13, 5, 6, 2, 14, 15, 16, 10, 17, 18, 19, 20, 21, 22, 23, 24, 25, 26, 27, 28, 29, 39, 40, 41, 42, 43, 44, 45, 46, 47, 48, 49, 50, 51, 52, 53, 54, 55, 56, 57, 58, 59, 60, 61, 62, 63, 64, 65, 66, 67, 68, 69, 70] (by decide +kernel) (by decide +kernel)
set_option maxRecDepth 20000 in
theorem gX6_read_X6_statement : GoodIn wsX6_read (wsV RX6 208 RX6 yX6_statement wsX6_statement) := goodIn_app (goodIn_of _ (by decide +kernel)) ggX6_read_X6_statement
set_option maxRecDepth 20000 in
theorem ggX6_read_X6_isAsTold : GoodIn wsX6_read wsX6_isAsTold := goodIn_r _ [32] (by decide +kernel) (by decide +kernel)
set_option maxRecDepth 20000 in
theorem gX6_read_X6_isAsTold : GoodIn wsX6_read (va_wsS RX6 211 yX6_isAsTold wsX6_isAsTold) := goodIn_app (goodIn_of _ (by decide +kernel)) ggX6_read_X6_isAsTold
set_option maxRecDepth 20000 in
theorem ggX6_read_X6_come : GoodIn wsX6_read wsX6_come := goodIn_r _ [36, 37, 4, 5, 38, 6, 39, 40, 41, 42, 43, 44, 45, 46, 47, 48, 49, 50, 51, 52, 53, 54, 55, 56, 57, 58, 59, 60, 61, 62, 63, 64, 65, 66, 67, 68, 69, 70] (by decide +kernel) (by decide +kernel)
set_option maxRecDepth 20000 in
theorem gX6_read_X6_come : GoodIn wsX6_read (wsV RX6 215 RX6 yX6_come wsX6_come) := goodIn_app (goodIn_of _ (by decide +kernel)) ggX6_read_X6_come
theorem dX6_read_0 : decode cX6_read 0 = .ok (.iconst 0, 1) := by decide +kernel
theorem dX6_read_1 : decode cX6_read 1 = .ok (.istore_n 1, 1) := by decide +kernel
theorem dX6_read_2 : decode cX6_read 2 = .ok (.aload_n 0, 1) := by decide +kernel
theorem dX6_read_3 : decode cX6_read 3 = .ok (.iconst 0, 1) := by decide +kernel
theorem dX6_read_4 : decode cX6_read 4 = .ok (.putfield 177, 3) := by decide +kernel
theorem dX6_read_7 : decode cX6_read 7 = .ok (.aload_n 0, 1) := by decide +kernel
theorem dX6_read_8 : decode cX6_read 8 = .ok (.iconst 1, 1) := by decide +kernel
theorem dX6_read_9 : decode cX6_read 9 = .ok (.putfield 186, 3) := by decide +kernel
theorem dX6_read_12 : decode cX6_read 12 = .ok (.aload_n 0, 1) := by decide +kernel
theorem dX6_read_13 : decode cX6_read 13 = .ok (.invokevirtual 208, 3) := by decide +kernel
theorem dX6_read_16 : decode cX6_read 16 = .ok (.pop, 1) := by decide +kernel
theorem dX6_read_17 : decode cX6_read 17 = .ok (.iinc 1 1, 3) := by decide +kernel
theorem dX6_read_20 : decode cX6_read 20 = .ok (.aload_n 0, 1) := by decide +kernel
theorem dX6_read_21 : decode cX6_read 21 = .ok (.getfield 186, 3) := by decide +kernel
theorem dX6_read_24 : decode cX6_read 24 = .ok (.ifCond .eq 14, 3) := by decide +kernel
theorem dX6_read_27 : decode cX6_read 27 = .ok (.aload_n 0, 1) := by decide +kernel
theorem dX6_read_28 : decode cX6_read 28 = .ok (.getfield 177, 3) := by decide +kernel
theorem dX6_read_31 : decode cX6_read 31 = .ok (.aload_n 0, 1) := by decide +kernel
theorem dX6_read_32 : decode cX6_read 32 = .ok (.getfield 180, 3) := by decide +kernel
theorem dX6_read_35 : decode cX6_read 35 = .ok (.if_icmp .lt (-23), 3) := by decide +kernel
theorem dX6_read_38 : decode cX6_read 38 = .ok (.aload_n 0, 1) := by decide +kernel
theorem dX6_read_39 : decode cX6_read 39 = .ok (.getfield 186, 3) := by decide +kernel
theorem dX6_read_42 : decode cX6_read 42 = .ok (.ifCond .ne 12, 3) := by decide +kernel
theorem dX6_read_45 : decode cX6_read 45 = .ok (.sipush (-1000), 3) := by decide +kernel
theorem dX6_read_48 : decode cX6_read 48 = .ok (.aload_n 0, 1) := by decide +kernel
theorem dX6_read_49 : decode cX6_read 49 = .ok (.getfield 177, 3) := by decide +kernel
theorem dX6_read_52 : decode cX6_read 52 = .ok (.isub, 1) := by decide +kernel
theorem dX6_read_53 : decode cX6_read 53 = .ok (.ireturn, 1) := by decide +kernel
theorem dX6_read_54 : decode cX6_read 54 = .ok (.aload_n 0, 1) := by decide +kernel
theorem dX6_read_55 : decode cX6_read 55 = .ok (.getfield 57, 3) := by decide +kernel
theorem dX6_read_58 : decode cX6_read 58 = .ok (.istore_n 2, 1) := by decide +kernel
theorem dX6_read_59 : decode cX6_read 59 = .ok (.aload_n 0, 1) := by decide +kernel
theorem dX6_read_60 : decode cX6_read 60 = .ok (.iconst 0, 1) := by decide +kernel
theorem dX6_read_61 : decode cX6_read 61 = .ok (.putfield 177, 3) := by decide +kernel
theorem dX6_read_64 : decode cX6_read 64 = .ok (.aload_n 0, 1) := by decide +kernel
theorem dX6_read_65 : decode cX6_read 65 = .ok (.getfield 177, 3) := by decide +kernel
theorem dX6_read_68 : decode cX6_read 68 = .ok (.aload_n 0, 1) := by decide +kernel
theorem dX6_read_69 : decode cX6_read 69 = .ok (.getfield 180, 3) := by decide +kernel
theorem dX6_read_72 : decode cX6_read 72 = .ok (.if_icmp .ge 66, 3) := by decide +kernel
theorem dX6_read_75 : decode cX6_read 75 = .ok (.aload_n 0, 1) := by decide +kernel
theorem dX6_read_76 : decode cX6_read 76 = .ok (.getfield 177, 3) := by decide +kernel
theorem dX6_read_79 : decode cX6_read 79 = .ok (.istore_n 3, 1) := by decide +kernel
theorem dX6_read_80 : decode cX6_read 80 = .ok (.aload_n 0, 1) := by decide +kernel
theorem dX6_read_81 : decode cX6_read 81 = .ok (.invokevirtual 208, 3) := by decide +kernel
theorem dX6_read_84 : decode cX6_read 84 = .ok (.istore 4, 2) := by decide +kernel
theorem dX6_read_86 : decode cX6_read 86 = .ok (.iload 4, 2) := by decide +kernel
theorem dX6_read_88 : decode cX6_read 88 = .ok (.aload_n 0, 1) := by decide +kernel
theorem dX6_read_89 : decode cX6_read 89 = .ok (.getfield 199, 3) := by decide +kernel
theorem dX6_read_92 : decode cX6_read 92 = .ok (.aload_n 0, 1) := by decide +kernel
theorem dX6_read_93 : decode cX6_read 93 = .ok (.getfield 205, 3) := by decide +kernel
theorem dX6_read_96 : decode cX6_read 96 = .ok (.iload_n 2, 1) := by decide +kernel
theorem dX6_read_97 : decode cX6_read 97 = .ok (.invokestatic 211, 3) := by decide +kernel
theorem dX6_read_100 : decode cX6_read 100 = .ok (.ifCond .ne 9, 3) := by decide +kernel
theorem dX6_read_103 : decode cX6_read 103 = .ok (.sipush (-2000), 3) := by decide +kernel
theorem dX6_read_106 : decode cX6_read 106 = .ok (.iload_n 3, 1) := by decide +kernel
theorem dX6_read_107 : decode cX6_read 107 = .ok (.isub, 1) := by decide +kernel
theorem dX6_read_108 : decode cX6_read 108 = .ok (.ireturn, 1) := by decide +kernel
theorem dX6_read_109 : decode cX6_read 109 = .ok (.iload_n 2, 1) := by decide +kernel
theorem dX6_read_110 : decode cX6_read 110 = .ok (.iload 4, 2) := by decide +kernel
theorem dX6_read_112 : decode cX6_read 112 = .ok (.bipush 115, 2) := by decide +kernel
theorem dX6_read_114 : decode cX6_read 114 = .ok (.if_icmp .ne 7, 3) := by decide +kernel
theorem dX6_read_117 : decode cX6_read 117 = .ok (.iconst 1, 1) := by decide +kernel
theorem dX6_read_118 : decode cX6_read 118 = .ok (.goto 15, 3) := by decide +kernel
theorem dX6_read_121 : decode cX6_read 121 = .ok (.iload 4, 2) := by decide +kernel
theorem dX6_read_123 : decode cX6_read 123 = .ok (.bipush 120, 2) := by decide +kernel
theorem dX6_read_125 : decode cX6_read 125 = .ok (.if_icmp .ne 7, 3) := by decide +kernel
theorem dX6_read_128 : decode cX6_read 128 = .ok (.iconst (-1), 1) := by decide +kernel
theorem dX6_read_129 : decode cX6_read 129 = .ok (.goto 4, 3) := by decide +kernel
theorem dX6_read_132 : decode cX6_read 132 = .ok (.iconst 0, 1) := by decide +kernel
theorem dX6_read_133 : decode cX6_read 133 = .ok (.iadd, 1) := by decide +kernel
theorem dX6_read_134 : decode cX6_read 134 = .ok (.istore_n 2, 1) := by decide +kernel
theorem dX6_read_135 : decode cX6_read 135 = .ok (.goto (-71), 3) := by decide +kernel
theorem dX6_read_138 : decode cX6_read 138 = .ok (.aload_n 0, 1) := by decide +kernel
theorem dX6_read_139 : decode cX6_read 139 = .ok (.iconst 0, 1) := by decide +kernel
theorem dX6_read_140 : decode cX6_read 140 = .ok (.putfield 177, 3) := by decide +kernel
theorem dX6_read_143 : decode cX6_read 143 = .ok (.aload_n 0, 1) := by decide +kernel
theorem dX6_read_144 : decode cX6_read 144 = .ok (.getfield 177, 3) := by decide +kernel
theorem dX6_read_147 : decode cX6_read 147 = .ok (.aload_n 0, 1) := by decide +kernel
theorem dX6_read_148 : decode cX6_read 148 = .ok (.getfield 180, 3) := by decide +kernel
theorem dX6_read_151 : decode cX6_read 151 = .ok (.if_icmp .ge 14, 3) := by decide +kernel
theorem dX6_read_154 : decode cX6_read 154 = .ok (.aload_n 0, 1) := by decide +kernel
theorem dX6_read_155 : decode cX6_read 155 = .ok (.aload_n 0, 1) := by decide +kernel
theorem dX6_read_156 : decode cX6_read 156 = .ok (.invokevirtual 208, 3) := by decide +kernel
theorem dX6_read_159 : decode cX6_read 159 = .ok (.invokevirtual 215, 3) := by decide +kernel
theorem dX6_read_162 : decode cX6_read 162 = .ok (.goto (-19), 3) := by decide +kernel
theorem dX6_read_165 : decode cX6_read 165 = .ok (.iload_n 1, 1) := by decide +kernel
theorem dX6_read_166 : decode cX6_read 166 = .ok (.ireturn, 1) := by decide +kernel
set_option maxRecDepth 20000 in
theorem ggX6_shop_X6_isShelf : GoodIn wsX6_shop wsX6_isShelf := goodIn_r _ [9, 10, 11, 8, 12] (by decide +kernel) (by decide +kernel)
set_option maxRecDepth 20000 in
theorem gX6_shop_X6_isShelf : GoodIn wsX6_shop (va_wsS RX6 117 yX6_isShelf wsX6_isShelf) := goodIn_app (goodIn_of _ (by decide +kernel)) ggX6_shop_X6_isShelf
set_option maxRecDepth 20000 in
theorem ggX6_shop_X6_read : GoodIn wsX6_shop wsX6_read := goodIn_r _ [16, 17, 18, 5, 19, 20, 21, 22, 23, 24, 8, 25, 26, 3, 27, 28, 29, 30, 31, 32, 33, 34, 35, 36, 37, 38, 39, 40, 41, 42, 43, 44, 45, 46, 47, 48, 49, 50, 51, 52, 53, 54, 55, 56, 57, 58, 59, 60, 61, 62, 63, 64, 65, 66, 67, 68, 69, 70, 71, 72, 73, 74, 75, 76, 77, 78, 79, 80, 81, 82, 83] (by decide +kernel) (by decide +kernel)
set_option maxRecDepth 20000 in
theorem gX6_shop_X6_read : GoodIn wsX6_shop (wsV RX6 218 RX6 yX6_read wsX6_read) := goodIn_app (goodIn_of _ (by decide +kernel)) ggX6_shop_X6_read
theorem dX6_shop_0 : decode cX6_shop 0 = .ok (.iload_n 1, 1) := by decide +kernel
theorem dX6_shop_1 : decode cX6_shop 1 = .ok (.invokestatic 117, 3) := by decide +kernel
theorem dX6_shop_4 : decode cX6_shop 4 = .ok (.ifCond .ne 5, 3) := by decide +kernel
theorem dX6_shop_7 : decode cX6_shop 7 = .ok (.iconst (-1), 1) := by decide +kernel
theorem dX6_shop_8 : decode cX6_shop 8 = .ok (.ireturn, 1) := by decide +kernel
theorem dX6_shop_9 : decode cX6_shop 9 = .ok (.aload_n 0, 1) := by decide +kernel
theorem dX6_shop_10 : decode cX6_shop 10 = .ok (.getfield 32, 3) := by decide +kernel
theorem dX6_shop_13 : decode cX6_shop 13 = .ok (.iload_n 1, 1) := by decide +kernel
theorem dX6_shop_14 : decode cX6_shop 14 = .ok (.iaload, 1) := by decide +kernel
theorem dX6_shop_15 : decode cX6_shop 15 = .ok (.ifCond .ne 6, 3) := by decide +kernel
theorem dX6_shop_18 : decode cX6_shop 18 = .ok (.bipush (-11), 2) := by decide +kernel
theorem dX6_shop_20 : decode cX6_shop 20 = .ok (.ireturn, 1) := by decide +kernel
theorem dX6_shop_21 : decode cX6_shop 21 = .ok (.aload_n 0, 1) := by decide +kernel
theorem dX6_shop_22 : decode cX6_shop 22 = .ok (.getfield 32, 3) := by decide +kernel
theorem dX6_shop_25 : decode cX6_shop 25 = .ok (.iload_n 1, 1) := by decide +kernel
theorem dX6_shop_26 : decode cX6_shop 26 = .ok (.iaload, 1) := by decide +kernel
theorem dX6_shop_27 : decode cX6_shop 27 = .ok (.iconst 1, 1) := by decide +kernel
theorem dX6_shop_28 : decode cX6_shop 28 = .ok (.if_icmp .eq 12, 3) := by decide +kernel
theorem dX6_shop_31 : decode cX6_shop 31 = .ok (.aload_n 0, 1) := by decide +kernel
theorem dX6_shop_32 : decode cX6_shop 32 = .ok (.getfield 41, 3) := by decide +kernel
theorem dX6_shop_35 : decode cX6_shop 35 = .ok (.iload_n 1, 1) := by decide +kernel
theorem dX6_shop_36 : decode cX6_shop 36 = .ok (.iaload, 1) := by decide +kernel
theorem dX6_shop_37 : decode cX6_shop 37 = .ok (.ifCond .eq 6, 3) := by decide +kernel
theorem dX6_shop_40 : decode cX6_shop 40 = .ok (.bipush (-12), 2) := by decide +kernel
theorem dX6_shop_42 : decode cX6_shop 42 = .ok (.ireturn, 1) := by decide +kernel
theorem dX6_shop_43 : decode cX6_shop 43 = .ok (.aload_n 0, 1) := by decide +kernel
theorem dX6_shop_44 : decode cX6_shop 44 = .ok (.bipush 100, 2) := by decide +kernel
theorem dX6_shop_46 : decode cX6_shop 46 = .ok (.iload_n 1, 1) := by decide +kernel
theorem dX6_shop_47 : decode cX6_shop 47 = .ok (.imul, 1) := by decide +kernel
theorem dX6_shop_48 : decode cX6_shop 48 = .ok (.putfield 183, 3) := by decide +kernel
theorem dX6_shop_51 : decode cX6_shop 51 = .ok (.aload_n 0, 1) := by decide +kernel
theorem dX6_shop_52 : decode cX6_shop 52 = .ok (.aload_n 0, 1) := by decide +kernel
theorem dX6_shop_53 : decode cX6_shop 53 = .ok (.getfield 44, 3) := by decide +kernel
theorem dX6_shop_56 : decode cX6_shop 56 = .ok (.iload_n 1, 1) := by decide +kernel
theorem dX6_shop_57 : decode cX6_shop 57 = .ok (.iaload, 1) := by decide +kernel
theorem dX6_shop_58 : decode cX6_shop 58 = .ok (.putfield 180, 3) := by decide +kernel
theorem dX6_shop_61 : decode cX6_shop 61 = .ok (.aload_n 0, 1) := by decide +kernel
theorem dX6_shop_62 : decode cX6_shop 62 = .ok (.invokevirtual 218, 3) := by decide +kernel
theorem dX6_shop_65 : decode cX6_shop 65 = .ok (.ireturn, 1) := by decide +kernel
set_option maxRecDepth 20000 in
theorem ggX6_keep_X6_isShelf : GoodIn wsX6_keep wsX6_isShelf := goodIn_r _ [7, 8, 9, 6, 10] (by decide +kernel) (by decide +kernel)
set_option maxRecDepth 20000 in
theorem gX6_keep_X6_isShelf : GoodIn wsX6_keep (va_wsS RX6 117 yX6_isShelf wsX6_isShelf) := goodIn_app (goodIn_of _ (by decide +kernel)) ggX6_keep_X6_isShelf
set_option maxRecDepth 20000 in
theorem ggX6_keep_X6_isIn : GoodIn wsX6_keep wsX6_isIn := goodIn_r _ [10] (by decide +kernel) (by decide +kernel)
set_option maxRecDepth 20000 in
theorem gX6_keep_X6_isIn : GoodIn wsX6_keep (va_wsS RX6 68 yX6_isIn wsX6_isIn) := goodIn_app (goodIn_of _ (by decide +kernel)) ggX6_keep_X6_isIn
theorem dX6_keep_0 : decode cX6_keep 0 = .ok (.iload_n 1, 1) := by decide +kernel
theorem dX6_keep_1 : decode cX6_keep 1 = .ok (.invokestatic 117, 3) := by decide +kernel
theorem dX6_keep_4 : decode cX6_keep 4 = .ok (.ifCond .eq 38, 3) := by decide +kernel
theorem dX6_keep_7 : decode cX6_keep 7 = .ok (.iload_n 2, 1) := by decide +kernel
theorem dX6_keep_8 : decode cX6_keep 8 = .ok (.iconst 0, 1) := by decide +kernel
theorem dX6_keep_9 : decode cX6_keep 9 = .ok (.iconst 1, 1) := by decide +kernel
theorem dX6_keep_10 : decode cX6_keep 10 = .ok (.invokestatic 68, 3) := by decide +kernel
theorem dX6_keep_13 : decode cX6_keep 13 = .ok (.ifCond .eq 29, 3) := by decide +kernel
theorem dX6_keep_16 : decode cX6_keep 16 = .ok (.iload_n 2, 1) := by decide +kernel
theorem dX6_keep_17 : decode cX6_keep 17 = .ok (.iconst 1, 1) := by decide +kernel
theorem dX6_keep_18 : decode cX6_keep 18 = .ok (.if_icmp .ne 26, 3) := by decide +kernel
theorem dX6_keep_21 : decode cX6_keep 21 = .ok (.iload_n 3, 1) := by decide +kernel
theorem dX6_keep_22 : decode cX6_keep 22 = .ok (.iconst 0, 1) := by decide +kernel
theorem dX6_keep_23 : decode cX6_keep 23 = .ok (.bipush 7, 2) := by decide +kernel
theorem dX6_keep_25 : decode cX6_keep 25 = .ok (.invokestatic 68, 3) := by decide +kernel
theorem dX6_keep_28 : decode cX6_keep 28 = .ok (.ifCond .eq 14, 3) := by decide +kernel
theorem dX6_keep_31 : decode cX6_keep 31 = .ok (.iload 4, 2) := by decide +kernel
theorem dX6_keep_33 : decode cX6_keep 33 = .ok (.iconst 0, 1) := by decide +kernel
theorem dX6_keep_34 : decode cX6_keep 34 = .ok (.bipush 9, 2) := by decide +kernel
theorem dX6_keep_36 : decode cX6_keep 36 = .ok (.invokestatic 68, 3) := by decide +kernel
theorem dX6_keep_39 : decode cX6_keep 39 = .ok (.ifCond .ne 5, 3) := by decide +kernel
theorem dX6_keep_42 : decode cX6_keep 42 = .ok (.iconst (-1), 1) := by decide +kernel
theorem dX6_keep_43 : decode cX6_keep 43 = .ok (.ireturn, 1) := by decide +kernel
theorem dX6_keep_44 : decode cX6_keep 44 = .ok (.aload_n 0, 1) := by decide +kernel
theorem dX6_keep_45 : decode cX6_keep 45 = .ok (.getfield 32, 3) := by decide +kernel
theorem dX6_keep_48 : decode cX6_keep 48 = .ok (.iload_n 1, 1) := by decide +kernel
theorem dX6_keep_49 : decode cX6_keep 49 = .ok (.iload_n 2, 1) := by decide +kernel
theorem dX6_keep_50 : decode cX6_keep 50 = .ok (.iastore, 1) := by decide +kernel
theorem dX6_keep_51 : decode cX6_keep 51 = .ok (.aload_n 0, 1) := by decide +kernel
theorem dX6_keep_52 : decode cX6_keep 52 = .ok (.getfield 35, 3) := by decide +kernel
theorem dX6_keep_55 : decode cX6_keep 55 = .ok (.iload_n 1, 1) := by decide +kernel
theorem dX6_keep_56 : decode cX6_keep 56 = .ok (.iload_n 2, 1) := by decide +kernel
theorem dX6_keep_57 : decode cX6_keep 57 = .ok (.iconst 1, 1) := by decide +kernel
theorem dX6_keep_58 : decode cX6_keep 58 = .ok (.if_icmp .ne 7, 3) := by decide +kernel
theorem dX6_keep_61 : decode cX6_keep 61 = .ok (.iload_n 3, 1) := by decide +kernel
theorem dX6_keep_62 : decode cX6_keep 62 = .ok (.goto 4, 3) := by decide +kernel
theorem dX6_keep_65 : decode cX6_keep 65 = .ok (.iconst 0, 1) := by decide +kernel
theorem dX6_keep_66 : decode cX6_keep 66 = .ok (.iastore, 1) := by decide +kernel
theorem dX6_keep_67 : decode cX6_keep 67 = .ok (.aload_n 0, 1) := by decide +kernel
theorem dX6_keep_68 : decode cX6_keep 68 = .ok (.getfield 38, 3) := by decide +kernel
theorem dX6_keep_71 : decode cX6_keep 71 = .ok (.iload_n 1, 1) := by decide +kernel
theorem dX6_keep_72 : decode cX6_keep 72 = .ok (.iload_n 2, 1) := by decide +kernel
theorem dX6_keep_73 : decode cX6_keep 73 = .ok (.iconst 1, 1) := by decide +kernel
theorem dX6_keep_74 : decode cX6_keep 74 = .ok (.if_icmp .ne 8, 3) := by decide +kernel
theorem dX6_keep_77 : decode cX6_keep 77 = .ok (.iload 4, 2) := by decide +kernel
theorem dX6_keep_79 : decode cX6_keep 79 = .ok (.goto 4, 3) := by decide +kernel
theorem dX6_keep_82 : decode cX6_keep 82 = .ok (.iconst 0, 1) := by decide +kernel
theorem dX6_keep_83 : decode cX6_keep 83 = .ok (.iastore, 1) := by decide +kernel
theorem dX6_keep_84 : decode cX6_keep 84 = .ok (.iconst 0, 1) := by decide +kernel
theorem dX6_keep_85 : decode cX6_keep 85 = .ok (.ireturn, 1) := by decide +kernel
set_option maxRecDepth 20000 in
theorem ggX6_row_X6_isShelf : GoodIn wsX6_row wsX6_isShelf := goodIn_r _ [8, 9, 10, 7, 11] (by decide +kernel) (by decide +kernel)
set_option maxRecDepth 20000 in
theorem gX6_row_X6_isShelf : GoodIn wsX6_row (va_wsS RX6 117 yX6_isShelf wsX6_isShelf) := goodIn_app (goodIn_of _ (by decide +kernel)) ggX6_row_X6_isShelf
set_option maxRecDepth 20000 in
theorem ggX6_row_X6_isIn : GoodIn wsX6_row wsX6_isIn := goodIn_r _ [11] (by decide +kernel) (by decide +kernel)
set_option maxRecDepth 20000 in
theorem gX6_row_X6_isIn : GoodIn wsX6_row (va_wsS RX6 68 yX6_isIn wsX6_isIn) := goodIn_app (goodIn_of _ (by decide +kernel)) ggX6_row_X6_isIn
theorem dX6_row_0 : decode cX6_row 0 = .ok (.iload_n 1, 1) := by decide +kernel
theorem dX6_row_1 : decode cX6_row 1 = .ok (.invokestatic 117, 3) := by decide +kernel
theorem dX6_row_4 : decode cX6_row 4 = .ok (.ifCond .eq 18, 3) := by decide +kernel
theorem dX6_row_7 : decode cX6_row 7 = .ok (.iload_n 2, 1) := by decide +kernel
theorem dX6_row_8 : decode cX6_row 8 = .ok (.iconst 0, 1) := by decide +kernel
theorem dX6_row_9 : decode cX6_row 9 = .ok (.iconst 2, 1) := by decide +kernel
theorem dX6_row_10 : decode cX6_row 10 = .ok (.invokestatic 68, 3) := by decide +kernel
theorem dX6_row_13 : decode cX6_row 13 = .ok (.ifCond .eq 9, 3) := by decide +kernel
theorem dX6_row_16 : decode cX6_row 16 = .ok (.iload_n 3, 1) := by decide +kernel
theorem dX6_row_17 : decode cX6_row 17 = .ok (.bipush 100, 2) := by decide +kernel
theorem dX6_row_19 : decode cX6_row 19 = .ok (.if_icmp .le 5, 3) := by decide +kernel
theorem dX6_row_22 : decode cX6_row 22 = .ok (.iconst (-1), 1) := by decide +kernel
theorem dX6_row_23 : decode cX6_row 23 = .ok (.ireturn, 1) := by decide +kernel
theorem dX6_row_24 : decode cX6_row 24 = .ok (.iload_n 3, 1) := by decide +kernel
theorem dX6_row_25 : decode cX6_row 25 = .ok (.ifCond .ge 6, 3) := by decide +kernel
theorem dX6_row_28 : decode cX6_row 28 = .ok (.bipush (-14), 2) := by decide +kernel
theorem dX6_row_30 : decode cX6_row 30 = .ok (.ireturn, 1) := by decide +kernel
theorem dX6_row_31 : decode cX6_row 31 = .ok (.aload_n 0, 1) := by decide +kernel
theorem dX6_row_32 : decode cX6_row 32 = .ok (.getfield 32, 3) := by decide +kernel
theorem dX6_row_35 : decode cX6_row 35 = .ok (.iload_n 1, 1) := by decide +kernel
theorem dX6_row_36 : decode cX6_row 36 = .ok (.iconst 2, 1) := by decide +kernel
theorem dX6_row_37 : decode cX6_row 37 = .ok (.iastore, 1) := by decide +kernel
theorem dX6_row_38 : decode cX6_row 38 = .ok (.aload_n 0, 1) := by decide +kernel
theorem dX6_row_39 : decode cX6_row 39 = .ok (.getfield 41, 3) := by decide +kernel
theorem dX6_row_42 : decode cX6_row 42 = .ok (.iload_n 1, 1) := by decide +kernel
theorem dX6_row_43 : decode cX6_row 43 = .ok (.iload_n 2, 1) := by decide +kernel
theorem dX6_row_44 : decode cX6_row 44 = .ok (.iastore, 1) := by decide +kernel
theorem dX6_row_45 : decode cX6_row 45 = .ok (.aload_n 0, 1) := by decide +kernel
theorem dX6_row_46 : decode cX6_row 46 = .ok (.getfield 44, 3) := by decide +kernel
theorem dX6_row_49 : decode cX6_row 49 = .ok (.iload_n 1, 1) := by decide +kernel
theorem dX6_row_50 : decode cX6_row 50 = .ok (.iload_n 3, 1) := by decide +kernel
theorem dX6_row_51 : decode cX6_row 51 = .ok (.iastore, 1) := by decide +kernel
theorem dX6_row_52 : decode cX6_row 52 = .ok (.iconst 0, 1) := by decide +kernel
theorem dX6_row_53 : decode cX6_row 53 = .ok (.istore 4, 2) := by decide +kernel
theorem dX6_row_55 : decode cX6_row 55 = .ok (.iload 4, 2) := by decide +kernel
theorem dX6_row_57 : decode cX6_row 57 = .ok (.bipush 100, 2) := by decide +kernel
theorem dX6_row_59 : decode cX6_row 59 = .ok (.if_icmp .ge 22, 3) := by decide +kernel
theorem dX6_row_62 : decode cX6_row 62 = .ok (.aload_n 0, 1) := by decide +kernel
theorem dX6_row_63 : decode cX6_row 63 = .ok (.getfield 47, 3) := by decide +kernel
theorem dX6_row_66 : decode cX6_row 66 = .ok (.bipush 100, 2) := by decide +kernel
theorem dX6_row_68 : decode cX6_row 68 = .ok (.iload_n 1, 1) := by decide +kernel
theorem dX6_row_69 : decode cX6_row 69 = .ok (.imul, 1) := by decide +kernel
theorem dX6_row_70 : decode cX6_row 70 = .ok (.iload 4, 2) := by decide +kernel
theorem dX6_row_72 : decode cX6_row 72 = .ok (.iadd, 1) := by decide +kernel
theorem dX6_row_73 : decode cX6_row 73 = .ok (.iconst 0, 1) := by decide +kernel
theorem dX6_row_74 : decode cX6_row 74 = .ok (.iastore, 1) := by decide +kernel
theorem dX6_row_75 : decode cX6_row 75 = .ok (.iinc 4 1, 3) := by decide +kernel
theorem dX6_row_78 : decode cX6_row 78 = .ok (.goto (-23), 3) := by decide +kernel
theorem dX6_row_81 : decode cX6_row 81 = .ok (.iconst 0, 1) := by decide +kernel
theorem dX6_row_82 : decode cX6_row 82 = .ok (.ireturn, 1) := by decide +kernel
set_option maxRecDepth 20000 in
theorem ggX6_put_X6_isShelf : GoodIn wsX6_put wsX6_isShelf := goodIn_r _ [8, 9, 10, 7, 11] (by decide +kernel) (by decide +kernel)
set_option maxRecDepth 20000 in
theorem gX6_put_X6_isShelf : GoodIn wsX6_put (va_wsS RX6 117 yX6_isShelf wsX6_isShelf) := goodIn_app (goodIn_of _ (by decide +kernel)) ggX6_put_X6_isShelf
set_option maxRecDepth 20000 in
theorem ggX6_put_X6_isIn : GoodIn wsX6_put wsX6_isIn := goodIn_r _ [11] (by decide +kernel) (by decide +kernel)
set_option maxRecDepth 20000 in
theorem gX6_put_X6_isIn : GoodIn wsX6_put (va_wsS RX6 68 yX6_isIn wsX6_isIn) := goodIn_app (goodIn_of _ (by decide +kernel)) ggX6_put_X6_isIn
theorem dX6_put_0 : decode cX6_put 0 = .ok (.iload_n 1, 1) := by decide +kernel
theorem dX6_put_1 : decode cX6_put 1 = .ok (.invokestatic 117, 3) := by decide +kernel
theorem dX6_put_4 : decode cX6_put 4 = .ok (.ifCond .ne 5, 3) := by decide +kernel
theorem dX6_put_7 : decode cX6_put 7 = .ok (.iconst (-1), 1) := by decide +kernel
theorem dX6_put_8 : decode cX6_put 8 = .ok (.ireturn, 1) := by decide +kernel
theorem dX6_put_9 : decode cX6_put 9 = .ok (.aload_n 0, 1) := by decide +kernel
theorem dX6_put_10 : decode cX6_put 10 = .ok (.getfield 32, 3) := by decide +kernel
theorem dX6_put_13 : decode cX6_put 13 = .ok (.iload_n 1, 1) := by decide +kernel
theorem dX6_put_14 : decode cX6_put 14 = .ok (.iaload, 1) := by decide +kernel
theorem dX6_put_15 : decode cX6_put 15 = .ok (.iconst 2, 1) := by decide +kernel
theorem dX6_put_16 : decode cX6_put 16 = .ok (.if_icmp .eq 20, 3) := by decide +kernel
theorem dX6_put_19 : decode cX6_put 19 = .ok (.aload_n 0, 1) := by decide +kernel
theorem dX6_put_20 : decode cX6_put 20 = .ok (.getfield 32, 3) := by decide +kernel
theorem dX6_put_23 : decode cX6_put 23 = .ok (.iload_n 1, 1) := by decide +kernel
theorem dX6_put_24 : decode cX6_put 24 = .ok (.iaload, 1) := by decide +kernel
theorem dX6_put_25 : decode cX6_put 25 = .ok (.ifCond .ne 8, 3) := by decide +kernel
theorem dX6_put_28 : decode cX6_put 28 = .ok (.bipush (-11), 2) := by decide +kernel
theorem dX6_put_30 : decode cX6_put 30 = .ok (.goto 5, 3) := by decide +kernel
theorem dX6_put_33 : decode cX6_put 33 = .ok (.bipush (-12), 2) := by decide +kernel
theorem dX6_put_35 : decode cX6_put 35 = .ok (.ireturn, 1) := by decide +kernel
theorem dX6_put_36 : decode cX6_put 36 = .ok (.iload_n 2, 1) := by decide +kernel
theorem dX6_put_37 : decode cX6_put 37 = .ok (.iconst 0, 1) := by decide +kernel
theorem dX6_put_38 : decode cX6_put 38 = .ok (.aload_n 0, 1) := by decide +kernel
theorem dX6_put_39 : decode cX6_put 39 = .ok (.getfield 44, 3) := by decide +kernel
theorem dX6_put_42 : decode cX6_put 42 = .ok (.iload_n 1, 1) := by decide +kernel
theorem dX6_put_43 : decode cX6_put 43 = .ok (.iaload, 1) := by decide +kernel
theorem dX6_put_44 : decode cX6_put 44 = .ok (.iconst 1, 1) := by decide +kernel
theorem dX6_put_45 : decode cX6_put 45 = .ok (.isub, 1) := by decide +kernel
theorem dX6_put_46 : decode cX6_put 46 = .ok (.invokestatic 68, 3) := by decide +kernel
theorem dX6_put_49 : decode cX6_put 49 = .ok (.ifCond .ne 6, 3) := by decide +kernel
theorem dX6_put_52 : decode cX6_put 52 = .ok (.bipush (-13), 2) := by decide +kernel
theorem dX6_put_54 : decode cX6_put 54 = .ok (.ireturn, 1) := by decide +kernel
theorem dX6_put_55 : decode cX6_put 55 = .ok (.aload_n 0, 1) := by decide +kernel
theorem dX6_put_56 : decode cX6_put 56 = .ok (.getfield 47, 3) := by decide +kernel
theorem dX6_put_59 : decode cX6_put 59 = .ok (.bipush 100, 2) := by decide +kernel
theorem dX6_put_61 : decode cX6_put 61 = .ok (.iload_n 1, 1) := by decide +kernel
theorem dX6_put_62 : decode cX6_put 62 = .ok (.imul, 1) := by decide +kernel
theorem dX6_put_63 : decode cX6_put 63 = .ok (.iload_n 2, 1) := by decide +kernel
theorem dX6_put_64 : decode cX6_put 64 = .ok (.iadd, 1) := by decide +kernel
theorem dX6_put_65 : decode cX6_put 65 = .ok (.aload_n 0, 1) := by decide +kernel
theorem dX6_put_66 : decode cX6_put 66 = .ok (.getfield 41, 3) := by decide +kernel
theorem dX6_put_69 : decode cX6_put 69 = .ok (.iload_n 1, 1) := by decide +kernel
theorem dX6_put_70 : decode cX6_put 70 = .ok (.iaload, 1) := by decide +kernel
theorem dX6_put_71 : decode cX6_put 71 = .ok (.ifCond .ne 8, 3) := by decide +kernel
theorem dX6_put_74 : decode cX6_put 74 = .ok (.iload_n 3, 1) := by decide +kernel
theorem dX6_put_75 : decode cX6_put 75 = .ok (.i2b, 1) := by decide +kernel
theorem dX6_put_76 : decode cX6_put 76 = .ok (.goto 19, 3) := by decide +kernel
theorem dX6_put_79 : decode cX6_put 79 = .ok (.aload_n 0, 1) := by decide +kernel
theorem dX6_put_80 : decode cX6_put 80 = .ok (.getfield 41, 3) := by decide +kernel
theorem dX6_put_83 : decode cX6_put 83 = .ok (.iload_n 1, 1) := by decide +kernel
theorem dX6_put_84 : decode cX6_put 84 = .ok (.iaload, 1) := by decide +kernel
theorem dX6_put_85 : decode cX6_put 85 = .ok (.iconst 1, 1) := by decide +kernel
theorem dX6_put_86 : decode cX6_put 86 = .ok (.if_icmp .ne 8, 3) := by decide +kernel
theorem dX6_put_89 : decode cX6_put 89 = .ok (.iload_n 3, 1) := by decide +kernel
theorem dX6_put_90 : decode cX6_put 90 = .ok (.i2s, 1) := by decide +kernel
theorem dX6_put_91 : decode cX6_put 91 = .ok (.goto 4, 3) := by decide +kernel
theorem dX6_put_94 : decode cX6_put 94 = .ok (.iload_n 3, 1) := by decide +kernel
theorem dX6_put_95 : decode cX6_put 95 = .ok (.iastore, 1) := by decide +kernel
theorem dX6_put_96 : decode cX6_put 96 = .ok (.iconst 0, 1) := by decide +kernel
theorem dX6_put_97 : decode cX6_put 97 = .ok (.ireturn, 1) := by decide +kernel
set_option maxRecDepth 20000 in
theorem ggX6_element_X6_isShelf : GoodIn wsX6_element wsX6_isShelf := goodIn_r _ [8, 9, 10, 7, 11] (by decide +kernel) (by decide +kernel)
set_option maxRecDepth 20000 in
theorem gX6_element_X6_isShelf : GoodIn wsX6_element (va_wsS RX6 117 yX6_isShelf wsX6_isShelf) := goodIn_app (goodIn_of _ (by decide +kernel)) ggX6_element_X6_isShelf
set_option maxRecDepth 20000 in
theorem ggX6_element_X6_isIn : GoodIn wsX6_element wsX6_isIn := goodIn_r _ [11] (by decide +kernel) (by decide +kernel)
set_option maxRecDepth 20000 in
theorem gX6_element_X6_isIn : GoodIn wsX6_element (va_wsS RX6 68 yX6_isIn wsX6_isIn) := goodIn_app (goodIn_of _ (by decide +kernel)) ggX6_element_X6_isIn
theorem dX6_element_0 : decode cX6_element 0 = .ok (.aload_n 0, 1) := by decide +kernel
theorem dX6_element_1 : decode cX6_element 1 = .ok (.iload_n 1, 1) := by decide +kernel
theorem dX6_element_2 : decode cX6_element 2 = .ok (.invokestatic 117, 3) := by decide +kernel
theorem dX6_element_5 : decode cX6_element 5 = .ok (.ifCond .ne 7, 3) := by decide +kernel
theorem dX6_element_8 : decode cX6_element 8 = .ok (.iconst 1, 1) := by decide +kernel
theorem dX6_element_9 : decode cX6_element 9 = .ok (.goto 34, 3) := by decide +kernel
theorem dX6_element_12 : decode cX6_element 12 = .ok (.aload_n 0, 1) := by decide +kernel
theorem dX6_element_13 : decode cX6_element 13 = .ok (.getfield 32, 3) := by decide +kernel
theorem dX6_element_16 : decode cX6_element 16 = .ok (.iload_n 1, 1) := by decide +kernel
theorem dX6_element_17 : decode cX6_element 17 = .ok (.iaload, 1) := by decide +kernel
theorem dX6_element_18 : decode cX6_element 18 = .ok (.iconst 2, 1) := by decide +kernel
theorem dX6_element_19 : decode cX6_element 19 = .ok (.if_icmp .ne 19, 3) := by decide +kernel
theorem dX6_element_22 : decode cX6_element 22 = .ok (.iload_n 2, 1) := by decide +kernel
theorem dX6_element_23 : decode cX6_element 23 = .ok (.iconst 0, 1) := by decide +kernel
theorem dX6_element_24 : decode cX6_element 24 = .ok (.aload_n 0, 1) := by decide +kernel
theorem dX6_element_25 : decode cX6_element 25 = .ok (.getfield 44, 3) := by decide +kernel
theorem dX6_element_28 : decode cX6_element 28 = .ok (.iload_n 1, 1) := by decide +kernel
theorem dX6_element_29 : decode cX6_element 29 = .ok (.iaload, 1) := by decide +kernel
theorem dX6_element_30 : decode cX6_element 30 = .ok (.iconst 1, 1) := by decide +kernel
theorem dX6_element_31 : decode cX6_element 31 = .ok (.isub, 1) := by decide +kernel
theorem dX6_element_32 : decode cX6_element 32 = .ok (.invokestatic 68, 3) := by decide +kernel
theorem dX6_element_35 : decode cX6_element 35 = .ok (.ifCond .ne 7, 3) := by decide +kernel
theorem dX6_element_38 : decode cX6_element 38 = .ok (.iconst 2, 1) := by decide +kernel
theorem dX6_element_39 : decode cX6_element 39 = .ok (.goto 4, 3) := by decide +kernel
theorem dX6_element_42 : decode cX6_element 42 = .ok (.iconst 0, 1) := by decide +kernel
theorem dX6_element_43 : decode cX6_element 43 = .ok (.putfield 221, 3) := by decide +kernel
theorem dX6_element_46 : decode cX6_element 46 = .ok (.aload_n 0, 1) := by decide +kernel
theorem dX6_element_47 : decode cX6_element 47 = .ok (.getfield 221, 3) := by decide +kernel
theorem dX6_element_50 : decode cX6_element 50 = .ok (.ifCond .ne 18, 3) := by decide +kernel
theorem dX6_element_53 : decode cX6_element 53 = .ok (.aload_n 0, 1) := by decide +kernel
theorem dX6_element_54 : decode cX6_element 54 = .ok (.getfield 47, 3) := by decide +kernel
theorem dX6_element_57 : decode cX6_element 57 = .ok (.bipush 100, 2) := by decide +kernel
theorem dX6_element_59 : decode cX6_element 59 = .ok (.iload_n 1, 1) := by decide +kernel
theorem dX6_element_60 : decode cX6_element 60 = .ok (.imul, 1) := by decide +kernel
theorem dX6_element_61 : decode cX6_element 61 = .ok (.iload_n 2, 1) := by decide +kernel
theorem dX6_element_62 : decode cX6_element 62 = .ok (.iadd, 1) := by decide +kernel
theorem dX6_element_63 : decode cX6_element 63 = .ok (.iaload, 1) := by decide +kernel
theorem dX6_element_64 : decode cX6_element 64 = .ok (.i2l, 1) := by decide +kernel
theorem dX6_element_65 : decode cX6_element 65 = .ok (.goto 4, 3) := by decide +kernel
theorem dX6_element_68 : decode cX6_element 68 = .ok (.lconst 0, 1) := by decide +kernel
theorem dX6_element_69 : decode cX6_element 69 = .ok (.lreturn, 1) := by decide +kernel
theorem dX6_thrown_0 : decode cX6_thrown 0 = .ok (.aload_n 0, 1) := by decide +kernel
theorem dX6_thrown_1 : decode cX6_thrown 1 = .ok (.getfield 221, 3) := by decide +kernel
theorem dX6_thrown_4 : decode cX6_thrown 4 = .ok (.ireturn, 1) := by decide +kernel
set_option maxRecDepth 20000 in
theorem ggX6_copy_X6_isShelf : GoodIn wsX6_copy wsX6_isShelf := goodIn_r _ [9, 10, 11, 8, 12] (by decide +kernel) (by decide +kernel)
set_option maxRecDepth 20000 in
theorem gX6_copy_X6_isShelf : GoodIn wsX6_copy (va_wsS RX6 117 yX6_isShelf wsX6_isShelf) := goodIn_app (goodIn_of _ (by decide +kernel)) ggX6_copy_X6_isShelf
theorem dX6_copy_0 : decode cX6_copy 0 = .ok (.iload_n 1, 1) := by decide +kernel
theorem dX6_copy_1 : decode cX6_copy 1 = .ok (.invokestatic 117, 3) := by decide +kernel
theorem dX6_copy_4 : decode cX6_copy 4 = .ok (.ifCond .eq 10, 3) := by decide +kernel
theorem dX6_copy_7 : decode cX6_copy 7 = .ok (.iload_n 3, 1) := by decide +kernel
theorem dX6_copy_8 : decode cX6_copy 8 = .ok (.invokestatic 117, 3) := by decide +kernel
theorem dX6_copy_11 : decode cX6_copy 11 = .ok (.ifCond .ne 5, 3) := by decide +kernel
theorem dX6_copy_14 : decode cX6_copy 14 = .ok (.iconst (-1), 1) := by decide +kernel
theorem dX6_copy_15 : decode cX6_copy 15 = .ok (.ireturn, 1) := by decide +kernel
theorem dX6_copy_16 : decode cX6_copy 16 = .ok (.aload_n 0, 1) := by decide +kernel
theorem dX6_copy_17 : decode cX6_copy 17 = .ok (.getfield 32, 3) := by decide +kernel
theorem dX6_copy_20 : decode cX6_copy 20 = .ok (.iload_n 1, 1) := by decide +kernel
theorem dX6_copy_21 : decode cX6_copy 21 = .ok (.iaload, 1) := by decide +kernel
theorem dX6_copy_22 : decode cX6_copy 22 = .ok (.ifCond .eq 12, 3) := by decide +kernel
theorem dX6_copy_25 : decode cX6_copy 25 = .ok (.aload_n 0, 1) := by decide +kernel
theorem dX6_copy_26 : decode cX6_copy 26 = .ok (.getfield 32, 3) := by decide +kernel
theorem dX6_copy_29 : decode cX6_copy 29 = .ok (.iload_n 3, 1) := by decide +kernel
theorem dX6_copy_30 : decode cX6_copy 30 = .ok (.iaload, 1) := by decide +kernel
theorem dX6_copy_31 : decode cX6_copy 31 = .ok (.ifCond .ne 6, 3) := by decide +kernel
theorem dX6_copy_34 : decode cX6_copy 34 = .ok (.bipush (-11), 2) := by decide +kernel
theorem dX6_copy_36 : decode cX6_copy 36 = .ok (.ireturn, 1) := by decide +kernel
theorem dX6_copy_37 : decode cX6_copy 37 = .ok (.aload_n 0, 1) := by decide +kernel
theorem dX6_copy_38 : decode cX6_copy 38 = .ok (.getfield 32, 3) := by decide +kernel
theorem dX6_copy_41 : decode cX6_copy 41 = .ok (.iload_n 1, 1) := by decide +kernel
theorem dX6_copy_42 : decode cX6_copy 42 = .ok (.iaload, 1) := by decide +kernel
theorem dX6_copy_43 : decode cX6_copy 43 = .ok (.iconst 1, 1) := by decide +kernel
theorem dX6_copy_44 : decode cX6_copy 44 = .ok (.if_icmp .eq 28, 3) := by decide +kernel
theorem dX6_copy_47 : decode cX6_copy 47 = .ok (.aload_n 0, 1) := by decide +kernel
theorem dX6_copy_48 : decode cX6_copy 48 = .ok (.getfield 32, 3) := by decide +kernel
theorem dX6_copy_51 : decode cX6_copy 51 = .ok (.iload_n 3, 1) := by decide +kernel
theorem dX6_copy_52 : decode cX6_copy 52 = .ok (.iaload, 1) := by decide +kernel
theorem dX6_copy_53 : decode cX6_copy 53 = .ok (.iconst 1, 1) := by decide +kernel
theorem dX6_copy_54 : decode cX6_copy 54 = .ok (.if_icmp .eq 18, 3) := by decide +kernel
theorem dX6_copy_57 : decode cX6_copy 57 = .ok (.aload_n 0, 1) := by decide +kernel
theorem dX6_copy_58 : decode cX6_copy 58 = .ok (.getfield 41, 3) := by decide +kernel
theorem dX6_copy_61 : decode cX6_copy 61 = .ok (.iload_n 1, 1) := by decide +kernel
theorem dX6_copy_62 : decode cX6_copy 62 = .ok (.iaload, 1) := by decide +kernel
theorem dX6_copy_63 : decode cX6_copy 63 = .ok (.aload_n 0, 1) := by decide +kernel
theorem dX6_copy_64 : decode cX6_copy 64 = .ok (.getfield 41, 3) := by decide +kernel
theorem dX6_copy_67 : decode cX6_copy 67 = .ok (.iload_n 3, 1) := by decide +kernel
theorem dX6_copy_68 : decode cX6_copy 68 = .ok (.iaload, 1) := by decide +kernel
theorem dX6_copy_69 : decode cX6_copy 69 = .ok (.if_icmp .eq 6, 3) := by decide +kernel
theorem dX6_copy_72 : decode cX6_copy 72 = .ok (.bipush (-12), 2) := by decide +kernel
theorem dX6_copy_74 : decode cX6_copy 74 = .ok (.ireturn, 1) := by decide +kernel
theorem dX6_copy_75 : decode cX6_copy 75 = .ok (.iload 5, 2) := by decide +kernel
theorem dX6_copy_77 : decode cX6_copy 77 = .ok (.ifCond .lt 39, 3) := by decide +kernel
theorem dX6_copy_80 : decode cX6_copy 80 = .ok (.iload_n 2, 1) := by decide +kernel
theorem dX6_copy_81 : decode cX6_copy 81 = .ok (.ifCond .lt 35, 3) := by decide +kernel
theorem dX6_copy_84 : decode cX6_copy 84 = .ok (.iload 4, 2) := by decide +kernel
theorem dX6_copy_86 : decode cX6_copy 86 = .ok (.ifCond .lt 30, 3) := by decide +kernel
theorem dX6_copy_89 : decode cX6_copy 89 = .ok (.iload 5, 2) := by decide +kernel
theorem dX6_copy_91 : decode cX6_copy 91 = .ok (.aload_n 0, 1) := by decide +kernel
theorem dX6_copy_92 : decode cX6_copy 92 = .ok (.getfield 44, 3) := by decide +kernel
theorem dX6_copy_95 : decode cX6_copy 95 = .ok (.iload_n 1, 1) := by decide +kernel
theorem dX6_copy_96 : decode cX6_copy 96 = .ok (.iaload, 1) := by decide +kernel
theorem dX6_copy_97 : decode cX6_copy 97 = .ok (.iload_n 2, 1) := by decide +kernel
theorem dX6_copy_98 : decode cX6_copy 98 = .ok (.isub, 1) := by decide +kernel
theorem dX6_copy_99 : decode cX6_copy 99 = .ok (.if_icmp .gt 17, 3) := by decide +kernel
theorem dX6_copy_102 : decode cX6_copy 102 = .ok (.iload 5, 2) := by decide +kernel
theorem dX6_copy_104 : decode cX6_copy 104 = .ok (.aload_n 0, 1) := by decide +kernel
theorem dX6_copy_105 : decode cX6_copy 105 = .ok (.getfield 44, 3) := by decide +kernel
theorem dX6_copy_108 : decode cX6_copy 108 = .ok (.iload_n 3, 1) := by decide +kernel
theorem dX6_copy_109 : decode cX6_copy 109 = .ok (.iaload, 1) := by decide +kernel
theorem dX6_copy_110 : decode cX6_copy 110 = .ok (.iload 4, 2) := by decide +kernel
theorem dX6_copy_112 : decode cX6_copy 112 = .ok (.isub, 1) := by decide +kernel
theorem dX6_copy_113 : decode cX6_copy 113 = .ok (.if_icmp .le 6, 3) := by decide +kernel
theorem dX6_copy_116 : decode cX6_copy 116 = .ok (.bipush (-13), 2) := by decide +kernel
theorem dX6_copy_118 : decode cX6_copy 118 = .ok (.ireturn, 1) := by decide +kernel
theorem dX6_copy_119 : decode cX6_copy 119 = .ok (.iconst 0, 1) := by decide +kernel
theorem dX6_copy_120 : decode cX6_copy 120 = .ok (.istore 6, 2) := by decide +kernel
theorem dX6_copy_122 : decode cX6_copy 122 = .ok (.iload 6, 2) := by decide +kernel
theorem dX6_copy_124 : decode cX6_copy 124 = .ok (.iload 5, 2) := by decide +kernel
theorem dX6_copy_126 : decode cX6_copy 126 = .ok (.if_icmp .ge 30, 3) := by decide +kernel
theorem dX6_copy_129 : decode cX6_copy 129 = .ok (.aload_n 0, 1) := by decide +kernel
theorem dX6_copy_130 : decode cX6_copy 130 = .ok (.getfield 50, 3) := by decide +kernel
theorem dX6_copy_133 : decode cX6_copy 133 = .ok (.iload 6, 2) := by decide +kernel
theorem dX6_copy_135 : decode cX6_copy 135 = .ok (.aload_n 0, 1) := by decide +kernel
theorem dX6_copy_136 : decode cX6_copy 136 = .ok (.getfield 47, 3) := by decide +kernel
theorem dX6_copy_139 : decode cX6_copy 139 = .ok (.bipush 100, 2) := by decide +kernel
theorem dX6_copy_141 : decode cX6_copy 141 = .ok (.iload_n 1, 1) := by decide +kernel
theorem dX6_copy_142 : decode cX6_copy 142 = .ok (.imul, 1) := by decide +kernel
theorem dX6_copy_143 : decode cX6_copy 143 = .ok (.iload_n 2, 1) := by decide +kernel
theorem dX6_copy_144 : decode cX6_copy 144 = .ok (.iadd, 1) := by decide +kernel
theorem dX6_copy_145 : decode cX6_copy 145 = .ok (.iload 6, 2) := by decide +kernel
theorem dX6_copy_147 : decode cX6_copy 147 = .ok (.iadd, 1) := by decide +kernel
theorem dX6_copy_148 : decode cX6_copy 148 = .ok (.iaload, 1) := by decide +kernel
theorem dX6_copy_149 : decode cX6_copy 149 = .ok (.iastore, 1) := by decide +kernel
theorem dX6_copy_150 : decode cX6_copy 150 = .ok (.iinc 6 1, 3) := by decide +kernel
theorem dX6_copy_153 : decode cX6_copy 153 = .ok (.goto (-31), 3) := by decide +kernel
theorem dX6_copy_156 : decode cX6_copy 156 = .ok (.iconst 0, 1) := by decide +kernel
theorem dX6_copy_157 : decode cX6_copy 157 = .ok (.istore 6, 2) := by decide +kernel
theorem dX6_copy_159 : decode cX6_copy 159 = .ok (.iload 6, 2) := by decide +kernel
theorem dX6_copy_161 : decode cX6_copy 161 = .ok (.iload 5, 2) := by decide +kernel
theorem dX6_copy_163 : decode cX6_copy 163 = .ok (.if_icmp .ge 31, 3) := by decide +kernel
theorem dX6_copy_166 : decode cX6_copy 166 = .ok (.aload_n 0, 1) := by decide +kernel
theorem dX6_copy_167 : decode cX6_copy 167 = .ok (.getfield 47, 3) := by decide +kernel
theorem dX6_copy_170 : decode cX6_copy 170 = .ok (.bipush 100, 2) := by decide +kernel
theorem dX6_copy_172 : decode cX6_copy 172 = .ok (.iload_n 3, 1) := by decide +kernel
theorem dX6_copy_173 : decode cX6_copy 173 = .ok (.imul, 1) := by decide +kernel
theorem dX6_copy_174 : decode cX6_copy 174 = .ok (.iload 4, 2) := by decide +kernel
theorem dX6_copy_176 : decode cX6_copy 176 = .ok (.iadd, 1) := by decide +kernel
theorem dX6_copy_177 : decode cX6_copy 177 = .ok (.iload 6, 2) := by decide +kernel
theorem dX6_copy_179 : decode cX6_copy 179 = .ok (.iadd, 1) := by decide +kernel
theorem dX6_copy_180 : decode cX6_copy 180 = .ok (.aload_n 0, 1) := by decide +kernel
theorem dX6_copy_181 : decode cX6_copy 181 = .ok (.getfield 50, 3) := by decide +kernel
theorem dX6_copy_184 : decode cX6_copy 184 = .ok (.iload 6, 2) := by decide +kernel
theorem dX6_copy_186 : decode cX6_copy 186 = .ok (.iaload, 1) := by decide +kernel
theorem dX6_copy_187 : decode cX6_copy 187 = .ok (.iastore, 1) := by decide +kernel
theorem dX6_copy_188 : decode cX6_copy 188 = .ok (.iinc 6 1, 3) := by decide +kernel
theorem dX6_copy_191 : decode cX6_copy 191 = .ok (.goto (-32), 3) := by decide +kernel
theorem dX6_copy_194 : decode cX6_copy 194 = .ok (.iload 5, 2) := by decide +kernel
theorem dX6_copy_196 : decode cX6_copy 196 = .ok (.ireturn, 1) := by decide +kernel
theorem dX6_costOf_0 : decode cX6_costOf 0 = .ok (.aload_n 0, 1) := by decide +kernel
theorem dX6_costOf_1 : decode cX6_costOf 1 = .ok (.getfield 38, 3) := by decide +kernel
theorem dX6_costOf_4 : decode cX6_costOf 4 = .ok (.iload_n 1, 1) := by decide +kernel
theorem dX6_costOf_5 : decode cX6_costOf 5 = .ok (.iaload, 1) := by decide +kernel
theorem dX6_costOf_6 : decode cX6_costOf 6 = .ok (.istore_n 2, 1) := by decide +kernel
theorem dX6_costOf_7 : decode cX6_costOf 7 = .ok (.aload_n 0, 1) := by decide +kernel
theorem dX6_costOf_8 : decode cX6_costOf 8 = .ok (.getfield 35, 3) := by decide +kernel
theorem dX6_costOf_11 : decode cX6_costOf 11 = .ok (.iload_n 1, 1) := by decide +kernel
theorem dX6_costOf_12 : decode cX6_costOf 12 = .ok (.iaload, 1) := by decide +kernel
theorem dX6_costOf_13 : decode cX6_costOf 13 = .ok (.tableswitch 75 1 7 #[43, 45, 51, 55, 63, 66, 70], 43) := by decide +kernel
theorem dX6_costOf_56 : decode cX6_costOf 56 = .ok (.iconst 4, 1) := by decide +kernel
theorem dX6_costOf_57 : decode cX6_costOf 57 = .ok (.ireturn, 1) := by decide +kernel
theorem dX6_costOf_58 : decode cX6_costOf 58 = .ok (.iconst 5, 1) := by decide +kernel
theorem dX6_costOf_59 : decode cX6_costOf 59 = .ok (.iload_n 2, 1) := by decide +kernel
theorem dX6_costOf_60 : decode cX6_costOf 60 = .ok (.iconst 1, 1) := by decide +kernel
theorem dX6_costOf_61 : decode cX6_costOf 61 = .ok (.iadd, 1) := by decide +kernel
theorem dX6_costOf_62 : decode cX6_costOf 62 = .ok (.imul, 1) := by decide +kernel
theorem dX6_costOf_63 : decode cX6_costOf 63 = .ok (.ireturn, 1) := by decide +kernel
theorem dX6_costOf_64 : decode cX6_costOf 64 = .ok (.iconst 5, 1) := by decide +kernel
theorem dX6_costOf_65 : decode cX6_costOf 65 = .ok (.iload_n 2, 1) := by decide +kernel
theorem dX6_costOf_66 : decode cX6_costOf 66 = .ok (.isub, 1) := by decide +kernel
theorem dX6_costOf_67 : decode cX6_costOf 67 = .ok (.ireturn, 1) := by decide +kernel
theorem dX6_costOf_68 : decode cX6_costOf 68 = .ok (.iconst 5, 1) := by decide +kernel
theorem dX6_costOf_69 : decode cX6_costOf 69 = .ok (.iload_n 2, 1) := by decide +kernel
theorem dX6_costOf_70 : decode cX6_costOf 70 = .ok (.iconst 1, 1) := by decide +kernel
theorem dX6_costOf_71 : decode cX6_costOf 71 = .ok (.iadd, 1) := by decide +kernel
theorem dX6_costOf_72 : decode cX6_costOf 72 = .ok (.imul, 1) := by decide +kernel
theorem dX6_costOf_73 : decode cX6_costOf 73 = .ok (.iconst 4, 1) := by decide +kernel
theorem dX6_costOf_74 : decode cX6_costOf 74 = .ok (.iadd, 1) := by decide +kernel
theorem dX6_costOf_75 : decode cX6_costOf 75 = .ok (.ireturn, 1) := by decide +kernel
theorem dX6_costOf_76 : decode cX6_costOf 76 = .ok (.bipush 10, 2) := by decide +kernel
theorem dX6_costOf_78 : decode cX6_costOf 78 = .ok (.ireturn, 1) := by decide +kernel
theorem dX6_costOf_79 : decode cX6_costOf 79 = .ok (.iconst 4, 1) := by decide +kernel
theorem dX6_costOf_80 : decode cX6_costOf 80 = .ok (.iload_n 2, 1) := by decide +kernel
theorem dX6_costOf_81 : decode cX6_costOf 81 = .ok (.iadd, 1) := by decide +kernel
theorem dX6_costOf_82 : decode cX6_costOf 82 = .ok (.ireturn, 1) := by decide +kernel
theorem dX6_costOf_83 : decode cX6_costOf 83 = .ok (.bipush 12, 2) := by decide +kernel
theorem dX6_costOf_85 : decode cX6_costOf 85 = .ok (.iload_n 2, 1) := by decide +kernel
theorem dX6_costOf_86 : decode cX6_costOf 86 = .ok (.isub, 1) := by decide +kernel
theorem dX6_costOf_87 : decode cX6_costOf 87 = .ok (.ireturn, 1) := by decide +kernel
theorem dX6_costOf_88 : decode cX6_costOf 88 = .ok (.iconst 5, 1) := by decide +kernel
theorem dX6_costOf_89 : decode cX6_costOf 89 = .ok (.ireturn, 1) := by decide +kernel
set_option maxRecDepth 20000 in
theorem ggX6_cost_X6_isShelf : GoodIn wsX6_cost wsX6_isShelf := goodIn_r _ [4, 5, 6, 3, 7] (by decide +kernel) (by decide +kernel)
set_option maxRecDepth 20000 in
theorem gX6_cost_X6_isShelf : GoodIn wsX6_cost (va_wsS RX6 117 yX6_isShelf wsX6_isShelf) := goodIn_app (goodIn_of _ (by decide +kernel)) ggX6_cost_X6_isShelf
set_option maxRecDepth 20000 in
theorem ggX6_cost_X6_noScale : GoodIn wsX6_cost wsX6_noScale := goodIn_r _ [11, 12, 19, 20, 21, 22, 23, 24, 25, 26, 27, 28, 29, 30, 31, 32, 33, 34, 35, 36, 37, 38, 39, 40, 41, 42, 43, 44, 45, 46, 47, 48, 49, 50] (by decide +kernel) (by decide +kernel)
set_option maxRecDepth 20000 in
theorem gX6_cost_X6_noScale : GoodIn wsX6_cost (wsV RX6 121 RX6 yX6_noScale wsX6_noScale) := goodIn_app (goodIn_of _ (by decide +kernel)) ggX6_cost_X6_noScale
set_option maxRecDepth 20000 in
theorem ggX6_cost_X6_costOf : GoodIn wsX6_cost wsX6_costOf := goodIn_r _ [16, 17, 18, 19, 20, 21, 22, 23, 24, 25, 26, 27, 28, 29, 30, 31, 32, 33, 34, 35, 36, 37, 38, 39, 40, 41, 42, 43, 44, 45, 46, 47, 48, 49, 50] (by decide +kernel) (by decide +kernel)
set_option maxRecDepth 20000 in
theorem gX6_cost_X6_costOf : GoodIn wsX6_cost (wsV RX6 224 RX6 yX6_costOf wsX6_costOf) := goodIn_app (goodIn_of _ (by decide +kernel)) ggX6_cost_X6_costOf
theorem dX6_cost_0 : decode cX6_cost 0 = .ok (.iload_n 1, 1) := by decide +kernel
theorem dX6_cost_1 : decode cX6_cost 1 = .ok (.invokestatic 117, 3) := by decide +kernel
theorem dX6_cost_4 : decode cX6_cost 4 = .ok (.ifCond .ne 5, 3) := by decide +kernel
theorem dX6_cost_7 : decode cX6_cost 7 = .ok (.iconst (-1), 1) := by decide +kernel
theorem dX6_cost_8 : decode cX6_cost 8 = .ok (.ireturn, 1) := by decide +kernel
theorem dX6_cost_9 : decode cX6_cost 9 = .ok (.aload_n 0, 1) := by decide +kernel
theorem dX6_cost_10 : decode cX6_cost 10 = .ok (.iload_n 1, 1) := by decide +kernel
theorem dX6_cost_11 : decode cX6_cost 11 = .ok (.invokevirtual 121, 3) := by decide +kernel
theorem dX6_cost_14 : decode cX6_cost 14 = .ok (.ifCond .eq 11, 3) := by decide +kernel
theorem dX6_cost_17 : decode cX6_cost 17 = .ok (.aload_n 0, 1) := by decide +kernel
theorem dX6_cost_18 : decode cX6_cost 18 = .ok (.iload_n 1, 1) := by decide +kernel
theorem dX6_cost_19 : decode cX6_cost 19 = .ok (.invokevirtual 121, 3) := by decide +kernel
theorem dX6_cost_22 : decode cX6_cost 22 = .ok (.goto 8, 3) := by decide +kernel
theorem dX6_cost_25 : decode cX6_cost 25 = .ok (.aload_n 0, 1) := by decide +kernel
theorem dX6_cost_26 : decode cX6_cost 26 = .ok (.iload_n 1, 1) := by decide +kernel
theorem dX6_cost_27 : decode cX6_cost 27 = .ok (.invokevirtual 224, 3) := by decide +kernel
theorem dX6_cost_30 : decode cX6_cost 30 = .ok (.ireturn, 1) := by decide +kernel
set_option maxRecDepth 20000 in
theorem ggX6_toss_X6_isShelf : GoodIn wsX6_toss wsX6_isShelf := goodIn_r _ [6, 7, 8, 5, 9] (by decide +kernel) (by decide +kernel)
set_option maxRecDepth 20000 in
theorem gX6_toss_X6_isShelf : GoodIn wsX6_toss (va_wsS RX6 117 yX6_isShelf wsX6_isShelf) := goodIn_app (goodIn_of _ (by decide +kernel)) ggX6_toss_X6_isShelf
set_option maxRecDepth 20000 in
theorem ggX6_toss_X6_noScale : GoodIn wsX6_toss wsX6_noScale := goodIn_r _ [13, 14, 19, 20, 21, 22, 23, 24, 25, 26, 27, 28, 29, 30, 31, 32, 33, 34, 35, 36, 37, 38, 39, 40, 41, 42, 43, 44, 45, 46, 47, 48, 49, 50] (by decide +kernel) (by decide +kernel)
set_option maxRecDepth 20000 in
theorem gX6_toss_X6_noScale : GoodIn wsX6_toss (wsV RX6 121 RX6 yX6_noScale wsX6_noScale) := goodIn_app (goodIn_of _ (by decide +kernel)) ggX6_toss_X6_noScale
set_option maxRecDepth 20000 in
theorem ggX6_toss_X6_costOf : GoodIn wsX6_toss wsX6_costOf := goodIn_r _ [18, 1, 2, 19, 20, 21, 22, 23, 24, 25, 26, 27, 28, 29, 30, 31, 32, 33, 34, 35, 36, 37, 38, 39, 40, 41, 42, 43, 44, 45, 46, 47, 48, 49, 50] (by decide +kernel) (by decide +kernel)
set_option maxRecDepth 20000 in
theorem gX6_toss_X6_costOf : GoodIn wsX6_toss (wsV RX6 224 RX6 yX6_costOf wsX6_costOf) := goodIn_app (goodIn_of _ (by decide +kernel)) ggX6_toss_X6_costOf
theorem dX6_toss_0 : decode cX6_toss 0 = .ok (.iload_n 1, 1) := by decide +kernel
theorem dX6_toss_1 : decode cX6_toss 1 = .ok (.invokestatic 117, 3) := by decide +kernel
theorem dX6_toss_4 : decode cX6_toss 4 = .ok (.ifCond .ne 5, 3) := by decide +kernel
theorem dX6_toss_7 : decode cX6_toss 7 = .ok (.iconst (-1), 1) := by decide +kernel
theorem dX6_toss_8 : decode cX6_toss 8 = .ok (.ireturn, 1) := by decide +kernel
theorem dX6_toss_9 : decode cX6_toss 9 = .ok (.aload_n 0, 1) := by decide +kernel
theorem dX6_toss_10 : decode cX6_toss 10 = .ok (.iload_n 1, 1) := by decide +kernel
theorem dX6_toss_11 : decode cX6_toss 11 = .ok (.invokevirtual 121, 3) := by decide +kernel
theorem dX6_toss_14 : decode cX6_toss 14 = .ok (.ifCond .eq 9, 3) := by decide +kernel
theorem dX6_toss_17 : decode cX6_toss 17 = .ok (.aload_n 0, 1) := by decide +kernel
theorem dX6_toss_18 : decode cX6_toss 18 = .ok (.iload_n 1, 1) := by decide +kernel
theorem dX6_toss_19 : decode cX6_toss 19 = .ok (.invokevirtual 121, 3) := by decide +kernel
theorem dX6_toss_22 : decode cX6_toss 22 = .ok (.ireturn, 1) := by decide +kernel
theorem dX6_toss_23 : decode cX6_toss 23 = .ok (.aload_n 0, 1) := by decide +kernel
theorem dX6_toss_24 : decode cX6_toss 24 = .ok (.getfield 38, 3) := by decide +kernel
theorem dX6_toss_27 : decode cX6_toss 27 = .ok (.iload_n 1, 1) := by decide +kernel
theorem dX6_toss_28 : decode cX6_toss 28 = .ok (.iaload, 1) := by decide +kernel
theorem dX6_toss_29 : decode cX6_toss 29 = .ok (.istore_n 2, 1) := by decide +kernel
theorem dX6_toss_30 : decode cX6_toss 30 = .ok (.aload_n 0, 1) := by decide +kernel
theorem dX6_toss_31 : decode cX6_toss 31 = .ok (.getfield 35, 3) := by decide +kernel
theorem dX6_toss_34 : decode cX6_toss 34 = .ok (.iload_n 1, 1) := by decide +kernel
theorem dX6_toss_35 : decode cX6_toss 35 = .ok (.iaload, 1) := by decide +kernel
theorem dX6_toss_36 : decode cX6_toss 36 = .ok (.iconst 5, 1) := by decide +kernel
theorem dX6_toss_37 : decode cX6_toss 37 = .ok (.if_icmp .eq 7, 3) := by decide +kernel
theorem dX6_toss_40 : decode cX6_toss 40 = .ok (.iload_n 2, 1) := by decide +kernel
theorem dX6_toss_41 : decode cX6_toss 41 = .ok (.ifCond .ne 6, 3) := by decide +kernel
theorem dX6_toss_44 : decode cX6_toss 44 = .ok (.bipush (-15), 2) := by decide +kernel
theorem dX6_toss_46 : decode cX6_toss 46 = .ok (.ireturn, 1) := by decide +kernel
theorem dX6_toss_47 : decode cX6_toss 47 = .ok (.aload_n 0, 1) := by decide +kernel
theorem dX6_toss_48 : decode cX6_toss 48 = .ok (.getfield 35, 3) := by decide +kernel
theorem dX6_toss_51 : decode cX6_toss 51 = .ok (.iload_n 1, 1) := by decide +kernel
theorem dX6_toss_52 : decode cX6_toss 52 = .ok (.iaload, 1) := by decide +kernel
theorem dX6_toss_53 : decode cX6_toss 53 = .ok (.bipush 6, 2) := by decide +kernel
theorem dX6_toss_55 : decode cX6_toss 55 = .ok (.if_icmp .ne 10, 3) := by decide +kernel
theorem dX6_toss_58 : decode cX6_toss 58 = .ok (.bipush 100, 2) := by decide +kernel
theorem dX6_toss_60 : decode cX6_toss 60 = .ok (.iload_n 2, 1) := by decide +kernel
theorem dX6_toss_61 : decode cX6_toss 61 = .ok (.iadd, 1) := by decide +kernel
theorem dX6_toss_62 : decode cX6_toss 62 = .ok (.goto 27, 3) := by decide +kernel
theorem dX6_toss_65 : decode cX6_toss 65 = .ok (.aload_n 0, 1) := by decide +kernel
theorem dX6_toss_66 : decode cX6_toss 66 = .ok (.getfield 35, 3) := by decide +kernel
theorem dX6_toss_69 : decode cX6_toss 69 = .ok (.iload_n 1, 1) := by decide +kernel
theorem dX6_toss_70 : decode cX6_toss 70 = .ok (.iaload, 1) := by decide +kernel
theorem dX6_toss_71 : decode cX6_toss 71 = .ok (.bipush 7, 2) := by decide +kernel
theorem dX6_toss_73 : decode cX6_toss 73 = .ok (.if_icmp .ne 15, 3) := by decide +kernel
theorem dX6_toss_76 : decode cX6_toss 76 = .ok (.sipush 200, 3) := by decide +kernel
theorem dX6_toss_79 : decode cX6_toss 79 = .ok (.aload_n 0, 1) := by decide +kernel
theorem dX6_toss_80 : decode cX6_toss 80 = .ok (.iload_n 1, 1) := by decide +kernel
theorem dX6_toss_81 : decode cX6_toss 81 = .ok (.invokevirtual 224, 3) := by decide +kernel
theorem dX6_toss_84 : decode cX6_toss 84 = .ok (.iadd, 1) := by decide +kernel
theorem dX6_toss_85 : decode cX6_toss 85 = .ok (.goto 4, 3) := by decide +kernel
theorem dX6_toss_88 : decode cX6_toss 88 = .ok (.iload_n 2, 1) := by decide +kernel
theorem dX6_toss_89 : decode cX6_toss 89 = .ok (.ireturn, 1) := by decide +kernel
