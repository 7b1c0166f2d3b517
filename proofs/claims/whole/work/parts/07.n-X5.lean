set_option maxRecDepth 20000 in
theorem ggX5_init_X4_init : GoodIn wsX5_init wsX4_init := goodIn_r _ [31, 32, 2, 3, 26, 33, 34, 54, 55, 56] (by decide +kernel) (by decide +kernel)
set_option maxRecDepth 20000 in
theorem gX5_init_X4_init_n9 : GoodIn wsX5_init (wsX4_init) := ggX5_init_X4_init
set_option maxRecDepth 20000 in
theorem ggX5_init_X0_init : GoodIn wsX5_init wsX0_init := goodIn_r _ [36, 37, 2, 3, 26, 38, 39, 40, 41, 42, 70, 71, 72, 73, 74] (by decide +kernel) (by decide +kernel)
set_option maxRecDepth 20000 in
theorem gX5_init_X0_init_n18 : GoodIn wsX5_init (wsX0_init) := ggX5_init_X0_init
set_option maxRecDepth 20000 in
theorem ggX5_init_X2_init : GoodIn wsX5_init wsX2_init := goodIn_r _ [45, 46, 2, 3, 47, 48, 75, 76] (by decide +kernel) (by decide +kernel)
set_option maxRecDepth 20000 in
theorem gX5_init_X2_init : GoodIn wsX5_init (wsX2_init) := ggX5_init_X2_init
set_option maxRecDepth 20000 in
theorem ggX5_init_X3_init : GoodIn wsX5_init wsX3_init := goodIn_r _ [50, 51, 2, 3, 52, 5, 6, 53, 30, 31, 32, 26, 33, 34, 54, 55, 56, 77, 78, 79] (by decide +kernel) (by decide +kernel)
set_option maxRecDepth 20000 in
theorem gX5_init_X3_init_n53 : GoodIn wsX5_init (wsX3_init) := ggX5_init_X3_init
theorem dX5_init_0 : decode cX5_init 0 = .ok (.aload_n 0, 1) := by decide +kernel
theorem dX5_init_1 : decode cX5_init 1 = .ok (.invokespecial 1, 3) := by decide +kernel
theorem dX5_init_4 : decode cX5_init 4 = .ok (.aload_n 0, 1) := by decide +kernel
theorem dX5_init_5 : decode cX5_init 5 = .ok (.new 7, 3) := by decide +kernel
theorem dX5_init_8 : decode cX5_init 8 = .ok (.dup, 1) := by decide +kernel
theorem dX5_init_9 : decode cX5_init 9 = .ok (.invokespecial 9, 3) := by decide +kernel
theorem dX5_init_12 : decode cX5_init 12 = .ok (.putfield 10, 3) := by decide +kernel
theorem dX5_init_15 : decode cX5_init 15 = .ok (.aload_n 0, 1) := by decide +kernel
theorem dX5_init_16 : decode cX5_init 16 = .ok (.new 16, 3) := by decide +kernel
theorem dX5_init_19 : decode cX5_init 19 = .ok (.dup, 1) := by decide +kernel
theorem dX5_init_20 : decode cX5_init 20 = .ok (.invokespecial 18, 3) := by decide +kernel
theorem dX5_init_23 : decode cX5_init 23 = .ok (.putfield 19, 3) := by decide +kernel
theorem dX5_init_26 : decode cX5_init 26 = .ok (.aload_n 0, 1) := by decide +kernel
theorem dX5_init_27 : decode cX5_init 27 = .ok (.new 7, 3) := by decide +kernel
theorem dX5_init_30 : decode cX5_init 30 = .ok (.dup, 1) := by decide +kernel
theorem dX5_init_31 : decode cX5_init 31 = .ok (.invokespecial 9, 3) := by decide +kernel
theorem dX5_init_34 : decode cX5_init 34 = .ok (.putfield 23, 3) := by decide +kernel
theorem dX5_init_37 : decode cX5_init 37 = .ok (.aload_n 0, 1) := by decide +kernel
theorem dX5_init_38 : decode cX5_init 38 = .ok (.new 7, 3) := by decide +kernel
theorem dX5_init_41 : decode cX5_init 41 = .ok (.dup, 1) := by decide +kernel
theorem dX5_init_42 : decode cX5_init 42 = .ok (.invokespecial 9, 3) := by decide +kernel
theorem dX5_init_45 : decode cX5_init 45 = .ok (.putfield 26, 3) := by decide +kernel
theorem dX5_init_48 : decode cX5_init 48 = .ok (.aload_n 0, 1) := by decide +kernel
theorem dX5_init_49 : decode cX5_init 49 = .ok (.new 16, 3) := by decide +kernel
theorem dX5_init_52 : decode cX5_init 52 = .ok (.dup, 1) := by decide +kernel
theorem dX5_init_53 : decode cX5_init 53 = .ok (.invokespecial 18, 3) := by decide +kernel
theorem dX5_init_56 : decode cX5_init 56 = .ok (.putfield 29, 3) := by decide +kernel
theorem dX5_init_59 : decode cX5_init 59 = .ok (.aload_n 0, 1) := by decide +kernel
theorem dX5_init_60 : decode cX5_init 60 = .ok (.bipush 8, 2) := by decide +kernel
theorem dX5_init_62 : decode cX5_init 62 = .ok (.anewarray 32, 3) := by decide +kernel
theorem dX5_init_65 : decode cX5_init 65 = .ok (.putfield 34, 3) := by decide +kernel
theorem dX5_init_68 : decode cX5_init 68 = .ok (.aload_n 0, 1) := by decide +kernel
theorem dX5_init_69 : decode cX5_init 69 = .ok (.bipush 8, 2) := by decide +kernel
theorem dX5_init_71 : decode cX5_init 71 = .ok (.anewarray 38, 3) := by decide +kernel
theorem dX5_init_74 : decode cX5_init 74 = .ok (.putfield 40, 3) := by decide +kernel
theorem dX5_init_77 : decode cX5_init 77 = .ok (.aload_n 0, 1) := by decide +kernel
theorem dX5_init_78 : decode cX5_init 78 = .ok (.new 32, 3) := by decide +kernel
theorem dX5_init_81 : decode cX5_init 81 = .ok (.dup, 1) := by decide +kernel
theorem dX5_init_82 : decode cX5_init 82 = .ok (.iconst 0, 1) := by decide +kernel
theorem dX5_init_83 : decode cX5_init 83 = .ok (.iconst 0, 1) := by decide +kernel
theorem dX5_init_84 : decode cX5_init 84 = .ok (.invokespecial 44, 3) := by decide +kernel
theorem dX5_init_87 : decode cX5_init 87 = .ok (.putfield 47, 3) := by decide +kernel
theorem dX5_init_90 : decode cX5_init 90 = .ok (.aload_n 0, 1) := by decide +kernel
theorem dX5_init_91 : decode cX5_init 91 = .ok (.new 51, 3) := by decide +kernel
theorem dX5_init_94 : decode cX5_init 94 = .ok (.dup, 1) := by decide +kernel
theorem dX5_init_95 : decode cX5_init 95 = .ok (.invokespecial 53, 3) := by decide +kernel
theorem dX5_init_98 : decode cX5_init 98 = .ok (.putfield 54, 3) := by decide +kernel
theorem dX5_init_101 : decode cX5_init 101 = .ok (.aload_n 0, 1) := by decide +kernel
theorem dX5_init_102 : decode cX5_init 102 = .ok (.sipush 1000, 3) := by decide +kernel
theorem dX5_init_105 : decode cX5_init 105 = .ok (.newarray .int, 2) := by decide +kernel
theorem dX5_init_107 : decode cX5_init 107 = .ok (.putfield 58, 3) := by decide +kernel
theorem dX5_init_110 : decode cX5_init 110 = .ok (.aload_n 0, 1) := by decide +kernel
theorem dX5_init_111 : decode cX5_init 111 = .ok (.bipush 64, 2) := by decide +kernel
theorem dX5_init_113 : decode cX5_init 113 = .ok (.newarray .int, 2) := by decide +kernel
theorem dX5_init_115 : decode cX5_init 115 = .ok (.putfield 62, 3) := by decide +kernel
theorem dX5_init_118 : decode cX5_init 118 = .ok (.aload_n 0, 1) := by decide +kernel
theorem dX5_init_119 : decode cX5_init 119 = .ok (.sipush 729, 3) := by decide +kernel
theorem dX5_init_122 : decode cX5_init 122 = .ok (.newarray .int, 2) := by decide +kernel
theorem dX5_init_124 : decode cX5_init 124 = .ok (.putfield 65, 3) := by decide +kernel
theorem dX5_init_127 : decode cX5_init 127 = .ok (.return_, 1) := by decide +kernel
set_option maxRecDepth 20000 in
theorem ggX5_shop_X5_isShelf : GoodIn wsX5_shop wsX5_isShelf := goodIn_r _ [7] (by decide +kernel) (by decide +kernel)
set_option maxRecDepth 20000 in
theorem gX5_shop_X5_isShelf : GoodIn wsX5_shop (va_wsS RX5 68 yX5_isShelf wsX5_isShelf) := goodIn_app (goodIn_of _ (by decide +kernel)) ggX5_shop_X5_isShelf
set_option maxRecDepth 20000 in
theorem ggX5_shop_X5_rowOfSort : GoodIn wsX5_shop wsX5_rowOfSort := goodIn_r _ [11, 12, 13, 120, 121, 122, 123, 124, 125, 126, 127, 128, 129, 130, 131, 132, 133, 134] (by decide +kernel) (by decide +kernel)
set_option maxRecDepth 20000 in
theorem gX5_shop_X5_rowOfSort : GoodIn wsX5_shop (wsV RX5 72 RX5 yX5_rowOfSort wsX5_rowOfSort) := goodIn_app (goodIn_of _ (by decide +kernel)) ggX5_shop_X5_rowOfSort
set_option maxRecDepth 20000 in
theorem ggX5_shop_X5_notHeld : GoodIn wsX5_shop wsX5_notHeld := goodIn_r _ [17, 18, 19, 20, 6, 21, 22, 12, 120, 121, 122, 123, 124, 125, 126, 127, 128, 129, 130, 131, 132] (by decide +kernel) (by decide +kernel)
set_option maxRecDepth 20000 in
theorem gX5_shop_X5_notHeld : GoodIn wsX5_shop (wsV RX5 76 RX5 yX5_notHeld wsX5_notHeld) := goodIn_app (goodIn_of _ (by decide +kernel)) ggX5_shop_X5_notHeld
set_option maxRecDepth 20000 in
theorem ggX5_shop_X3_read : GoodIn wsX5_shop wsX3_read := goodIn_r _ [27, 28, 29, 30, 31, 32, 33, 34, 35, 36, 37, 38, 39, 40, 41, 42, 43, 44, 45, 46, 26, 47, 48, 49, 50, 51, 52, 53, 54, 55, 56, 57, 58, 59, 60, 61, 62, 63, 64, 65, 66, 67, 68, 69, 70, 71, 72, 73, 74, 75, 76, 77, 78, 79, 80, 81, 82, 83, 84, 85, 86, 87, 88, 89, 90, 91, 92, 93, 94, 95, 96, 97, 98, 99, 135, 136, 137, 133, 134, 138, 139, 140] (by decide +kernel) (by decide +kernel)
set_option maxRecDepth 20000 in
theorem gX5_shop_X3_read : GoodIn wsX5_shop (wsV RX5 80 RX3 yX3_read wsX3_read) := goodIn_app (goodIn_of _ (by decide +kernel)) ggX5_shop_X3_read
set_option maxRecDepth 20000 in
theorem ggX5_shop_X0_layOut : GoodIn wsX5_shop wsX0_layOut := goodIn_r _ [104, 105, 106, 107, 108, 109, 110, 103, 111, 112, 113, 114, 115, 116, 117, 118, 119, 141, 142, 143, 144, 145, 138, 139, 140] (by decide +kernel) (by decide +kernel)
set_option maxRecDepth 20000 in
theorem gX5_shop_X0_layOut : GoodIn wsX5_shop (wsV RX5 84 RX0 yX0_layOut wsX0_layOut) := goodIn_app (goodIn_of _ (by decide +kernel)) ggX5_shop_X0_layOut
theorem dX5_shop_0 : decode cX5_shop 0 = .ok (.iload_n 1, 1) := by decide +kernel
theorem dX5_shop_1 : decode cX5_shop 1 = .ok (.invokestatic 68, 3) := by decide +kernel
theorem dX5_shop_4 : decode cX5_shop 4 = .ok (.ifCond .ne 5, 3) := by decide +kernel
theorem dX5_shop_7 : decode cX5_shop 7 = .ok (.iconst (-1), 1) := by decide +kernel
theorem dX5_shop_8 : decode cX5_shop 8 = .ok (.ireturn, 1) := by decide +kernel
theorem dX5_shop_9 : decode cX5_shop 9 = .ok (.aload_n 0, 1) := by decide +kernel
theorem dX5_shop_10 : decode cX5_shop 10 = .ok (.iload_n 1, 1) := by decide +kernel
theorem dX5_shop_11 : decode cX5_shop 11 = .ok (.iconst 0, 1) := by decide +kernel
theorem dX5_shop_12 : decode cX5_shop 12 = .ok (.invokevirtual 72, 3) := by decide +kernel
theorem dX5_shop_15 : decode cX5_shop 15 = .ok (.astore_n 2, 1) := by decide +kernel
theorem dX5_shop_16 : decode cX5_shop 16 = .ok (.aload_n 2, 1) := by decide +kernel
theorem dX5_shop_17 : decode cX5_shop 17 = .ok (.ifnonnull 9, 3) := by decide +kernel
theorem dX5_shop_20 : decode cX5_shop 20 = .ok (.aload_n 0, 1) := by decide +kernel
theorem dX5_shop_21 : decode cX5_shop 21 = .ok (.iload_n 1, 1) := by decide +kernel
theorem dX5_shop_22 : decode cX5_shop 22 = .ok (.invokevirtual 76, 3) := by decide +kernel
theorem dX5_shop_25 : decode cX5_shop 25 = .ok (.ireturn, 1) := by decide +kernel
theorem dX5_shop_26 : decode cX5_shop 26 = .ok (.aload_n 0, 1) := by decide +kernel
theorem dX5_shop_27 : decode cX5_shop 27 = .ok (.getfield 54, 3) := by decide +kernel
theorem dX5_shop_30 : decode cX5_shop 30 = .ok (.aload_n 2, 1) := by decide +kernel
theorem dX5_shop_31 : decode cX5_shop 31 = .ok (.aload_n 0, 1) := by decide +kernel
theorem dX5_shop_32 : decode cX5_shop 32 = .ok (.getfield 10, 3) := by decide +kernel
theorem dX5_shop_35 : decode cX5_shop 35 = .ok (.invokevirtual 80, 3) := by decide +kernel
theorem dX5_shop_38 : decode cX5_shop 38 = .ok (.istore_n 3, 1) := by decide +kernel
theorem dX5_shop_39 : decode cX5_shop 39 = .ok (.aload_n 0, 1) := by decide +kernel
theorem dX5_shop_40 : decode cX5_shop 40 = .ok (.getfield 19, 3) := by decide +kernel
theorem dX5_shop_43 : decode cX5_shop 43 = .ok (.aload_n 0, 1) := by decide +kernel
theorem dX5_shop_44 : decode cX5_shop 44 = .ok (.getfield 10, 3) := by decide +kernel
theorem dX5_shop_47 : decode cX5_shop 47 = .ok (.invokevirtual 84, 3) := by decide +kernel
theorem dX5_shop_50 : decode cX5_shop 50 = .ok (.iload_n 3, 1) := by decide +kernel
theorem dX5_shop_51 : decode cX5_shop 51 = .ok (.ireturn, 1) := by decide +kernel
set_option maxRecDepth 20000 in
theorem ggX5_stone_X4_isStone : GoodIn wsX5_stone wsX4_isStone := goodIn_r _ [8, 9, 23, 24, 25] (by decide +kernel) (by decide +kernel)
set_option maxRecDepth 20000 in
theorem gX5_stone_X4_isStone : GoodIn wsX5_stone (wsV RX5 88 RX4 yX4_isStone wsX4_isStone) := goodIn_app (goodIn_of _ (by decide +kernel)) ggX5_stone_X4_isStone
theorem dX5_stone_0 : decode cX5_stone 0 = .ok (.aload_n 0, 1) := by decide +kernel
theorem dX5_stone_1 : decode cX5_stone 1 = .ok (.getfield 10, 3) := by decide +kernel
theorem dX5_stone_4 : decode cX5_stone 4 = .ok (.iload_n 1, 1) := by decide +kernel
theorem dX5_stone_5 : decode cX5_stone 5 = .ok (.invokevirtual 88, 3) := by decide +kernel
theorem dX5_stone_8 : decode cX5_stone 8 = .ok (.ifCond .eq 12, 3) := by decide +kernel
theorem dX5_stone_11 : decode cX5_stone 11 = .ok (.iload_n 2, 1) := by decide +kernel
theorem dX5_stone_12 : decode cX5_stone 12 = .ok (.ifCond .lt 8, 3) := by decide +kernel
theorem dX5_stone_15 : decode cX5_stone 15 = .ok (.iload_n 2, 1) := by decide +kernel
theorem dX5_stone_16 : decode cX5_stone 16 = .ok (.iconst 1, 1) := by decide +kernel
theorem dX5_stone_17 : decode cX5_stone 17 = .ok (.if_icmp .le 5, 3) := by decide +kernel
theorem dX5_stone_20 : decode cX5_stone 20 = .ok (.iconst (-1), 1) := by decide +kernel
theorem dX5_stone_21 : decode cX5_stone 21 = .ok (.ireturn, 1) := by decide +kernel
theorem dX5_stone_22 : decode cX5_stone 22 = .ok (.iload_n 2, 1) := by decide +kernel
theorem dX5_stone_23 : decode cX5_stone 23 = .ok (.ifCond .ne 15, 3) := by decide +kernel
theorem dX5_stone_26 : decode cX5_stone 26 = .ok (.aload_n 0, 1) := by decide +kernel
theorem dX5_stone_27 : decode cX5_stone 27 = .ok (.getfield 10, 3) := by decide +kernel
theorem dX5_stone_30 : decode cX5_stone 30 = .ok (.getfield 91, 3) := by decide +kernel
theorem dX5_stone_33 : decode cX5_stone 33 = .ok (.iload_n 1, 1) := by decide +kernel
theorem dX5_stone_34 : decode cX5_stone 34 = .ok (.iaload, 1) := by decide +kernel
theorem dX5_stone_35 : decode cX5_stone 35 = .ok (.goto 12, 3) := by decide +kernel
theorem dX5_stone_38 : decode cX5_stone 38 = .ok (.aload_n 0, 1) := by decide +kernel
theorem dX5_stone_39 : decode cX5_stone 39 = .ok (.getfield 10, 3) := by decide +kernel
theorem dX5_stone_42 : decode cX5_stone 42 = .ok (.getfield 94, 3) := by decide +kernel
theorem dX5_stone_45 : decode cX5_stone 45 = .ok (.iload_n 1, 1) := by decide +kernel
theorem dX5_stone_46 : decode cX5_stone 46 = .ok (.iaload, 1) := by decide +kernel
theorem dX5_stone_47 : decode cX5_stone 47 = .ok (.ireturn, 1) := by decide +kernel
set_option maxRecDepth 20000 in
theorem ggX5_lying_X0_isLying : GoodIn wsX5_lying wsX0_isLying := goodIn_r _ [9, 10, 53, 54, 55, 56, 57] (by decide +kernel) (by decide +kernel)
set_option maxRecDepth 20000 in
theorem gX5_lying_X0_isLying : GoodIn wsX5_lying (wsV RX5 97 RX0 yX0_isLying wsX0_isLying) := goodIn_app (goodIn_of _ (by decide +kernel)) ggX5_lying_X0_isLying
set_option maxRecDepth 20000 in
theorem ggX5_lying_X0_liftsOf : GoodIn wsX5_lying wsX0_liftsOf := goodIn_r _ [14, 15, 16, 17, 8, 18, 19, 20, 21, 22, 23, 24, 25, 26, 27, 53, 54, 55, 56, 57] (by decide +kernel) (by decide +kernel)
set_option maxRecDepth 20000 in
theorem gX5_lying_X0_liftsOf : GoodIn wsX5_lying (wsV RX5 106 RX0 yX0_liftsOf wsX0_liftsOf) := goodIn_app (goodIn_of _ (by decide +kernel)) ggX5_lying_X0_liftsOf
set_option maxRecDepth 20000 in
theorem ggX5_lying_X0_notOff : GoodIn wsX5_lying wsX0_notOff := goodIn_r _ [18, 19, 20, 53, 54, 55, 56, 57] (by decide +kernel) (by decide +kernel)
set_option maxRecDepth 20000 in
theorem gX5_lying_X0_notOff : GoodIn wsX5_lying (wsV RX5 109 RX0 yX0_notOff wsX0_notOff) := goodIn_app (goodIn_of _ (by decide +kernel)) ggX5_lying_X0_notOff
set_option maxRecDepth 20000 in
theorem ggX5_lying_X4_pricesOf : GoodIn wsX5_lying wsX4_pricesOf := goodIn_r _ [33, 34, 35, 36, 37, 32, 38, 39, 58, 59, 60] (by decide +kernel) (by decide +kernel)
set_option maxRecDepth 20000 in
theorem gX5_lying_X4_pricesOf : GoodIn wsX5_lying (wsV RX5 112 RX4 yX4_pricesOf wsX4_pricesOf) := goodIn_app (goodIn_of _ (by decide +kernel)) ggX5_lying_X4_pricesOf
theorem dX5_lying_0 : decode cX5_lying 0 = .ok (.aload_n 0, 1) := by decide +kernel
theorem dX5_lying_1 : decode cX5_lying 1 = .ok (.getfield 19, 3) := by decide +kernel
theorem dX5_lying_4 : decode cX5_lying 4 = .ok (.iload_n 1, 1) := by decide +kernel
theorem dX5_lying_5 : decode cX5_lying 5 = .ok (.invokevirtual 97, 3) := by decide +kernel
theorem dX5_lying_8 : decode cX5_lying 8 = .ok (.ifCond .ne 5, 3) := by decide +kernel
theorem dX5_lying_11 : decode cX5_lying 11 = .ok (.iconst (-1), 1) := by decide +kernel
theorem dX5_lying_12 : decode cX5_lying 12 = .ok (.ireturn, 1) := by decide +kernel
theorem dX5_lying_13 : decode cX5_lying 13 = .ok (.iload_n 2, 1) := by decide +kernel
theorem dX5_lying_14 : decode cX5_lying 14 = .ok (.tableswitch 75 0 3 #[30, 40, 50, 59], 30) := by decide +kernel
theorem dX5_lying_44 : decode cX5_lying 44 = .ok (.aload_n 0, 1) := by decide +kernel
theorem dX5_lying_45 : decode cX5_lying 45 = .ok (.getfield 19, 3) := by decide +kernel
theorem dX5_lying_48 : decode cX5_lying 48 = .ok (.getfield 100, 3) := by decide +kernel
theorem dX5_lying_51 : decode cX5_lying 51 = .ok (.iload_n 1, 1) := by decide +kernel
theorem dX5_lying_52 : decode cX5_lying 52 = .ok (.iaload, 1) := by decide +kernel
theorem dX5_lying_53 : decode cX5_lying 53 = .ok (.ireturn, 1) := by decide +kernel
theorem dX5_lying_54 : decode cX5_lying 54 = .ok (.aload_n 0, 1) := by decide +kernel
theorem dX5_lying_55 : decode cX5_lying 55 = .ok (.getfield 19, 3) := by decide +kernel
theorem dX5_lying_58 : decode cX5_lying 58 = .ok (.getfield 103, 3) := by decide +kernel
theorem dX5_lying_61 : decode cX5_lying 61 = .ok (.iload_n 1, 1) := by decide +kernel
theorem dX5_lying_62 : decode cX5_lying 62 = .ok (.iaload, 1) := by decide +kernel
theorem dX5_lying_63 : decode cX5_lying 63 = .ok (.ireturn, 1) := by decide +kernel
theorem dX5_lying_64 : decode cX5_lying 64 = .ok (.aload_n 0, 1) := by decide +kernel
theorem dX5_lying_65 : decode cX5_lying 65 = .ok (.getfield 19, 3) := by decide +kernel
theorem dX5_lying_68 : decode cX5_lying 68 = .ok (.iload_n 1, 1) := by decide +kernel
theorem dX5_lying_69 : decode cX5_lying 69 = .ok (.invokevirtual 106, 3) := by decide +kernel
theorem dX5_lying_72 : decode cX5_lying 72 = .ok (.ireturn, 1) := by decide +kernel
theorem dX5_lying_73 : decode cX5_lying 73 = .ok (.aload_n 0, 1) := by decide +kernel
theorem dX5_lying_74 : decode cX5_lying 74 = .ok (.getfield 10, 3) := by decide +kernel
theorem dX5_lying_77 : decode cX5_lying 77 = .ok (.aload_n 0, 1) := by decide +kernel
theorem dX5_lying_78 : decode cX5_lying 78 = .ok (.getfield 19, 3) := by decide +kernel
theorem dX5_lying_81 : decode cX5_lying 81 = .ok (.iload_n 1, 1) := by decide +kernel
theorem dX5_lying_82 : decode cX5_lying 82 = .ok (.invokevirtual 109, 3) := by decide +kernel
theorem dX5_lying_85 : decode cX5_lying 85 = .ok (.invokevirtual 112, 3) := by decide +kernel
theorem dX5_lying_88 : decode cX5_lying 88 = .ok (.ireturn, 1) := by decide +kernel
theorem dX5_lying_89 : decode cX5_lying 89 = .ok (.iconst (-1), 1) := by decide +kernel
theorem dX5_lying_90 : decode cX5_lying 90 = .ok (.ireturn, 1) := by decide +kernel
set_option maxRecDepth 20000 in
theorem ggX5_weighs_X5_isShelf : GoodIn wsX5_weighs wsX5_isShelf := goodIn_r _ [9] (by decide +kernel) (by decide +kernel)
set_option maxRecDepth 20000 in
theorem gX5_weighs_X5_isShelf : GoodIn wsX5_weighs (va_wsS RX5 68 yX5_isShelf wsX5_isShelf) := goodIn_app (goodIn_of _ (by decide +kernel)) ggX5_weighs_X5_isShelf
set_option maxRecDepth 20000 in
theorem ggX5_weighs_X0_isLying : GoodIn wsX5_weighs wsX0_isLying := goodIn_r _ [14, 15, 64, 65, 66, 67, 68] (by decide +kernel) (by decide +kernel)
set_option maxRecDepth 20000 in
theorem gX5_weighs_X0_isLying : GoodIn wsX5_weighs (wsV RX5 97 RX0 yX0_isLying wsX0_isLying) := goodIn_app (goodIn_of _ (by decide +kernel)) ggX5_weighs_X0_isLying
set_option maxRecDepth 20000 in
theorem ggX5_weighs_X5_notHeld : GoodIn wsX5_weighs wsX5_notHeld := goodIn_r _ [19, 20, 21, 22, 8, 23, 3, 24, 51, 52, 53, 54, 55, 56, 57, 58, 59, 60, 61, 62, 63] (by decide +kernel) (by decide +kernel)
set_option maxRecDepth 20000 in
theorem gX5_weighs_X5_notHeld : GoodIn wsX5_weighs (wsV RX5 76 RX5 yX5_notHeld wsX5_notHeld) := goodIn_app (goodIn_of _ (by decide +kernel)) ggX5_weighs_X5_notHeld
set_option maxRecDepth 20000 in
theorem ggX5_weighs_X2_allows : GoodIn wsX5_weighs wsX2_allows := goodIn_r _ [29, 30, 31, 32, 33, 34, 35, 36, 37, 38, 39, 69, 70, 64, 65, 66, 67, 68] (by decide +kernel) (by decide +kernel)
set_option maxRecDepth 20000 in
theorem gX5_weighs_X2_allows : GoodIn wsX5_weighs (wsV RX5 117 RX2 yX2_allows wsX2_allows) := goodIn_app (goodIn_of _ (by decide +kernel)) ggX5_weighs_X2_allows
set_option maxRecDepth 20000 in
theorem ggX5_weighs_X2_weightOf : GoodIn wsX5_weighs wsX2_weightOf := goodIn_r _ [43, 44, 45, 46, 30, 47, 48, 49, 50, 31, 64, 65, 66, 67, 68, 69, 70] (by decide +kernel) (by decide +kernel)
set_option maxRecDepth 20000 in
theorem gX5_weighs_X2_weightOf : GoodIn wsX5_weighs (wsV RX5 121 RX2 yX2_weightOf wsX2_weightOf) := goodIn_app (goodIn_of _ (by decide +kernel)) ggX5_weighs_X2_weightOf
theorem dX5_weighs_0 : decode cX5_weighs 0 = .ok (.iload_n 1, 1) := by decide +kernel
theorem dX5_weighs_1 : decode cX5_weighs 1 = .ok (.invokestatic 68, 3) := by decide +kernel
theorem dX5_weighs_4 : decode cX5_weighs 4 = .ok (.ifCond .eq 14, 3) := by decide +kernel
theorem dX5_weighs_7 : decode cX5_weighs 7 = .ok (.aload_n 0, 1) := by decide +kernel
theorem dX5_weighs_8 : decode cX5_weighs 8 = .ok (.getfield 19, 3) := by decide +kernel
theorem dX5_weighs_11 : decode cX5_weighs 11 = .ok (.iload_n 2, 1) := by decide +kernel
theorem dX5_weighs_12 : decode cX5_weighs 12 = .ok (.invokevirtual 97, 3) := by decide +kernel
theorem dX5_weighs_15 : decode cX5_weighs 15 = .ok (.ifCond .ne 6, 3) := by decide +kernel
theorem dX5_weighs_18 : decode cX5_weighs 18 = .ok (.ldc 115, 2) := by decide +kernel
theorem dX5_weighs_20 : decode cX5_weighs 20 = .ok (.ireturn, 1) := by decide +kernel
theorem dX5_weighs_21 : decode cX5_weighs 21 = .ok (.aload_n 0, 1) := by decide +kernel
theorem dX5_weighs_22 : decode cX5_weighs 22 = .ok (.getfield 34, 3) := by decide +kernel
theorem dX5_weighs_25 : decode cX5_weighs 25 = .ok (.iload_n 1, 1) := by decide +kernel
theorem dX5_weighs_26 : decode cX5_weighs 26 = .ok (.aaload, 1) := by decide +kernel
theorem dX5_weighs_27 : decode cX5_weighs 27 = .ok (.astore_n 3, 1) := by decide +kernel
theorem dX5_weighs_28 : decode cX5_weighs 28 = .ok (.aload_n 3, 1) := by decide +kernel
theorem dX5_weighs_29 : decode cX5_weighs 29 = .ok (.ifnonnull 12, 3) := by decide +kernel
theorem dX5_weighs_32 : decode cX5_weighs 32 = .ok (.ldc 116, 2) := by decide +kernel
theorem dX5_weighs_34 : decode cX5_weighs 34 = .ok (.aload_n 0, 1) := by decide +kernel
theorem dX5_weighs_35 : decode cX5_weighs 35 = .ok (.iload_n 1, 1) := by decide +kernel
theorem dX5_weighs_36 : decode cX5_weighs 36 = .ok (.invokevirtual 76, 3) := by decide +kernel
theorem dX5_weighs_39 : decode cX5_weighs 39 = .ok (.iadd, 1) := by decide +kernel
theorem dX5_weighs_40 : decode cX5_weighs 40 = .ok (.ireturn, 1) := by decide +kernel
theorem dX5_weighs_41 : decode cX5_weighs 41 = .ok (.aload_n 3, 1) := by decide +kernel
theorem dX5_weighs_42 : decode cX5_weighs 42 = .ok (.aload_n 0, 1) := by decide +kernel
theorem dX5_weighs_43 : decode cX5_weighs 43 = .ok (.getfield 19, 3) := by decide +kernel
theorem dX5_weighs_46 : decode cX5_weighs 46 = .ok (.iload_n 2, 1) := by decide +kernel
theorem dX5_weighs_47 : decode cX5_weighs 47 = .ok (.invokevirtual 117, 3) := by decide +kernel
theorem dX5_weighs_50 : decode cX5_weighs 50 = .ok (.ifCond .eq 15, 3) := by decide +kernel
theorem dX5_weighs_53 : decode cX5_weighs 53 = .ok (.aload_n 3, 1) := by decide +kernel
theorem dX5_weighs_54 : decode cX5_weighs 54 = .ok (.aload_n 0, 1) := by decide +kernel
theorem dX5_weighs_55 : decode cX5_weighs 55 = .ok (.getfield 19, 3) := by decide +kernel
theorem dX5_weighs_58 : decode cX5_weighs 58 = .ok (.iload_n 2, 1) := by decide +kernel
theorem dX5_weighs_59 : decode cX5_weighs 59 = .ok (.invokevirtual 121, 3) := by decide +kernel
theorem dX5_weighs_62 : decode cX5_weighs 62 = .ok (.goto 5, 3) := by decide +kernel
theorem dX5_weighs_65 : decode cX5_weighs 65 = .ok (.ldc 125, 2) := by decide +kernel
theorem dX5_weighs_67 : decode cX5_weighs 67 = .ok (.ireturn, 1) := by decide +kernel
set_option maxRecDepth 20000 in
theorem ggX5_may_X5_isShelf : GoodIn wsX5_may wsX5_isShelf := goodIn_r _ [6] (by decide +kernel) (by decide +kernel)
set_option maxRecDepth 20000 in
theorem gX5_may_X5_isShelf : GoodIn wsX5_may (va_wsS RX5 68 yX5_isShelf wsX5_isShelf) := goodIn_app (goodIn_of _ (by decide +kernel)) ggX5_may_X5_isShelf
set_option maxRecDepth 20000 in
theorem ggX5_may_X0_isLying : GoodIn wsX5_may wsX0_isLying := goodIn_r _ [11, 12, 50, 51, 52, 53, 54] (by decide +kernel) (by decide +kernel)
set_option maxRecDepth 20000 in
theorem gX5_may_X0_isLying : GoodIn wsX5_may (wsV RX5 97 RX0 yX0_isLying wsX0_isLying) := goodIn_app (goodIn_of _ (by decide +kernel)) ggX5_may_X0_isLying
set_option maxRecDepth 20000 in
theorem ggX5_may_X5_notHeld : GoodIn wsX5_may wsX5_notHeld := goodIn_r _ [16, 17, 18, 19, 5, 20, 2, 21, 37, 38, 39, 40, 41, 42, 43, 44, 45, 46, 47, 48, 49] (by decide +kernel) (by decide +kernel)
set_option maxRecDepth 20000 in
theorem gX5_may_X5_notHeld : GoodIn wsX5_may (wsV RX5 76 RX5 yX5_notHeld wsX5_notHeld) := goodIn_app (goodIn_of _ (by decide +kernel)) ggX5_may_X5_notHeld
set_option maxRecDepth 20000 in
theorem ggX5_may_X2_allows : GoodIn wsX5_may wsX2_allows := goodIn_r _ [26, 27, 28, 29, 30, 31, 32, 33, 34, 35, 36, 55, 56, 50, 51, 52, 53, 54] (by decide +kernel) (by decide +kernel)
set_option maxRecDepth 20000 in
theorem gX5_may_X2_allows : GoodIn wsX5_may (wsV RX5 117 RX2 yX2_allows wsX2_allows) := goodIn_app (goodIn_of _ (by decide +kernel)) ggX5_may_X2_allows
theorem dX5_may_0 : decode cX5_may 0 = .ok (.iload_n 1, 1) := by decide +kernel
theorem dX5_may_1 : decode cX5_may 1 = .ok (.invokestatic 68, 3) := by decide +kernel
theorem dX5_may_4 : decode cX5_may 4 = .ok (.ifCond .eq 14, 3) := by decide +kernel
theorem dX5_may_7 : decode cX5_may 7 = .ok (.aload_n 0, 1) := by decide +kernel
theorem dX5_may_8 : decode cX5_may 8 = .ok (.getfield 19, 3) := by decide +kernel
theorem dX5_may_11 : decode cX5_may 11 = .ok (.iload_n 2, 1) := by decide +kernel
theorem dX5_may_12 : decode cX5_may 12 = .ok (.invokevirtual 97, 3) := by decide +kernel
theorem dX5_may_15 : decode cX5_may 15 = .ok (.ifCond .ne 5, 3) := by decide +kernel
theorem dX5_may_18 : decode cX5_may 18 = .ok (.iconst (-1), 1) := by decide +kernel
theorem dX5_may_19 : decode cX5_may 19 = .ok (.ireturn, 1) := by decide +kernel
theorem dX5_may_20 : decode cX5_may 20 = .ok (.aload_n 0, 1) := by decide +kernel
theorem dX5_may_21 : decode cX5_may 21 = .ok (.getfield 34, 3) := by decide +kernel
theorem dX5_may_24 : decode cX5_may 24 = .ok (.iload_n 1, 1) := by decide +kernel
theorem dX5_may_25 : decode cX5_may 25 = .ok (.aaload, 1) := by decide +kernel
theorem dX5_may_26 : decode cX5_may 26 = .ok (.astore_n 3, 1) := by decide +kernel
theorem dX5_may_27 : decode cX5_may 27 = .ok (.aload_n 3, 1) := by decide +kernel
theorem dX5_may_28 : decode cX5_may 28 = .ok (.ifnonnull 9, 3) := by decide +kernel
theorem dX5_may_31 : decode cX5_may 31 = .ok (.aload_n 0, 1) := by decide +kernel
theorem dX5_may_32 : decode cX5_may 32 = .ok (.iload_n 1, 1) := by decide +kernel
theorem dX5_may_33 : decode cX5_may 33 = .ok (.invokevirtual 76, 3) := by decide +kernel
theorem dX5_may_36 : decode cX5_may 36 = .ok (.ireturn, 1) := by decide +kernel
theorem dX5_may_37 : decode cX5_may 37 = .ok (.aload_n 3, 1) := by decide +kernel
theorem dX5_may_38 : decode cX5_may 38 = .ok (.aload_n 0, 1) := by decide +kernel
theorem dX5_may_39 : decode cX5_may 39 = .ok (.getfield 19, 3) := by decide +kernel
theorem dX5_may_42 : decode cX5_may 42 = .ok (.iload_n 2, 1) := by decide +kernel
theorem dX5_may_43 : decode cX5_may 43 = .ok (.invokevirtual 117, 3) := by decide +kernel
theorem dX5_may_46 : decode cX5_may 46 = .ok (.ifCond .eq 7, 3) := by decide +kernel
theorem dX5_may_49 : decode cX5_may 49 = .ok (.iconst 1, 1) := by decide +kernel
theorem dX5_may_50 : decode cX5_may 50 = .ok (.goto 4, 3) := by decide +kernel
theorem dX5_may_53 : decode cX5_may 53 = .ok (.iconst 0, 1) := by decide +kernel
theorem dX5_may_54 : decode cX5_may 54 = .ok (.ireturn, 1) := by decide +kernel
set_option maxRecDepth 20000 in
theorem ggX5_ways_X5_isShelf : GoodIn wsX5_ways wsX5_isShelf := goodIn_r _ [7] (by decide +kernel) (by decide +kernel)
set_option maxRecDepth 20000 in
theorem gX5_ways_X5_isShelf : GoodIn wsX5_ways (va_wsS RX5 68 yX5_isShelf wsX5_isShelf) := goodIn_app (goodIn_of _ (by decide +kernel)) ggX5_ways_X5_isShelf
set_option maxRecDepth 20000 in
theorem ggX5_ways_X5_isNumber : GoodIn wsX5_ways wsX5_isNumber := goodIn_r _ [10] (by decide +kernel) (by decide +kernel)
set_option maxRecDepth 20000 in
theorem gX5_ways_X5_isNumber : GoodIn wsX5_ways (va_wsS RX5 126 yX5_isNumber wsX5_isNumber) := goodIn_app (goodIn_of _ (by decide +kernel)) ggX5_ways_X5_isNumber
set_option maxRecDepth 20000 in
theorem ggX5_ways_X5_notHeld : GoodIn wsX5_ways wsX5_notHeld := goodIn_r _ [14, 15, 16, 17, 6, 18, 1, 19, 50, 51, 52, 53, 54, 55, 56, 57, 58, 59, 60, 61, 62] (by decide +kernel) (by decide +kernel)
set_option maxRecDepth 20000 in
theorem gX5_ways_X5_notHeld : GoodIn wsX5_ways (wsV RX5 76 RX5 yX5_notHeld wsX5_notHeld) := goodIn_app (goodIn_of _ (by decide +kernel)) ggX5_ways_X5_notHeld
set_option maxRecDepth 20000 in
theorem ggX5_ways_X2_hits : GoodIn wsX5_ways wsX2_hits := goodIn_r _ [24, 25, 26, 27, 23, 28, 29, 30, 31, 32, 33, 34, 35, 36, 37, 38, 39, 40, 41, 42, 43, 44, 45, 46, 47, 48, 49, 68, 69, 63, 64, 65, 66, 67] (by decide +kernel) (by decide +kernel)
set_option maxRecDepth 20000 in
theorem gX5_ways_X2_hits : GoodIn wsX5_ways (wsV RX5 133 RX2 yX2_hits wsX2_hits) := goodIn_app (goodIn_of _ (by decide +kernel)) ggX5_ways_X2_hits
theorem dX5_ways_0 : decode cX5_ways 0 = .ok (.iload_n 1, 1) := by decide +kernel
theorem dX5_ways_1 : decode cX5_ways 1 = .ok (.invokestatic 68, 3) := by decide +kernel
theorem dX5_ways_4 : decode cX5_ways 4 = .ok (.ifCond .eq 10, 3) := by decide +kernel
theorem dX5_ways_7 : decode cX5_ways 7 = .ok (.iload_n 2, 1) := by decide +kernel
theorem dX5_ways_8 : decode cX5_ways 8 = .ok (.invokestatic 126, 3) := by decide +kernel
theorem dX5_ways_11 : decode cX5_ways 11 = .ok (.ifCond .ne 5, 3) := by decide +kernel
theorem dX5_ways_14 : decode cX5_ways 14 = .ok (.iconst (-1), 1) := by decide +kernel
theorem dX5_ways_15 : decode cX5_ways 15 = .ok (.ireturn, 1) := by decide +kernel
theorem dX5_ways_16 : decode cX5_ways 16 = .ok (.aload_n 0, 1) := by decide +kernel
theorem dX5_ways_17 : decode cX5_ways 17 = .ok (.getfield 34, 3) := by decide +kernel
theorem dX5_ways_20 : decode cX5_ways 20 = .ok (.iload_n 1, 1) := by decide +kernel
theorem dX5_ways_21 : decode cX5_ways 21 = .ok (.aaload, 1) := by decide +kernel
theorem dX5_ways_22 : decode cX5_ways 22 = .ok (.astore_n 3, 1) := by decide +kernel
theorem dX5_ways_23 : decode cX5_ways 23 = .ok (.aload_n 3, 1) := by decide +kernel
theorem dX5_ways_24 : decode cX5_ways 24 = .ok (.ifnonnull 9, 3) := by decide +kernel
theorem dX5_ways_27 : decode cX5_ways 27 = .ok (.aload_n 0, 1) := by decide +kernel
theorem dX5_ways_28 : decode cX5_ways 28 = .ok (.iload_n 1, 1) := by decide +kernel
theorem dX5_ways_29 : decode cX5_ways 29 = .ok (.invokevirtual 76, 3) := by decide +kernel
theorem dX5_ways_32 : decode cX5_ways 32 = .ok (.ireturn, 1) := by decide +kernel
theorem dX5_ways_33 : decode cX5_ways 33 = .ok (.iconst 0, 1) := by decide +kernel
theorem dX5_ways_34 : decode cX5_ways 34 = .ok (.istore 4, 2) := by decide +kernel
theorem dX5_ways_36 : decode cX5_ways 36 = .ok (.iconst 0, 1) := by decide +kernel
theorem dX5_ways_37 : decode cX5_ways 37 = .ok (.istore 5, 2) := by decide +kernel
theorem dX5_ways_39 : decode cX5_ways 39 = .ok (.iload 5, 2) := by decide +kernel
theorem dX5_ways_41 : decode cX5_ways 41 = .ok (.aload_n 0, 1) := by decide +kernel
theorem dX5_ways_42 : decode cX5_ways 42 = .ok (.getfield 19, 3) := by decide +kernel
theorem dX5_ways_45 : decode cX5_ways 45 = .ok (.getfield 129, 3) := by decide +kernel
theorem dX5_ways_48 : decode cX5_ways 48 = .ok (.if_icmp .ge 26, 3) := by decide +kernel
theorem dX5_ways_51 : decode cX5_ways 51 = .ok (.aload_n 3, 1) := by decide +kernel
theorem dX5_ways_52 : decode cX5_ways 52 = .ok (.aload_n 0, 1) := by decide +kernel
theorem dX5_ways_53 : decode cX5_ways 53 = .ok (.getfield 19, 3) := by decide +kernel
theorem dX5_ways_56 : decode cX5_ways 56 = .ok (.iload 5, 2) := by decide +kernel
theorem dX5_ways_58 : decode cX5_ways 58 = .ok (.iload_n 2, 1) := by decide +kernel
theorem dX5_ways_59 : decode cX5_ways 59 = .ok (.invokevirtual 133, 3) := by decide +kernel
theorem dX5_ways_62 : decode cX5_ways 62 = .ok (.ifCond .eq 6, 3) := by decide +kernel
theorem dX5_ways_65 : decode cX5_ways 65 = .ok (.iinc 4 1, 3) := by decide +kernel
theorem dX5_ways_68 : decode cX5_ways 68 = .ok (.iinc 5 1, 3) := by decide +kernel
theorem dX5_ways_71 : decode cX5_ways 71 = .ok (.goto (-32), 3) := by decide +kernel
theorem dX5_ways_74 : decode cX5_ways 74 = .ok (.iload 4, 2) := by decide +kernel
theorem dX5_ways_76 : decode cX5_ways 76 = .ok (.ireturn, 1) := by decide +kernel
set_option maxRecDepth 20000 in
theorem ggX5_first_X5_isShelf : GoodIn wsX5_first wsX5_isShelf := goodIn_r _ [7] (by decide +kernel) (by decide +kernel)
set_option maxRecDepth 20000 in
theorem gX5_first_X5_isShelf : GoodIn wsX5_first (va_wsS RX5 68 yX5_isShelf wsX5_isShelf) := goodIn_app (goodIn_of _ (by decide +kernel)) ggX5_first_X5_isShelf
set_option maxRecDepth 20000 in
theorem ggX5_first_X5_isNumber : GoodIn wsX5_first wsX5_isNumber := goodIn_r _ [10] (by decide +kernel) (by decide +kernel)
set_option maxRecDepth 20000 in
theorem gX5_first_X5_isNumber : GoodIn wsX5_first (va_wsS RX5 126 yX5_isNumber wsX5_isNumber) := goodIn_app (goodIn_of _ (by decide +kernel)) ggX5_first_X5_isNumber
set_option maxRecDepth 20000 in
theorem ggX5_first_X5_notHeld : GoodIn wsX5_first wsX5_notHeld := goodIn_r _ [14, 15, 16, 17, 6, 18, 1, 19, 50, 51, 52, 53, 54, 55, 56, 57, 58, 59, 60, 61, 62] (by decide +kernel) (by decide +kernel)
set_option maxRecDepth 20000 in
theorem gX5_first_X5_notHeld : GoodIn wsX5_first (wsV RX5 76 RX5 yX5_notHeld wsX5_notHeld) := goodIn_app (goodIn_of _ (by decide +kernel)) ggX5_first_X5_notHeld
set_option maxRecDepth 20000 in
theorem ggX5_first_X2_hits : GoodIn wsX5_first wsX2_hits := goodIn_r _ [24, 25, 26, 27, 23, 28, 29, 30, 31, 32, 33, 34, 35, 36, 37, 38, 39, 40, 41, 42, 43, 44, 45, 46, 47, 48, 49, 68, 69, 63, 64, 65, 66, 67] (by decide +kernel) (by decide +kernel)
set_option maxRecDepth 20000 in
theorem gX5_first_X2_hits : GoodIn wsX5_first (wsV RX5 133 RX2 yX2_hits wsX2_hits) := goodIn_app (goodIn_of _ (by decide +kernel)) ggX5_first_X2_hits
theorem dX5_first_0 : decode cX5_first 0 = .ok (.iload_n 1, 1) := by decide +kernel
theorem dX5_first_1 : decode cX5_first 1 = .ok (.invokestatic 68, 3) := by decide +kernel
theorem dX5_first_4 : decode cX5_first 4 = .ok (.ifCond .eq 10, 3) := by decide +kernel
theorem dX5_first_7 : decode cX5_first 7 = .ok (.iload_n 2, 1) := by decide +kernel
theorem dX5_first_8 : decode cX5_first 8 = .ok (.invokestatic 126, 3) := by decide +kernel
theorem dX5_first_11 : decode cX5_first 11 = .ok (.ifCond .ne 5, 3) := by decide +kernel
theorem dX5_first_14 : decode cX5_first 14 = .ok (.iconst (-1), 1) := by decide +kernel
theorem dX5_first_15 : decode cX5_first 15 = .ok (.ireturn, 1) := by decide +kernel
theorem dX5_first_16 : decode cX5_first 16 = .ok (.aload_n 0, 1) := by decide +kernel
theorem dX5_first_17 : decode cX5_first 17 = .ok (.getfield 34, 3) := by decide +kernel
theorem dX5_first_20 : decode cX5_first 20 = .ok (.iload_n 1, 1) := by decide +kernel
theorem dX5_first_21 : decode cX5_first 21 = .ok (.aaload, 1) := by decide +kernel
theorem dX5_first_22 : decode cX5_first 22 = .ok (.astore_n 3, 1) := by decide +kernel
theorem dX5_first_23 : decode cX5_first 23 = .ok (.aload_n 3, 1) := by decide +kernel
theorem dX5_first_24 : decode cX5_first 24 = .ok (.ifnonnull 9, 3) := by decide +kernel
theorem dX5_first_27 : decode cX5_first 27 = .ok (.aload_n 0, 1) := by decide +kernel
theorem dX5_first_28 : decode cX5_first 28 = .ok (.iload_n 1, 1) := by decide +kernel
theorem dX5_first_29 : decode cX5_first 29 = .ok (.invokevirtual 76, 3) := by decide +kernel
theorem dX5_first_32 : decode cX5_first 32 = .ok (.ireturn, 1) := by decide +kernel
theorem dX5_first_33 : decode cX5_first 33 = .ok (.iconst 0, 1) := by decide +kernel
theorem dX5_first_34 : decode cX5_first 34 = .ok (.istore 4, 2) := by decide +kernel
theorem dX5_first_36 : decode cX5_first 36 = .ok (.iload 4, 2) := by decide +kernel
theorem dX5_first_38 : decode cX5_first 38 = .ok (.aload_n 0, 1) := by decide +kernel
theorem dX5_first_39 : decode cX5_first 39 = .ok (.getfield 19, 3) := by decide +kernel
theorem dX5_first_42 : decode cX5_first 42 = .ok (.getfield 129, 3) := by decide +kernel
theorem dX5_first_45 : decode cX5_first 45 = .ok (.if_icmp .ge 26, 3) := by decide +kernel
theorem dX5_first_48 : decode cX5_first 48 = .ok (.aload_n 3, 1) := by decide +kernel
theorem dX5_first_49 : decode cX5_first 49 = .ok (.aload_n 0, 1) := by decide +kernel
theorem dX5_first_50 : decode cX5_first 50 = .ok (.getfield 19, 3) := by decide +kernel
theorem dX5_first_53 : decode cX5_first 53 = .ok (.iload 4, 2) := by decide +kernel
theorem dX5_first_55 : decode cX5_first 55 = .ok (.iload_n 2, 1) := by decide +kernel
theorem dX5_first_56 : decode cX5_first 56 = .ok (.invokevirtual 133, 3) := by decide +kernel
theorem dX5_first_59 : decode cX5_first 59 = .ok (.ifCond .eq 6, 3) := by decide +kernel
theorem dX5_first_62 : decode cX5_first 62 = .ok (.iload 4, 2) := by decide +kernel
theorem dX5_first_64 : decode cX5_first 64 = .ok (.ireturn, 1) := by decide +kernel
theorem dX5_first_65 : decode cX5_first 65 = .ok (.iinc 4 1, 3) := by decide +kernel
theorem dX5_first_68 : decode cX5_first 68 = .ok (.goto (-32), 3) := by decide +kernel
theorem dX5_first_71 : decode cX5_first 71 = .ok (.bipush (-4), 2) := by decide +kernel
theorem dX5_first_73 : decode cX5_first 73 = .ok (.ireturn, 1) := by decide +kernel
set_option maxRecDepth 20000 in
theorem ggX5_lifts_X5_isShelf : GoodIn wsX5_lifts wsX5_isShelf := goodIn_r _ [6] (by decide +kernel) (by decide +kernel)
set_option maxRecDepth 20000 in
theorem gX5_lifts_X5_isShelf : GoodIn wsX5_lifts (va_wsS RX5 68 yX5_isShelf wsX5_isShelf) := goodIn_app (goodIn_of _ (by decide +kernel)) ggX5_lifts_X5_isShelf
set_option maxRecDepth 20000 in
theorem ggX5_lifts_X5_isNumber : GoodIn wsX5_lifts wsX5_isNumber := goodIn_r _ [9] (by decide +kernel) (by decide +kernel)
set_option maxRecDepth 20000 in
theorem gX5_lifts_X5_isNumber : GoodIn wsX5_lifts (va_wsS RX5 126 yX5_isNumber wsX5_isNumber) := goodIn_app (goodIn_of _ (by decide +kernel)) ggX5_lifts_X5_isNumber
set_option maxRecDepth 20000 in
theorem ggX5_lifts_X5_notHeld : GoodIn wsX5_lifts wsX5_notHeld := goodIn_r _ [13, 14, 15, 16, 5, 17, 1, 18, 66, 67, 68, 69, 70, 71, 72, 73, 74, 75, 76, 77, 78] (by decide +kernel) (by decide +kernel)
set_option maxRecDepth 20000 in
theorem gX5_lifts_X5_notHeld : GoodIn wsX5_lifts (wsV RX5 76 RX5 yX5_notHeld wsX5_notHeld) := goodIn_app (goodIn_of _ (by decide +kernel)) ggX5_lifts_X5_notHeld
set_option maxRecDepth 20000 in
theorem ggX5_lifts_X5_leastLifted : GoodIn wsX5_lifts wsX5_leastLifted := goodIn_r _ [22, 2, 23, 24, 25, 26, 27, 28, 29, 30, 31, 32, 33, 34, 35, 36, 37, 38, 39, 40, 41, 42, 43, 44, 45, 46, 47, 48, 49, 50, 51, 52, 53, 54, 55, 56, 57, 58, 59, 60, 61, 62, 63, 64, 65, 66, 67, 68, 69, 70, 71, 72, 73, 74, 75, 76, 77, 78, 79, 80, 81, 82, 83, 84, 85] (by decide +kernel) (by decide +kernel)
set_option maxRecDepth 20000 in
theorem gX5_lifts_X5_leastLifted : GoodIn wsX5_lifts (wsV RX5 137 RX5 yX5_leastLifted wsX5_leastLifted) := goodIn_app (goodIn_of _ (by decide +kernel)) ggX5_lifts_X5_leastLifted
set_option maxRecDepth 20000 in
theorem ggX5_lifts_X0_liftsOf : GoodIn wsX5_lifts wsX0_liftsOf := goodIn_r _ [58, 59, 60, 61, 57, 62, 63, 64, 65, 37, 38, 39, 40, 41, 42, 79, 80, 81, 82, 83] (by decide +kernel) (by decide +kernel)
set_option maxRecDepth 20000 in
theorem gX5_lifts_X0_liftsOf : GoodIn wsX5_lifts (wsV RX5 106 RX0 yX0_liftsOf wsX0_liftsOf) := goodIn_app (goodIn_of _ (by decide +kernel)) ggX5_lifts_X0_liftsOf
theorem dX5_lifts_0 : decode cX5_lifts 0 = .ok (.iload_n 1, 1) := by decide +kernel
theorem dX5_lifts_1 : decode cX5_lifts 1 = .ok (.invokestatic 68, 3) := by decide +kernel
theorem dX5_lifts_4 : decode cX5_lifts 4 = .ok (.ifCond .eq 19, 3) := by decide +kernel
theorem dX5_lifts_7 : decode cX5_lifts 7 = .ok (.iload_n 2, 1) := by decide +kernel
theorem dX5_lifts_8 : decode cX5_lifts 8 = .ok (.invokestatic 126, 3) := by decide +kernel
theorem dX5_lifts_11 : decode cX5_lifts 11 = .ok (.ifCond .eq 12, 3) := by decide +kernel
theorem dX5_lifts_14 : decode cX5_lifts 14 = .ok (.iload_n 3, 1) := by decide +kernel
theorem dX5_lifts_15 : decode cX5_lifts 15 = .ok (.ifCond .lt 8, 3) := by decide +kernel
theorem dX5_lifts_18 : decode cX5_lifts 18 = .ok (.iload_n 3, 1) := by decide +kernel
theorem dX5_lifts_19 : decode cX5_lifts 19 = .ok (.iconst 1, 1) := by decide +kernel
theorem dX5_lifts_20 : decode cX5_lifts 20 = .ok (.if_icmp .le 5, 3) := by decide +kernel
theorem dX5_lifts_23 : decode cX5_lifts 23 = .ok (.iconst (-1), 1) := by decide +kernel
theorem dX5_lifts_24 : decode cX5_lifts 24 = .ok (.ireturn, 1) := by decide +kernel
theorem dX5_lifts_25 : decode cX5_lifts 25 = .ok (.aload_n 0, 1) := by decide +kernel
theorem dX5_lifts_26 : decode cX5_lifts 26 = .ok (.getfield 34, 3) := by decide +kernel
theorem dX5_lifts_29 : decode cX5_lifts 29 = .ok (.iload_n 1, 1) := by decide +kernel
theorem dX5_lifts_30 : decode cX5_lifts 30 = .ok (.aaload, 1) := by decide +kernel
theorem dX5_lifts_31 : decode cX5_lifts 31 = .ok (.astore 4, 2) := by decide +kernel
theorem dX5_lifts_33 : decode cX5_lifts 33 = .ok (.aload 4, 2) := by decide +kernel
theorem dX5_lifts_35 : decode cX5_lifts 35 = .ok (.ifnonnull 9, 3) := by decide +kernel
theorem dX5_lifts_38 : decode cX5_lifts 38 = .ok (.aload_n 0, 1) := by decide +kernel
theorem dX5_lifts_39 : decode cX5_lifts 39 = .ok (.iload_n 1, 1) := by decide +kernel
theorem dX5_lifts_40 : decode cX5_lifts 40 = .ok (.invokevirtual 76, 3) := by decide +kernel
theorem dX5_lifts_43 : decode cX5_lifts 43 = .ok (.ireturn, 1) := by decide +kernel
theorem dX5_lifts_44 : decode cX5_lifts 44 = .ok (.aload_n 0, 1) := by decide +kernel
theorem dX5_lifts_45 : decode cX5_lifts 45 = .ok (.aload 4, 2) := by decide +kernel
theorem dX5_lifts_47 : decode cX5_lifts 47 = .ok (.iload_n 2, 1) := by decide +kernel
theorem dX5_lifts_48 : decode cX5_lifts 48 = .ok (.invokevirtual 137, 3) := by decide +kernel
theorem dX5_lifts_51 : decode cX5_lifts 51 = .ok (.istore 5, 2) := by decide +kernel
theorem dX5_lifts_53 : decode cX5_lifts 53 = .ok (.iload 5, 2) := by decide +kernel
theorem dX5_lifts_55 : decode cX5_lifts 55 = .ok (.ifCond .lt 8, 3) := by decide +kernel
theorem dX5_lifts_58 : decode cX5_lifts 58 = .ok (.iload_n 3, 1) := by decide +kernel
theorem dX5_lifts_59 : decode cX5_lifts 59 = .ok (.iconst 1, 1) := by decide +kernel
theorem dX5_lifts_60 : decode cX5_lifts 60 = .ok (.if_icmp .ne 8, 3) := by decide +kernel
theorem dX5_lifts_63 : decode cX5_lifts 63 = .ok (.iload 5, 2) := by decide +kernel
theorem dX5_lifts_65 : decode cX5_lifts 65 = .ok (.goto 12, 3) := by decide +kernel
theorem dX5_lifts_68 : decode cX5_lifts 68 = .ok (.aload_n 0, 1) := by decide +kernel
theorem dX5_lifts_69 : decode cX5_lifts 69 = .ok (.getfield 19, 3) := by decide +kernel
theorem dX5_lifts_72 : decode cX5_lifts 72 = .ok (.iload 5, 2) := by decide +kernel
theorem dX5_lifts_74 : decode cX5_lifts 74 = .ok (.invokevirtual 106, 3) := by decide +kernel
theorem dX5_lifts_77 : decode cX5_lifts 77 = .ok (.ireturn, 1) := by decide +kernel
set_option maxRecDepth 20000 in
theorem ggX5_reach_X5_isShelf : GoodIn wsX5_reach wsX5_isShelf := goodIn_r _ [6] (by decide +kernel) (by decide +kernel)
set_option maxRecDepth 20000 in
theorem gX5_reach_X5_isShelf : GoodIn wsX5_reach (va_wsS RX5 68 yX5_isShelf wsX5_isShelf) := goodIn_app (goodIn_of _ (by decide +kernel)) ggX5_reach_X5_isShelf
set_option maxRecDepth 20000 in
theorem ggX5_reach_X5_notHeld : GoodIn wsX5_reach wsX5_notHeld := goodIn_r _ [10, 11, 12, 13, 5, 14, 1, 15, 66, 67, 68, 69, 70, 71, 72, 73, 74, 75, 76, 77, 78] (by decide +kernel) (by decide +kernel)
set_option maxRecDepth 20000 in
theorem gX5_reach_X5_notHeld : GoodIn wsX5_reach (wsV RX5 76 RX5 yX5_notHeld wsX5_notHeld) := goodIn_app (goodIn_of _ (by decide +kernel)) ggX5_reach_X5_notHeld
set_option maxRecDepth 20000 in
theorem ggX5_reach_X5_firstNotHad : GoodIn wsX5_reach wsX5_firstNotHad := goodIn_r _ [19, 20, 21, 22, 23, 5, 24, 25, 26, 27, 28, 29, 30, 31, 32, 33, 34, 35, 36, 37, 38, 39, 40, 41, 42, 43, 44, 45, 46, 47, 48, 49, 50, 51, 52, 53, 54, 55, 56, 57, 58, 59, 60, 61, 62, 63, 64, 65, 66, 67, 68, 69, 70, 71, 72, 73, 74, 75, 76, 77, 78, 79, 80, 81, 82, 83, 84, 85] (by decide +kernel) (by decide +kernel)
set_option maxRecDepth 20000 in
theorem gX5_reach_X5_firstNotHad : GoodIn wsX5_reach (wsV RX5 141 RX5 yX5_firstNotHad wsX5_firstNotHad) := goodIn_app (goodIn_of _ (by decide +kernel)) ggX5_reach_X5_firstNotHad
theorem dX5_reach_0 : decode cX5_reach 0 = .ok (.iload_n 1, 1) := by decide +kernel
theorem dX5_reach_1 : decode cX5_reach 1 = .ok (.invokestatic 68, 3) := by decide +kernel
theorem dX5_reach_4 : decode cX5_reach 4 = .ok (.ifCond .ne 5, 3) := by decide +kernel
theorem dX5_reach_7 : decode cX5_reach 7 = .ok (.iconst (-1), 1) := by decide +kernel
theorem dX5_reach_8 : decode cX5_reach 8 = .ok (.ireturn, 1) := by decide +kernel
theorem dX5_reach_9 : decode cX5_reach 9 = .ok (.aload_n 0, 1) := by decide +kernel
theorem dX5_reach_10 : decode cX5_reach 10 = .ok (.getfield 34, 3) := by decide +kernel
theorem dX5_reach_13 : decode cX5_reach 13 = .ok (.iload_n 1, 1) := by decide +kernel
theorem dX5_reach_14 : decode cX5_reach 14 = .ok (.aaload, 1) := by decide +kernel
theorem dX5_reach_15 : decode cX5_reach 15 = .ok (.astore_n 2, 1) := by decide +kernel
theorem dX5_reach_16 : decode cX5_reach 16 = .ok (.aload_n 2, 1) := by decide +kernel
theorem dX5_reach_17 : decode cX5_reach 17 = .ok (.ifnonnull 9, 3) := by decide +kernel
theorem dX5_reach_20 : decode cX5_reach 20 = .ok (.aload_n 0, 1) := by decide +kernel
theorem dX5_reach_21 : decode cX5_reach 21 = .ok (.iload_n 1, 1) := by decide +kernel
theorem dX5_reach_22 : decode cX5_reach 22 = .ok (.invokevirtual 76, 3) := by decide +kernel
theorem dX5_reach_25 : decode cX5_reach 25 = .ok (.ireturn, 1) := by decide +kernel
theorem dX5_reach_26 : decode cX5_reach 26 = .ok (.aload_n 0, 1) := by decide +kernel
theorem dX5_reach_27 : decode cX5_reach 27 = .ok (.aload_n 2, 1) := by decide +kernel
theorem dX5_reach_28 : decode cX5_reach 28 = .ok (.aload_n 0, 1) := by decide +kernel
theorem dX5_reach_29 : decode cX5_reach 29 = .ok (.getfield 19, 3) := by decide +kernel
theorem dX5_reach_32 : decode cX5_reach 32 = .ok (.invokevirtual 141, 3) := by decide +kernel
theorem dX5_reach_35 : decode cX5_reach 35 = .ok (.iconst 1, 1) := by decide +kernel
theorem dX5_reach_36 : decode cX5_reach 36 = .ok (.isub, 1) := by decide +kernel
theorem dX5_reach_37 : decode cX5_reach 37 = .ok (.ireturn, 1) := by decide +kernel
set_option maxRecDepth 20000 in
theorem ggX5_hole_X5_isShelf : GoodIn wsX5_hole wsX5_isShelf := goodIn_r _ [6] (by decide +kernel) (by decide +kernel)
set_option maxRecDepth 20000 in
theorem gX5_hole_X5_isShelf : GoodIn wsX5_hole (va_wsS RX5 68 yX5_isShelf wsX5_isShelf) := goodIn_app (goodIn_of _ (by decide +kernel)) ggX5_hole_X5_isShelf
set_option maxRecDepth 20000 in
theorem ggX5_hole_X5_notHeld : GoodIn wsX5_hole wsX5_notHeld := goodIn_r _ [10, 11, 12, 13, 5, 14, 1, 15, 66, 67, 68, 69, 70, 71, 72, 73, 74, 75, 76, 77, 78] (by decide +kernel) (by decide +kernel)
set_option maxRecDepth 20000 in
theorem gX5_hole_X5_notHeld : GoodIn wsX5_hole (wsV RX5 76 RX5 yX5_notHeld wsX5_notHeld) := goodIn_app (goodIn_of _ (by decide +kernel)) ggX5_hole_X5_notHeld
set_option maxRecDepth 20000 in
theorem ggX5_hole_X5_firstNotHad : GoodIn wsX5_hole wsX5_firstNotHad := goodIn_r _ [19, 20, 21, 22, 23, 5, 24, 25, 26, 27, 28, 29, 30, 31, 32, 33, 34, 35, 36, 37, 38, 39, 40, 41, 42, 43, 44, 45, 46, 47, 48, 49, 50, 51, 52, 53, 54, 55, 56, 57, 58, 59, 60, 61, 62, 63, 64, 65, 66, 67, 68, 69, 70, 71, 72, 73, 74, 75, 76, 77, 78, 79, 80, 81, 82, 83, 84, 85] (by decide +kernel) (by decide +kernel)
set_option maxRecDepth 20000 in
theorem gX5_hole_X5_firstNotHad : GoodIn wsX5_hole (wsV RX5 141 RX5 yX5_firstNotHad wsX5_firstNotHad) := goodIn_app (goodIn_of _ (by decide +kernel)) ggX5_hole_X5_firstNotHad
theorem dX5_hole_0 : decode cX5_hole 0 = .ok (.iload_n 1, 1) := by decide +kernel
theorem dX5_hole_1 : decode cX5_hole 1 = .ok (.invokestatic 68, 3) := by decide +kernel
theorem dX5_hole_4 : decode cX5_hole 4 = .ok (.ifCond .ne 5, 3) := by decide +kernel
theorem dX5_hole_7 : decode cX5_hole 7 = .ok (.iconst (-1), 1) := by decide +kernel
theorem dX5_hole_8 : decode cX5_hole 8 = .ok (.ireturn, 1) := by decide +kernel
theorem dX5_hole_9 : decode cX5_hole 9 = .ok (.aload_n 0, 1) := by decide +kernel
theorem dX5_hole_10 : decode cX5_hole 10 = .ok (.getfield 34, 3) := by decide +kernel
theorem dX5_hole_13 : decode cX5_hole 13 = .ok (.iload_n 1, 1) := by decide +kernel
theorem dX5_hole_14 : decode cX5_hole 14 = .ok (.aaload, 1) := by decide +kernel
theorem dX5_hole_15 : decode cX5_hole 15 = .ok (.astore_n 2, 1) := by decide +kernel
theorem dX5_hole_16 : decode cX5_hole 16 = .ok (.aload_n 2, 1) := by decide +kernel
theorem dX5_hole_17 : decode cX5_hole 17 = .ok (.ifnonnull 9, 3) := by decide +kernel
theorem dX5_hole_20 : decode cX5_hole 20 = .ok (.aload_n 0, 1) := by decide +kernel
theorem dX5_hole_21 : decode cX5_hole 21 = .ok (.iload_n 1, 1) := by decide +kernel
theorem dX5_hole_22 : decode cX5_hole 22 = .ok (.invokevirtual 76, 3) := by decide +kernel
theorem dX5_hole_25 : decode cX5_hole 25 = .ok (.ireturn, 1) := by decide +kernel
theorem dX5_hole_26 : decode cX5_hole 26 = .ok (.aload_n 0, 1) := by decide +kernel
theorem dX5_hole_27 : decode cX5_hole 27 = .ok (.aload_n 2, 1) := by decide +kernel
theorem dX5_hole_28 : decode cX5_hole 28 = .ok (.aload_n 0, 1) := by decide +kernel
theorem dX5_hole_29 : decode cX5_hole 29 = .ok (.getfield 19, 3) := by decide +kernel
theorem dX5_hole_32 : decode cX5_hole 32 = .ok (.invokevirtual 141, 3) := by decide +kernel
theorem dX5_hole_35 : decode cX5_hole 35 = .ok (.istore_n 3, 1) := by decide +kernel
theorem dX5_hole_36 : decode cX5_hole 36 = .ok (.iload_n 3, 1) := by decide +kernel
theorem dX5_hole_37 : decode cX5_hole 37 = .ok (.sipush 999, 3) := by decide +kernel
theorem dX5_hole_40 : decode cX5_hole 40 = .ok (.if_icmp .gt 7, 3) := by decide +kernel
theorem dX5_hole_43 : decode cX5_hole 43 = .ok (.iload_n 3, 1) := by decide +kernel
theorem dX5_hole_44 : decode cX5_hole 44 = .ok (.goto 5, 3) := by decide +kernel
theorem dX5_hole_47 : decode cX5_hole 47 = .ok (.bipush (-4), 2) := by decide +kernel
theorem dX5_hole_49 : decode cX5_hole 49 = .ok (.ireturn, 1) := by decide +kernel
set_option maxRecDepth 20000 in
theorem ggX5_list_X5_isShelf : GoodIn wsX5_list wsX5_isShelf := goodIn_r _ [4] (by decide +kernel) (by decide +kernel)
set_option maxRecDepth 20000 in
theorem gX5_list_X5_isShelf : GoodIn wsX5_list (va_wsS RX5 68 yX5_isShelf wsX5_isShelf) := goodIn_app (goodIn_of _ (by decide +kernel)) ggX5_list_X5_isShelf
set_option maxRecDepth 20000 in
theorem ggX5_list_X5_bestSet : GoodIn wsX5_list wsX5_bestSet := goodIn_r _ [8, 9, 10, 11, 12, 13, 14, 3, 15, 16, 17, 18, 19, 20, 21, 22, 23, 24, 25, 26, 27, 28, 29, 30, 31, 32, 33, 34, 35, 36, 37, 38, 39, 40, 41, 42, 43, 44, 45, 46, 47, 48, 49, 50, 51, 52, 53, 54, 55, 56, 57, 58, 59, 60, 61, 62, 63, 64, 65, 66, 67, 68, 69, 70, 71, 72, 73, 74, 75, 76, 77, 78, 79, 80, 81, 82, 83, 84, 85, 86, 87, 88, 89, 90, 91, 92, 93, 94, 95, 96, 97, 98, 99, 100, 101, 102, 103, 104, 105, 106, 107, 108, 109, 110, 111, 112, 113, 114, 115, 116, 117, 118, 119, 120, 121, 122, 123, 124, 125, 126, 127, 128, 129, 130] (by decide +kernel) (by decide +kernel)
set_option maxRecDepth 20000 in
theorem gX5_list_X5_bestSet : GoodIn wsX5_list (wsV RX5 145 RX5 yX5_bestSet wsX5_bestSet) := goodIn_app (goodIn_of _ (by decide +kernel)) ggX5_list_X5_bestSet
theorem dX5_list_0 : decode cX5_list 0 = .ok (.iload_n 1, 1) := by decide +kernel
theorem dX5_list_1 : decode cX5_list 1 = .ok (.invokestatic 68, 3) := by decide +kernel
theorem dX5_list_4 : decode cX5_list 4 = .ok (.ifCond .eq 10, 3) := by decide +kernel
theorem dX5_list_7 : decode cX5_list 7 = .ok (.iload_n 2, 1) := by decide +kernel
theorem dX5_list_8 : decode cX5_list 8 = .ok (.invokestatic 68, 3) := by decide +kernel
theorem dX5_list_11 : decode cX5_list 11 = .ok (.ifCond .ne 5, 3) := by decide +kernel
theorem dX5_list_14 : decode cX5_list 14 = .ok (.iconst (-1), 1) := by decide +kernel
theorem dX5_list_15 : decode cX5_list 15 = .ok (.ireturn, 1) := by decide +kernel
theorem dX5_list_16 : decode cX5_list 16 = .ok (.aload_n 0, 1) := by decide +kernel
theorem dX5_list_17 : decode cX5_list 17 = .ok (.iload_n 1, 1) := by decide +kernel
theorem dX5_list_18 : decode cX5_list 18 = .ok (.iload_n 2, 1) := by decide +kernel
theorem dX5_list_19 : decode cX5_list 19 = .ok (.iconst 0, 1) := by decide +kernel
theorem dX5_list_20 : decode cX5_list 20 = .ok (.iconst 1, 1) := by decide +kernel
theorem dX5_list_21 : decode cX5_list 21 = .ok (.invokevirtual 145, 3) := by decide +kernel
theorem dX5_list_24 : decode cX5_list 24 = .ok (.ireturn, 1) := by decide +kernel
set_option maxRecDepth 20000 in
theorem ggX5_cheapest_X5_isShelf : GoodIn wsX5_cheapest wsX5_isShelf := goodIn_r _ [5] (by decide +kernel) (by decide +kernel)
set_option maxRecDepth 20000 in
theorem gX5_cheapest_X5_isShelf : GoodIn wsX5_cheapest (va_wsS RX5 68 yX5_isShelf wsX5_isShelf) := goodIn_app (goodIn_of _ (by decide +kernel)) ggX5_cheapest_X5_isShelf
set_option maxRecDepth 20000 in
theorem ggX5_cheapest_X4_areStones : GoodIn wsX5_cheapest wsX4_areStones := goodIn_r _ [10, 11, 12, 13, 9, 14, 15, 124, 125, 126] (by decide +kernel) (by decide +kernel)
set_option maxRecDepth 20000 in
theorem gX5_cheapest_X4_areStones : GoodIn wsX5_cheapest (wsV RX5 149 RX4 yX4_areStones wsX4_areStones) := goodIn_app (goodIn_of _ (by decide +kernel)) ggX5_cheapest_X4_areStones
set_option maxRecDepth 20000 in
theorem ggX5_cheapest_X5_bestSet : GoodIn wsX5_cheapest wsX5_bestSet := goodIn_r _ [19, 20, 21, 1, 22, 23, 24, 4, 25, 26, 27, 28, 29, 30, 31, 32, 33, 34, 35, 36, 37, 38, 39, 40, 41, 42, 43, 44, 45, 46, 47, 48, 49, 50, 51, 52, 53, 54, 55, 56, 57, 58, 59, 60, 61, 62, 63, 64, 65, 66, 67, 68, 69, 70, 71, 72, 73, 74, 75, 76, 77, 78, 79, 80, 81, 82, 83, 84, 85, 86, 87, 88, 89, 90, 91, 92, 12, 13, 9, 14, 15, 93, 94, 95, 96, 97, 98, 99, 100, 101, 102, 103, 104, 105, 106, 107, 108, 109, 110, 111, 112, 113, 114, 115, 116, 117, 118, 119, 120, 121, 122, 123, 127, 128, 129, 130, 131, 132, 133, 134, 135, 124, 125, 126] (by decide +kernel) (by decide +kernel)
set_option maxRecDepth 20000 in
theorem gX5_cheapest_X5_bestSet : GoodIn wsX5_cheapest (wsV RX5 145 RX5 yX5_bestSet wsX5_bestSet) := goodIn_app (goodIn_of _ (by decide +kernel)) ggX5_cheapest_X5_bestSet
set_option maxRecDepth 20000 in
theorem ggX5_cheapest_X4_pricesOf : GoodIn wsX5_cheapest wsX4_pricesOf := goodIn_r _ [105, 106, 107, 108, 109, 9, 110, 15, 124, 125, 126] (by decide +kernel) (by decide +kernel)
set_option maxRecDepth 20000 in
theorem gX5_cheapest_X4_pricesOf : GoodIn wsX5_cheapest (wsV RX5 112 RX4 yX4_pricesOf wsX4_pricesOf) := goodIn_app (goodIn_of _ (by decide +kernel)) ggX5_cheapest_X4_pricesOf
theorem dX5_cheapest_0 : decode cX5_cheapest 0 = .ok (.iload_n 1, 1) := by decide +kernel
theorem dX5_cheapest_1 : decode cX5_cheapest 1 = .ok (.invokestatic 68, 3) := by decide +kernel
theorem dX5_cheapest_4 : decode cX5_cheapest 4 = .ok (.ifCond .eq 32, 3) := by decide +kernel
theorem dX5_cheapest_7 : decode cX5_cheapest 7 = .ok (.iload_n 2, 1) := by decide +kernel
theorem dX5_cheapest_8 : decode cX5_cheapest 8 = .ok (.invokestatic 68, 3) := by decide +kernel
theorem dX5_cheapest_11 : decode cX5_cheapest 11 = .ok (.ifCond .eq 25, 3) := by decide +kernel
theorem dX5_cheapest_14 : decode cX5_cheapest 14 = .ok (.aload_n 0, 1) := by decide +kernel
theorem dX5_cheapest_15 : decode cX5_cheapest 15 = .ok (.getfield 10, 3) := by decide +kernel
theorem dX5_cheapest_18 : decode cX5_cheapest 18 = .ok (.iload_n 3, 1) := by decide +kernel
theorem dX5_cheapest_19 : decode cX5_cheapest 19 = .ok (.invokevirtual 149, 3) := by decide +kernel
theorem dX5_cheapest_22 : decode cX5_cheapest 22 = .ok (.ifCond .eq 14, 3) := by decide +kernel
theorem dX5_cheapest_25 : decode cX5_cheapest 25 = .ok (.iload 4, 2) := by decide +kernel
theorem dX5_cheapest_27 : decode cX5_cheapest 27 = .ok (.ifCond .lt 9, 3) := by decide +kernel
theorem dX5_cheapest_30 : decode cX5_cheapest 30 = .ok (.iload 4, 2) := by decide +kernel
theorem dX5_cheapest_32 : decode cX5_cheapest 32 = .ok (.iconst 1, 1) := by decide +kernel
theorem dX5_cheapest_33 : decode cX5_cheapest 33 = .ok (.if_icmp .le 5, 3) := by decide +kernel
theorem dX5_cheapest_36 : decode cX5_cheapest 36 = .ok (.iconst (-1), 1) := by decide +kernel
theorem dX5_cheapest_37 : decode cX5_cheapest 37 = .ok (.ireturn, 1) := by decide +kernel
theorem dX5_cheapest_38 : decode cX5_cheapest 38 = .ok (.aload_n 0, 1) := by decide +kernel
theorem dX5_cheapest_39 : decode cX5_cheapest 39 = .ok (.iload_n 1, 1) := by decide +kernel
theorem dX5_cheapest_40 : decode cX5_cheapest 40 = .ok (.iload_n 2, 1) := by decide +kernel
theorem dX5_cheapest_41 : decode cX5_cheapest 41 = .ok (.iload_n 3, 1) := by decide +kernel
theorem dX5_cheapest_42 : decode cX5_cheapest 42 = .ok (.iconst 0, 1) := by decide +kernel
theorem dX5_cheapest_43 : decode cX5_cheapest 43 = .ok (.invokevirtual 145, 3) := by decide +kernel
theorem dX5_cheapest_46 : decode cX5_cheapest 46 = .ok (.istore 5, 2) := by decide +kernel
theorem dX5_cheapest_48 : decode cX5_cheapest 48 = .ok (.iload 5, 2) := by decide +kernel
theorem dX5_cheapest_50 : decode cX5_cheapest 50 = .ok (.ifCond .lt 8, 3) := by decide +kernel
theorem dX5_cheapest_53 : decode cX5_cheapest 53 = .ok (.iload 4, 2) := by decide +kernel
theorem dX5_cheapest_55 : decode cX5_cheapest 55 = .ok (.ifCond .ne 8, 3) := by decide +kernel
theorem dX5_cheapest_58 : decode cX5_cheapest 58 = .ok (.iload 5, 2) := by decide +kernel
theorem dX5_cheapest_60 : decode cX5_cheapest 60 = .ok (.goto 16, 3) := by decide +kernel
theorem dX5_cheapest_63 : decode cX5_cheapest 63 = .ok (.aload_n 0, 1) := by decide +kernel
theorem dX5_cheapest_64 : decode cX5_cheapest 64 = .ok (.getfield 10, 3) := by decide +kernel
theorem dX5_cheapest_67 : decode cX5_cheapest 67 = .ok (.iload 5, 2) := by decide +kernel
theorem dX5_cheapest_69 : decode cX5_cheapest 69 = .ok (.iload_n 3, 1) := by decide +kernel
theorem dX5_cheapest_70 : decode cX5_cheapest 70 = .ok (.iconst (-1), 1) := by decide +kernel
theorem dX5_cheapest_71 : decode cX5_cheapest 71 = .ok (.ixor, 1) := by decide +kernel
theorem dX5_cheapest_72 : decode cX5_cheapest 72 = .ok (.iand, 1) := by decide +kernel
theorem dX5_cheapest_73 : decode cX5_cheapest 73 = .ok (.invokevirtual 112, 3) := by decide +kernel
theorem dX5_cheapest_76 : decode cX5_cheapest 76 = .ok (.ireturn, 1) := by decide +kernel
set_option maxRecDepth 20000 in
theorem ggX5_threes_X5_ofSeries : GoodIn wsX5_threes wsX5_ofSeries := goodIn_r _ [4] (by decide +kernel) (by decide +kernel)
set_option maxRecDepth 20000 in
theorem gX5_threes_X5_ofSeries : GoodIn wsX5_threes (va_wsS RX5 152 yX5_ofSeries wsX5_ofSeries) := goodIn_app (goodIn_of _ (by decide +kernel)) ggX5_threes_X5_ofSeries
theorem dX5_threes_0 : decode cX5_threes 0 = .ok (.iconst 3, 1) := by decide +kernel
theorem dX5_threes_1 : decode cX5_threes 1 = .ok (.iload_n 1, 1) := by decide +kernel
theorem dX5_threes_2 : decode cX5_threes 2 = .ok (.iload_n 2, 1) := by decide +kernel
theorem dX5_threes_3 : decode cX5_threes 3 = .ok (.invokestatic 152, 3) := by decide +kernel
theorem dX5_threes_6 : decode cX5_threes 6 = .ok (.ireturn, 1) := by decide +kernel
set_option maxRecDepth 20000 in
theorem ggX5_doubles_X5_ofSeries : GoodIn wsX5_doubles wsX5_ofSeries := goodIn_r _ [4] (by decide +kernel) (by decide +kernel)
set_option maxRecDepth 20000 in
theorem gX5_doubles_X5_ofSeries : GoodIn wsX5_doubles (va_wsS RX5 152 yX5_ofSeries wsX5_ofSeries) := goodIn_app (goodIn_of _ (by decide +kernel)) ggX5_doubles_X5_ofSeries
theorem dX5_doubles_0 : decode cX5_doubles 0 = .ok (.iconst 2, 1) := by decide +kernel
theorem dX5_doubles_1 : decode cX5_doubles 1 = .ok (.iload_n 1, 1) := by decide +kernel
theorem dX5_doubles_2 : decode cX5_doubles 2 = .ok (.iload_n 2, 1) := by decide +kernel
theorem dX5_doubles_3 : decode cX5_doubles 3 = .ok (.invokestatic 152, 3) := by decide +kernel
theorem dX5_doubles_6 : decode cX5_doubles 6 = .ok (.ireturn, 1) := by decide +kernel
set_option maxRecDepth 20000 in
theorem ggX5_digits_X5_isNumber : GoodIn wsX5_digits wsX5_isNumber := goodIn_r _ [4] (by decide +kernel) (by decide +kernel)
set_option maxRecDepth 20000 in
theorem gX5_digits_X5_isNumber : GoodIn wsX5_digits (va_wsS RX5 126 yX5_isNumber wsX5_isNumber) := goodIn_app (goodIn_of _ (by decide +kernel)) ggX5_digits_X5_isNumber
set_option maxRecDepth 20000 in
theorem ggX5_digits_X5_withoutLowest : GoodIn wsX5_digits wsX5_withoutLowest := goodIn_r _ [7, 8, 9, 10, 11] (by decide +kernel) (by decide +kernel)
set_option maxRecDepth 20000 in
theorem gX5_digits_X5_withoutLowest : GoodIn wsX5_digits (va_wsS RX5 156 yX5_withoutLowest wsX5_withoutLowest) := goodIn_app (goodIn_of _ (by decide +kernel)) ggX5_digits_X5_withoutLowest
set_option maxRecDepth 20000 in
theorem ggX5_digits_X5_lowestDigit : GoodIn wsX5_digits wsX5_lowestDigit := goodIn_r _ [14, 15, 16, 10, 17] (by decide +kernel) (by decide +kernel)
set_option maxRecDepth 20000 in
theorem gX5_digits_X5_lowestDigit : GoodIn wsX5_digits (va_wsS RX5 159 yX5_lowestDigit wsX5_lowestDigit) := goodIn_app (goodIn_of _ (by decide +kernel)) ggX5_digits_X5_lowestDigit
set_option maxRecDepth 20000 in
theorem ggX5_digits_J9_floorMod_7cf53 : GoodIn wsX5_digits wsJ9_floorMod_7cf53 := goodIn_r _ [17] (by decide +kernel) (by decide +kernel)
set_option maxRecDepth 20000 in
theorem gX5_digits_J9_floorMod_7cf53 : GoodIn wsX5_digits (va_wsS RX5 162 yJ9_floorMod_7cf53 wsJ9_floorMod_7cf53) := goodIn_app (goodIn_of _ (by decide +kernel)) ggX5_digits_J9_floorMod_7cf53
theorem dX5_digits_0 : decode cX5_digits 0 = .ok (.iload_n 1, 1) := by decide +kernel
theorem dX5_digits_1 : decode cX5_digits 1 = .ok (.invokestatic 126, 3) := by decide +kernel
theorem dX5_digits_4 : decode cX5_digits 4 = .ok (.ifCond .eq 8, 3) := by decide +kernel
theorem dX5_digits_7 : decode cX5_digits 7 = .ok (.iload_n 2, 1) := by decide +kernel
theorem dX5_digits_8 : decode cX5_digits 8 = .ok (.iconst (-1), 1) := by decide +kernel
theorem dX5_digits_9 : decode cX5_digits 9 = .ok (.if_icmp .ge 5, 3) := by decide +kernel
theorem dX5_digits_12 : decode cX5_digits 12 = .ok (.iconst (-1), 1) := by decide +kernel
theorem dX5_digits_13 : decode cX5_digits 13 = .ok (.ireturn, 1) := by decide +kernel
theorem dX5_digits_14 : decode cX5_digits 14 = .ok (.iload_n 1, 1) := by decide +kernel
theorem dX5_digits_15 : decode cX5_digits 15 = .ok (.istore_n 3, 1) := by decide +kernel
theorem dX5_digits_16 : decode cX5_digits 16 = .ok (.iconst 0, 1) := by decide +kernel
theorem dX5_digits_17 : decode cX5_digits 17 = .ok (.istore 4, 2) := by decide +kernel
theorem dX5_digits_19 : decode cX5_digits 19 = .ok (.iload_n 3, 1) := by decide +kernel
theorem dX5_digits_20 : decode cX5_digits 20 = .ok (.ifCond .eq 27, 3) := by decide +kernel
theorem dX5_digits_23 : decode cX5_digits 23 = .ok (.iload 4, 2) := by decide +kernel
theorem dX5_digits_25 : decode cX5_digits 25 = .ok (.iload_n 2, 1) := by decide +kernel
theorem dX5_digits_26 : decode cX5_digits 26 = .ok (.if_icmp .eq 21, 3) := by decide +kernel
theorem dX5_digits_29 : decode cX5_digits 29 = .ok (.iload 4, 2) := by decide +kernel
theorem dX5_digits_31 : decode cX5_digits 31 = .ok (.bipush 10, 2) := by decide +kernel
theorem dX5_digits_33 : decode cX5_digits 33 = .ok (.if_icmp .ge 14, 3) := by decide +kernel
theorem dX5_digits_36 : decode cX5_digits 36 = .ok (.iload_n 3, 1) := by decide +kernel
theorem dX5_digits_37 : decode cX5_digits 37 = .ok (.invokestatic 156, 3) := by decide +kernel
theorem dX5_digits_40 : decode cX5_digits 40 = .ok (.istore_n 3, 1) := by decide +kernel
theorem dX5_digits_41 : decode cX5_digits 41 = .ok (.iinc 4 1, 3) := by decide +kernel
theorem dX5_digits_44 : decode cX5_digits 44 = .ok (.goto (-25), 3) := by decide +kernel
theorem dX5_digits_47 : decode cX5_digits 47 = .ok (.iload_n 2, 1) := by decide +kernel
theorem dX5_digits_48 : decode cX5_digits 48 = .ok (.iconst (-1), 1) := by decide +kernel
theorem dX5_digits_49 : decode cX5_digits 49 = .ok (.if_icmp .ne 8, 3) := by decide +kernel
theorem dX5_digits_52 : decode cX5_digits 52 = .ok (.iload 4, 2) := by decide +kernel
theorem dX5_digits_54 : decode cX5_digits 54 = .ok (.goto 11, 3) := by decide +kernel
theorem dX5_digits_57 : decode cX5_digits 57 = .ok (.iload_n 3, 1) := by decide +kernel
theorem dX5_digits_58 : decode cX5_digits 58 = .ok (.invokestatic 159, 3) := by decide +kernel
theorem dX5_digits_61 : decode cX5_digits 61 = .ok (.iconst 3, 1) := by decide +kernel
theorem dX5_digits_62 : decode cX5_digits 62 = .ok (.invokestatic 162, 3) := by decide +kernel
theorem dX5_digits_65 : decode cX5_digits 65 = .ok (.ireturn, 1) := by decide +kernel
set_option maxRecDepth 20000 in
theorem ggX5_added_X5_isNumber : GoodIn wsX5_added wsX5_isNumber := goodIn_r _ [4] (by decide +kernel) (by decide +kernel)
set_option maxRecDepth 20000 in
theorem gX5_added_X5_isNumber : GoodIn wsX5_added (va_wsS RX5 126 yX5_isNumber wsX5_isNumber) := goodIn_app (goodIn_of _ (by decide +kernel)) ggX5_added_X5_isNumber
set_option maxRecDepth 20000 in
theorem ggX5_added_X5_lowestDigit : GoodIn wsX5_added wsX5_lowestDigit := goodIn_r _ [7, 8, 9, 10, 11] (by decide +kernel) (by decide +kernel)
set_option maxRecDepth 20000 in
theorem gX5_added_X5_lowestDigit : GoodIn wsX5_added (va_wsS RX5 159 yX5_lowestDigit wsX5_lowestDigit) := goodIn_app (goodIn_of _ (by decide +kernel)) ggX5_added_X5_lowestDigit
set_option maxRecDepth 20000 in
theorem ggX5_added_X5_withoutLowest : GoodIn wsX5_added wsX5_withoutLowest := goodIn_r _ [14, 15, 16, 10, 17] (by decide +kernel) (by decide +kernel)
set_option maxRecDepth 20000 in
theorem gX5_added_X5_withoutLowest : GoodIn wsX5_added (va_wsS RX5 156 yX5_withoutLowest wsX5_withoutLowest) := goodIn_app (goodIn_of _ (by decide +kernel)) ggX5_added_X5_withoutLowest
theorem dX5_added_0 : decode cX5_added 0 = .ok (.iload_n 1, 1) := by decide +kernel
theorem dX5_added_1 : decode cX5_added 1 = .ok (.invokestatic 126, 3) := by decide +kernel
theorem dX5_added_4 : decode cX5_added 4 = .ok (.ifCond .eq 10, 3) := by decide +kernel
theorem dX5_added_7 : decode cX5_added 7 = .ok (.iload_n 2, 1) := by decide +kernel
theorem dX5_added_8 : decode cX5_added 8 = .ok (.invokestatic 126, 3) := by decide +kernel
theorem dX5_added_11 : decode cX5_added 11 = .ok (.ifCond .ne 5, 3) := by decide +kernel
theorem dX5_added_14 : decode cX5_added 14 = .ok (.iconst (-1), 1) := by decide +kernel
theorem dX5_added_15 : decode cX5_added 15 = .ok (.ireturn, 1) := by decide +kernel
theorem dX5_added_16 : decode cX5_added 16 = .ok (.iload_n 1, 1) := by decide +kernel
theorem dX5_added_17 : decode cX5_added 17 = .ok (.istore_n 3, 1) := by decide +kernel
theorem dX5_added_18 : decode cX5_added 18 = .ok (.iload_n 2, 1) := by decide +kernel
theorem dX5_added_19 : decode cX5_added 19 = .ok (.istore 4, 2) := by decide +kernel
theorem dX5_added_21 : decode cX5_added 21 = .ok (.iconst 0, 1) := by decide +kernel
theorem dX5_added_22 : decode cX5_added 22 = .ok (.istore 5, 2) := by decide +kernel
theorem dX5_added_24 : decode cX5_added 24 = .ok (.iconst 0, 1) := by decide +kernel
theorem dX5_added_25 : decode cX5_added 25 = .ok (.istore 6, 2) := by decide +kernel
theorem dX5_added_27 : decode cX5_added 27 = .ok (.iconst 0, 1) := by decide +kernel
theorem dX5_added_28 : decode cX5_added 28 = .ok (.istore 7, 2) := by decide +kernel
theorem dX5_added_30 : decode cX5_added 30 = .ok (.iload 7, 2) := by decide +kernel
theorem dX5_added_32 : decode cX5_added 32 = .ok (.bipush 10, 2) := by decide +kernel
theorem dX5_added_34 : decode cX5_added 34 = .ok (.if_icmp .ge 51, 3) := by decide +kernel
theorem dX5_added_37 : decode cX5_added 37 = .ok (.iload_n 3, 1) := by decide +kernel
theorem dX5_added_38 : decode cX5_added 38 = .ok (.invokestatic 159, 3) := by decide +kernel
theorem dX5_added_41 : decode cX5_added 41 = .ok (.iload 4, 2) := by decide +kernel
theorem dX5_added_43 : decode cX5_added 43 = .ok (.invokestatic 159, 3) := by decide +kernel
theorem dX5_added_46 : decode cX5_added 46 = .ok (.iadd, 1) := by decide +kernel
theorem dX5_added_47 : decode cX5_added 47 = .ok (.iload 5, 2) := by decide +kernel
theorem dX5_added_49 : decode cX5_added 49 = .ok (.iadd, 1) := by decide +kernel
theorem dX5_added_50 : decode cX5_added 50 = .ok (.istore 8, 2) := by decide +kernel
theorem dX5_added_52 : decode cX5_added 52 = .ok (.iload 8, 2) := by decide +kernel
theorem dX5_added_54 : decode cX5_added 54 = .ok (.invokestatic 156, 3) := by decide +kernel
theorem dX5_added_57 : decode cX5_added 57 = .ok (.istore 5, 2) := by decide +kernel
theorem dX5_added_59 : decode cX5_added 59 = .ok (.iload 5, 2) := by decide +kernel
theorem dX5_added_61 : decode cX5_added 61 = .ok (.ifCond .eq 6, 3) := by decide +kernel
theorem dX5_added_64 : decode cX5_added 64 = .ok (.iinc 6 1, 3) := by decide +kernel
theorem dX5_added_67 : decode cX5_added 67 = .ok (.iload_n 3, 1) := by decide +kernel
theorem dX5_added_68 : decode cX5_added 68 = .ok (.invokestatic 156, 3) := by decide +kernel
theorem dX5_added_71 : decode cX5_added 71 = .ok (.istore_n 3, 1) := by decide +kernel
theorem dX5_added_72 : decode cX5_added 72 = .ok (.iload 4, 2) := by decide +kernel
theorem dX5_added_74 : decode cX5_added 74 = .ok (.invokestatic 156, 3) := by decide +kernel
theorem dX5_added_77 : decode cX5_added 77 = .ok (.istore 4, 2) := by decide +kernel
theorem dX5_added_79 : decode cX5_added 79 = .ok (.iinc 7 1, 3) := by decide +kernel
theorem dX5_added_82 : decode cX5_added 82 = .ok (.goto (-52), 3) := by decide +kernel
theorem dX5_added_85 : decode cX5_added 85 = .ok (.iload 6, 2) := by decide +kernel
theorem dX5_added_87 : decode cX5_added 87 = .ok (.ireturn, 1) := by decide +kernel
set_option maxRecDepth 20000 in
theorem ggX5_sets_X5_searchSets : GoodIn wsX5_sets wsX5_searchSets := goodIn_r _ [4, 5, 6, 3, 7, 8, 9, 10, 11] (by decide +kernel) (by decide +kernel)
set_option maxRecDepth 20000 in
theorem gX5_sets_X5_searchSets : GoodIn wsX5_sets (va_wsS RX5 168 yX5_searchSets wsX5_searchSets) := goodIn_app (goodIn_of _ (by decide +kernel)) ggX5_sets_X5_searchSets
theorem dX5_sets_0 : decode cX5_sets 0 = .ok (.iload_n 1, 1) := by decide +kernel
theorem dX5_sets_1 : decode cX5_sets 1 = .ok (.iconst 1, 1) := by decide +kernel
theorem dX5_sets_2 : decode cX5_sets 2 = .ok (.if_icmp .lt 41, 3) := by decide +kernel
theorem dX5_sets_5 : decode cX5_sets 5 = .ok (.iload_n 1, 1) := by decide +kernel
theorem dX5_sets_6 : decode cX5_sets 6 = .ok (.iconst 3, 1) := by decide +kernel
theorem dX5_sets_7 : decode cX5_sets 7 = .ok (.if_icmp .gt 36, 3) := by decide +kernel
theorem dX5_sets_10 : decode cX5_sets 10 = .ok (.iload_n 2, 1) := by decide +kernel
theorem dX5_sets_11 : decode cX5_sets 11 = .ok (.iconst 1, 1) := by decide +kernel
theorem dX5_sets_12 : decode cX5_sets 12 = .ok (.if_icmp .lt 31, 3) := by decide +kernel
theorem dX5_sets_15 : decode cX5_sets 15 = .ok (.iload_n 2, 1) := by decide +kernel
theorem dX5_sets_16 : decode cX5_sets 16 = .ok (.bipush 30, 2) := by decide +kernel
theorem dX5_sets_18 : decode cX5_sets 18 = .ok (.if_icmp .gt 25, 3) := by decide +kernel
theorem dX5_sets_21 : decode cX5_sets 21 = .ok (.iload_n 3, 1) := by decide +kernel
theorem dX5_sets_22 : decode cX5_sets 22 = .ok (.iconst 1, 1) := by decide +kernel
theorem dX5_sets_23 : decode cX5_sets 23 = .ok (.if_icmp .lt 20, 3) := by decide +kernel
theorem dX5_sets_26 : decode cX5_sets 26 = .ok (.iload_n 3, 1) := by decide +kernel
theorem dX5_sets_27 : decode cX5_sets 27 = .ok (.bipush 13, 2) := by decide +kernel
theorem dX5_sets_29 : decode cX5_sets 29 = .ok (.if_icmp .gt 14, 3) := by decide +kernel
theorem dX5_sets_32 : decode cX5_sets 32 = .ok (.iload 4, 2) := by decide +kernel
theorem dX5_sets_34 : decode cX5_sets 34 = .ok (.ifCond .lt 9, 3) := by decide +kernel
theorem dX5_sets_37 : decode cX5_sets 37 = .ok (.iload 4, 2) := by decide +kernel
theorem dX5_sets_39 : decode cX5_sets 39 = .ok (.iconst 1, 1) := by decide +kernel
theorem dX5_sets_40 : decode cX5_sets 40 = .ok (.if_icmp .le 5, 3) := by decide +kernel
theorem dX5_sets_43 : decode cX5_sets 43 = .ok (.iconst (-1), 1) := by decide +kernel
theorem dX5_sets_44 : decode cX5_sets 44 = .ok (.ireturn, 1) := by decide +kernel
theorem dX5_sets_45 : decode cX5_sets 45 = .ok (.iload_n 1, 1) := by decide +kernel
theorem dX5_sets_46 : decode cX5_sets 46 = .ok (.iload_n 2, 1) := by decide +kernel
theorem dX5_sets_47 : decode cX5_sets 47 = .ok (.iload_n 3, 1) := by decide +kernel
theorem dX5_sets_48 : decode cX5_sets 48 = .ok (.iload 4, 2) := by decide +kernel
theorem dX5_sets_50 : decode cX5_sets 50 = .ok (.iconst 1, 1) := by decide +kernel
theorem dX5_sets_51 : decode cX5_sets 51 = .ok (.if_icmp .ne 7, 3) := by decide +kernel
theorem dX5_sets_54 : decode cX5_sets 54 = .ok (.iconst 1, 1) := by decide +kernel
theorem dX5_sets_55 : decode cX5_sets 55 = .ok (.goto 4, 3) := by decide +kernel
theorem dX5_sets_58 : decode cX5_sets 58 = .ok (.iconst 0, 1) := by decide +kernel
theorem dX5_sets_59 : decode cX5_sets 59 = .ok (.invokestatic 168, 3) := by decide +kernel
theorem dX5_sets_62 : decode cX5_sets 62 = .ok (.ireturn, 1) := by decide +kernel
set_option maxRecDepth 20000 in
theorem ggX5_lost_X5_isShelf : GoodIn wsX5_lost wsX5_isShelf := goodIn_r _ [7] (by decide +kernel) (by decide +kernel)
set_option maxRecDepth 20000 in
theorem gX5_lost_X5_isShelf : GoodIn wsX5_lost (va_wsS RX5 68 yX5_isShelf wsX5_isShelf) := goodIn_app (goodIn_of _ (by decide +kernel)) ggX5_lost_X5_isShelf
set_option maxRecDepth 20000 in
theorem ggX5_lost_X4_isStone : GoodIn wsX5_lost wsX4_isStone := goodIn_r _ [12, 13, 90, 91, 92] (by decide +kernel) (by decide +kernel)
set_option maxRecDepth 20000 in
theorem gX5_lost_X4_isStone : GoodIn wsX5_lost (wsV RX5 88 RX4 yX4_isStone wsX4_isStone) := goodIn_app (goodIn_of _ (by decide +kernel)) ggX5_lost_X4_isStone
set_option maxRecDepth 20000 in
theorem ggX5_lost_X5_notHeld : GoodIn wsX5_lost wsX5_notHeld := goodIn_r _ [17, 18, 19, 20, 6, 21, 2, 22, 77, 78, 79, 80, 81, 82, 83, 84, 85, 86, 87, 88, 89] (by decide +kernel) (by decide +kernel)
set_option maxRecDepth 20000 in
theorem gX5_lost_X5_notHeld : GoodIn wsX5_lost (wsV RX5 76 RX5 yX5_notHeld wsX5_notHeld) := goodIn_app (goodIn_of _ (by decide +kernel)) ggX5_lost_X5_notHeld
set_option maxRecDepth 20000 in
theorem ggX5_lost_X5_firstNotHad : GoodIn wsX5_lost wsX5_firstNotHad := goodIn_r _ [26, 27, 28, 29, 30, 6, 31, 32, 33, 34, 35, 36, 37, 38, 39, 40, 41, 42, 43, 44, 45, 46, 47, 48, 49, 50, 51, 52, 53, 54, 55, 56, 57, 58, 59, 60, 61, 62, 63, 64, 65, 66, 67, 68, 69, 70, 71, 72, 77, 78, 79, 80, 81, 82, 83, 84, 85, 86, 87, 88, 89, 93, 94, 95, 96, 97, 98, 99] (by decide +kernel) (by decide +kernel)
set_option maxRecDepth 20000 in
theorem gX5_lost_X5_firstNotHad : GoodIn wsX5_lost (wsV RX5 141 RX5 yX5_firstNotHad wsX5_firstNotHad) := goodIn_app (goodIn_of _ (by decide +kernel)) ggX5_lost_X5_firstNotHad
set_option maxRecDepth 20000 in
theorem ggX5_lost_X5_lostWithout : GoodIn wsX5_lost wsX5_lostWithout := goodIn_r _ [76, 3, 27, 28, 29, 30, 6, 31, 32, 33, 34, 35, 36, 37, 38, 39, 40, 41, 42, 43, 44, 45, 46, 47, 48, 49, 50, 51, 52, 53, 54, 55, 56, 57, 58, 59, 60, 61, 62, 63, 64, 65, 66, 67, 68, 69, 70, 71, 72, 77, 78, 79, 80, 81, 82, 83, 84, 85, 86, 87, 88, 89, 93, 94, 95, 96, 97, 98, 99] (by decide +kernel) (by decide +kernel)
set_option maxRecDepth 20000 in
theorem gX5_lost_X5_lostWithout : GoodIn wsX5_lost (wsV RX5 171 RX5 yX5_lostWithout wsX5_lostWithout) := goodIn_app (goodIn_of _ (by decide +kernel)) ggX5_lost_X5_lostWithout
theorem dX5_lost_0 : decode cX5_lost 0 = .ok (.iload_n 1, 1) := by decide +kernel
theorem dX5_lost_1 : decode cX5_lost 1 = .ok (.invokestatic 68, 3) := by decide +kernel
theorem dX5_lost_4 : decode cX5_lost 4 = .ok (.ifCond .eq 14, 3) := by decide +kernel
theorem dX5_lost_7 : decode cX5_lost 7 = .ok (.aload_n 0, 1) := by decide +kernel
theorem dX5_lost_8 : decode cX5_lost 8 = .ok (.getfield 10, 3) := by decide +kernel
theorem dX5_lost_11 : decode cX5_lost 11 = .ok (.iload_n 2, 1) := by decide +kernel
theorem dX5_lost_12 : decode cX5_lost 12 = .ok (.invokevirtual 88, 3) := by decide +kernel
theorem dX5_lost_15 : decode cX5_lost 15 = .ok (.ifCond .ne 5, 3) := by decide +kernel
theorem dX5_lost_18 : decode cX5_lost 18 = .ok (.iconst (-1), 1) := by decide +kernel
theorem dX5_lost_19 : decode cX5_lost 19 = .ok (.ireturn, 1) := by decide +kernel
theorem dX5_lost_20 : decode cX5_lost 20 = .ok (.aload_n 0, 1) := by decide +kernel
theorem dX5_lost_21 : decode cX5_lost 21 = .ok (.getfield 34, 3) := by decide +kernel
theorem dX5_lost_24 : decode cX5_lost 24 = .ok (.iload_n 1, 1) := by decide +kernel
theorem dX5_lost_25 : decode cX5_lost 25 = .ok (.aaload, 1) := by decide +kernel
theorem dX5_lost_26 : decode cX5_lost 26 = .ok (.astore_n 3, 1) := by decide +kernel
theorem dX5_lost_27 : decode cX5_lost 27 = .ok (.aload_n 3, 1) := by decide +kernel
theorem dX5_lost_28 : decode cX5_lost 28 = .ok (.ifnonnull 9, 3) := by decide +kernel
theorem dX5_lost_31 : decode cX5_lost 31 = .ok (.aload_n 0, 1) := by decide +kernel
theorem dX5_lost_32 : decode cX5_lost 32 = .ok (.iload_n 1, 1) := by decide +kernel
theorem dX5_lost_33 : decode cX5_lost 33 = .ok (.invokevirtual 76, 3) := by decide +kernel
theorem dX5_lost_36 : decode cX5_lost 36 = .ok (.ireturn, 1) := by decide +kernel
theorem dX5_lost_37 : decode cX5_lost 37 = .ok (.aload_n 0, 1) := by decide +kernel
theorem dX5_lost_38 : decode cX5_lost 38 = .ok (.aload_n 3, 1) := by decide +kernel
theorem dX5_lost_39 : decode cX5_lost 39 = .ok (.iload_n 2, 1) := by decide +kernel
theorem dX5_lost_40 : decode cX5_lost 40 = .ok (.aload_n 0, 1) := by decide +kernel
theorem dX5_lost_41 : decode cX5_lost 41 = .ok (.aload_n 3, 1) := by decide +kernel
theorem dX5_lost_42 : decode cX5_lost 42 = .ok (.aload_n 0, 1) := by decide +kernel
theorem dX5_lost_43 : decode cX5_lost 43 = .ok (.getfield 19, 3) := by decide +kernel
theorem dX5_lost_46 : decode cX5_lost 46 = .ok (.invokevirtual 141, 3) := by decide +kernel
theorem dX5_lost_49 : decode cX5_lost 49 = .ok (.iconst 1, 1) := by decide +kernel
theorem dX5_lost_50 : decode cX5_lost 50 = .ok (.isub, 1) := by decide +kernel
theorem dX5_lost_51 : decode cX5_lost 51 = .ok (.invokevirtual 171, 3) := by decide +kernel
theorem dX5_lost_54 : decode cX5_lost 54 = .ok (.ireturn, 1) := by decide +kernel
set_option maxRecDepth 20000 in
theorem ggX5_harmsLeast_X5_isShelf : GoodIn wsX5_harmsLeast wsX5_isShelf := goodIn_r _ [8] (by decide +kernel) (by decide +kernel)
set_option maxRecDepth 20000 in
theorem gX5_harmsLeast_X5_isShelf : GoodIn wsX5_harmsLeast (va_wsS RX5 68 yX5_isShelf wsX5_isShelf) := goodIn_app (goodIn_of _ (by decide +kernel)) ggX5_harmsLeast_X5_isShelf
set_option maxRecDepth 20000 in
theorem ggX5_harmsLeast_X5_notHeld : GoodIn wsX5_harmsLeast wsX5_notHeld := goodIn_r _ [12, 13, 14, 15, 7, 16, 1, 17, 72, 73, 74, 75, 76, 77, 78, 79, 80, 81, 82, 83, 84] (by decide +kernel) (by decide +kernel)
set_option maxRecDepth 20000 in
theorem gX5_harmsLeast_X5_notHeld : GoodIn wsX5_harmsLeast (wsV RX5 76 RX5 yX5_notHeld wsX5_notHeld) := goodIn_app (goodIn_of _ (by decide +kernel)) ggX5_harmsLeast_X5_notHeld
set_option maxRecDepth 20000 in
theorem ggX5_harmsLeast_X5_firstNotHad : GoodIn wsX5_harmsLeast wsX5_firstNotHad := goodIn_r _ [21, 22, 23, 24, 25, 7, 26, 27, 28, 29, 30, 31, 32, 33, 34, 35, 36, 37, 38, 39, 40, 41, 42, 43, 44, 45, 46, 47, 48, 49, 50, 51, 52, 53, 54, 55, 56, 57, 58, 59, 60, 61, 62, 63, 64, 65, 66, 67, 72, 73, 74, 75, 76, 77, 78, 79, 80, 81, 82, 83, 84, 88, 89, 90, 91, 92, 93, 94] (by decide +kernel) (by decide +kernel)
set_option maxRecDepth 20000 in
theorem gX5_harmsLeast_X5_firstNotHad : GoodIn wsX5_harmsLeast (wsV RX5 141 RX5 yX5_firstNotHad wsX5_firstNotHad) := goodIn_app (goodIn_of _ (by decide +kernel)) ggX5_harmsLeast_X5_firstNotHad
set_option maxRecDepth 20000 in
theorem ggX5_harmsLeast_X5_lostWithout : GoodIn wsX5_harmsLeast wsX5_lostWithout := goodIn_r _ [71, 2, 22, 23, 24, 25, 7, 26, 27, 28, 29, 30, 31, 32, 33, 34, 35, 36, 37, 38, 39, 40, 41, 42, 43, 44, 45, 46, 47, 48, 49, 50, 51, 52, 53, 54, 55, 56, 57, 58, 59, 60, 61, 62, 63, 64, 65, 66, 67, 72, 73, 74, 75, 76, 77, 78, 79, 80, 81, 82, 83, 84, 88, 89, 90, 91, 92, 93, 94] (by decide +kernel) (by decide +kernel)
set_option maxRecDepth 20000 in
theorem gX5_harmsLeast_X5_lostWithout : GoodIn wsX5_harmsLeast (wsV RX5 171 RX5 yX5_lostWithout wsX5_lostWithout) := goodIn_app (goodIn_of _ (by decide +kernel)) ggX5_harmsLeast_X5_lostWithout
theorem dX5_harmsLeast_0 : decode cX5_harmsLeast 0 = .ok (.iload_n 1, 1) := by decide +kernel
theorem dX5_harmsLeast_1 : decode cX5_harmsLeast 1 = .ok (.invokestatic 68, 3) := by decide +kernel
theorem dX5_harmsLeast_4 : decode cX5_harmsLeast 4 = .ok (.ifCond .ne 5, 3) := by decide +kernel
theorem dX5_harmsLeast_7 : decode cX5_harmsLeast 7 = .ok (.iconst (-1), 1) := by decide +kernel
theorem dX5_harmsLeast_8 : decode cX5_harmsLeast 8 = .ok (.ireturn, 1) := by decide +kernel
theorem dX5_harmsLeast_9 : decode cX5_harmsLeast 9 = .ok (.aload_n 0, 1) := by decide +kernel
theorem dX5_harmsLeast_10 : decode cX5_harmsLeast 10 = .ok (.getfield 34, 3) := by decide +kernel
theorem dX5_harmsLeast_13 : decode cX5_harmsLeast 13 = .ok (.iload_n 1, 1) := by decide +kernel
theorem dX5_harmsLeast_14 : decode cX5_harmsLeast 14 = .ok (.aaload, 1) := by decide +kernel
theorem dX5_harmsLeast_15 : decode cX5_harmsLeast 15 = .ok (.astore_n 2, 1) := by decide +kernel
theorem dX5_harmsLeast_16 : decode cX5_harmsLeast 16 = .ok (.aload_n 2, 1) := by decide +kernel
theorem dX5_harmsLeast_17 : decode cX5_harmsLeast 17 = .ok (.ifnonnull 9, 3) := by decide +kernel
theorem dX5_harmsLeast_20 : decode cX5_harmsLeast 20 = .ok (.aload_n 0, 1) := by decide +kernel
theorem dX5_harmsLeast_21 : decode cX5_harmsLeast 21 = .ok (.iload_n 1, 1) := by decide +kernel
theorem dX5_harmsLeast_22 : decode cX5_harmsLeast 22 = .ok (.invokevirtual 76, 3) := by decide +kernel
theorem dX5_harmsLeast_25 : decode cX5_harmsLeast 25 = .ok (.ireturn, 1) := by decide +kernel
theorem dX5_harmsLeast_26 : decode cX5_harmsLeast 26 = .ok (.aload_n 0, 1) := by decide +kernel
theorem dX5_harmsLeast_27 : decode cX5_harmsLeast 27 = .ok (.aload_n 2, 1) := by decide +kernel
theorem dX5_harmsLeast_28 : decode cX5_harmsLeast 28 = .ok (.aload_n 0, 1) := by decide +kernel
theorem dX5_harmsLeast_29 : decode cX5_harmsLeast 29 = .ok (.getfield 19, 3) := by decide +kernel
theorem dX5_harmsLeast_32 : decode cX5_harmsLeast 32 = .ok (.invokevirtual 141, 3) := by decide +kernel
theorem dX5_harmsLeast_35 : decode cX5_harmsLeast 35 = .ok (.iconst 1, 1) := by decide +kernel
theorem dX5_harmsLeast_36 : decode cX5_harmsLeast 36 = .ok (.isub, 1) := by decide +kernel
theorem dX5_harmsLeast_37 : decode cX5_harmsLeast 37 = .ok (.istore_n 3, 1) := by decide +kernel
theorem dX5_harmsLeast_38 : decode cX5_harmsLeast 38 = .ok (.bipush (-4), 2) := by decide +kernel
theorem dX5_harmsLeast_40 : decode cX5_harmsLeast 40 = .ok (.istore 4, 2) := by decide +kernel
theorem dX5_harmsLeast_42 : decode cX5_harmsLeast 42 = .ok (.iconst 0, 1) := by decide +kernel
theorem dX5_harmsLeast_43 : decode cX5_harmsLeast 43 = .ok (.istore 5, 2) := by decide +kernel
theorem dX5_harmsLeast_45 : decode cX5_harmsLeast 45 = .ok (.iconst 0, 1) := by decide +kernel
theorem dX5_harmsLeast_46 : decode cX5_harmsLeast 46 = .ok (.istore 6, 2) := by decide +kernel
theorem dX5_harmsLeast_48 : decode cX5_harmsLeast 48 = .ok (.iload 6, 2) := by decide +kernel
theorem dX5_harmsLeast_50 : decode cX5_harmsLeast 50 = .ok (.aload_n 0, 1) := by decide +kernel
theorem dX5_harmsLeast_51 : decode cX5_harmsLeast 51 = .ok (.getfield 10, 3) := by decide +kernel
theorem dX5_harmsLeast_54 : decode cX5_harmsLeast 54 = .ok (.getfield 175, 3) := by decide +kernel
theorem dX5_harmsLeast_57 : decode cX5_harmsLeast 57 = .ok (.if_icmp .ge 39, 3) := by decide +kernel
theorem dX5_harmsLeast_60 : decode cX5_harmsLeast 60 = .ok (.aload_n 0, 1) := by decide +kernel
theorem dX5_harmsLeast_61 : decode cX5_harmsLeast 61 = .ok (.aload_n 2, 1) := by decide +kernel
theorem dX5_harmsLeast_62 : decode cX5_harmsLeast 62 = .ok (.iload 6, 2) := by decide +kernel
theorem dX5_harmsLeast_64 : decode cX5_harmsLeast 64 = .ok (.iload_n 3, 1) := by decide +kernel
theorem dX5_harmsLeast_65 : decode cX5_harmsLeast 65 = .ok (.invokevirtual 171, 3) := by decide +kernel
theorem dX5_harmsLeast_68 : decode cX5_harmsLeast 68 = .ok (.istore 7, 2) := by decide +kernel
theorem dX5_harmsLeast_70 : decode cX5_harmsLeast 70 = .ok (.iload 4, 2) := by decide +kernel
theorem dX5_harmsLeast_72 : decode cX5_harmsLeast 72 = .ok (.ifCond .lt 10, 3) := by decide +kernel
theorem dX5_harmsLeast_75 : decode cX5_harmsLeast 75 = .ok (.iload 7, 2) := by decide +kernel
theorem dX5_harmsLeast_77 : decode cX5_harmsLeast 77 = .ok (.iload 5, 2) := by decide +kernel
theorem dX5_harmsLeast_79 : decode cX5_harmsLeast 79 = .ok (.if_icmp .ge 11, 3) := by decide +kernel
theorem dX5_harmsLeast_82 : decode cX5_harmsLeast 82 = .ok (.iload 6, 2) := by decide +kernel
theorem dX5_harmsLeast_84 : decode cX5_harmsLeast 84 = .ok (.istore 4, 2) := by decide +kernel
theorem dX5_harmsLeast_86 : decode cX5_harmsLeast 86 = .ok (.iload 7, 2) := by decide +kernel
theorem dX5_harmsLeast_88 : decode cX5_harmsLeast 88 = .ok (.istore 5, 2) := by decide +kernel
theorem dX5_harmsLeast_90 : decode cX5_harmsLeast 90 = .ok (.iinc 6 1, 3) := by decide +kernel
theorem dX5_harmsLeast_93 : decode cX5_harmsLeast 93 = .ok (.goto (-45), 3) := by decide +kernel
theorem dX5_harmsLeast_96 : decode cX5_harmsLeast 96 = .ok (.iload 4, 2) := by decide +kernel
theorem dX5_harmsLeast_98 : decode cX5_harmsLeast 98 = .ok (.ireturn, 1) := by decide +kernel
set_option maxRecDepth 20000 in
theorem ggX5_trials_J6_bitCount_0f7a4 : GoodIn wsX5_trials wsJ6_bitCount_0f7a4 := goodIn_r _ [5, 6, 7, 8] (by decide +kernel) (by decide +kernel)
set_option maxRecDepth 20000 in
theorem gX5_trials_J6_bitCount_0f7a4 : GoodIn wsX5_trials (va_wsS RX5 176 yJ6_bitCount_0f7a4 wsJ6_bitCount_0f7a4) := goodIn_app (goodIn_of _ (by decide +kernel)) ggX5_trials_J6_bitCount_0f7a4
set_option maxRecDepth 20000 in
theorem ggX5_trials_X4_areStones : GoodIn wsX5_trials wsX4_areStones := goodIn_r _ [13, 14, 15, 16, 12, 17, 18, 32, 33, 34] (by decide +kernel) (by decide +kernel)
set_option maxRecDepth 20000 in
theorem gX5_trials_X4_areStones : GoodIn wsX5_trials (wsV RX5 149 RX4 yX4_areStones wsX4_areStones) := goodIn_app (goodIn_of _ (by decide +kernel)) ggX5_trials_X4_areStones
theorem dX5_trials_0 : decode cX5_trials 0 = .ok (.iload_n 1, 1) := by decide +kernel
theorem dX5_trials_1 : decode cX5_trials 1 = .ok (.invokestatic 176, 3) := by decide +kernel
theorem dX5_trials_4 : decode cX5_trials 4 = .ok (.istore_n 2, 1) := by decide +kernel
theorem dX5_trials_5 : decode cX5_trials 5 = .ok (.aload_n 0, 1) := by decide +kernel
theorem dX5_trials_6 : decode cX5_trials 6 = .ok (.getfield 10, 3) := by decide +kernel
theorem dX5_trials_9 : decode cX5_trials 9 = .ok (.iload_n 1, 1) := by decide +kernel
theorem dX5_trials_10 : decode cX5_trials 10 = .ok (.invokevirtual 149, 3) := by decide +kernel
theorem dX5_trials_13 : decode cX5_trials 13 = .ok (.ifCond .eq 8, 3) := by decide +kernel
theorem dX5_trials_16 : decode cX5_trials 16 = .ok (.iload_n 2, 1) := by decide +kernel
theorem dX5_trials_17 : decode cX5_trials 17 = .ok (.iconst 2, 1) := by decide +kernel
theorem dX5_trials_18 : decode cX5_trials 18 = .ok (.if_icmp .ge 5, 3) := by decide +kernel
theorem dX5_trials_21 : decode cX5_trials 21 = .ok (.iconst (-1), 1) := by decide +kernel
theorem dX5_trials_22 : decode cX5_trials 22 = .ok (.ireturn, 1) := by decide +kernel
theorem dX5_trials_23 : decode cX5_trials 23 = .ok (.iconst 0, 1) := by decide +kernel
theorem dX5_trials_24 : decode cX5_trials 24 = .ok (.istore_n 3, 1) := by decide +kernel
theorem dX5_trials_25 : decode cX5_trials 25 = .ok (.iconst 1, 1) := by decide +kernel
theorem dX5_trials_26 : decode cX5_trials 26 = .ok (.istore 4, 2) := by decide +kernel
theorem dX5_trials_28 : decode cX5_trials 28 = .ok (.iload 4, 2) := by decide +kernel
theorem dX5_trials_30 : decode cX5_trials 30 = .ok (.iload_n 2, 1) := by decide +kernel
theorem dX5_trials_31 : decode cX5_trials 31 = .ok (.if_icmp .ge 15, 3) := by decide +kernel
theorem dX5_trials_34 : decode cX5_trials 34 = .ok (.iinc 3 1, 3) := by decide +kernel
theorem dX5_trials_37 : decode cX5_trials 37 = .ok (.iload 4, 2) := by decide +kernel
theorem dX5_trials_39 : decode cX5_trials 39 = .ok (.iconst 3, 1) := by decide +kernel
theorem dX5_trials_40 : decode cX5_trials 40 = .ok (.imul, 1) := by decide +kernel
theorem dX5_trials_41 : decode cX5_trials 41 = .ok (.istore 4, 2) := by decide +kernel
theorem dX5_trials_43 : decode cX5_trials 43 = .ok (.goto (-15), 3) := by decide +kernel
theorem dX5_trials_46 : decode cX5_trials 46 = .ok (.iload_n 3, 1) := by decide +kernel
theorem dX5_trials_47 : decode cX5_trials 47 = .ok (.ireturn, 1) := by decide +kernel
set_option maxRecDepth 20000 in
theorem ggX5_found_X5_isShelf : GoodIn wsX5_found wsX5_isShelf := goodIn_r _ [4] (by decide +kernel) (by decide +kernel)
set_option maxRecDepth 20000 in
theorem gX5_found_X5_isShelf : GoodIn wsX5_found (va_wsS RX5 68 yX5_isShelf wsX5_isShelf) := goodIn_app (goodIn_of _ (by decide +kernel)) ggX5_found_X5_isShelf
set_option maxRecDepth 20000 in
theorem ggX5_found_X5_rowOfSort : GoodIn wsX5_found wsX5_rowOfSort := goodIn_r _ [8, 9, 10, 27, 28, 29, 30, 31, 32, 33, 34, 35, 36, 37, 38, 39, 40, 41] (by decide +kernel) (by decide +kernel)
set_option maxRecDepth 20000 in
theorem gX5_found_X5_rowOfSort : GoodIn wsX5_found (wsV RX5 72 RX5 yX5_rowOfSort wsX5_rowOfSort) := goodIn_app (goodIn_of _ (by decide +kernel)) ggX5_found_X5_rowOfSort
set_option maxRecDepth 20000 in
theorem ggX5_found_X5_notHeld : GoodIn wsX5_found wsX5_notHeld := goodIn_r _ [14, 15, 16, 17, 3, 18, 19, 9, 27, 28, 29, 30, 31, 32, 33, 34, 35, 36, 37, 38, 39] (by decide +kernel) (by decide +kernel)
set_option maxRecDepth 20000 in
theorem gX5_found_X5_notHeld : GoodIn wsX5_found (wsV RX5 76 RX5 yX5_notHeld wsX5_notHeld) := goodIn_app (goodIn_of _ (by decide +kernel)) ggX5_found_X5_notHeld
set_option maxRecDepth 20000 in
theorem ggX5_found_X5_areTrials : GoodIn wsX5_found wsX5_areTrials := goodIn_r _ [22, 23, 40, 41] (by decide +kernel) (by decide +kernel)
set_option maxRecDepth 20000 in
theorem gX5_found_X5_areTrials : GoodIn wsX5_found (va_wsS RX5 181 yX5_areTrials wsX5_areTrials) := goodIn_app (goodIn_of _ (by decide +kernel)) ggX5_found_X5_areTrials
set_option maxRecDepth 20000 in
theorem ggX5_found_X5_isLighterBy : GoodIn wsX5_found wsX5_isLighterBy := goodIn_r _ [26, 23, 40, 41] (by decide +kernel) (by decide +kernel)
set_option maxRecDepth 20000 in
theorem gX5_found_X5_isLighterBy : GoodIn wsX5_found (va_wsS RX5 185 yX5_isLighterBy wsX5_isLighterBy) := goodIn_app (goodIn_of _ (by decide +kernel)) ggX5_found_X5_isLighterBy
theorem dX5_found_0 : decode cX5_found 0 = .ok (.iload_n 1, 1) := by decide +kernel
theorem dX5_found_1 : decode cX5_found 1 = .ok (.invokestatic 68, 3) := by decide +kernel
theorem dX5_found_4 : decode cX5_found 4 = .ok (.ifCond .ne 5, 3) := by decide +kernel
theorem dX5_found_7 : decode cX5_found 7 = .ok (.iconst (-1), 1) := by decide +kernel
theorem dX5_found_8 : decode cX5_found 8 = .ok (.ireturn, 1) := by decide +kernel
theorem dX5_found_9 : decode cX5_found 9 = .ok (.aload_n 0, 1) := by decide +kernel
theorem dX5_found_10 : decode cX5_found 10 = .ok (.iload_n 1, 1) := by decide +kernel
theorem dX5_found_11 : decode cX5_found 11 = .ok (.iconst 0, 1) := by decide +kernel
theorem dX5_found_12 : decode cX5_found 12 = .ok (.invokevirtual 72, 3) := by decide +kernel
theorem dX5_found_15 : decode cX5_found 15 = .ok (.astore_n 2, 1) := by decide +kernel
theorem dX5_found_16 : decode cX5_found 16 = .ok (.aload_n 2, 1) := by decide +kernel
theorem dX5_found_17 : decode cX5_found 17 = .ok (.ifnonnull 9, 3) := by decide +kernel
theorem dX5_found_20 : decode cX5_found 20 = .ok (.aload_n 0, 1) := by decide +kernel
theorem dX5_found_21 : decode cX5_found 21 = .ok (.iload_n 1, 1) := by decide +kernel
theorem dX5_found_22 : decode cX5_found 22 = .ok (.invokevirtual 76, 3) := by decide +kernel
theorem dX5_found_25 : decode cX5_found 25 = .ok (.ireturn, 1) := by decide +kernel
theorem dX5_found_26 : decode cX5_found 26 = .ok (.aload_n 2, 1) := by decide +kernel
theorem dX5_found_27 : decode cX5_found 27 = .ok (.invokestatic 181, 3) := by decide +kernel
theorem dX5_found_30 : decode cX5_found 30 = .ok (.ifCond .ne 6, 3) := by decide +kernel
theorem dX5_found_33 : decode cX5_found 33 = .ok (.bipush (-13), 2) := by decide +kernel
theorem dX5_found_35 : decode cX5_found 35 = .ok (.ireturn, 1) := by decide +kernel
theorem dX5_found_36 : decode cX5_found 36 = .ok (.iconst 0, 1) := by decide +kernel
theorem dX5_found_37 : decode cX5_found 37 = .ok (.istore_n 3, 1) := by decide +kernel
theorem dX5_found_38 : decode cX5_found 38 = .ok (.iconst 0, 1) := by decide +kernel
theorem dX5_found_39 : decode cX5_found 39 = .ok (.istore 4, 2) := by decide +kernel
theorem dX5_found_41 : decode cX5_found 41 = .ok (.iload 4, 2) := by decide +kernel
theorem dX5_found_43 : decode cX5_found 43 = .ok (.iconst 4, 1) := by decide +kernel
theorem dX5_found_44 : decode cX5_found 44 = .ok (.if_icmp .ge 25, 3) := by decide +kernel
theorem dX5_found_47 : decode cX5_found 47 = .ok (.aload_n 2, 1) := by decide +kernel
theorem dX5_found_48 : decode cX5_found 48 = .ok (.iload 4, 2) := by decide +kernel
theorem dX5_found_50 : decode cX5_found 50 = .ok (.invokestatic 185, 3) := by decide +kernel
theorem dX5_found_53 : decode cX5_found 53 = .ok (.ifCond .eq 10, 3) := by decide +kernel
theorem dX5_found_56 : decode cX5_found 56 = .ok (.iload_n 3, 1) := by decide +kernel
theorem dX5_found_57 : decode cX5_found 57 = .ok (.iconst 1, 1) := by decide +kernel
theorem dX5_found_58 : decode cX5_found 58 = .ok (.iload 4, 2) := by decide +kernel
theorem dX5_found_60 : decode cX5_found 60 = .ok (.ishl, 1) := by decide +kernel
theorem dX5_found_61 : decode cX5_found 61 = .ok (.ior, 1) := by decide +kernel
theorem dX5_found_62 : decode cX5_found 62 = .ok (.istore_n 3, 1) := by decide +kernel
theorem dX5_found_63 : decode cX5_found 63 = .ok (.iinc 4 1, 3) := by decide +kernel
theorem dX5_found_66 : decode cX5_found 66 = .ok (.goto (-25), 3) := by decide +kernel
theorem dX5_found_69 : decode cX5_found 69 = .ok (.iload_n 3, 1) := by decide +kernel
theorem dX5_found_70 : decode cX5_found 70 = .ok (.ireturn, 1) := by decide +kernel
theorem dX5_twice_0 : decode cX5_twice 0 = .ok (.iload_n 3, 1) := by decide +kernel
theorem dX5_twice_1 : decode cX5_twice 1 = .ok (.iconst 1, 1) := by decide +kernel
theorem dX5_twice_2 : decode cX5_twice 2 = .ok (.if_icmp .ne 8, 3) := by decide +kernel
theorem dX5_twice_5 : decode cX5_twice 5 = .ok (.ldc 116, 2) := by decide +kernel
theorem dX5_twice_7 : decode cX5_twice 7 = .ok (.goto 4, 3) := by decide +kernel
theorem dX5_twice_10 : decode cX5_twice 10 = .ok (.iconst 0, 1) := by decide +kernel
theorem dX5_twice_11 : decode cX5_twice 11 = .ok (.istore 4, 2) := by decide +kernel
theorem dX5_twice_13 : decode cX5_twice 13 = .ok (.iload_n 1, 1) := by decide +kernel
theorem dX5_twice_14 : decode cX5_twice 14 = .ok (.ifCond .lt 30, 3) := by decide +kernel
theorem dX5_twice_17 : decode cX5_twice 17 = .ok (.iload_n 1, 1) := by decide +kernel
theorem dX5_twice_18 : decode cX5_twice 18 = .ok (.sipush 999, 3) := by decide +kernel
theorem dX5_twice_21 : decode cX5_twice 21 = .ok (.if_icmp .gt 23, 3) := by decide +kernel
theorem dX5_twice_24 : decode cX5_twice 24 = .ok (.iload_n 2, 1) := by decide +kernel
theorem dX5_twice_25 : decode cX5_twice 25 = .ok (.ifCond .lt 19, 3) := by decide +kernel
theorem dX5_twice_28 : decode cX5_twice 28 = .ok (.iload_n 2, 1) := by decide +kernel
theorem dX5_twice_29 : decode cX5_twice 29 = .ok (.sipush 999, 3) := by decide +kernel
theorem dX5_twice_32 : decode cX5_twice 32 = .ok (.if_icmp .gt 12, 3) := by decide +kernel
theorem dX5_twice_35 : decode cX5_twice 35 = .ok (.iload_n 3, 1) := by decide +kernel
theorem dX5_twice_36 : decode cX5_twice 36 = .ok (.ifCond .lt 8, 3) := by decide +kernel
theorem dX5_twice_39 : decode cX5_twice 39 = .ok (.iload_n 3, 1) := by decide +kernel
theorem dX5_twice_40 : decode cX5_twice 40 = .ok (.iconst 1, 1) := by decide +kernel
theorem dX5_twice_41 : decode cX5_twice 41 = .ok (.if_icmp .le 8, 3) := by decide +kernel
theorem dX5_twice_44 : decode cX5_twice 44 = .ok (.iload 4, 2) := by decide +kernel
theorem dX5_twice_46 : decode cX5_twice 46 = .ok (.iconst (-1), 1) := by decide +kernel
theorem dX5_twice_47 : decode cX5_twice 47 = .ok (.iadd, 1) := by decide +kernel
theorem dX5_twice_48 : decode cX5_twice 48 = .ok (.ireturn, 1) := by decide +kernel
theorem dX5_twice_49 : decode cX5_twice 49 = .ok (.iload_n 1, 1) := by decide +kernel
theorem dX5_twice_50 : decode cX5_twice 50 = .ok (.iload_n 2, 1) := by decide +kernel
theorem dX5_twice_51 : decode cX5_twice 51 = .ok (.iadd, 1) := by decide +kernel
theorem dX5_twice_52 : decode cX5_twice 52 = .ok (.iconst 2, 1) := by decide +kernel
theorem dX5_twice_53 : decode cX5_twice 53 = .ok (.irem, 1) := by decide +kernel
theorem dX5_twice_54 : decode cX5_twice 54 = .ok (.ifCond .eq 9, 3) := by decide +kernel
theorem dX5_twice_57 : decode cX5_twice 57 = .ok (.iload 4, 2) := by decide +kernel
theorem dX5_twice_59 : decode cX5_twice 59 = .ok (.bipush (-4), 2) := by decide +kernel
theorem dX5_twice_61 : decode cX5_twice 61 = .ok (.iadd, 1) := by decide +kernel
theorem dX5_twice_62 : decode cX5_twice 62 = .ok (.ireturn, 1) := by decide +kernel
theorem dX5_twice_63 : decode cX5_twice 63 = .ok (.iload_n 1, 1) := by decide +kernel
theorem dX5_twice_64 : decode cX5_twice 64 = .ok (.iload_n 2, 1) := by decide +kernel
theorem dX5_twice_65 : decode cX5_twice 65 = .ok (.iadd, 1) := by decide +kernel
theorem dX5_twice_66 : decode cX5_twice 66 = .ok (.iconst 2, 1) := by decide +kernel
theorem dX5_twice_67 : decode cX5_twice 67 = .ok (.idiv, 1) := by decide +kernel
theorem dX5_twice_68 : decode cX5_twice 68 = .ok (.istore 5, 2) := by decide +kernel
theorem dX5_twice_70 : decode cX5_twice 70 = .ok (.iload_n 3, 1) := by decide +kernel
theorem dX5_twice_71 : decode cX5_twice 71 = .ok (.ifCond .ne 8, 3) := by decide +kernel
theorem dX5_twice_74 : decode cX5_twice 74 = .ok (.iload 5, 2) := by decide +kernel
theorem dX5_twice_76 : decode cX5_twice 76 = .ok (.goto 7, 3) := by decide +kernel
theorem dX5_twice_79 : decode cX5_twice 79 = .ok (.iload_n 1, 1) := by decide +kernel
theorem dX5_twice_80 : decode cX5_twice 80 = .ok (.iload 5, 2) := by decide +kernel
theorem dX5_twice_82 : decode cX5_twice 82 = .ok (.isub, 1) := by decide +kernel
theorem dX5_twice_83 : decode cX5_twice 83 = .ok (.ireturn, 1) := by decide +kernel
set_option maxRecDepth 20000 in
theorem ggX5_customers_X5_canBeHad : GoodIn wsX5_customers wsX5_canBeHad := goodIn_r _ [8] (by decide +kernel) (by decide +kernel)
set_option maxRecDepth 20000 in
theorem gX5_customers_X5_canBeHad : GoodIn wsX5_customers (va_wsS RX5 189 yX5_canBeHad wsX5_canBeHad) := goodIn_app (goodIn_of _ (by decide +kernel)) ggX5_customers_X5_canBeHad
set_option maxRecDepth 20000 in
theorem ggX5_customers_X5_collectOtherLyings : GoodIn wsX5_customers wsX5_collectOtherLyings := goodIn_r _ [12, 1, 2, 3, 4, 13, 14, 15, 16, 17, 18, 19, 20, 21, 22, 23, 24, 25, 26, 27, 28, 29, 30, 31, 32, 33, 34, 35, 36, 37, 38, 39, 40, 41, 42, 50, 51, 52, 53, 54, 55, 56, 57, 58, 59, 60, 61, 62, 63, 64, 65, 66, 67, 68, 69] (by decide +kernel) (by decide +kernel)
set_option maxRecDepth 20000 in
theorem gX5_customers_X5_collectOtherLyings : GoodIn wsX5_customers (wsV RX5 192 RX5 yX5_collectOtherLyings wsX5_collectOtherLyings) := goodIn_app (goodIn_of _ (by decide +kernel)) ggX5_customers_X5_collectOtherLyings
set_option maxRecDepth 20000 in
theorem ggX5_customers_X2_hits : GoodIn wsX5_customers wsX2_hits := goodIn_r _ [17, 18, 19, 20, 16, 21, 22, 23, 24, 25, 26, 27, 28, 29, 30, 31, 32, 33, 34, 35, 36, 37, 38, 39, 40, 41, 42, 68, 69, 63, 64, 65, 66, 67] (by decide +kernel) (by decide +kernel)
set_option maxRecDepth 20000 in
theorem gX5_customers_X2_hits : GoodIn wsX5_customers (wsV RX5 133 RX2 yX2_hits wsX2_hits) := goodIn_app (goodIn_of _ (by decide +kernel)) ggX5_customers_X2_hits
set_option maxRecDepth 20000 in
theorem ggX5_customers_X0_notOff : GoodIn wsX5_customers wsX0_notOff := goodIn_r _ [47, 48, 49, 63, 64, 65, 66, 67] (by decide +kernel) (by decide +kernel)
set_option maxRecDepth 20000 in
theorem gX5_customers_X0_notOff : GoodIn wsX5_customers (wsV RX5 109 RX0 yX0_notOff wsX0_notOff) := goodIn_app (goodIn_of _ (by decide +kernel)) ggX5_customers_X0_notOff
theorem dX5_customers_0 : decode cX5_customers 0 = .ok (.iload_n 1, 1) := by decide +kernel
theorem dX5_customers_1 : decode cX5_customers 1 = .ok (.invokestatic 189, 3) := by decide +kernel
theorem dX5_customers_4 : decode cX5_customers 4 = .ok (.ifCond .eq 19, 3) := by decide +kernel
theorem dX5_customers_7 : decode cX5_customers 7 = .ok (.iload_n 2, 1) := by decide +kernel
theorem dX5_customers_8 : decode cX5_customers 8 = .ok (.invokestatic 189, 3) := by decide +kernel
theorem dX5_customers_11 : decode cX5_customers 11 = .ok (.ifCond .eq 12, 3) := by decide +kernel
theorem dX5_customers_14 : decode cX5_customers 14 = .ok (.iload_n 3, 1) := by decide +kernel
theorem dX5_customers_15 : decode cX5_customers 15 = .ok (.ifCond .lt 8, 3) := by decide +kernel
theorem dX5_customers_18 : decode cX5_customers 18 = .ok (.iload_n 3, 1) := by decide +kernel
theorem dX5_customers_19 : decode cX5_customers 19 = .ok (.iconst 2, 1) := by decide +kernel
theorem dX5_customers_20 : decode cX5_customers 20 = .ok (.if_icmp .le 5, 3) := by decide +kernel
theorem dX5_customers_23 : decode cX5_customers 23 = .ok (.iconst (-1), 1) := by decide +kernel
theorem dX5_customers_24 : decode cX5_customers 24 = .ok (.ireturn, 1) := by decide +kernel
theorem dX5_customers_25 : decode cX5_customers 25 = .ok (.aload_n 0, 1) := by decide +kernel
theorem dX5_customers_26 : decode cX5_customers 26 = .ok (.iload_n 2, 1) := by decide +kernel
theorem dX5_customers_27 : decode cX5_customers 27 = .ok (.invokevirtual 192, 3) := by decide +kernel
theorem dX5_customers_30 : decode cX5_customers 30 = .ok (.istore 4, 2) := by decide +kernel
theorem dX5_customers_32 : decode cX5_customers 32 = .ok (.iconst 0, 1) := by decide +kernel
theorem dX5_customers_33 : decode cX5_customers 33 = .ok (.istore 5, 2) := by decide +kernel
theorem dX5_customers_35 : decode cX5_customers 35 = .ok (.iconst 0, 1) := by decide +kernel
theorem dX5_customers_36 : decode cX5_customers 36 = .ok (.istore 6, 2) := by decide +kernel
theorem dX5_customers_38 : decode cX5_customers 38 = .ok (.iload 6, 2) := by decide +kernel
theorem dX5_customers_40 : decode cX5_customers 40 = .ok (.aload_n 0, 1) := by decide +kernel
theorem dX5_customers_41 : decode cX5_customers 41 = .ok (.getfield 19, 3) := by decide +kernel
theorem dX5_customers_44 : decode cX5_customers 44 = .ok (.getfield 129, 3) := by decide +kernel
theorem dX5_customers_47 : decode cX5_customers 47 = .ok (.if_icmp .ge 100, 3) := by decide +kernel
theorem dX5_customers_50 : decode cX5_customers 50 = .ok (.aload_n 0, 1) := by decide +kernel
theorem dX5_customers_51 : decode cX5_customers 51 = .ok (.getfield 47, 3) := by decide +kernel
theorem dX5_customers_54 : decode cX5_customers 54 = .ok (.aload_n 0, 1) := by decide +kernel
theorem dX5_customers_55 : decode cX5_customers 55 = .ok (.getfield 19, 3) := by decide +kernel
theorem dX5_customers_58 : decode cX5_customers 58 = .ok (.iload 6, 2) := by decide +kernel
theorem dX5_customers_60 : decode cX5_customers 60 = .ok (.iload_n 1, 1) := by decide +kernel
theorem dX5_customers_61 : decode cX5_customers 61 = .ok (.invokevirtual 133, 3) := by decide +kernel
theorem dX5_customers_64 : decode cX5_customers 64 = .ok (.ifCond .ne 6, 3) := by decide +kernel
theorem dX5_customers_67 : decode cX5_customers 67 = .ok (.goto 74, 3) := by decide +kernel
theorem dX5_customers_70 : decode cX5_customers 70 = .ok (.iconst 0, 1) := by decide +kernel
theorem dX5_customers_71 : decode cX5_customers 71 = .ok (.istore 7, 2) := by decide +kernel
theorem dX5_customers_73 : decode cX5_customers 73 = .ok (.iload 7, 2) := by decide +kernel
theorem dX5_customers_75 : decode cX5_customers 75 = .ok (.iload 4, 2) := by decide +kernel
theorem dX5_customers_77 : decode cX5_customers 77 = .ok (.if_icmp .ge 64, 3) := by decide +kernel
theorem dX5_customers_80 : decode cX5_customers 80 = .ok (.aload_n 0, 1) := by decide +kernel
theorem dX5_customers_81 : decode cX5_customers 81 = .ok (.getfield 19, 3) := by decide +kernel
theorem dX5_customers_84 : decode cX5_customers 84 = .ok (.iload 6, 2) := by decide +kernel
theorem dX5_customers_86 : decode cX5_customers 86 = .ok (.invokevirtual 109, 3) := by decide +kernel
theorem dX5_customers_89 : decode cX5_customers 89 = .ok (.aload_n 0, 1) := by decide +kernel
theorem dX5_customers_90 : decode cX5_customers 90 = .ok (.getfield 19, 3) := by decide +kernel
theorem dX5_customers_93 : decode cX5_customers 93 = .ok (.aload_n 0, 1) := by decide +kernel
theorem dX5_customers_94 : decode cX5_customers 94 = .ok (.getfield 65, 3) := by decide +kernel
theorem dX5_customers_97 : decode cX5_customers 97 = .ok (.iload 7, 2) := by decide +kernel
theorem dX5_customers_99 : decode cX5_customers 99 = .ok (.iaload, 1) := by decide +kernel
theorem dX5_customers_100 : decode cX5_customers 100 = .ok (.invokevirtual 109, 3) := by decide +kernel
theorem dX5_customers_103 : decode cX5_customers 103 = .ok (.iand, 1) := by decide +kernel
theorem dX5_customers_104 : decode cX5_customers 104 = .ok (.ifCond .eq 6, 3) := by decide +kernel
theorem dX5_customers_107 : decode cX5_customers 107 = .ok (.goto 28, 3) := by decide +kernel
theorem dX5_customers_110 : decode cX5_customers 110 = .ok (.iload_n 3, 1) := by decide +kernel
theorem dX5_customers_111 : decode cX5_customers 111 = .ok (.ifCond .le 21, 3) := by decide +kernel
theorem dX5_customers_114 : decode cX5_customers 114 = .ok (.iload_n 3, 1) := by decide +kernel
theorem dX5_customers_115 : decode cX5_customers 115 = .ok (.iconst 1, 1) := by decide +kernel
theorem dX5_customers_116 : decode cX5_customers 116 = .ok (.if_icmp .ne 8, 3) := by decide +kernel
theorem dX5_customers_119 : decode cX5_customers 119 = .ok (.iload 6, 2) := by decide +kernel
theorem dX5_customers_121 : decode cX5_customers 121 = .ok (.goto 10, 3) := by decide +kernel
theorem dX5_customers_124 : decode cX5_customers 124 = .ok (.aload_n 0, 1) := by decide +kernel
theorem dX5_customers_125 : decode cX5_customers 125 = .ok (.getfield 65, 3) := by decide +kernel
theorem dX5_customers_128 : decode cX5_customers 128 = .ok (.iload 7, 2) := by decide +kernel
theorem dX5_customers_130 : decode cX5_customers 130 = .ok (.iaload, 1) := by decide +kernel
theorem dX5_customers_131 : decode cX5_customers 131 = .ok (.ireturn, 1) := by decide +kernel
theorem dX5_customers_132 : decode cX5_customers 132 = .ok (.iinc 5 1, 3) := by decide +kernel
theorem dX5_customers_135 : decode cX5_customers 135 = .ok (.iinc 7 1, 3) := by decide +kernel
theorem dX5_customers_138 : decode cX5_customers 138 = .ok (.goto (-65), 3) := by decide +kernel
theorem dX5_customers_141 : decode cX5_customers 141 = .ok (.iinc 6 1, 3) := by decide +kernel
theorem dX5_customers_144 : decode cX5_customers 144 = .ok (.goto (-106), 3) := by decide +kernel
theorem dX5_customers_147 : decode cX5_customers 147 = .ok (.iload_n 3, 1) := by decide +kernel
theorem dX5_customers_148 : decode cX5_customers 148 = .ok (.ifCond .ne 8, 3) := by decide +kernel
theorem dX5_customers_151 : decode cX5_customers 151 = .ok (.iload 5, 2) := by decide +kernel
theorem dX5_customers_153 : decode cX5_customers 153 = .ok (.goto 5, 3) := by decide +kernel
theorem dX5_customers_156 : decode cX5_customers 156 = .ok (.bipush (-4), 2) := by decide +kernel
theorem dX5_customers_158 : decode cX5_customers 158 = .ok (.ireturn, 1) := by decide +kernel
set_option maxRecDepth 20000 in
theorem ggX5_unknown_X4_isStone : GoodIn wsX5_unknown wsX4_isStone := goodIn_r _ [6, 7, 78, 79, 80] (by decide +kernel) (by decide +kernel)
set_option maxRecDepth 20000 in
theorem gX5_unknown_X4_isStone : GoodIn wsX5_unknown (wsV RX5 88 RX4 yX4_isStone wsX4_isStone) := goodIn_app (goodIn_of _ (by decide +kernel)) ggX5_unknown_X4_isStone
set_option maxRecDepth 20000 in
theorem ggX5_unknown_X5_isShelf : GoodIn wsX5_unknown wsX5_isShelf := goodIn_r _ [11] (by decide +kernel) (by decide +kernel)
set_option maxRecDepth 20000 in
theorem gX5_unknown_X5_isShelf : GoodIn wsX5_unknown (va_wsS RX5 68 yX5_isShelf wsX5_isShelf) := goodIn_app (goodIn_of _ (by decide +kernel)) ggX5_unknown_X5_isShelf
set_option maxRecDepth 20000 in
theorem ggX5_unknown_X5_rowOfSort : GoodIn wsX5_unknown wsX5_rowOfSort := goodIn_r _ [15, 16, 17, 65, 66, 67, 68, 69, 70, 71, 72, 73, 74, 75, 76, 77, 81, 82] (by decide +kernel) (by decide +kernel)
set_option maxRecDepth 20000 in
theorem gX5_unknown_X5_rowOfSort : GoodIn wsX5_unknown (wsV RX5 72 RX5 yX5_rowOfSort wsX5_rowOfSort) := goodIn_app (goodIn_of _ (by decide +kernel)) ggX5_unknown_X5_rowOfSort
set_option maxRecDepth 20000 in
theorem ggX5_unknown_X5_notHeld : GoodIn wsX5_unknown wsX5_notHeld := goodIn_r _ [21, 22, 23, 24, 10, 25, 26, 16, 65, 66, 67, 68, 69, 70, 71, 72, 73, 74, 75, 76, 77] (by decide +kernel) (by decide +kernel)
set_option maxRecDepth 20000 in
theorem gX5_unknown_X5_notHeld : GoodIn wsX5_unknown (wsV RX5 76 RX5 yX5_notHeld wsX5_notHeld) := goodIn_app (goodIn_of _ (by decide +kernel)) ggX5_unknown_X5_notHeld
set_option maxRecDepth 20000 in
theorem ggX5_unknown_X5_areWeighings : GoodIn wsX5_unknown wsX5_areWeighings := goodIn_r _ [30, 31, 32, 33, 34, 35, 36, 37, 38, 81, 82, 65, 66, 67, 68, 69, 70, 71, 72, 73, 74, 75, 76, 77, 83, 84, 85, 86, 87] (by decide +kernel) (by decide +kernel)
set_option maxRecDepth 20000 in
theorem gX5_unknown_X5_areWeighings : GoodIn wsX5_unknown (wsV RX5 195 RX5 yX5_areWeighings wsX5_areWeighings) := goodIn_app (goodIn_of _ (by decide +kernel)) ggX5_unknown_X5_areWeighings
set_option maxRecDepth 20000 in
theorem ggX5_unknown_X5_isWeightBy : GoodIn wsX5_unknown wsX5_isWeightBy := goodIn_r _ [42, 1, 43, 31, 32, 44, 45, 46, 47, 36, 48, 49, 50, 51, 52, 53, 54, 55, 56, 57, 58, 59, 60, 61, 62, 63, 64, 65, 66, 67, 68, 69, 70, 71, 72, 73, 74, 75, 76, 77, 78, 79, 80, 81, 82, 83, 84, 85, 86, 87, 88, 89] (by decide +kernel) (by decide +kernel)
set_option maxRecDepth 20000 in
theorem gX5_unknown_X5_isWeightBy : GoodIn wsX5_unknown (wsV RX5 198 RX5 yX5_isWeightBy wsX5_isWeightBy) := goodIn_app (goodIn_of _ (by decide +kernel)) ggX5_unknown_X5_isWeightBy
theorem dX5_unknown_0 : decode cX5_unknown 0 = .ok (.aload_n 0, 1) := by decide +kernel
theorem dX5_unknown_1 : decode cX5_unknown 1 = .ok (.getfield 10, 3) := by decide +kernel
theorem dX5_unknown_4 : decode cX5_unknown 4 = .ok (.iload_n 1, 1) := by decide +kernel
theorem dX5_unknown_5 : decode cX5_unknown 5 = .ok (.invokevirtual 88, 3) := by decide +kernel
theorem dX5_unknown_8 : decode cX5_unknown 8 = .ok (.ifCond .eq 19, 3) := by decide +kernel
theorem dX5_unknown_11 : decode cX5_unknown 11 = .ok (.iload_n 2, 1) := by decide +kernel
theorem dX5_unknown_12 : decode cX5_unknown 12 = .ok (.invokestatic 68, 3) := by decide +kernel
theorem dX5_unknown_15 : decode cX5_unknown 15 = .ok (.ifCond .eq 12, 3) := by decide +kernel
theorem dX5_unknown_18 : decode cX5_unknown 18 = .ok (.iload_n 3, 1) := by decide +kernel
theorem dX5_unknown_19 : decode cX5_unknown 19 = .ok (.ifCond .lt 8, 3) := by decide +kernel
theorem dX5_unknown_22 : decode cX5_unknown 22 = .ok (.iload_n 3, 1) := by decide +kernel
theorem dX5_unknown_23 : decode cX5_unknown 23 = .ok (.iconst 1, 1) := by decide +kernel
theorem dX5_unknown_24 : decode cX5_unknown 24 = .ok (.if_icmp .le 5, 3) := by decide +kernel
theorem dX5_unknown_27 : decode cX5_unknown 27 = .ok (.iconst (-1), 1) := by decide +kernel
theorem dX5_unknown_28 : decode cX5_unknown 28 = .ok (.ireturn, 1) := by decide +kernel
theorem dX5_unknown_29 : decode cX5_unknown 29 = .ok (.aload_n 0, 1) := by decide +kernel
theorem dX5_unknown_30 : decode cX5_unknown 30 = .ok (.iload_n 2, 1) := by decide +kernel
theorem dX5_unknown_31 : decode cX5_unknown 31 = .ok (.iconst 2, 1) := by decide +kernel
theorem dX5_unknown_32 : decode cX5_unknown 32 = .ok (.invokevirtual 72, 3) := by decide +kernel
theorem dX5_unknown_35 : decode cX5_unknown 35 = .ok (.astore 4, 2) := by decide +kernel
theorem dX5_unknown_37 : decode cX5_unknown 37 = .ok (.aload 4, 2) := by decide +kernel
theorem dX5_unknown_39 : decode cX5_unknown 39 = .ok (.ifnonnull 9, 3) := by decide +kernel
theorem dX5_unknown_42 : decode cX5_unknown 42 = .ok (.aload_n 0, 1) := by decide +kernel
theorem dX5_unknown_43 : decode cX5_unknown 43 = .ok (.iload_n 2, 1) := by decide +kernel
theorem dX5_unknown_44 : decode cX5_unknown 44 = .ok (.invokevirtual 76, 3) := by decide +kernel
theorem dX5_unknown_47 : decode cX5_unknown 47 = .ok (.ireturn, 1) := by decide +kernel
theorem dX5_unknown_48 : decode cX5_unknown 48 = .ok (.aload_n 0, 1) := by decide +kernel
theorem dX5_unknown_49 : decode cX5_unknown 49 = .ok (.aload 4, 2) := by decide +kernel
theorem dX5_unknown_51 : decode cX5_unknown 51 = .ok (.invokevirtual 195, 3) := by decide +kernel
theorem dX5_unknown_54 : decode cX5_unknown 54 = .ok (.ifCond .ne 6, 3) := by decide +kernel
theorem dX5_unknown_57 : decode cX5_unknown 57 = .ok (.bipush (-13), 2) := by decide +kernel
theorem dX5_unknown_59 : decode cX5_unknown 59 = .ok (.ireturn, 1) := by decide +kernel
theorem dX5_unknown_60 : decode cX5_unknown 60 = .ok (.iconst 0, 1) := by decide +kernel
theorem dX5_unknown_61 : decode cX5_unknown 61 = .ok (.istore 5, 2) := by decide +kernel
theorem dX5_unknown_63 : decode cX5_unknown 63 = .ok (.iconst 1, 1) := by decide +kernel
theorem dX5_unknown_64 : decode cX5_unknown 64 = .ok (.istore 6, 2) := by decide +kernel
theorem dX5_unknown_66 : decode cX5_unknown 66 = .ok (.iload 6, 2) := by decide +kernel
theorem dX5_unknown_68 : decode cX5_unknown 68 = .ok (.bipush 99, 2) := by decide +kernel
theorem dX5_unknown_70 : decode cX5_unknown 70 = .ok (.if_icmp .gt 32, 3) := by decide +kernel
theorem dX5_unknown_73 : decode cX5_unknown 73 = .ok (.aload_n 0, 1) := by decide +kernel
theorem dX5_unknown_74 : decode cX5_unknown 74 = .ok (.aload 4, 2) := by decide +kernel
theorem dX5_unknown_76 : decode cX5_unknown 76 = .ok (.iload_n 1, 1) := by decide +kernel
theorem dX5_unknown_77 : decode cX5_unknown 77 = .ok (.iload 6, 2) := by decide +kernel
theorem dX5_unknown_79 : decode cX5_unknown 79 = .ok (.invokevirtual 198, 3) := by decide +kernel
theorem dX5_unknown_82 : decode cX5_unknown 82 = .ok (.ifCond .eq 14, 3) := by decide +kernel
theorem dX5_unknown_85 : decode cX5_unknown 85 = .ok (.iload_n 3, 1) := by decide +kernel
theorem dX5_unknown_86 : decode cX5_unknown 86 = .ok (.iconst 1, 1) := by decide +kernel
theorem dX5_unknown_87 : decode cX5_unknown 87 = .ok (.if_icmp .ne 6, 3) := by decide +kernel
theorem dX5_unknown_90 : decode cX5_unknown 90 = .ok (.iload 6, 2) := by decide +kernel
theorem dX5_unknown_92 : decode cX5_unknown 92 = .ok (.ireturn, 1) := by decide +kernel
theorem dX5_unknown_93 : decode cX5_unknown 93 = .ok (.iinc 5 1, 3) := by decide +kernel
theorem dX5_unknown_96 : decode cX5_unknown 96 = .ok (.iinc 6 1, 3) := by decide +kernel
theorem dX5_unknown_99 : decode cX5_unknown 99 = .ok (.goto (-33), 3) := by decide +kernel
theorem dX5_unknown_102 : decode cX5_unknown 102 = .ok (.iload_n 3, 1) := by decide +kernel
theorem dX5_unknown_103 : decode cX5_unknown 103 = .ok (.ifCond .ne 8, 3) := by decide +kernel
theorem dX5_unknown_106 : decode cX5_unknown 106 = .ok (.iload 5, 2) := by decide +kernel
theorem dX5_unknown_108 : decode cX5_unknown 108 = .ok (.goto 5, 3) := by decide +kernel
theorem dX5_unknown_111 : decode cX5_unknown 111 = .ok (.bipush (-4), 2) := by decide +kernel
theorem dX5_unknown_113 : decode cX5_unknown 113 = .ok (.ireturn, 1) := by decide +kernel
set_option maxRecDepth 20000 in
theorem ggX5_seeded_X5_isShelf : GoodIn wsX5_seeded wsX5_isShelf := goodIn_r _ [11] (by decide +kernel) (by decide +kernel)
set_option maxRecDepth 20000 in
theorem gX5_seeded_X5_isShelf : GoodIn wsX5_seeded (va_wsS RX5 68 yX5_isShelf wsX5_isShelf) := goodIn_app (goodIn_of _ (by decide +kernel)) ggX5_seeded_X5_isShelf
set_option maxRecDepth 20000 in
theorem ggX5_seeded_X5_notHeld : GoodIn wsX5_seeded wsX5_notHeld := goodIn_r _ [15, 16, 17, 18, 10, 19, 1, 20, 102, 103, 104, 105, 106, 107, 108, 109, 110, 111, 112, 113, 114] (by decide +kernel) (by decide +kernel)
set_option maxRecDepth 20000 in
theorem gX5_seeded_X5_notHeld : GoodIn wsX5_seeded (wsV RX5 76 RX5 yX5_notHeld wsX5_notHeld) := goodIn_app (goodIn_of _ (by decide +kernel)) ggX5_seeded_X5_notHeld
set_option maxRecDepth 20000 in
theorem ggX5_seeded_X4_add : GoodIn wsX5_seeded wsX4_add := goodIn_r _ [25, 26, 27, 28, 29, 30, 24, 31, 32, 33, 34, 115, 116, 117] (by decide +kernel) (by decide +kernel)
set_option maxRecDepth 20000 in
theorem gX5_seeded_X4_add : GoodIn wsX5_seeded (wsV RX5 205 RX4 yX4_add wsX4_add) := goodIn_app (goodIn_of _ (by decide +kernel)) ggX5_seeded_X4_add
set_option maxRecDepth 20000 in
theorem ggX5_seeded_X0_layOut : GoodIn wsX5_seeded wsX0_layOut := goodIn_r _ [39, 40, 41, 42, 43, 44, 45, 38, 46, 47, 48, 49, 50, 51, 52, 53, 54, 118, 119, 120, 121, 122, 115, 116, 117] (by decide +kernel) (by decide +kernel)
set_option maxRecDepth 20000 in
theorem gX5_seeded_X0_layOut : GoodIn wsX5_seeded (wsV RX5 84 RX0 yX0_layOut wsX0_layOut) := goodIn_app (goodIn_of _ (by decide +kernel)) ggX5_seeded_X0_layOut
set_option maxRecDepth 20000 in
theorem ggX5_seeded_X5_firstNotHad : GoodIn wsX5_seeded wsX5_firstNotHad := goodIn_r _ [58, 59, 60, 61, 62, 10, 63, 64, 65, 66, 67, 68, 69, 70, 71, 38, 72, 49, 50, 73, 74, 75, 76, 77, 78, 79, 80, 81, 82, 83, 84, 85, 86, 87, 88, 89, 90, 91, 92, 93, 94, 95, 96, 97, 98, 99, 100, 101, 102, 103, 104, 105, 106, 107, 108, 109, 110, 111, 112, 113, 114, 118, 119, 120, 121, 122, 123, 124] (by decide +kernel) (by decide +kernel)
set_option maxRecDepth 20000 in
theorem gX5_seeded_X5_firstNotHad : GoodIn wsX5_seeded (wsV RX5 141 RX5 yX5_firstNotHad wsX5_firstNotHad) := goodIn_app (goodIn_of _ (by decide +kernel)) ggX5_seeded_X5_firstNotHad
theorem dX5_seeded_0 : decode cX5_seeded 0 = .ok (.iload_n 1, 1) := by decide +kernel
theorem dX5_seeded_1 : decode cX5_seeded 1 = .ok (.invokestatic 68, 3) := by decide +kernel
theorem dX5_seeded_4 : decode cX5_seeded 4 = .ok (.ifCond .eq 14, 3) := by decide +kernel
theorem dX5_seeded_7 : decode cX5_seeded 7 = .ok (.iload_n 2, 1) := by decide +kernel
theorem dX5_seeded_8 : decode cX5_seeded 8 = .ok (.iconst 1, 1) := by decide +kernel
theorem dX5_seeded_9 : decode cX5_seeded 9 = .ok (.if_icmp .lt 9, 3) := by decide +kernel
theorem dX5_seeded_12 : decode cX5_seeded 12 = .ok (.iload_n 2, 1) := by decide +kernel
theorem dX5_seeded_13 : decode cX5_seeded 13 = .ok (.bipush 6, 2) := by decide +kernel
theorem dX5_seeded_15 : decode cX5_seeded 15 = .ok (.if_icmp .le 5, 3) := by decide +kernel
theorem dX5_seeded_18 : decode cX5_seeded 18 = .ok (.iconst (-1), 1) := by decide +kernel
theorem dX5_seeded_19 : decode cX5_seeded 19 = .ok (.ireturn, 1) := by decide +kernel
theorem dX5_seeded_20 : decode cX5_seeded 20 = .ok (.aload_n 0, 1) := by decide +kernel
theorem dX5_seeded_21 : decode cX5_seeded 21 = .ok (.getfield 34, 3) := by decide +kernel
theorem dX5_seeded_24 : decode cX5_seeded 24 = .ok (.iload_n 1, 1) := by decide +kernel
theorem dX5_seeded_25 : decode cX5_seeded 25 = .ok (.aaload, 1) := by decide +kernel
theorem dX5_seeded_26 : decode cX5_seeded 26 = .ok (.astore 4, 2) := by decide +kernel
theorem dX5_seeded_28 : decode cX5_seeded 28 = .ok (.aload 4, 2) := by decide +kernel
theorem dX5_seeded_30 : decode cX5_seeded 30 = .ok (.ifnonnull 9, 3) := by decide +kernel
theorem dX5_seeded_33 : decode cX5_seeded 33 = .ok (.aload_n 0, 1) := by decide +kernel
theorem dX5_seeded_34 : decode cX5_seeded 34 = .ok (.iload_n 1, 1) := by decide +kernel
theorem dX5_seeded_35 : decode cX5_seeded 35 = .ok (.invokevirtual 76, 3) := by decide +kernel
theorem dX5_seeded_38 : decode cX5_seeded 38 = .ok (.ireturn, 1) := by decide +kernel
theorem dX5_seeded_39 : decode cX5_seeded 39 = .ok (.aload_n 0, 1) := by decide +kernel
theorem dX5_seeded_40 : decode cX5_seeded 40 = .ok (.getfield 26, 3) := by decide +kernel
theorem dX5_seeded_43 : decode cX5_seeded 43 = .ok (.iconst 0, 1) := by decide +kernel
theorem dX5_seeded_44 : decode cX5_seeded 44 = .ok (.putfield 175, 3) := by decide +kernel
theorem dX5_seeded_47 : decode cX5_seeded 47 = .ok (.iload_n 3, 1) := by decide +kernel
theorem dX5_seeded_48 : decode cX5_seeded 48 = .ok (.istore 5, 2) := by decide +kernel
theorem dX5_seeded_50 : decode cX5_seeded 50 = .ok (.iconst 0, 1) := by decide +kernel
theorem dX5_seeded_51 : decode cX5_seeded 51 = .ok (.istore 6, 2) := by decide +kernel
theorem dX5_seeded_53 : decode cX5_seeded 53 = .ok (.iload 6, 2) := by decide +kernel
theorem dX5_seeded_55 : decode cX5_seeded 55 = .ok (.iload_n 2, 1) := by decide +kernel
theorem dX5_seeded_56 : decode cX5_seeded 56 = .ok (.if_icmp .ge 42, 3) := by decide +kernel
theorem dX5_seeded_59 : decode cX5_seeded 59 = .ok (.iload 5, 2) := by decide +kernel
theorem dX5_seeded_61 : decode cX5_seeded 61 = .ok (.ldc 202, 2) := by decide +kernel
theorem dX5_seeded_63 : decode cX5_seeded 63 = .ok (.imul, 1) := by decide +kernel
theorem dX5_seeded_64 : decode cX5_seeded 64 = .ok (.sipush 12345, 3) := by decide +kernel
theorem dX5_seeded_67 : decode cX5_seeded 67 = .ok (.iadd, 1) := by decide +kernel
theorem dX5_seeded_68 : decode cX5_seeded 68 = .ok (.istore 5, 2) := by decide +kernel
theorem dX5_seeded_70 : decode cX5_seeded 70 = .ok (.aload_n 0, 1) := by decide +kernel
theorem dX5_seeded_71 : decode cX5_seeded 71 = .ok (.getfield 26, 3) := by decide +kernel
theorem dX5_seeded_74 : decode cX5_seeded 74 = .ok (.iconst 1, 1) := by decide +kernel
theorem dX5_seeded_75 : decode cX5_seeded 75 = .ok (.iload 5, 2) := by decide +kernel
theorem dX5_seeded_77 : decode cX5_seeded 77 = .ok (.ldc 203, 2) := by decide +kernel
theorem dX5_seeded_79 : decode cX5_seeded 79 = .ok (.iand, 1) := by decide +kernel
theorem dX5_seeded_80 : decode cX5_seeded 80 = .ok (.ldc 204, 2) := by decide +kernel
theorem dX5_seeded_82 : decode cX5_seeded 82 = .ok (.idiv, 1) := by decide +kernel
theorem dX5_seeded_83 : decode cX5_seeded 83 = .ok (.bipush 40, 2) := by decide +kernel
theorem dX5_seeded_85 : decode cX5_seeded 85 = .ok (.irem, 1) := by decide +kernel
theorem dX5_seeded_86 : decode cX5_seeded 86 = .ok (.iadd, 1) := by decide +kernel
theorem dX5_seeded_87 : decode cX5_seeded 87 = .ok (.iconst 0, 1) := by decide +kernel
theorem dX5_seeded_88 : decode cX5_seeded 88 = .ok (.invokevirtual 205, 3) := by decide +kernel
theorem dX5_seeded_91 : decode cX5_seeded 91 = .ok (.pop, 1) := by decide +kernel
theorem dX5_seeded_92 : decode cX5_seeded 92 = .ok (.iinc 6 1, 3) := by decide +kernel
theorem dX5_seeded_95 : decode cX5_seeded 95 = .ok (.goto (-42), 3) := by decide +kernel
theorem dX5_seeded_98 : decode cX5_seeded 98 = .ok (.aload_n 0, 1) := by decide +kernel
theorem dX5_seeded_99 : decode cX5_seeded 99 = .ok (.getfield 29, 3) := by decide +kernel
theorem dX5_seeded_102 : decode cX5_seeded 102 = .ok (.aload_n 0, 1) := by decide +kernel
theorem dX5_seeded_103 : decode cX5_seeded 103 = .ok (.getfield 26, 3) := by decide +kernel
theorem dX5_seeded_106 : decode cX5_seeded 106 = .ok (.invokevirtual 84, 3) := by decide +kernel
theorem dX5_seeded_109 : decode cX5_seeded 109 = .ok (.aload_n 0, 1) := by decide +kernel
theorem dX5_seeded_110 : decode cX5_seeded 110 = .ok (.aload 4, 2) := by decide +kernel
theorem dX5_seeded_112 : decode cX5_seeded 112 = .ok (.aload_n 0, 1) := by decide +kernel
theorem dX5_seeded_113 : decode cX5_seeded 113 = .ok (.getfield 29, 3) := by decide +kernel
theorem dX5_seeded_116 : decode cX5_seeded 116 = .ok (.invokevirtual 141, 3) := by decide +kernel
theorem dX5_seeded_119 : decode cX5_seeded 119 = .ok (.iconst 1, 1) := by decide +kernel
theorem dX5_seeded_120 : decode cX5_seeded 120 = .ok (.isub, 1) := by decide +kernel
theorem dX5_seeded_121 : decode cX5_seeded 121 = .ok (.ireturn, 1) := by decide +kernel
set_option maxRecDepth 20000 in
theorem ggX5_judge_X5_isShelf : GoodIn wsX5_judge wsX5_isShelf := goodIn_r _ [8] (by decide +kernel) (by decide +kernel)
set_option maxRecDepth 20000 in
theorem gX5_judge_X5_isShelf : GoodIn wsX5_judge (va_wsS RX5 68 yX5_isShelf wsX5_isShelf) := goodIn_app (goodIn_of _ (by decide +kernel)) ggX5_judge_X5_isShelf
set_option maxRecDepth 20000 in
theorem ggX5_judge_X5_notHeld : GoodIn wsX5_judge wsX5_notHeld := goodIn_r _ [12, 13, 14, 15, 7, 16, 1, 2, 53, 54, 55, 56, 57, 58, 59, 60, 61, 62, 63, 64, 65] (by decide +kernel) (by decide +kernel)
set_option maxRecDepth 20000 in
theorem gX5_judge_X5_notHeld : GoodIn wsX5_judge (wsV RX5 76 RX5 yX5_notHeld wsX5_notHeld) := goodIn_app (goodIn_of _ (by decide +kernel)) ggX5_judge_X5_notHeld
set_option maxRecDepth 20000 in
theorem ggX5_judge_X0_isLying : GoodIn wsX5_judge wsX0_isLying := goodIn_r _ [21, 22, 68, 69, 70, 71, 72] (by decide +kernel) (by decide +kernel)
set_option maxRecDepth 20000 in
theorem gX5_judge_X0_isLying : GoodIn wsX5_judge (wsV RX5 97 RX0 yX0_isLying wsX0_isLying) := goodIn_app (goodIn_of _ (by decide +kernel)) ggX5_judge_X0_isLying
set_option maxRecDepth 20000 in
theorem ggX5_judge_X2_hits : GoodIn wsX5_judge wsX2_hits := goodIn_r _ [27, 28, 29, 30, 26, 31, 32, 33, 34, 35, 36, 37, 38, 39, 40, 41, 42, 43, 44, 45, 46, 47, 48, 49, 50, 51, 52, 73, 74, 68, 69, 70, 71, 72] (by decide +kernel) (by decide +kernel)
set_option maxRecDepth 20000 in
theorem gX5_judge_X2_hits : GoodIn wsX5_judge (wsV RX5 133 RX2 yX2_hits wsX2_hits) := goodIn_app (goodIn_of _ (by decide +kernel)) ggX5_judge_X2_hits
theorem dX5_judge_0 : decode cX5_judge 0 = .ok (.iload_n 1, 1) := by decide +kernel
theorem dX5_judge_1 : decode cX5_judge 1 = .ok (.invokestatic 68, 3) := by decide +kernel
theorem dX5_judge_4 : decode cX5_judge 4 = .ok (.ifCond .eq 10, 3) := by decide +kernel
theorem dX5_judge_7 : decode cX5_judge 7 = .ok (.iload_n 2, 1) := by decide +kernel
theorem dX5_judge_8 : decode cX5_judge 8 = .ok (.invokestatic 68, 3) := by decide +kernel
theorem dX5_judge_11 : decode cX5_judge 11 = .ok (.ifCond .ne 5, 3) := by decide +kernel
theorem dX5_judge_14 : decode cX5_judge 14 = .ok (.iconst (-1), 1) := by decide +kernel
theorem dX5_judge_15 : decode cX5_judge 15 = .ok (.ireturn, 1) := by decide +kernel
theorem dX5_judge_16 : decode cX5_judge 16 = .ok (.aload_n 0, 1) := by decide +kernel
theorem dX5_judge_17 : decode cX5_judge 17 = .ok (.getfield 34, 3) := by decide +kernel
theorem dX5_judge_20 : decode cX5_judge 20 = .ok (.iload_n 1, 1) := by decide +kernel
theorem dX5_judge_21 : decode cX5_judge 21 = .ok (.aaload, 1) := by decide +kernel
theorem dX5_judge_22 : decode cX5_judge 22 = .ok (.astore_n 3, 1) := by decide +kernel
theorem dX5_judge_23 : decode cX5_judge 23 = .ok (.aload_n 3, 1) := by decide +kernel
theorem dX5_judge_24 : decode cX5_judge 24 = .ok (.ifnonnull 9, 3) := by decide +kernel
theorem dX5_judge_27 : decode cX5_judge 27 = .ok (.aload_n 0, 1) := by decide +kernel
theorem dX5_judge_28 : decode cX5_judge 28 = .ok (.iload_n 1, 1) := by decide +kernel
theorem dX5_judge_29 : decode cX5_judge 29 = .ok (.invokevirtual 76, 3) := by decide +kernel
theorem dX5_judge_32 : decode cX5_judge 32 = .ok (.ireturn, 1) := by decide +kernel
theorem dX5_judge_33 : decode cX5_judge 33 = .ok (.aload_n 0, 1) := by decide +kernel
theorem dX5_judge_34 : decode cX5_judge 34 = .ok (.getfield 40, 3) := by decide +kernel
theorem dX5_judge_37 : decode cX5_judge 37 = .ok (.iload_n 2, 1) := by decide +kernel
theorem dX5_judge_38 : decode cX5_judge 38 = .ok (.aaload, 1) := by decide +kernel
theorem dX5_judge_39 : decode cX5_judge 39 = .ok (.astore 4, 2) := by decide +kernel
theorem dX5_judge_41 : decode cX5_judge 41 = .ok (.aload 4, 2) := by decide +kernel
theorem dX5_judge_43 : decode cX5_judge 43 = .ok (.ifnonnull 9, 3) := by decide +kernel
theorem dX5_judge_46 : decode cX5_judge 46 = .ok (.aload_n 0, 1) := by decide +kernel
theorem dX5_judge_47 : decode cX5_judge 47 = .ok (.iload_n 2, 1) := by decide +kernel
theorem dX5_judge_48 : decode cX5_judge 48 = .ok (.invokevirtual 76, 3) := by decide +kernel
theorem dX5_judge_51 : decode cX5_judge 51 = .ok (.ireturn, 1) := by decide +kernel
theorem dX5_judge_52 : decode cX5_judge 52 = .ok (.aload 4, 2) := by decide +kernel
theorem dX5_judge_54 : decode cX5_judge 54 = .ok (.getfield 209, 3) := by decide +kernel
theorem dX5_judge_57 : decode cX5_judge 57 = .ok (.arraylength, 1) := by decide +kernel
theorem dX5_judge_58 : decode cX5_judge 58 = .ok (.istore 5, 2) := by decide +kernel
theorem dX5_judge_60 : decode cX5_judge 60 = .ok (.iconst 0, 1) := by decide +kernel
theorem dX5_judge_61 : decode cX5_judge 61 = .ok (.istore 6, 2) := by decide +kernel
theorem dX5_judge_63 : decode cX5_judge 63 = .ok (.iload 6, 2) := by decide +kernel
theorem dX5_judge_65 : decode cX5_judge 65 = .ok (.iconst 1, 1) := by decide +kernel
theorem dX5_judge_66 : decode cX5_judge 66 = .ok (.iadd, 1) := by decide +kernel
theorem dX5_judge_67 : decode cX5_judge 67 = .ok (.iload 5, 2) := by decide +kernel
theorem dX5_judge_69 : decode cX5_judge 69 = .ok (.if_icmp .ge 57, 3) := by decide +kernel
theorem dX5_judge_72 : decode cX5_judge 72 = .ok (.aload 4, 2) := by decide +kernel
theorem dX5_judge_74 : decode cX5_judge 74 = .ok (.getfield 209, 3) := by decide +kernel
theorem dX5_judge_77 : decode cX5_judge 77 = .ok (.iload 6, 2) := by decide +kernel
theorem dX5_judge_79 : decode cX5_judge 79 = .ok (.iaload, 1) := by decide +kernel
theorem dX5_judge_80 : decode cX5_judge 80 = .ok (.istore 7, 2) := by decide +kernel
theorem dX5_judge_82 : decode cX5_judge 82 = .ok (.aload_n 0, 1) := by decide +kernel
theorem dX5_judge_83 : decode cX5_judge 83 = .ok (.getfield 19, 3) := by decide +kernel
theorem dX5_judge_86 : decode cX5_judge 86 = .ok (.iload 7, 2) := by decide +kernel
theorem dX5_judge_88 : decode cX5_judge 88 = .ok (.invokevirtual 97, 3) := by decide +kernel
theorem dX5_judge_91 : decode cX5_judge 91 = .ok (.ifCond .eq 26, 3) := by decide +kernel
theorem dX5_judge_94 : decode cX5_judge 94 = .ok (.aload_n 3, 1) := by decide +kernel
theorem dX5_judge_95 : decode cX5_judge 95 = .ok (.aload_n 0, 1) := by decide +kernel
theorem dX5_judge_96 : decode cX5_judge 96 = .ok (.getfield 19, 3) := by decide +kernel
theorem dX5_judge_99 : decode cX5_judge 99 = .ok (.iload 7, 2) := by decide +kernel
theorem dX5_judge_101 : decode cX5_judge 101 = .ok (.aload 4, 2) := by decide +kernel
theorem dX5_judge_103 : decode cX5_judge 103 = .ok (.getfield 209, 3) := by decide +kernel
theorem dX5_judge_106 : decode cX5_judge 106 = .ok (.iload 6, 2) := by decide +kernel
theorem dX5_judge_108 : decode cX5_judge 108 = .ok (.iconst 1, 1) := by decide +kernel
theorem dX5_judge_109 : decode cX5_judge 109 = .ok (.iadd, 1) := by decide +kernel
theorem dX5_judge_110 : decode cX5_judge 110 = .ok (.iaload, 1) := by decide +kernel
theorem dX5_judge_111 : decode cX5_judge 111 = .ok (.invokevirtual 133, 3) := by decide +kernel
theorem dX5_judge_114 : decode cX5_judge 114 = .ok (.ifCond .ne 6, 3) := by decide +kernel
theorem dX5_judge_117 : decode cX5_judge 117 = .ok (.iload 6, 2) := by decide +kernel
theorem dX5_judge_119 : decode cX5_judge 119 = .ok (.ireturn, 1) := by decide +kernel
theorem dX5_judge_120 : decode cX5_judge 120 = .ok (.iinc 6 2, 3) := by decide +kernel
theorem dX5_judge_123 : decode cX5_judge 123 = .ok (.goto (-60), 3) := by decide +kernel
theorem dX5_judge_126 : decode cX5_judge 126 = .ok (.iload 5, 2) := by decide +kernel
theorem dX5_judge_128 : decode cX5_judge 128 = .ok (.iconst 2, 1) := by decide +kernel
theorem dX5_judge_129 : decode cX5_judge 129 = .ok (.irem, 1) := by decide +kernel
theorem dX5_judge_130 : decode cX5_judge 130 = .ok (.iconst 1, 1) := by decide +kernel
theorem dX5_judge_131 : decode cX5_judge 131 = .ok (.if_icmp .ne 8, 3) := by decide +kernel
theorem dX5_judge_134 : decode cX5_judge 134 = .ok (.iload 5, 2) := by decide +kernel
theorem dX5_judge_136 : decode cX5_judge 136 = .ok (.goto 5, 3) := by decide +kernel
theorem dX5_judge_139 : decode cX5_judge 139 = .ok (.bipush (-4), 2) := by decide +kernel
theorem dX5_judge_141 : decode cX5_judge 141 = .ok (.ireturn, 1) := by decide +kernel
set_option maxRecDepth 20000 in
theorem ggX5_image_X4_takeFrom : GoodIn wsX5_image wsX4_takeFrom := goodIn_r _ [9, 10, 11, 12, 13, 14, 15, 16, 30, 31, 32] (by decide +kernel) (by decide +kernel)
set_option maxRecDepth 20000 in
theorem gX5_image_X4_takeFrom : GoodIn wsX5_image (wsV RX5 212 RX4 yX4_takeFrom wsX4_takeFrom) := goodIn_app (goodIn_of _ (by decide +kernel)) ggX5_image_X4_takeFrom
theorem dX5_image_0 : decode cX5_image 0 = .ok (.aload_n 0, 1) := by decide +kernel
theorem dX5_image_1 : decode cX5_image 1 = .ok (.getfield 23, 3) := by decide +kernel
theorem dX5_image_4 : decode cX5_image 4 = .ok (.aload_n 0, 1) := by decide +kernel
theorem dX5_image_5 : decode cX5_image 5 = .ok (.getfield 10, 3) := by decide +kernel
theorem dX5_image_8 : decode cX5_image 8 = .ok (.invokevirtual 212, 3) := by decide +kernel
theorem dX5_image_11 : decode cX5_image 11 = .ok (.aload_n 0, 1) := by decide +kernel
theorem dX5_image_12 : decode cX5_image 12 = .ok (.iconst 1, 1) := by decide +kernel
theorem dX5_image_13 : decode cX5_image 13 = .ok (.putfield 215, 3) := by decide +kernel
theorem dX5_image_16 : decode cX5_image 16 = .ok (.aload_n 0, 1) := by decide +kernel
theorem dX5_image_17 : decode cX5_image 17 = .ok (.getfield 10, 3) := by decide +kernel
theorem dX5_image_20 : decode cX5_image 20 = .ok (.getfield 175, 3) := by decide +kernel
theorem dX5_image_23 : decode cX5_image 23 = .ok (.ireturn, 1) := by decide +kernel
set_option maxRecDepth 20000 in
theorem ggX5_restore_X4_takeFrom : GoodIn wsX5_restore wsX4_takeFrom := goodIn_r _ [10, 11, 12, 13, 14, 15, 16, 17, 51, 52, 53] (by decide +kernel) (by decide +kernel)
set_option maxRecDepth 20000 in
theorem gX5_restore_X4_takeFrom : GoodIn wsX5_restore (wsV RX5 212 RX4 yX4_takeFrom wsX4_takeFrom) := goodIn_app (goodIn_of _ (by decide +kernel)) ggX5_restore_X4_takeFrom
set_option maxRecDepth 20000 in
theorem ggX5_restore_X0_layOut : GoodIn wsX5_restore wsX0_layOut := goodIn_r _ [22, 23, 24, 25, 26, 27, 28, 21, 29, 30, 31, 32, 33, 34, 35, 36, 37, 54, 55, 56, 57, 58, 51, 52, 53] (by decide +kernel) (by decide +kernel)
set_option maxRecDepth 20000 in
theorem gX5_restore_X0_layOut : GoodIn wsX5_restore (wsV RX5 84 RX0 yX0_layOut wsX0_layOut) := goodIn_app (goodIn_of _ (by decide +kernel)) ggX5_restore_X0_layOut
theorem dX5_restore_0 : decode cX5_restore 0 = .ok (.aload_n 0, 1) := by decide +kernel
theorem dX5_restore_1 : decode cX5_restore 1 = .ok (.getfield 215, 3) := by decide +kernel
theorem dX5_restore_4 : decode cX5_restore 4 = .ok (.ifCond .ne 6, 3) := by decide +kernel
theorem dX5_restore_7 : decode cX5_restore 7 = .ok (.bipush (-3), 2) := by decide +kernel
theorem dX5_restore_9 : decode cX5_restore 9 = .ok (.ireturn, 1) := by decide +kernel
theorem dX5_restore_10 : decode cX5_restore 10 = .ok (.aload_n 0, 1) := by decide +kernel
theorem dX5_restore_11 : decode cX5_restore 11 = .ok (.getfield 10, 3) := by decide +kernel
theorem dX5_restore_14 : decode cX5_restore 14 = .ok (.aload_n 0, 1) := by decide +kernel
theorem dX5_restore_15 : decode cX5_restore 15 = .ok (.getfield 23, 3) := by decide +kernel
theorem dX5_restore_18 : decode cX5_restore 18 = .ok (.invokevirtual 212, 3) := by decide +kernel
theorem dX5_restore_21 : decode cX5_restore 21 = .ok (.aload_n 0, 1) := by decide +kernel
theorem dX5_restore_22 : decode cX5_restore 22 = .ok (.getfield 19, 3) := by decide +kernel
theorem dX5_restore_25 : decode cX5_restore 25 = .ok (.aload_n 0, 1) := by decide +kernel
theorem dX5_restore_26 : decode cX5_restore 26 = .ok (.getfield 10, 3) := by decide +kernel
theorem dX5_restore_29 : decode cX5_restore 29 = .ok (.invokevirtual 84, 3) := by decide +kernel
theorem dX5_restore_32 : decode cX5_restore 32 = .ok (.aload_n 0, 1) := by decide +kernel
theorem dX5_restore_33 : decode cX5_restore 33 = .ok (.getfield 10, 3) := by decide +kernel
theorem dX5_restore_36 : decode cX5_restore 36 = .ok (.getfield 175, 3) := by decide +kernel
theorem dX5_restore_39 : decode cX5_restore 39 = .ok (.ireturn, 1) := by decide +kernel
set_option maxRecDepth 20000 in
theorem ggX5_count_X4_all : GoodIn wsX5_count wsX4_all := goodIn_r _ [9, 10, 38, 39, 40] (by decide +kernel) (by decide +kernel)
set_option maxRecDepth 20000 in
theorem gX5_count_X4_all : GoodIn wsX5_count (wsV RX5 219 RX4 yX4_all wsX4_all) := goodIn_app (goodIn_of _ (by decide +kernel)) ggX5_count_X4_all
set_option maxRecDepth 20000 in
theorem ggX5_count_X4_weightsOf : GoodIn wsX5_count wsX4_weightsOf := goodIn_r _ [14, 15, 16, 17, 18, 8, 19, 10, 38, 39, 40] (by decide +kernel) (by decide +kernel)
set_option maxRecDepth 20000 in
theorem gX5_count_X4_weightsOf : GoodIn wsX5_count (wsV RX5 223 RX4 yX4_weightsOf wsX4_weightsOf) := goodIn_app (goodIn_of _ (by decide +kernel)) ggX5_count_X4_weightsOf
set_option maxRecDepth 20000 in
theorem ggX5_count_X4_pricesOf : GoodIn wsX5_count wsX4_pricesOf := goodIn_r _ [23, 24, 16, 17, 18, 8, 19, 10, 38, 39, 40] (by decide +kernel) (by decide +kernel)
set_option maxRecDepth 20000 in
theorem gX5_count_X4_pricesOf : GoodIn wsX5_count (wsV RX5 112 RX4 yX4_pricesOf wsX4_pricesOf) := goodIn_app (goodIn_of _ (by decide +kernel)) ggX5_count_X4_pricesOf
theorem dX5_count_0 : decode cX5_count 0 = .ok (.iload_n 1, 1) := by decide +kernel
theorem dX5_count_1 : decode cX5_count 1 = .ok (.tableswitch 77 0 3 #[31, 39, 54, 69], 31) := by decide +kernel
theorem dX5_count_32 : decode cX5_count 32 = .ok (.aload_n 0, 1) := by decide +kernel
theorem dX5_count_33 : decode cX5_count 33 = .ok (.getfield 10, 3) := by decide +kernel
theorem dX5_count_36 : decode cX5_count 36 = .ok (.getfield 175, 3) := by decide +kernel
theorem dX5_count_39 : decode cX5_count 39 = .ok (.ireturn, 1) := by decide +kernel
theorem dX5_count_40 : decode cX5_count 40 = .ok (.aload_n 0, 1) := by decide +kernel
theorem dX5_count_41 : decode cX5_count 41 = .ok (.getfield 10, 3) := by decide +kernel
theorem dX5_count_44 : decode cX5_count 44 = .ok (.aload_n 0, 1) := by decide +kernel
theorem dX5_count_45 : decode cX5_count 45 = .ok (.getfield 10, 3) := by decide +kernel
theorem dX5_count_48 : decode cX5_count 48 = .ok (.invokevirtual 219, 3) := by decide +kernel
theorem dX5_count_51 : decode cX5_count 51 = .ok (.invokevirtual 223, 3) := by decide +kernel
theorem dX5_count_54 : decode cX5_count 54 = .ok (.ireturn, 1) := by decide +kernel
theorem dX5_count_55 : decode cX5_count 55 = .ok (.aload_n 0, 1) := by decide +kernel
theorem dX5_count_56 : decode cX5_count 56 = .ok (.getfield 10, 3) := by decide +kernel
theorem dX5_count_59 : decode cX5_count 59 = .ok (.aload_n 0, 1) := by decide +kernel
theorem dX5_count_60 : decode cX5_count 60 = .ok (.getfield 10, 3) := by decide +kernel
theorem dX5_count_63 : decode cX5_count 63 = .ok (.invokevirtual 219, 3) := by decide +kernel
theorem dX5_count_66 : decode cX5_count 66 = .ok (.invokevirtual 112, 3) := by decide +kernel
theorem dX5_count_69 : decode cX5_count 69 = .ok (.ireturn, 1) := by decide +kernel
theorem dX5_count_70 : decode cX5_count 70 = .ok (.aload_n 0, 1) := by decide +kernel
theorem dX5_count_71 : decode cX5_count 71 = .ok (.getfield 19, 3) := by decide +kernel
theorem dX5_count_74 : decode cX5_count 74 = .ok (.getfield 129, 3) := by decide +kernel
theorem dX5_count_77 : decode cX5_count 77 = .ok (.ireturn, 1) := by decide +kernel
theorem dX5_count_78 : decode cX5_count 78 = .ok (.iconst (-1), 1) := by decide +kernel
theorem dX5_count_79 : decode cX5_count 79 = .ok (.ireturn, 1) := by decide +kernel
set_option maxRecDepth 20000 in
theorem ggX5_keep_X5_isShelf : GoodIn wsX5_keep wsX5_isShelf := goodIn_r _ [9] (by decide +kernel) (by decide +kernel)
set_option maxRecDepth 20000 in
theorem gX5_keep_X5_isShelf : GoodIn wsX5_keep (va_wsS RX5 68 yX5_isShelf wsX5_isShelf) := goodIn_app (goodIn_of _ (by decide +kernel)) ggX5_keep_X5_isShelf
set_option maxRecDepth 20000 in
theorem ggX5_keep_X2_init : GoodIn wsX5_keep wsX2_init := goodIn_r _ [12, 13, 14, 15, 16, 17, 31, 32] (by decide +kernel) (by decide +kernel)
set_option maxRecDepth 20000 in
theorem gX5_keep_X2_init : GoodIn wsX5_keep (wsX2_init) := ggX5_keep_X2_init
theorem dX5_keep_0 : decode cX5_keep 0 = .ok (.iload_n 1, 1) := by decide +kernel
theorem dX5_keep_1 : decode cX5_keep 1 = .ok (.invokestatic 68, 3) := by decide +kernel
theorem dX5_keep_4 : decode cX5_keep 4 = .ok (.ifCond .eq 12, 3) := by decide +kernel
theorem dX5_keep_7 : decode cX5_keep 7 = .ok (.iload_n 2, 1) := by decide +kernel
theorem dX5_keep_8 : decode cX5_keep 8 = .ok (.ifCond .lt 8, 3) := by decide +kernel
theorem dX5_keep_11 : decode cX5_keep 11 = .ok (.iload_n 2, 1) := by decide +kernel
theorem dX5_keep_12 : decode cX5_keep 12 = .ok (.iconst 1, 1) := by decide +kernel
theorem dX5_keep_13 : decode cX5_keep 13 = .ok (.if_icmp .le 5, 3) := by decide +kernel
theorem dX5_keep_16 : decode cX5_keep 16 = .ok (.iconst (-1), 1) := by decide +kernel
theorem dX5_keep_17 : decode cX5_keep 17 = .ok (.ireturn, 1) := by decide +kernel
theorem dX5_keep_18 : decode cX5_keep 18 = .ok (.iload_n 2, 1) := by decide +kernel
theorem dX5_keep_19 : decode cX5_keep 19 = .ok (.iconst 1, 1) := by decide +kernel
theorem dX5_keep_20 : decode cX5_keep 20 = .ok (.if_icmp .ne 27, 3) := by decide +kernel
theorem dX5_keep_23 : decode cX5_keep 23 = .ok (.iload_n 3, 1) := by decide +kernel
theorem dX5_keep_24 : decode cX5_keep 24 = .ok (.ifCond .lt 21, 3) := by decide +kernel
theorem dX5_keep_27 : decode cX5_keep 27 = .ok (.iload_n 3, 1) := by decide +kernel
theorem dX5_keep_28 : decode cX5_keep 28 = .ok (.bipush 7, 2) := by decide +kernel
theorem dX5_keep_30 : decode cX5_keep 30 = .ok (.if_icmp .gt 15, 3) := by decide +kernel
theorem dX5_keep_33 : decode cX5_keep 33 = .ok (.iload 4, 2) := by decide +kernel
theorem dX5_keep_35 : decode cX5_keep 35 = .ok (.ifCond .lt 10, 3) := by decide +kernel
theorem dX5_keep_38 : decode cX5_keep 38 = .ok (.iload 4, 2) := by decide +kernel
theorem dX5_keep_40 : decode cX5_keep 40 = .ok (.bipush 9, 2) := by decide +kernel
theorem dX5_keep_42 : decode cX5_keep 42 = .ok (.if_icmp .le 5, 3) := by decide +kernel
theorem dX5_keep_45 : decode cX5_keep 45 = .ok (.iconst (-1), 1) := by decide +kernel
theorem dX5_keep_46 : decode cX5_keep 46 = .ok (.ireturn, 1) := by decide +kernel
theorem dX5_keep_47 : decode cX5_keep 47 = .ok (.aload_n 0, 1) := by decide +kernel
theorem dX5_keep_48 : decode cX5_keep 48 = .ok (.getfield 34, 3) := by decide +kernel
theorem dX5_keep_51 : decode cX5_keep 51 = .ok (.iload_n 1, 1) := by decide +kernel
theorem dX5_keep_52 : decode cX5_keep 52 = .ok (.iload_n 2, 1) := by decide +kernel
theorem dX5_keep_53 : decode cX5_keep 53 = .ok (.iconst 1, 1) := by decide +kernel
theorem dX5_keep_54 : decode cX5_keep 54 = .ok (.if_icmp .ne 16, 3) := by decide +kernel
theorem dX5_keep_57 : decode cX5_keep 57 = .ok (.new 32, 3) := by decide +kernel
theorem dX5_keep_60 : decode cX5_keep 60 = .ok (.dup, 1) := by decide +kernel
theorem dX5_keep_61 : decode cX5_keep 61 = .ok (.iload_n 3, 1) := by decide +kernel
theorem dX5_keep_62 : decode cX5_keep 62 = .ok (.iload 4, 2) := by decide +kernel
theorem dX5_keep_64 : decode cX5_keep 64 = .ok (.invokespecial 44, 3) := by decide +kernel
theorem dX5_keep_67 : decode cX5_keep 67 = .ok (.goto 4, 3) := by decide +kernel
theorem dX5_keep_70 : decode cX5_keep 70 = .ok (.aconst_null, 1) := by decide +kernel
theorem dX5_keep_71 : decode cX5_keep 71 = .ok (.aastore, 1) := by decide +kernel
theorem dX5_keep_72 : decode cX5_keep 72 = .ok (.aload_n 0, 1) := by decide +kernel
theorem dX5_keep_73 : decode cX5_keep 73 = .ok (.getfield 40, 3) := by decide +kernel
theorem dX5_keep_76 : decode cX5_keep 76 = .ok (.iload_n 1, 1) := by decide +kernel
theorem dX5_keep_77 : decode cX5_keep 77 = .ok (.aconst_null, 1) := by decide +kernel
theorem dX5_keep_78 : decode cX5_keep 78 = .ok (.aastore, 1) := by decide +kernel
theorem dX5_keep_79 : decode cX5_keep 79 = .ok (.iconst 0, 1) := by decide +kernel
theorem dX5_keep_80 : decode cX5_keep 80 = .ok (.ireturn, 1) := by decide +kernel
set_option maxRecDepth 20000 in
theorem ggX5_row_X5_isShelf : GoodIn wsX5_row wsX5_isShelf := goodIn_r _ [9] (by decide +kernel) (by decide +kernel)
set_option maxRecDepth 20000 in
theorem gX5_row_X5_isShelf : GoodIn wsX5_row (va_wsS RX5 68 yX5_isShelf wsX5_isShelf) := goodIn_app (goodIn_of _ (by decide +kernel)) ggX5_row_X5_isShelf
set_option maxRecDepth 20000 in
theorem ggX5_row_X1_init : GoodIn wsX5_row wsX1_init := goodIn_r _ [12, 13, 14, 15, 16, 17, 18, 32, 33] (by decide +kernel) (by decide +kernel)
set_option maxRecDepth 20000 in
theorem gX5_row_X1_init : GoodIn wsX5_row (wsX1_init) := ggX5_row_X1_init
theorem dX5_row_0 : decode cX5_row 0 = .ok (.iload_n 1, 1) := by decide +kernel
theorem dX5_row_1 : decode cX5_row 1 = .ok (.invokestatic 68, 3) := by decide +kernel
theorem dX5_row_4 : decode cX5_row 4 = .ok (.ifCond .eq 18, 3) := by decide +kernel
theorem dX5_row_7 : decode cX5_row 7 = .ok (.iload_n 2, 1) := by decide +kernel
theorem dX5_row_8 : decode cX5_row 8 = .ok (.ifCond .lt 14, 3) := by decide +kernel
theorem dX5_row_11 : decode cX5_row 11 = .ok (.iload_n 2, 1) := by decide +kernel
theorem dX5_row_12 : decode cX5_row 12 = .ok (.iconst 2, 1) := by decide +kernel
theorem dX5_row_13 : decode cX5_row 13 = .ok (.if_icmp .gt 9, 3) := by decide +kernel
theorem dX5_row_16 : decode cX5_row 16 = .ok (.iload_n 3, 1) := by decide +kernel
theorem dX5_row_17 : decode cX5_row 17 = .ok (.bipush 100, 2) := by decide +kernel
theorem dX5_row_19 : decode cX5_row 19 = .ok (.if_icmp .le 5, 3) := by decide +kernel
theorem dX5_row_22 : decode cX5_row 22 = .ok (.iconst (-1), 1) := by decide +kernel
theorem dX5_row_23 : decode cX5_row 23 = .ok (.ireturn, 1) := by decide +kernel
theorem dX5_row_24 : decode cX5_row 24 = .ok (.iload_n 3, 1) := by decide +kernel
theorem dX5_row_25 : decode cX5_row 25 = .ok (.ifCond .ge 6, 3) := by decide +kernel
theorem dX5_row_28 : decode cX5_row 28 = .ok (.bipush (-14), 2) := by decide +kernel
theorem dX5_row_30 : decode cX5_row 30 = .ok (.ireturn, 1) := by decide +kernel
theorem dX5_row_31 : decode cX5_row 31 = .ok (.aload_n 0, 1) := by decide +kernel
theorem dX5_row_32 : decode cX5_row 32 = .ok (.getfield 34, 3) := by decide +kernel
theorem dX5_row_35 : decode cX5_row 35 = .ok (.iload_n 1, 1) := by decide +kernel
theorem dX5_row_36 : decode cX5_row 36 = .ok (.aconst_null, 1) := by decide +kernel
theorem dX5_row_37 : decode cX5_row 37 = .ok (.aastore, 1) := by decide +kernel
theorem dX5_row_38 : decode cX5_row 38 = .ok (.aload_n 0, 1) := by decide +kernel
theorem dX5_row_39 : decode cX5_row 39 = .ok (.getfield 40, 3) := by decide +kernel
theorem dX5_row_42 : decode cX5_row 42 = .ok (.iload_n 1, 1) := by decide +kernel
theorem dX5_row_43 : decode cX5_row 43 = .ok (.new 38, 3) := by decide +kernel
theorem dX5_row_46 : decode cX5_row 46 = .ok (.dup, 1) := by decide +kernel
theorem dX5_row_47 : decode cX5_row 47 = .ok (.iload_n 2, 1) := by decide +kernel
theorem dX5_row_48 : decode cX5_row 48 = .ok (.iload_n 3, 1) := by decide +kernel
theorem dX5_row_49 : decode cX5_row 49 = .ok (.invokespecial 226, 3) := by decide +kernel
theorem dX5_row_52 : decode cX5_row 52 = .ok (.aastore, 1) := by decide +kernel
theorem dX5_row_53 : decode cX5_row 53 = .ok (.iconst 0, 1) := by decide +kernel
theorem dX5_row_54 : decode cX5_row 54 = .ok (.ireturn, 1) := by decide +kernel
set_option maxRecDepth 20000 in
theorem ggX5_put_X5_isShelf : GoodIn wsX5_put wsX5_isShelf := goodIn_r _ [6] (by decide +kernel) (by decide +kernel)
set_option maxRecDepth 20000 in
theorem gX5_put_X5_isShelf : GoodIn wsX5_put (va_wsS RX5 68 yX5_isShelf wsX5_isShelf) := goodIn_app (goodIn_of _ (by decide +kernel)) ggX5_put_X5_isShelf
set_option maxRecDepth 20000 in
theorem ggX5_put_X5_notHeld : GoodIn wsX5_put wsX5_notHeld := goodIn_r _ [10, 11, 12, 13, 5, 14, 15, 1, 27, 28, 29, 30, 31, 32, 33, 34, 35, 36, 37, 38, 39] (by decide +kernel) (by decide +kernel)
set_option maxRecDepth 20000 in
theorem gX5_put_X5_notHeld : GoodIn wsX5_put (wsV RX5 76 RX5 yX5_notHeld wsX5_notHeld) := goodIn_app (goodIn_of _ (by decide +kernel)) ggX5_put_X5_notHeld
set_option maxRecDepth 20000 in
theorem ggX5_put_X1_isPlace : GoodIn wsX5_put wsX1_isPlace := goodIn_r _ [20, 21, 40, 41] (by decide +kernel) (by decide +kernel)
set_option maxRecDepth 20000 in
theorem gX5_put_X1_isPlace : GoodIn wsX5_put (wsV RX5 227 RX1 yX1_isPlace wsX1_isPlace) := goodIn_app (goodIn_of _ (by decide +kernel)) ggX5_put_X1_isPlace
set_option maxRecDepth 20000 in
theorem ggX5_put_X1_lowestBits : GoodIn wsX5_put wsX1_lowestBits := goodIn_r _ [25, 26, 40, 41] (by decide +kernel) (by decide +kernel)
set_option maxRecDepth 20000 in
theorem gX5_put_X1_lowestBits : GoodIn wsX5_put (wsV RX5 230 RX1 yX1_lowestBits wsX1_lowestBits) := goodIn_app (goodIn_of _ (by decide +kernel)) ggX5_put_X1_lowestBits
theorem dX5_put_0 : decode cX5_put 0 = .ok (.iload_n 1, 1) := by decide +kernel
theorem dX5_put_1 : decode cX5_put 1 = .ok (.invokestatic 68, 3) := by decide +kernel
theorem dX5_put_4 : decode cX5_put 4 = .ok (.ifCond .ne 5, 3) := by decide +kernel
theorem dX5_put_7 : decode cX5_put 7 = .ok (.iconst (-1), 1) := by decide +kernel
theorem dX5_put_8 : decode cX5_put 8 = .ok (.ireturn, 1) := by decide +kernel
theorem dX5_put_9 : decode cX5_put 9 = .ok (.aload_n 0, 1) := by decide +kernel
theorem dX5_put_10 : decode cX5_put 10 = .ok (.getfield 40, 3) := by decide +kernel
theorem dX5_put_13 : decode cX5_put 13 = .ok (.iload_n 1, 1) := by decide +kernel
theorem dX5_put_14 : decode cX5_put 14 = .ok (.aaload, 1) := by decide +kernel
theorem dX5_put_15 : decode cX5_put 15 = .ok (.astore 4, 2) := by decide +kernel
theorem dX5_put_17 : decode cX5_put 17 = .ok (.aload 4, 2) := by decide +kernel
theorem dX5_put_19 : decode cX5_put 19 = .ok (.ifnonnull 9, 3) := by decide +kernel
theorem dX5_put_22 : decode cX5_put 22 = .ok (.aload_n 0, 1) := by decide +kernel
theorem dX5_put_23 : decode cX5_put 23 = .ok (.iload_n 1, 1) := by decide +kernel
theorem dX5_put_24 : decode cX5_put 24 = .ok (.invokevirtual 76, 3) := by decide +kernel
theorem dX5_put_27 : decode cX5_put 27 = .ok (.ireturn, 1) := by decide +kernel
theorem dX5_put_28 : decode cX5_put 28 = .ok (.aload 4, 2) := by decide +kernel
theorem dX5_put_30 : decode cX5_put 30 = .ok (.iload_n 2, 1) := by decide +kernel
theorem dX5_put_31 : decode cX5_put 31 = .ok (.invokevirtual 227, 3) := by decide +kernel
theorem dX5_put_34 : decode cX5_put 34 = .ok (.ifCond .ne 6, 3) := by decide +kernel
theorem dX5_put_37 : decode cX5_put 37 = .ok (.bipush (-13), 2) := by decide +kernel
theorem dX5_put_39 : decode cX5_put 39 = .ok (.ireturn, 1) := by decide +kernel
theorem dX5_put_40 : decode cX5_put 40 = .ok (.aload 4, 2) := by decide +kernel
theorem dX5_put_42 : decode cX5_put 42 = .ok (.getfield 209, 3) := by decide +kernel
theorem dX5_put_45 : decode cX5_put 45 = .ok (.iload_n 2, 1) := by decide +kernel
theorem dX5_put_46 : decode cX5_put 46 = .ok (.aload 4, 2) := by decide +kernel
theorem dX5_put_48 : decode cX5_put 48 = .ok (.iload_n 3, 1) := by decide +kernel
theorem dX5_put_49 : decode cX5_put 49 = .ok (.invokevirtual 230, 3) := by decide +kernel
theorem dX5_put_52 : decode cX5_put 52 = .ok (.iastore, 1) := by decide +kernel
theorem dX5_put_53 : decode cX5_put 53 = .ok (.iconst 0, 1) := by decide +kernel
theorem dX5_put_54 : decode cX5_put 54 = .ok (.ireturn, 1) := by decide +kernel
theorem dX5_element_0 : decode cX5_element 0 = .ok (.iload_n 1, 1) := by decide +kernel
theorem dX5_element_1 : decode cX5_element 1 = .ok (.invokestatic 68, 3) := by decide +kernel
theorem dX5_element_4 : decode cX5_element 4 = .ok (.ifCond .ne 13, 3) := by decide +kernel
theorem dX5_element_7 : decode cX5_element 7 = .ok (.new 233, 3) := by decide +kernel
theorem dX5_element_10 : decode cX5_element 10 = .ok (.dup, 1) := by decide +kernel
theorem dX5_element_11 : decode cX5_element 11 = .ok (.ldc 235, 2) := by decide +kernel
theorem dX5_element_13 : decode cX5_element 13 = .ok (.invokespecial 237, 3) := by decide +kernel
theorem dX5_element_16 : decode cX5_element 16 = .ok (.athrow, 1) := by decide +kernel
theorem dX5_element_17 : decode cX5_element 17 = .ok (.aload_n 0, 1) := by decide +kernel
theorem dX5_element_18 : decode cX5_element 18 = .ok (.getfield 40, 3) := by decide +kernel
theorem dX5_element_21 : decode cX5_element 21 = .ok (.iload_n 1, 1) := by decide +kernel
theorem dX5_element_22 : decode cX5_element 22 = .ok (.aaload, 1) := by decide +kernel
theorem dX5_element_23 : decode cX5_element 23 = .ok (.astore_n 3, 1) := by decide +kernel
theorem dX5_element_24 : decode cX5_element 24 = .ok (.aload_n 3, 1) := by decide +kernel
theorem dX5_element_25 : decode cX5_element 25 = .ok (.ifnull 11, 3) := by decide +kernel
theorem dX5_element_28 : decode cX5_element 28 = .ok (.aload_n 3, 1) := by decide +kernel
theorem dX5_element_29 : decode cX5_element 29 = .ok (.iload_n 2, 1) := by decide +kernel
theorem dX5_element_30 : decode cX5_element 30 = .ok (.invokevirtual 227, 3) := by decide +kernel
theorem dX5_element_33 : decode cX5_element 33 = .ok (.ifCond .ne 13, 3) := by decide +kernel
theorem dX5_element_36 : decode cX5_element 36 = .ok (.new 240, 3) := by decide +kernel
theorem dX5_element_39 : decode cX5_element 39 = .ok (.dup, 1) := by decide +kernel
theorem dX5_element_40 : decode cX5_element 40 = .ok (.ldc 242, 2) := by decide +kernel
theorem dX5_element_42 : decode cX5_element 42 = .ok (.invokespecial 244, 3) := by decide +kernel
theorem dX5_element_45 : decode cX5_element 45 = .ok (.athrow, 1) := by decide +kernel
theorem dX5_element_46 : decode cX5_element 46 = .ok (.aload_n 3, 1) := by decide +kernel
theorem dX5_element_47 : decode cX5_element 47 = .ok (.getfield 209, 3) := by decide +kernel
theorem dX5_element_50 : decode cX5_element 50 = .ok (.iload_n 2, 1) := by decide +kernel
theorem dX5_element_51 : decode cX5_element 51 = .ok (.iaload, 1) := by decide +kernel
theorem dX5_element_52 : decode cX5_element 52 = .ok (.i2l, 1) := by decide +kernel
theorem dX5_element_53 : decode cX5_element 53 = .ok (.lreturn, 1) := by decide +kernel
set_option maxRecDepth 20000 in
theorem ggX5_copy_X5_isShelf : GoodIn wsX5_copy wsX5_isShelf := goodIn_r _ [11] (by decide +kernel) (by decide +kernel)
set_option maxRecDepth 20000 in
theorem gX5_copy_X5_isShelf : GoodIn wsX5_copy (va_wsS RX5 68 yX5_isShelf wsX5_isShelf) := goodIn_app (goodIn_of _ (by decide +kernel)) ggX5_copy_X5_isShelf
set_option maxRecDepth 20000 in
theorem ggX5_copy_X5_holdsNothing : GoodIn wsX5_copy wsX5_holdsNothing := goodIn_r _ [15, 16, 1, 23, 24, 25, 26, 27, 28, 29, 30, 31, 32, 33, 34, 35] (by decide +kernel) (by decide +kernel)
set_option maxRecDepth 20000 in
theorem gX5_copy_X5_holdsNothing : GoodIn wsX5_copy (wsV RX5 245 RX5 yX5_holdsNothing wsX5_holdsNothing) := goodIn_app (goodIn_of _ (by decide +kernel)) ggX5_copy_X5_holdsNothing
set_option maxRecDepth 20000 in
theorem ggX5_copy_X1_isStretch : GoodIn wsX5_copy wsX1_isStretch := goodIn_r _ [21, 22, 36, 37] (by decide +kernel) (by decide +kernel)
set_option maxRecDepth 20000 in
theorem gX5_copy_X1_isStretch : GoodIn wsX5_copy (wsV RX5 251 RX1 yX1_isStretch wsX1_isStretch) := goodIn_app (goodIn_of _ (by decide +kernel)) ggX5_copy_X1_isStretch
theorem dX5_copy_0 : decode cX5_copy 0 = .ok (.iload_n 1, 1) := by decide +kernel
theorem dX5_copy_1 : decode cX5_copy 1 = .ok (.invokestatic 68, 3) := by decide +kernel
theorem dX5_copy_4 : decode cX5_copy 4 = .ok (.ifCond .eq 10, 3) := by decide +kernel
theorem dX5_copy_7 : decode cX5_copy 7 = .ok (.iload_n 3, 1) := by decide +kernel
theorem dX5_copy_8 : decode cX5_copy 8 = .ok (.invokestatic 68, 3) := by decide +kernel
theorem dX5_copy_11 : decode cX5_copy 11 = .ok (.ifCond .ne 5, 3) := by decide +kernel
theorem dX5_copy_14 : decode cX5_copy 14 = .ok (.iconst (-1), 1) := by decide +kernel
theorem dX5_copy_15 : decode cX5_copy 15 = .ok (.ireturn, 1) := by decide +kernel
theorem dX5_copy_16 : decode cX5_copy 16 = .ok (.aload_n 0, 1) := by decide +kernel
theorem dX5_copy_17 : decode cX5_copy 17 = .ok (.iload_n 1, 1) := by decide +kernel
theorem dX5_copy_18 : decode cX5_copy 18 = .ok (.invokevirtual 245, 3) := by decide +kernel
theorem dX5_copy_21 : decode cX5_copy 21 = .ok (.ifCond .ne 11, 3) := by decide +kernel
theorem dX5_copy_24 : decode cX5_copy 24 = .ok (.aload_n 0, 1) := by decide +kernel
theorem dX5_copy_25 : decode cX5_copy 25 = .ok (.iload_n 3, 1) := by decide +kernel
theorem dX5_copy_26 : decode cX5_copy 26 = .ok (.invokevirtual 245, 3) := by decide +kernel
theorem dX5_copy_29 : decode cX5_copy 29 = .ok (.ifCond .eq 6, 3) := by decide +kernel
theorem dX5_copy_32 : decode cX5_copy 32 = .ok (.bipush (-11), 2) := by decide +kernel
theorem dX5_copy_34 : decode cX5_copy 34 = .ok (.ireturn, 1) := by decide +kernel
theorem dX5_copy_35 : decode cX5_copy 35 = .ok (.aload_n 0, 1) := by decide +kernel
theorem dX5_copy_36 : decode cX5_copy 36 = .ok (.getfield 40, 3) := by decide +kernel
theorem dX5_copy_39 : decode cX5_copy 39 = .ok (.iload_n 1, 1) := by decide +kernel
theorem dX5_copy_40 : decode cX5_copy 40 = .ok (.aaload, 1) := by decide +kernel
theorem dX5_copy_41 : decode cX5_copy 41 = .ok (.astore 6, 2) := by decide +kernel
theorem dX5_copy_43 : decode cX5_copy 43 = .ok (.aload_n 0, 1) := by decide +kernel
theorem dX5_copy_44 : decode cX5_copy 44 = .ok (.getfield 40, 3) := by decide +kernel
theorem dX5_copy_47 : decode cX5_copy 47 = .ok (.iload_n 3, 1) := by decide +kernel
theorem dX5_copy_48 : decode cX5_copy 48 = .ok (.aaload, 1) := by decide +kernel
theorem dX5_copy_49 : decode cX5_copy 49 = .ok (.astore 7, 2) := by decide +kernel
theorem dX5_copy_51 : decode cX5_copy 51 = .ok (.aload 6, 2) := by decide +kernel
theorem dX5_copy_53 : decode cX5_copy 53 = .ok (.ifnull 21, 3) := by decide +kernel
theorem dX5_copy_56 : decode cX5_copy 56 = .ok (.aload 7, 2) := by decide +kernel
theorem dX5_copy_58 : decode cX5_copy 58 = .ok (.ifnull 16, 3) := by decide +kernel
theorem dX5_copy_61 : decode cX5_copy 61 = .ok (.aload 6, 2) := by decide +kernel
theorem dX5_copy_63 : decode cX5_copy 63 = .ok (.getfield 248, 3) := by decide +kernel
theorem dX5_copy_66 : decode cX5_copy 66 = .ok (.aload 7, 2) := by decide +kernel
theorem dX5_copy_68 : decode cX5_copy 68 = .ok (.getfield 248, 3) := by decide +kernel
theorem dX5_copy_71 : decode cX5_copy 71 = .ok (.if_icmp .eq 6, 3) := by decide +kernel
theorem dX5_copy_74 : decode cX5_copy 74 = .ok (.bipush (-12), 2) := by decide +kernel
theorem dX5_copy_76 : decode cX5_copy 76 = .ok (.ireturn, 1) := by decide +kernel
theorem dX5_copy_77 : decode cX5_copy 77 = .ok (.aload 6, 2) := by decide +kernel
theorem dX5_copy_79 : decode cX5_copy 79 = .ok (.iload_n 2, 1) := by decide +kernel
theorem dX5_copy_80 : decode cX5_copy 80 = .ok (.iload 5, 2) := by decide +kernel
theorem dX5_copy_82 : decode cX5_copy 82 = .ok (.invokevirtual 251, 3) := by decide +kernel
theorem dX5_copy_85 : decode cX5_copy 85 = .ok (.ifCond .eq 15, 3) := by decide +kernel
theorem dX5_copy_88 : decode cX5_copy 88 = .ok (.aload 7, 2) := by decide +kernel
theorem dX5_copy_90 : decode cX5_copy 90 = .ok (.iload 4, 2) := by decide +kernel
theorem dX5_copy_92 : decode cX5_copy 92 = .ok (.iload 5, 2) := by decide +kernel
theorem dX5_copy_94 : decode cX5_copy 94 = .ok (.invokevirtual 251, 3) := by decide +kernel
theorem dX5_copy_97 : decode cX5_copy 97 = .ok (.ifCond .ne 6, 3) := by decide +kernel
theorem dX5_copy_100 : decode cX5_copy 100 = .ok (.bipush (-13), 2) := by decide +kernel
theorem dX5_copy_102 : decode cX5_copy 102 = .ok (.ireturn, 1) := by decide +kernel
theorem dX5_copy_103 : decode cX5_copy 103 = .ok (.aload 6, 2) := by decide +kernel
theorem dX5_copy_105 : decode cX5_copy 105 = .ok (.getfield 209, 3) := by decide +kernel
theorem dX5_copy_108 : decode cX5_copy 108 = .ok (.iload_n 2, 1) := by decide +kernel
theorem dX5_copy_109 : decode cX5_copy 109 = .ok (.aload 7, 2) := by decide +kernel
theorem dX5_copy_111 : decode cX5_copy 111 = .ok (.getfield 209, 3) := by decide +kernel
theorem dX5_copy_114 : decode cX5_copy 114 = .ok (.iload 4, 2) := by decide +kernel
theorem dX5_copy_116 : decode cX5_copy 116 = .ok (.iload 5, 2) := by decide +kernel
theorem dX5_copy_118 : decode cX5_copy 118 = .ok (.invokestatic 254, 3) := by decide +kernel
theorem dX5_copy_121 : decode cX5_copy 121 = .ok (.iload 5, 2) := by decide +kernel
theorem dX5_copy_123 : decode cX5_copy 123 = .ok (.ireturn, 1) := by decide +kernel
set_option maxRecDepth 20000 in
theorem ggX5_cost_X5_isShelf : GoodIn wsX5_cost wsX5_isShelf := goodIn_r _ [5] (by decide +kernel) (by decide +kernel)
set_option maxRecDepth 20000 in
theorem gX5_cost_X5_isShelf : GoodIn wsX5_cost (va_wsS RX5 68 yX5_isShelf wsX5_isShelf) := goodIn_app (goodIn_of _ (by decide +kernel)) ggX5_cost_X5_isShelf
set_option maxRecDepth 20000 in
theorem ggX5_cost_X5_notHeld : GoodIn wsX5_cost wsX5_notHeld := goodIn_r _ [9, 10, 11, 12, 4, 13, 1, 14, 22, 23, 24, 25, 26, 27, 28, 29, 30, 31, 32, 33, 34] (by decide +kernel) (by decide +kernel)
set_option maxRecDepth 20000 in
theorem gX5_cost_X5_notHeld : GoodIn wsX5_cost (wsV RX5 76 RX5 yX5_notHeld wsX5_notHeld) := goodIn_app (goodIn_of _ (by decide +kernel)) ggX5_cost_X5_notHeld
set_option maxRecDepth 20000 in
theorem ggX5_cost_X2_price : GoodIn wsX5_cost wsX2_price := goodIn_r _ [19, 20, 21, 35, 36] (by decide +kernel) (by decide +kernel)
set_option maxRecDepth 20000 in
theorem gX5_cost_X2_price : GoodIn wsX5_cost (wsV RX5 260 RX2 yX2_price wsX2_price) := goodIn_app (goodIn_of _ (by decide +kernel)) ggX5_cost_X2_price
theorem dX5_cost_0 : decode cX5_cost 0 = .ok (.iload_n 1, 1) := by decide +kernel
theorem dX5_cost_1 : decode cX5_cost 1 = .ok (.invokestatic 68, 3) := by decide +kernel
theorem dX5_cost_4 : decode cX5_cost 4 = .ok (.ifCond .ne 5, 3) := by decide +kernel
theorem dX5_cost_7 : decode cX5_cost 7 = .ok (.iconst (-1), 1) := by decide +kernel
theorem dX5_cost_8 : decode cX5_cost 8 = .ok (.ireturn, 1) := by decide +kernel
theorem dX5_cost_9 : decode cX5_cost 9 = .ok (.aload_n 0, 1) := by decide +kernel
theorem dX5_cost_10 : decode cX5_cost 10 = .ok (.getfield 34, 3) := by decide +kernel
theorem dX5_cost_13 : decode cX5_cost 13 = .ok (.iload_n 1, 1) := by decide +kernel
theorem dX5_cost_14 : decode cX5_cost 14 = .ok (.aaload, 1) := by decide +kernel
theorem dX5_cost_15 : decode cX5_cost 15 = .ok (.astore_n 2, 1) := by decide +kernel
theorem dX5_cost_16 : decode cX5_cost 16 = .ok (.aload_n 2, 1) := by decide +kernel
theorem dX5_cost_17 : decode cX5_cost 17 = .ok (.ifnonnull 11, 3) := by decide +kernel
theorem dX5_cost_20 : decode cX5_cost 20 = .ok (.aload_n 0, 1) := by decide +kernel
theorem dX5_cost_21 : decode cX5_cost 21 = .ok (.iload_n 1, 1) := by decide +kernel
theorem dX5_cost_22 : decode cX5_cost 22 = .ok (.invokevirtual 76, 3) := by decide +kernel
theorem dX5_cost_25 : decode cX5_cost 25 = .ok (.goto 7, 3) := by decide +kernel
theorem dX5_cost_28 : decode cX5_cost 28 = .ok (.aload_n 2, 1) := by decide +kernel
theorem dX5_cost_29 : decode cX5_cost 29 = .ok (.invokevirtual 260, 3) := by decide +kernel
theorem dX5_cost_32 : decode cX5_cost 32 = .ok (.ireturn, 1) := by decide +kernel
theorem dX5_toss_0 : decode cX5_toss 0 = .ok (.iload_n 1, 1) := by decide +kernel
theorem dX5_toss_1 : decode cX5_toss 1 = .ok (.invokestatic 68, 3) := by decide +kernel
theorem dX5_toss_4 : decode cX5_toss 4 = .ok (.ifCond .ne 5, 3) := by decide +kernel
theorem dX5_toss_7 : decode cX5_toss 7 = .ok (.iconst (-1), 1) := by decide +kernel
theorem dX5_toss_8 : decode cX5_toss 8 = .ok (.ireturn, 1) := by decide +kernel
theorem dX5_toss_9 : decode cX5_toss 9 = .ok (.aload_n 0, 1) := by decide +kernel
theorem dX5_toss_10 : decode cX5_toss 10 = .ok (.getfield 34, 3) := by decide +kernel
theorem dX5_toss_13 : decode cX5_toss 13 = .ok (.iload_n 1, 1) := by decide +kernel
theorem dX5_toss_14 : decode cX5_toss 14 = .ok (.aaload, 1) := by decide +kernel
theorem dX5_toss_15 : decode cX5_toss 15 = .ok (.astore_n 2, 1) := by decide +kernel
theorem dX5_toss_16 : decode cX5_toss 16 = .ok (.aload_n 2, 1) := by decide +kernel
theorem dX5_toss_17 : decode cX5_toss 17 = .ok (.ifnonnull 9, 3) := by decide +kernel
theorem dX5_toss_20 : decode cX5_toss 20 = .ok (.aload_n 0, 1) := by decide +kernel
theorem dX5_toss_21 : decode cX5_toss 21 = .ok (.iload_n 1, 1) := by decide +kernel
theorem dX5_toss_22 : decode cX5_toss 22 = .ok (.invokevirtual 76, 3) := by decide +kernel
theorem dX5_toss_25 : decode cX5_toss 25 = .ok (.ireturn, 1) := by decide +kernel
theorem dX5_toss_26 : decode cX5_toss 26 = .ok (.aload_n 2, 1) := by decide +kernel
theorem dX5_toss_27 : decode cX5_toss 27 = .ok (.invokevirtual 263, 3) := by decide +kernel
theorem dX5_toss_30 : decode cX5_toss 30 = .ok (.bipush (-15), 2) := by decide +kernel
theorem dX5_toss_32 : decode cX5_toss 32 = .ok (.ireturn, 1) := by decide +kernel
theorem dX5_toss_33 : decode cX5_toss 33 = .ok (.astore_n 3, 1) := by decide +kernel
theorem dX5_toss_34 : decode cX5_toss 34 = .ok (.sipush 200, 3) := by decide +kernel
theorem dX5_toss_37 : decode cX5_toss 37 = .ok (.aload_n 2, 1) := by decide +kernel
theorem dX5_toss_38 : decode cX5_toss 38 = .ok (.invokevirtual 260, 3) := by decide +kernel
theorem dX5_toss_41 : decode cX5_toss 41 = .ok (.iadd, 1) := by decide +kernel
theorem dX5_toss_42 : decode cX5_toss 42 = .ok (.ireturn, 1) := by decide +kernel
theorem dX5_toss_43 : decode cX5_toss 43 = .ok (.astore_n 3, 1) := by decide +kernel
theorem dX5_toss_44 : decode cX5_toss 44 = .ok (.bipush 100, 2) := by decide +kernel
theorem dX5_toss_46 : decode cX5_toss 46 = .ok (.aload_n 2, 1) := by decide +kernel
theorem dX5_toss_47 : decode cX5_toss 47 = .ok (.getfield 268, 3) := by decide +kernel
theorem dX5_toss_50 : decode cX5_toss 50 = .ok (.iadd, 1) := by decide +kernel
theorem dX5_toss_51 : decode cX5_toss 51 = .ok (.ireturn, 1) := by decide +kernel
theorem dX5_toss_52 : decode cX5_toss 52 = .ok (.astore_n 3, 1) := by decide +kernel
theorem dX5_toss_53 : decode cX5_toss 53 = .ok (.aload_n 2, 1) := by decide +kernel
theorem dX5_toss_54 : decode cX5_toss 54 = .ok (.getfield 268, 3) := by decide +kernel
theorem dX5_toss_57 : decode cX5_toss 57 = .ok (.ireturn, 1) := by decide +kernel
theorem dX5_isShelf_0 : decode cX5_isShelf 0 = .ok (.iload_n 0, 1) := by decide +kernel
theorem dX5_isShelf_1 : decode cX5_isShelf 1 = .ok (.ifCond .lt 13, 3) := by decide +kernel
theorem dX5_isShelf_4 : decode cX5_isShelf 4 = .ok (.iload_n 0, 1) := by decide +kernel
theorem dX5_isShelf_5 : decode cX5_isShelf 5 = .ok (.bipush 8, 2) := by decide +kernel
theorem dX5_isShelf_7 : decode cX5_isShelf 7 = .ok (.if_icmp .ge 7, 3) := by decide +kernel
theorem dX5_isShelf_10 : decode cX5_isShelf 10 = .ok (.iconst 1, 1) := by decide +kernel
theorem dX5_isShelf_11 : decode cX5_isShelf 11 = .ok (.goto 4, 3) := by decide +kernel
theorem dX5_isShelf_14 : decode cX5_isShelf 14 = .ok (.iconst 0, 1) := by decide +kernel
theorem dX5_isShelf_15 : decode cX5_isShelf 15 = .ok (.ireturn, 1) := by decide +kernel
theorem dX5_holdsNothing_0 : decode cX5_holdsNothing 0 = .ok (.aload_n 0, 1) := by decide +kernel
theorem dX5_holdsNothing_1 : decode cX5_holdsNothing 1 = .ok (.getfield 34, 3) := by decide +kernel
theorem dX5_holdsNothing_4 : decode cX5_holdsNothing 4 = .ok (.iload_n 1, 1) := by decide +kernel
theorem dX5_holdsNothing_5 : decode cX5_holdsNothing 5 = .ok (.aaload, 1) := by decide +kernel
theorem dX5_holdsNothing_6 : decode cX5_holdsNothing 6 = .ok (.ifnonnull 16, 3) := by decide +kernel
theorem dX5_holdsNothing_9 : decode cX5_holdsNothing 9 = .ok (.aload_n 0, 1) := by decide +kernel
theorem dX5_holdsNothing_10 : decode cX5_holdsNothing 10 = .ok (.getfield 40, 3) := by decide +kernel
theorem dX5_holdsNothing_13 : decode cX5_holdsNothing 13 = .ok (.iload_n 1, 1) := by decide +kernel
theorem dX5_holdsNothing_14 : decode cX5_holdsNothing 14 = .ok (.aaload, 1) := by decide +kernel
theorem dX5_holdsNothing_15 : decode cX5_holdsNothing 15 = .ok (.ifnonnull 7, 3) := by decide +kernel
theorem dX5_holdsNothing_18 : decode cX5_holdsNothing 18 = .ok (.iconst 1, 1) := by decide +kernel
theorem dX5_holdsNothing_19 : decode cX5_holdsNothing 19 = .ok (.goto 4, 3) := by decide +kernel
theorem dX5_holdsNothing_22 : decode cX5_holdsNothing 22 = .ok (.iconst 0, 1) := by decide +kernel
theorem dX5_holdsNothing_23 : decode cX5_holdsNothing 23 = .ok (.ireturn, 1) := by decide +kernel
set_option maxRecDepth 20000 in
theorem ggX5_notHeld_X5_holdsNothing : GoodIn wsX5_notHeld wsX5_holdsNothing := goodIn_r _ [5, 6, 7, 8, 9, 10, 11, 12, 13, 14, 15, 16, 17, 18, 19, 20] (by decide +kernel) (by decide +kernel)
set_option maxRecDepth 20000 in
theorem gX5_notHeld_X5_holdsNothing : GoodIn wsX5_notHeld (wsV RX5 245 RX5 yX5_holdsNothing wsX5_holdsNothing) := goodIn_app (goodIn_of _ (by decide +kernel)) ggX5_notHeld_X5_holdsNothing
theorem dX5_notHeld_0 : decode cX5_notHeld 0 = .ok (.aload_n 0, 1) := by decide +kernel
theorem dX5_notHeld_1 : decode cX5_notHeld 1 = .ok (.iload_n 1, 1) := by decide +kernel
theorem dX5_notHeld_2 : decode cX5_notHeld 2 = .ok (.invokevirtual 245, 3) := by decide +kernel
theorem dX5_notHeld_5 : decode cX5_notHeld 5 = .ok (.ifCond .eq 8, 3) := by decide +kernel
theorem dX5_notHeld_8 : decode cX5_notHeld 8 = .ok (.bipush (-11), 2) := by decide +kernel
theorem dX5_notHeld_10 : decode cX5_notHeld 10 = .ok (.goto 5, 3) := by decide +kernel
theorem dX5_notHeld_13 : decode cX5_notHeld 13 = .ok (.bipush (-12), 2) := by decide +kernel
theorem dX5_notHeld_15 : decode cX5_notHeld 15 = .ok (.ireturn, 1) := by decide +kernel
theorem dX5_rowOfSort_0 : decode cX5_rowOfSort 0 = .ok (.aload_n 0, 1) := by decide +kernel
theorem dX5_rowOfSort_1 : decode cX5_rowOfSort 1 = .ok (.getfield 40, 3) := by decide +kernel
theorem dX5_rowOfSort_4 : decode cX5_rowOfSort 4 = .ok (.iload_n 1, 1) := by decide +kernel
theorem dX5_rowOfSort_5 : decode cX5_rowOfSort 5 = .ok (.aaload, 1) := by decide +kernel
theorem dX5_rowOfSort_6 : decode cX5_rowOfSort 6 = .ok (.astore_n 3, 1) := by decide +kernel
theorem dX5_rowOfSort_7 : decode cX5_rowOfSort 7 = .ok (.aload_n 3, 1) := by decide +kernel
theorem dX5_rowOfSort_8 : decode cX5_rowOfSort 8 = .ok (.ifnull 15, 3) := by decide +kernel
theorem dX5_rowOfSort_11 : decode cX5_rowOfSort 11 = .ok (.aload_n 3, 1) := by decide +kernel
theorem dX5_rowOfSort_12 : decode cX5_rowOfSort 12 = .ok (.getfield 248, 3) := by decide +kernel
theorem dX5_rowOfSort_15 : decode cX5_rowOfSort 15 = .ok (.iload_n 2, 1) := by decide +kernel
theorem dX5_rowOfSort_16 : decode cX5_rowOfSort 16 = .ok (.if_icmp .ne 7, 3) := by decide +kernel
theorem dX5_rowOfSort_19 : decode cX5_rowOfSort 19 = .ok (.aload_n 3, 1) := by decide +kernel
theorem dX5_rowOfSort_20 : decode cX5_rowOfSort 20 = .ok (.goto 4, 3) := by decide +kernel
theorem dX5_rowOfSort_23 : decode cX5_rowOfSort 23 = .ok (.aconst_null, 1) := by decide +kernel
theorem dX5_rowOfSort_24 : decode cX5_rowOfSort 24 = .ok (.areturn, 1) := by decide +kernel
theorem dX5_isNumber_0 : decode cX5_isNumber 0 = .ok (.iload_n 0, 1) := by decide +kernel
theorem dX5_isNumber_1 : decode cX5_isNumber 1 = .ok (.sipush (-9999), 3) := by decide +kernel
theorem dX5_isNumber_4 : decode cX5_isNumber 4 = .ok (.if_icmp .lt 14, 3) := by decide +kernel
theorem dX5_isNumber_7 : decode cX5_isNumber 7 = .ok (.iload_n 0, 1) := by decide +kernel
theorem dX5_isNumber_8 : decode cX5_isNumber 8 = .ok (.sipush 9999, 3) := by decide +kernel
theorem dX5_isNumber_11 : decode cX5_isNumber 11 = .ok (.if_icmp .gt 7, 3) := by decide +kernel
theorem dX5_isNumber_14 : decode cX5_isNumber 14 = .ok (.iconst 1, 1) := by decide +kernel
theorem dX5_isNumber_15 : decode cX5_isNumber 15 = .ok (.goto 4, 3) := by decide +kernel
theorem dX5_isNumber_18 : decode cX5_isNumber 18 = .ok (.iconst 0, 1) := by decide +kernel
theorem dX5_isNumber_19 : decode cX5_isNumber 19 = .ok (.ireturn, 1) := by decide +kernel
theorem dX5_canBeHad_0 : decode cX5_canBeHad 0 = .ok (.iload_n 0, 1) := by decide +kernel
theorem dX5_canBeHad_1 : decode cX5_canBeHad 1 = .ok (.iconst 1, 1) := by decide +kernel
theorem dX5_canBeHad_2 : decode cX5_canBeHad 2 = .ok (.if_icmp .lt 14, 3) := by decide +kernel
theorem dX5_canBeHad_5 : decode cX5_canBeHad 5 = .ok (.iload_n 0, 1) := by decide +kernel
theorem dX5_canBeHad_6 : decode cX5_canBeHad 6 = .ok (.sipush 999, 3) := by decide +kernel
theorem dX5_canBeHad_9 : decode cX5_canBeHad 9 = .ok (.if_icmp .gt 7, 3) := by decide +kernel
theorem dX5_canBeHad_12 : decode cX5_canBeHad 12 = .ok (.iconst 1, 1) := by decide +kernel
theorem dX5_canBeHad_13 : decode cX5_canBeHad 13 = .ok (.goto 4, 3) := by decide +kernel
theorem dX5_canBeHad_16 : decode cX5_canBeHad 16 = .ok (.iconst 0, 1) := by decide +kernel
theorem dX5_canBeHad_17 : decode cX5_canBeHad 17 = .ok (.ireturn, 1) := by decide +kernel
set_option maxRecDepth 20000 in
theorem ggX5_leastLifted_X2_hits : GoodIn wsX5_leastLifted wsX2_hits := goodIn_r _ [7, 8, 9, 10, 6, 11, 12, 13, 14, 15, 16, 17, 18, 19, 20, 21, 22, 23, 24, 25, 26, 27, 28, 29, 30, 31, 32, 63, 64, 58, 59, 60, 61, 62] (by decide +kernel) (by decide +kernel)
set_option maxRecDepth 20000 in
theorem gX5_leastLifted_X2_hits : GoodIn wsX5_leastLifted (wsV RX5 133 RX2 yX2_hits wsX2_hits) := goodIn_app (goodIn_of _ (by decide +kernel)) ggX5_leastLifted_X2_hits
set_option maxRecDepth 20000 in
theorem ggX5_leastLifted_X0_liftsOf : GoodIn wsX5_leastLifted wsX0_liftsOf := goodIn_r _ [37, 38, 39, 40, 36, 41, 42, 43, 44, 16, 17, 18, 19, 20, 21, 58, 59, 60, 61, 62] (by decide +kernel) (by decide +kernel)
set_option maxRecDepth 20000 in
theorem gX5_leastLifted_X0_liftsOf : GoodIn wsX5_leastLifted (wsV RX5 106 RX0 yX0_liftsOf wsX0_liftsOf) := goodIn_app (goodIn_of _ (by decide +kernel)) ggX5_leastLifted_X0_liftsOf
theorem dX5_leastLifted_0 : decode cX5_leastLifted 0 = .ok (.bipush (-4), 2) := by decide +kernel
theorem dX5_leastLifted_2 : decode cX5_leastLifted 2 = .ok (.istore_n 3, 1) := by decide +kernel
theorem dX5_leastLifted_3 : decode cX5_leastLifted 3 = .ok (.iconst 0, 1) := by decide +kernel
theorem dX5_leastLifted_4 : decode cX5_leastLifted 4 = .ok (.istore 4, 2) := by decide +kernel
theorem dX5_leastLifted_6 : decode cX5_leastLifted 6 = .ok (.iconst 0, 1) := by decide +kernel
theorem dX5_leastLifted_7 : decode cX5_leastLifted 7 = .ok (.istore 5, 2) := by decide +kernel
theorem dX5_leastLifted_9 : decode cX5_leastLifted 9 = .ok (.iload 5, 2) := by decide +kernel
theorem dX5_leastLifted_11 : decode cX5_leastLifted 11 = .ok (.aload_n 0, 1) := by decide +kernel
theorem dX5_leastLifted_12 : decode cX5_leastLifted 12 = .ok (.getfield 19, 3) := by decide +kernel
theorem dX5_leastLifted_15 : decode cX5_leastLifted 15 = .ok (.getfield 129, 3) := by decide +kernel
theorem dX5_leastLifted_18 : decode cX5_leastLifted 18 = .ok (.if_icmp .ge 52, 3) := by decide +kernel
theorem dX5_leastLifted_21 : decode cX5_leastLifted 21 = .ok (.aload_n 1, 1) := by decide +kernel
theorem dX5_leastLifted_22 : decode cX5_leastLifted 22 = .ok (.aload_n 0, 1) := by decide +kernel
theorem dX5_leastLifted_23 : decode cX5_leastLifted 23 = .ok (.getfield 19, 3) := by decide +kernel
theorem dX5_leastLifted_26 : decode cX5_leastLifted 26 = .ok (.iload 5, 2) := by decide +kernel
theorem dX5_leastLifted_28 : decode cX5_leastLifted 28 = .ok (.iload_n 2, 1) := by decide +kernel
theorem dX5_leastLifted_29 : decode cX5_leastLifted 29 = .ok (.invokevirtual 133, 3) := by decide +kernel
theorem dX5_leastLifted_32 : decode cX5_leastLifted 32 = .ok (.ifCond .eq 32, 3) := by decide +kernel
theorem dX5_leastLifted_35 : decode cX5_leastLifted 35 = .ok (.aload_n 0, 1) := by decide +kernel
theorem dX5_leastLifted_36 : decode cX5_leastLifted 36 = .ok (.getfield 19, 3) := by decide +kernel
theorem dX5_leastLifted_39 : decode cX5_leastLifted 39 = .ok (.iload 5, 2) := by decide +kernel
theorem dX5_leastLifted_41 : decode cX5_leastLifted 41 = .ok (.invokevirtual 106, 3) := by decide +kernel
theorem dX5_leastLifted_44 : decode cX5_leastLifted 44 = .ok (.istore 6, 2) := by decide +kernel
theorem dX5_leastLifted_46 : decode cX5_leastLifted 46 = .ok (.iload_n 3, 1) := by decide +kernel
theorem dX5_leastLifted_47 : decode cX5_leastLifted 47 = .ok (.ifCond .lt 10, 3) := by decide +kernel
theorem dX5_leastLifted_50 : decode cX5_leastLifted 50 = .ok (.iload 6, 2) := by decide +kernel
theorem dX5_leastLifted_52 : decode cX5_leastLifted 52 = .ok (.iload 4, 2) := by decide +kernel
theorem dX5_leastLifted_54 : decode cX5_leastLifted 54 = .ok (.if_icmp .ge 10, 3) := by decide +kernel
theorem dX5_leastLifted_57 : decode cX5_leastLifted 57 = .ok (.iload 5, 2) := by decide +kernel
theorem dX5_leastLifted_59 : decode cX5_leastLifted 59 = .ok (.istore_n 3, 1) := by decide +kernel
theorem dX5_leastLifted_60 : decode cX5_leastLifted 60 = .ok (.iload 6, 2) := by decide +kernel
theorem dX5_leastLifted_62 : decode cX5_leastLifted 62 = .ok (.istore 4, 2) := by decide +kernel
theorem dX5_leastLifted_64 : decode cX5_leastLifted 64 = .ok (.iinc 5 1, 3) := by decide +kernel
theorem dX5_leastLifted_67 : decode cX5_leastLifted 67 = .ok (.goto (-58), 3) := by decide +kernel
theorem dX5_leastLifted_70 : decode cX5_leastLifted 70 = .ok (.iload_n 3, 1) := by decide +kernel
theorem dX5_leastLifted_71 : decode cX5_leastLifted 71 = .ok (.ireturn, 1) := by decide +kernel
set_option maxRecDepth 20000 in
theorem ggX5_markHad_J7_fill_53178 : GoodIn wsX5_markHad wsJ7_fill_53178 := goodIn_r _ [6] (by decide +kernel) (by decide +kernel)
set_option maxRecDepth 20000 in
theorem gX5_markHad_J7_fill_53178 : GoodIn wsX5_markHad (va_wsS RX5 271 yJ7_fill_53178 wsJ7_fill_53178) := goodIn_app (goodIn_of _ (by decide +kernel)) ggX5_markHad_J7_fill_53178
set_option maxRecDepth 20000 in
theorem ggX5_markHad_X0_notOff : GoodIn wsX5_markHad wsX0_notOff := goodIn_r _ [11, 12, 13, 57, 58, 59, 60, 61] (by decide +kernel) (by decide +kernel)
set_option maxRecDepth 20000 in
theorem gX5_markHad_X0_notOff : GoodIn wsX5_markHad (wsV RX5 109 RX0 yX0_notOff wsX0_notOff) := goodIn_app (goodIn_of _ (by decide +kernel)) ggX5_markHad_X0_notOff
set_option maxRecDepth 20000 in
theorem ggX5_markHad_X2_allows : GoodIn wsX5_markHad wsX2_allows := goodIn_r _ [18, 19, 20, 21, 22, 23, 24, 25, 26, 27, 28, 62, 63, 57, 58, 59, 60, 61] (by decide +kernel) (by decide +kernel)
set_option maxRecDepth 20000 in
theorem gX5_markHad_X2_allows : GoodIn wsX5_markHad (wsV RX5 117 RX2 yX2_allows wsX2_allows) := goodIn_app (goodIn_of _ (by decide +kernel)) ggX5_markHad_X2_allows
set_option maxRecDepth 20000 in
theorem ggX5_markHad_X2_weightOf : GoodIn wsX5_markHad wsX2_weightOf := goodIn_r _ [32, 33, 34, 35, 19, 36, 37, 38, 39, 20, 57, 58, 59, 60, 61, 62, 63] (by decide +kernel) (by decide +kernel)
set_option maxRecDepth 20000 in
theorem gX5_markHad_X2_weightOf : GoodIn wsX5_markHad (wsV RX5 121 RX2 yX2_weightOf wsX2_weightOf) := goodIn_app (goodIn_of _ (by decide +kernel)) ggX5_markHad_X2_weightOf
set_option maxRecDepth 20000 in
theorem ggX5_markHad_X5_canBeHad : GoodIn wsX5_markHad wsX5_canBeHad := goodIn_r _ [43] (by decide +kernel) (by decide +kernel)
set_option maxRecDepth 20000 in
theorem gX5_markHad_X5_canBeHad : GoodIn wsX5_markHad (va_wsS RX5 189 yX5_canBeHad wsX5_canBeHad) := goodIn_app (goodIn_of _ (by decide +kernel)) ggX5_markHad_X5_canBeHad
theorem dX5_markHad_0 : decode cX5_markHad 0 = .ok (.aload_n 0, 1) := by decide +kernel
theorem dX5_markHad_1 : decode cX5_markHad 1 = .ok (.getfield 58, 3) := by decide +kernel
theorem dX5_markHad_4 : decode cX5_markHad 4 = .ok (.iconst 0, 1) := by decide +kernel
theorem dX5_markHad_5 : decode cX5_markHad 5 = .ok (.invokestatic 271, 3) := by decide +kernel
theorem dX5_markHad_8 : decode cX5_markHad 8 = .ok (.iconst 0, 1) := by decide +kernel
theorem dX5_markHad_9 : decode cX5_markHad 9 = .ok (.istore 4, 2) := by decide +kernel
theorem dX5_markHad_11 : decode cX5_markHad 11 = .ok (.iload 4, 2) := by decide +kernel
theorem dX5_markHad_13 : decode cX5_markHad 13 = .ok (.aload_n 2, 1) := by decide +kernel
theorem dX5_markHad_14 : decode cX5_markHad 14 = .ok (.getfield 129, 3) := by decide +kernel
theorem dX5_markHad_17 : decode cX5_markHad 17 = .ok (.if_icmp .ge 55, 3) := by decide +kernel
theorem dX5_markHad_20 : decode cX5_markHad 20 = .ok (.aload_n 2, 1) := by decide +kernel
theorem dX5_markHad_21 : decode cX5_markHad 21 = .ok (.iload 4, 2) := by decide +kernel
theorem dX5_markHad_23 : decode cX5_markHad 23 = .ok (.invokevirtual 109, 3) := by decide +kernel
theorem dX5_markHad_26 : decode cX5_markHad 26 = .ok (.iload_n 3, 1) := by decide +kernel
theorem dX5_markHad_27 : decode cX5_markHad 27 = .ok (.iand, 1) := by decide +kernel
theorem dX5_markHad_28 : decode cX5_markHad 28 = .ok (.ifCond .ne 38, 3) := by decide +kernel
theorem dX5_markHad_31 : decode cX5_markHad 31 = .ok (.aload_n 1, 1) := by decide +kernel
theorem dX5_markHad_32 : decode cX5_markHad 32 = .ok (.aload_n 2, 1) := by decide +kernel
theorem dX5_markHad_33 : decode cX5_markHad 33 = .ok (.iload 4, 2) := by decide +kernel
theorem dX5_markHad_35 : decode cX5_markHad 35 = .ok (.invokevirtual 117, 3) := by decide +kernel
theorem dX5_markHad_38 : decode cX5_markHad 38 = .ok (.ifCond .eq 28, 3) := by decide +kernel
theorem dX5_markHad_41 : decode cX5_markHad 41 = .ok (.aload_n 1, 1) := by decide +kernel
theorem dX5_markHad_42 : decode cX5_markHad 42 = .ok (.aload_n 2, 1) := by decide +kernel
theorem dX5_markHad_43 : decode cX5_markHad 43 = .ok (.iload 4, 2) := by decide +kernel
theorem dX5_markHad_45 : decode cX5_markHad 45 = .ok (.invokevirtual 121, 3) := by decide +kernel
theorem dX5_markHad_48 : decode cX5_markHad 48 = .ok (.istore 5, 2) := by decide +kernel
theorem dX5_markHad_50 : decode cX5_markHad 50 = .ok (.iload 5, 2) := by decide +kernel
theorem dX5_markHad_52 : decode cX5_markHad 52 = .ok (.invokestatic 189, 3) := by decide +kernel
theorem dX5_markHad_55 : decode cX5_markHad 55 = .ok (.ifCond .eq 11, 3) := by decide +kernel
theorem dX5_markHad_58 : decode cX5_markHad 58 = .ok (.aload_n 0, 1) := by decide +kernel
theorem dX5_markHad_59 : decode cX5_markHad 59 = .ok (.getfield 58, 3) := by decide +kernel
theorem dX5_markHad_62 : decode cX5_markHad 62 = .ok (.iload 5, 2) := by decide +kernel
theorem dX5_markHad_64 : decode cX5_markHad 64 = .ok (.iconst 1, 1) := by decide +kernel
theorem dX5_markHad_65 : decode cX5_markHad 65 = .ok (.iastore, 1) := by decide +kernel
theorem dX5_markHad_66 : decode cX5_markHad 66 = .ok (.iinc 4 1, 3) := by decide +kernel
theorem dX5_markHad_69 : decode cX5_markHad 69 = .ok (.goto (-58), 3) := by decide +kernel
theorem dX5_markHad_72 : decode cX5_markHad 72 = .ok (.return_, 1) := by decide +kernel
set_option maxRecDepth 20000 in
theorem ggX5_firstNotHad_X5_markHad : GoodIn wsX5_firstNotHad wsX5_markHad := goodIn_r _ [6, 1, 7, 8, 9, 10, 11, 12, 13, 14, 15, 16, 17, 18, 19, 20, 21, 22, 23, 24, 25, 26, 27, 28, 29, 30, 31, 32, 33, 34, 35, 36, 37, 38, 39, 40, 41, 42, 43, 44, 45, 46, 5, 47, 48, 49, 50, 51, 52, 53, 54, 55, 56, 57, 58, 59, 60, 61, 62, 63, 64, 65, 66, 67] (by decide +kernel) (by decide +kernel)
set_option maxRecDepth 20000 in
theorem gX5_firstNotHad_X5_markHad : GoodIn wsX5_firstNotHad (wsV RX5 277 RX5 yX5_markHad wsX5_markHad) := goodIn_app (goodIn_of _ (by decide +kernel)) ggX5_firstNotHad_X5_markHad
theorem dX5_firstNotHad_0 : decode cX5_firstNotHad 0 = .ok (.aload_n 0, 1) := by decide +kernel
theorem dX5_firstNotHad_1 : decode cX5_firstNotHad 1 = .ok (.aload_n 1, 1) := by decide +kernel
theorem dX5_firstNotHad_2 : decode cX5_firstNotHad 2 = .ok (.aload_n 2, 1) := by decide +kernel
theorem dX5_firstNotHad_3 : decode cX5_firstNotHad 3 = .ok (.iconst 0, 1) := by decide +kernel
theorem dX5_firstNotHad_4 : decode cX5_firstNotHad 4 = .ok (.invokevirtual 277, 3) := by decide +kernel
theorem dX5_firstNotHad_7 : decode cX5_firstNotHad 7 = .ok (.iconst 1, 1) := by decide +kernel
theorem dX5_firstNotHad_8 : decode cX5_firstNotHad 8 = .ok (.istore_n 3, 1) := by decide +kernel
theorem dX5_firstNotHad_9 : decode cX5_firstNotHad 9 = .ok (.iload_n 3, 1) := by decide +kernel
theorem dX5_firstNotHad_10 : decode cX5_firstNotHad 10 = .ok (.sipush 999, 3) := by decide +kernel
theorem dX5_firstNotHad_13 : decode cX5_firstNotHad 13 = .ok (.if_icmp .gt 19, 3) := by decide +kernel
theorem dX5_firstNotHad_16 : decode cX5_firstNotHad 16 = .ok (.aload_n 0, 1) := by decide +kernel
theorem dX5_firstNotHad_17 : decode cX5_firstNotHad 17 = .ok (.getfield 58, 3) := by decide +kernel
theorem dX5_firstNotHad_20 : decode cX5_firstNotHad 20 = .ok (.iload_n 3, 1) := by decide +kernel
theorem dX5_firstNotHad_21 : decode cX5_firstNotHad 21 = .ok (.iaload, 1) := by decide +kernel
theorem dX5_firstNotHad_22 : decode cX5_firstNotHad 22 = .ok (.iconst 1, 1) := by decide +kernel
theorem dX5_firstNotHad_23 : decode cX5_firstNotHad 23 = .ok (.if_icmp .ne 9, 3) := by decide +kernel
theorem dX5_firstNotHad_26 : decode cX5_firstNotHad 26 = .ok (.iinc 3 1, 3) := by decide +kernel
theorem dX5_firstNotHad_29 : decode cX5_firstNotHad 29 = .ok (.goto (-20), 3) := by decide +kernel
theorem dX5_firstNotHad_32 : decode cX5_firstNotHad 32 = .ok (.iload_n 3, 1) := by decide +kernel
theorem dX5_firstNotHad_33 : decode cX5_firstNotHad 33 = .ok (.ireturn, 1) := by decide +kernel
set_option maxRecDepth 20000 in
theorem ggX5_lostWithout_X5_markHad : GoodIn wsX5_lostWithout wsX5_markHad := goodIn_r _ [7, 2, 8, 9, 10, 11, 12, 13, 14, 15, 16, 17, 18, 19, 20, 21, 22, 23, 24, 25, 26, 27, 28, 29, 30, 31, 32, 33, 34, 35, 36, 37, 38, 39, 40, 41, 42, 43, 44, 45, 46, 47, 6, 48, 49, 50, 51, 52, 53, 54, 55, 56, 57, 58, 59, 60, 61, 62, 63, 64, 65, 66, 67, 68] (by decide +kernel) (by decide +kernel)
set_option maxRecDepth 20000 in
theorem gX5_lostWithout_X5_markHad : GoodIn wsX5_lostWithout (wsV RX5 277 RX5 yX5_markHad wsX5_markHad) := goodIn_app (goodIn_of _ (by decide +kernel)) ggX5_lostWithout_X5_markHad
theorem dX5_lostWithout_0 : decode cX5_lostWithout 0 = .ok (.aload_n 0, 1) := by decide +kernel
theorem dX5_lostWithout_1 : decode cX5_lostWithout 1 = .ok (.aload_n 1, 1) := by decide +kernel
theorem dX5_lostWithout_2 : decode cX5_lostWithout 2 = .ok (.aload_n 0, 1) := by decide +kernel
theorem dX5_lostWithout_3 : decode cX5_lostWithout 3 = .ok (.getfield 19, 3) := by decide +kernel
theorem dX5_lostWithout_6 : decode cX5_lostWithout 6 = .ok (.iconst 1, 1) := by decide +kernel
theorem dX5_lostWithout_7 : decode cX5_lostWithout 7 = .ok (.iload_n 2, 1) := by decide +kernel
theorem dX5_lostWithout_8 : decode cX5_lostWithout 8 = .ok (.ishl, 1) := by decide +kernel
theorem dX5_lostWithout_9 : decode cX5_lostWithout 9 = .ok (.invokevirtual 277, 3) := by decide +kernel
theorem dX5_lostWithout_12 : decode cX5_lostWithout 12 = .ok (.iconst 0, 1) := by decide +kernel
theorem dX5_lostWithout_13 : decode cX5_lostWithout 13 = .ok (.istore 4, 2) := by decide +kernel
theorem dX5_lostWithout_15 : decode cX5_lostWithout 15 = .ok (.iconst 1, 1) := by decide +kernel
theorem dX5_lostWithout_16 : decode cX5_lostWithout 16 = .ok (.istore 5, 2) := by decide +kernel
theorem dX5_lostWithout_18 : decode cX5_lostWithout 18 = .ok (.iload 5, 2) := by decide +kernel
theorem dX5_lostWithout_20 : decode cX5_lostWithout 20 = .ok (.iload_n 3, 1) := by decide +kernel
theorem dX5_lostWithout_21 : decode cX5_lostWithout 21 = .ok (.if_icmp .gt 22, 3) := by decide +kernel
theorem dX5_lostWithout_24 : decode cX5_lostWithout 24 = .ok (.aload_n 0, 1) := by decide +kernel
theorem dX5_lostWithout_25 : decode cX5_lostWithout 25 = .ok (.getfield 58, 3) := by decide +kernel
theorem dX5_lostWithout_28 : decode cX5_lostWithout 28 = .ok (.iload 5, 2) := by decide +kernel
theorem dX5_lostWithout_30 : decode cX5_lostWithout 30 = .ok (.iaload, 1) := by decide +kernel
theorem dX5_lostWithout_31 : decode cX5_lostWithout 31 = .ok (.ifCond .ne 6, 3) := by decide +kernel
theorem dX5_lostWithout_34 : decode cX5_lostWithout 34 = .ok (.iinc 4 1, 3) := by decide +kernel
theorem dX5_lostWithout_37 : decode cX5_lostWithout 37 = .ok (.iinc 5 1, 3) := by decide +kernel
theorem dX5_lostWithout_40 : decode cX5_lostWithout 40 = .ok (.goto (-22), 3) := by decide +kernel
theorem dX5_lostWithout_43 : decode cX5_lostWithout 43 = .ok (.iload 4, 2) := by decide +kernel
theorem dX5_lostWithout_45 : decode cX5_lostWithout 45 = .ok (.ireturn, 1) := by decide +kernel
set_option maxRecDepth 20000 in
theorem ggX5_collectOtherLyings_X2_hits : GoodIn wsX5_collectOtherLyings wsX2_hits := goodIn_r _ [9, 10, 11, 12, 8, 13, 14, 15, 16, 17, 18, 19, 20, 21, 22, 23, 24, 25, 26, 27, 28, 29, 30, 31, 32, 33, 34, 53, 54, 48, 49, 50, 51, 52] (by decide +kernel) (by decide +kernel)
set_option maxRecDepth 20000 in
theorem gX5_collectOtherLyings_X2_hits : GoodIn wsX5_collectOtherLyings (wsV RX5 133 RX2 yX2_hits wsX2_hits) := goodIn_app (goodIn_of _ (by decide +kernel)) ggX5_collectOtherLyings_X2_hits
theorem dX5_collectOtherLyings_0 : decode cX5_collectOtherLyings 0 = .ok (.iconst 0, 1) := by decide +kernel
theorem dX5_collectOtherLyings_1 : decode cX5_collectOtherLyings 1 = .ok (.istore_n 2, 1) := by decide +kernel
theorem dX5_collectOtherLyings_2 : decode cX5_collectOtherLyings 2 = .ok (.iconst 0, 1) := by decide +kernel
theorem dX5_collectOtherLyings_3 : decode cX5_collectOtherLyings 3 = .ok (.istore_n 3, 1) := by decide +kernel
theorem dX5_collectOtherLyings_4 : decode cX5_collectOtherLyings 4 = .ok (.iload_n 3, 1) := by decide +kernel
theorem dX5_collectOtherLyings_5 : decode cX5_collectOtherLyings 5 = .ok (.aload_n 0, 1) := by decide +kernel
theorem dX5_collectOtherLyings_6 : decode cX5_collectOtherLyings 6 = .ok (.getfield 19, 3) := by decide +kernel
theorem dX5_collectOtherLyings_9 : decode cX5_collectOtherLyings 9 = .ok (.getfield 129, 3) := by decide +kernel
theorem dX5_collectOtherLyings_12 : decode cX5_collectOtherLyings 12 = .ok (.if_icmp .ge 35, 3) := by decide +kernel
theorem dX5_collectOtherLyings_15 : decode cX5_collectOtherLyings 15 = .ok (.aload_n 0, 1) := by decide +kernel
theorem dX5_collectOtherLyings_16 : decode cX5_collectOtherLyings 16 = .ok (.getfield 47, 3) := by decide +kernel
theorem dX5_collectOtherLyings_19 : decode cX5_collectOtherLyings 19 = .ok (.aload_n 0, 1) := by decide +kernel
theorem dX5_collectOtherLyings_20 : decode cX5_collectOtherLyings 20 = .ok (.getfield 19, 3) := by decide +kernel
theorem dX5_collectOtherLyings_23 : decode cX5_collectOtherLyings 23 = .ok (.iload_n 3, 1) := by decide +kernel
theorem dX5_collectOtherLyings_24 : decode cX5_collectOtherLyings 24 = .ok (.iload_n 1, 1) := by decide +kernel
theorem dX5_collectOtherLyings_25 : decode cX5_collectOtherLyings 25 = .ok (.invokevirtual 133, 3) := by decide +kernel
theorem dX5_collectOtherLyings_28 : decode cX5_collectOtherLyings 28 = .ok (.ifCond .eq 13, 3) := by decide +kernel
theorem dX5_collectOtherLyings_31 : decode cX5_collectOtherLyings 31 = .ok (.aload_n 0, 1) := by decide +kernel
theorem dX5_collectOtherLyings_32 : decode cX5_collectOtherLyings 32 = .ok (.getfield 65, 3) := by decide +kernel
theorem dX5_collectOtherLyings_35 : decode cX5_collectOtherLyings 35 = .ok (.iload_n 2, 1) := by decide +kernel
theorem dX5_collectOtherLyings_36 : decode cX5_collectOtherLyings 36 = .ok (.iload_n 3, 1) := by decide +kernel
theorem dX5_collectOtherLyings_37 : decode cX5_collectOtherLyings 37 = .ok (.iastore, 1) := by decide +kernel
theorem dX5_collectOtherLyings_38 : decode cX5_collectOtherLyings 38 = .ok (.iinc 2 1, 3) := by decide +kernel
theorem dX5_collectOtherLyings_41 : decode cX5_collectOtherLyings 41 = .ok (.iinc 3 1, 3) := by decide +kernel
theorem dX5_collectOtherLyings_44 : decode cX5_collectOtherLyings 44 = .ok (.goto (-40), 3) := by decide +kernel
theorem dX5_collectOtherLyings_47 : decode cX5_collectOtherLyings 47 = .ok (.iload_n 2, 1) := by decide +kernel
theorem dX5_collectOtherLyings_48 : decode cX5_collectOtherLyings 48 = .ok (.ireturn, 1) := by decide +kernel
set_option maxRecDepth 20000 in
theorem ggX5_bestSet_X5_notHeld : GoodIn wsX5_bestSet wsX5_notHeld := goodIn_r _ [8, 9, 10, 11, 7, 12, 1, 13, 99, 100, 101, 102, 103, 104, 105, 106, 107, 108, 109, 110, 111] (by decide +kernel) (by decide +kernel)
set_option maxRecDepth 20000 in
theorem gX5_bestSet_X5_notHeld : GoodIn wsX5_bestSet (wsV RX5 76 RX5 yX5_notHeld wsX5_notHeld) := goodIn_app (goodIn_of _ (by decide +kernel)) ggX5_bestSet_X5_notHeld
set_option maxRecDepth 20000 in
theorem ggX5_bestSet_X5_rowOfSort : GoodIn wsX5_bestSet wsX5_rowOfSort := goodIn_r _ [17, 13, 18, 99, 100, 101, 102, 103, 104, 105, 106, 107, 108, 109, 110, 111, 112, 113] (by decide +kernel) (by decide +kernel)
set_option maxRecDepth 20000 in
theorem gX5_bestSet_X5_rowOfSort : GoodIn wsX5_bestSet (wsV RX5 72 RX5 yX5_rowOfSort wsX5_rowOfSort) := goodIn_app (goodIn_of _ (by decide +kernel)) ggX5_bestSet_X5_rowOfSort
set_option maxRecDepth 20000 in
theorem ggX5_bestSet_X5_isList : GoodIn wsX5_bestSet wsX5_isList := goodIn_r _ [21, 2, 22, 23, 7, 24, 112, 113] (by decide +kernel) (by decide +kernel)
set_option maxRecDepth 20000 in
theorem gX5_bestSet_X5_isList : GoodIn wsX5_bestSet (va_wsS RX5 281 yX5_isList wsX5_isList) := goodIn_app (goodIn_of _ (by decide +kernel)) ggX5_bestSet_X5_isList
set_option maxRecDepth 20000 in
theorem ggX5_bestSet_X5_markListed : GoodIn wsX5_bestSet wsX5_markListed := goodIn_r _ [28, 29, 30, 31, 32, 33, 34, 35, 36, 37, 38, 39, 40, 41, 42, 43, 44, 45, 46, 47, 48, 49, 50, 51, 52, 53, 54, 55, 56, 57, 58, 59, 60, 61, 62, 63, 64, 65, 66, 67, 68, 69, 70, 71, 72, 73, 74, 99, 100, 101, 102, 103, 104, 105, 106, 107, 108, 109, 110, 111, 114, 115, 116, 117, 118, 119, 120, 112, 113] (by decide +kernel) (by decide +kernel)
set_option maxRecDepth 20000 in
theorem gX5_bestSet_X5_markListed : GoodIn wsX5_bestSet (wsV RX5 284 RX5 yX5_markListed wsX5_markListed) := goodIn_app (goodIn_of _ (by decide +kernel)) ggX5_bestSet_X5_markListed
set_option maxRecDepth 20000 in
theorem ggX5_bestSet_X4_all : GoodIn wsX5_bestSet wsX4_all := goodIn_r _ [79, 80, 121, 122, 123] (by decide +kernel) (by decide +kernel)
set_option maxRecDepth 20000 in
theorem gX5_bestSet_X4_all : GoodIn wsX5_bestSet (wsV RX5 219 RX4 yX4_all wsX4_all) := goodIn_app (goodIn_of _ (by decide +kernel)) ggX5_bestSet_X4_all
set_option maxRecDepth 20000 in
theorem ggX5_bestSet_X5_listedWithin : GoodIn wsX5_bestSet wsX5_listedWithin := goodIn_r _ [84, 29, 99, 100, 101, 102, 103, 104, 105, 106, 107, 108, 109, 110, 111] (by decide +kernel) (by decide +kernel)
set_option maxRecDepth 20000 in
theorem gX5_bestSet_X5_listedWithin : GoodIn wsX5_bestSet (wsV RX5 288 RX5 yX5_listedWithin wsX5_listedWithin) := goodIn_app (goodIn_of _ (by decide +kernel)) ggX5_bestSet_X5_listedWithin
set_option maxRecDepth 20000 in
theorem ggX5_bestSet_X5_rankOf : GoodIn wsX5_bestSet wsX5_rankOf := goodIn_r _ [88, 3, 89, 45, 46, 47, 48, 49, 50, 90, 91, 92, 78, 93, 94, 95, 96, 97, 98, 80, 99, 100, 101, 102, 103, 104, 105, 106, 107, 108, 109, 110, 111, 121, 122, 123] (by decide +kernel) (by decide +kernel)
set_option maxRecDepth 20000 in
theorem gX5_bestSet_X5_rankOf : GoodIn wsX5_bestSet (wsV RX5 291 RX5 yX5_rankOf wsX5_rankOf) := goodIn_app (goodIn_of _ (by decide +kernel)) ggX5_bestSet_X5_rankOf
theorem dX5_bestSet_0 : decode cX5_bestSet 0 = .ok (.aload_n 0, 1) := by decide +kernel
theorem dX5_bestSet_1 : decode cX5_bestSet 1 = .ok (.getfield 34, 3) := by decide +kernel
theorem dX5_bestSet_4 : decode cX5_bestSet 4 = .ok (.iload_n 1, 1) := by decide +kernel
theorem dX5_bestSet_5 : decode cX5_bestSet 5 = .ok (.aaload, 1) := by decide +kernel
theorem dX5_bestSet_6 : decode cX5_bestSet 6 = .ok (.astore 5, 2) := by decide +kernel
theorem dX5_bestSet_8 : decode cX5_bestSet 8 = .ok (.aload 5, 2) := by decide +kernel
theorem dX5_bestSet_10 : decode cX5_bestSet 10 = .ok (.ifnonnull 9, 3) := by decide +kernel
theorem dX5_bestSet_13 : decode cX5_bestSet 13 = .ok (.aload_n 0, 1) := by decide +kernel
theorem dX5_bestSet_14 : decode cX5_bestSet 14 = .ok (.iload_n 1, 1) := by decide +kernel
theorem dX5_bestSet_15 : decode cX5_bestSet 15 = .ok (.invokevirtual 76, 3) := by decide +kernel
theorem dX5_bestSet_18 : decode cX5_bestSet 18 = .ok (.ireturn, 1) := by decide +kernel
theorem dX5_bestSet_19 : decode cX5_bestSet 19 = .ok (.aload_n 0, 1) := by decide +kernel
theorem dX5_bestSet_20 : decode cX5_bestSet 20 = .ok (.iload_n 2, 1) := by decide +kernel
theorem dX5_bestSet_21 : decode cX5_bestSet 21 = .ok (.iconst 1, 1) := by decide +kernel
theorem dX5_bestSet_22 : decode cX5_bestSet 22 = .ok (.invokevirtual 72, 3) := by decide +kernel
theorem dX5_bestSet_25 : decode cX5_bestSet 25 = .ok (.astore 6, 2) := by decide +kernel
theorem dX5_bestSet_27 : decode cX5_bestSet 27 = .ok (.aload 6, 2) := by decide +kernel
theorem dX5_bestSet_29 : decode cX5_bestSet 29 = .ok (.ifnonnull 9, 3) := by decide +kernel
theorem dX5_bestSet_32 : decode cX5_bestSet 32 = .ok (.aload_n 0, 1) := by decide +kernel
theorem dX5_bestSet_33 : decode cX5_bestSet 33 = .ok (.iload_n 2, 1) := by decide +kernel
theorem dX5_bestSet_34 : decode cX5_bestSet 34 = .ok (.invokevirtual 76, 3) := by decide +kernel
theorem dX5_bestSet_37 : decode cX5_bestSet 37 = .ok (.ireturn, 1) := by decide +kernel
theorem dX5_bestSet_38 : decode cX5_bestSet 38 = .ok (.aload 6, 2) := by decide +kernel
theorem dX5_bestSet_40 : decode cX5_bestSet 40 = .ok (.invokestatic 281, 3) := by decide +kernel
theorem dX5_bestSet_43 : decode cX5_bestSet 43 = .ok (.ifCond .ne 6, 3) := by decide +kernel
theorem dX5_bestSet_46 : decode cX5_bestSet 46 = .ok (.bipush (-13), 2) := by decide +kernel
theorem dX5_bestSet_48 : decode cX5_bestSet 48 = .ok (.ireturn, 1) := by decide +kernel
theorem dX5_bestSet_49 : decode cX5_bestSet 49 = .ok (.aload_n 0, 1) := by decide +kernel
theorem dX5_bestSet_50 : decode cX5_bestSet 50 = .ok (.aload 5, 2) := by decide +kernel
theorem dX5_bestSet_52 : decode cX5_bestSet 52 = .ok (.aload 6, 2) := by decide +kernel
theorem dX5_bestSet_54 : decode cX5_bestSet 54 = .ok (.invokevirtual 284, 3) := by decide +kernel
theorem dX5_bestSet_57 : decode cX5_bestSet 57 = .ok (.iconst 1, 1) := by decide +kernel
theorem dX5_bestSet_58 : decode cX5_bestSet 58 = .ok (.aload 6, 2) := by decide +kernel
theorem dX5_bestSet_60 : decode cX5_bestSet 60 = .ok (.getfield 209, 3) := by decide +kernel
theorem dX5_bestSet_63 : decode cX5_bestSet 63 = .ok (.arraylength, 1) := by decide +kernel
theorem dX5_bestSet_64 : decode cX5_bestSet 64 = .ok (.ishl, 1) := by decide +kernel
theorem dX5_bestSet_65 : decode cX5_bestSet 65 = .ok (.iconst 1, 1) := by decide +kernel
theorem dX5_bestSet_66 : decode cX5_bestSet 66 = .ok (.isub, 1) := by decide +kernel
theorem dX5_bestSet_67 : decode cX5_bestSet 67 = .ok (.istore 7, 2) := by decide +kernel
theorem dX5_bestSet_69 : decode cX5_bestSet 69 = .ok (.bipush (-4), 2) := by decide +kernel
theorem dX5_bestSet_71 : decode cX5_bestSet 71 = .ok (.istore 8, 2) := by decide +kernel
theorem dX5_bestSet_73 : decode cX5_bestSet 73 = .ok (.iconst 0, 1) := by decide +kernel
theorem dX5_bestSet_74 : decode cX5_bestSet 74 = .ok (.istore 9, 2) := by decide +kernel
theorem dX5_bestSet_76 : decode cX5_bestSet 76 = .ok (.iconst 0, 1) := by decide +kernel
theorem dX5_bestSet_77 : decode cX5_bestSet 77 = .ok (.istore 10, 2) := by decide +kernel
theorem dX5_bestSet_79 : decode cX5_bestSet 79 = .ok (.iload 10, 2) := by decide +kernel
theorem dX5_bestSet_81 : decode cX5_bestSet 81 = .ok (.aload_n 0, 1) := by decide +kernel
theorem dX5_bestSet_82 : decode cX5_bestSet 82 = .ok (.getfield 10, 3) := by decide +kernel
theorem dX5_bestSet_85 : decode cX5_bestSet 85 = .ok (.invokevirtual 219, 3) := by decide +kernel
theorem dX5_bestSet_88 : decode cX5_bestSet 88 = .ok (.if_icmp .gt 59, 3) := by decide +kernel
theorem dX5_bestSet_91 : decode cX5_bestSet 91 = .ok (.iload 10, 2) := by decide +kernel
theorem dX5_bestSet_93 : decode cX5_bestSet 93 = .ok (.iload_n 3, 1) := by decide +kernel
theorem dX5_bestSet_94 : decode cX5_bestSet 94 = .ok (.iand, 1) := by decide +kernel
theorem dX5_bestSet_95 : decode cX5_bestSet 95 = .ok (.iload_n 3, 1) := by decide +kernel
theorem dX5_bestSet_96 : decode cX5_bestSet 96 = .ok (.if_icmp .ne 45, 3) := by decide +kernel
theorem dX5_bestSet_99 : decode cX5_bestSet 99 = .ok (.aload_n 0, 1) := by decide +kernel
theorem dX5_bestSet_100 : decode cX5_bestSet 100 = .ok (.iload 10, 2) := by decide +kernel
theorem dX5_bestSet_102 : decode cX5_bestSet 102 = .ok (.invokevirtual 288, 3) := by decide +kernel
theorem dX5_bestSet_105 : decode cX5_bestSet 105 = .ok (.iload 7, 2) := by decide +kernel
theorem dX5_bestSet_107 : decode cX5_bestSet 107 = .ok (.if_icmp .ne 34, 3) := by decide +kernel
theorem dX5_bestSet_110 : decode cX5_bestSet 110 = .ok (.aload_n 0, 1) := by decide +kernel
theorem dX5_bestSet_111 : decode cX5_bestSet 111 = .ok (.iload 10, 2) := by decide +kernel
theorem dX5_bestSet_113 : decode cX5_bestSet 113 = .ok (.iload_n 3, 1) := by decide +kernel
theorem dX5_bestSet_114 : decode cX5_bestSet 114 = .ok (.iload 4, 2) := by decide +kernel
theorem dX5_bestSet_116 : decode cX5_bestSet 116 = .ok (.invokevirtual 291, 3) := by decide +kernel
theorem dX5_bestSet_119 : decode cX5_bestSet 119 = .ok (.istore 11, 2) := by decide +kernel
theorem dX5_bestSet_121 : decode cX5_bestSet 121 = .ok (.iload 8, 2) := by decide +kernel
theorem dX5_bestSet_123 : decode cX5_bestSet 123 = .ok (.ifCond .lt 10, 3) := by decide +kernel
theorem dX5_bestSet_126 : decode cX5_bestSet 126 = .ok (.iload 11, 2) := by decide +kernel
theorem dX5_bestSet_128 : decode cX5_bestSet 128 = .ok (.iload 9, 2) := by decide +kernel
theorem dX5_bestSet_130 : decode cX5_bestSet 130 = .ok (.if_icmp .ge 11, 3) := by decide +kernel
theorem dX5_bestSet_133 : decode cX5_bestSet 133 = .ok (.iload 10, 2) := by decide +kernel
theorem dX5_bestSet_135 : decode cX5_bestSet 135 = .ok (.istore 8, 2) := by decide +kernel
theorem dX5_bestSet_137 : decode cX5_bestSet 137 = .ok (.iload 11, 2) := by decide +kernel
theorem dX5_bestSet_139 : decode cX5_bestSet 139 = .ok (.istore 9, 2) := by decide +kernel
theorem dX5_bestSet_141 : decode cX5_bestSet 141 = .ok (.iinc 10 1, 3) := by decide +kernel
theorem dX5_bestSet_144 : decode cX5_bestSet 144 = .ok (.goto (-65), 3) := by decide +kernel
theorem dX5_bestSet_147 : decode cX5_bestSet 147 = .ok (.iload 8, 2) := by decide +kernel
theorem dX5_bestSet_149 : decode cX5_bestSet 149 = .ok (.ireturn, 1) := by decide +kernel
set_option maxRecDepth 20000 in
theorem ggX5_isList_X5_canBeHad : GoodIn wsX5_isList wsX5_canBeHad := goodIn_r _ [5] (by decide +kernel) (by decide +kernel)
set_option maxRecDepth 20000 in
theorem gX5_isList_X5_canBeHad : GoodIn wsX5_isList (va_wsS RX5 189 yX5_canBeHad wsX5_canBeHad) := goodIn_app (goodIn_of _ (by decide +kernel)) ggX5_isList_X5_canBeHad
theorem dX5_isList_0 : decode cX5_isList 0 = .ok (.aload_n 0, 1) := by decide +kernel
theorem dX5_isList_1 : decode cX5_isList 1 = .ok (.getfield 209, 3) := by decide +kernel
theorem dX5_isList_4 : decode cX5_isList 4 = .ok (.arraylength, 1) := by decide +kernel
theorem dX5_isList_5 : decode cX5_isList 5 = .ok (.istore_n 1, 1) := by decide +kernel
theorem dX5_isList_6 : decode cX5_isList 6 = .ok (.iload_n 1, 1) := by decide +kernel
theorem dX5_isList_7 : decode cX5_isList 7 = .ok (.iconst 1, 1) := by decide +kernel
theorem dX5_isList_8 : decode cX5_isList 8 = .ok (.if_icmp .lt 9, 3) := by decide +kernel
theorem dX5_isList_11 : decode cX5_isList 11 = .ok (.iload_n 1, 1) := by decide +kernel
theorem dX5_isList_12 : decode cX5_isList 12 = .ok (.bipush 8, 2) := by decide +kernel
theorem dX5_isList_14 : decode cX5_isList 14 = .ok (.if_icmp .le 5, 3) := by decide +kernel
theorem dX5_isList_17 : decode cX5_isList 17 = .ok (.iconst 0, 1) := by decide +kernel
theorem dX5_isList_18 : decode cX5_isList 18 = .ok (.ireturn, 1) := by decide +kernel
theorem dX5_isList_19 : decode cX5_isList 19 = .ok (.iconst 0, 1) := by decide +kernel
theorem dX5_isList_20 : decode cX5_isList 20 = .ok (.istore_n 2, 1) := by decide +kernel
theorem dX5_isList_21 : decode cX5_isList 21 = .ok (.iload_n 2, 1) := by decide +kernel
theorem dX5_isList_22 : decode cX5_isList 22 = .ok (.iload_n 1, 1) := by decide +kernel
theorem dX5_isList_23 : decode cX5_isList 23 = .ok (.if_icmp .ge 23, 3) := by decide +kernel
theorem dX5_isList_26 : decode cX5_isList 26 = .ok (.aload_n 0, 1) := by decide +kernel
theorem dX5_isList_27 : decode cX5_isList 27 = .ok (.getfield 209, 3) := by decide +kernel
theorem dX5_isList_30 : decode cX5_isList 30 = .ok (.iload_n 2, 1) := by decide +kernel
theorem dX5_isList_31 : decode cX5_isList 31 = .ok (.iaload, 1) := by decide +kernel
theorem dX5_isList_32 : decode cX5_isList 32 = .ok (.invokestatic 189, 3) := by decide +kernel
theorem dX5_isList_35 : decode cX5_isList 35 = .ok (.ifCond .ne 5, 3) := by decide +kernel
theorem dX5_isList_38 : decode cX5_isList 38 = .ok (.iconst 0, 1) := by decide +kernel
theorem dX5_isList_39 : decode cX5_isList 39 = .ok (.ireturn, 1) := by decide +kernel
theorem dX5_isList_40 : decode cX5_isList 40 = .ok (.iinc 2 1, 3) := by decide +kernel
theorem dX5_isList_43 : decode cX5_isList 43 = .ok (.goto (-22), 3) := by decide +kernel
theorem dX5_isList_46 : decode cX5_isList 46 = .ok (.iconst 1, 1) := by decide +kernel
theorem dX5_isList_47 : decode cX5_isList 47 = .ok (.ireturn, 1) := by decide +kernel
set_option maxRecDepth 20000 in
theorem ggX5_markListed_J7_fill_53178 : GoodIn wsX5_markListed wsJ7_fill_53178 := goodIn_r _ [7] (by decide +kernel) (by decide +kernel)
set_option maxRecDepth 20000 in
theorem gX5_markListed_J7_fill_53178 : GoodIn wsX5_markListed (va_wsS RX5 271 yJ7_fill_53178 wsJ7_fill_53178) := goodIn_app (goodIn_of _ (by decide +kernel)) ggX5_markListed_J7_fill_53178
set_option maxRecDepth 20000 in
theorem ggX5_markListed_X2_allows : GoodIn wsX5_markListed wsX2_allows := goodIn_r _ [12, 13, 14, 15, 16, 17, 18, 19, 20, 21, 22, 65, 66, 60, 61, 62, 63, 64] (by decide +kernel) (by decide +kernel)
set_option maxRecDepth 20000 in
theorem gX5_markListed_X2_allows : GoodIn wsX5_markListed (wsV RX5 117 RX2 yX2_allows wsX2_allows) := goodIn_app (goodIn_of _ (by decide +kernel)) ggX5_markListed_X2_allows
set_option maxRecDepth 20000 in
theorem ggX5_markListed_X2_weightOf : GoodIn wsX5_markListed wsX2_weightOf := goodIn_r _ [26, 27, 28, 29, 13, 30, 31, 32, 33, 14, 60, 61, 62, 63, 64, 65, 66] (by decide +kernel) (by decide +kernel)
set_option maxRecDepth 20000 in
theorem gX5_markListed_X2_weightOf : GoodIn wsX5_markListed (wsV RX5 121 RX2 yX2_weightOf wsX2_weightOf) := goodIn_app (goodIn_of _ (by decide +kernel)) ggX5_markListed_X2_weightOf
set_option maxRecDepth 20000 in
theorem ggX5_markListed_X1_placesOf : GoodIn wsX5_markListed wsX1_placesOf := goodIn_r _ [38, 39, 67, 68] (by decide +kernel) (by decide +kernel)
set_option maxRecDepth 20000 in
theorem gX5_markListed_X1_placesOf : GoodIn wsX5_markListed (wsV RX5 295 RX1 yX1_placesOf wsX1_placesOf) := goodIn_app (goodIn_of _ (by decide +kernel)) ggX5_markListed_X1_placesOf
set_option maxRecDepth 20000 in
theorem ggX5_markListed_X0_notOff : GoodIn wsX5_markListed wsX0_notOff := goodIn_r _ [44, 45, 46, 60, 61, 62, 63, 64] (by decide +kernel) (by decide +kernel)
set_option maxRecDepth 20000 in
theorem gX5_markListed_X0_notOff : GoodIn wsX5_markListed (wsV RX5 109 RX0 yX0_notOff wsX0_notOff) := goodIn_app (goodIn_of _ (by decide +kernel)) ggX5_markListed_X0_notOff
theorem dX5_markListed_0 : decode cX5_markListed 0 = .ok (.aload_n 0, 1) := by decide +kernel
theorem dX5_markListed_1 : decode cX5_markListed 1 = .ok (.getfield 62, 3) := by decide +kernel
theorem dX5_markListed_4 : decode cX5_markListed 4 = .ok (.iconst 0, 1) := by decide +kernel
theorem dX5_markListed_5 : decode cX5_markListed 5 = .ok (.invokestatic 271, 3) := by decide +kernel
theorem dX5_markListed_8 : decode cX5_markListed 8 = .ok (.iconst 0, 1) := by decide +kernel
theorem dX5_markListed_9 : decode cX5_markListed 9 = .ok (.istore_n 3, 1) := by decide +kernel
theorem dX5_markListed_10 : decode cX5_markListed 10 = .ok (.iload_n 3, 1) := by decide +kernel
theorem dX5_markListed_11 : decode cX5_markListed 11 = .ok (.aload_n 0, 1) := by decide +kernel
theorem dX5_markListed_12 : decode cX5_markListed 12 = .ok (.getfield 19, 3) := by decide +kernel
theorem dX5_markListed_15 : decode cX5_markListed 15 = .ok (.getfield 129, 3) := by decide +kernel
theorem dX5_markListed_18 : decode cX5_markListed 18 = .ok (.if_icmp .ge 54, 3) := by decide +kernel
theorem dX5_markListed_21 : decode cX5_markListed 21 = .ok (.aload_n 1, 1) := by decide +kernel
theorem dX5_markListed_22 : decode cX5_markListed 22 = .ok (.aload_n 0, 1) := by decide +kernel
theorem dX5_markListed_23 : decode cX5_markListed 23 = .ok (.getfield 19, 3) := by decide +kernel
theorem dX5_markListed_26 : decode cX5_markListed 26 = .ok (.iload_n 3, 1) := by decide +kernel
theorem dX5_markListed_27 : decode cX5_markListed 27 = .ok (.invokevirtual 117, 3) := by decide +kernel
theorem dX5_markListed_30 : decode cX5_markListed 30 = .ok (.ifCond .eq 36, 3) := by decide +kernel
theorem dX5_markListed_33 : decode cX5_markListed 33 = .ok (.aload_n 2, 1) := by decide +kernel
theorem dX5_markListed_34 : decode cX5_markListed 34 = .ok (.aload_n 1, 1) := by decide +kernel
theorem dX5_markListed_35 : decode cX5_markListed 35 = .ok (.aload_n 0, 1) := by decide +kernel
theorem dX5_markListed_36 : decode cX5_markListed 36 = .ok (.getfield 19, 3) := by decide +kernel
theorem dX5_markListed_39 : decode cX5_markListed 39 = .ok (.iload_n 3, 1) := by decide +kernel
theorem dX5_markListed_40 : decode cX5_markListed 40 = .ok (.invokevirtual 121, 3) := by decide +kernel
theorem dX5_markListed_43 : decode cX5_markListed 43 = .ok (.invokevirtual 295, 3) := by decide +kernel
theorem dX5_markListed_46 : decode cX5_markListed 46 = .ok (.istore 4, 2) := by decide +kernel
theorem dX5_markListed_48 : decode cX5_markListed 48 = .ok (.aload_n 0, 1) := by decide +kernel
theorem dX5_markListed_49 : decode cX5_markListed 49 = .ok (.getfield 62, 3) := by decide +kernel
theorem dX5_markListed_52 : decode cX5_markListed 52 = .ok (.aload_n 0, 1) := by decide +kernel
theorem dX5_markListed_53 : decode cX5_markListed 53 = .ok (.getfield 19, 3) := by decide +kernel
theorem dX5_markListed_56 : decode cX5_markListed 56 = .ok (.iload_n 3, 1) := by decide +kernel
theorem dX5_markListed_57 : decode cX5_markListed 57 = .ok (.invokevirtual 109, 3) := by decide +kernel
theorem dX5_markListed_60 : decode cX5_markListed 60 = .ok (.dup2, 1) := by decide +kernel
theorem dX5_markListed_61 : decode cX5_markListed 61 = .ok (.iaload, 1) := by decide +kernel
theorem dX5_markListed_62 : decode cX5_markListed 62 = .ok (.iload 4, 2) := by decide +kernel
theorem dX5_markListed_64 : decode cX5_markListed 64 = .ok (.ior, 1) := by decide +kernel
theorem dX5_markListed_65 : decode cX5_markListed 65 = .ok (.iastore, 1) := by decide +kernel
theorem dX5_markListed_66 : decode cX5_markListed 66 = .ok (.iinc 3 1, 3) := by decide +kernel
theorem dX5_markListed_69 : decode cX5_markListed 69 = .ok (.goto (-59), 3) := by decide +kernel
theorem dX5_markListed_72 : decode cX5_markListed 72 = .ok (.return_, 1) := by decide +kernel
theorem dX5_listedWithin_0 : decode cX5_listedWithin 0 = .ok (.iconst 0, 1) := by decide +kernel
theorem dX5_listedWithin_1 : decode cX5_listedWithin 1 = .ok (.istore_n 2, 1) := by decide +kernel
theorem dX5_listedWithin_2 : decode cX5_listedWithin 2 = .ok (.iconst 0, 1) := by decide +kernel
theorem dX5_listedWithin_3 : decode cX5_listedWithin 3 = .ok (.istore_n 3, 1) := by decide +kernel
theorem dX5_listedWithin_4 : decode cX5_listedWithin 4 = .ok (.iload_n 3, 1) := by decide +kernel
theorem dX5_listedWithin_5 : decode cX5_listedWithin 5 = .ok (.iload_n 1, 1) := by decide +kernel
theorem dX5_listedWithin_6 : decode cX5_listedWithin 6 = .ok (.if_icmp .gt 26, 3) := by decide +kernel
theorem dX5_listedWithin_9 : decode cX5_listedWithin 9 = .ok (.iload_n 3, 1) := by decide +kernel
theorem dX5_listedWithin_10 : decode cX5_listedWithin 10 = .ok (.iload_n 1, 1) := by decide +kernel
theorem dX5_listedWithin_11 : decode cX5_listedWithin 11 = .ok (.iconst (-1), 1) := by decide +kernel
theorem dX5_listedWithin_12 : decode cX5_listedWithin 12 = .ok (.ixor, 1) := by decide +kernel
theorem dX5_listedWithin_13 : decode cX5_listedWithin 13 = .ok (.iand, 1) := by decide +kernel
theorem dX5_listedWithin_14 : decode cX5_listedWithin 14 = .ok (.ifCond .ne 12, 3) := by decide +kernel
theorem dX5_listedWithin_17 : decode cX5_listedWithin 17 = .ok (.iload_n 2, 1) := by decide +kernel
theorem dX5_listedWithin_18 : decode cX5_listedWithin 18 = .ok (.aload_n 0, 1) := by decide +kernel
theorem dX5_listedWithin_19 : decode cX5_listedWithin 19 = .ok (.getfield 62, 3) := by decide +kernel
theorem dX5_listedWithin_22 : decode cX5_listedWithin 22 = .ok (.iload_n 3, 1) := by decide +kernel
theorem dX5_listedWithin_23 : decode cX5_listedWithin 23 = .ok (.iaload, 1) := by decide +kernel
theorem dX5_listedWithin_24 : decode cX5_listedWithin 24 = .ok (.ior, 1) := by decide +kernel
theorem dX5_listedWithin_25 : decode cX5_listedWithin 25 = .ok (.istore_n 2, 1) := by decide +kernel
theorem dX5_listedWithin_26 : decode cX5_listedWithin 26 = .ok (.iinc 3 1, 3) := by decide +kernel
theorem dX5_listedWithin_29 : decode cX5_listedWithin 29 = .ok (.goto (-25), 3) := by decide +kernel
theorem dX5_listedWithin_32 : decode cX5_listedWithin 32 = .ok (.iload_n 2, 1) := by decide +kernel
theorem dX5_listedWithin_33 : decode cX5_listedWithin 33 = .ok (.ireturn, 1) := by decide +kernel
set_option maxRecDepth 20000 in
theorem ggX5_rankOf_J6_bitCount_0f7a4 : GoodIn wsX5_rankOf wsJ6_bitCount_0f7a4 := goodIn_r _ [5, 6, 7, 8] (by decide +kernel) (by decide +kernel)
set_option maxRecDepth 20000 in
theorem gX5_rankOf_J6_bitCount_0f7a4 : GoodIn wsX5_rankOf (va_wsS RX5 176 yJ6_bitCount_0f7a4 wsJ6_bitCount_0f7a4) := goodIn_app (goodIn_of _ (by decide +kernel)) ggX5_rankOf_J6_bitCount_0f7a4
set_option maxRecDepth 20000 in
theorem ggX5_rankOf_X4_pricesOf : GoodIn wsX5_rankOf wsX4_pricesOf := goodIn_r _ [13, 14, 15, 16, 17, 12, 18, 19, 33, 34, 35] (by decide +kernel) (by decide +kernel)
set_option maxRecDepth 20000 in
theorem gX5_rankOf_X4_pricesOf : GoodIn wsX5_rankOf (wsV RX5 112 RX4 yX4_pricesOf wsX4_pricesOf) := goodIn_app (goodIn_of _ (by decide +kernel)) ggX5_rankOf_X4_pricesOf
theorem dX5_rankOf_0 : decode cX5_rankOf 0 = .ok (.iload_n 1, 1) := by decide +kernel
theorem dX5_rankOf_1 : decode cX5_rankOf 1 = .ok (.invokestatic 176, 3) := by decide +kernel
theorem dX5_rankOf_4 : decode cX5_rankOf 4 = .ok (.istore 4, 2) := by decide +kernel
theorem dX5_rankOf_6 : decode cX5_rankOf 6 = .ok (.aload_n 0, 1) := by decide +kernel
theorem dX5_rankOf_7 : decode cX5_rankOf 7 = .ok (.getfield 10, 3) := by decide +kernel
theorem dX5_rankOf_10 : decode cX5_rankOf 10 = .ok (.iload_n 1, 1) := by decide +kernel
theorem dX5_rankOf_11 : decode cX5_rankOf 11 = .ok (.iload_n 2, 1) := by decide +kernel
theorem dX5_rankOf_12 : decode cX5_rankOf 12 = .ok (.iconst (-1), 1) := by decide +kernel
theorem dX5_rankOf_13 : decode cX5_rankOf 13 = .ok (.ixor, 1) := by decide +kernel
theorem dX5_rankOf_14 : decode cX5_rankOf 14 = .ok (.iand, 1) := by decide +kernel
theorem dX5_rankOf_15 : decode cX5_rankOf 15 = .ok (.invokevirtual 112, 3) := by decide +kernel
theorem dX5_rankOf_18 : decode cX5_rankOf 18 = .ok (.istore 5, 2) := by decide +kernel
theorem dX5_rankOf_20 : decode cX5_rankOf 20 = .ok (.iload_n 3, 1) := by decide +kernel
theorem dX5_rankOf_21 : decode cX5_rankOf 21 = .ok (.ifCond .eq 15, 3) := by decide +kernel
theorem dX5_rankOf_24 : decode cX5_rankOf 24 = .ok (.iload 4, 2) := by decide +kernel
theorem dX5_rankOf_26 : decode cX5_rankOf 26 = .ok (.sipush 1000, 3) := by decide +kernel
theorem dX5_rankOf_29 : decode cX5_rankOf 29 = .ok (.imul, 1) := by decide +kernel
theorem dX5_rankOf_30 : decode cX5_rankOf 30 = .ok (.iload 5, 2) := by decide +kernel
theorem dX5_rankOf_32 : decode cX5_rankOf 32 = .ok (.iadd, 1) := by decide +kernel
theorem dX5_rankOf_33 : decode cX5_rankOf 33 = .ok (.goto 12, 3) := by decide +kernel
theorem dX5_rankOf_36 : decode cX5_rankOf 36 = .ok (.iload 5, 2) := by decide +kernel
theorem dX5_rankOf_38 : decode cX5_rankOf 38 = .ok (.sipush 1000, 3) := by decide +kernel
theorem dX5_rankOf_41 : decode cX5_rankOf 41 = .ok (.imul, 1) := by decide +kernel
theorem dX5_rankOf_42 : decode cX5_rankOf 42 = .ok (.iload 4, 2) := by decide +kernel
theorem dX5_rankOf_44 : decode cX5_rankOf 44 = .ok (.iadd, 1) := by decide +kernel
theorem dX5_rankOf_45 : decode cX5_rankOf 45 = .ok (.ireturn, 1) := by decide +kernel
theorem dX5_ofSeries_0 : decode cX5_ofSeries 0 = .ok (.iload_n 1, 1) := by decide +kernel
theorem dX5_ofSeries_1 : decode cX5_ofSeries 1 = .ok (.iconst 1, 1) := by decide +kernel
theorem dX5_ofSeries_2 : decode cX5_ofSeries 2 = .ok (.if_icmp .lt 15, 3) := by decide +kernel
theorem dX5_ofSeries_5 : decode cX5_ofSeries 5 = .ok (.iload_n 1, 1) := by decide +kernel
theorem dX5_ofSeries_6 : decode cX5_ofSeries 6 = .ok (.sipush 9999, 3) := by decide +kernel
theorem dX5_ofSeries_9 : decode cX5_ofSeries 9 = .ok (.if_icmp .gt 8, 3) := by decide +kernel
theorem dX5_ofSeries_12 : decode cX5_ofSeries 12 = .ok (.iload_n 2, 1) := by decide +kernel
theorem dX5_ofSeries_13 : decode cX5_ofSeries 13 = .ok (.iconst (-1), 1) := by decide +kernel
theorem dX5_ofSeries_14 : decode cX5_ofSeries 14 = .ok (.if_icmp .ge 5, 3) := by decide +kernel
theorem dX5_ofSeries_17 : decode cX5_ofSeries 17 = .ok (.iconst (-1), 1) := by decide +kernel
theorem dX5_ofSeries_18 : decode cX5_ofSeries 18 = .ok (.ireturn, 1) := by decide +kernel
theorem dX5_ofSeries_19 : decode cX5_ofSeries 19 = .ok (.iconst 1, 1) := by decide +kernel
theorem dX5_ofSeries_20 : decode cX5_ofSeries 20 = .ok (.istore_n 3, 1) := by decide +kernel
theorem dX5_ofSeries_21 : decode cX5_ofSeries 21 = .ok (.iconst 1, 1) := by decide +kernel
theorem dX5_ofSeries_22 : decode cX5_ofSeries 22 = .ok (.istore 4, 2) := by decide +kernel
theorem dX5_ofSeries_24 : decode cX5_ofSeries 24 = .ok (.iconst 0, 1) := by decide +kernel
theorem dX5_ofSeries_25 : decode cX5_ofSeries 25 = .ok (.istore 5, 2) := by decide +kernel
theorem dX5_ofSeries_27 : decode cX5_ofSeries 27 = .ok (.iload 4, 2) := by decide +kernel
theorem dX5_ofSeries_29 : decode cX5_ofSeries 29 = .ok (.iload_n 1, 1) := by decide +kernel
theorem dX5_ofSeries_30 : decode cX5_ofSeries 30 = .ok (.if_icmp .ge 25, 3) := by decide +kernel
theorem dX5_ofSeries_33 : decode cX5_ofSeries 33 = .ok (.iload 5, 2) := by decide +kernel
theorem dX5_ofSeries_35 : decode cX5_ofSeries 35 = .ok (.iload_n 2, 1) := by decide +kernel
theorem dX5_ofSeries_36 : decode cX5_ofSeries 36 = .ok (.if_icmp .eq 19, 3) := by decide +kernel
theorem dX5_ofSeries_39 : decode cX5_ofSeries 39 = .ok (.iload_n 3, 1) := by decide +kernel
theorem dX5_ofSeries_40 : decode cX5_ofSeries 40 = .ok (.iload_n 0, 1) := by decide +kernel
theorem dX5_ofSeries_41 : decode cX5_ofSeries 41 = .ok (.imul, 1) := by decide +kernel
theorem dX5_ofSeries_42 : decode cX5_ofSeries 42 = .ok (.istore_n 3, 1) := by decide +kernel
theorem dX5_ofSeries_43 : decode cX5_ofSeries 43 = .ok (.iload 4, 2) := by decide +kernel
theorem dX5_ofSeries_45 : decode cX5_ofSeries 45 = .ok (.iload_n 3, 1) := by decide +kernel
theorem dX5_ofSeries_46 : decode cX5_ofSeries 46 = .ok (.iadd, 1) := by decide +kernel
theorem dX5_ofSeries_47 : decode cX5_ofSeries 47 = .ok (.istore 4, 2) := by decide +kernel
theorem dX5_ofSeries_49 : decode cX5_ofSeries 49 = .ok (.iinc 5 1, 3) := by decide +kernel
theorem dX5_ofSeries_52 : decode cX5_ofSeries 52 = .ok (.goto (-25), 3) := by decide +kernel
theorem dX5_ofSeries_55 : decode cX5_ofSeries 55 = .ok (.iload_n 2, 1) := by decide +kernel
theorem dX5_ofSeries_56 : decode cX5_ofSeries 56 = .ok (.iconst (-1), 1) := by decide +kernel
theorem dX5_ofSeries_57 : decode cX5_ofSeries 57 = .ok (.if_icmp .ne 8, 3) := by decide +kernel
theorem dX5_ofSeries_60 : decode cX5_ofSeries 60 = .ok (.iload 5, 2) := by decide +kernel
theorem dX5_ofSeries_62 : decode cX5_ofSeries 62 = .ok (.iconst 1, 1) := by decide +kernel
theorem dX5_ofSeries_63 : decode cX5_ofSeries 63 = .ok (.iadd, 1) := by decide +kernel
theorem dX5_ofSeries_64 : decode cX5_ofSeries 64 = .ok (.ireturn, 1) := by decide +kernel
theorem dX5_ofSeries_65 : decode cX5_ofSeries 65 = .ok (.iload 5, 2) := by decide +kernel
theorem dX5_ofSeries_67 : decode cX5_ofSeries 67 = .ok (.iload_n 2, 1) := by decide +kernel
theorem dX5_ofSeries_68 : decode cX5_ofSeries 68 = .ok (.if_icmp .ne 7, 3) := by decide +kernel
theorem dX5_ofSeries_71 : decode cX5_ofSeries 71 = .ok (.iload_n 3, 1) := by decide +kernel
theorem dX5_ofSeries_72 : decode cX5_ofSeries 72 = .ok (.goto 5, 3) := by decide +kernel
theorem dX5_ofSeries_75 : decode cX5_ofSeries 75 = .ok (.bipush (-4), 2) := by decide +kernel
theorem dX5_ofSeries_77 : decode cX5_ofSeries 77 = .ok (.ireturn, 1) := by decide +kernel
set_option maxRecDepth 20000 in
theorem ggX5_lowestDigit_J9_floorMod_7cf53 : GoodIn wsX5_lowestDigit wsJ9_floorMod_7cf53 := goodIn_r _ [4] (by decide +kernel) (by decide +kernel)
set_option maxRecDepth 20000 in
theorem gX5_lowestDigit_J9_floorMod_7cf53 : GoodIn wsX5_lowestDigit (va_wsS RX5 162 yJ9_floorMod_7cf53 wsJ9_floorMod_7cf53) := goodIn_app (goodIn_of _ (by decide +kernel)) ggX5_lowestDigit_J9_floorMod_7cf53
theorem dX5_lowestDigit_0 : decode cX5_lowestDigit 0 = .ok (.iload_n 0, 1) := by decide +kernel
theorem dX5_lowestDigit_1 : decode cX5_lowestDigit 1 = .ok (.iconst 1, 1) := by decide +kernel
theorem dX5_lowestDigit_2 : decode cX5_lowestDigit 2 = .ok (.iadd, 1) := by decide +kernel
theorem dX5_lowestDigit_3 : decode cX5_lowestDigit 3 = .ok (.iconst 3, 1) := by decide +kernel
theorem dX5_lowestDigit_4 : decode cX5_lowestDigit 4 = .ok (.invokestatic 162, 3) := by decide +kernel
theorem dX5_lowestDigit_7 : decode cX5_lowestDigit 7 = .ok (.iconst 1, 1) := by decide +kernel
theorem dX5_lowestDigit_8 : decode cX5_lowestDigit 8 = .ok (.isub, 1) := by decide +kernel
theorem dX5_lowestDigit_9 : decode cX5_lowestDigit 9 = .ok (.ireturn, 1) := by decide +kernel
set_option maxRecDepth 20000 in
theorem ggX5_withoutLowest_J9_floorDiv_7cf53 : GoodIn wsX5_withoutLowest wsJ9_floorDiv_7cf53 := goodIn_r _ [4] (by decide +kernel) (by decide +kernel)
set_option maxRecDepth 20000 in
theorem gX5_withoutLowest_J9_floorDiv_7cf53 : GoodIn wsX5_withoutLowest (va_wsS RX5 298 yJ9_floorDiv_7cf53 wsJ9_floorDiv_7cf53) := goodIn_app (goodIn_of _ (by decide +kernel)) ggX5_withoutLowest_J9_floorDiv_7cf53
theorem dX5_withoutLowest_0 : decode cX5_withoutLowest 0 = .ok (.iload_n 0, 1) := by decide +kernel
theorem dX5_withoutLowest_1 : decode cX5_withoutLowest 1 = .ok (.iconst 1, 1) := by decide +kernel
theorem dX5_withoutLowest_2 : decode cX5_withoutLowest 2 = .ok (.iadd, 1) := by decide +kernel
theorem dX5_withoutLowest_3 : decode cX5_withoutLowest 3 = .ok (.iconst 3, 1) := by decide +kernel
theorem dX5_withoutLowest_4 : decode cX5_withoutLowest 4 = .ok (.invokestatic 298, 3) := by decide +kernel
theorem dX5_withoutLowest_7 : decode cX5_withoutLowest 7 = .ok (.ireturn, 1) := by decide +kernel
set_option maxRecDepth 20000 in
theorem ggX5_searchSets_X5_haveAll : GoodIn wsX5_searchSets wsX5_haveAll := goodIn_r _ [4, 5, 6, 7, 8] (by decide +kernel) (by decide +kernel)
set_option maxRecDepth 20000 in
theorem gX5_searchSets_X5_haveAll : GoodIn wsX5_searchSets (va_wsS RX5 301 yX5_haveAll wsX5_haveAll) := goodIn_app (goodIn_of _ (by decide +kernel)) ggX5_searchSets_X5_haveAll
theorem dX5_searchSets_0 : decode cX5_searchSets 0 = .ok (.iconst 0, 1) := by decide +kernel
theorem dX5_searchSets_1 : decode cX5_searchSets 1 = .ok (.istore 4, 2) := by decide +kernel
theorem dX5_searchSets_3 : decode cX5_searchSets 3 = .ok (.iload_n 0, 1) := by decide +kernel
theorem dX5_searchSets_4 : decode cX5_searchSets 4 = .ok (.iconst 3, 1) := by decide +kernel
theorem dX5_searchSets_5 : decode cX5_searchSets 5 = .ok (.if_icmp .ne 7, 3) := by decide +kernel
theorem dX5_searchSets_8 : decode cX5_searchSets 8 = .ok (.iload_n 1, 1) := by decide +kernel
theorem dX5_searchSets_9 : decode cX5_searchSets 9 = .ok (.goto 4, 3) := by decide +kernel
theorem dX5_searchSets_12 : decode cX5_searchSets 12 = .ok (.iconst 0, 1) := by decide +kernel
theorem dX5_searchSets_13 : decode cX5_searchSets 13 = .ok (.istore 5, 2) := by decide +kernel
theorem dX5_searchSets_15 : decode cX5_searchSets 15 = .ok (.iload_n 0, 1) := by decide +kernel
theorem dX5_searchSets_16 : decode cX5_searchSets 16 = .ok (.iconst 2, 1) := by decide +kernel
theorem dX5_searchSets_17 : decode cX5_searchSets 17 = .ok (.if_icmp .lt 7, 3) := by decide +kernel
theorem dX5_searchSets_20 : decode cX5_searchSets 20 = .ok (.iload_n 1, 1) := by decide +kernel
theorem dX5_searchSets_21 : decode cX5_searchSets 21 = .ok (.goto 4, 3) := by decide +kernel
theorem dX5_searchSets_24 : decode cX5_searchSets 24 = .ok (.iconst 0, 1) := by decide +kernel
theorem dX5_searchSets_25 : decode cX5_searchSets 25 = .ok (.istore 6, 2) := by decide +kernel
theorem dX5_searchSets_27 : decode cX5_searchSets 27 = .ok (.iload_n 0, 1) := by decide +kernel
theorem dX5_searchSets_28 : decode cX5_searchSets 28 = .ok (.iconst 3, 1) := by decide +kernel
theorem dX5_searchSets_29 : decode cX5_searchSets 29 = .ok (.if_icmp .ne 7, 3) := by decide +kernel
theorem dX5_searchSets_32 : decode cX5_searchSets 32 = .ok (.iconst 1, 1) := by decide +kernel
theorem dX5_searchSets_33 : decode cX5_searchSets 33 = .ok (.goto 4, 3) := by decide +kernel
theorem dX5_searchSets_36 : decode cX5_searchSets 36 = .ok (.iconst 0, 1) := by decide +kernel
theorem dX5_searchSets_37 : decode cX5_searchSets 37 = .ok (.istore 7, 2) := by decide +kernel
theorem dX5_searchSets_39 : decode cX5_searchSets 39 = .ok (.iload 7, 2) := by decide +kernel
theorem dX5_searchSets_41 : decode cX5_searchSets 41 = .ok (.iload 5, 2) := by decide +kernel
theorem dX5_searchSets_43 : decode cX5_searchSets 43 = .ok (.if_icmp .gt 94, 3) := by decide +kernel
theorem dX5_searchSets_46 : decode cX5_searchSets 46 = .ok (.iload_n 0, 1) := by decide +kernel
theorem dX5_searchSets_47 : decode cX5_searchSets 47 = .ok (.iconst 2, 1) := by decide +kernel
theorem dX5_searchSets_48 : decode cX5_searchSets 48 = .ok (.if_icmp .lt 10, 3) := by decide +kernel
theorem dX5_searchSets_51 : decode cX5_searchSets 51 = .ok (.iload 7, 2) := by decide +kernel
theorem dX5_searchSets_53 : decode cX5_searchSets 53 = .ok (.iconst 1, 1) := by decide +kernel
theorem dX5_searchSets_54 : decode cX5_searchSets 54 = .ok (.iadd, 1) := by decide +kernel
theorem dX5_searchSets_55 : decode cX5_searchSets 55 = .ok (.goto 4, 3) := by decide +kernel
theorem dX5_searchSets_58 : decode cX5_searchSets 58 = .ok (.iconst 0, 1) := by decide +kernel
theorem dX5_searchSets_59 : decode cX5_searchSets 59 = .ok (.istore 8, 2) := by decide +kernel
theorem dX5_searchSets_61 : decode cX5_searchSets 61 = .ok (.iload 8, 2) := by decide +kernel
theorem dX5_searchSets_63 : decode cX5_searchSets 63 = .ok (.iload 6, 2) := by decide +kernel
theorem dX5_searchSets_65 : decode cX5_searchSets 65 = .ok (.if_icmp .gt 66, 3) := by decide +kernel
theorem dX5_searchSets_68 : decode cX5_searchSets 68 = .ok (.iload 8, 2) := by decide +kernel
theorem dX5_searchSets_70 : decode cX5_searchSets 70 = .ok (.iconst 1, 1) := by decide +kernel
theorem dX5_searchSets_71 : decode cX5_searchSets 71 = .ok (.iadd, 1) := by decide +kernel
theorem dX5_searchSets_72 : decode cX5_searchSets 72 = .ok (.istore 9, 2) := by decide +kernel
theorem dX5_searchSets_74 : decode cX5_searchSets 74 = .ok (.iload 9, 2) := by decide +kernel
theorem dX5_searchSets_76 : decode cX5_searchSets 76 = .ok (.iload_n 1, 1) := by decide +kernel
theorem dX5_searchSets_77 : decode cX5_searchSets 77 = .ok (.if_icmp .gt 48, 3) := by decide +kernel
theorem dX5_searchSets_80 : decode cX5_searchSets 80 = .ok (.iload 7, 2) := by decide +kernel
theorem dX5_searchSets_82 : decode cX5_searchSets 82 = .ok (.iload 8, 2) := by decide +kernel
theorem dX5_searchSets_84 : decode cX5_searchSets 84 = .ok (.iload 9, 2) := by decide +kernel
theorem dX5_searchSets_86 : decode cX5_searchSets 86 = .ok (.iload_n 2, 1) := by decide +kernel
theorem dX5_searchSets_87 : decode cX5_searchSets 87 = .ok (.invokestatic 301, 3) := by decide +kernel
theorem dX5_searchSets_90 : decode cX5_searchSets 90 = .ok (.ifCond .ne 6, 3) := by decide +kernel
theorem dX5_searchSets_93 : decode cX5_searchSets 93 = .ok (.goto 26, 3) := by decide +kernel
theorem dX5_searchSets_96 : decode cX5_searchSets 96 = .ok (.iload_n 3, 1) := by decide +kernel
theorem dX5_searchSets_97 : decode cX5_searchSets 97 = .ok (.ifCond .eq 19, 3) := by decide +kernel
theorem dX5_searchSets_100 : decode cX5_searchSets 100 = .ok (.iload 7, 2) := by decide +kernel
theorem dX5_searchSets_102 : decode cX5_searchSets 102 = .ok (.sipush 10000, 3) := by decide +kernel
theorem dX5_searchSets_105 : decode cX5_searchSets 105 = .ok (.imul, 1) := by decide +kernel
theorem dX5_searchSets_106 : decode cX5_searchSets 106 = .ok (.iload 8, 2) := by decide +kernel
theorem dX5_searchSets_108 : decode cX5_searchSets 108 = .ok (.bipush 100, 2) := by decide +kernel
theorem dX5_searchSets_110 : decode cX5_searchSets 110 = .ok (.imul, 1) := by decide +kernel
theorem dX5_searchSets_111 : decode cX5_searchSets 111 = .ok (.iadd, 1) := by decide +kernel
theorem dX5_searchSets_112 : decode cX5_searchSets 112 = .ok (.iload 9, 2) := by decide +kernel
theorem dX5_searchSets_114 : decode cX5_searchSets 114 = .ok (.iadd, 1) := by decide +kernel
theorem dX5_searchSets_115 : decode cX5_searchSets 115 = .ok (.ireturn, 1) := by decide +kernel
theorem dX5_searchSets_116 : decode cX5_searchSets 116 = .ok (.iinc 4 1, 3) := by decide +kernel
theorem dX5_searchSets_119 : decode cX5_searchSets 119 = .ok (.iinc 9 1, 3) := by decide +kernel
theorem dX5_searchSets_122 : decode cX5_searchSets 122 = .ok (.goto (-48), 3) := by decide +kernel
theorem dX5_searchSets_125 : decode cX5_searchSets 125 = .ok (.iinc 8 1, 3) := by decide +kernel
theorem dX5_searchSets_128 : decode cX5_searchSets 128 = .ok (.goto (-67), 3) := by decide +kernel
theorem dX5_searchSets_131 : decode cX5_searchSets 131 = .ok (.iinc 7 1, 3) := by decide +kernel
theorem dX5_searchSets_134 : decode cX5_searchSets 134 = .ok (.goto (-95), 3) := by decide +kernel
theorem dX5_searchSets_137 : decode cX5_searchSets 137 = .ok (.iload_n 3, 1) := by decide +kernel
theorem dX5_searchSets_138 : decode cX5_searchSets 138 = .ok (.ifCond .eq 8, 3) := by decide +kernel
theorem dX5_searchSets_141 : decode cX5_searchSets 141 = .ok (.bipush (-4), 2) := by decide +kernel
theorem dX5_searchSets_143 : decode cX5_searchSets 143 = .ok (.goto 5, 3) := by decide +kernel
theorem dX5_searchSets_146 : decode cX5_searchSets 146 = .ok (.iload 4, 2) := by decide +kernel
theorem dX5_searchSets_148 : decode cX5_searchSets 148 = .ok (.ireturn, 1) := by decide +kernel
theorem dX5_haveAll_0 : decode cX5_haveAll 0 = .ok (.lconst 1, 1) := by decide +kernel
theorem dX5_haveAll_1 : decode cX5_haveAll 1 = .ok (.lconst 1, 1) := by decide +kernel
theorem dX5_haveAll_2 : decode cX5_haveAll 2 = .ok (.iload_n 0, 1) := by decide +kernel
theorem dX5_haveAll_3 : decode cX5_haveAll 3 = .ok (.lshl, 1) := by decide +kernel
theorem dX5_haveAll_4 : decode cX5_haveAll 4 = .ok (.lor, 1) := by decide +kernel
theorem dX5_haveAll_5 : decode cX5_haveAll 5 = .ok (.lconst 1, 1) := by decide +kernel
theorem dX5_haveAll_6 : decode cX5_haveAll 6 = .ok (.iload_n 1, 1) := by decide +kernel
theorem dX5_haveAll_7 : decode cX5_haveAll 7 = .ok (.lshl, 1) := by decide +kernel
theorem dX5_haveAll_8 : decode cX5_haveAll 8 = .ok (.lor, 1) := by decide +kernel
theorem dX5_haveAll_9 : decode cX5_haveAll 9 = .ok (.lconst 1, 1) := by decide +kernel
theorem dX5_haveAll_10 : decode cX5_haveAll 10 = .ok (.iload_n 1, 1) := by decide +kernel
theorem dX5_haveAll_11 : decode cX5_haveAll 11 = .ok (.iload_n 0, 1) := by decide +kernel
theorem dX5_haveAll_12 : decode cX5_haveAll 12 = .ok (.isub, 1) := by decide +kernel
theorem dX5_haveAll_13 : decode cX5_haveAll 13 = .ok (.lshl, 1) := by decide +kernel
theorem dX5_haveAll_14 : decode cX5_haveAll 14 = .ok (.lor, 1) := by decide +kernel
theorem dX5_haveAll_15 : decode cX5_haveAll 15 = .ok (.lconst 1, 1) := by decide +kernel
theorem dX5_haveAll_16 : decode cX5_haveAll 16 = .ok (.iload_n 1, 1) := by decide +kernel
theorem dX5_haveAll_17 : decode cX5_haveAll 17 = .ok (.iload_n 0, 1) := by decide +kernel
theorem dX5_haveAll_18 : decode cX5_haveAll 18 = .ok (.iadd, 1) := by decide +kernel
theorem dX5_haveAll_19 : decode cX5_haveAll 19 = .ok (.lshl, 1) := by decide +kernel
theorem dX5_haveAll_20 : decode cX5_haveAll 20 = .ok (.lor, 1) := by decide +kernel
theorem dX5_haveAll_21 : decode cX5_haveAll 21 = .ok (.lstore 4, 2) := by decide +kernel
theorem dX5_haveAll_23 : decode cX5_haveAll 23 = .ok (.iconst 1, 1) := by decide +kernel
theorem dX5_haveAll_24 : decode cX5_haveAll 24 = .ok (.istore 6, 2) := by decide +kernel
theorem dX5_haveAll_26 : decode cX5_haveAll 26 = .ok (.iload 6, 2) := by decide +kernel
theorem dX5_haveAll_28 : decode cX5_haveAll 28 = .ok (.iload_n 3, 1) := by decide +kernel
theorem dX5_haveAll_29 : decode cX5_haveAll 29 = .ok (.if_icmp .gt 46, 3) := by decide +kernel
theorem dX5_haveAll_32 : decode cX5_haveAll 32 = .ok (.lload 4, 2) := by decide +kernel
theorem dX5_haveAll_34 : decode cX5_haveAll 34 = .ok (.iload 6, 2) := by decide +kernel
theorem dX5_haveAll_36 : decode cX5_haveAll 36 = .ok (.lshr, 1) := by decide +kernel
theorem dX5_haveAll_37 : decode cX5_haveAll 37 = .ok (.lload 4, 2) := by decide +kernel
theorem dX5_haveAll_39 : decode cX5_haveAll 39 = .ok (.iload 6, 2) := by decide +kernel
theorem dX5_haveAll_41 : decode cX5_haveAll 41 = .ok (.iload_n 2, 1) := by decide +kernel
theorem dX5_haveAll_42 : decode cX5_haveAll 42 = .ok (.isub, 1) := by decide +kernel
theorem dX5_haveAll_43 : decode cX5_haveAll 43 = .ok (.invokestatic 305, 3) := by decide +kernel
theorem dX5_haveAll_46 : decode cX5_haveAll 46 = .ok (.lshr, 1) := by decide +kernel
theorem dX5_haveAll_47 : decode cX5_haveAll 47 = .ok (.lor, 1) := by decide +kernel
theorem dX5_haveAll_48 : decode cX5_haveAll 48 = .ok (.lload 4, 2) := by decide +kernel
theorem dX5_haveAll_50 : decode cX5_haveAll 50 = .ok (.iload 6, 2) := by decide +kernel
theorem dX5_haveAll_52 : decode cX5_haveAll 52 = .ok (.iload_n 2, 1) := by decide +kernel
theorem dX5_haveAll_53 : decode cX5_haveAll 53 = .ok (.iadd, 1) := by decide +kernel
theorem dX5_haveAll_54 : decode cX5_haveAll 54 = .ok (.lshr, 1) := by decide +kernel
theorem dX5_haveAll_55 : decode cX5_haveAll 55 = .ok (.lor, 1) := by decide +kernel
theorem dX5_haveAll_56 : decode cX5_haveAll 56 = .ok (.lstore 7, 2) := by decide +kernel
theorem dX5_haveAll_58 : decode cX5_haveAll 58 = .ok (.lload 7, 2) := by decide +kernel
theorem dX5_haveAll_60 : decode cX5_haveAll 60 = .ok (.lconst 1, 1) := by decide +kernel
theorem dX5_haveAll_61 : decode cX5_haveAll 61 = .ok (.land, 1) := by decide +kernel
theorem dX5_haveAll_62 : decode cX5_haveAll 62 = .ok (.lconst 0, 1) := by decide +kernel
theorem dX5_haveAll_63 : decode cX5_haveAll 63 = .ok (.lcmp, 1) := by decide +kernel
theorem dX5_haveAll_64 : decode cX5_haveAll 64 = .ok (.ifCond .ne 5, 3) := by decide +kernel
theorem dX5_haveAll_67 : decode cX5_haveAll 67 = .ok (.iconst 0, 1) := by decide +kernel
theorem dX5_haveAll_68 : decode cX5_haveAll 68 = .ok (.ireturn, 1) := by decide +kernel
theorem dX5_haveAll_69 : decode cX5_haveAll 69 = .ok (.iinc 6 1, 3) := by decide +kernel
theorem dX5_haveAll_72 : decode cX5_haveAll 72 = .ok (.goto (-46), 3) := by decide +kernel
theorem dX5_haveAll_75 : decode cX5_haveAll 75 = .ok (.iconst 1, 1) := by decide +kernel
theorem dX5_haveAll_76 : decode cX5_haveAll 76 = .ok (.ireturn, 1) := by decide +kernel
theorem dX5_areTrials_0 : decode cX5_areTrials 0 = .ok (.aload_n 0, 1) := by decide +kernel
theorem dX5_areTrials_1 : decode cX5_areTrials 1 = .ok (.getfield 209, 3) := by decide +kernel
theorem dX5_areTrials_4 : decode cX5_areTrials 4 = .ok (.arraylength, 1) := by decide +kernel
theorem dX5_areTrials_5 : decode cX5_areTrials 5 = .ok (.istore_n 1, 1) := by decide +kernel
theorem dX5_areTrials_6 : decode cX5_areTrials 6 = .ok (.iload_n 1, 1) := by decide +kernel
theorem dX5_areTrials_7 : decode cX5_areTrials 7 = .ok (.iconst 2, 1) := by decide +kernel
theorem dX5_areTrials_8 : decode cX5_areTrials 8 = .ok (.irem, 1) := by decide +kernel
theorem dX5_areTrials_9 : decode cX5_areTrials 9 = .ok (.ifCond .eq 5, 3) := by decide +kernel
theorem dX5_areTrials_12 : decode cX5_areTrials 12 = .ok (.iconst 0, 1) := by decide +kernel
theorem dX5_areTrials_13 : decode cX5_areTrials 13 = .ok (.ireturn, 1) := by decide +kernel
theorem dX5_areTrials_14 : decode cX5_areTrials 14 = .ok (.iconst 0, 1) := by decide +kernel
theorem dX5_areTrials_15 : decode cX5_areTrials 15 = .ok (.istore_n 2, 1) := by decide +kernel
theorem dX5_areTrials_16 : decode cX5_areTrials 16 = .ok (.iload_n 2, 1) := by decide +kernel
theorem dX5_areTrials_17 : decode cX5_areTrials 17 = .ok (.iconst 1, 1) := by decide +kernel
theorem dX5_areTrials_18 : decode cX5_areTrials 18 = .ok (.iadd, 1) := by decide +kernel
theorem dX5_areTrials_19 : decode cX5_areTrials 19 = .ok (.iload_n 1, 1) := by decide +kernel
theorem dX5_areTrials_20 : decode cX5_areTrials 20 = .ok (.if_icmp .ge 49, 3) := by decide +kernel
theorem dX5_areTrials_23 : decode cX5_areTrials 23 = .ok (.aload_n 0, 1) := by decide +kernel
theorem dX5_areTrials_24 : decode cX5_areTrials 24 = .ok (.getfield 209, 3) := by decide +kernel
theorem dX5_areTrials_27 : decode cX5_areTrials 27 = .ok (.iload_n 2, 1) := by decide +kernel
theorem dX5_areTrials_28 : decode cX5_areTrials 28 = .ok (.iaload, 1) := by decide +kernel
theorem dX5_areTrials_29 : decode cX5_areTrials 29 = .ok (.istore_n 3, 1) := by decide +kernel
theorem dX5_areTrials_30 : decode cX5_areTrials 30 = .ok (.aload_n 0, 1) := by decide +kernel
theorem dX5_areTrials_31 : decode cX5_areTrials 31 = .ok (.getfield 209, 3) := by decide +kernel
theorem dX5_areTrials_34 : decode cX5_areTrials 34 = .ok (.iload_n 2, 1) := by decide +kernel
theorem dX5_areTrials_35 : decode cX5_areTrials 35 = .ok (.iconst 1, 1) := by decide +kernel
theorem dX5_areTrials_36 : decode cX5_areTrials 36 = .ok (.iadd, 1) := by decide +kernel
theorem dX5_areTrials_37 : decode cX5_areTrials 37 = .ok (.iaload, 1) := by decide +kernel
theorem dX5_areTrials_38 : decode cX5_areTrials 38 = .ok (.istore 4, 2) := by decide +kernel
theorem dX5_areTrials_40 : decode cX5_areTrials 40 = .ok (.iload_n 3, 1) := by decide +kernel
theorem dX5_areTrials_41 : decode cX5_areTrials 41 = .ok (.ifCond .lt 20, 3) := by decide +kernel
theorem dX5_areTrials_44 : decode cX5_areTrials 44 = .ok (.iload_n 3, 1) := by decide +kernel
theorem dX5_areTrials_45 : decode cX5_areTrials 45 = .ok (.bipush 81, 2) := by decide +kernel
theorem dX5_areTrials_47 : decode cX5_areTrials 47 = .ok (.if_icmp .ge 14, 3) := by decide +kernel
theorem dX5_areTrials_50 : decode cX5_areTrials 50 = .ok (.iload 4, 2) := by decide +kernel
theorem dX5_areTrials_52 : decode cX5_areTrials 52 = .ok (.ifCond .lt 9, 3) := by decide +kernel
theorem dX5_areTrials_55 : decode cX5_areTrials 55 = .ok (.iload 4, 2) := by decide +kernel
theorem dX5_areTrials_57 : decode cX5_areTrials 57 = .ok (.iconst 2, 1) := by decide +kernel
theorem dX5_areTrials_58 : decode cX5_areTrials 58 = .ok (.if_icmp .le 5, 3) := by decide +kernel
theorem dX5_areTrials_61 : decode cX5_areTrials 61 = .ok (.iconst 0, 1) := by decide +kernel
theorem dX5_areTrials_62 : decode cX5_areTrials 62 = .ok (.ireturn, 1) := by decide +kernel
theorem dX5_areTrials_63 : decode cX5_areTrials 63 = .ok (.iinc 2 2, 3) := by decide +kernel
theorem dX5_areTrials_66 : decode cX5_areTrials 66 = .ok (.goto (-50), 3) := by decide +kernel
theorem dX5_areTrials_69 : decode cX5_areTrials 69 = .ok (.iconst 1, 1) := by decide +kernel
theorem dX5_areTrials_70 : decode cX5_areTrials 70 = .ok (.ireturn, 1) := by decide +kernel
theorem dX5_isLighterBy_0 : decode cX5_isLighterBy 0 = .ok (.aload_n 0, 1) := by decide +kernel
theorem dX5_isLighterBy_1 : decode cX5_isLighterBy 1 = .ok (.getfield 209, 3) := by decide +kernel
theorem dX5_isLighterBy_4 : decode cX5_isLighterBy 4 = .ok (.arraylength, 1) := by decide +kernel
theorem dX5_isLighterBy_5 : decode cX5_isLighterBy 5 = .ok (.istore_n 2, 1) := by decide +kernel
theorem dX5_isLighterBy_6 : decode cX5_isLighterBy 6 = .ok (.iconst 0, 1) := by decide +kernel
theorem dX5_isLighterBy_7 : decode cX5_isLighterBy 7 = .ok (.istore_n 3, 1) := by decide +kernel
theorem dX5_isLighterBy_8 : decode cX5_isLighterBy 8 = .ok (.iload_n 3, 1) := by decide +kernel
theorem dX5_isLighterBy_9 : decode cX5_isLighterBy 9 = .ok (.iconst 1, 1) := by decide +kernel
theorem dX5_isLighterBy_10 : decode cX5_isLighterBy 10 = .ok (.iadd, 1) := by decide +kernel
theorem dX5_isLighterBy_11 : decode cX5_isLighterBy 11 = .ok (.iload_n 2, 1) := by decide +kernel
theorem dX5_isLighterBy_12 : decode cX5_isLighterBy 12 = .ok (.if_icmp .ge 55, 3) := by decide +kernel
theorem dX5_isLighterBy_15 : decode cX5_isLighterBy 15 = .ok (.aload_n 0, 1) := by decide +kernel
theorem dX5_isLighterBy_16 : decode cX5_isLighterBy 16 = .ok (.getfield 209, 3) := by decide +kernel
theorem dX5_isLighterBy_19 : decode cX5_isLighterBy 19 = .ok (.iload_n 3, 1) := by decide +kernel
theorem dX5_isLighterBy_20 : decode cX5_isLighterBy 20 = .ok (.iaload, 1) := by decide +kernel
theorem dX5_isLighterBy_21 : decode cX5_isLighterBy 21 = .ok (.istore 4, 2) := by decide +kernel
theorem dX5_isLighterBy_23 : decode cX5_isLighterBy 23 = .ok (.iconst 0, 1) := by decide +kernel
theorem dX5_isLighterBy_24 : decode cX5_isLighterBy 24 = .ok (.istore 5, 2) := by decide +kernel
theorem dX5_isLighterBy_26 : decode cX5_isLighterBy 26 = .ok (.iload 5, 2) := by decide +kernel
theorem dX5_isLighterBy_28 : decode cX5_isLighterBy 28 = .ok (.iload_n 1, 1) := by decide +kernel
theorem dX5_isLighterBy_29 : decode cX5_isLighterBy 29 = .ok (.if_icmp .ge 15, 3) := by decide +kernel
theorem dX5_isLighterBy_32 : decode cX5_isLighterBy 32 = .ok (.iload 4, 2) := by decide +kernel
theorem dX5_isLighterBy_34 : decode cX5_isLighterBy 34 = .ok (.iconst 3, 1) := by decide +kernel
theorem dX5_isLighterBy_35 : decode cX5_isLighterBy 35 = .ok (.idiv, 1) := by decide +kernel
theorem dX5_isLighterBy_36 : decode cX5_isLighterBy 36 = .ok (.istore 4, 2) := by decide +kernel
theorem dX5_isLighterBy_38 : decode cX5_isLighterBy 38 = .ok (.iinc 5 1, 3) := by decide +kernel
theorem dX5_isLighterBy_41 : decode cX5_isLighterBy 41 = .ok (.goto (-15), 3) := by decide +kernel
theorem dX5_isLighterBy_44 : decode cX5_isLighterBy 44 = .ok (.iload 4, 2) := by decide +kernel
theorem dX5_isLighterBy_46 : decode cX5_isLighterBy 46 = .ok (.iconst 3, 1) := by decide +kernel
theorem dX5_isLighterBy_47 : decode cX5_isLighterBy 47 = .ok (.irem, 1) := by decide +kernel
theorem dX5_isLighterBy_48 : decode cX5_isLighterBy 48 = .ok (.aload_n 0, 1) := by decide +kernel
theorem dX5_isLighterBy_49 : decode cX5_isLighterBy 49 = .ok (.getfield 209, 3) := by decide +kernel
theorem dX5_isLighterBy_52 : decode cX5_isLighterBy 52 = .ok (.iload_n 3, 1) := by decide +kernel
theorem dX5_isLighterBy_53 : decode cX5_isLighterBy 53 = .ok (.iconst 1, 1) := by decide +kernel
theorem dX5_isLighterBy_54 : decode cX5_isLighterBy 54 = .ok (.iadd, 1) := by decide +kernel
theorem dX5_isLighterBy_55 : decode cX5_isLighterBy 55 = .ok (.iaload, 1) := by decide +kernel
theorem dX5_isLighterBy_56 : decode cX5_isLighterBy 56 = .ok (.if_icmp .eq 5, 3) := by decide +kernel
theorem dX5_isLighterBy_59 : decode cX5_isLighterBy 59 = .ok (.iconst 0, 1) := by decide +kernel
theorem dX5_isLighterBy_60 : decode cX5_isLighterBy 60 = .ok (.ireturn, 1) := by decide +kernel
theorem dX5_isLighterBy_61 : decode cX5_isLighterBy 61 = .ok (.iinc 3 2, 3) := by decide +kernel
theorem dX5_isLighterBy_64 : decode cX5_isLighterBy 64 = .ok (.goto (-56), 3) := by decide +kernel
theorem dX5_isLighterBy_67 : decode cX5_isLighterBy 67 = .ok (.iconst 1, 1) := by decide +kernel
theorem dX5_isLighterBy_68 : decode cX5_isLighterBy 68 = .ok (.ireturn, 1) := by decide +kernel
set_option maxRecDepth 20000 in
theorem ggX5_areWeighings_X0_isLying : GoodIn wsX5_areWeighings wsX0_isLying := goodIn_r _ [7, 8, 24, 25, 26, 27, 28] (by decide +kernel) (by decide +kernel)
set_option maxRecDepth 20000 in
theorem gX5_areWeighings_X0_isLying : GoodIn wsX5_areWeighings (wsV RX5 97 RX0 yX0_isLying wsX0_isLying) := goodIn_app (goodIn_of _ (by decide +kernel)) ggX5_areWeighings_X0_isLying
theorem dX5_areWeighings_0 : decode cX5_areWeighings 0 = .ok (.aload_n 1, 1) := by decide +kernel
theorem dX5_areWeighings_1 : decode cX5_areWeighings 1 = .ok (.getfield 209, 3) := by decide +kernel
theorem dX5_areWeighings_4 : decode cX5_areWeighings 4 = .ok (.arraylength, 1) := by decide +kernel
theorem dX5_areWeighings_5 : decode cX5_areWeighings 5 = .ok (.istore_n 2, 1) := by decide +kernel
theorem dX5_areWeighings_6 : decode cX5_areWeighings 6 = .ok (.iload_n 2, 1) := by decide +kernel
theorem dX5_areWeighings_7 : decode cX5_areWeighings 7 = .ok (.iconst 2, 1) := by decide +kernel
theorem dX5_areWeighings_8 : decode cX5_areWeighings 8 = .ok (.irem, 1) := by decide +kernel
theorem dX5_areWeighings_9 : decode cX5_areWeighings 9 = .ok (.ifCond .eq 5, 3) := by decide +kernel
theorem dX5_areWeighings_12 : decode cX5_areWeighings 12 = .ok (.iconst 0, 1) := by decide +kernel
theorem dX5_areWeighings_13 : decode cX5_areWeighings 13 = .ok (.ireturn, 1) := by decide +kernel
theorem dX5_areWeighings_14 : decode cX5_areWeighings 14 = .ok (.iconst 0, 1) := by decide +kernel
theorem dX5_areWeighings_15 : decode cX5_areWeighings 15 = .ok (.istore_n 3, 1) := by decide +kernel
theorem dX5_areWeighings_16 : decode cX5_areWeighings 16 = .ok (.iload_n 3, 1) := by decide +kernel
theorem dX5_areWeighings_17 : decode cX5_areWeighings 17 = .ok (.iconst 1, 1) := by decide +kernel
theorem dX5_areWeighings_18 : decode cX5_areWeighings 18 = .ok (.iadd, 1) := by decide +kernel
theorem dX5_areWeighings_19 : decode cX5_areWeighings 19 = .ok (.iload_n 2, 1) := by decide +kernel
theorem dX5_areWeighings_20 : decode cX5_areWeighings 20 = .ok (.if_icmp .ge 27, 3) := by decide +kernel
theorem dX5_areWeighings_23 : decode cX5_areWeighings 23 = .ok (.aload_n 0, 1) := by decide +kernel
theorem dX5_areWeighings_24 : decode cX5_areWeighings 24 = .ok (.getfield 19, 3) := by decide +kernel
theorem dX5_areWeighings_27 : decode cX5_areWeighings 27 = .ok (.aload_n 1, 1) := by decide +kernel
theorem dX5_areWeighings_28 : decode cX5_areWeighings 28 = .ok (.getfield 209, 3) := by decide +kernel
theorem dX5_areWeighings_31 : decode cX5_areWeighings 31 = .ok (.iload_n 3, 1) := by decide +kernel
theorem dX5_areWeighings_32 : decode cX5_areWeighings 32 = .ok (.iaload, 1) := by decide +kernel
theorem dX5_areWeighings_33 : decode cX5_areWeighings 33 = .ok (.invokevirtual 97, 3) := by decide +kernel
theorem dX5_areWeighings_36 : decode cX5_areWeighings 36 = .ok (.ifCond .ne 5, 3) := by decide +kernel
theorem dX5_areWeighings_39 : decode cX5_areWeighings 39 = .ok (.iconst 0, 1) := by decide +kernel
theorem dX5_areWeighings_40 : decode cX5_areWeighings 40 = .ok (.ireturn, 1) := by decide +kernel
theorem dX5_areWeighings_41 : decode cX5_areWeighings 41 = .ok (.iinc 3 2, 3) := by decide +kernel
theorem dX5_areWeighings_44 : decode cX5_areWeighings 44 = .ok (.goto (-28), 3) := by decide +kernel
theorem dX5_areWeighings_47 : decode cX5_areWeighings 47 = .ok (.iconst 1, 1) := by decide +kernel
theorem dX5_areWeighings_48 : decode cX5_areWeighings 48 = .ok (.ireturn, 1) := by decide +kernel
set_option maxRecDepth 20000 in
theorem ggX5_isWeightBy_X0_sideOf : GoodIn wsX5_isWeightBy wsX0_sideOf := goodIn_r _ [10, 11, 12, 45, 46, 47, 48, 49] (by decide +kernel) (by decide +kernel)
set_option maxRecDepth 20000 in
theorem gX5_isWeightBy_X0_sideOf : GoodIn wsX5_isWeightBy (wsV RX5 308 RX0 yX0_sideOf wsX0_sideOf) := goodIn_app (goodIn_of _ (by decide +kernel)) ggX5_isWeightBy_X0_sideOf
set_option maxRecDepth 20000 in
theorem ggX5_isWeightBy_X2_weightOf : GoodIn wsX5_isWeightBy wsX2_weightOf := goodIn_r _ [17, 18, 19, 20, 21, 22, 23, 24, 25, 26, 45, 46, 47, 48, 49, 50, 51] (by decide +kernel) (by decide +kernel)
set_option maxRecDepth 20000 in
theorem gX5_isWeightBy_X2_weightOf : GoodIn wsX5_isWeightBy (wsV RX5 121 RX2 yX2_weightOf wsX2_weightOf) := goodIn_app (goodIn_of _ (by decide +kernel)) ggX5_isWeightBy_X2_weightOf
theorem dX5_isWeightBy_0 : decode cX5_isWeightBy 0 = .ok (.iload_n 3, 1) := by decide +kernel
theorem dX5_isWeightBy_1 : decode cX5_isWeightBy 1 = .ok (.aload_n 0, 1) := by decide +kernel
theorem dX5_isWeightBy_2 : decode cX5_isWeightBy 2 = .ok (.getfield 10, 3) := by decide +kernel
theorem dX5_isWeightBy_5 : decode cX5_isWeightBy 5 = .ok (.getfield 91, 3) := by decide +kernel
theorem dX5_isWeightBy_8 : decode cX5_isWeightBy 8 = .ok (.iload_n 2, 1) := by decide +kernel
theorem dX5_isWeightBy_9 : decode cX5_isWeightBy 9 = .ok (.iaload, 1) := by decide +kernel
theorem dX5_isWeightBy_10 : decode cX5_isWeightBy 10 = .ok (.isub, 1) := by decide +kernel
theorem dX5_isWeightBy_11 : decode cX5_isWeightBy 11 = .ok (.istore 4, 2) := by decide +kernel
theorem dX5_isWeightBy_13 : decode cX5_isWeightBy 13 = .ok (.aload_n 1, 1) := by decide +kernel
theorem dX5_isWeightBy_14 : decode cX5_isWeightBy 14 = .ok (.getfield 209, 3) := by decide +kernel
theorem dX5_isWeightBy_17 : decode cX5_isWeightBy 17 = .ok (.arraylength, 1) := by decide +kernel
theorem dX5_isWeightBy_18 : decode cX5_isWeightBy 18 = .ok (.istore 5, 2) := by decide +kernel
theorem dX5_isWeightBy_20 : decode cX5_isWeightBy 20 = .ok (.iconst 0, 1) := by decide +kernel
theorem dX5_isWeightBy_21 : decode cX5_isWeightBy 21 = .ok (.istore 6, 2) := by decide +kernel
theorem dX5_isWeightBy_23 : decode cX5_isWeightBy 23 = .ok (.iload 6, 2) := by decide +kernel
theorem dX5_isWeightBy_25 : decode cX5_isWeightBy 25 = .ok (.iconst 1, 1) := by decide +kernel
theorem dX5_isWeightBy_26 : decode cX5_isWeightBy 26 = .ok (.iadd, 1) := by decide +kernel
theorem dX5_isWeightBy_27 : decode cX5_isWeightBy 27 = .ok (.iload 5, 2) := by decide +kernel
theorem dX5_isWeightBy_29 : decode cX5_isWeightBy 29 = .ok (.if_icmp .ge 63, 3) := by decide +kernel
theorem dX5_isWeightBy_32 : decode cX5_isWeightBy 32 = .ok (.aload_n 1, 1) := by decide +kernel
theorem dX5_isWeightBy_33 : decode cX5_isWeightBy 33 = .ok (.getfield 209, 3) := by decide +kernel
theorem dX5_isWeightBy_36 : decode cX5_isWeightBy 36 = .ok (.iload 6, 2) := by decide +kernel
theorem dX5_isWeightBy_38 : decode cX5_isWeightBy 38 = .ok (.iaload, 1) := by decide +kernel
theorem dX5_isWeightBy_39 : decode cX5_isWeightBy 39 = .ok (.istore 7, 2) := by decide +kernel
theorem dX5_isWeightBy_41 : decode cX5_isWeightBy 41 = .ok (.aload_n 0, 1) := by decide +kernel
theorem dX5_isWeightBy_42 : decode cX5_isWeightBy 42 = .ok (.getfield 19, 3) := by decide +kernel
theorem dX5_isWeightBy_45 : decode cX5_isWeightBy 45 = .ok (.iload 7, 2) := by decide +kernel
theorem dX5_isWeightBy_47 : decode cX5_isWeightBy 47 = .ok (.iload_n 2, 1) := by decide +kernel
theorem dX5_isWeightBy_48 : decode cX5_isWeightBy 48 = .ok (.invokevirtual 308, 3) := by decide +kernel
theorem dX5_isWeightBy_51 : decode cX5_isWeightBy 51 = .ok (.istore 8, 2) := by decide +kernel
theorem dX5_isWeightBy_53 : decode cX5_isWeightBy 53 = .ok (.aload_n 0, 1) := by decide +kernel
theorem dX5_isWeightBy_54 : decode cX5_isWeightBy 54 = .ok (.getfield 47, 3) := by decide +kernel
theorem dX5_isWeightBy_57 : decode cX5_isWeightBy 57 = .ok (.aload_n 0, 1) := by decide +kernel
theorem dX5_isWeightBy_58 : decode cX5_isWeightBy 58 = .ok (.getfield 19, 3) := by decide +kernel
theorem dX5_isWeightBy_61 : decode cX5_isWeightBy 61 = .ok (.iload 7, 2) := by decide +kernel
theorem dX5_isWeightBy_63 : decode cX5_isWeightBy 63 = .ok (.invokevirtual 121, 3) := by decide +kernel
theorem dX5_isWeightBy_66 : decode cX5_isWeightBy 66 = .ok (.iload 8, 2) := by decide +kernel
theorem dX5_isWeightBy_68 : decode cX5_isWeightBy 68 = .ok (.iload 4, 2) := by decide +kernel
theorem dX5_isWeightBy_70 : decode cX5_isWeightBy 70 = .ok (.imul, 1) := by decide +kernel
theorem dX5_isWeightBy_71 : decode cX5_isWeightBy 71 = .ok (.iadd, 1) := by decide +kernel
theorem dX5_isWeightBy_72 : decode cX5_isWeightBy 72 = .ok (.aload_n 1, 1) := by decide +kernel
theorem dX5_isWeightBy_73 : decode cX5_isWeightBy 73 = .ok (.getfield 209, 3) := by decide +kernel
theorem dX5_isWeightBy_76 : decode cX5_isWeightBy 76 = .ok (.iload 6, 2) := by decide +kernel
theorem dX5_isWeightBy_78 : decode cX5_isWeightBy 78 = .ok (.iconst 1, 1) := by decide +kernel
theorem dX5_isWeightBy_79 : decode cX5_isWeightBy 79 = .ok (.iadd, 1) := by decide +kernel
theorem dX5_isWeightBy_80 : decode cX5_isWeightBy 80 = .ok (.iaload, 1) := by decide +kernel
theorem dX5_isWeightBy_81 : decode cX5_isWeightBy 81 = .ok (.if_icmp .eq 5, 3) := by decide +kernel
theorem dX5_isWeightBy_84 : decode cX5_isWeightBy 84 = .ok (.iconst 0, 1) := by decide +kernel
theorem dX5_isWeightBy_85 : decode cX5_isWeightBy 85 = .ok (.ireturn, 1) := by decide +kernel
theorem dX5_isWeightBy_86 : decode cX5_isWeightBy 86 = .ok (.iinc 6 2, 3) := by decide +kernel
theorem dX5_isWeightBy_89 : decode cX5_isWeightBy 89 = .ok (.goto (-66), 3) := by decide +kernel
theorem dX5_isWeightBy_92 : decode cX5_isWeightBy 92 = .ok (.iconst 1, 1) := by decide +kernel
theorem dX5_isWeightBy_93 : decode cX5_isWeightBy 93 = .ok (.ireturn, 1) := by decide +kernel
