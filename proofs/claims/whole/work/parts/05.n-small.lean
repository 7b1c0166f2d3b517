theorem dJ6_bitCount_0f7a4_0 : decode cJ6_bitCount_0f7a4 0 = .ok (.iload_n 0, 1) := by decide +kernel
theorem dJ6_bitCount_0f7a4_1 : decode cJ6_bitCount_0f7a4 1 = .ok (.iload_n 0, 1) := by decide +kernel
theorem dJ6_bitCount_0f7a4_2 : decode cJ6_bitCount_0f7a4 2 = .ok (.iconst 1, 1) := by decide +kernel
theorem dJ6_bitCount_0f7a4_3 : decode cJ6_bitCount_0f7a4 3 = .ok (.iushr, 1) := by decide +kernel
theorem dJ6_bitCount_0f7a4_4 : decode cJ6_bitCount_0f7a4 4 = .ok (.ldc_w 265, 3) := by decide +kernel
theorem dJ6_bitCount_0f7a4_7 : decode cJ6_bitCount_0f7a4 7 = .ok (.iand, 1) := by decide +kernel
theorem dJ6_bitCount_0f7a4_8 : decode cJ6_bitCount_0f7a4 8 = .ok (.isub, 1) := by decide +kernel
theorem dJ6_bitCount_0f7a4_9 : decode cJ6_bitCount_0f7a4 9 = .ok (.istore_n 0, 1) := by decide +kernel
theorem dJ6_bitCount_0f7a4_10 : decode cJ6_bitCount_0f7a4 10 = .ok (.iload_n 0, 1) := by decide +kernel
theorem dJ6_bitCount_0f7a4_11 : decode cJ6_bitCount_0f7a4 11 = .ok (.ldc_w 266, 3) := by decide +kernel
theorem dJ6_bitCount_0f7a4_14 : decode cJ6_bitCount_0f7a4 14 = .ok (.iand, 1) := by decide +kernel
theorem dJ6_bitCount_0f7a4_15 : decode cJ6_bitCount_0f7a4 15 = .ok (.iload_n 0, 1) := by decide +kernel
theorem dJ6_bitCount_0f7a4_16 : decode cJ6_bitCount_0f7a4 16 = .ok (.iconst 2, 1) := by decide +kernel
theorem dJ6_bitCount_0f7a4_17 : decode cJ6_bitCount_0f7a4 17 = .ok (.iushr, 1) := by decide +kernel
theorem dJ6_bitCount_0f7a4_18 : decode cJ6_bitCount_0f7a4 18 = .ok (.ldc_w 266, 3) := by decide +kernel
theorem dJ6_bitCount_0f7a4_21 : decode cJ6_bitCount_0f7a4 21 = .ok (.iand, 1) := by decide +kernel
theorem dJ6_bitCount_0f7a4_22 : decode cJ6_bitCount_0f7a4 22 = .ok (.iadd, 1) := by decide +kernel
theorem dJ6_bitCount_0f7a4_23 : decode cJ6_bitCount_0f7a4 23 = .ok (.istore_n 0, 1) := by decide +kernel
theorem dJ6_bitCount_0f7a4_24 : decode cJ6_bitCount_0f7a4 24 = .ok (.iload_n 0, 1) := by decide +kernel
theorem dJ6_bitCount_0f7a4_25 : decode cJ6_bitCount_0f7a4 25 = .ok (.iload_n 0, 1) := by decide +kernel
theorem dJ6_bitCount_0f7a4_26 : decode cJ6_bitCount_0f7a4 26 = .ok (.iconst 4, 1) := by decide +kernel
theorem dJ6_bitCount_0f7a4_27 : decode cJ6_bitCount_0f7a4 27 = .ok (.iushr, 1) := by decide +kernel
theorem dJ6_bitCount_0f7a4_28 : decode cJ6_bitCount_0f7a4 28 = .ok (.iadd, 1) := by decide +kernel
theorem dJ6_bitCount_0f7a4_29 : decode cJ6_bitCount_0f7a4 29 = .ok (.ldc_w 267, 3) := by decide +kernel
theorem dJ6_bitCount_0f7a4_32 : decode cJ6_bitCount_0f7a4 32 = .ok (.iand, 1) := by decide +kernel
theorem dJ6_bitCount_0f7a4_33 : decode cJ6_bitCount_0f7a4 33 = .ok (.istore_n 0, 1) := by decide +kernel
theorem dJ6_bitCount_0f7a4_34 : decode cJ6_bitCount_0f7a4 34 = .ok (.iload_n 0, 1) := by decide +kernel
theorem dJ6_bitCount_0f7a4_35 : decode cJ6_bitCount_0f7a4 35 = .ok (.iload_n 0, 1) := by decide +kernel
theorem dJ6_bitCount_0f7a4_36 : decode cJ6_bitCount_0f7a4 36 = .ok (.bipush 8, 2) := by decide +kernel
theorem dJ6_bitCount_0f7a4_38 : decode cJ6_bitCount_0f7a4 38 = .ok (.iushr, 1) := by decide +kernel
theorem dJ6_bitCount_0f7a4_39 : decode cJ6_bitCount_0f7a4 39 = .ok (.iadd, 1) := by decide +kernel
theorem dJ6_bitCount_0f7a4_40 : decode cJ6_bitCount_0f7a4 40 = .ok (.istore_n 0, 1) := by decide +kernel
theorem dJ6_bitCount_0f7a4_41 : decode cJ6_bitCount_0f7a4 41 = .ok (.iload_n 0, 1) := by decide +kernel
theorem dJ6_bitCount_0f7a4_42 : decode cJ6_bitCount_0f7a4 42 = .ok (.iload_n 0, 1) := by decide +kernel
theorem dJ6_bitCount_0f7a4_43 : decode cJ6_bitCount_0f7a4 43 = .ok (.bipush 16, 2) := by decide +kernel
theorem dJ6_bitCount_0f7a4_45 : decode cJ6_bitCount_0f7a4 45 = .ok (.iushr, 1) := by decide +kernel
theorem dJ6_bitCount_0f7a4_46 : decode cJ6_bitCount_0f7a4 46 = .ok (.iadd, 1) := by decide +kernel
theorem dJ6_bitCount_0f7a4_47 : decode cJ6_bitCount_0f7a4 47 = .ok (.istore_n 0, 1) := by decide +kernel
theorem dJ6_bitCount_0f7a4_48 : decode cJ6_bitCount_0f7a4 48 = .ok (.iload_n 0, 1) := by decide +kernel
theorem dJ6_bitCount_0f7a4_49 : decode cJ6_bitCount_0f7a4 49 = .ok (.bipush 63, 2) := by decide +kernel
theorem dJ6_bitCount_0f7a4_51 : decode cJ6_bitCount_0f7a4 51 = .ok (.iand, 1) := by decide +kernel
theorem dJ6_bitCount_0f7a4_52 : decode cJ6_bitCount_0f7a4 52 = .ok (.ireturn, 1) := by decide +kernel
theorem dJ9_floorDiv_7cf53_0 : decode cJ9_floorDiv_7cf53 0 = .ok (.iload_n 0, 1) := by decide +kernel
theorem dJ9_floorDiv_7cf53_1 : decode cJ9_floorDiv_7cf53 1 = .ok (.iload_n 1, 1) := by decide +kernel
theorem dJ9_floorDiv_7cf53_2 : decode cJ9_floorDiv_7cf53 2 = .ok (.idiv, 1) := by decide +kernel
theorem dJ9_floorDiv_7cf53_3 : decode cJ9_floorDiv_7cf53 3 = .ok (.istore_n 2, 1) := by decide +kernel
theorem dJ9_floorDiv_7cf53_4 : decode cJ9_floorDiv_7cf53 4 = .ok (.iload_n 0, 1) := by decide +kernel
theorem dJ9_floorDiv_7cf53_5 : decode cJ9_floorDiv_7cf53 5 = .ok (.iload_n 1, 1) := by decide +kernel
theorem dJ9_floorDiv_7cf53_6 : decode cJ9_floorDiv_7cf53 6 = .ok (.ixor, 1) := by decide +kernel
theorem dJ9_floorDiv_7cf53_7 : decode cJ9_floorDiv_7cf53 7 = .ok (.ifCond .ge 14, 3) := by decide +kernel
theorem dJ9_floorDiv_7cf53_10 : decode cJ9_floorDiv_7cf53 10 = .ok (.iload_n 2, 1) := by decide +kernel
theorem dJ9_floorDiv_7cf53_11 : decode cJ9_floorDiv_7cf53 11 = .ok (.iload_n 1, 1) := by decide +kernel
theorem dJ9_floorDiv_7cf53_12 : decode cJ9_floorDiv_7cf53 12 = .ok (.imul, 1) := by decide +kernel
theorem dJ9_floorDiv_7cf53_13 : decode cJ9_floorDiv_7cf53 13 = .ok (.iload_n 0, 1) := by decide +kernel
theorem dJ9_floorDiv_7cf53_14 : decode cJ9_floorDiv_7cf53 14 = .ok (.if_icmp .eq 7, 3) := by decide +kernel
theorem dJ9_floorDiv_7cf53_17 : decode cJ9_floorDiv_7cf53 17 = .ok (.iload_n 2, 1) := by decide +kernel
theorem dJ9_floorDiv_7cf53_18 : decode cJ9_floorDiv_7cf53 18 = .ok (.iconst 1, 1) := by decide +kernel
theorem dJ9_floorDiv_7cf53_19 : decode cJ9_floorDiv_7cf53 19 = .ok (.isub, 1) := by decide +kernel
theorem dJ9_floorDiv_7cf53_20 : decode cJ9_floorDiv_7cf53 20 = .ok (.ireturn, 1) := by decide +kernel
theorem dJ9_floorDiv_7cf53_21 : decode cJ9_floorDiv_7cf53 21 = .ok (.iload_n 2, 1) := by decide +kernel
theorem dJ9_floorDiv_7cf53_22 : decode cJ9_floorDiv_7cf53 22 = .ok (.ireturn, 1) := by decide +kernel
theorem dJ9_floorMod_7cf53_0 : decode cJ9_floorMod_7cf53 0 = .ok (.iload_n 0, 1) := by decide +kernel
theorem dJ9_floorMod_7cf53_1 : decode cJ9_floorMod_7cf53 1 = .ok (.iload_n 1, 1) := by decide +kernel
theorem dJ9_floorMod_7cf53_2 : decode cJ9_floorMod_7cf53 2 = .ok (.irem, 1) := by decide +kernel
theorem dJ9_floorMod_7cf53_3 : decode cJ9_floorMod_7cf53 3 = .ok (.istore_n 2, 1) := by decide +kernel
theorem dJ9_floorMod_7cf53_4 : decode cJ9_floorMod_7cf53 4 = .ok (.iload_n 0, 1) := by decide +kernel
theorem dJ9_floorMod_7cf53_5 : decode cJ9_floorMod_7cf53 5 = .ok (.iload_n 1, 1) := by decide +kernel
theorem dJ9_floorMod_7cf53_6 : decode cJ9_floorMod_7cf53 6 = .ok (.ixor, 1) := by decide +kernel
theorem dJ9_floorMod_7cf53_7 : decode cJ9_floorMod_7cf53 7 = .ok (.ifCond .ge 11, 3) := by decide +kernel
theorem dJ9_floorMod_7cf53_10 : decode cJ9_floorMod_7cf53 10 = .ok (.iload_n 2, 1) := by decide +kernel
theorem dJ9_floorMod_7cf53_11 : decode cJ9_floorMod_7cf53 11 = .ok (.ifCond .eq 7, 3) := by decide +kernel
theorem dJ9_floorMod_7cf53_14 : decode cJ9_floorMod_7cf53 14 = .ok (.iload_n 2, 1) := by decide +kernel
theorem dJ9_floorMod_7cf53_15 : decode cJ9_floorMod_7cf53 15 = .ok (.iload_n 1, 1) := by decide +kernel
theorem dJ9_floorMod_7cf53_16 : decode cJ9_floorMod_7cf53 16 = .ok (.iadd, 1) := by decide +kernel
theorem dJ9_floorMod_7cf53_17 : decode cJ9_floorMod_7cf53 17 = .ok (.ireturn, 1) := by decide +kernel
theorem dJ9_floorMod_7cf53_18 : decode cJ9_floorMod_7cf53 18 = .ok (.iload_n 2, 1) := by decide +kernel
theorem dJ9_floorMod_7cf53_19 : decode cJ9_floorMod_7cf53 19 = .ok (.ireturn, 1) := by decide +kernel
theorem dJ9_abs_0f7a4_0 : decode cJ9_abs_0f7a4 0 = .ok (.iload_n 0, 1) := by decide +kernel
theorem dJ9_abs_0f7a4_1 : decode cJ9_abs_0f7a4 1 = .ok (.ifCond .ge 8, 3) := by decide +kernel
theorem dJ9_abs_0f7a4_4 : decode cJ9_abs_0f7a4 4 = .ok (.iload_n 0, 1) := by decide +kernel
theorem dJ9_abs_0f7a4_5 : decode cJ9_abs_0f7a4 5 = .ok (.ineg, 1) := by decide +kernel
theorem dJ9_abs_0f7a4_6 : decode cJ9_abs_0f7a4 6 = .ok (.goto 4, 3) := by decide +kernel
theorem dJ9_abs_0f7a4_9 : decode cJ9_abs_0f7a4 9 = .ok (.iload_n 0, 1) := by decide +kernel
theorem dJ9_abs_0f7a4_10 : decode cJ9_abs_0f7a4 10 = .ok (.ireturn, 1) := by decide +kernel
theorem dJ7_fill_53178_0 : decode cJ7_fill_53178 0 = .ok (.iconst 0, 1) := by decide +kernel
theorem dJ7_fill_53178_1 : decode cJ7_fill_53178 1 = .ok (.istore_n 2, 1) := by decide +kernel
theorem dJ7_fill_53178_2 : decode cJ7_fill_53178 2 = .ok (.aload_n 0, 1) := by decide +kernel
theorem dJ7_fill_53178_3 : decode cJ7_fill_53178 3 = .ok (.arraylength, 1) := by decide +kernel
theorem dJ7_fill_53178_4 : decode cJ7_fill_53178 4 = .ok (.istore_n 3, 1) := by decide +kernel
theorem dJ7_fill_53178_5 : decode cJ7_fill_53178 5 = .ok (.iload_n 2, 1) := by decide +kernel
theorem dJ7_fill_53178_6 : decode cJ7_fill_53178 6 = .ok (.iload_n 3, 1) := by decide +kernel
theorem dJ7_fill_53178_7 : decode cJ7_fill_53178 7 = .ok (.if_icmp .ge 13, 3) := by decide +kernel
theorem dJ7_fill_53178_10 : decode cJ7_fill_53178 10 = .ok (.aload_n 0, 1) := by decide +kernel
theorem dJ7_fill_53178_11 : decode cJ7_fill_53178 11 = .ok (.iload_n 2, 1) := by decide +kernel
theorem dJ7_fill_53178_12 : decode cJ7_fill_53178 12 = .ok (.iload_n 1, 1) := by decide +kernel
theorem dJ7_fill_53178_13 : decode cJ7_fill_53178 13 = .ok (.iastore, 1) := by decide +kernel
theorem dJ7_fill_53178_14 : decode cJ7_fill_53178 14 = .ok (.iinc 2 1, 3) := by decide +kernel
theorem dJ7_fill_53178_17 : decode cJ7_fill_53178 17 = .ok (.goto (-12), 3) := by decide +kernel
theorem dJ7_fill_53178_20 : decode cJ7_fill_53178 20 = .ok (.return_, 1) := by decide +kernel
theorem dX0_init_0 : decode cX0_init 0 = .ok (.aload_n 0, 1) := by decide +kernel
theorem dX0_init_1 : decode cX0_init 1 = .ok (.invokespecial 3, 3) := by decide +kernel
theorem dX0_init_4 : decode cX0_init 4 = .ok (.aload_n 0, 1) := by decide +kernel
theorem dX0_init_5 : decode cX0_init 5 = .ok (.sipush 729, 3) := by decide +kernel
theorem dX0_init_8 : decode cX0_init 8 = .ok (.newarray .int, 2) := by decide +kernel
theorem dX0_init_10 : decode cX0_init 10 = .ok (.putfield 9, 3) := by decide +kernel
theorem dX0_init_13 : decode cX0_init 13 = .ok (.aload_n 0, 1) := by decide +kernel
theorem dX0_init_14 : decode cX0_init 14 = .ok (.sipush 729, 3) := by decide +kernel
theorem dX0_init_17 : decode cX0_init 17 = .ok (.newarray .int, 2) := by decide +kernel
theorem dX0_init_19 : decode cX0_init 19 = .ok (.putfield 15, 3) := by decide +kernel
theorem dX0_init_22 : decode cX0_init 22 = .ok (.aload_n 0, 1) := by decide +kernel
theorem dX0_init_23 : decode cX0_init 23 = .ok (.sipush 729, 3) := by decide +kernel
theorem dX0_init_26 : decode cX0_init 26 = .ok (.newarray .int, 2) := by decide +kernel
theorem dX0_init_28 : decode cX0_init 28 = .ok (.putfield 18, 3) := by decide +kernel
theorem dX0_init_31 : decode cX0_init 31 = .ok (.aload_n 0, 1) := by decide +kernel
theorem dX0_init_32 : decode cX0_init 32 = .ok (.sipush 729, 3) := by decide +kernel
theorem dX0_init_35 : decode cX0_init 35 = .ok (.newarray .int, 2) := by decide +kernel
theorem dX0_init_37 : decode cX0_init 37 = .ok (.putfield 21, 3) := by decide +kernel
theorem dX0_init_40 : decode cX0_init 40 = .ok (.aload_n 0, 1) := by decide +kernel
theorem dX0_init_41 : decode cX0_init 41 = .ok (.iconst 1, 1) := by decide +kernel
theorem dX0_init_42 : decode cX0_init 42 = .ok (.putfield 24, 3) := by decide +kernel
theorem dX0_init_45 : decode cX0_init 45 = .ok (.return_, 1) := by decide +kernel
set_option maxRecDepth 20000 in
theorem ggX0_layOut_X0_layRight : GoodIn wsX0_layOut wsX0_layRight := goodIn_r _ [8, 9, 10, 11, 12, 17, 18, 19, 20, 21] (by decide +kernel) (by decide +kernel)
set_option maxRecDepth 20000 in
theorem gX0_layOut_X0_layRight : GoodIn wsX0_layOut (wsV RX0 34 RX0 yX0_layRight wsX0_layRight) := goodIn_app (goodIn_of _ (by decide +kernel)) ggX0_layOut_X0_layRight
set_option maxRecDepth 20000 in
theorem ggX0_layOut_X0_layLeft : GoodIn wsX0_layOut wsX0_layLeft := goodIn_r _ [16, 9, 10, 11, 12, 17, 18, 19, 20, 21] (by decide +kernel) (by decide +kernel)
set_option maxRecDepth 20000 in
theorem gX0_layOut_X0_layLeft : GoodIn wsX0_layOut (wsV RX0 38 RX0 yX0_layLeft wsX0_layLeft) := goodIn_app (goodIn_of _ (by decide +kernel)) ggX0_layOut_X0_layLeft
theorem dX0_layOut_0 : decode cX0_layOut 0 = .ok (.aload_n 0, 1) := by decide +kernel
theorem dX0_layOut_1 : decode cX0_layOut 1 = .ok (.iconst 1, 1) := by decide +kernel
theorem dX0_layOut_2 : decode cX0_layOut 2 = .ok (.putfield 24, 3) := by decide +kernel
theorem dX0_layOut_5 : decode cX0_layOut 5 = .ok (.iconst 0, 1) := by decide +kernel
theorem dX0_layOut_6 : decode cX0_layOut 6 = .ok (.istore_n 2, 1) := by decide +kernel
theorem dX0_layOut_7 : decode cX0_layOut 7 = .ok (.iload_n 2, 1) := by decide +kernel
theorem dX0_layOut_8 : decode cX0_layOut 8 = .ok (.aload_n 1, 1) := by decide +kernel
theorem dX0_layOut_9 : decode cX0_layOut 9 = .ok (.getfield 28, 3) := by decide +kernel
theorem dX0_layOut_12 : decode cX0_layOut 12 = .ok (.if_icmp .ge 73, 3) := by decide +kernel
theorem dX0_layOut_15 : decode cX0_layOut 15 = .ok (.iconst 0, 1) := by decide +kernel
theorem dX0_layOut_16 : decode cX0_layOut 16 = .ok (.istore_n 3, 1) := by decide +kernel
theorem dX0_layOut_17 : decode cX0_layOut 17 = .ok (.iload_n 3, 1) := by decide +kernel
theorem dX0_layOut_18 : decode cX0_layOut 18 = .ok (.aload_n 0, 1) := by decide +kernel
theorem dX0_layOut_19 : decode cX0_layOut 19 = .ok (.getfield 24, 3) := by decide +kernel
theorem dX0_layOut_22 : decode cX0_layOut 22 = .ok (.if_icmp .ge 47, 3) := by decide +kernel
theorem dX0_layOut_25 : decode cX0_layOut 25 = .ok (.aload_n 0, 1) := by decide +kernel
theorem dX0_layOut_26 : decode cX0_layOut 26 = .ok (.aload_n 0, 1) := by decide +kernel
theorem dX0_layOut_27 : decode cX0_layOut 27 = .ok (.getfield 24, 3) := by decide +kernel
theorem dX0_layOut_30 : decode cX0_layOut 30 = .ok (.iload_n 3, 1) := by decide +kernel
theorem dX0_layOut_31 : decode cX0_layOut 31 = .ok (.iadd, 1) := by decide +kernel
theorem dX0_layOut_32 : decode cX0_layOut 32 = .ok (.iload_n 3, 1) := by decide +kernel
theorem dX0_layOut_33 : decode cX0_layOut 33 = .ok (.iload_n 2, 1) := by decide +kernel
theorem dX0_layOut_34 : decode cX0_layOut 34 = .ok (.aload_n 1, 1) := by decide +kernel
theorem dX0_layOut_35 : decode cX0_layOut 35 = .ok (.getfield 31, 3) := by decide +kernel
theorem dX0_layOut_38 : decode cX0_layOut 38 = .ok (.iload_n 2, 1) := by decide +kernel
theorem dX0_layOut_39 : decode cX0_layOut 39 = .ok (.iaload, 1) := by decide +kernel
theorem dX0_layOut_40 : decode cX0_layOut 40 = .ok (.invokevirtual 34, 3) := by decide +kernel
theorem dX0_layOut_43 : decode cX0_layOut 43 = .ok (.aload_n 0, 1) := by decide +kernel
theorem dX0_layOut_44 : decode cX0_layOut 44 = .ok (.iconst 2, 1) := by decide +kernel
theorem dX0_layOut_45 : decode cX0_layOut 45 = .ok (.aload_n 0, 1) := by decide +kernel
theorem dX0_layOut_46 : decode cX0_layOut 46 = .ok (.getfield 24, 3) := by decide +kernel
theorem dX0_layOut_49 : decode cX0_layOut 49 = .ok (.imul, 1) := by decide +kernel
theorem dX0_layOut_50 : decode cX0_layOut 50 = .ok (.iload_n 3, 1) := by decide +kernel
theorem dX0_layOut_51 : decode cX0_layOut 51 = .ok (.iadd, 1) := by decide +kernel
theorem dX0_layOut_52 : decode cX0_layOut 52 = .ok (.iload_n 3, 1) := by decide +kernel
theorem dX0_layOut_53 : decode cX0_layOut 53 = .ok (.iload_n 2, 1) := by decide +kernel
theorem dX0_layOut_54 : decode cX0_layOut 54 = .ok (.aload_n 1, 1) := by decide +kernel
theorem dX0_layOut_55 : decode cX0_layOut 55 = .ok (.getfield 31, 3) := by decide +kernel
theorem dX0_layOut_58 : decode cX0_layOut 58 = .ok (.iload_n 2, 1) := by decide +kernel
theorem dX0_layOut_59 : decode cX0_layOut 59 = .ok (.iaload, 1) := by decide +kernel
theorem dX0_layOut_60 : decode cX0_layOut 60 = .ok (.invokevirtual 38, 3) := by decide +kernel
theorem dX0_layOut_63 : decode cX0_layOut 63 = .ok (.iinc 3 1, 3) := by decide +kernel
theorem dX0_layOut_66 : decode cX0_layOut 66 = .ok (.goto (-49), 3) := by decide +kernel
theorem dX0_layOut_69 : decode cX0_layOut 69 = .ok (.aload_n 0, 1) := by decide +kernel
theorem dX0_layOut_70 : decode cX0_layOut 70 = .ok (.dup, 1) := by decide +kernel
theorem dX0_layOut_71 : decode cX0_layOut 71 = .ok (.getfield 24, 3) := by decide +kernel
theorem dX0_layOut_74 : decode cX0_layOut 74 = .ok (.iconst 3, 1) := by decide +kernel
theorem dX0_layOut_75 : decode cX0_layOut 75 = .ok (.imul, 1) := by decide +kernel
theorem dX0_layOut_76 : decode cX0_layOut 76 = .ok (.putfield 24, 3) := by decide +kernel
theorem dX0_layOut_79 : decode cX0_layOut 79 = .ok (.iinc 2 1, 3) := by decide +kernel
theorem dX0_layOut_82 : decode cX0_layOut 82 = .ok (.goto (-75), 3) := by decide +kernel
theorem dX0_layOut_85 : decode cX0_layOut 85 = .ok (.return_, 1) := by decide +kernel
theorem dX0_layRight_0 : decode cX0_layRight 0 = .ok (.aload_n 0, 1) := by decide +kernel
theorem dX0_layRight_1 : decode cX0_layRight 1 = .ok (.getfield 9, 3) := by decide +kernel
theorem dX0_layRight_4 : decode cX0_layRight 4 = .ok (.iload_n 1, 1) := by decide +kernel
theorem dX0_layRight_5 : decode cX0_layRight 5 = .ok (.aload_n 0, 1) := by decide +kernel
theorem dX0_layRight_6 : decode cX0_layRight 6 = .ok (.getfield 9, 3) := by decide +kernel
theorem dX0_layRight_9 : decode cX0_layRight 9 = .ok (.iload_n 2, 1) := by decide +kernel
theorem dX0_layRight_10 : decode cX0_layRight 10 = .ok (.iaload, 1) := by decide +kernel
theorem dX0_layRight_11 : decode cX0_layRight 11 = .ok (.iload 4, 2) := by decide +kernel
theorem dX0_layRight_13 : decode cX0_layRight 13 = .ok (.iadd, 1) := by decide +kernel
theorem dX0_layRight_14 : decode cX0_layRight 14 = .ok (.iastore, 1) := by decide +kernel
theorem dX0_layRight_15 : decode cX0_layRight 15 = .ok (.aload_n 0, 1) := by decide +kernel
theorem dX0_layRight_16 : decode cX0_layRight 16 = .ok (.getfield 15, 3) := by decide +kernel
theorem dX0_layRight_19 : decode cX0_layRight 19 = .ok (.iload_n 1, 1) := by decide +kernel
theorem dX0_layRight_20 : decode cX0_layRight 20 = .ok (.aload_n 0, 1) := by decide +kernel
theorem dX0_layRight_21 : decode cX0_layRight 21 = .ok (.getfield 15, 3) := by decide +kernel
theorem dX0_layRight_24 : decode cX0_layRight 24 = .ok (.iload_n 2, 1) := by decide +kernel
theorem dX0_layRight_25 : decode cX0_layRight 25 = .ok (.iaload, 1) := by decide +kernel
theorem dX0_layRight_26 : decode cX0_layRight 26 = .ok (.iastore, 1) := by decide +kernel
theorem dX0_layRight_27 : decode cX0_layRight 27 = .ok (.aload_n 0, 1) := by decide +kernel
theorem dX0_layRight_28 : decode cX0_layRight 28 = .ok (.getfield 18, 3) := by decide +kernel
theorem dX0_layRight_31 : decode cX0_layRight 31 = .ok (.iload_n 1, 1) := by decide +kernel
theorem dX0_layRight_32 : decode cX0_layRight 32 = .ok (.aload_n 0, 1) := by decide +kernel
theorem dX0_layRight_33 : decode cX0_layRight 33 = .ok (.getfield 18, 3) := by decide +kernel
theorem dX0_layRight_36 : decode cX0_layRight 36 = .ok (.iload_n 2, 1) := by decide +kernel
theorem dX0_layRight_37 : decode cX0_layRight 37 = .ok (.iaload, 1) := by decide +kernel
theorem dX0_layRight_38 : decode cX0_layRight 38 = .ok (.iconst 1, 1) := by decide +kernel
theorem dX0_layRight_39 : decode cX0_layRight 39 = .ok (.iload_n 3, 1) := by decide +kernel
theorem dX0_layRight_40 : decode cX0_layRight 40 = .ok (.ishl, 1) := by decide +kernel
theorem dX0_layRight_41 : decode cX0_layRight 41 = .ok (.ior, 1) := by decide +kernel
theorem dX0_layRight_42 : decode cX0_layRight 42 = .ok (.iastore, 1) := by decide +kernel
theorem dX0_layRight_43 : decode cX0_layRight 43 = .ok (.aload_n 0, 1) := by decide +kernel
theorem dX0_layRight_44 : decode cX0_layRight 44 = .ok (.getfield 21, 3) := by decide +kernel
theorem dX0_layRight_47 : decode cX0_layRight 47 = .ok (.iload_n 1, 1) := by decide +kernel
theorem dX0_layRight_48 : decode cX0_layRight 48 = .ok (.aload_n 0, 1) := by decide +kernel
theorem dX0_layRight_49 : decode cX0_layRight 49 = .ok (.getfield 21, 3) := by decide +kernel
theorem dX0_layRight_52 : decode cX0_layRight 52 = .ok (.iload_n 2, 1) := by decide +kernel
theorem dX0_layRight_53 : decode cX0_layRight 53 = .ok (.iaload, 1) := by decide +kernel
theorem dX0_layRight_54 : decode cX0_layRight 54 = .ok (.iastore, 1) := by decide +kernel
theorem dX0_layRight_55 : decode cX0_layRight 55 = .ok (.return_, 1) := by decide +kernel
theorem dX0_layLeft_0 : decode cX0_layLeft 0 = .ok (.aload_n 0, 1) := by decide +kernel
theorem dX0_layLeft_1 : decode cX0_layLeft 1 = .ok (.getfield 9, 3) := by decide +kernel
theorem dX0_layLeft_4 : decode cX0_layLeft 4 = .ok (.iload_n 1, 1) := by decide +kernel
theorem dX0_layLeft_5 : decode cX0_layLeft 5 = .ok (.aload_n 0, 1) := by decide +kernel
theorem dX0_layLeft_6 : decode cX0_layLeft 6 = .ok (.getfield 9, 3) := by decide +kernel
theorem dX0_layLeft_9 : decode cX0_layLeft 9 = .ok (.iload_n 2, 1) := by decide +kernel
theorem dX0_layLeft_10 : decode cX0_layLeft 10 = .ok (.iaload, 1) := by decide +kernel
theorem dX0_layLeft_11 : decode cX0_layLeft 11 = .ok (.iastore, 1) := by decide +kernel
theorem dX0_layLeft_12 : decode cX0_layLeft 12 = .ok (.aload_n 0, 1) := by decide +kernel
theorem dX0_layLeft_13 : decode cX0_layLeft 13 = .ok (.getfield 15, 3) := by decide +kernel
theorem dX0_layLeft_16 : decode cX0_layLeft 16 = .ok (.iload_n 1, 1) := by decide +kernel
theorem dX0_layLeft_17 : decode cX0_layLeft 17 = .ok (.aload_n 0, 1) := by decide +kernel
theorem dX0_layLeft_18 : decode cX0_layLeft 18 = .ok (.getfield 15, 3) := by decide +kernel
theorem dX0_layLeft_21 : decode cX0_layLeft 21 = .ok (.iload_n 2, 1) := by decide +kernel
theorem dX0_layLeft_22 : decode cX0_layLeft 22 = .ok (.iaload, 1) := by decide +kernel
theorem dX0_layLeft_23 : decode cX0_layLeft 23 = .ok (.iload 4, 2) := by decide +kernel
theorem dX0_layLeft_25 : decode cX0_layLeft 25 = .ok (.iadd, 1) := by decide +kernel
theorem dX0_layLeft_26 : decode cX0_layLeft 26 = .ok (.iastore, 1) := by decide +kernel
theorem dX0_layLeft_27 : decode cX0_layLeft 27 = .ok (.aload_n 0, 1) := by decide +kernel
theorem dX0_layLeft_28 : decode cX0_layLeft 28 = .ok (.getfield 18, 3) := by decide +kernel
theorem dX0_layLeft_31 : decode cX0_layLeft 31 = .ok (.iload_n 1, 1) := by decide +kernel
theorem dX0_layLeft_32 : decode cX0_layLeft 32 = .ok (.aload_n 0, 1) := by decide +kernel
theorem dX0_layLeft_33 : decode cX0_layLeft 33 = .ok (.getfield 18, 3) := by decide +kernel
theorem dX0_layLeft_36 : decode cX0_layLeft 36 = .ok (.iload_n 2, 1) := by decide +kernel
theorem dX0_layLeft_37 : decode cX0_layLeft 37 = .ok (.iaload, 1) := by decide +kernel
theorem dX0_layLeft_38 : decode cX0_layLeft 38 = .ok (.iastore, 1) := by decide +kernel
theorem dX0_layLeft_39 : decode cX0_layLeft 39 = .ok (.aload_n 0, 1) := by decide +kernel
theorem dX0_layLeft_40 : decode cX0_layLeft 40 = .ok (.getfield 21, 3) := by decide +kernel
theorem dX0_layLeft_43 : decode cX0_layLeft 43 = .ok (.iload_n 1, 1) := by decide +kernel
theorem dX0_layLeft_44 : decode cX0_layLeft 44 = .ok (.aload_n 0, 1) := by decide +kernel
theorem dX0_layLeft_45 : decode cX0_layLeft 45 = .ok (.getfield 21, 3) := by decide +kernel
theorem dX0_layLeft_48 : decode cX0_layLeft 48 = .ok (.iload_n 2, 1) := by decide +kernel
theorem dX0_layLeft_49 : decode cX0_layLeft 49 = .ok (.iaload, 1) := by decide +kernel
theorem dX0_layLeft_50 : decode cX0_layLeft 50 = .ok (.iconst 1, 1) := by decide +kernel
theorem dX0_layLeft_51 : decode cX0_layLeft 51 = .ok (.iload_n 3, 1) := by decide +kernel
theorem dX0_layLeft_52 : decode cX0_layLeft 52 = .ok (.ishl, 1) := by decide +kernel
theorem dX0_layLeft_53 : decode cX0_layLeft 53 = .ok (.ior, 1) := by decide +kernel
theorem dX0_layLeft_54 : decode cX0_layLeft 54 = .ok (.iastore, 1) := by decide +kernel
theorem dX0_layLeft_55 : decode cX0_layLeft 55 = .ok (.return_, 1) := by decide +kernel
theorem dX0_isLying_0 : decode cX0_isLying 0 = .ok (.iload_n 1, 1) := by decide +kernel
theorem dX0_isLying_1 : decode cX0_isLying 1 = .ok (.ifCond .lt 15, 3) := by decide +kernel
theorem dX0_isLying_4 : decode cX0_isLying 4 = .ok (.iload_n 1, 1) := by decide +kernel
theorem dX0_isLying_5 : decode cX0_isLying 5 = .ok (.aload_n 0, 1) := by decide +kernel
theorem dX0_isLying_6 : decode cX0_isLying 6 = .ok (.getfield 24, 3) := by decide +kernel
theorem dX0_isLying_9 : decode cX0_isLying 9 = .ok (.if_icmp .ge 7, 3) := by decide +kernel
theorem dX0_isLying_12 : decode cX0_isLying 12 = .ok (.iconst 1, 1) := by decide +kernel
theorem dX0_isLying_13 : decode cX0_isLying 13 = .ok (.goto 4, 3) := by decide +kernel
theorem dX0_isLying_16 : decode cX0_isLying 16 = .ok (.iconst 0, 1) := by decide +kernel
theorem dX0_isLying_17 : decode cX0_isLying 17 = .ok (.ireturn, 1) := by decide +kernel
theorem dX0_notOff_0 : decode cX0_notOff 0 = .ok (.aload_n 0, 1) := by decide +kernel
theorem dX0_notOff_1 : decode cX0_notOff 1 = .ok (.getfield 18, 3) := by decide +kernel
theorem dX0_notOff_4 : decode cX0_notOff 4 = .ok (.iload_n 1, 1) := by decide +kernel
theorem dX0_notOff_5 : decode cX0_notOff 5 = .ok (.iaload, 1) := by decide +kernel
theorem dX0_notOff_6 : decode cX0_notOff 6 = .ok (.aload_n 0, 1) := by decide +kernel
theorem dX0_notOff_7 : decode cX0_notOff 7 = .ok (.getfield 21, 3) := by decide +kernel
theorem dX0_notOff_10 : decode cX0_notOff 10 = .ok (.iload_n 1, 1) := by decide +kernel
theorem dX0_notOff_11 : decode cX0_notOff 11 = .ok (.iaload, 1) := by decide +kernel
theorem dX0_notOff_12 : decode cX0_notOff 12 = .ok (.ior, 1) := by decide +kernel
theorem dX0_notOff_13 : decode cX0_notOff 13 = .ok (.ireturn, 1) := by decide +kernel
set_option maxRecDepth 20000 in
theorem ggX0_liftsOf_X0_notOff : GoodIn wsX0_liftsOf wsX0_notOff := goodIn_r _ [5, 6, 7, 15, 16, 17, 18, 19] (by decide +kernel) (by decide +kernel)
set_option maxRecDepth 20000 in
theorem gX0_liftsOf_X0_notOff : GoodIn wsX0_liftsOf (wsV RX0 41 RX0 yX0_notOff wsX0_notOff) := goodIn_app (goodIn_of _ (by decide +kernel)) ggX0_liftsOf_X0_notOff
set_option maxRecDepth 20000 in
theorem ggX0_liftsOf_J6_bitCount_0f7a4 : GoodIn wsX0_liftsOf wsJ6_bitCount_0f7a4 := goodIn_r _ [11, 12, 13, 14] (by decide +kernel) (by decide +kernel)
set_option maxRecDepth 20000 in
theorem gX0_liftsOf_J6_bitCount_0f7a4 : GoodIn wsX0_liftsOf (va_wsS RX0 45 yJ6_bitCount_0f7a4 wsJ6_bitCount_0f7a4) := goodIn_app (goodIn_of _ (by decide +kernel)) ggX0_liftsOf_J6_bitCount_0f7a4
theorem dX0_liftsOf_0 : decode cX0_liftsOf 0 = .ok (.aload_n 0, 1) := by decide +kernel
theorem dX0_liftsOf_1 : decode cX0_liftsOf 1 = .ok (.iload_n 1, 1) := by decide +kernel
theorem dX0_liftsOf_2 : decode cX0_liftsOf 2 = .ok (.invokevirtual 41, 3) := by decide +kernel
theorem dX0_liftsOf_5 : decode cX0_liftsOf 5 = .ok (.invokestatic 45, 3) := by decide +kernel
theorem dX0_liftsOf_8 : decode cX0_liftsOf 8 = .ok (.ireturn, 1) := by decide +kernel
theorem dX0_sideOf_0 : decode cX0_sideOf 0 = .ok (.aload_n 0, 1) := by decide +kernel
theorem dX0_sideOf_1 : decode cX0_sideOf 1 = .ok (.getfield 18, 3) := by decide +kernel
theorem dX0_sideOf_4 : decode cX0_sideOf 4 = .ok (.iload_n 1, 1) := by decide +kernel
theorem dX0_sideOf_5 : decode cX0_sideOf 5 = .ok (.iaload, 1) := by decide +kernel
theorem dX0_sideOf_6 : decode cX0_sideOf 6 = .ok (.iload_n 2, 1) := by decide +kernel
theorem dX0_sideOf_7 : decode cX0_sideOf 7 = .ok (.ishr, 1) := by decide +kernel
theorem dX0_sideOf_8 : decode cX0_sideOf 8 = .ok (.iconst 1, 1) := by decide +kernel
theorem dX0_sideOf_9 : decode cX0_sideOf 9 = .ok (.iand, 1) := by decide +kernel
theorem dX0_sideOf_10 : decode cX0_sideOf 10 = .ok (.aload_n 0, 1) := by decide +kernel
theorem dX0_sideOf_11 : decode cX0_sideOf 11 = .ok (.getfield 21, 3) := by decide +kernel
theorem dX0_sideOf_14 : decode cX0_sideOf 14 = .ok (.iload_n 1, 1) := by decide +kernel
theorem dX0_sideOf_15 : decode cX0_sideOf 15 = .ok (.iaload, 1) := by decide +kernel
theorem dX0_sideOf_16 : decode cX0_sideOf 16 = .ok (.iload_n 2, 1) := by decide +kernel
theorem dX0_sideOf_17 : decode cX0_sideOf 17 = .ok (.ishr, 1) := by decide +kernel
theorem dX0_sideOf_18 : decode cX0_sideOf 18 = .ok (.iconst 1, 1) := by decide +kernel
theorem dX0_sideOf_19 : decode cX0_sideOf 19 = .ok (.iand, 1) := by decide +kernel
theorem dX0_sideOf_20 : decode cX0_sideOf 20 = .ok (.isub, 1) := by decide +kernel
theorem dX0_sideOf_21 : decode cX0_sideOf 21 = .ok (.ireturn, 1) := by decide +kernel
theorem dX1_init_0 : decode cX1_init 0 = .ok (.aload_n 0, 1) := by decide +kernel
theorem dX1_init_1 : decode cX1_init 1 = .ok (.invokespecial 3, 3) := by decide +kernel
theorem dX1_init_4 : decode cX1_init 4 = .ok (.aload_n 0, 1) := by decide +kernel
theorem dX1_init_5 : decode cX1_init 5 = .ok (.iload_n 1, 1) := by decide +kernel
theorem dX1_init_6 : decode cX1_init 6 = .ok (.putfield 9, 3) := by decide +kernel
theorem dX1_init_9 : decode cX1_init 9 = .ok (.aload_n 0, 1) := by decide +kernel
theorem dX1_init_10 : decode cX1_init 10 = .ok (.iload_n 2, 1) := by decide +kernel
theorem dX1_init_11 : decode cX1_init 11 = .ok (.newarray .int, 2) := by decide +kernel
theorem dX1_init_13 : decode cX1_init 13 = .ok (.putfield 15, 3) := by decide +kernel
theorem dX1_init_16 : decode cX1_init 16 = .ok (.return_, 1) := by decide +kernel
theorem dX1_isPlace_0 : decode cX1_isPlace 0 = .ok (.iload_n 1, 1) := by decide +kernel
theorem dX1_isPlace_1 : decode cX1_isPlace 1 = .ok (.ifCond .lt 16, 3) := by decide +kernel
theorem dX1_isPlace_4 : decode cX1_isPlace 4 = .ok (.iload_n 1, 1) := by decide +kernel
theorem dX1_isPlace_5 : decode cX1_isPlace 5 = .ok (.aload_n 0, 1) := by decide +kernel
theorem dX1_isPlace_6 : decode cX1_isPlace 6 = .ok (.getfield 15, 3) := by decide +kernel
theorem dX1_isPlace_9 : decode cX1_isPlace 9 = .ok (.arraylength, 1) := by decide +kernel
theorem dX1_isPlace_10 : decode cX1_isPlace 10 = .ok (.if_icmp .ge 7, 3) := by decide +kernel
theorem dX1_isPlace_13 : decode cX1_isPlace 13 = .ok (.iconst 1, 1) := by decide +kernel
theorem dX1_isPlace_14 : decode cX1_isPlace 14 = .ok (.goto 4, 3) := by decide +kernel
theorem dX1_isPlace_17 : decode cX1_isPlace 17 = .ok (.iconst 0, 1) := by decide +kernel
theorem dX1_isPlace_18 : decode cX1_isPlace 18 = .ok (.ireturn, 1) := by decide +kernel
theorem dX1_isStretch_0 : decode cX1_isStretch 0 = .ok (.iload_n 1, 1) := by decide +kernel
theorem dX1_isStretch_1 : decode cX1_isStretch 1 = .ok (.ifCond .lt 31, 3) := by decide +kernel
theorem dX1_isStretch_4 : decode cX1_isStretch 4 = .ok (.iload_n 1, 1) := by decide +kernel
theorem dX1_isStretch_5 : decode cX1_isStretch 5 = .ok (.aload_n 0, 1) := by decide +kernel
theorem dX1_isStretch_6 : decode cX1_isStretch 6 = .ok (.getfield 15, 3) := by decide +kernel
theorem dX1_isStretch_9 : decode cX1_isStretch 9 = .ok (.arraylength, 1) := by decide +kernel
theorem dX1_isStretch_10 : decode cX1_isStretch 10 = .ok (.if_icmp .gt 22, 3) := by decide +kernel
theorem dX1_isStretch_13 : decode cX1_isStretch 13 = .ok (.iload_n 2, 1) := by decide +kernel
theorem dX1_isStretch_14 : decode cX1_isStretch 14 = .ok (.ifCond .lt 18, 3) := by decide +kernel
theorem dX1_isStretch_17 : decode cX1_isStretch 17 = .ok (.iload_n 2, 1) := by decide +kernel
theorem dX1_isStretch_18 : decode cX1_isStretch 18 = .ok (.aload_n 0, 1) := by decide +kernel
theorem dX1_isStretch_19 : decode cX1_isStretch 19 = .ok (.getfield 15, 3) := by decide +kernel
theorem dX1_isStretch_22 : decode cX1_isStretch 22 = .ok (.arraylength, 1) := by decide +kernel
theorem dX1_isStretch_23 : decode cX1_isStretch 23 = .ok (.iload_n 1, 1) := by decide +kernel
theorem dX1_isStretch_24 : decode cX1_isStretch 24 = .ok (.isub, 1) := by decide +kernel
theorem dX1_isStretch_25 : decode cX1_isStretch 25 = .ok (.if_icmp .gt 7, 3) := by decide +kernel
theorem dX1_isStretch_28 : decode cX1_isStretch 28 = .ok (.iconst 1, 1) := by decide +kernel
theorem dX1_isStretch_29 : decode cX1_isStretch 29 = .ok (.goto 4, 3) := by decide +kernel
theorem dX1_isStretch_32 : decode cX1_isStretch 32 = .ok (.iconst 0, 1) := by decide +kernel
theorem dX1_isStretch_33 : decode cX1_isStretch 33 = .ok (.ireturn, 1) := by decide +kernel
theorem dX1_lowestBits_0 : decode cX1_lowestBits 0 = .ok (.aload_n 0, 1) := by decide +kernel
theorem dX1_lowestBits_1 : decode cX1_lowestBits 1 = .ok (.getfield 9, 3) := by decide +kernel
theorem dX1_lowestBits_4 : decode cX1_lowestBits 4 = .ok (.lookupswitch 34 #[(0, 28), (1, 31)], 28) := by decide +kernel
theorem dX1_lowestBits_32 : decode cX1_lowestBits 32 = .ok (.iload_n 1, 1) := by decide +kernel
theorem dX1_lowestBits_33 : decode cX1_lowestBits 33 = .ok (.i2b, 1) := by decide +kernel
theorem dX1_lowestBits_34 : decode cX1_lowestBits 34 = .ok (.ireturn, 1) := by decide +kernel
theorem dX1_lowestBits_35 : decode cX1_lowestBits 35 = .ok (.iload_n 1, 1) := by decide +kernel
theorem dX1_lowestBits_36 : decode cX1_lowestBits 36 = .ok (.i2s, 1) := by decide +kernel
theorem dX1_lowestBits_37 : decode cX1_lowestBits 37 = .ok (.ireturn, 1) := by decide +kernel
theorem dX1_lowestBits_38 : decode cX1_lowestBits 38 = .ok (.iload_n 1, 1) := by decide +kernel
theorem dX1_lowestBits_39 : decode cX1_lowestBits 39 = .ok (.ireturn, 1) := by decide +kernel
theorem dX1_placesOf_0 : decode cX1_placesOf 0 = .ok (.iconst 0, 1) := by decide +kernel
theorem dX1_placesOf_1 : decode cX1_placesOf 1 = .ok (.istore_n 2, 1) := by decide +kernel
theorem dX1_placesOf_2 : decode cX1_placesOf 2 = .ok (.iconst 0, 1) := by decide +kernel
theorem dX1_placesOf_3 : decode cX1_placesOf 3 = .ok (.istore_n 3, 1) := by decide +kernel
theorem dX1_placesOf_4 : decode cX1_placesOf 4 = .ok (.iload_n 3, 1) := by decide +kernel
theorem dX1_placesOf_5 : decode cX1_placesOf 5 = .ok (.aload_n 0, 1) := by decide +kernel
theorem dX1_placesOf_6 : decode cX1_placesOf 6 = .ok (.getfield 15, 3) := by decide +kernel
theorem dX1_placesOf_9 : decode cX1_placesOf 9 = .ok (.arraylength, 1) := by decide +kernel
theorem dX1_placesOf_10 : decode cX1_placesOf 10 = .ok (.if_icmp .ge 25, 3) := by decide +kernel
theorem dX1_placesOf_13 : decode cX1_placesOf 13 = .ok (.aload_n 0, 1) := by decide +kernel
theorem dX1_placesOf_14 : decode cX1_placesOf 14 = .ok (.getfield 15, 3) := by decide +kernel
theorem dX1_placesOf_17 : decode cX1_placesOf 17 = .ok (.iload_n 3, 1) := by decide +kernel
theorem dX1_placesOf_18 : decode cX1_placesOf 18 = .ok (.iaload, 1) := by decide +kernel
theorem dX1_placesOf_19 : decode cX1_placesOf 19 = .ok (.iload_n 1, 1) := by decide +kernel
theorem dX1_placesOf_20 : decode cX1_placesOf 20 = .ok (.if_icmp .ne 9, 3) := by decide +kernel
theorem dX1_placesOf_23 : decode cX1_placesOf 23 = .ok (.iload_n 2, 1) := by decide +kernel
theorem dX1_placesOf_24 : decode cX1_placesOf 24 = .ok (.iconst 1, 1) := by decide +kernel
theorem dX1_placesOf_25 : decode cX1_placesOf 25 = .ok (.iload_n 3, 1) := by decide +kernel
theorem dX1_placesOf_26 : decode cX1_placesOf 26 = .ok (.ishl, 1) := by decide +kernel
theorem dX1_placesOf_27 : decode cX1_placesOf 27 = .ok (.ior, 1) := by decide +kernel
theorem dX1_placesOf_28 : decode cX1_placesOf 28 = .ok (.istore_n 2, 1) := by decide +kernel
theorem dX1_placesOf_29 : decode cX1_placesOf 29 = .ok (.iinc 3 1, 3) := by decide +kernel
theorem dX1_placesOf_32 : decode cX1_placesOf 32 = .ok (.goto (-28), 3) := by decide +kernel
theorem dX1_placesOf_35 : decode cX1_placesOf 35 = .ok (.iload_n 2, 1) := by decide +kernel
theorem dX1_placesOf_36 : decode cX1_placesOf 36 = .ok (.ireturn, 1) := by decide +kernel
theorem dX2_init_0 : decode cX2_init 0 = .ok (.aload_n 0, 1) := by decide +kernel
theorem dX2_init_1 : decode cX2_init 1 = .ok (.invokespecial 3, 3) := by decide +kernel
theorem dX2_init_4 : decode cX2_init 4 = .ok (.aload_n 0, 1) := by decide +kernel
theorem dX2_init_5 : decode cX2_init 5 = .ok (.iload_n 1, 1) := by decide +kernel
theorem dX2_init_6 : decode cX2_init 6 = .ok (.putfield 9, 3) := by decide +kernel
theorem dX2_init_9 : decode cX2_init 9 = .ok (.aload_n 0, 1) := by decide +kernel
theorem dX2_init_10 : decode cX2_init 10 = .ok (.iload_n 2, 1) := by decide +kernel
theorem dX2_init_11 : decode cX2_init 11 = .ok (.putfield 15, 3) := by decide +kernel
theorem dX2_init_14 : decode cX2_init 14 = .ok (.return_, 1) := by decide +kernel
set_option maxRecDepth 20000 in
theorem ggX2_hits_X2_allows : GoodIn wsX2_hits wsX2_allows := goodIn_r _ [5, 6, 7, 8, 9, 10, 11, 12, 13, 14, 15, 27, 28, 29, 30, 31, 32, 33] (by decide +kernel) (by decide +kernel)
set_option maxRecDepth 20000 in
theorem gX2_hits_X2_allows : GoodIn wsX2_hits (wsV RX2 18 RX2 yX2_allows wsX2_allows) := goodIn_app (goodIn_of _ (by decide +kernel)) ggX2_hits_X2_allows
set_option maxRecDepth 20000 in
theorem ggX2_hits_X2_weightOf : GoodIn wsX2_hits wsX2_weightOf := goodIn_r _ [19, 20, 21, 22, 6, 23, 24, 25, 26, 7, 29, 30, 31, 32, 33, 27, 28] (by decide +kernel) (by decide +kernel)
set_option maxRecDepth 20000 in
theorem gX2_hits_X2_weightOf : GoodIn wsX2_hits (wsV RX2 22 RX2 yX2_weightOf wsX2_weightOf) := goodIn_app (goodIn_of _ (by decide +kernel)) ggX2_hits_X2_weightOf
theorem dX2_hits_0 : decode cX2_hits 0 = .ok (.aload_n 0, 1) := by decide +kernel
theorem dX2_hits_1 : decode cX2_hits 1 = .ok (.aload_n 1, 1) := by decide +kernel
theorem dX2_hits_2 : decode cX2_hits 2 = .ok (.iload_n 2, 1) := by decide +kernel
theorem dX2_hits_3 : decode cX2_hits 3 = .ok (.invokevirtual 18, 3) := by decide +kernel
theorem dX2_hits_6 : decode cX2_hits 6 = .ok (.ifCond .eq 17, 3) := by decide +kernel
theorem dX2_hits_9 : decode cX2_hits 9 = .ok (.aload_n 0, 1) := by decide +kernel
theorem dX2_hits_10 : decode cX2_hits 10 = .ok (.aload_n 1, 1) := by decide +kernel
theorem dX2_hits_11 : decode cX2_hits 11 = .ok (.iload_n 2, 1) := by decide +kernel
theorem dX2_hits_12 : decode cX2_hits 12 = .ok (.invokevirtual 22, 3) := by decide +kernel
theorem dX2_hits_15 : decode cX2_hits 15 = .ok (.iload_n 3, 1) := by decide +kernel
theorem dX2_hits_16 : decode cX2_hits 16 = .ok (.if_icmp .ne 7, 3) := by decide +kernel
theorem dX2_hits_19 : decode cX2_hits 19 = .ok (.iconst 1, 1) := by decide +kernel
theorem dX2_hits_20 : decode cX2_hits 20 = .ok (.goto 4, 3) := by decide +kernel
theorem dX2_hits_23 : decode cX2_hits 23 = .ok (.iconst 0, 1) := by decide +kernel
theorem dX2_hits_24 : decode cX2_hits 24 = .ok (.ireturn, 1) := by decide +kernel
set_option maxRecDepth 20000 in
theorem ggX2_allows_J6_bitCount_0f7a4 : GoodIn wsX2_allows wsJ6_bitCount_0f7a4 := goodIn_r _ [7, 8, 9, 10] (by decide +kernel) (by decide +kernel)
set_option maxRecDepth 20000 in
theorem gX2_allows_J6_bitCount_0f7a4 : GoodIn wsX2_allows (va_wsS RX2 35 yJ6_bitCount_0f7a4 wsJ6_bitCount_0f7a4) := goodIn_app (goodIn_of _ (by decide +kernel)) ggX2_allows_J6_bitCount_0f7a4
theorem dX2_allows_0 : decode cX2_allows 0 = .ok (.aload_n 0, 1) := by decide +kernel
theorem dX2_allows_1 : decode cX2_allows 1 = .ok (.getfield 9, 3) := by decide +kernel
theorem dX2_allows_4 : decode cX2_allows 4 = .ok (.lookupswitch 70 #[(1, 36), (4, 51), (6, 36)], 36) := by decide +kernel
theorem dX2_allows_40 : decode cX2_allows 40 = .ok (.aload_n 1, 1) := by decide +kernel
theorem dX2_allows_41 : decode cX2_allows 41 = .ok (.getfield 26, 3) := by decide +kernel
theorem dX2_allows_44 : decode cX2_allows 44 = .ok (.iload_n 2, 1) := by decide +kernel
theorem dX2_allows_45 : decode cX2_allows 45 = .ok (.iaload, 1) := by decide +kernel
theorem dX2_allows_46 : decode cX2_allows 46 = .ok (.ifCond .ne 7, 3) := by decide +kernel
theorem dX2_allows_49 : decode cX2_allows 49 = .ok (.iconst 1, 1) := by decide +kernel
theorem dX2_allows_50 : decode cX2_allows 50 = .ok (.goto 4, 3) := by decide +kernel
theorem dX2_allows_53 : decode cX2_allows 53 = .ok (.iconst 0, 1) := by decide +kernel
theorem dX2_allows_54 : decode cX2_allows 54 = .ok (.ireturn, 1) := by decide +kernel
theorem dX2_allows_55 : decode cX2_allows 55 = .ok (.aload_n 1, 1) := by decide +kernel
theorem dX2_allows_56 : decode cX2_allows 56 = .ok (.getfield 32, 3) := by decide +kernel
theorem dX2_allows_59 : decode cX2_allows 59 = .ok (.iload_n 2, 1) := by decide +kernel
theorem dX2_allows_60 : decode cX2_allows 60 = .ok (.iaload, 1) := by decide +kernel
theorem dX2_allows_61 : decode cX2_allows 61 = .ok (.invokestatic 35, 3) := by decide +kernel
theorem dX2_allows_64 : decode cX2_allows 64 = .ok (.iconst 2, 1) := by decide +kernel
theorem dX2_allows_65 : decode cX2_allows 65 = .ok (.if_icmp .gt 7, 3) := by decide +kernel
theorem dX2_allows_68 : decode cX2_allows 68 = .ok (.iconst 1, 1) := by decide +kernel
theorem dX2_allows_69 : decode cX2_allows 69 = .ok (.goto 4, 3) := by decide +kernel
theorem dX2_allows_72 : decode cX2_allows 72 = .ok (.iconst 0, 1) := by decide +kernel
theorem dX2_allows_73 : decode cX2_allows 73 = .ok (.ireturn, 1) := by decide +kernel
theorem dX2_allows_74 : decode cX2_allows 74 = .ok (.iconst 1, 1) := by decide +kernel
theorem dX2_allows_75 : decode cX2_allows 75 = .ok (.ireturn, 1) := by decide +kernel
theorem dX2_weightOf_0 : decode cX2_weightOf 0 = .ok (.aload_n 1, 1) := by decide +kernel
theorem dX2_weightOf_1 : decode cX2_weightOf 1 = .ok (.getfield 41, 3) := by decide +kernel
theorem dX2_weightOf_4 : decode cX2_weightOf 4 = .ok (.iload_n 2, 1) := by decide +kernel
theorem dX2_weightOf_5 : decode cX2_weightOf 5 = .ok (.iaload, 1) := by decide +kernel
theorem dX2_weightOf_6 : decode cX2_weightOf 6 = .ok (.istore_n 3, 1) := by decide +kernel
theorem dX2_weightOf_7 : decode cX2_weightOf 7 = .ok (.aload_n 1, 1) := by decide +kernel
theorem dX2_weightOf_8 : decode cX2_weightOf 8 = .ok (.getfield 44, 3) := by decide +kernel
theorem dX2_weightOf_11 : decode cX2_weightOf 11 = .ok (.iload_n 2, 1) := by decide +kernel
theorem dX2_weightOf_12 : decode cX2_weightOf 12 = .ok (.iaload, 1) := by decide +kernel
theorem dX2_weightOf_13 : decode cX2_weightOf 13 = .ok (.istore 4, 2) := by decide +kernel
theorem dX2_weightOf_15 : decode cX2_weightOf 15 = .ok (.iload_n 3, 1) := by decide +kernel
theorem dX2_weightOf_16 : decode cX2_weightOf 16 = .ok (.iload 4, 2) := by decide +kernel
theorem dX2_weightOf_18 : decode cX2_weightOf 18 = .ok (.isub, 1) := by decide +kernel
theorem dX2_weightOf_19 : decode cX2_weightOf 19 = .ok (.istore 5, 2) := by decide +kernel
theorem dX2_weightOf_21 : decode cX2_weightOf 21 = .ok (.aload_n 0, 1) := by decide +kernel
theorem dX2_weightOf_22 : decode cX2_weightOf 22 = .ok (.getfield 15, 3) := by decide +kernel
theorem dX2_weightOf_25 : decode cX2_weightOf 25 = .ok (.iconst 1, 1) := by decide +kernel
theorem dX2_weightOf_26 : decode cX2_weightOf 26 = .ok (.iadd, 1) := by decide +kernel
theorem dX2_weightOf_27 : decode cX2_weightOf 27 = .ok (.iload_n 3, 1) := by decide +kernel
theorem dX2_weightOf_28 : decode cX2_weightOf 28 = .ok (.imul, 1) := by decide +kernel
theorem dX2_weightOf_29 : decode cX2_weightOf 29 = .ok (.iload 4, 2) := by decide +kernel
theorem dX2_weightOf_31 : decode cX2_weightOf 31 = .ok (.isub, 1) := by decide +kernel
theorem dX2_weightOf_32 : decode cX2_weightOf 32 = .ok (.istore 6, 2) := by decide +kernel
theorem dX2_weightOf_34 : decode cX2_weightOf 34 = .ok (.aload_n 0, 1) := by decide +kernel
theorem dX2_weightOf_35 : decode cX2_weightOf 35 = .ok (.getfield 9, 3) := by decide +kernel
theorem dX2_weightOf_38 : decode cX2_weightOf 38 = .ok (.tableswitch 88 2 7 #[38, 41, 49, 54, 60, 65], 38) := by decide +kernel
theorem dX2_weightOf_76 : decode cX2_weightOf 76 = .ok (.iload 6, 2) := by decide +kernel
theorem dX2_weightOf_78 : decode cX2_weightOf 78 = .ok (.ireturn, 1) := by decide +kernel
theorem dX2_weightOf_79 : decode cX2_weightOf 79 = .ok (.iload 5, 2) := by decide +kernel
theorem dX2_weightOf_81 : decode cX2_weightOf 81 = .ok (.aload_n 0, 1) := by decide +kernel
theorem dX2_weightOf_82 : decode cX2_weightOf 82 = .ok (.getfield 15, 3) := by decide +kernel
theorem dX2_weightOf_85 : decode cX2_weightOf 85 = .ok (.isub, 1) := by decide +kernel
theorem dX2_weightOf_86 : decode cX2_weightOf 86 = .ok (.ireturn, 1) := by decide +kernel
theorem dX2_weightOf_87 : decode cX2_weightOf 87 = .ok (.iload 6, 2) := by decide +kernel
theorem dX2_weightOf_89 : decode cX2_weightOf 89 = .ok (.iload_n 3, 1) := by decide +kernel
theorem dX2_weightOf_90 : decode cX2_weightOf 90 = .ok (.iadd, 1) := by decide +kernel
theorem dX2_weightOf_91 : decode cX2_weightOf 91 = .ok (.ireturn, 1) := by decide +kernel
theorem dX2_weightOf_92 : decode cX2_weightOf 92 = .ok (.iload 5, 2) := by decide +kernel
theorem dX2_weightOf_94 : decode cX2_weightOf 94 = .ok (.invokestatic 47, 3) := by decide +kernel
theorem dX2_weightOf_97 : decode cX2_weightOf 97 = .ok (.ireturn, 1) := by decide +kernel
theorem dX2_weightOf_98 : decode cX2_weightOf 98 = .ok (.iload 5, 2) := by decide +kernel
theorem dX2_weightOf_100 : decode cX2_weightOf 100 = .ok (.iconst 2, 1) := by decide +kernel
theorem dX2_weightOf_101 : decode cX2_weightOf 101 = .ok (.idiv, 1) := by decide +kernel
theorem dX2_weightOf_102 : decode cX2_weightOf 102 = .ok (.ireturn, 1) := by decide +kernel
theorem dX2_weightOf_103 : decode cX2_weightOf 103 = .ok (.iload 5, 2) := by decide +kernel
theorem dX2_weightOf_105 : decode cX2_weightOf 105 = .ok (.aload_n 0, 1) := by decide +kernel
theorem dX2_weightOf_106 : decode cX2_weightOf 106 = .ok (.getfield 15, 3) := by decide +kernel
theorem dX2_weightOf_109 : decode cX2_weightOf 109 = .ok (.isub, 1) := by decide +kernel
theorem dX2_weightOf_110 : decode cX2_weightOf 110 = .ok (.aload_n 1, 1) := by decide +kernel
theorem dX2_weightOf_111 : decode cX2_weightOf 111 = .ok (.getfield 26, 3) := by decide +kernel
theorem dX2_weightOf_114 : decode cX2_weightOf 114 = .ok (.iload_n 2, 1) := by decide +kernel
theorem dX2_weightOf_115 : decode cX2_weightOf 115 = .ok (.iaload, 1) := by decide +kernel
theorem dX2_weightOf_116 : decode cX2_weightOf 116 = .ok (.ifCond .ne 7, 3) := by decide +kernel
theorem dX2_weightOf_119 : decode cX2_weightOf 119 = .ok (.iconst 0, 1) := by decide +kernel
theorem dX2_weightOf_120 : decode cX2_weightOf 120 = .ok (.goto 4, 3) := by decide +kernel
theorem dX2_weightOf_123 : decode cX2_weightOf 123 = .ok (.iconst 1, 1) := by decide +kernel
theorem dX2_weightOf_124 : decode cX2_weightOf 124 = .ok (.iadd, 1) := by decide +kernel
theorem dX2_weightOf_125 : decode cX2_weightOf 125 = .ok (.ireturn, 1) := by decide +kernel
theorem dX2_weightOf_126 : decode cX2_weightOf 126 = .ok (.iload 5, 2) := by decide +kernel
theorem dX2_weightOf_128 : decode cX2_weightOf 128 = .ok (.ireturn, 1) := by decide +kernel
theorem dX2_price_0 : decode cX2_price 0 = .ok (.iconst 5, 1) := by decide +kernel
theorem dX2_price_1 : decode cX2_price 1 = .ok (.istore_n 1, 1) := by decide +kernel
theorem dX2_price_2 : decode cX2_price 2 = .ok (.iload_n 1, 1) := by decide +kernel
theorem dX2_price_3 : decode cX2_price 3 = .ok (.iconst 1, 1) := by decide +kernel
theorem dX2_price_4 : decode cX2_price 4 = .ok (.isub, 1) := by decide +kernel
theorem dX2_price_5 : decode cX2_price 5 = .ok (.istore_n 2, 1) := by decide +kernel
theorem dX2_price_6 : decode cX2_price 6 = .ok (.iload_n 1, 1) := by decide +kernel
theorem dX2_price_7 : decode cX2_price 7 = .ok (.aload_n 0, 1) := by decide +kernel
theorem dX2_price_8 : decode cX2_price 8 = .ok (.getfield 15, 3) := by decide +kernel
theorem dX2_price_11 : decode cX2_price 11 = .ok (.iconst 1, 1) := by decide +kernel
theorem dX2_price_12 : decode cX2_price 12 = .ok (.iadd, 1) := by decide +kernel
theorem dX2_price_13 : decode cX2_price 13 = .ok (.imul, 1) := by decide +kernel
theorem dX2_price_14 : decode cX2_price 14 = .ok (.istore_n 3, 1) := by decide +kernel
theorem dX2_price_15 : decode cX2_price 15 = .ok (.iload_n 1, 1) := by decide +kernel
theorem dX2_price_16 : decode cX2_price 16 = .ok (.aload_n 0, 1) := by decide +kernel
theorem dX2_price_17 : decode cX2_price 17 = .ok (.getfield 15, 3) := by decide +kernel
theorem dX2_price_20 : decode cX2_price 20 = .ok (.isub, 1) := by decide +kernel
theorem dX2_price_21 : decode cX2_price 21 = .ok (.istore 4, 2) := by decide +kernel
theorem dX2_price_23 : decode cX2_price 23 = .ok (.aload_n 0, 1) := by decide +kernel
theorem dX2_price_24 : decode cX2_price 24 = .ok (.getfield 9, 3) := by decide +kernel
theorem dX2_price_27 : decode cX2_price 27 = .ok (.tableswitch 69 1 7 #[41, 43, 45, 48, 52, 56, 63], 41) := by decide +kernel
theorem dX2_price_68 : decode cX2_price 68 = .ok (.iload_n 2, 1) := by decide +kernel
theorem dX2_price_69 : decode cX2_price 69 = .ok (.ireturn, 1) := by decide +kernel
theorem dX2_price_70 : decode cX2_price 70 = .ok (.iload_n 3, 1) := by decide +kernel
theorem dX2_price_71 : decode cX2_price 71 = .ok (.ireturn, 1) := by decide +kernel
theorem dX2_price_72 : decode cX2_price 72 = .ok (.iload 4, 2) := by decide +kernel
theorem dX2_price_74 : decode cX2_price 74 = .ok (.ireturn, 1) := by decide +kernel
theorem dX2_price_75 : decode cX2_price 75 = .ok (.iload_n 3, 1) := by decide +kernel
theorem dX2_price_76 : decode cX2_price 76 = .ok (.iconst 4, 1) := by decide +kernel
theorem dX2_price_77 : decode cX2_price 77 = .ok (.iadd, 1) := by decide +kernel
theorem dX2_price_78 : decode cX2_price 78 = .ok (.ireturn, 1) := by decide +kernel
theorem dX2_price_79 : decode cX2_price 79 = .ok (.iconst 2, 1) := by decide +kernel
theorem dX2_price_80 : decode cX2_price 80 = .ok (.iload_n 1, 1) := by decide +kernel
theorem dX2_price_81 : decode cX2_price 81 = .ok (.imul, 1) := by decide +kernel
theorem dX2_price_82 : decode cX2_price 82 = .ok (.ireturn, 1) := by decide +kernel
theorem dX2_price_83 : decode cX2_price 83 = .ok (.iload_n 2, 1) := by decide +kernel
theorem dX2_price_84 : decode cX2_price 84 = .ok (.aload_n 0, 1) := by decide +kernel
theorem dX2_price_85 : decode cX2_price 85 = .ok (.getfield 15, 3) := by decide +kernel
theorem dX2_price_88 : decode cX2_price 88 = .ok (.iadd, 1) := by decide +kernel
theorem dX2_price_89 : decode cX2_price 89 = .ok (.ireturn, 1) := by decide +kernel
theorem dX2_price_90 : decode cX2_price 90 = .ok (.iload 4, 2) := by decide +kernel
theorem dX2_price_92 : decode cX2_price 92 = .ok (.bipush 7, 2) := by decide +kernel
theorem dX2_price_94 : decode cX2_price 94 = .ok (.iadd, 1) := by decide +kernel
theorem dX2_price_95 : decode cX2_price 95 = .ok (.ireturn, 1) := by decide +kernel
theorem dX2_price_96 : decode cX2_price 96 = .ok (.iload_n 1, 1) := by decide +kernel
theorem dX2_price_97 : decode cX2_price 97 = .ok (.ireturn, 1) := by decide +kernel
theorem dX2_fail_0 : decode cX2_fail 0 = .ok (.aload_n 0, 1) := by decide +kernel
theorem dX2_fail_1 : decode cX2_fail 1 = .ok (.getfield 9, 3) := by decide +kernel
theorem dX2_fail_4 : decode cX2_fail 4 = .ok (.iconst 5, 1) := by decide +kernel
theorem dX2_fail_5 : decode cX2_fail 5 = .ok (.if_icmp .eq 10, 3) := by decide +kernel
theorem dX2_fail_8 : decode cX2_fail 8 = .ok (.aload_n 0, 1) := by decide +kernel
theorem dX2_fail_9 : decode cX2_fail 9 = .ok (.getfield 15, 3) := by decide +kernel
theorem dX2_fail_12 : decode cX2_fail 12 = .ok (.ifCond .ne 4, 3) := by decide +kernel
theorem dX2_fail_15 : decode cX2_fail 15 = .ok (.return_, 1) := by decide +kernel
theorem dX2_fail_16 : decode cX2_fail 16 = .ok (.aload_n 0, 1) := by decide +kernel
theorem dX2_fail_17 : decode cX2_fail 17 = .ok (.getfield 9, 3) := by decide +kernel
theorem dX2_fail_20 : decode cX2_fail 20 = .ok (.bipush 7, 2) := by decide +kernel
theorem dX2_fail_22 : decode cX2_fail 22 = .ok (.if_icmp .ne 11, 3) := by decide +kernel
theorem dX2_fail_25 : decode cX2_fail 25 = .ok (.new 52, 3) := by decide +kernel
theorem dX2_fail_28 : decode cX2_fail 28 = .ok (.dup, 1) := by decide +kernel
theorem dX2_fail_29 : decode cX2_fail 29 = .ok (.invokespecial 54, 3) := by decide +kernel
theorem dX2_fail_32 : decode cX2_fail 32 = .ok (.athrow, 1) := by decide +kernel
theorem dX2_fail_33 : decode cX2_fail 33 = .ok (.aload_n 0, 1) := by decide +kernel
theorem dX2_fail_34 : decode cX2_fail 34 = .ok (.getfield 9, 3) := by decide +kernel
theorem dX2_fail_37 : decode cX2_fail 37 = .ok (.bipush 6, 2) := by decide +kernel
theorem dX2_fail_39 : decode cX2_fail 39 = .ok (.if_icmp .ne 11, 3) := by decide +kernel
theorem dX2_fail_42 : decode cX2_fail 42 = .ok (.new 55, 3) := by decide +kernel
theorem dX2_fail_45 : decode cX2_fail 45 = .ok (.dup, 1) := by decide +kernel
theorem dX2_fail_46 : decode cX2_fail 46 = .ok (.invokespecial 57, 3) := by decide +kernel
theorem dX2_fail_49 : decode cX2_fail 49 = .ok (.athrow, 1) := by decide +kernel
theorem dX2_fail_50 : decode cX2_fail 50 = .ok (.new 58, 3) := by decide +kernel
theorem dX2_fail_53 : decode cX2_fail 53 = .ok (.dup, 1) := by decide +kernel
theorem dX2_fail_54 : decode cX2_fail 54 = .ok (.invokespecial 60, 3) := by decide +kernel
theorem dX2_fail_57 : decode cX2_fail 57 = .ok (.athrow, 1) := by decide +kernel
set_option maxRecDepth 20000 in
theorem ggX3_init_X4_init : GoodIn wsX3_init wsX4_init := goodIn_r _ [9, 10, 2, 3, 11, 12, 13, 14, 15, 16] (by decide +kernel) (by decide +kernel)
set_option maxRecDepth 20000 in
theorem gX3_init_X4_init_n11 : GoodIn wsX3_init (wsX4_init) := ggX3_init_X4_init
theorem dX3_init_0 : decode cX3_init 0 = .ok (.aload_n 0, 1) := by decide +kernel
theorem dX3_init_1 : decode cX3_init 1 = .ok (.invokespecial 3, 3) := by decide +kernel
theorem dX3_init_4 : decode cX3_init 4 = .ok (.aload_n 0, 1) := by decide +kernel
theorem dX3_init_5 : decode cX3_init 5 = .ok (.new 9, 3) := by decide +kernel
theorem dX3_init_8 : decode cX3_init 8 = .ok (.dup, 1) := by decide +kernel
theorem dX3_init_9 : decode cX3_init 9 = .ok (.invokespecial 11, 3) := by decide +kernel
theorem dX3_init_12 : decode cX3_init 12 = .ok (.putfield 12, 3) := by decide +kernel
theorem dX3_init_15 : decode cX3_init 15 = .ok (.return_, 1) := by decide +kernel
set_option maxRecDepth 20000 in
theorem ggX3_read_X4_takeFrom : GoodIn wsX3_read wsX4_takeFrom := goodIn_r _ [9, 10, 11, 12, 13, 14, 15, 16, 79, 80, 81] (by decide +kernel) (by decide +kernel)
set_option maxRecDepth 20000 in
theorem gX3_read_X4_takeFrom : GoodIn wsX3_read (wsV RX3 18 RX4 yX4_takeFrom wsX4_takeFrom) := goodIn_app (goodIn_of _ (by decide +kernel)) ggX3_read_X4_takeFrom
set_option maxRecDepth 20000 in
theorem ggX3_read_X3_readStatement : GoodIn wsX3_read wsX3_readStatement := goodIn_r _ [21, 2, 3, 22, 23, 24, 20, 25, 4, 26, 27, 28, 29, 30, 31, 32, 33, 34, 35, 36, 37, 38, 39, 40, 41, 42, 43, 44, 45, 46, 47, 1, 48, 49, 50, 8, 51, 16, 10, 15, 52, 53, 54, 55, 56, 57, 58, 59, 60, 61, 62, 63, 64, 65, 66, 67, 68, 69, 70, 71, 72, 73, 74, 75, 76, 77, 78, 79, 80, 81] (by decide +kernel) (by decide +kernel)
set_option maxRecDepth 20000 in
theorem gX3_read_X3_readStatement : GoodIn wsX3_read (wsV RX3 29 RX3 yX3_readStatement wsX3_readStatement) := goodIn_app (goodIn_of _ (by decide +kernel)) ggX3_read_X3_readStatement
theorem dX3_read_0 : decode cX3_read 0 = .ok (.aload_n 0, 1) := by decide +kernel
theorem dX3_read_1 : decode cX3_read 1 = .ok (.getfield 12, 3) := by decide +kernel
theorem dX3_read_4 : decode cX3_read 4 = .ok (.aload_n 2, 1) := by decide +kernel
theorem dX3_read_5 : decode cX3_read 5 = .ok (.invokevirtual 18, 3) := by decide +kernel
theorem dX3_read_8 : decode cX3_read 8 = .ok (.aload_n 0, 1) := by decide +kernel
theorem dX3_read_9 : decode cX3_read 9 = .ok (.iconst 0, 1) := by decide +kernel
theorem dX3_read_10 : decode cX3_read 10 = .ok (.putfield 22, 3) := by decide +kernel
theorem dX3_read_13 : decode cX3_read 13 = .ok (.aload_n 0, 1) := by decide +kernel
theorem dX3_read_14 : decode cX3_read 14 = .ok (.iconst (-1), 1) := by decide +kernel
theorem dX3_read_15 : decode cX3_read 15 = .ok (.putfield 26, 3) := by decide +kernel
theorem dX3_read_18 : decode cX3_read 18 = .ok (.iconst 0, 1) := by decide +kernel
theorem dX3_read_19 : decode cX3_read 19 = .ok (.istore_n 3, 1) := by decide +kernel
theorem dX3_read_20 : decode cX3_read 20 = .ok (.aload_n 0, 1) := by decide +kernel
theorem dX3_read_21 : decode cX3_read 21 = .ok (.aload_n 1, 1) := by decide +kernel
theorem dX3_read_22 : decode cX3_read 22 = .ok (.invokevirtual 29, 3) := by decide +kernel
theorem dX3_read_25 : decode cX3_read 25 = .ok (.ifCond .ne 12, 3) := by decide +kernel
theorem dX3_read_28 : decode cX3_read 28 = .ok (.sipush (-1000), 3) := by decide +kernel
theorem dX3_read_31 : decode cX3_read 31 = .ok (.aload_n 0, 1) := by decide +kernel
theorem dX3_read_32 : decode cX3_read 32 = .ok (.getfield 22, 3) := by decide +kernel
theorem dX3_read_35 : decode cX3_read 35 = .ok (.isub, 1) := by decide +kernel
theorem dX3_read_36 : decode cX3_read 36 = .ok (.ireturn, 1) := by decide +kernel
theorem dX3_read_37 : decode cX3_read 37 = .ok (.iinc 3 1, 3) := by decide +kernel
theorem dX3_read_40 : decode cX3_read 40 = .ok (.aload_n 0, 1) := by decide +kernel
theorem dX3_read_41 : decode cX3_read 41 = .ok (.getfield 22, 3) := by decide +kernel
theorem dX3_read_44 : decode cX3_read 44 = .ok (.aload_n 1, 1) := by decide +kernel
theorem dX3_read_45 : decode cX3_read 45 = .ok (.getfield 33, 3) := by decide +kernel
theorem dX3_read_48 : decode cX3_read 48 = .ok (.arraylength, 1) := by decide +kernel
theorem dX3_read_49 : decode cX3_read 49 = .ok (.if_icmp .ge 9, 3) := by decide +kernel
theorem dX3_read_52 : decode cX3_read 52 = .ok (.iload_n 3, 1) := by decide +kernel
theorem dX3_read_53 : decode cX3_read 53 = .ok (.bipush 100, 2) := by decide +kernel
theorem dX3_read_55 : decode cX3_read 55 = .ok (.if_icmp .lt (-35), 3) := by decide +kernel
theorem dX3_read_58 : decode cX3_read 58 = .ok (.aload_n 0, 1) := by decide +kernel
theorem dX3_read_59 : decode cX3_read 59 = .ok (.getfield 26, 3) := by decide +kernel
theorem dX3_read_62 : decode cX3_read 62 = .ok (.ifCond .lt 12, 3) := by decide +kernel
theorem dX3_read_65 : decode cX3_read 65 = .ok (.sipush (-2000), 3) := by decide +kernel
theorem dX3_read_68 : decode cX3_read 68 = .ok (.aload_n 0, 1) := by decide +kernel
theorem dX3_read_69 : decode cX3_read 69 = .ok (.getfield 26, 3) := by decide +kernel
theorem dX3_read_72 : decode cX3_read 72 = .ok (.isub, 1) := by decide +kernel
theorem dX3_read_73 : decode cX3_read 73 = .ok (.ireturn, 1) := by decide +kernel
theorem dX3_read_74 : decode cX3_read 74 = .ok (.aload_n 2, 1) := by decide +kernel
theorem dX3_read_75 : decode cX3_read 75 = .ok (.aload_n 0, 1) := by decide +kernel
theorem dX3_read_76 : decode cX3_read 76 = .ok (.getfield 12, 3) := by decide +kernel
theorem dX3_read_79 : decode cX3_read 79 = .ok (.invokevirtual 18, 3) := by decide +kernel
theorem dX3_read_82 : decode cX3_read 82 = .ok (.iload_n 3, 1) := by decide +kernel
theorem dX3_read_83 : decode cX3_read 83 = .ok (.ireturn, 1) := by decide +kernel
set_option maxRecDepth 20000 in
theorem ggX3_readStatement_X3_readLetter : GoodIn wsX3_readStatement wsX3_readLetter := goodIn_r _ [7, 1, 8, 9, 10, 11, 12, 13, 14, 62, 63, 64, 65, 66] (by decide +kernel) (by decide +kernel)
set_option maxRecDepth 20000 in
theorem gX3_readStatement_X3_readLetter : GoodIn wsX3_readStatement (wsV RX3 39 RX3 yX3_readLetter wsX3_readLetter) := goodIn_app (goodIn_of _ (by decide +kernel)) ggX3_readStatement_X3_readLetter
set_option maxRecDepth 20000 in
theorem ggX3_readStatement_X3_readNumber : GoodIn wsX3_readStatement wsX3_readNumber := goodIn_r _ [18, 19, 20, 21, 6, 22, 1, 8, 9, 10, 11, 12, 13, 14, 62, 63, 64, 65, 66] (by decide +kernel) (by decide +kernel)
set_option maxRecDepth 20000 in
theorem gX3_readStatement_X3_readNumber : GoodIn wsX3_readStatement (wsV RX3 43 RX3 yX3_readNumber wsX3_readNumber) := goodIn_app (goodIn_of _ (by decide +kernel)) ggX3_readStatement_X3_readNumber
set_option maxRecDepth 20000 in
theorem ggX3_readStatement_X3_readDigit : GoodIn wsX3_readStatement wsX3_readDigit := goodIn_r _ [22, 1, 8, 9, 10, 11, 12, 13, 14, 62, 63, 64, 65, 66] (by decide +kernel) (by decide +kernel)
set_option maxRecDepth 20000 in
theorem gX3_readStatement_X3_readDigit : GoodIn wsX3_readStatement (wsV RX3 46 RX3 yX3_readDigit wsX3_readDigit) := goodIn_app (goodIn_of _ (by decide +kernel)) ggX3_readStatement_X3_readDigit
set_option maxRecDepth 20000 in
theorem ggX3_readStatement_X3_readSign : GoodIn wsX3_readStatement wsX3_readSign := goodIn_r _ [26, 1, 8, 9, 10, 11, 12, 13, 14, 62, 63, 64, 65, 66] (by decide +kernel) (by decide +kernel)
set_option maxRecDepth 20000 in
theorem gX3_readStatement_X3_readSign : GoodIn wsX3_readStatement (wsV RX3 49 RX3 yX3_readSign wsX3_readSign) := goodIn_app (goodIn_of _ (by decide +kernel)) ggX3_readStatement_X3_readSign
set_option maxRecDepth 20000 in
theorem ggX3_readStatement_X3_isDone : GoodIn wsX3_readStatement wsX3_isDone := goodIn_r _ [30, 31, 32, 33, 34, 35, 36, 37, 38, 39, 40, 41, 42, 43, 44, 45, 46, 47, 48, 49, 50, 51, 52, 53, 54, 55, 56, 57, 58, 59, 60, 61, 62, 63, 64, 67, 68, 69] (by decide +kernel) (by decide +kernel)
set_option maxRecDepth 20000 in
theorem gX3_readStatement_X3_isDone : GoodIn wsX3_readStatement (wsV RX3 53 RX3 yX3_isDone wsX3_isDone) := goodIn_app (goodIn_of _ (by decide +kernel)) ggX3_readStatement_X3_isDone
theorem dX3_readStatement_0 : decode cX3_readStatement 0 = .ok (.aload_n 0, 1) := by decide +kernel
theorem dX3_readStatement_1 : decode cX3_readStatement 1 = .ok (.getfield 22, 3) := by decide +kernel
theorem dX3_readStatement_4 : decode cX3_readStatement 4 = .ok (.istore_n 2, 1) := by decide +kernel
theorem dX3_readStatement_5 : decode cX3_readStatement 5 = .ok (.aload_n 0, 1) := by decide +kernel
theorem dX3_readStatement_6 : decode cX3_readStatement 6 = .ok (.aload_n 1, 1) := by decide +kernel
theorem dX3_readStatement_7 : decode cX3_readStatement 7 = .ok (.invokevirtual 39, 3) := by decide +kernel
theorem dX3_readStatement_10 : decode cX3_readStatement 10 = .ok (.istore_n 3, 1) := by decide +kernel
theorem dX3_readStatement_11 : decode cX3_readStatement 11 = .ok (.iconst 0, 1) := by decide +kernel
theorem dX3_readStatement_12 : decode cX3_readStatement 12 = .ok (.istore 4, 2) := by decide +kernel
theorem dX3_readStatement_14 : decode cX3_readStatement 14 = .ok (.iconst 0, 1) := by decide +kernel
theorem dX3_readStatement_15 : decode cX3_readStatement 15 = .ok (.istore 5, 2) := by decide +kernel
theorem dX3_readStatement_17 : decode cX3_readStatement 17 = .ok (.iload_n 3, 1) := by decide +kernel
theorem dX3_readStatement_18 : decode cX3_readStatement 18 = .ok (.ifCond .ge 5, 3) := by decide +kernel
theorem dX3_readStatement_21 : decode cX3_readStatement 21 = .ok (.iconst 0, 1) := by decide +kernel
theorem dX3_readStatement_22 : decode cX3_readStatement 22 = .ok (.ireturn, 1) := by decide +kernel
theorem dX3_readStatement_23 : decode cX3_readStatement 23 = .ok (.iload_n 3, 1) := by decide +kernel
theorem dX3_readStatement_24 : decode cX3_readStatement 24 = .ok (.bipush 120, 2) := by decide +kernel
theorem dX3_readStatement_26 : decode cX3_readStatement 26 = .ok (.if_icmp .eq 48, 3) := by decide +kernel
theorem dX3_readStatement_29 : decode cX3_readStatement 29 = .ok (.iload_n 3, 1) := by decide +kernel
theorem dX3_readStatement_30 : decode cX3_readStatement 30 = .ok (.bipush 115, 2) := by decide +kernel
theorem dX3_readStatement_32 : decode cX3_readStatement 32 = .ok (.if_icmp .ne 11, 3) := by decide +kernel
theorem dX3_readStatement_35 : decode cX3_readStatement 35 = .ok (.aload_n 0, 1) := by decide +kernel
theorem dX3_readStatement_36 : decode cX3_readStatement 36 = .ok (.aload_n 1, 1) := by decide +kernel
theorem dX3_readStatement_37 : decode cX3_readStatement 37 = .ok (.invokevirtual 43, 3) := by decide +kernel
theorem dX3_readStatement_40 : decode cX3_readStatement 40 = .ok (.goto 8, 3) := by decide +kernel
theorem dX3_readStatement_43 : decode cX3_readStatement 43 = .ok (.aload_n 0, 1) := by decide +kernel
theorem dX3_readStatement_44 : decode cX3_readStatement 44 = .ok (.aload_n 1, 1) := by decide +kernel
theorem dX3_readStatement_45 : decode cX3_readStatement 45 = .ok (.invokevirtual 46, 3) := by decide +kernel
theorem dX3_readStatement_48 : decode cX3_readStatement 48 = .ok (.istore 4, 2) := by decide +kernel
theorem dX3_readStatement_50 : decode cX3_readStatement 50 = .ok (.iload 4, 2) := by decide +kernel
theorem dX3_readStatement_52 : decode cX3_readStatement 52 = .ok (.ifCond .lt 13, 3) := by decide +kernel
theorem dX3_readStatement_55 : decode cX3_readStatement 55 = .ok (.aload_n 0, 1) := by decide +kernel
theorem dX3_readStatement_56 : decode cX3_readStatement 56 = .ok (.aload_n 1, 1) := by decide +kernel
theorem dX3_readStatement_57 : decode cX3_readStatement 57 = .ok (.bipush 32, 2) := by decide +kernel
theorem dX3_readStatement_59 : decode cX3_readStatement 59 = .ok (.invokevirtual 49, 3) := by decide +kernel
theorem dX3_readStatement_62 : decode cX3_readStatement 62 = .ok (.ifCond .ne 5, 3) := by decide +kernel
theorem dX3_readStatement_65 : decode cX3_readStatement 65 = .ok (.iconst 0, 1) := by decide +kernel
theorem dX3_readStatement_66 : decode cX3_readStatement 66 = .ok (.ireturn, 1) := by decide +kernel
theorem dX3_readStatement_67 : decode cX3_readStatement 67 = .ok (.aload_n 0, 1) := by decide +kernel
theorem dX3_readStatement_68 : decode cX3_readStatement 68 = .ok (.aload_n 1, 1) := by decide +kernel
theorem dX3_readStatement_69 : decode cX3_readStatement 69 = .ok (.invokevirtual 43, 3) := by decide +kernel
theorem dX3_readStatement_72 : decode cX3_readStatement 72 = .ok (.istore 5, 2) := by decide +kernel
theorem dX3_readStatement_74 : decode cX3_readStatement 74 = .ok (.iload 5, 2) := by decide +kernel
theorem dX3_readStatement_76 : decode cX3_readStatement 76 = .ok (.ifCond .lt 13, 3) := by decide +kernel
theorem dX3_readStatement_79 : decode cX3_readStatement 79 = .ok (.aload_n 0, 1) := by decide +kernel
theorem dX3_readStatement_80 : decode cX3_readStatement 80 = .ok (.aload_n 1, 1) := by decide +kernel
theorem dX3_readStatement_81 : decode cX3_readStatement 81 = .ok (.bipush 59, 2) := by decide +kernel
theorem dX3_readStatement_83 : decode cX3_readStatement 83 = .ok (.invokevirtual 49, 3) := by decide +kernel
theorem dX3_readStatement_86 : decode cX3_readStatement 86 = .ok (.ifCond .ne 5, 3) := by decide +kernel
theorem dX3_readStatement_89 : decode cX3_readStatement 89 = .ok (.iconst 0, 1) := by decide +kernel
theorem dX3_readStatement_90 : decode cX3_readStatement 90 = .ok (.ireturn, 1) := by decide +kernel
theorem dX3_readStatement_91 : decode cX3_readStatement 91 = .ok (.aload_n 0, 1) := by decide +kernel
theorem dX3_readStatement_92 : decode cX3_readStatement 92 = .ok (.getfield 26, 3) := by decide +kernel
theorem dX3_readStatement_95 : decode cX3_readStatement 95 = .ok (.ifCond .ge 20, 3) := by decide +kernel
theorem dX3_readStatement_98 : decode cX3_readStatement 98 = .ok (.aload_n 0, 1) := by decide +kernel
theorem dX3_readStatement_99 : decode cX3_readStatement 99 = .ok (.iload_n 3, 1) := by decide +kernel
theorem dX3_readStatement_100 : decode cX3_readStatement 100 = .ok (.iload 4, 2) := by decide +kernel
theorem dX3_readStatement_102 : decode cX3_readStatement 102 = .ok (.iload 5, 2) := by decide +kernel
theorem dX3_readStatement_104 : decode cX3_readStatement 104 = .ok (.invokevirtual 53, 3) := by decide +kernel
theorem dX3_readStatement_107 : decode cX3_readStatement 107 = .ok (.ifCond .ne 8, 3) := by decide +kernel
theorem dX3_readStatement_110 : decode cX3_readStatement 110 = .ok (.aload_n 0, 1) := by decide +kernel
theorem dX3_readStatement_111 : decode cX3_readStatement 111 = .ok (.iload_n 2, 1) := by decide +kernel
theorem dX3_readStatement_112 : decode cX3_readStatement 112 = .ok (.putfield 26, 3) := by decide +kernel
theorem dX3_readStatement_115 : decode cX3_readStatement 115 = .ok (.iconst 1, 1) := by decide +kernel
theorem dX3_readStatement_116 : decode cX3_readStatement 116 = .ok (.ireturn, 1) := by decide +kernel
set_option maxRecDepth 20000 in
theorem ggX3_isDone_X4_add : GoodIn wsX3_isDone wsX4_add := goodIn_r _ [6, 7, 8, 9, 10, 11, 5, 12, 13, 14, 15, 35, 36, 37] (by decide +kernel) (by decide +kernel)
set_option maxRecDepth 20000 in
theorem gX3_isDone_X4_add : GoodIn wsX3_isDone (wsV RX3 57 RX4 yX4_add wsX4_add) := goodIn_app (goodIn_of _ (by decide +kernel)) ggX3_isDone_X4_add
set_option maxRecDepth 20000 in
theorem ggX3_isDone_X4_weighAnew : GoodIn wsX3_isDone wsX4_weighAnew := goodIn_r _ [19, 8, 20, 21, 22, 5, 23, 7, 10, 11, 12, 35, 36, 37] (by decide +kernel) (by decide +kernel)
set_option maxRecDepth 20000 in
theorem gX3_isDone_X4_weighAnew : GoodIn wsX3_isDone (wsV RX3 61 RX4 yX4_weighAnew wsX4_weighAnew) := goodIn_app (goodIn_of _ (by decide +kernel)) ggX3_isDone_X4_weighAnew
set_option maxRecDepth 20000 in
theorem ggX3_isDone_X4_priceAnew : GoodIn wsX3_isDone wsX4_priceAnew := goodIn_r _ [27, 9, 20, 21, 22, 5, 23, 7, 13, 14, 15, 35, 36, 37] (by decide +kernel) (by decide +kernel)
set_option maxRecDepth 20000 in
theorem gX3_isDone_X4_priceAnew : GoodIn wsX3_isDone (wsV RX3 64 RX4 yX4_priceAnew wsX4_priceAnew) := goodIn_app (goodIn_of _ (by decide +kernel)) ggX3_isDone_X4_priceAnew
set_option maxRecDepth 20000 in
theorem ggX3_isDone_X4_dropLatest : GoodIn wsX3_isDone wsX4_dropLatest := goodIn_r _ [31, 7, 35, 36, 37] (by decide +kernel) (by decide +kernel)
set_option maxRecDepth 20000 in
theorem gX3_isDone_X4_dropLatest : GoodIn wsX3_isDone (wsV RX3 67 RX4 yX4_dropLatest wsX4_dropLatest) := goodIn_app (goodIn_of _ (by decide +kernel)) ggX3_isDone_X4_dropLatest
theorem dX3_isDone_0 : decode cX3_isDone 0 = .ok (.iload_n 1, 1) := by decide +kernel
theorem dX3_isDone_1 : decode cX3_isDone 1 = .ok (.lookupswitch 65 #[(112, 55), (115, 35), (119, 45)], 35) := by decide +kernel
theorem dX3_isDone_36 : decode cX3_isDone 36 = .ok (.aload_n 0, 1) := by decide +kernel
theorem dX3_isDone_37 : decode cX3_isDone 37 = .ok (.getfield 12, 3) := by decide +kernel
theorem dX3_isDone_40 : decode cX3_isDone 40 = .ok (.iload_n 2, 1) := by decide +kernel
theorem dX3_isDone_41 : decode cX3_isDone 41 = .ok (.iload_n 3, 1) := by decide +kernel
theorem dX3_isDone_42 : decode cX3_isDone 42 = .ok (.invokevirtual 57, 3) := by decide +kernel
theorem dX3_isDone_45 : decode cX3_isDone 45 = .ok (.ireturn, 1) := by decide +kernel
theorem dX3_isDone_46 : decode cX3_isDone 46 = .ok (.aload_n 0, 1) := by decide +kernel
theorem dX3_isDone_47 : decode cX3_isDone 47 = .ok (.getfield 12, 3) := by decide +kernel
theorem dX3_isDone_50 : decode cX3_isDone 50 = .ok (.iload_n 2, 1) := by decide +kernel
theorem dX3_isDone_51 : decode cX3_isDone 51 = .ok (.iload_n 3, 1) := by decide +kernel
theorem dX3_isDone_52 : decode cX3_isDone 52 = .ok (.invokevirtual 61, 3) := by decide +kernel
theorem dX3_isDone_55 : decode cX3_isDone 55 = .ok (.ireturn, 1) := by decide +kernel
theorem dX3_isDone_56 : decode cX3_isDone 56 = .ok (.aload_n 0, 1) := by decide +kernel
theorem dX3_isDone_57 : decode cX3_isDone 57 = .ok (.getfield 12, 3) := by decide +kernel
theorem dX3_isDone_60 : decode cX3_isDone 60 = .ok (.iload_n 2, 1) := by decide +kernel
theorem dX3_isDone_61 : decode cX3_isDone 61 = .ok (.iload_n 3, 1) := by decide +kernel
theorem dX3_isDone_62 : decode cX3_isDone 62 = .ok (.invokevirtual 64, 3) := by decide +kernel
theorem dX3_isDone_65 : decode cX3_isDone 65 = .ok (.ireturn, 1) := by decide +kernel
theorem dX3_isDone_66 : decode cX3_isDone 66 = .ok (.aload_n 0, 1) := by decide +kernel
theorem dX3_isDone_67 : decode cX3_isDone 67 = .ok (.getfield 12, 3) := by decide +kernel
theorem dX3_isDone_70 : decode cX3_isDone 70 = .ok (.invokevirtual 67, 3) := by decide +kernel
theorem dX3_isDone_73 : decode cX3_isDone 73 = .ok (.ireturn, 1) := by decide +kernel
set_option maxRecDepth 20000 in
theorem ggX3_readLetter_X1_isPlace : GoodIn wsX3_readLetter wsX1_isPlace := goodIn_r _ [7, 8, 12, 13] (by decide +kernel) (by decide +kernel)
set_option maxRecDepth 20000 in
theorem gX3_readLetter_X1_isPlace : GoodIn wsX3_readLetter (wsV RX3 71 RX1 yX1_isPlace wsX1_isPlace) := goodIn_app (goodIn_of _ (by decide +kernel)) ggX3_readLetter_X1_isPlace
theorem dX3_readLetter_0 : decode cX3_readLetter 0 = .ok (.aload_n 1, 1) := by decide +kernel
theorem dX3_readLetter_1 : decode cX3_readLetter 1 = .ok (.aload_n 0, 1) := by decide +kernel
theorem dX3_readLetter_2 : decode cX3_readLetter 2 = .ok (.getfield 22, 3) := by decide +kernel
theorem dX3_readLetter_5 : decode cX3_readLetter 5 = .ok (.invokevirtual 71, 3) := by decide +kernel
theorem dX3_readLetter_8 : decode cX3_readLetter 8 = .ok (.ifCond .ne 5, 3) := by decide +kernel
theorem dX3_readLetter_11 : decode cX3_readLetter 11 = .ok (.iconst (-1), 1) := by decide +kernel
theorem dX3_readLetter_12 : decode cX3_readLetter 12 = .ok (.ireturn, 1) := by decide +kernel
theorem dX3_readLetter_13 : decode cX3_readLetter 13 = .ok (.aload_n 1, 1) := by decide +kernel
theorem dX3_readLetter_14 : decode cX3_readLetter 14 = .ok (.getfield 33, 3) := by decide +kernel
theorem dX3_readLetter_17 : decode cX3_readLetter 17 = .ok (.aload_n 0, 1) := by decide +kernel
theorem dX3_readLetter_18 : decode cX3_readLetter 18 = .ok (.getfield 22, 3) := by decide +kernel
theorem dX3_readLetter_21 : decode cX3_readLetter 21 = .ok (.iaload, 1) := by decide +kernel
theorem dX3_readLetter_22 : decode cX3_readLetter 22 = .ok (.istore_n 2, 1) := by decide +kernel
theorem dX3_readLetter_23 : decode cX3_readLetter 23 = .ok (.iload_n 2, 1) := by decide +kernel
theorem dX3_readLetter_24 : decode cX3_readLetter 24 = .ok (.bipush 115, 2) := by decide +kernel
theorem dX3_readLetter_26 : decode cX3_readLetter 26 = .ok (.if_icmp .eq 23, 3) := by decide +kernel
theorem dX3_readLetter_29 : decode cX3_readLetter 29 = .ok (.iload_n 2, 1) := by decide +kernel
theorem dX3_readLetter_30 : decode cX3_readLetter 30 = .ok (.bipush 119, 2) := by decide +kernel
theorem dX3_readLetter_32 : decode cX3_readLetter 32 = .ok (.if_icmp .eq 17, 3) := by decide +kernel
theorem dX3_readLetter_35 : decode cX3_readLetter 35 = .ok (.iload_n 2, 1) := by decide +kernel
theorem dX3_readLetter_36 : decode cX3_readLetter 36 = .ok (.bipush 112, 2) := by decide +kernel
theorem dX3_readLetter_38 : decode cX3_readLetter 38 = .ok (.if_icmp .eq 11, 3) := by decide +kernel
theorem dX3_readLetter_41 : decode cX3_readLetter 41 = .ok (.iload_n 2, 1) := by decide +kernel
theorem dX3_readLetter_42 : decode cX3_readLetter 42 = .ok (.bipush 120, 2) := by decide +kernel
theorem dX3_readLetter_44 : decode cX3_readLetter 44 = .ok (.if_icmp .eq 5, 3) := by decide +kernel
theorem dX3_readLetter_47 : decode cX3_readLetter 47 = .ok (.iconst (-1), 1) := by decide +kernel
theorem dX3_readLetter_48 : decode cX3_readLetter 48 = .ok (.ireturn, 1) := by decide +kernel
theorem dX3_readLetter_49 : decode cX3_readLetter 49 = .ok (.aload_n 0, 1) := by decide +kernel
theorem dX3_readLetter_50 : decode cX3_readLetter 50 = .ok (.dup, 1) := by decide +kernel
theorem dX3_readLetter_51 : decode cX3_readLetter 51 = .ok (.getfield 22, 3) := by decide +kernel
theorem dX3_readLetter_54 : decode cX3_readLetter 54 = .ok (.iconst 1, 1) := by decide +kernel
theorem dX3_readLetter_55 : decode cX3_readLetter 55 = .ok (.iadd, 1) := by decide +kernel
theorem dX3_readLetter_56 : decode cX3_readLetter 56 = .ok (.putfield 22, 3) := by decide +kernel
theorem dX3_readLetter_59 : decode cX3_readLetter 59 = .ok (.iload_n 2, 1) := by decide +kernel
theorem dX3_readLetter_60 : decode cX3_readLetter 60 = .ok (.ireturn, 1) := by decide +kernel
set_option maxRecDepth 20000 in
theorem ggX3_readSign_X1_isPlace : GoodIn wsX3_readSign wsX1_isPlace := goodIn_r _ [7, 8, 12, 13] (by decide +kernel) (by decide +kernel)
set_option maxRecDepth 20000 in
theorem gX3_readSign_X1_isPlace : GoodIn wsX3_readSign (wsV RX3 71 RX1 yX1_isPlace wsX1_isPlace) := goodIn_app (goodIn_of _ (by decide +kernel)) ggX3_readSign_X1_isPlace
theorem dX3_readSign_0 : decode cX3_readSign 0 = .ok (.aload_n 1, 1) := by decide +kernel
theorem dX3_readSign_1 : decode cX3_readSign 1 = .ok (.aload_n 0, 1) := by decide +kernel
theorem dX3_readSign_2 : decode cX3_readSign 2 = .ok (.getfield 22, 3) := by decide +kernel
theorem dX3_readSign_5 : decode cX3_readSign 5 = .ok (.invokevirtual 71, 3) := by decide +kernel
theorem dX3_readSign_8 : decode cX3_readSign 8 = .ok (.ifCond .eq 16, 3) := by decide +kernel
theorem dX3_readSign_11 : decode cX3_readSign 11 = .ok (.aload_n 1, 1) := by decide +kernel
theorem dX3_readSign_12 : decode cX3_readSign 12 = .ok (.getfield 33, 3) := by decide +kernel
theorem dX3_readSign_15 : decode cX3_readSign 15 = .ok (.aload_n 0, 1) := by decide +kernel
theorem dX3_readSign_16 : decode cX3_readSign 16 = .ok (.getfield 22, 3) := by decide +kernel
theorem dX3_readSign_19 : decode cX3_readSign 19 = .ok (.iaload, 1) := by decide +kernel
theorem dX3_readSign_20 : decode cX3_readSign 20 = .ok (.iload_n 2, 1) := by decide +kernel
theorem dX3_readSign_21 : decode cX3_readSign 21 = .ok (.if_icmp .eq 5, 3) := by decide +kernel
theorem dX3_readSign_24 : decode cX3_readSign 24 = .ok (.iconst 0, 1) := by decide +kernel
theorem dX3_readSign_25 : decode cX3_readSign 25 = .ok (.ireturn, 1) := by decide +kernel
theorem dX3_readSign_26 : decode cX3_readSign 26 = .ok (.aload_n 0, 1) := by decide +kernel
theorem dX3_readSign_27 : decode cX3_readSign 27 = .ok (.dup, 1) := by decide +kernel
theorem dX3_readSign_28 : decode cX3_readSign 28 = .ok (.getfield 22, 3) := by decide +kernel
theorem dX3_readSign_31 : decode cX3_readSign 31 = .ok (.iconst 1, 1) := by decide +kernel
theorem dX3_readSign_32 : decode cX3_readSign 32 = .ok (.iadd, 1) := by decide +kernel
theorem dX3_readSign_33 : decode cX3_readSign 33 = .ok (.putfield 22, 3) := by decide +kernel
theorem dX3_readSign_36 : decode cX3_readSign 36 = .ok (.iconst 1, 1) := by decide +kernel
theorem dX3_readSign_37 : decode cX3_readSign 37 = .ok (.ireturn, 1) := by decide +kernel
set_option maxRecDepth 20000 in
theorem ggX3_readNumber_X3_readDigit : GoodIn wsX3_readNumber wsX3_readDigit := goodIn_r _ [5, 6, 7, 8, 9, 10, 11, 12, 13, 14, 15, 16, 17, 18] (by decide +kernel) (by decide +kernel)
set_option maxRecDepth 20000 in
theorem gX3_readNumber_X3_readDigit : GoodIn wsX3_readNumber (wsV RX3 46 RX3 yX3_readDigit wsX3_readDigit) := goodIn_app (goodIn_of _ (by decide +kernel)) ggX3_readNumber_X3_readDigit
theorem dX3_readNumber_0 : decode cX3_readNumber 0 = .ok (.aload_n 0, 1) := by decide +kernel
theorem dX3_readNumber_1 : decode cX3_readNumber 1 = .ok (.aload_n 1, 1) := by decide +kernel
theorem dX3_readNumber_2 : decode cX3_readNumber 2 = .ok (.invokevirtual 46, 3) := by decide +kernel
theorem dX3_readNumber_5 : decode cX3_readNumber 5 = .ok (.istore_n 2, 1) := by decide +kernel
theorem dX3_readNumber_6 : decode cX3_readNumber 6 = .ok (.iload_n 2, 1) := by decide +kernel
theorem dX3_readNumber_7 : decode cX3_readNumber 7 = .ok (.ifCond .gt 5, 3) := by decide +kernel
theorem dX3_readNumber_10 : decode cX3_readNumber 10 = .ok (.iload_n 2, 1) := by decide +kernel
theorem dX3_readNumber_11 : decode cX3_readNumber 11 = .ok (.ireturn, 1) := by decide +kernel
theorem dX3_readNumber_12 : decode cX3_readNumber 12 = .ok (.aload_n 0, 1) := by decide +kernel
theorem dX3_readNumber_13 : decode cX3_readNumber 13 = .ok (.aload_n 1, 1) := by decide +kernel
theorem dX3_readNumber_14 : decode cX3_readNumber 14 = .ok (.invokevirtual 46, 3) := by decide +kernel
theorem dX3_readNumber_17 : decode cX3_readNumber 17 = .ok (.istore_n 3, 1) := by decide +kernel
theorem dX3_readNumber_18 : decode cX3_readNumber 18 = .ok (.iload_n 3, 1) := by decide +kernel
theorem dX3_readNumber_19 : decode cX3_readNumber 19 = .ok (.ifCond .ge 7, 3) := by decide +kernel
theorem dX3_readNumber_22 : decode cX3_readNumber 22 = .ok (.iload_n 2, 1) := by decide +kernel
theorem dX3_readNumber_23 : decode cX3_readNumber 23 = .ok (.goto 9, 3) := by decide +kernel
theorem dX3_readNumber_26 : decode cX3_readNumber 26 = .ok (.bipush 10, 2) := by decide +kernel
theorem dX3_readNumber_28 : decode cX3_readNumber 28 = .ok (.iload_n 2, 1) := by decide +kernel
theorem dX3_readNumber_29 : decode cX3_readNumber 29 = .ok (.imul, 1) := by decide +kernel
theorem dX3_readNumber_30 : decode cX3_readNumber 30 = .ok (.iload_n 3, 1) := by decide +kernel
theorem dX3_readNumber_31 : decode cX3_readNumber 31 = .ok (.iadd, 1) := by decide +kernel
theorem dX3_readNumber_32 : decode cX3_readNumber 32 = .ok (.ireturn, 1) := by decide +kernel
set_option maxRecDepth 20000 in
theorem ggX3_readDigit_X1_isPlace : GoodIn wsX3_readDigit wsX1_isPlace := goodIn_r _ [7, 8, 12, 13] (by decide +kernel) (by decide +kernel)
set_option maxRecDepth 20000 in
theorem gX3_readDigit_X1_isPlace : GoodIn wsX3_readDigit (wsV RX3 71 RX1 yX1_isPlace wsX1_isPlace) := goodIn_app (goodIn_of _ (by decide +kernel)) ggX3_readDigit_X1_isPlace
theorem dX3_readDigit_0 : decode cX3_readDigit 0 = .ok (.aload_n 1, 1) := by decide +kernel
theorem dX3_readDigit_1 : decode cX3_readDigit 1 = .ok (.aload_n 0, 1) := by decide +kernel
theorem dX3_readDigit_2 : decode cX3_readDigit 2 = .ok (.getfield 22, 3) := by decide +kernel
theorem dX3_readDigit_5 : decode cX3_readDigit 5 = .ok (.invokevirtual 71, 3) := by decide +kernel
theorem dX3_readDigit_8 : decode cX3_readDigit 8 = .ok (.ifCond .eq 31, 3) := by decide +kernel
theorem dX3_readDigit_11 : decode cX3_readDigit 11 = .ok (.aload_n 1, 1) := by decide +kernel
theorem dX3_readDigit_12 : decode cX3_readDigit 12 = .ok (.getfield 33, 3) := by decide +kernel
theorem dX3_readDigit_15 : decode cX3_readDigit 15 = .ok (.aload_n 0, 1) := by decide +kernel
theorem dX3_readDigit_16 : decode cX3_readDigit 16 = .ok (.getfield 22, 3) := by decide +kernel
theorem dX3_readDigit_19 : decode cX3_readDigit 19 = .ok (.iaload, 1) := by decide +kernel
theorem dX3_readDigit_20 : decode cX3_readDigit 20 = .ok (.bipush 48, 2) := by decide +kernel
theorem dX3_readDigit_22 : decode cX3_readDigit 22 = .ok (.if_icmp .lt 17, 3) := by decide +kernel
theorem dX3_readDigit_25 : decode cX3_readDigit 25 = .ok (.aload_n 1, 1) := by decide +kernel
theorem dX3_readDigit_26 : decode cX3_readDigit 26 = .ok (.getfield 33, 3) := by decide +kernel
theorem dX3_readDigit_29 : decode cX3_readDigit 29 = .ok (.aload_n 0, 1) := by decide +kernel
theorem dX3_readDigit_30 : decode cX3_readDigit 30 = .ok (.getfield 22, 3) := by decide +kernel
theorem dX3_readDigit_33 : decode cX3_readDigit 33 = .ok (.iaload, 1) := by decide +kernel
theorem dX3_readDigit_34 : decode cX3_readDigit 34 = .ok (.bipush 57, 2) := by decide +kernel
theorem dX3_readDigit_36 : decode cX3_readDigit 36 = .ok (.if_icmp .le 5, 3) := by decide +kernel
theorem dX3_readDigit_39 : decode cX3_readDigit 39 = .ok (.iconst (-1), 1) := by decide +kernel
theorem dX3_readDigit_40 : decode cX3_readDigit 40 = .ok (.ireturn, 1) := by decide +kernel
theorem dX3_readDigit_41 : decode cX3_readDigit 41 = .ok (.aload_n 1, 1) := by decide +kernel
theorem dX3_readDigit_42 : decode cX3_readDigit 42 = .ok (.getfield 33, 3) := by decide +kernel
theorem dX3_readDigit_45 : decode cX3_readDigit 45 = .ok (.aload_n 0, 1) := by decide +kernel
theorem dX3_readDigit_46 : decode cX3_readDigit 46 = .ok (.getfield 22, 3) := by decide +kernel
theorem dX3_readDigit_49 : decode cX3_readDigit 49 = .ok (.iaload, 1) := by decide +kernel
theorem dX3_readDigit_50 : decode cX3_readDigit 50 = .ok (.bipush 48, 2) := by decide +kernel
theorem dX3_readDigit_52 : decode cX3_readDigit 52 = .ok (.isub, 1) := by decide +kernel
theorem dX3_readDigit_53 : decode cX3_readDigit 53 = .ok (.istore_n 2, 1) := by decide +kernel
theorem dX3_readDigit_54 : decode cX3_readDigit 54 = .ok (.aload_n 0, 1) := by decide +kernel
theorem dX3_readDigit_55 : decode cX3_readDigit 55 = .ok (.dup, 1) := by decide +kernel
theorem dX3_readDigit_56 : decode cX3_readDigit 56 = .ok (.getfield 22, 3) := by decide +kernel
theorem dX3_readDigit_59 : decode cX3_readDigit 59 = .ok (.iconst 1, 1) := by decide +kernel
theorem dX3_readDigit_60 : decode cX3_readDigit 60 = .ok (.iadd, 1) := by decide +kernel
theorem dX3_readDigit_61 : decode cX3_readDigit 61 = .ok (.putfield 22, 3) := by decide +kernel
theorem dX3_readDigit_64 : decode cX3_readDigit 64 = .ok (.iload_n 2, 1) := by decide +kernel
theorem dX3_readDigit_65 : decode cX3_readDigit 65 = .ok (.ireturn, 1) := by decide +kernel
theorem dX4_init_0 : decode cX4_init 0 = .ok (.aload_n 0, 1) := by decide +kernel
theorem dX4_init_1 : decode cX4_init 1 = .ok (.invokespecial 3, 3) := by decide +kernel
theorem dX4_init_4 : decode cX4_init 4 = .ok (.aload_n 0, 1) := by decide +kernel
theorem dX4_init_5 : decode cX4_init 5 = .ok (.bipush 6, 2) := by decide +kernel
theorem dX4_init_7 : decode cX4_init 7 = .ok (.newarray .int, 2) := by decide +kernel
theorem dX4_init_9 : decode cX4_init 9 = .ok (.putfield 9, 3) := by decide +kernel
theorem dX4_init_12 : decode cX4_init 12 = .ok (.aload_n 0, 1) := by decide +kernel
theorem dX4_init_13 : decode cX4_init 13 = .ok (.bipush 6, 2) := by decide +kernel
theorem dX4_init_15 : decode cX4_init 15 = .ok (.newarray .int, 2) := by decide +kernel
theorem dX4_init_17 : decode cX4_init 17 = .ok (.putfield 15, 3) := by decide +kernel
theorem dX4_init_20 : decode cX4_init 20 = .ok (.return_, 1) := by decide +kernel
theorem dX4_isStone_0 : decode cX4_isStone 0 = .ok (.iload_n 1, 1) := by decide +kernel
theorem dX4_isStone_1 : decode cX4_isStone 1 = .ok (.ifCond .lt 15, 3) := by decide +kernel
theorem dX4_isStone_4 : decode cX4_isStone 4 = .ok (.iload_n 1, 1) := by decide +kernel
theorem dX4_isStone_5 : decode cX4_isStone 5 = .ok (.aload_n 0, 1) := by decide +kernel
theorem dX4_isStone_6 : decode cX4_isStone 6 = .ok (.getfield 18, 3) := by decide +kernel
theorem dX4_isStone_9 : decode cX4_isStone 9 = .ok (.if_icmp .ge 7, 3) := by decide +kernel
theorem dX4_isStone_12 : decode cX4_isStone 12 = .ok (.iconst 1, 1) := by decide +kernel
theorem dX4_isStone_13 : decode cX4_isStone 13 = .ok (.goto 4, 3) := by decide +kernel
theorem dX4_isStone_16 : decode cX4_isStone 16 = .ok (.iconst 0, 1) := by decide +kernel
theorem dX4_isStone_17 : decode cX4_isStone 17 = .ok (.ireturn, 1) := by decide +kernel
set_option maxRecDepth 20000 in
theorem ggX4_areStones_X4_all : GoodIn wsX4_areStones wsX4_all := goodIn_r _ [5, 6, 7, 8, 9] (by decide +kernel) (by decide +kernel)
set_option maxRecDepth 20000 in
theorem gX4_areStones_X4_all : GoodIn wsX4_areStones (wsV RX4 22 RX4 yX4_all wsX4_all) := goodIn_app (goodIn_of _ (by decide +kernel)) ggX4_areStones_X4_all
theorem dX4_areStones_0 : decode cX4_areStones 0 = .ok (.iload_n 1, 1) := by decide +kernel
theorem dX4_areStones_1 : decode cX4_areStones 1 = .ok (.ifCond .lt 15, 3) := by decide +kernel
theorem dX4_areStones_4 : decode cX4_areStones 4 = .ok (.iload_n 1, 1) := by decide +kernel
theorem dX4_areStones_5 : decode cX4_areStones 5 = .ok (.aload_n 0, 1) := by decide +kernel
theorem dX4_areStones_6 : decode cX4_areStones 6 = .ok (.invokevirtual 22, 3) := by decide +kernel
theorem dX4_areStones_9 : decode cX4_areStones 9 = .ok (.if_icmp .gt 7, 3) := by decide +kernel
theorem dX4_areStones_12 : decode cX4_areStones 12 = .ok (.iconst 1, 1) := by decide +kernel
theorem dX4_areStones_13 : decode cX4_areStones 13 = .ok (.goto 4, 3) := by decide +kernel
theorem dX4_areStones_16 : decode cX4_areStones 16 = .ok (.iconst 0, 1) := by decide +kernel
theorem dX4_areStones_17 : decode cX4_areStones 17 = .ok (.ireturn, 1) := by decide +kernel
theorem dX4_all_0 : decode cX4_all 0 = .ok (.iconst 1, 1) := by decide +kernel
theorem dX4_all_1 : decode cX4_all 1 = .ok (.aload_n 0, 1) := by decide +kernel
theorem dX4_all_2 : decode cX4_all 2 = .ok (.getfield 18, 3) := by decide +kernel
theorem dX4_all_5 : decode cX4_all 5 = .ok (.ishl, 1) := by decide +kernel
theorem dX4_all_6 : decode cX4_all 6 = .ok (.iconst 1, 1) := by decide +kernel
theorem dX4_all_7 : decode cX4_all 7 = .ok (.isub, 1) := by decide +kernel
theorem dX4_all_8 : decode cX4_all 8 = .ok (.ireturn, 1) := by decide +kernel
set_option maxRecDepth 20000 in
theorem ggX4_weightsOf_X4_sumOf : GoodIn wsX4_weightsOf wsX4_sumOf := goodIn_r _ [6, 7, 8, 9, 10] (by decide +kernel) (by decide +kernel)
set_option maxRecDepth 20000 in
theorem gX4_weightsOf_X4_sumOf : GoodIn wsX4_weightsOf (wsV RX4 26 RX4 yX4_sumOf wsX4_sumOf) := goodIn_app (goodIn_of _ (by decide +kernel)) ggX4_weightsOf_X4_sumOf
theorem dX4_weightsOf_0 : decode cX4_weightsOf 0 = .ok (.aload_n 0, 1) := by decide +kernel
theorem dX4_weightsOf_1 : decode cX4_weightsOf 1 = .ok (.aload_n 0, 1) := by decide +kernel
theorem dX4_weightsOf_2 : decode cX4_weightsOf 2 = .ok (.getfield 9, 3) := by decide +kernel
theorem dX4_weightsOf_5 : decode cX4_weightsOf 5 = .ok (.iload_n 1, 1) := by decide +kernel
theorem dX4_weightsOf_6 : decode cX4_weightsOf 6 = .ok (.invokevirtual 26, 3) := by decide +kernel
theorem dX4_weightsOf_9 : decode cX4_weightsOf 9 = .ok (.ireturn, 1) := by decide +kernel
set_option maxRecDepth 20000 in
theorem ggX4_pricesOf_X4_sumOf : GoodIn wsX4_pricesOf wsX4_sumOf := goodIn_r _ [6, 7, 8, 9, 10] (by decide +kernel) (by decide +kernel)
set_option maxRecDepth 20000 in
theorem gX4_pricesOf_X4_sumOf : GoodIn wsX4_pricesOf (wsV RX4 26 RX4 yX4_sumOf wsX4_sumOf) := goodIn_app (goodIn_of _ (by decide +kernel)) ggX4_pricesOf_X4_sumOf
theorem dX4_pricesOf_0 : decode cX4_pricesOf 0 = .ok (.aload_n 0, 1) := by decide +kernel
theorem dX4_pricesOf_1 : decode cX4_pricesOf 1 = .ok (.aload_n 0, 1) := by decide +kernel
theorem dX4_pricesOf_2 : decode cX4_pricesOf 2 = .ok (.getfield 15, 3) := by decide +kernel
theorem dX4_pricesOf_5 : decode cX4_pricesOf 5 = .ok (.iload_n 1, 1) := by decide +kernel
theorem dX4_pricesOf_6 : decode cX4_pricesOf 6 = .ok (.invokevirtual 26, 3) := by decide +kernel
theorem dX4_pricesOf_9 : decode cX4_pricesOf 9 = .ok (.ireturn, 1) := by decide +kernel
theorem dX4_sumOf_0 : decode cX4_sumOf 0 = .ok (.iconst 0, 1) := by decide +kernel
theorem dX4_sumOf_1 : decode cX4_sumOf 1 = .ok (.istore_n 3, 1) := by decide +kernel
theorem dX4_sumOf_2 : decode cX4_sumOf 2 = .ok (.iconst 0, 1) := by decide +kernel
theorem dX4_sumOf_3 : decode cX4_sumOf 3 = .ok (.istore 4, 2) := by decide +kernel
theorem dX4_sumOf_5 : decode cX4_sumOf 5 = .ok (.iload 4, 2) := by decide +kernel
theorem dX4_sumOf_7 : decode cX4_sumOf 7 = .ok (.aload_n 0, 1) := by decide +kernel
theorem dX4_sumOf_8 : decode cX4_sumOf 8 = .ok (.getfield 18, 3) := by decide +kernel
theorem dX4_sumOf_11 : decode cX4_sumOf 11 = .ok (.if_icmp .ge 26, 3) := by decide +kernel
theorem dX4_sumOf_14 : decode cX4_sumOf 14 = .ok (.iload_n 2, 1) := by decide +kernel
theorem dX4_sumOf_15 : decode cX4_sumOf 15 = .ok (.iload 4, 2) := by decide +kernel
theorem dX4_sumOf_17 : decode cX4_sumOf 17 = .ok (.ishr, 1) := by decide +kernel
theorem dX4_sumOf_18 : decode cX4_sumOf 18 = .ok (.iconst 1, 1) := by decide +kernel
theorem dX4_sumOf_19 : decode cX4_sumOf 19 = .ok (.iand, 1) := by decide +kernel
theorem dX4_sumOf_20 : decode cX4_sumOf 20 = .ok (.iconst 1, 1) := by decide +kernel
theorem dX4_sumOf_21 : decode cX4_sumOf 21 = .ok (.if_icmp .ne 10, 3) := by decide +kernel
theorem dX4_sumOf_24 : decode cX4_sumOf 24 = .ok (.iload_n 3, 1) := by decide +kernel
theorem dX4_sumOf_25 : decode cX4_sumOf 25 = .ok (.aload_n 1, 1) := by decide +kernel
theorem dX4_sumOf_26 : decode cX4_sumOf 26 = .ok (.iload 4, 2) := by decide +kernel
theorem dX4_sumOf_28 : decode cX4_sumOf 28 = .ok (.iaload, 1) := by decide +kernel
theorem dX4_sumOf_29 : decode cX4_sumOf 29 = .ok (.iadd, 1) := by decide +kernel
theorem dX4_sumOf_30 : decode cX4_sumOf 30 = .ok (.istore_n 3, 1) := by decide +kernel
theorem dX4_sumOf_31 : decode cX4_sumOf 31 = .ok (.iinc 4 1, 3) := by decide +kernel
theorem dX4_sumOf_34 : decode cX4_sumOf 34 = .ok (.goto (-29), 3) := by decide +kernel
theorem dX4_sumOf_37 : decode cX4_sumOf 37 = .ok (.iload_n 3, 1) := by decide +kernel
theorem dX4_sumOf_38 : decode cX4_sumOf 38 = .ok (.ireturn, 1) := by decide +kernel
set_option maxRecDepth 20000 in
theorem ggX4_add_X4_isWeight : GoodIn wsX4_add wsX4_isWeight := goodIn_r _ [7] (by decide +kernel) (by decide +kernel)
set_option maxRecDepth 20000 in
theorem gX4_add_X4_isWeight : GoodIn wsX4_add (va_wsS RX4 30 yX4_isWeight wsX4_isWeight) := goodIn_app (goodIn_of _ (by decide +kernel)) ggX4_add_X4_isWeight
set_option maxRecDepth 20000 in
theorem ggX4_add_X4_isPrice : GoodIn wsX4_add wsX4_isPrice := goodIn_r _ [10] (by decide +kernel) (by decide +kernel)
set_option maxRecDepth 20000 in
theorem gX4_add_X4_isPrice : GoodIn wsX4_add (va_wsS RX4 34 yX4_isPrice wsX4_isPrice) := goodIn_app (goodIn_of _ (by decide +kernel)) ggX4_add_X4_isPrice
theorem dX4_add_0 : decode cX4_add 0 = .ok (.aload_n 0, 1) := by decide +kernel
theorem dX4_add_1 : decode cX4_add 1 = .ok (.getfield 18, 3) := by decide +kernel
theorem dX4_add_4 : decode cX4_add 4 = .ok (.bipush 6, 2) := by decide +kernel
theorem dX4_add_6 : decode cX4_add 6 = .ok (.if_icmp .ge 17, 3) := by decide +kernel
theorem dX4_add_9 : decode cX4_add 9 = .ok (.iload_n 1, 1) := by decide +kernel
theorem dX4_add_10 : decode cX4_add 10 = .ok (.invokestatic 30, 3) := by decide +kernel
theorem dX4_add_13 : decode cX4_add 13 = .ok (.ifCond .eq 10, 3) := by decide +kernel
theorem dX4_add_16 : decode cX4_add 16 = .ok (.iload_n 2, 1) := by decide +kernel
theorem dX4_add_17 : decode cX4_add 17 = .ok (.invokestatic 34, 3) := by decide +kernel
theorem dX4_add_20 : decode cX4_add 20 = .ok (.ifCond .ne 5, 3) := by decide +kernel
theorem dX4_add_23 : decode cX4_add 23 = .ok (.iconst 0, 1) := by decide +kernel
theorem dX4_add_24 : decode cX4_add 24 = .ok (.ireturn, 1) := by decide +kernel
theorem dX4_add_25 : decode cX4_add 25 = .ok (.aload_n 0, 1) := by decide +kernel
theorem dX4_add_26 : decode cX4_add 26 = .ok (.getfield 9, 3) := by decide +kernel
theorem dX4_add_29 : decode cX4_add 29 = .ok (.aload_n 0, 1) := by decide +kernel
theorem dX4_add_30 : decode cX4_add 30 = .ok (.getfield 18, 3) := by decide +kernel
theorem dX4_add_33 : decode cX4_add 33 = .ok (.iload_n 1, 1) := by decide +kernel
theorem dX4_add_34 : decode cX4_add 34 = .ok (.iastore, 1) := by decide +kernel
theorem dX4_add_35 : decode cX4_add 35 = .ok (.aload_n 0, 1) := by decide +kernel
theorem dX4_add_36 : decode cX4_add 36 = .ok (.getfield 15, 3) := by decide +kernel
theorem dX4_add_39 : decode cX4_add 39 = .ok (.aload_n 0, 1) := by decide +kernel
theorem dX4_add_40 : decode cX4_add 40 = .ok (.getfield 18, 3) := by decide +kernel
theorem dX4_add_43 : decode cX4_add 43 = .ok (.iload_n 2, 1) := by decide +kernel
theorem dX4_add_44 : decode cX4_add 44 = .ok (.iastore, 1) := by decide +kernel
theorem dX4_add_45 : decode cX4_add 45 = .ok (.aload_n 0, 1) := by decide +kernel
theorem dX4_add_46 : decode cX4_add 46 = .ok (.dup, 1) := by decide +kernel
theorem dX4_add_47 : decode cX4_add 47 = .ok (.getfield 18, 3) := by decide +kernel
theorem dX4_add_50 : decode cX4_add 50 = .ok (.iconst 1, 1) := by decide +kernel
theorem dX4_add_51 : decode cX4_add 51 = .ok (.iadd, 1) := by decide +kernel
theorem dX4_add_52 : decode cX4_add 52 = .ok (.putfield 18, 3) := by decide +kernel
theorem dX4_add_55 : decode cX4_add 55 = .ok (.iconst 1, 1) := by decide +kernel
theorem dX4_add_56 : decode cX4_add 56 = .ok (.ireturn, 1) := by decide +kernel
set_option maxRecDepth 20000 in
theorem ggX4_weighAnew_X4_isStone : GoodIn wsX4_weighAnew wsX4_isStone := goodIn_r _ [6, 7, 11, 12, 13] (by decide +kernel) (by decide +kernel)
set_option maxRecDepth 20000 in
theorem gX4_weighAnew_X4_isStone : GoodIn wsX4_weighAnew (wsV RX4 37 RX4 yX4_isStone wsX4_isStone) := goodIn_app (goodIn_of _ (by decide +kernel)) ggX4_weighAnew_X4_isStone
set_option maxRecDepth 20000 in
theorem ggX4_weighAnew_X4_isWeight : GoodIn wsX4_weighAnew wsX4_isWeight := goodIn_r _ [10] (by decide +kernel) (by decide +kernel)
set_option maxRecDepth 20000 in
theorem gX4_weighAnew_X4_isWeight : GoodIn wsX4_weighAnew (va_wsS RX4 30 yX4_isWeight wsX4_isWeight) := goodIn_app (goodIn_of _ (by decide +kernel)) ggX4_weighAnew_X4_isWeight
theorem dX4_weighAnew_0 : decode cX4_weighAnew 0 = .ok (.aload_n 0, 1) := by decide +kernel
theorem dX4_weighAnew_1 : decode cX4_weighAnew 1 = .ok (.iload_n 1, 1) := by decide +kernel
theorem dX4_weighAnew_2 : decode cX4_weighAnew 2 = .ok (.invokevirtual 37, 3) := by decide +kernel
theorem dX4_weighAnew_5 : decode cX4_weighAnew 5 = .ok (.ifCond .eq 10, 3) := by decide +kernel
theorem dX4_weighAnew_8 : decode cX4_weighAnew 8 = .ok (.iload_n 2, 1) := by decide +kernel
theorem dX4_weighAnew_9 : decode cX4_weighAnew 9 = .ok (.invokestatic 30, 3) := by decide +kernel
theorem dX4_weighAnew_12 : decode cX4_weighAnew 12 = .ok (.ifCond .ne 5, 3) := by decide +kernel
theorem dX4_weighAnew_15 : decode cX4_weighAnew 15 = .ok (.iconst 0, 1) := by decide +kernel
theorem dX4_weighAnew_16 : decode cX4_weighAnew 16 = .ok (.ireturn, 1) := by decide +kernel
theorem dX4_weighAnew_17 : decode cX4_weighAnew 17 = .ok (.aload_n 0, 1) := by decide +kernel
theorem dX4_weighAnew_18 : decode cX4_weighAnew 18 = .ok (.getfield 9, 3) := by decide +kernel
theorem dX4_weighAnew_21 : decode cX4_weighAnew 21 = .ok (.iload_n 1, 1) := by decide +kernel
theorem dX4_weighAnew_22 : decode cX4_weighAnew 22 = .ok (.iload_n 2, 1) := by decide +kernel
theorem dX4_weighAnew_23 : decode cX4_weighAnew 23 = .ok (.iastore, 1) := by decide +kernel
theorem dX4_weighAnew_24 : decode cX4_weighAnew 24 = .ok (.iconst 1, 1) := by decide +kernel
theorem dX4_weighAnew_25 : decode cX4_weighAnew 25 = .ok (.ireturn, 1) := by decide +kernel
set_option maxRecDepth 20000 in
theorem ggX4_priceAnew_X4_isStone : GoodIn wsX4_priceAnew wsX4_isStone := goodIn_r _ [6, 7, 11, 12, 13] (by decide +kernel) (by decide +kernel)
set_option maxRecDepth 20000 in
theorem gX4_priceAnew_X4_isStone : GoodIn wsX4_priceAnew (wsV RX4 37 RX4 yX4_isStone wsX4_isStone) := goodIn_app (goodIn_of _ (by decide +kernel)) ggX4_priceAnew_X4_isStone
set_option maxRecDepth 20000 in
theorem ggX4_priceAnew_X4_isPrice : GoodIn wsX4_priceAnew wsX4_isPrice := goodIn_r _ [10] (by decide +kernel) (by decide +kernel)
set_option maxRecDepth 20000 in
theorem gX4_priceAnew_X4_isPrice : GoodIn wsX4_priceAnew (va_wsS RX4 34 yX4_isPrice wsX4_isPrice) := goodIn_app (goodIn_of _ (by decide +kernel)) ggX4_priceAnew_X4_isPrice
theorem dX4_priceAnew_0 : decode cX4_priceAnew 0 = .ok (.aload_n 0, 1) := by decide +kernel
theorem dX4_priceAnew_1 : decode cX4_priceAnew 1 = .ok (.iload_n 1, 1) := by decide +kernel
theorem dX4_priceAnew_2 : decode cX4_priceAnew 2 = .ok (.invokevirtual 37, 3) := by decide +kernel
theorem dX4_priceAnew_5 : decode cX4_priceAnew 5 = .ok (.ifCond .eq 10, 3) := by decide +kernel
theorem dX4_priceAnew_8 : decode cX4_priceAnew 8 = .ok (.iload_n 2, 1) := by decide +kernel
theorem dX4_priceAnew_9 : decode cX4_priceAnew 9 = .ok (.invokestatic 34, 3) := by decide +kernel
theorem dX4_priceAnew_12 : decode cX4_priceAnew 12 = .ok (.ifCond .ne 5, 3) := by decide +kernel
theorem dX4_priceAnew_15 : decode cX4_priceAnew 15 = .ok (.iconst 0, 1) := by decide +kernel
theorem dX4_priceAnew_16 : decode cX4_priceAnew 16 = .ok (.ireturn, 1) := by decide +kernel
theorem dX4_priceAnew_17 : decode cX4_priceAnew 17 = .ok (.aload_n 0, 1) := by decide +kernel
theorem dX4_priceAnew_18 : decode cX4_priceAnew 18 = .ok (.getfield 15, 3) := by decide +kernel
theorem dX4_priceAnew_21 : decode cX4_priceAnew 21 = .ok (.iload_n 1, 1) := by decide +kernel
theorem dX4_priceAnew_22 : decode cX4_priceAnew 22 = .ok (.iload_n 2, 1) := by decide +kernel
theorem dX4_priceAnew_23 : decode cX4_priceAnew 23 = .ok (.iastore, 1) := by decide +kernel
theorem dX4_priceAnew_24 : decode cX4_priceAnew 24 = .ok (.iconst 1, 1) := by decide +kernel
theorem dX4_priceAnew_25 : decode cX4_priceAnew 25 = .ok (.ireturn, 1) := by decide +kernel
theorem dX4_dropLatest_0 : decode cX4_dropLatest 0 = .ok (.aload_n 0, 1) := by decide +kernel
theorem dX4_dropLatest_1 : decode cX4_dropLatest 1 = .ok (.getfield 18, 3) := by decide +kernel
theorem dX4_dropLatest_4 : decode cX4_dropLatest 4 = .ok (.ifCond .ne 5, 3) := by decide +kernel
theorem dX4_dropLatest_7 : decode cX4_dropLatest 7 = .ok (.iconst 0, 1) := by decide +kernel
theorem dX4_dropLatest_8 : decode cX4_dropLatest 8 = .ok (.ireturn, 1) := by decide +kernel
theorem dX4_dropLatest_9 : decode cX4_dropLatest 9 = .ok (.aload_n 0, 1) := by decide +kernel
theorem dX4_dropLatest_10 : decode cX4_dropLatest 10 = .ok (.dup, 1) := by decide +kernel
theorem dX4_dropLatest_11 : decode cX4_dropLatest 11 = .ok (.getfield 18, 3) := by decide +kernel
theorem dX4_dropLatest_14 : decode cX4_dropLatest 14 = .ok (.iconst 1, 1) := by decide +kernel
theorem dX4_dropLatest_15 : decode cX4_dropLatest 15 = .ok (.isub, 1) := by decide +kernel
theorem dX4_dropLatest_16 : decode cX4_dropLatest 16 = .ok (.putfield 18, 3) := by decide +kernel
theorem dX4_dropLatest_19 : decode cX4_dropLatest 19 = .ok (.iconst 1, 1) := by decide +kernel
theorem dX4_dropLatest_20 : decode cX4_dropLatest 20 = .ok (.ireturn, 1) := by decide +kernel
theorem dX4_takeFrom_0 : decode cX4_takeFrom 0 = .ok (.aload_n 1, 1) := by decide +kernel
theorem dX4_takeFrom_1 : decode cX4_takeFrom 1 = .ok (.getfield 9, 3) := by decide +kernel
theorem dX4_takeFrom_4 : decode cX4_takeFrom 4 = .ok (.iconst 0, 1) := by decide +kernel
theorem dX4_takeFrom_5 : decode cX4_takeFrom 5 = .ok (.aload_n 0, 1) := by decide +kernel
theorem dX4_takeFrom_6 : decode cX4_takeFrom 6 = .ok (.getfield 9, 3) := by decide +kernel
theorem dX4_takeFrom_9 : decode cX4_takeFrom 9 = .ok (.iconst 0, 1) := by decide +kernel
theorem dX4_takeFrom_10 : decode cX4_takeFrom 10 = .ok (.bipush 6, 2) := by decide +kernel
theorem dX4_takeFrom_12 : decode cX4_takeFrom 12 = .ok (.invokestatic 40, 3) := by decide +kernel
theorem dX4_takeFrom_15 : decode cX4_takeFrom 15 = .ok (.aload_n 1, 1) := by decide +kernel
theorem dX4_takeFrom_16 : decode cX4_takeFrom 16 = .ok (.getfield 15, 3) := by decide +kernel
theorem dX4_takeFrom_19 : decode cX4_takeFrom 19 = .ok (.iconst 0, 1) := by decide +kernel
theorem dX4_takeFrom_20 : decode cX4_takeFrom 20 = .ok (.aload_n 0, 1) := by decide +kernel
theorem dX4_takeFrom_21 : decode cX4_takeFrom 21 = .ok (.getfield 15, 3) := by decide +kernel
theorem dX4_takeFrom_24 : decode cX4_takeFrom 24 = .ok (.iconst 0, 1) := by decide +kernel
theorem dX4_takeFrom_25 : decode cX4_takeFrom 25 = .ok (.bipush 6, 2) := by decide +kernel
theorem dX4_takeFrom_27 : decode cX4_takeFrom 27 = .ok (.invokestatic 40, 3) := by decide +kernel
theorem dX4_takeFrom_30 : decode cX4_takeFrom 30 = .ok (.aload_n 0, 1) := by decide +kernel
theorem dX4_takeFrom_31 : decode cX4_takeFrom 31 = .ok (.aload_n 1, 1) := by decide +kernel
theorem dX4_takeFrom_32 : decode cX4_takeFrom 32 = .ok (.getfield 18, 3) := by decide +kernel
theorem dX4_takeFrom_35 : decode cX4_takeFrom 35 = .ok (.putfield 18, 3) := by decide +kernel
theorem dX4_takeFrom_38 : decode cX4_takeFrom 38 = .ok (.return_, 1) := by decide +kernel
theorem dX4_isWeight_0 : decode cX4_isWeight 0 = .ok (.iload_n 0, 1) := by decide +kernel
theorem dX4_isWeight_1 : decode cX4_isWeight 1 = .ok (.iconst 1, 1) := by decide +kernel
theorem dX4_isWeight_2 : decode cX4_isWeight 2 = .ok (.if_icmp .lt 13, 3) := by decide +kernel
theorem dX4_isWeight_5 : decode cX4_isWeight 5 = .ok (.iload_n 0, 1) := by decide +kernel
theorem dX4_isWeight_6 : decode cX4_isWeight 6 = .ok (.bipush 99, 2) := by decide +kernel
theorem dX4_isWeight_8 : decode cX4_isWeight 8 = .ok (.if_icmp .gt 7, 3) := by decide +kernel
theorem dX4_isWeight_11 : decode cX4_isWeight 11 = .ok (.iconst 1, 1) := by decide +kernel
theorem dX4_isWeight_12 : decode cX4_isWeight 12 = .ok (.goto 4, 3) := by decide +kernel
theorem dX4_isWeight_15 : decode cX4_isWeight 15 = .ok (.iconst 0, 1) := by decide +kernel
theorem dX4_isWeight_16 : decode cX4_isWeight 16 = .ok (.ireturn, 1) := by decide +kernel
theorem dX4_isPrice_0 : decode cX4_isPrice 0 = .ok (.iload_n 0, 1) := by decide +kernel
theorem dX4_isPrice_1 : decode cX4_isPrice 1 = .ok (.ifCond .lt 13, 3) := by decide +kernel
theorem dX4_isPrice_4 : decode cX4_isPrice 4 = .ok (.iload_n 0, 1) := by decide +kernel
theorem dX4_isPrice_5 : decode cX4_isPrice 5 = .ok (.bipush 99, 2) := by decide +kernel
theorem dX4_isPrice_7 : decode cX4_isPrice 7 = .ok (.if_icmp .gt 7, 3) := by decide +kernel
theorem dX4_isPrice_10 : decode cX4_isPrice 10 = .ok (.iconst 1, 1) := by decide +kernel
theorem dX4_isPrice_11 : decode cX4_isPrice 11 = .ok (.goto 4, 3) := by decide +kernel
theorem dX4_isPrice_14 : decode cX4_isPrice 14 = .ok (.iconst 0, 1) := by decide +kernel
theorem dX4_isPrice_15 : decode cX4_isPrice 15 = .ok (.ireturn, 1) := by decide +kernel
