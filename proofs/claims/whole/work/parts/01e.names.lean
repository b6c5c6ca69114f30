theorem dX6_init_0 : decode cX6_init 0 = .ok (.aload_n 0, 1) := by decide +kernel
theorem dX6_init_1 : decode cX6_init 1 = .ok (.invokespecial 1, 3) := by decide +kernel
theorem dX6_init_4 : decode cX6_init 4 = .ok (.aload_n 0, 1) := by decide +kernel
theorem dX6_init_5 : decode cX6_init 5 = .ok (.bipush 12, 2) := by decide +kernel
theorem dX6_init_7 : decode cX6_init 7 = .ok (.newarray .int, 2) := by decide +kernel
theorem dX6_init_9 : decode cX6_init 9 = .ok (.putfield 7, 3) := by decide +kernel
theorem dX6_init_12 : decode cX6_init 12 = .ok (.aload_n 0, 1) := by decide +kernel
theorem dX6_init_13 : decode cX6_init 13 = .ok (.bipush 12, 2) := by decide +kernel
theorem dX6_init_15 : decode cX6_init 15 = .ok (.newarray .int, 2) := by decide +kernel
theorem dX6_init_17 : decode cX6_init 17 = .ok (.putfield 13, 3) := by decide +kernel
theorem dX6_init_20 : decode cX6_init 20 = .ok (.aload_n 0, 1) := by decide +kernel
theorem dX6_init_21 : decode cX6_init 21 = .ok (.bipush 18, 2) := by decide +kernel
theorem dX6_init_23 : decode cX6_init 23 = .ok (.newarray .int, 2) := by decide +kernel
theorem dX6_init_25 : decode cX6_init 25 = .ok (.putfield 16, 3) := by decide +kernel
theorem dX6_init_28 : decode cX6_init 28 = .ok (.aload_n 0, 1) := by decide +kernel
theorem dX6_init_29 : decode cX6_init 29 = .ok (.iconst 2, 1) := by decide +kernel
theorem dX6_init_30 : decode cX6_init 30 = .ok (.newarray .int, 2) := by decide +kernel
theorem dX6_init_32 : decode cX6_init 32 = .ok (.putfield 19, 3) := by decide +kernel
theorem dX6_init_35 : decode cX6_init 35 = .ok (.aload_n 0, 1) := by decide +kernel
theorem dX6_init_36 : decode cX6_init 36 = .ok (.bipush 6, 2) := by decide +kernel
theorem dX6_init_38 : decode cX6_init 38 = .ok (.newarray .int, 2) := by decide +kernel
theorem dX6_init_40 : decode cX6_init 40 = .ok (.putfield 22, 3) := by decide +kernel
theorem dX6_init_43 : decode cX6_init 43 = .ok (.aload_n 0, 1) := by decide +kernel
theorem dX6_init_44 : decode cX6_init 44 = .ok (.bipush 6, 2) := by decide +kernel
theorem dX6_init_46 : decode cX6_init 46 = .ok (.newarray .int, 2) := by decide +kernel
theorem dX6_init_48 : decode cX6_init 48 = .ok (.putfield 25, 3) := by decide +kernel
theorem dX6_init_51 : decode cX6_init 51 = .ok (.aload_n 0, 1) := by decide +kernel
theorem dX6_init_52 : decode cX6_init 52 = .ok (.bipush 6, 2) := by decide +kernel
theorem dX6_init_54 : decode cX6_init 54 = .ok (.newarray .int, 2) := by decide +kernel
theorem dX6_init_56 : decode cX6_init 56 = .ok (.putfield 28, 3) := by decide +kernel
theorem dX6_init_59 : decode cX6_init 59 = .ok (.aload_n 0, 1) := by decide +kernel
theorem dX6_init_60 : decode cX6_init 60 = .ok (.bipush 61, 2) := by decide +kernel
theorem dX6_init_62 : decode cX6_init 62 = .ok (.newarray .boolean, 2) := by decide +kernel
theorem dX6_init_64 : decode cX6_init 64 = .ok (.putfield 31, 3) := by decide +kernel
theorem dX6_init_67 : decode cX6_init 67 = .ok (.aload_n 0, 1) := by decide +kernel
theorem dX6_init_68 : decode cX6_init 68 = .ok (.iconst 2, 1) := by decide +kernel
theorem dX6_init_69 : decode cX6_init 69 = .ok (.putfield 35, 3) := by decide +kernel
theorem dX6_init_72 : decode cX6_init 72 = .ok (.aload_n 0, 1) := by decide +kernel
theorem dX6_init_73 : decode cX6_init 73 = .ok (.bipush 100, 2) := by decide +kernel
theorem dX6_init_75 : decode cX6_init 75 = .ok (.newarray .int, 2) := by decide +kernel
theorem dX6_init_77 : decode cX6_init 77 = .ok (.putfield 39, 3) := by decide +kernel
theorem dX6_init_80 : decode cX6_init 80 = .ok (.iconst 1, 1) := by decide +kernel
theorem dX6_init_81 : decode cX6_init 81 = .ok (.istore_n 1, 1) := by decide +kernel
theorem dX6_init_82 : decode cX6_init 82 = .ok (.iload_n 1, 1) := by decide +kernel
theorem dX6_init_83 : decode cX6_init 83 = .ok (.bipush 61, 2) := by decide +kernel
theorem dX6_init_85 : decode cX6_init 85 = .ok (.if_icmp .ge 16, 3) := by decide +kernel
theorem dX6_init_88 : decode cX6_init 88 = .ok (.aload_n 0, 1) := by decide +kernel
theorem dX6_init_89 : decode cX6_init 89 = .ok (.getfield 31, 3) := by decide +kernel
theorem dX6_init_92 : decode cX6_init 92 = .ok (.iload_n 1, 1) := by decide +kernel
theorem dX6_init_93 : decode cX6_init 93 = .ok (.iconst 1, 1) := by decide +kernel
theorem dX6_init_94 : decode cX6_init 94 = .ok (.bastore, 1) := by decide +kernel
theorem dX6_init_95 : decode cX6_init 95 = .ok (.iinc 1 1, 3) := by decide +kernel
theorem dX6_init_98 : decode cX6_init 98 = .ok (.goto (-16), 3) := by decide +kernel
theorem dX6_init_101 : decode cX6_init 101 = .ok (.aload_n 0, 1) := by decide +kernel
theorem dX6_init_102 : decode cX6_init 102 = .ok (.getfield 39, 3) := by decide +kernel
theorem dX6_init_105 : decode cX6_init 105 = .ok (.iconst 0, 1) := by decide +kernel
theorem dX6_init_106 : decode cX6_init 106 = .ok (.iconst (-1), 1) := by decide +kernel
theorem dX6_init_107 : decode cX6_init 107 = .ok (.iastore, 1) := by decide +kernel
theorem dX6_init_108 : decode cX6_init 108 = .ok (.aload_n 0, 1) := by decide +kernel
theorem dX6_init_109 : decode cX6_init 109 = .ok (.getfield 39, 3) := by decide +kernel
theorem dX6_init_112 : decode cX6_init 112 = .ok (.bipush 50, 2) := by decide +kernel
theorem dX6_init_114 : decode cX6_init 114 = .ok (.iconst (-1), 1) := by decide +kernel
theorem dX6_init_115 : decode cX6_init 115 = .ok (.iastore, 1) := by decide +kernel
theorem dX6_init_116 : decode cX6_init 116 = .ok (.return_, 1) := by decide +kernel
theorem dX6_in_0 : decode cX6_in 0 = .ok (.lload_n 0, 1) := by decide +kernel
theorem dX6_in_1 : decode cX6_in 1 = .ok (.lload_n 2, 1) := by decide +kernel
theorem dX6_in_2 : decode cX6_in 2 = .ok (.lcmp, 1) := by decide +kernel
theorem dX6_in_3 : decode cX6_in 3 = .ok (.ifCond .lt 14, 3) := by decide +kernel
theorem dX6_in_6 : decode cX6_in 6 = .ok (.lload_n 0, 1) := by decide +kernel
theorem dX6_in_7 : decode cX6_in 7 = .ok (.lload 4, 2) := by decide +kernel
theorem dX6_in_9 : decode cX6_in 9 = .ok (.lcmp, 1) := by decide +kernel
theorem dX6_in_10 : decode cX6_in 10 = .ok (.ifCond .gt 7, 3) := by decide +kernel
theorem dX6_in_13 : decode cX6_in 13 = .ok (.iconst 1, 1) := by decide +kernel
theorem dX6_in_14 : decode cX6_in 14 = .ok (.goto 4, 3) := by decide +kernel
theorem dX6_in_17 : decode cX6_in 17 = .ok (.iconst 0, 1) := by decide +kernel
theorem dX6_in_18 : decode cX6_in 18 = .ok (.ireturn, 1) := by decide +kernel
theorem dX6_whole_0 : decode cX6_whole 0 = .ok (.iconst 0, 1) := by decide +kernel
theorem dX6_whole_1 : decode cX6_whole 1 = .ok (.istore_n 1, 1) := by decide +kernel
theorem dX6_whole_2 : decode cX6_whole 2 = .ok (.iconst 0, 1) := by decide +kernel
theorem dX6_whole_3 : decode cX6_whole 3 = .ok (.istore_n 2, 1) := by decide +kernel
theorem dX6_whole_4 : decode cX6_whole 4 = .ok (.iload_n 2, 1) := by decide +kernel
theorem dX6_whole_5 : decode cX6_whole 5 = .ok (.aload_n 0, 1) := by decide +kernel
theorem dX6_whole_6 : decode cX6_whole 6 = .ok (.getfield 42, 3) := by decide +kernel
theorem dX6_whole_9 : decode cX6_whole 9 = .ok (.if_icmp .ge 18, 3) := by decide +kernel
theorem dX6_whole_12 : decode cX6_whole 12 = .ok (.iload_n 1, 1) := by decide +kernel
theorem dX6_whole_13 : decode cX6_whole 13 = .ok (.aload_n 0, 1) := by decide +kernel
theorem dX6_whole_14 : decode cX6_whole 14 = .ok (.getfield 7, 3) := by decide +kernel
theorem dX6_whole_17 : decode cX6_whole 17 = .ok (.iload_n 2, 1) := by decide +kernel
theorem dX6_whole_18 : decode cX6_whole 18 = .ok (.iaload, 1) := by decide +kernel
theorem dX6_whole_19 : decode cX6_whole 19 = .ok (.iadd, 1) := by decide +kernel
theorem dX6_whole_20 : decode cX6_whole 20 = .ok (.istore_n 1, 1) := by decide +kernel
theorem dX6_whole_21 : decode cX6_whole 21 = .ok (.iinc 2 1, 3) := by decide +kernel
theorem dX6_whole_24 : decode cX6_whole 24 = .ok (.goto (-20), 3) := by decide +kernel
theorem dX6_whole_27 : decode cX6_whole 27 = .ok (.iload_n 1, 1) := by decide +kernel
theorem dX6_whole_28 : decode cX6_whole 28 = .ok (.ireturn, 1) := by decide +kernel
theorem dX6_add_0 : decode cX6_add 0 = .ok (.aload_n 0, 1) := by decide +kernel
theorem dX6_add_1 : decode cX6_add 1 = .ok (.getfield 7, 3) := by decide +kernel
theorem dX6_add_4 : decode cX6_add 4 = .ok (.aload_n 0, 1) := by decide +kernel
theorem dX6_add_5 : decode cX6_add 5 = .ok (.getfield 42, 3) := by decide +kernel
theorem dX6_add_8 : decode cX6_add 8 = .ok (.iload_n 1, 1) := by decide +kernel
theorem dX6_add_9 : decode cX6_add 9 = .ok (.iastore, 1) := by decide +kernel
theorem dX6_add_10 : decode cX6_add 10 = .ok (.aload_n 0, 1) := by decide +kernel
theorem dX6_add_11 : decode cX6_add 11 = .ok (.getfield 13, 3) := by decide +kernel
theorem dX6_add_14 : decode cX6_add 14 = .ok (.aload_n 0, 1) := by decide +kernel
theorem dX6_add_15 : decode cX6_add 15 = .ok (.getfield 42, 3) := by decide +kernel
theorem dX6_add_18 : decode cX6_add 18 = .ok (.iload_n 2, 1) := by decide +kernel
theorem dX6_add_19 : decode cX6_add 19 = .ok (.iastore, 1) := by decide +kernel
theorem dX6_add_20 : decode cX6_add 20 = .ok (.aload_n 0, 1) := by decide +kernel
theorem dX6_add_21 : decode cX6_add 21 = .ok (.dup, 1) := by decide +kernel
theorem dX6_add_22 : decode cX6_add 22 = .ok (.getfield 42, 3) := by decide +kernel
theorem dX6_add_25 : decode cX6_add 25 = .ok (.iconst 1, 1) := by decide +kernel
theorem dX6_add_26 : decode cX6_add 26 = .ok (.iadd, 1) := by decide +kernel
theorem dX6_add_27 : decode cX6_add 27 = .ok (.putfield 42, 3) := by decide +kernel
theorem dX6_add_30 : decode cX6_add 30 = .ok (.return_, 1) := by decide +kernel
set_option maxRecDepth 20000 in
theorem ggX6_piece_X6_in : GoodIn wsX6_piece wsX6_in := goodIn_r _ [7] (by decide +kernel) (by decide +kernel)
set_option maxRecDepth 20000 in
theorem gX6_piece_X6_in : GoodIn wsX6_piece (va_wsS RX6 47 yX6_in wsX6_in) := goodIn_app (goodIn_of _ (by decide +kernel)) ggX6_piece_X6_in
set_option maxRecDepth 20000 in
theorem ggX6_piece_X6_add : GoodIn wsX6_piece wsX6_add := goodIn_r _ [11, 12, 3, 13, 18, 19, 20, 21, 22, 23, 24, 25, 26, 27, 28, 29, 30, 31, 32] (by decide +kernel) (by decide +kernel)
set_option maxRecDepth 20000 in
theorem gX6_piece_X6_add : GoodIn wsX6_piece (wsV RX6 53 RX6 yX6_add wsX6_add) := goodIn_app (goodIn_of _ (by decide +kernel)) ggX6_piece_X6_add
set_option maxRecDepth 20000 in
theorem ggX6_piece_X6_whole : GoodIn wsX6_piece wsX6_whole := goodIn_r _ [17, 3, 12, 18, 19, 20, 21, 22, 23, 24, 25, 26, 27, 28, 29, 30, 31, 32] (by decide +kernel) (by decide +kernel)
set_option maxRecDepth 20000 in
theorem gX6_piece_X6_whole : GoodIn wsX6_piece (wsV RX6 57 RX6 yX6_whole wsX6_whole) := goodIn_app (goodIn_of _ (by decide +kernel)) ggX6_piece_X6_whole
theorem dX6_piece_0 : decode cX6_piece 0 = .ok (.iload_n 1, 1) := by decide +kernel
theorem dX6_piece_1 : decode cX6_piece 1 = .ok (.i2l, 1) := by decide +kernel
theorem dX6_piece_2 : decode cX6_piece 2 = .ok (.lconst 1, 1) := by decide +kernel
theorem dX6_piece_3 : decode cX6_piece 3 = .ok (.ldc2_w 45, 3) := by decide +kernel
theorem dX6_piece_6 : decode cX6_piece 6 = .ok (.invokestatic 47, 3) := by decide +kernel
theorem dX6_piece_9 : decode cX6_piece 9 = .ok (.ifCond .eq 15, 3) := by decide +kernel
theorem dX6_piece_12 : decode cX6_piece 12 = .ok (.iload_n 2, 1) := by decide +kernel
theorem dX6_piece_13 : decode cX6_piece 13 = .ok (.i2l, 1) := by decide +kernel
theorem dX6_piece_14 : decode cX6_piece 14 = .ok (.lconst 1, 1) := by decide +kernel
theorem dX6_piece_15 : decode cX6_piece 15 = .ok (.ldc2_w 51, 3) := by decide +kernel
theorem dX6_piece_18 : decode cX6_piece 18 = .ok (.invokestatic 47, 3) := by decide +kernel
theorem dX6_piece_21 : decode cX6_piece 21 = .ok (.ifCond .ne 7, 3) := by decide +kernel
theorem dX6_piece_24 : decode cX6_piece 24 = .ok (.sipush (-1002), 3) := by decide +kernel
theorem dX6_piece_27 : decode cX6_piece 27 = .ok (.ireturn, 1) := by decide +kernel
theorem dX6_piece_28 : decode cX6_piece 28 = .ok (.aload_n 0, 1) := by decide +kernel
theorem dX6_piece_29 : decode cX6_piece 29 = .ok (.getfield 42, 3) := by decide +kernel
theorem dX6_piece_32 : decode cX6_piece 32 = .ok (.bipush 12, 2) := by decide +kernel
theorem dX6_piece_34 : decode cX6_piece 34 = .ok (.if_icmp .ne 7, 3) := by decide +kernel
theorem dX6_piece_37 : decode cX6_piece 37 = .ok (.sipush (-1004), 3) := by decide +kernel
theorem dX6_piece_40 : decode cX6_piece 40 = .ok (.ireturn, 1) := by decide +kernel
theorem dX6_piece_41 : decode cX6_piece 41 = .ok (.aload_n 0, 1) := by decide +kernel
theorem dX6_piece_42 : decode cX6_piece 42 = .ok (.iload_n 1, 1) := by decide +kernel
theorem dX6_piece_43 : decode cX6_piece 43 = .ok (.iload_n 2, 1) := by decide +kernel
theorem dX6_piece_44 : decode cX6_piece 44 = .ok (.invokevirtual 53, 3) := by decide +kernel
theorem dX6_piece_47 : decode cX6_piece 47 = .ok (.aload_n 0, 1) := by decide +kernel
theorem dX6_piece_48 : decode cX6_piece 48 = .ok (.invokevirtual 57, 3) := by decide +kernel
theorem dX6_piece_51 : decode cX6_piece 51 = .ok (.ireturn, 1) := by decide +kernel
set_option maxRecDepth 20000 in
theorem ggX6_cone_X6_in : GoodIn wsX6_cone wsX6_in := goodIn_r _ [9] (by decide +kernel) (by decide +kernel)
set_option maxRecDepth 20000 in
theorem gX6_cone_X6_in : GoodIn wsX6_cone (va_wsS RX6 47 yX6_in wsX6_in) := goodIn_app (goodIn_of _ (by decide +kernel)) ggX6_cone_X6_in
set_option maxRecDepth 20000 in
theorem ggX6_cone_X6_add : GoodIn wsX6_cone wsX6_add := goodIn_r _ [13, 14, 5, 15, 20, 21, 22, 23, 24, 25, 26, 27, 28, 29, 30, 31, 32, 33, 34] (by decide +kernel) (by decide +kernel)
set_option maxRecDepth 20000 in
theorem gX6_cone_X6_add : GoodIn wsX6_cone (wsV RX6 53 RX6 yX6_add wsX6_add) := goodIn_app (goodIn_of _ (by decide +kernel)) ggX6_cone_X6_add
set_option maxRecDepth 20000 in
theorem ggX6_cone_X6_whole : GoodIn wsX6_cone wsX6_whole := goodIn_r _ [19, 5, 14, 20, 21, 22, 23, 24, 25, 26, 27, 28, 29, 30, 31, 32, 33, 34] (by decide +kernel) (by decide +kernel)
set_option maxRecDepth 20000 in
theorem gX6_cone_X6_whole : GoodIn wsX6_cone (wsV RX6 57 RX6 yX6_whole wsX6_whole) := goodIn_app (goodIn_of _ (by decide +kernel)) ggX6_cone_X6_whole
theorem dX6_cone_0 : decode cX6_cone 0 = .ok (.iload_n 1, 1) := by decide +kernel
theorem dX6_cone_1 : decode cX6_cone 1 = .ok (.i2l, 1) := by decide +kernel
theorem dX6_cone_2 : decode cX6_cone 2 = .ok (.lconst 1, 1) := by decide +kernel
theorem dX6_cone_3 : decode cX6_cone 3 = .ok (.ldc2_w 45, 3) := by decide +kernel
theorem dX6_cone_6 : decode cX6_cone 6 = .ok (.invokestatic 47, 3) := by decide +kernel
theorem dX6_cone_9 : decode cX6_cone 9 = .ok (.ifCond .eq 42, 3) := by decide +kernel
theorem dX6_cone_12 : decode cX6_cone 12 = .ok (.iload_n 2, 1) := by decide +kernel
theorem dX6_cone_13 : decode cX6_cone 13 = .ok (.i2l, 1) := by decide +kernel
theorem dX6_cone_14 : decode cX6_cone 14 = .ok (.lconst 1, 1) := by decide +kernel
theorem dX6_cone_15 : decode cX6_cone 15 = .ok (.ldc2_w 51, 3) := by decide +kernel
theorem dX6_cone_18 : decode cX6_cone 18 = .ok (.invokestatic 47, 3) := by decide +kernel
theorem dX6_cone_21 : decode cX6_cone 21 = .ok (.ifCond .eq 30, 3) := by decide +kernel
theorem dX6_cone_24 : decode cX6_cone 24 = .ok (.iload_n 3, 1) := by decide +kernel
theorem dX6_cone_25 : decode cX6_cone 25 = .ok (.i2l, 1) := by decide +kernel
theorem dX6_cone_26 : decode cX6_cone 26 = .ok (.lconst 1, 1) := by decide +kernel
theorem dX6_cone_27 : decode cX6_cone 27 = .ok (.ldc2_w 51, 3) := by decide +kernel
theorem dX6_cone_30 : decode cX6_cone 30 = .ok (.invokestatic 47, 3) := by decide +kernel
theorem dX6_cone_33 : decode cX6_cone 33 = .ok (.ifCond .eq 18, 3) := by decide +kernel
theorem dX6_cone_36 : decode cX6_cone 36 = .ok (.iload 4, 2) := by decide +kernel
theorem dX6_cone_38 : decode cX6_cone 38 = .ok (.i2l, 1) := by decide +kernel
theorem dX6_cone_39 : decode cX6_cone 39 = .ok (.ldc2_w 61, 3) := by decide +kernel
theorem dX6_cone_42 : decode cX6_cone 42 = .ok (.ldc2_w 63, 3) := by decide +kernel
theorem dX6_cone_45 : decode cX6_cone 45 = .ok (.invokestatic 47, 3) := by decide +kernel
theorem dX6_cone_48 : decode cX6_cone 48 = .ok (.ifCond .ne 7, 3) := by decide +kernel
theorem dX6_cone_51 : decode cX6_cone 51 = .ok (.sipush (-1002), 3) := by decide +kernel
theorem dX6_cone_54 : decode cX6_cone 54 = .ok (.ireturn, 1) := by decide +kernel
theorem dX6_cone_55 : decode cX6_cone 55 = .ok (.aload_n 0, 1) := by decide +kernel
theorem dX6_cone_56 : decode cX6_cone 56 = .ok (.getfield 42, 3) := by decide +kernel
theorem dX6_cone_59 : decode cX6_cone 59 = .ok (.iload 4, 2) := by decide +kernel
theorem dX6_cone_61 : decode cX6_cone 61 = .ok (.iadd, 1) := by decide +kernel
theorem dX6_cone_62 : decode cX6_cone 62 = .ok (.bipush 12, 2) := by decide +kernel
theorem dX6_cone_64 : decode cX6_cone 64 = .ok (.if_icmp .le 7, 3) := by decide +kernel
theorem dX6_cone_67 : decode cX6_cone 67 = .ok (.sipush (-1004), 3) := by decide +kernel
theorem dX6_cone_70 : decode cX6_cone 70 = .ok (.ireturn, 1) := by decide +kernel
theorem dX6_cone_71 : decode cX6_cone 71 = .ok (.iconst 0, 1) := by decide +kernel
theorem dX6_cone_72 : decode cX6_cone 72 = .ok (.istore 5, 2) := by decide +kernel
theorem dX6_cone_74 : decode cX6_cone 74 = .ok (.iload 5, 2) := by decide +kernel
theorem dX6_cone_76 : decode cX6_cone 76 = .ok (.iload 4, 2) := by decide +kernel
theorem dX6_cone_78 : decode cX6_cone 78 = .ok (.if_icmp .ge 27, 3) := by decide +kernel
theorem dX6_cone_81 : decode cX6_cone 81 = .ok (.aload_n 0, 1) := by decide +kernel
theorem dX6_cone_82 : decode cX6_cone 82 = .ok (.iload_n 1, 1) := by decide +kernel
theorem dX6_cone_83 : decode cX6_cone 83 = .ok (.iload_n 2, 1) := by decide +kernel
theorem dX6_cone_84 : decode cX6_cone 84 = .ok (.iload_n 3, 1) := by decide +kernel
theorem dX6_cone_85 : decode cX6_cone 85 = .ok (.iload_n 2, 1) := by decide +kernel
theorem dX6_cone_86 : decode cX6_cone 86 = .ok (.isub, 1) := by decide +kernel
theorem dX6_cone_87 : decode cX6_cone 87 = .ok (.iload 5, 2) := by decide +kernel
theorem dX6_cone_89 : decode cX6_cone 89 = .ok (.imul, 1) := by decide +kernel
theorem dX6_cone_90 : decode cX6_cone 90 = .ok (.iload 4, 2) := by decide +kernel
theorem dX6_cone_92 : decode cX6_cone 92 = .ok (.iconst 1, 1) := by decide +kernel
theorem dX6_cone_93 : decode cX6_cone 93 = .ok (.isub, 1) := by decide +kernel
theorem dX6_cone_94 : decode cX6_cone 94 = .ok (.idiv, 1) := by decide +kernel
theorem dX6_cone_95 : decode cX6_cone 95 = .ok (.iadd, 1) := by decide +kernel
theorem dX6_cone_96 : decode cX6_cone 96 = .ok (.invokevirtual 53, 3) := by decide +kernel
theorem dX6_cone_99 : decode cX6_cone 99 = .ok (.iinc 5 1, 3) := by decide +kernel
theorem dX6_cone_102 : decode cX6_cone 102 = .ok (.goto (-28), 3) := by decide +kernel
theorem dX6_cone_105 : decode cX6_cone 105 = .ok (.aload_n 0, 1) := by decide +kernel
theorem dX6_cone_106 : decode cX6_cone 106 = .ok (.invokevirtual 57, 3) := by decide +kernel
theorem dX6_cone_109 : decode cX6_cone 109 = .ok (.ireturn, 1) := by decide +kernel
set_option maxRecDepth 20000 in
theorem ggX6_fits_X6_whole : GoodIn wsX6_fits wsX6_whole := goodIn_r _ [6, 7, 8, 12, 13, 14, 15, 16, 17, 18, 19, 20, 21, 22, 23, 24, 25, 26] (by decide +kernel) (by decide +kernel)
set_option maxRecDepth 20000 in
theorem gX6_fits_X6_whole : GoodIn wsX6_fits (wsV RX6 57 RX6 yX6_whole wsX6_whole) := goodIn_app (goodIn_of _ (by decide +kernel)) ggX6_fits_X6_whole
set_option maxRecDepth 20000 in
theorem ggX6_fits_X6_in : GoodIn wsX6_fits wsX6_in := goodIn_r _ [11] (by decide +kernel) (by decide +kernel)
set_option maxRecDepth 20000 in
theorem gX6_fits_X6_in : GoodIn wsX6_fits (va_wsS RX6 47 yX6_in wsX6_in) := goodIn_app (goodIn_of _ (by decide +kernel)) ggX6_fits_X6_in
theorem dX6_fits_0 : decode cX6_fits 0 = .ok (.iload_n 1, 1) := by decide +kernel
theorem dX6_fits_1 : decode cX6_fits 1 = .ok (.ifCond .ne 19, 3) := by decide +kernel
theorem dX6_fits_4 : decode cX6_fits 4 = .ok (.iload_n 2, 1) := by decide +kernel
theorem dX6_fits_5 : decode cX6_fits 5 = .ok (.i2l, 1) := by decide +kernel
theorem dX6_fits_6 : decode cX6_fits 6 = .ok (.lconst 1, 1) := by decide +kernel
theorem dX6_fits_7 : decode cX6_fits 7 = .ok (.aload_n 0, 1) := by decide +kernel
theorem dX6_fits_8 : decode cX6_fits 8 = .ok (.invokevirtual 57, 3) := by decide +kernel
theorem dX6_fits_11 : decode cX6_fits 11 = .ok (.iconst 1, 1) := by decide +kernel
theorem dX6_fits_12 : decode cX6_fits 12 = .ok (.isub, 1) := by decide +kernel
theorem dX6_fits_13 : decode cX6_fits 13 = .ok (.i2l, 1) := by decide +kernel
theorem dX6_fits_14 : decode cX6_fits 14 = .ok (.invokestatic 47, 3) := by decide +kernel
theorem dX6_fits_17 : decode cX6_fits 17 = .ok (.goto 21, 3) := by decide +kernel
theorem dX6_fits_20 : decode cX6_fits 20 = .ok (.iload_n 2, 1) := by decide +kernel
theorem dX6_fits_21 : decode cX6_fits 21 = .ok (.i2l, 1) := by decide +kernel
theorem dX6_fits_22 : decode cX6_fits 22 = .ok (.iload_n 1, 1) := by decide +kernel
theorem dX6_fits_23 : decode cX6_fits 23 = .ok (.iconst 1, 1) := by decide +kernel
theorem dX6_fits_24 : decode cX6_fits 24 = .ok (.if_icmp .ne 7, 3) := by decide +kernel
theorem dX6_fits_27 : decode cX6_fits 27 = .ok (.lconst 1, 1) := by decide +kernel
theorem dX6_fits_28 : decode cX6_fits 28 = .ok (.goto 4, 3) := by decide +kernel
theorem dX6_fits_31 : decode cX6_fits 31 = .ok (.lconst 0, 1) := by decide +kernel
theorem dX6_fits_32 : decode cX6_fits 32 = .ok (.ldc2_w 65, 3) := by decide +kernel
theorem dX6_fits_35 : decode cX6_fits 35 = .ok (.invokestatic 47, 3) := by decide +kernel
theorem dX6_fits_38 : decode cX6_fits 38 = .ok (.ireturn, 1) := by decide +kernel
theorem dX6_holeAt_0 : decode cX6_holeAt 0 = .ok (.iconst (-1), 1) := by decide +kernel
theorem dX6_holeAt_1 : decode cX6_holeAt 1 = .ok (.istore_n 2, 1) := by decide +kernel
theorem dX6_holeAt_2 : decode cX6_holeAt 2 = .ok (.iconst 0, 1) := by decide +kernel
theorem dX6_holeAt_3 : decode cX6_holeAt 3 = .ok (.istore_n 3, 1) := by decide +kernel
theorem dX6_holeAt_4 : decode cX6_holeAt 4 = .ok (.iload_n 3, 1) := by decide +kernel
theorem dX6_holeAt_5 : decode cX6_holeAt 5 = .ok (.aload_n 0, 1) := by decide +kernel
theorem dX6_holeAt_6 : decode cX6_holeAt 6 = .ok (.getfield 67, 3) := by decide +kernel
theorem dX6_holeAt_9 : decode cX6_holeAt 9 = .ok (.if_icmp .ge 27, 3) := by decide +kernel
theorem dX6_holeAt_12 : decode cX6_holeAt 12 = .ok (.aload_n 0, 1) := by decide +kernel
theorem dX6_holeAt_13 : decode cX6_holeAt 13 = .ok (.getfield 16, 3) := by decide +kernel
theorem dX6_holeAt_16 : decode cX6_holeAt 16 = .ok (.iconst 3, 1) := by decide +kernel
theorem dX6_holeAt_17 : decode cX6_holeAt 17 = .ok (.iload_n 3, 1) := by decide +kernel
theorem dX6_holeAt_18 : decode cX6_holeAt 18 = .ok (.imul, 1) := by decide +kernel
theorem dX6_holeAt_19 : decode cX6_holeAt 19 = .ok (.iaload, 1) := by decide +kernel
theorem dX6_holeAt_20 : decode cX6_holeAt 20 = .ok (.iload_n 1, 1) := by decide +kernel
theorem dX6_holeAt_21 : decode cX6_holeAt 21 = .ok (.if_icmp .ne 7, 3) := by decide +kernel
theorem dX6_holeAt_24 : decode cX6_holeAt 24 = .ok (.iload_n 3, 1) := by decide +kernel
theorem dX6_holeAt_25 : decode cX6_holeAt 25 = .ok (.goto 4, 3) := by decide +kernel
theorem dX6_holeAt_28 : decode cX6_holeAt 28 = .ok (.iload_n 2, 1) := by decide +kernel
theorem dX6_holeAt_29 : decode cX6_holeAt 29 = .ok (.istore_n 2, 1) := by decide +kernel
theorem dX6_holeAt_30 : decode cX6_holeAt 30 = .ok (.iinc 3 1, 3) := by decide +kernel
theorem dX6_holeAt_33 : decode cX6_holeAt 33 = .ok (.goto (-29), 3) := by decide +kernel
theorem dX6_holeAt_36 : decode cX6_holeAt 36 = .ok (.iload_n 2, 1) := by decide +kernel
theorem dX6_holeAt_37 : decode cX6_holeAt 37 = .ok (.ireturn, 1) := by decide +kernel
set_option maxRecDepth 20000 in
theorem ggX6_hole_X6_fits : GoodIn wsX6_hole wsX6_fits := goodIn_r _ [7, 8, 9, 10, 11, 6, 12, 13, 14, 15, 16, 17, 22, 23, 24, 25, 26, 27, 28, 29, 30, 31, 32, 33, 34, 35, 36] (by decide +kernel) (by decide +kernel)
set_option maxRecDepth 20000 in
theorem gX6_hole_X6_fits : GoodIn wsX6_hole (wsV RX6 70 RX6 yX6_fits wsX6_fits) := goodIn_app (goodIn_of _ (by decide +kernel)) ggX6_hole_X6_fits
set_option maxRecDepth 20000 in
theorem ggX6_hole_X6_holeAt : GoodIn wsX6_hole wsX6_holeAt := goodIn_r _ [21, 1, 2, 22, 23, 24, 25, 26, 27, 28, 29, 30, 31, 32, 33, 34, 35, 36] (by decide +kernel) (by decide +kernel)
set_option maxRecDepth 20000 in
theorem gX6_hole_X6_holeAt : GoodIn wsX6_hole (wsV RX6 74 RX6 yX6_holeAt wsX6_holeAt) := goodIn_app (goodIn_of _ (by decide +kernel)) ggX6_hole_X6_holeAt
theorem dX6_hole_0 : decode cX6_hole 0 = .ok (.aload_n 0, 1) := by decide +kernel
theorem dX6_hole_1 : decode cX6_hole 1 = .ok (.iconst 0, 1) := by decide +kernel
theorem dX6_hole_2 : decode cX6_hole 2 = .ok (.iload_n 1, 1) := by decide +kernel
theorem dX6_hole_3 : decode cX6_hole 3 = .ok (.invokevirtual 70, 3) := by decide +kernel
theorem dX6_hole_6 : decode cX6_hole 6 = .ok (.ifCond .eq 21, 3) := by decide +kernel
theorem dX6_hole_9 : decode cX6_hole 9 = .ok (.aload_n 0, 1) := by decide +kernel
theorem dX6_hole_10 : decode cX6_hole 10 = .ok (.iconst 1, 1) := by decide +kernel
theorem dX6_hole_11 : decode cX6_hole 11 = .ok (.iload_n 2, 1) := by decide +kernel
theorem dX6_hole_12 : decode cX6_hole 12 = .ok (.invokevirtual 70, 3) := by decide +kernel
theorem dX6_hole_15 : decode cX6_hole 15 = .ok (.ifCond .eq 12, 3) := by decide +kernel
theorem dX6_hole_18 : decode cX6_hole 18 = .ok (.aload_n 0, 1) := by decide +kernel
theorem dX6_hole_19 : decode cX6_hole 19 = .ok (.iconst 2, 1) := by decide +kernel
theorem dX6_hole_20 : decode cX6_hole 20 = .ok (.iload_n 3, 1) := by decide +kernel
theorem dX6_hole_21 : decode cX6_hole 21 = .ok (.invokevirtual 70, 3) := by decide +kernel
theorem dX6_hole_24 : decode cX6_hole 24 = .ok (.ifCond .ne 7, 3) := by decide +kernel
theorem dX6_hole_27 : decode cX6_hole 27 = .ok (.sipush (-1002), 3) := by decide +kernel
theorem dX6_hole_30 : decode cX6_hole 30 = .ok (.ireturn, 1) := by decide +kernel
theorem dX6_hole_31 : decode cX6_hole 31 = .ok (.aload_n 0, 1) := by decide +kernel
theorem dX6_hole_32 : decode cX6_hole 32 = .ok (.iload_n 1, 1) := by decide +kernel
theorem dX6_hole_33 : decode cX6_hole 33 = .ok (.invokevirtual 74, 3) := by decide +kernel
theorem dX6_hole_36 : decode cX6_hole 36 = .ok (.ifCond .lt 7, 3) := by decide +kernel
theorem dX6_hole_39 : decode cX6_hole 39 = .ok (.sipush (-1003), 3) := by decide +kernel
theorem dX6_hole_42 : decode cX6_hole 42 = .ok (.ireturn, 1) := by decide +kernel
theorem dX6_hole_43 : decode cX6_hole 43 = .ok (.aload_n 0, 1) := by decide +kernel
theorem dX6_hole_44 : decode cX6_hole 44 = .ok (.getfield 67, 3) := by decide +kernel
theorem dX6_hole_47 : decode cX6_hole 47 = .ok (.bipush 6, 2) := by decide +kernel
theorem dX6_hole_49 : decode cX6_hole 49 = .ok (.if_icmp .ne 7, 3) := by decide +kernel
theorem dX6_hole_52 : decode cX6_hole 52 = .ok (.sipush (-1004), 3) := by decide +kernel
theorem dX6_hole_55 : decode cX6_hole 55 = .ok (.ireturn, 1) := by decide +kernel
theorem dX6_hole_56 : decode cX6_hole 56 = .ok (.aload_n 0, 1) := by decide +kernel
theorem dX6_hole_57 : decode cX6_hole 57 = .ok (.getfield 16, 3) := by decide +kernel
theorem dX6_hole_60 : decode cX6_hole 60 = .ok (.iconst 3, 1) := by decide +kernel
theorem dX6_hole_61 : decode cX6_hole 61 = .ok (.aload_n 0, 1) := by decide +kernel
theorem dX6_hole_62 : decode cX6_hole 62 = .ok (.getfield 67, 3) := by decide +kernel
theorem dX6_hole_65 : decode cX6_hole 65 = .ok (.imul, 1) := by decide +kernel
theorem dX6_hole_66 : decode cX6_hole 66 = .ok (.iload_n 1, 1) := by decide +kernel
theorem dX6_hole_67 : decode cX6_hole 67 = .ok (.iastore, 1) := by decide +kernel
theorem dX6_hole_68 : decode cX6_hole 68 = .ok (.aload_n 0, 1) := by decide +kernel
theorem dX6_hole_69 : decode cX6_hole 69 = .ok (.getfield 16, 3) := by decide +kernel
theorem dX6_hole_72 : decode cX6_hole 72 = .ok (.iconst 3, 1) := by decide +kernel
theorem dX6_hole_73 : decode cX6_hole 73 = .ok (.aload_n 0, 1) := by decide +kernel
theorem dX6_hole_74 : decode cX6_hole 74 = .ok (.getfield 67, 3) := by decide +kernel
theorem dX6_hole_77 : decode cX6_hole 77 = .ok (.imul, 1) := by decide +kernel
theorem dX6_hole_78 : decode cX6_hole 78 = .ok (.iconst 1, 1) := by decide +kernel
theorem dX6_hole_79 : decode cX6_hole 79 = .ok (.iadd, 1) := by decide +kernel
theorem dX6_hole_80 : decode cX6_hole 80 = .ok (.iload_n 2, 1) := by decide +kernel
theorem dX6_hole_81 : decode cX6_hole 81 = .ok (.iastore, 1) := by decide +kernel
theorem dX6_hole_82 : decode cX6_hole 82 = .ok (.aload_n 0, 1) := by decide +kernel
theorem dX6_hole_83 : decode cX6_hole 83 = .ok (.getfield 16, 3) := by decide +kernel
theorem dX6_hole_86 : decode cX6_hole 86 = .ok (.iconst 3, 1) := by decide +kernel
theorem dX6_hole_87 : decode cX6_hole 87 = .ok (.aload_n 0, 1) := by decide +kernel
theorem dX6_hole_88 : decode cX6_hole 88 = .ok (.getfield 67, 3) := by decide +kernel
theorem dX6_hole_91 : decode cX6_hole 91 = .ok (.imul, 1) := by decide +kernel
theorem dX6_hole_92 : decode cX6_hole 92 = .ok (.iconst 2, 1) := by decide +kernel
theorem dX6_hole_93 : decode cX6_hole 93 = .ok (.iadd, 1) := by decide +kernel
theorem dX6_hole_94 : decode cX6_hole 94 = .ok (.iload_n 3, 1) := by decide +kernel
theorem dX6_hole_95 : decode cX6_hole 95 = .ok (.iastore, 1) := by decide +kernel
theorem dX6_hole_96 : decode cX6_hole 96 = .ok (.aload_n 0, 1) := by decide +kernel
theorem dX6_hole_97 : decode cX6_hole 97 = .ok (.dup, 1) := by decide +kernel
theorem dX6_hole_98 : decode cX6_hole 98 = .ok (.getfield 67, 3) := by decide +kernel
theorem dX6_hole_101 : decode cX6_hole 101 = .ok (.iconst 1, 1) := by decide +kernel
theorem dX6_hole_102 : decode cX6_hole 102 = .ok (.iadd, 1) := by decide +kernel
theorem dX6_hole_103 : decode cX6_hole 103 = .ok (.putfield 67, 3) := by decide +kernel
theorem dX6_hole_106 : decode cX6_hole 106 = .ok (.aload_n 0, 1) := by decide +kernel
theorem dX6_hole_107 : decode cX6_hole 107 = .ok (.getfield 67, 3) := by decide +kernel
theorem dX6_hole_110 : decode cX6_hole 110 = .ok (.iconst 1, 1) := by decide +kernel
theorem dX6_hole_111 : decode cX6_hole 111 = .ok (.isub, 1) := by decide +kernel
theorem dX6_hole_112 : decode cX6_hole 112 = .ok (.ireturn, 1) := by decide +kernel
set_option maxRecDepth 20000 in
theorem ggX6_isHole_X6_in : GoodIn wsX6_isHole wsX6_in := goodIn_r _ [5] (by decide +kernel) (by decide +kernel)
set_option maxRecDepth 20000 in
theorem gX6_isHole_X6_in : GoodIn wsX6_isHole (va_wsS RX6 47 yX6_in wsX6_in) := goodIn_app (goodIn_of _ (by decide +kernel)) ggX6_isHole_X6_in
theorem dX6_isHole_0 : decode cX6_isHole 0 = .ok (.iload_n 1, 1) := by decide +kernel
theorem dX6_isHole_1 : decode cX6_isHole 1 = .ok (.i2l, 1) := by decide +kernel
theorem dX6_isHole_2 : decode cX6_isHole 2 = .ok (.lconst 0, 1) := by decide +kernel
theorem dX6_isHole_3 : decode cX6_isHole 3 = .ok (.aload_n 0, 1) := by decide +kernel
theorem dX6_isHole_4 : decode cX6_isHole 4 = .ok (.getfield 67, 3) := by decide +kernel
theorem dX6_isHole_7 : decode cX6_isHole 7 = .ok (.iconst 1, 1) := by decide +kernel
theorem dX6_isHole_8 : decode cX6_isHole 8 = .ok (.isub, 1) := by decide +kernel
theorem dX6_isHole_9 : decode cX6_isHole 9 = .ok (.i2l, 1) := by decide +kernel
theorem dX6_isHole_10 : decode cX6_isHole 10 = .ok (.invokestatic 47, 3) := by decide +kernel
theorem dX6_isHole_13 : decode cX6_isHole 13 = .ok (.ireturn, 1) := by decide +kernel
set_option maxRecDepth 20000 in
theorem ggX6_set_X6_isHole : GoodIn wsX6_set wsX6_isHole := goodIn_r _ [7, 8, 9, 10, 6, 11, 27, 28, 29, 30, 31, 32, 33, 34, 35, 36, 37, 38, 39, 40, 41] (by decide +kernel) (by decide +kernel)
set_option maxRecDepth 20000 in
theorem gX6_set_X6_isHole : GoodIn wsX6_set (wsV RX6 78 RX6 yX6_isHole wsX6_isHole) := goodIn_app (goodIn_of _ (by decide +kernel)) ggX6_set_X6_isHole
set_option maxRecDepth 20000 in
theorem ggX6_set_X6_in : GoodIn wsX6_set wsX6_in := goodIn_r _ [11] (by decide +kernel) (by decide +kernel)
set_option maxRecDepth 20000 in
theorem gX6_set_X6_in : GoodIn wsX6_set (va_wsS RX6 47 yX6_in wsX6_in) := goodIn_app (goodIn_of _ (by decide +kernel)) ggX6_set_X6_in
set_option maxRecDepth 20000 in
theorem ggX6_set_X6_fits : GoodIn wsX6_set wsX6_fits := goodIn_r _ [15, 16, 17, 18, 19, 6, 20, 21, 22, 9, 10, 11, 27, 28, 29, 30, 31, 32, 33, 34, 35, 36, 37, 38, 39, 40, 41] (by decide +kernel) (by decide +kernel)
set_option maxRecDepth 20000 in
theorem gX6_set_X6_fits : GoodIn wsX6_set (wsV RX6 70 RX6 yX6_fits wsX6_fits) := goodIn_app (goodIn_of _ (by decide +kernel)) ggX6_set_X6_fits
set_option maxRecDepth 20000 in
theorem ggX6_set_X6_holeAt : GoodIn wsX6_set wsX6_holeAt := goodIn_r _ [26, 8, 2, 27, 28, 29, 30, 31, 32, 33, 34, 35, 36, 37, 38, 39, 40, 41] (by decide +kernel) (by decide +kernel)
set_option maxRecDepth 20000 in
theorem gX6_set_X6_holeAt : GoodIn wsX6_set (wsV RX6 74 RX6 yX6_holeAt wsX6_holeAt) := goodIn_app (goodIn_of _ (by decide +kernel)) ggX6_set_X6_holeAt
theorem dX6_set_0 : decode cX6_set 0 = .ok (.aload_n 0, 1) := by decide +kernel
theorem dX6_set_1 : decode cX6_set 1 = .ok (.iload_n 1, 1) := by decide +kernel
theorem dX6_set_2 : decode cX6_set 2 = .ok (.invokevirtual 78, 3) := by decide +kernel
theorem dX6_set_5 : decode cX6_set 5 = .ok (.ifCond .ne 7, 3) := by decide +kernel
theorem dX6_set_8 : decode cX6_set 8 = .ok (.sipush (-1001), 3) := by decide +kernel
theorem dX6_set_11 : decode cX6_set 11 = .ok (.ireturn, 1) := by decide +kernel
theorem dX6_set_12 : decode cX6_set 12 = .ok (.iload_n 2, 1) := by decide +kernel
theorem dX6_set_13 : decode cX6_set 13 = .ok (.i2l, 1) := by decide +kernel
theorem dX6_set_14 : decode cX6_set 14 = .ok (.lconst 0, 1) := by decide +kernel
theorem dX6_set_15 : decode cX6_set 15 = .ok (.ldc2_w 61, 3) := by decide +kernel
theorem dX6_set_18 : decode cX6_set 18 = .ok (.invokestatic 47, 3) := by decide +kernel
theorem dX6_set_21 : decode cX6_set 21 = .ok (.ifCond .eq 12, 3) := by decide +kernel
theorem dX6_set_24 : decode cX6_set 24 = .ok (.aload_n 0, 1) := by decide +kernel
theorem dX6_set_25 : decode cX6_set 25 = .ok (.iload_n 2, 1) := by decide +kernel
theorem dX6_set_26 : decode cX6_set 26 = .ok (.iload_n 3, 1) := by decide +kernel
theorem dX6_set_27 : decode cX6_set 27 = .ok (.invokevirtual 70, 3) := by decide +kernel
theorem dX6_set_30 : decode cX6_set 30 = .ok (.ifCond .ne 7, 3) := by decide +kernel
theorem dX6_set_33 : decode cX6_set 33 = .ok (.sipush (-1002), 3) := by decide +kernel
theorem dX6_set_36 : decode cX6_set 36 = .ok (.ireturn, 1) := by decide +kernel
theorem dX6_set_37 : decode cX6_set 37 = .ok (.iload_n 2, 1) := by decide +kernel
theorem dX6_set_38 : decode cX6_set 38 = .ok (.ifCond .ne 11, 3) := by decide +kernel
theorem dX6_set_41 : decode cX6_set 41 = .ok (.aload_n 0, 1) := by decide +kernel
theorem dX6_set_42 : decode cX6_set 42 = .ok (.iload_n 3, 1) := by decide +kernel
theorem dX6_set_43 : decode cX6_set 43 = .ok (.invokevirtual 74, 3) := by decide +kernel
theorem dX6_set_46 : decode cX6_set 46 = .ok (.goto 4, 3) := by decide +kernel
theorem dX6_set_49 : decode cX6_set 49 = .ok (.iconst (-1), 1) := by decide +kernel
theorem dX6_set_50 : decode cX6_set 50 = .ok (.istore 4, 2) := by decide +kernel
theorem dX6_set_52 : decode cX6_set 52 = .ok (.iload 4, 2) := by decide +kernel
theorem dX6_set_54 : decode cX6_set 54 = .ok (.ifCond .lt 13, 3) := by decide +kernel
theorem dX6_set_57 : decode cX6_set 57 = .ok (.iload 4, 2) := by decide +kernel
theorem dX6_set_59 : decode cX6_set 59 = .ok (.iload_n 1, 1) := by decide +kernel
theorem dX6_set_60 : decode cX6_set 60 = .ok (.if_icmp .eq 7, 3) := by decide +kernel
theorem dX6_set_63 : decode cX6_set 63 = .ok (.sipush (-1003), 3) := by decide +kernel
theorem dX6_set_66 : decode cX6_set 66 = .ok (.ireturn, 1) := by decide +kernel
theorem dX6_set_67 : decode cX6_set 67 = .ok (.aload_n 0, 1) := by decide +kernel
theorem dX6_set_68 : decode cX6_set 68 = .ok (.getfield 16, 3) := by decide +kernel
theorem dX6_set_71 : decode cX6_set 71 = .ok (.iconst 3, 1) := by decide +kernel
theorem dX6_set_72 : decode cX6_set 72 = .ok (.iload_n 1, 1) := by decide +kernel
theorem dX6_set_73 : decode cX6_set 73 = .ok (.imul, 1) := by decide +kernel
theorem dX6_set_74 : decode cX6_set 74 = .ok (.iload_n 2, 1) := by decide +kernel
theorem dX6_set_75 : decode cX6_set 75 = .ok (.iadd, 1) := by decide +kernel
theorem dX6_set_76 : decode cX6_set 76 = .ok (.iaload, 1) := by decide +kernel
theorem dX6_set_77 : decode cX6_set 77 = .ok (.istore 5, 2) := by decide +kernel
theorem dX6_set_79 : decode cX6_set 79 = .ok (.aload_n 0, 1) := by decide +kernel
theorem dX6_set_80 : decode cX6_set 80 = .ok (.getfield 16, 3) := by decide +kernel
theorem dX6_set_83 : decode cX6_set 83 = .ok (.iconst 3, 1) := by decide +kernel
theorem dX6_set_84 : decode cX6_set 84 = .ok (.iload_n 1, 1) := by decide +kernel
theorem dX6_set_85 : decode cX6_set 85 = .ok (.imul, 1) := by decide +kernel
theorem dX6_set_86 : decode cX6_set 86 = .ok (.iload_n 2, 1) := by decide +kernel
theorem dX6_set_87 : decode cX6_set 87 = .ok (.iadd, 1) := by decide +kernel
theorem dX6_set_88 : decode cX6_set 88 = .ok (.iload_n 3, 1) := by decide +kernel
theorem dX6_set_89 : decode cX6_set 89 = .ok (.iastore, 1) := by decide +kernel
theorem dX6_set_90 : decode cX6_set 90 = .ok (.iload 5, 2) := by decide +kernel
theorem dX6_set_92 : decode cX6_set 92 = .ok (.ireturn, 1) := by decide +kernel
set_option maxRecDepth 20000 in
theorem ggX6_end_X6_in : GoodIn wsX6_end wsX6_in := goodIn_r _ [5] (by decide +kernel) (by decide +kernel)
set_option maxRecDepth 20000 in
theorem gX6_end_X6_in : GoodIn wsX6_end (va_wsS RX6 47 yX6_in wsX6_in) := goodIn_app (goodIn_of _ (by decide +kernel)) ggX6_end_X6_in
theorem dX6_end_0 : decode cX6_end 0 = .ok (.iload_n 1, 1) := by decide +kernel
theorem dX6_end_1 : decode cX6_end 1 = .ok (.i2l, 1) := by decide +kernel
theorem dX6_end_2 : decode cX6_end 2 = .ok (.lconst 0, 1) := by decide +kernel
theorem dX6_end_3 : decode cX6_end 3 = .ok (.lconst 1, 1) := by decide +kernel
theorem dX6_end_4 : decode cX6_end 4 = .ok (.invokestatic 47, 3) := by decide +kernel
theorem dX6_end_7 : decode cX6_end 7 = .ok (.ifCond .eq 13, 3) := by decide +kernel
theorem dX6_end_10 : decode cX6_end 10 = .ok (.iload_n 2, 1) := by decide +kernel
theorem dX6_end_11 : decode cX6_end 11 = .ok (.i2l, 1) := by decide +kernel
theorem dX6_end_12 : decode cX6_end 12 = .ok (.lconst 0, 1) := by decide +kernel
theorem dX6_end_13 : decode cX6_end 13 = .ok (.lconst 1, 1) := by decide +kernel
theorem dX6_end_14 : decode cX6_end 14 = .ok (.invokestatic 47, 3) := by decide +kernel
theorem dX6_end_17 : decode cX6_end 17 = .ok (.ifCond .ne 7, 3) := by decide +kernel
theorem dX6_end_20 : decode cX6_end 20 = .ok (.sipush (-1002), 3) := by decide +kernel
theorem dX6_end_23 : decode cX6_end 23 = .ok (.ireturn, 1) := by decide +kernel
theorem dX6_end_24 : decode cX6_end 24 = .ok (.aload_n 0, 1) := by decide +kernel
theorem dX6_end_25 : decode cX6_end 25 = .ok (.getfield 19, 3) := by decide +kernel
theorem dX6_end_28 : decode cX6_end 28 = .ok (.iload_n 1, 1) := by decide +kernel
theorem dX6_end_29 : decode cX6_end 29 = .ok (.iaload, 1) := by decide +kernel
theorem dX6_end_30 : decode cX6_end 30 = .ok (.istore_n 3, 1) := by decide +kernel
theorem dX6_end_31 : decode cX6_end 31 = .ok (.aload_n 0, 1) := by decide +kernel
theorem dX6_end_32 : decode cX6_end 32 = .ok (.getfield 19, 3) := by decide +kernel
theorem dX6_end_35 : decode cX6_end 35 = .ok (.iload_n 1, 1) := by decide +kernel
theorem dX6_end_36 : decode cX6_end 36 = .ok (.iload_n 2, 1) := by decide +kernel
theorem dX6_end_37 : decode cX6_end 37 = .ok (.iastore, 1) := by decide +kernel
theorem dX6_end_38 : decode cX6_end 38 = .ok (.iload_n 3, 1) := by decide +kernel
theorem dX6_end_39 : decode cX6_end 39 = .ok (.ireturn, 1) := by decide +kernel
theorem dX6_clear_0 : decode cX6_clear 0 = .ok (.aload_n 0, 1) := by decide +kernel
theorem dX6_clear_1 : decode cX6_clear 1 = .ok (.getfield 42, 3) := by decide +kernel
theorem dX6_clear_4 : decode cX6_clear 4 = .ok (.istore_n 1, 1) := by decide +kernel
theorem dX6_clear_5 : decode cX6_clear 5 = .ok (.aload_n 0, 1) := by decide +kernel
theorem dX6_clear_6 : decode cX6_clear 6 = .ok (.iconst 0, 1) := by decide +kernel
theorem dX6_clear_7 : decode cX6_clear 7 = .ok (.putfield 42, 3) := by decide +kernel
theorem dX6_clear_10 : decode cX6_clear 10 = .ok (.aload_n 0, 1) := by decide +kernel
theorem dX6_clear_11 : decode cX6_clear 11 = .ok (.iconst 0, 1) := by decide +kernel
theorem dX6_clear_12 : decode cX6_clear 12 = .ok (.putfield 67, 3) := by decide +kernel
theorem dX6_clear_15 : decode cX6_clear 15 = .ok (.aload_n 0, 1) := by decide +kernel
theorem dX6_clear_16 : decode cX6_clear 16 = .ok (.iconst 0, 1) := by decide +kernel
theorem dX6_clear_17 : decode cX6_clear 17 = .ok (.putfield 82, 3) := by decide +kernel
theorem dX6_clear_20 : decode cX6_clear 20 = .ok (.aload_n 0, 1) := by decide +kernel
theorem dX6_clear_21 : decode cX6_clear 21 = .ok (.getfield 19, 3) := by decide +kernel
theorem dX6_clear_24 : decode cX6_clear 24 = .ok (.iconst 0, 1) := by decide +kernel
theorem dX6_clear_25 : decode cX6_clear 25 = .ok (.iconst 0, 1) := by decide +kernel
theorem dX6_clear_26 : decode cX6_clear 26 = .ok (.iastore, 1) := by decide +kernel
theorem dX6_clear_27 : decode cX6_clear 27 = .ok (.aload_n 0, 1) := by decide +kernel
theorem dX6_clear_28 : decode cX6_clear 28 = .ok (.getfield 19, 3) := by decide +kernel
theorem dX6_clear_31 : decode cX6_clear 31 = .ok (.iconst 1, 1) := by decide +kernel
theorem dX6_clear_32 : decode cX6_clear 32 = .ok (.iconst 0, 1) := by decide +kernel
theorem dX6_clear_33 : decode cX6_clear 33 = .ok (.iastore, 1) := by decide +kernel
theorem dX6_clear_34 : decode cX6_clear 34 = .ok (.aload_n 0, 1) := by decide +kernel
theorem dX6_clear_35 : decode cX6_clear 35 = .ok (.iconst 0, 1) := by decide +kernel
theorem dX6_clear_36 : decode cX6_clear 36 = .ok (.putfield 85, 3) := by decide +kernel
theorem dX6_clear_39 : decode cX6_clear 39 = .ok (.iload_n 1, 1) := by decide +kernel
theorem dX6_clear_40 : decode cX6_clear 40 = .ok (.ireturn, 1) := by decide +kernel
set_option maxRecDepth 20000 in
theorem ggX6_told_X6_in : GoodIn wsX6_told wsX6_in := goodIn_r _ [7] (by decide +kernel) (by decide +kernel)
set_option maxRecDepth 20000 in
theorem gX6_told_X6_in : GoodIn wsX6_told (va_wsS RX6 47 yX6_in wsX6_in) := goodIn_app (goodIn_of _ (by decide +kernel)) ggX6_told_X6_in
theorem dX6_told_0 : decode cX6_told 0 = .ok (.iload_n 1, 1) := by decide +kernel
theorem dX6_told_1 : decode cX6_told 1 = .ok (.i2l, 1) := by decide +kernel
theorem dX6_told_2 : decode cX6_told 2 = .ok (.lconst 0, 1) := by decide +kernel
theorem dX6_told_3 : decode cX6_told 3 = .ok (.aload_n 0, 1) := by decide +kernel
theorem dX6_told_4 : decode cX6_told 4 = .ok (.getfield 42, 3) := by decide +kernel
theorem dX6_told_7 : decode cX6_told 7 = .ok (.iconst 1, 1) := by decide +kernel
theorem dX6_told_8 : decode cX6_told 8 = .ok (.isub, 1) := by decide +kernel
theorem dX6_told_9 : decode cX6_told 9 = .ok (.i2l, 1) := by decide +kernel
theorem dX6_told_10 : decode cX6_told 10 = .ok (.invokestatic 47, 3) := by decide +kernel
theorem dX6_told_13 : decode cX6_told 13 = .ok (.ifCond .ne 7, 3) := by decide +kernel
theorem dX6_told_16 : decode cX6_told 16 = .ok (.sipush (-1001), 3) := by decide +kernel
theorem dX6_told_19 : decode cX6_told 19 = .ok (.ireturn, 1) := by decide +kernel
theorem dX6_told_20 : decode cX6_told 20 = .ok (.iload_n 2, 1) := by decide +kernel
theorem dX6_told_21 : decode cX6_told 21 = .ok (.ifCond .ne 12, 3) := by decide +kernel
theorem dX6_told_24 : decode cX6_told 24 = .ok (.aload_n 0, 1) := by decide +kernel
theorem dX6_told_25 : decode cX6_told 25 = .ok (.getfield 7, 3) := by decide +kernel
theorem dX6_told_28 : decode cX6_told 28 = .ok (.iload_n 1, 1) := by decide +kernel
theorem dX6_told_29 : decode cX6_told 29 = .ok (.iaload, 1) := by decide +kernel
theorem dX6_told_30 : decode cX6_told 30 = .ok (.goto 20, 3) := by decide +kernel
theorem dX6_told_33 : decode cX6_told 33 = .ok (.iload_n 2, 1) := by decide +kernel
theorem dX6_told_34 : decode cX6_told 34 = .ok (.iconst 1, 1) := by decide +kernel
theorem dX6_told_35 : decode cX6_told 35 = .ok (.if_icmp .ne 12, 3) := by decide +kernel
theorem dX6_told_38 : decode cX6_told 38 = .ok (.aload_n 0, 1) := by decide +kernel
theorem dX6_told_39 : decode cX6_told 39 = .ok (.getfield 13, 3) := by decide +kernel
theorem dX6_told_42 : decode cX6_told 42 = .ok (.iload_n 1, 1) := by decide +kernel
theorem dX6_told_43 : decode cX6_told 43 = .ok (.iaload, 1) := by decide +kernel
theorem dX6_told_44 : decode cX6_told 44 = .ok (.goto 6, 3) := by decide +kernel
theorem dX6_told_47 : decode cX6_told 47 = .ok (.sipush (-1002), 3) := by decide +kernel
theorem dX6_told_50 : decode cX6_told 50 = .ok (.ireturn, 1) := by decide +kernel
theorem dX6_pieceOf_0 : decode cX6_pieceOf 0 = .ok (.iconst 0, 1) := by decide +kernel
theorem dX6_pieceOf_1 : decode cX6_pieceOf 1 = .ok (.istore_n 2, 1) := by decide +kernel
theorem dX6_pieceOf_2 : decode cX6_pieceOf 2 = .ok (.aload_n 0, 1) := by decide +kernel
theorem dX6_pieceOf_3 : decode cX6_pieceOf 3 = .ok (.getfield 7, 3) := by decide +kernel
theorem dX6_pieceOf_6 : decode cX6_pieceOf 6 = .ok (.iconst 0, 1) := by decide +kernel
theorem dX6_pieceOf_7 : decode cX6_pieceOf 7 = .ok (.iaload, 1) := by decide +kernel
theorem dX6_pieceOf_8 : decode cX6_pieceOf 8 = .ok (.istore_n 3, 1) := by decide +kernel
theorem dX6_pieceOf_9 : decode cX6_pieceOf 9 = .ok (.iload_n 1, 1) := by decide +kernel
theorem dX6_pieceOf_10 : decode cX6_pieceOf 10 = .ok (.iload_n 3, 1) := by decide +kernel
theorem dX6_pieceOf_11 : decode cX6_pieceOf 11 = .ok (.if_icmp .le 18, 3) := by decide +kernel
theorem dX6_pieceOf_14 : decode cX6_pieceOf 14 = .ok (.iinc 2 1, 3) := by decide +kernel
theorem dX6_pieceOf_17 : decode cX6_pieceOf 17 = .ok (.iload_n 3, 1) := by decide +kernel
theorem dX6_pieceOf_18 : decode cX6_pieceOf 18 = .ok (.aload_n 0, 1) := by decide +kernel
theorem dX6_pieceOf_19 : decode cX6_pieceOf 19 = .ok (.getfield 7, 3) := by decide +kernel
theorem dX6_pieceOf_22 : decode cX6_pieceOf 22 = .ok (.iload_n 2, 1) := by decide +kernel
theorem dX6_pieceOf_23 : decode cX6_pieceOf 23 = .ok (.iaload, 1) := by decide +kernel
theorem dX6_pieceOf_24 : decode cX6_pieceOf 24 = .ok (.iadd, 1) := by decide +kernel
theorem dX6_pieceOf_25 : decode cX6_pieceOf 25 = .ok (.istore_n 3, 1) := by decide +kernel
theorem dX6_pieceOf_26 : decode cX6_pieceOf 26 = .ok (.goto (-17), 3) := by decide +kernel
theorem dX6_pieceOf_29 : decode cX6_pieceOf 29 = .ok (.iload_n 2, 1) := by decide +kernel
theorem dX6_pieceOf_30 : decode cX6_pieceOf 30 = .ok (.ireturn, 1) := by decide +kernel
set_option maxRecDepth 20000 in
theorem ggX6_bored_X6_isHole : GoodIn wsX6_bored wsX6_isHole := goodIn_r _ [8, 3, 9, 10, 7, 11, 17, 18, 19, 20, 21, 22, 23, 24, 25, 26, 27, 28, 29, 30, 31] (by decide +kernel) (by decide +kernel)
set_option maxRecDepth 20000 in
theorem gX6_bored_X6_isHole : GoodIn wsX6_bored (wsV RX6 78 RX6 yX6_isHole wsX6_isHole) := goodIn_app (goodIn_of _ (by decide +kernel)) ggX6_bored_X6_isHole
set_option maxRecDepth 20000 in
theorem ggX6_bored_X6_in : GoodIn wsX6_bored wsX6_in := goodIn_r _ [11] (by decide +kernel) (by decide +kernel)
set_option maxRecDepth 20000 in
theorem gX6_bored_X6_in : GoodIn wsX6_bored (va_wsS RX6 47 yX6_in wsX6_in) := goodIn_app (goodIn_of _ (by decide +kernel)) ggX6_bored_X6_in
set_option maxRecDepth 20000 in
theorem ggX6_bored_X6_pieceOf : GoodIn wsX6_bored wsX6_pieceOf := goodIn_r _ [15, 16, 17, 18, 19, 20, 21, 22, 23, 24, 25, 26, 27, 28, 29, 30, 31] (by decide +kernel) (by decide +kernel)
set_option maxRecDepth 20000 in
theorem gX6_bored_X6_pieceOf : GoodIn wsX6_bored (wsV RX6 90 RX6 yX6_pieceOf wsX6_pieceOf) := goodIn_app (goodIn_of _ (by decide +kernel)) ggX6_bored_X6_pieceOf
theorem dX6_bored_0 : decode cX6_bored 0 = .ok (.aload_n 0, 1) := by decide +kernel
theorem dX6_bored_1 : decode cX6_bored 1 = .ok (.iload_n 1, 1) := by decide +kernel
theorem dX6_bored_2 : decode cX6_bored 2 = .ok (.invokevirtual 78, 3) := by decide +kernel
theorem dX6_bored_5 : decode cX6_bored 5 = .ok (.ifCond .ne 7, 3) := by decide +kernel
theorem dX6_bored_8 : decode cX6_bored 8 = .ok (.sipush (-1001), 3) := by decide +kernel
theorem dX6_bored_11 : decode cX6_bored 11 = .ok (.ireturn, 1) := by decide +kernel
theorem dX6_bored_12 : decode cX6_bored 12 = .ok (.iload_n 2, 1) := by decide +kernel
theorem dX6_bored_13 : decode cX6_bored 13 = .ok (.i2l, 1) := by decide +kernel
theorem dX6_bored_14 : decode cX6_bored 14 = .ok (.lconst 0, 1) := by decide +kernel
theorem dX6_bored_15 : decode cX6_bored 15 = .ok (.ldc2_w 88, 3) := by decide +kernel
theorem dX6_bored_18 : decode cX6_bored 18 = .ok (.invokestatic 47, 3) := by decide +kernel
theorem dX6_bored_21 : decode cX6_bored 21 = .ok (.ifCond .ne 7, 3) := by decide +kernel
theorem dX6_bored_24 : decode cX6_bored 24 = .ok (.sipush (-1002), 3) := by decide +kernel
theorem dX6_bored_27 : decode cX6_bored 27 = .ok (.ireturn, 1) := by decide +kernel
theorem dX6_bored_28 : decode cX6_bored 28 = .ok (.iload_n 2, 1) := by decide +kernel
theorem dX6_bored_29 : decode cX6_bored 29 = .ok (.iconst 3, 1) := by decide +kernel
theorem dX6_bored_30 : decode cX6_bored 30 = .ok (.if_icmp .ge 14, 3) := by decide +kernel
theorem dX6_bored_33 : decode cX6_bored 33 = .ok (.aload_n 0, 1) := by decide +kernel
theorem dX6_bored_34 : decode cX6_bored 34 = .ok (.getfield 16, 3) := by decide +kernel
theorem dX6_bored_37 : decode cX6_bored 37 = .ok (.iconst 3, 1) := by decide +kernel
theorem dX6_bored_38 : decode cX6_bored 38 = .ok (.iload_n 1, 1) := by decide +kernel
theorem dX6_bored_39 : decode cX6_bored 39 = .ok (.imul, 1) := by decide +kernel
theorem dX6_bored_40 : decode cX6_bored 40 = .ok (.iload_n 2, 1) := by decide +kernel
theorem dX6_bored_41 : decode cX6_bored 41 = .ok (.iadd, 1) := by decide +kernel
theorem dX6_bored_42 : decode cX6_bored 42 = .ok (.iaload, 1) := by decide +kernel
theorem dX6_bored_43 : decode cX6_bored 43 = .ok (.ireturn, 1) := by decide +kernel
theorem dX6_bored_44 : decode cX6_bored 44 = .ok (.iconst 0, 1) := by decide +kernel
theorem dX6_bored_45 : decode cX6_bored 45 = .ok (.istore_n 3, 1) := by decide +kernel
theorem dX6_bored_46 : decode cX6_bored 46 = .ok (.iconst 0, 1) := by decide +kernel
theorem dX6_bored_47 : decode cX6_bored 47 = .ok (.istore 4, 2) := by decide +kernel
theorem dX6_bored_49 : decode cX6_bored 49 = .ok (.iload 4, 2) := by decide +kernel
theorem dX6_bored_51 : decode cX6_bored 51 = .ok (.aload_n 0, 1) := by decide +kernel
theorem dX6_bored_52 : decode cX6_bored 52 = .ok (.getfield 67, 3) := by decide +kernel
theorem dX6_bored_55 : decode cX6_bored 55 = .ok (.if_icmp .ge 37, 3) := by decide +kernel
theorem dX6_bored_58 : decode cX6_bored 58 = .ok (.iload_n 3, 1) := by decide +kernel
theorem dX6_bored_59 : decode cX6_bored 59 = .ok (.aload_n 0, 1) := by decide +kernel
theorem dX6_bored_60 : decode cX6_bored 60 = .ok (.getfield 16, 3) := by decide +kernel
theorem dX6_bored_63 : decode cX6_bored 63 = .ok (.iconst 3, 1) := by decide +kernel
theorem dX6_bored_64 : decode cX6_bored 64 = .ok (.iload 4, 2) := by decide +kernel
theorem dX6_bored_66 : decode cX6_bored 66 = .ok (.imul, 1) := by decide +kernel
theorem dX6_bored_67 : decode cX6_bored 67 = .ok (.iaload, 1) := by decide +kernel
theorem dX6_bored_68 : decode cX6_bored 68 = .ok (.aload_n 0, 1) := by decide +kernel
theorem dX6_bored_69 : decode cX6_bored 69 = .ok (.getfield 16, 3) := by decide +kernel
theorem dX6_bored_72 : decode cX6_bored 72 = .ok (.iconst 3, 1) := by decide +kernel
theorem dX6_bored_73 : decode cX6_bored 73 = .ok (.iload_n 1, 1) := by decide +kernel
theorem dX6_bored_74 : decode cX6_bored 74 = .ok (.imul, 1) := by decide +kernel
theorem dX6_bored_75 : decode cX6_bored 75 = .ok (.iaload, 1) := by decide +kernel
theorem dX6_bored_76 : decode cX6_bored 76 = .ok (.if_icmp .ge 7, 3) := by decide +kernel
theorem dX6_bored_79 : decode cX6_bored 79 = .ok (.iconst 1, 1) := by decide +kernel
theorem dX6_bored_80 : decode cX6_bored 80 = .ok (.goto 4, 3) := by decide +kernel
theorem dX6_bored_83 : decode cX6_bored 83 = .ok (.iconst 0, 1) := by decide +kernel
theorem dX6_bored_84 : decode cX6_bored 84 = .ok (.iadd, 1) := by decide +kernel
theorem dX6_bored_85 : decode cX6_bored 85 = .ok (.istore_n 3, 1) := by decide +kernel
theorem dX6_bored_86 : decode cX6_bored 86 = .ok (.iinc 4 1, 3) := by decide +kernel
theorem dX6_bored_89 : decode cX6_bored 89 = .ok (.goto (-40), 3) := by decide +kernel
theorem dX6_bored_92 : decode cX6_bored 92 = .ok (.iload_n 2, 1) := by decide +kernel
theorem dX6_bored_93 : decode cX6_bored 93 = .ok (.iconst 3, 1) := by decide +kernel
theorem dX6_bored_94 : decode cX6_bored 94 = .ok (.if_icmp .ne 18, 3) := by decide +kernel
theorem dX6_bored_97 : decode cX6_bored 97 = .ok (.aload_n 0, 1) := by decide +kernel
theorem dX6_bored_98 : decode cX6_bored 98 = .ok (.aload_n 0, 1) := by decide +kernel
theorem dX6_bored_99 : decode cX6_bored 99 = .ok (.getfield 16, 3) := by decide +kernel
theorem dX6_bored_102 : decode cX6_bored 102 = .ok (.iconst 3, 1) := by decide +kernel
theorem dX6_bored_103 : decode cX6_bored 103 = .ok (.iload_n 1, 1) := by decide +kernel
theorem dX6_bored_104 : decode cX6_bored 104 = .ok (.imul, 1) := by decide +kernel
theorem dX6_bored_105 : decode cX6_bored 105 = .ok (.iaload, 1) := by decide +kernel
theorem dX6_bored_106 : decode cX6_bored 106 = .ok (.invokevirtual 90, 3) := by decide +kernel
theorem dX6_bored_109 : decode cX6_bored 109 = .ok (.goto 4, 3) := by decide +kernel
theorem dX6_bored_112 : decode cX6_bored 112 = .ok (.iload_n 3, 1) := by decide +kernel
theorem dX6_bored_113 : decode cX6_bored 113 = .ok (.ireturn, 1) := by decide +kernel
theorem dX6_drillMany_0 : decode cX6_drillMany 0 = .ok (.iconst 0, 1) := by decide +kernel
theorem dX6_drillMany_1 : decode cX6_drillMany 1 = .ok (.istore_n 1, 1) := by decide +kernel
theorem dX6_drillMany_2 : decode cX6_drillMany 2 = .ok (.iconst 1, 1) := by decide +kernel
theorem dX6_drillMany_3 : decode cX6_drillMany 3 = .ok (.istore_n 2, 1) := by decide +kernel
theorem dX6_drillMany_4 : decode cX6_drillMany 4 = .ok (.iload_n 2, 1) := by decide +kernel
theorem dX6_drillMany_5 : decode cX6_drillMany 5 = .ok (.bipush 61, 2) := by decide +kernel
theorem dX6_drillMany_7 : decode cX6_drillMany 7 = .ok (.if_icmp .ge 26, 3) := by decide +kernel
theorem dX6_drillMany_10 : decode cX6_drillMany 10 = .ok (.iload_n 1, 1) := by decide +kernel
theorem dX6_drillMany_11 : decode cX6_drillMany 11 = .ok (.aload_n 0, 1) := by decide +kernel
theorem dX6_drillMany_12 : decode cX6_drillMany 12 = .ok (.getfield 31, 3) := by decide +kernel
theorem dX6_drillMany_15 : decode cX6_drillMany 15 = .ok (.iload_n 2, 1) := by decide +kernel
theorem dX6_drillMany_16 : decode cX6_drillMany 16 = .ok (.baload, 1) := by decide +kernel
theorem dX6_drillMany_17 : decode cX6_drillMany 17 = .ok (.ifCond .eq 7, 3) := by decide +kernel
theorem dX6_drillMany_20 : decode cX6_drillMany 20 = .ok (.iconst 1, 1) := by decide +kernel
theorem dX6_drillMany_21 : decode cX6_drillMany 21 = .ok (.goto 4, 3) := by decide +kernel
theorem dX6_drillMany_24 : decode cX6_drillMany 24 = .ok (.iconst 0, 1) := by decide +kernel
theorem dX6_drillMany_25 : decode cX6_drillMany 25 = .ok (.iadd, 1) := by decide +kernel
theorem dX6_drillMany_26 : decode cX6_drillMany 26 = .ok (.istore_n 1, 1) := by decide +kernel
theorem dX6_drillMany_27 : decode cX6_drillMany 27 = .ok (.iinc 2 1, 3) := by decide +kernel
theorem dX6_drillMany_30 : decode cX6_drillMany 30 = .ok (.goto (-26), 3) := by decide +kernel
theorem dX6_drillMany_33 : decode cX6_drillMany 33 = .ok (.iload_n 1, 1) := by decide +kernel
theorem dX6_drillMany_34 : decode cX6_drillMany 34 = .ok (.ireturn, 1) := by decide +kernel
set_option maxRecDepth 20000 in
theorem ggX6_count_X6_whole : GoodIn wsX6_count wsX6_whole := goodIn_r _ [11, 1, 12, 72, 73, 74, 75, 76, 77, 78, 79, 80, 81, 82, 83, 84, 85, 86] (by decide +kernel) (by decide +kernel)
set_option maxRecDepth 20000 in
theorem gX6_count_X6_whole : GoodIn wsX6_count (wsV RX6 57 RX6 yX6_whole wsX6_whole) := goodIn_app (goodIn_of _ (by decide +kernel)) ggX6_count_X6_whole
set_option maxRecDepth 20000 in
theorem ggX6_count_X6_drillMany : GoodIn wsX6_count wsX6_drillMany := goodIn_r _ [16, 17, 72, 73, 74, 75, 76, 77, 78, 79, 80, 81, 82, 83, 84, 85, 86] (by decide +kernel) (by decide +kernel)
set_option maxRecDepth 20000 in
theorem gX6_count_X6_drillMany : GoodIn wsX6_count (wsV RX6 93 RX6 yX6_drillMany wsX6_drillMany) := goodIn_app (goodIn_of _ (by decide +kernel)) ggX6_count_X6_drillMany
set_option maxRecDepth 20000 in
theorem ggX6_count_X6_greatest : GoodIn wsX6_count wsX6_greatest := goodIn_r _ [21, 3, 22, 23, 24, 10, 25, 26, 27, 28, 29, 30, 31, 32, 33, 1, 34, 35, 36, 37, 4, 38, 39, 40, 41, 42, 43, 7, 8, 9, 11, 12, 44, 45, 46, 47, 2, 48, 49, 50, 51, 52, 53, 54, 55, 56, 57, 58, 59, 60, 61, 62, 63, 64, 65, 66, 67, 72, 73, 74, 75, 76, 77, 78, 79, 80, 81, 82, 83, 84, 85, 86] (by decide +kernel) (by decide +kernel)
set_option maxRecDepth 20000 in
theorem gX6_count_X6_greatest : GoodIn wsX6_count (wsV RX6 96 RX6 yX6_greatest wsX6_greatest) := goodIn_app (goodIn_of _ (by decide +kernel)) ggX6_count_X6_greatest
set_option maxRecDepth 20000 in
theorem ggX6_count_X6_sumOfMisses : GoodIn wsX6_count wsX6_sumOfMisses := goodIn_r _ [71, 3, 22, 23, 24, 10, 25, 26, 27, 28, 29, 30, 31, 32, 33, 1, 34, 35, 36, 37, 4, 38, 39, 40, 41, 42, 43, 7, 8, 9, 11, 12, 44, 45, 46, 47, 2, 48, 49, 50, 51, 52, 53, 54, 55, 56, 57, 58, 59, 60, 61, 62, 63, 64, 65, 66, 67, 72, 73, 74, 75, 76, 77, 78, 79, 80, 81, 82, 83, 84, 85, 86] (by decide +kernel) (by decide +kernel)
set_option maxRecDepth 20000 in
theorem gX6_count_X6_sumOfMisses : GoodIn wsX6_count (wsV RX6 99 RX6 yX6_sumOfMisses wsX6_sumOfMisses) := goodIn_app (goodIn_of _ (by decide +kernel)) ggX6_count_X6_sumOfMisses
theorem dX6_count_0 : decode cX6_count 0 = .ok (.iload_n 1, 1) := by decide +kernel
theorem dX6_count_1 : decode cX6_count 1 = .ok (.tableswitch 118 0 10 #[59, 64, 69, 74, 79, 86, 93, 98, 103, 108, 113], 59) := by decide +kernel
theorem dX6_count_60 : decode cX6_count 60 = .ok (.aload_n 0, 1) := by decide +kernel
theorem dX6_count_61 : decode cX6_count 61 = .ok (.getfield 42, 3) := by decide +kernel
theorem dX6_count_64 : decode cX6_count 64 = .ok (.ireturn, 1) := by decide +kernel
theorem dX6_count_65 : decode cX6_count 65 = .ok (.aload_n 0, 1) := by decide +kernel
theorem dX6_count_66 : decode cX6_count 66 = .ok (.getfield 67, 3) := by decide +kernel
theorem dX6_count_69 : decode cX6_count 69 = .ok (.ireturn, 1) := by decide +kernel
theorem dX6_count_70 : decode cX6_count 70 = .ok (.aload_n 0, 1) := by decide +kernel
theorem dX6_count_71 : decode cX6_count 71 = .ok (.getfield 82, 3) := by decide +kernel
theorem dX6_count_74 : decode cX6_count 74 = .ok (.ireturn, 1) := by decide +kernel
theorem dX6_count_75 : decode cX6_count 75 = .ok (.aload_n 0, 1) := by decide +kernel
theorem dX6_count_76 : decode cX6_count 76 = .ok (.invokevirtual 57, 3) := by decide +kernel
theorem dX6_count_79 : decode cX6_count 79 = .ok (.ireturn, 1) := by decide +kernel
theorem dX6_count_80 : decode cX6_count 80 = .ok (.aload_n 0, 1) := by decide +kernel
theorem dX6_count_81 : decode cX6_count 81 = .ok (.getfield 19, 3) := by decide +kernel
theorem dX6_count_84 : decode cX6_count 84 = .ok (.iconst 0, 1) := by decide +kernel
theorem dX6_count_85 : decode cX6_count 85 = .ok (.iaload, 1) := by decide +kernel
theorem dX6_count_86 : decode cX6_count 86 = .ok (.ireturn, 1) := by decide +kernel
theorem dX6_count_87 : decode cX6_count 87 = .ok (.aload_n 0, 1) := by decide +kernel
theorem dX6_count_88 : decode cX6_count 88 = .ok (.getfield 19, 3) := by decide +kernel
theorem dX6_count_91 : decode cX6_count 91 = .ok (.iconst 1, 1) := by decide +kernel
theorem dX6_count_92 : decode cX6_count 92 = .ok (.iaload, 1) := by decide +kernel
theorem dX6_count_93 : decode cX6_count 93 = .ok (.ireturn, 1) := by decide +kernel
theorem dX6_count_94 : decode cX6_count 94 = .ok (.aload_n 0, 1) := by decide +kernel
theorem dX6_count_95 : decode cX6_count 95 = .ok (.getfield 35, 3) := by decide +kernel
theorem dX6_count_98 : decode cX6_count 98 = .ok (.ireturn, 1) := by decide +kernel
theorem dX6_count_99 : decode cX6_count 99 = .ok (.aload_n 0, 1) := by decide +kernel
theorem dX6_count_100 : decode cX6_count 100 = .ok (.invokevirtual 93, 3) := by decide +kernel
theorem dX6_count_103 : decode cX6_count 103 = .ok (.ireturn, 1) := by decide +kernel
theorem dX6_count_104 : decode cX6_count 104 = .ok (.aload_n 0, 1) := by decide +kernel
theorem dX6_count_105 : decode cX6_count 105 = .ok (.invokevirtual 96, 3) := by decide +kernel
theorem dX6_count_108 : decode cX6_count 108 = .ok (.ireturn, 1) := by decide +kernel
theorem dX6_count_109 : decode cX6_count 109 = .ok (.aload_n 0, 1) := by decide +kernel
theorem dX6_count_110 : decode cX6_count 110 = .ok (.invokevirtual 99, 3) := by decide +kernel
theorem dX6_count_113 : decode cX6_count 113 = .ok (.ireturn, 1) := by decide +kernel
theorem dX6_count_114 : decode cX6_count 114 = .ok (.aload_n 0, 1) := by decide +kernel
theorem dX6_count_115 : decode cX6_count 115 = .ok (.getfield 85, 3) := by decide +kernel
theorem dX6_count_118 : decode cX6_count 118 = .ok (.ireturn, 1) := by decide +kernel
theorem dX6_count_119 : decode cX6_count 119 = .ok (.sipush (-1002), 3) := by decide +kernel
theorem dX6_count_122 : decode cX6_count 122 = .ok (.ireturn, 1) := by decide +kernel
theorem dX6_sineOf_0 : decode cX6_sineOf 0 = .ok (.iload_n 0, 1) := by decide +kernel
theorem dX6_sineOf_1 : decode cX6_sineOf 1 = .ok (.ldc 102, 2) := by decide +kernel
theorem dX6_sineOf_3 : decode cX6_sineOf 3 = .ok (.irem, 1) := by decide +kernel
theorem dX6_sineOf_4 : decode cX6_sineOf 4 = .ok (.i2l, 1) := by decide +kernel
theorem dX6_sineOf_5 : decode cX6_sineOf 5 = .ok (.lstore_n 1, 1) := by decide +kernel
theorem dX6_sineOf_6 : decode cX6_sineOf 6 = .ok (.lload_n 1, 1) := by decide +kernel
theorem dX6_sineOf_7 : decode cX6_sineOf 7 = .ok (.ldc2_w 103, 3) := by decide +kernel
theorem dX6_sineOf_10 : decode cX6_sineOf 10 = .ok (.lload_n 1, 1) := by decide +kernel
theorem dX6_sineOf_11 : decode cX6_sineOf 11 = .ok (.lsub, 1) := by decide +kernel
theorem dX6_sineOf_12 : decode cX6_sineOf 12 = .ok (.lmul, 1) := by decide +kernel
theorem dX6_sineOf_13 : decode cX6_sineOf 13 = .ok (.lstore_n 3, 1) := by decide +kernel
theorem dX6_sineOf_14 : decode cX6_sineOf 14 = .ok (.ldc2_w 105, 3) := by decide +kernel
theorem dX6_sineOf_17 : decode cX6_sineOf 17 = .ok (.lload_n 3, 1) := by decide +kernel
theorem dX6_sineOf_18 : decode cX6_sineOf 18 = .ok (.lmul, 1) := by decide +kernel
theorem dX6_sineOf_19 : decode cX6_sineOf 19 = .ok (.ldc2_w 107, 3) := by decide +kernel
theorem dX6_sineOf_22 : decode cX6_sineOf 22 = .ok (.lload_n 3, 1) := by decide +kernel
theorem dX6_sineOf_23 : decode cX6_sineOf 23 = .ok (.lsub, 1) := by decide +kernel
theorem dX6_sineOf_24 : decode cX6_sineOf 24 = .ok (.ldiv, 1) := by decide +kernel
theorem dX6_sineOf_25 : decode cX6_sineOf 25 = .ok (.lstore 5, 2) := by decide +kernel
theorem dX6_sineOf_27 : decode cX6_sineOf 27 = .ok (.iload_n 0, 1) := by decide +kernel
theorem dX6_sineOf_28 : decode cX6_sineOf 28 = .ok (.ldc 102, 2) := by decide +kernel
theorem dX6_sineOf_30 : decode cX6_sineOf 30 = .ok (.if_icmp .ge 8, 3) := by decide +kernel
theorem dX6_sineOf_33 : decode cX6_sineOf 33 = .ok (.lload 5, 2) := by decide +kernel
theorem dX6_sineOf_35 : decode cX6_sineOf 35 = .ok (.goto 6, 3) := by decide +kernel
theorem dX6_sineOf_38 : decode cX6_sineOf 38 = .ok (.lload 5, 2) := by decide +kernel
theorem dX6_sineOf_40 : decode cX6_sineOf 40 = .ok (.lneg, 1) := by decide +kernel
theorem dX6_sineOf_41 : decode cX6_sineOf 41 = .ok (.lreturn, 1) := by decide +kernel
set_option maxRecDepth 20000 in
theorem ggX6_sine_X6_in : GoodIn wsX6_sine wsX6_in := goodIn_r _ [5] (by decide +kernel) (by decide +kernel)
set_option maxRecDepth 20000 in
theorem gX6_sine_X6_in : GoodIn wsX6_sine (va_wsS RX6 47 yX6_in wsX6_in) := goodIn_app (goodIn_of _ (by decide +kernel)) ggX6_sine_X6_in
set_option maxRecDepth 20000 in
theorem ggX6_sine_X6_sineOf : GoodIn wsX6_sine wsX6_sineOf := goodIn_r _ [8, 9, 10, 11, 12] (by decide +kernel) (by decide +kernel)
set_option maxRecDepth 20000 in
theorem gX6_sine_X6_sineOf : GoodIn wsX6_sine (va_wsS RX6 111 yX6_sineOf wsX6_sineOf) := goodIn_app (goodIn_of _ (by decide +kernel)) ggX6_sine_X6_sineOf
theorem dX6_sine_0 : decode cX6_sine 0 = .ok (.iload_n 1, 1) := by decide +kernel
theorem dX6_sine_1 : decode cX6_sine 1 = .ok (.i2l, 1) := by decide +kernel
theorem dX6_sine_2 : decode cX6_sine 2 = .ok (.lconst 0, 1) := by decide +kernel
theorem dX6_sine_3 : decode cX6_sine 3 = .ok (.ldc2_w 109, 3) := by decide +kernel
theorem dX6_sine_6 : decode cX6_sine 6 = .ok (.invokestatic 47, 3) := by decide +kernel
theorem dX6_sine_9 : decode cX6_sine 9 = .ok (.ifCond .eq 11, 3) := by decide +kernel
theorem dX6_sine_12 : decode cX6_sine 12 = .ok (.iload_n 1, 1) := by decide +kernel
theorem dX6_sine_13 : decode cX6_sine 13 = .ok (.invokestatic 111, 3) := by decide +kernel
theorem dX6_sine_16 : decode cX6_sine 16 = .ok (.l2i, 1) := by decide +kernel
theorem dX6_sine_17 : decode cX6_sine 17 = .ok (.goto 6, 3) := by decide +kernel
theorem dX6_sine_20 : decode cX6_sine 20 = .ok (.sipush (-1002), 3) := by decide +kernel
theorem dX6_sine_23 : decode cX6_sine 23 = .ok (.ireturn, 1) := by decide +kernel
theorem dX6_nextPlace_0 : decode cX6_nextPlace 0 = .ok (.iconst 0, 1) := by decide +kernel
theorem dX6_nextPlace_1 : decode cX6_nextPlace 1 = .ok (.istore_n 2, 1) := by decide +kernel
theorem dX6_nextPlace_2 : decode cX6_nextPlace 2 = .ok (.iconst 0, 1) := by decide +kernel
theorem dX6_nextPlace_3 : decode cX6_nextPlace 3 = .ok (.istore_n 3, 1) := by decide +kernel
theorem dX6_nextPlace_4 : decode cX6_nextPlace 4 = .ok (.iconst 0, 1) := by decide +kernel
theorem dX6_nextPlace_5 : decode cX6_nextPlace 5 = .ok (.istore 4, 2) := by decide +kernel
theorem dX6_nextPlace_7 : decode cX6_nextPlace 7 = .ok (.iload 4, 2) := by decide +kernel
theorem dX6_nextPlace_9 : decode cX6_nextPlace 9 = .ok (.aload_n 0, 1) := by decide +kernel
theorem dX6_nextPlace_10 : decode cX6_nextPlace 10 = .ok (.getfield 42, 3) := by decide +kernel
theorem dX6_nextPlace_13 : decode cX6_nextPlace 13 = .ok (.if_icmp .ge 35, 3) := by decide +kernel
theorem dX6_nextPlace_16 : decode cX6_nextPlace 16 = .ok (.iload_n 3, 1) := by decide +kernel
theorem dX6_nextPlace_17 : decode cX6_nextPlace 17 = .ok (.aload_n 0, 1) := by decide +kernel
theorem dX6_nextPlace_18 : decode cX6_nextPlace 18 = .ok (.getfield 7, 3) := by decide +kernel
theorem dX6_nextPlace_21 : decode cX6_nextPlace 21 = .ok (.iload 4, 2) := by decide +kernel
theorem dX6_nextPlace_23 : decode cX6_nextPlace 23 = .ok (.iaload, 1) := by decide +kernel
theorem dX6_nextPlace_24 : decode cX6_nextPlace 24 = .ok (.iadd, 1) := by decide +kernel
theorem dX6_nextPlace_25 : decode cX6_nextPlace 25 = .ok (.istore_n 3, 1) := by decide +kernel
theorem dX6_nextPlace_26 : decode cX6_nextPlace 26 = .ok (.iload_n 3, 1) := by decide +kernel
theorem dX6_nextPlace_27 : decode cX6_nextPlace 27 = .ok (.iload_n 1, 1) := by decide +kernel
theorem dX6_nextPlace_28 : decode cX6_nextPlace 28 = .ok (.if_icmp .ge 12, 3) := by decide +kernel
theorem dX6_nextPlace_31 : decode cX6_nextPlace 31 = .ok (.iload_n 3, 1) := by decide +kernel
theorem dX6_nextPlace_32 : decode cX6_nextPlace 32 = .ok (.iload_n 2, 1) := by decide +kernel
theorem dX6_nextPlace_33 : decode cX6_nextPlace 33 = .ok (.if_icmp .le 7, 3) := by decide +kernel
theorem dX6_nextPlace_36 : decode cX6_nextPlace 36 = .ok (.iload_n 3, 1) := by decide +kernel
theorem dX6_nextPlace_37 : decode cX6_nextPlace 37 = .ok (.goto 4, 3) := by decide +kernel
theorem dX6_nextPlace_40 : decode cX6_nextPlace 40 = .ok (.iload_n 2, 1) := by decide +kernel
theorem dX6_nextPlace_41 : decode cX6_nextPlace 41 = .ok (.istore_n 2, 1) := by decide +kernel
theorem dX6_nextPlace_42 : decode cX6_nextPlace 42 = .ok (.iinc 4 1, 3) := by decide +kernel
theorem dX6_nextPlace_45 : decode cX6_nextPlace 45 = .ok (.goto (-38), 3) := by decide +kernel
theorem dX6_nextPlace_48 : decode cX6_nextPlace 48 = .ok (.iconst 0, 1) := by decide +kernel
theorem dX6_nextPlace_49 : decode cX6_nextPlace 49 = .ok (.istore 4, 2) := by decide +kernel
theorem dX6_nextPlace_51 : decode cX6_nextPlace 51 = .ok (.iload 4, 2) := by decide +kernel
theorem dX6_nextPlace_53 : decode cX6_nextPlace 53 = .ok (.aload_n 0, 1) := by decide +kernel
theorem dX6_nextPlace_54 : decode cX6_nextPlace 54 = .ok (.getfield 67, 3) := by decide +kernel
theorem dX6_nextPlace_57 : decode cX6_nextPlace 57 = .ok (.if_icmp .ge 39, 3) := by decide +kernel
theorem dX6_nextPlace_60 : decode cX6_nextPlace 60 = .ok (.aload_n 0, 1) := by decide +kernel
theorem dX6_nextPlace_61 : decode cX6_nextPlace 61 = .ok (.getfield 16, 3) := by decide +kernel
theorem dX6_nextPlace_64 : decode cX6_nextPlace 64 = .ok (.iconst 3, 1) := by decide +kernel
theorem dX6_nextPlace_65 : decode cX6_nextPlace 65 = .ok (.iload 4, 2) := by decide +kernel
theorem dX6_nextPlace_67 : decode cX6_nextPlace 67 = .ok (.imul, 1) := by decide +kernel
theorem dX6_nextPlace_68 : decode cX6_nextPlace 68 = .ok (.iaload, 1) := by decide +kernel
theorem dX6_nextPlace_69 : decode cX6_nextPlace 69 = .ok (.istore 5, 2) := by decide +kernel
theorem dX6_nextPlace_71 : decode cX6_nextPlace 71 = .ok (.iload 5, 2) := by decide +kernel
theorem dX6_nextPlace_73 : decode cX6_nextPlace 73 = .ok (.iload_n 1, 1) := by decide +kernel
theorem dX6_nextPlace_74 : decode cX6_nextPlace 74 = .ok (.if_icmp .ge 14, 3) := by decide +kernel
theorem dX6_nextPlace_77 : decode cX6_nextPlace 77 = .ok (.iload 5, 2) := by decide +kernel
theorem dX6_nextPlace_79 : decode cX6_nextPlace 79 = .ok (.iload_n 2, 1) := by decide +kernel
theorem dX6_nextPlace_80 : decode cX6_nextPlace 80 = .ok (.if_icmp .le 8, 3) := by decide +kernel
theorem dX6_nextPlace_83 : decode cX6_nextPlace 83 = .ok (.iload 5, 2) := by decide +kernel
theorem dX6_nextPlace_85 : decode cX6_nextPlace 85 = .ok (.goto 4, 3) := by decide +kernel
theorem dX6_nextPlace_88 : decode cX6_nextPlace 88 = .ok (.iload_n 2, 1) := by decide +kernel
theorem dX6_nextPlace_89 : decode cX6_nextPlace 89 = .ok (.istore_n 2, 1) := by decide +kernel
theorem dX6_nextPlace_90 : decode cX6_nextPlace 90 = .ok (.iinc 4 1, 3) := by decide +kernel
theorem dX6_nextPlace_93 : decode cX6_nextPlace 93 = .ok (.goto (-42), 3) := by decide +kernel
theorem dX6_nextPlace_96 : decode cX6_nextPlace 96 = .ok (.iload_n 2, 1) := by decide +kernel
theorem dX6_nextPlace_97 : decode cX6_nextPlace 97 = .ok (.ireturn, 1) := by decide +kernel
theorem dX6_isLarge_0 : decode cX6_isLarge 0 = .ok (.lload_n 0, 1) := by decide +kernel
theorem dX6_isLarge_1 : decode cX6_isLarge 1 = .ok (.ldc2_w 115, 3) := by decide +kernel
theorem dX6_isLarge_4 : decode cX6_isLarge 4 = .ok (.lcmp, 1) := by decide +kernel
theorem dX6_isLarge_5 : decode cX6_isLarge 5 = .ok (.ifCond .ge 11, 3) := by decide +kernel
theorem dX6_isLarge_8 : decode cX6_isLarge 8 = .ok (.lload_n 0, 1) := by decide +kernel
theorem dX6_isLarge_9 : decode cX6_isLarge 9 = .ok (.ldc2_w 117, 3) := by decide +kernel
theorem dX6_isLarge_12 : decode cX6_isLarge 12 = .ok (.lcmp, 1) := by decide +kernel
theorem dX6_isLarge_13 : decode cX6_isLarge 13 = .ok (.ifCond .gt 7, 3) := by decide +kernel
theorem dX6_isLarge_16 : decode cX6_isLarge 16 = .ok (.iconst 1, 1) := by decide +kernel
theorem dX6_isLarge_17 : decode cX6_isLarge 17 = .ok (.goto 4, 3) := by decide +kernel
theorem dX6_isLarge_20 : decode cX6_isLarge 20 = .ok (.iconst 0, 1) := by decide +kernel
theorem dX6_isLarge_21 : decode cX6_isLarge 21 = .ok (.ireturn, 1) := by decide +kernel
set_option maxRecDepth 20000 in
theorem ggX6_worthOf_X6_whole : GoodIn wsX6_worthOf wsX6_whole := goodIn_r _ [12, 13, 14, 40, 41, 42, 43, 44, 45, 46, 47, 48, 49, 50, 51, 52, 53, 54] (by decide +kernel) (by decide +kernel)
set_option maxRecDepth 20000 in
theorem gX6_worthOf_X6_whole : GoodIn wsX6_worthOf (wsV RX6 57 RX6 yX6_whole wsX6_whole) := goodIn_app (goodIn_of _ (by decide +kernel)) ggX6_worthOf_X6_whole
set_option maxRecDepth 20000 in
theorem ggX6_worthOf_X6_nextPlace : GoodIn wsX6_worthOf wsX6_nextPlace := goodIn_r _ [18, 13, 14, 19, 6, 40, 41, 42, 43, 44, 45, 46, 47, 48, 49, 50, 51, 52, 53, 54] (by decide +kernel) (by decide +kernel)
set_option maxRecDepth 20000 in
theorem gX6_worthOf_X6_nextPlace : GoodIn wsX6_worthOf (wsV RX6 121 RX6 yX6_nextPlace wsX6_nextPlace) := goodIn_app (goodIn_of _ (by decide +kernel)) ggX6_worthOf_X6_nextPlace
set_option maxRecDepth 20000 in
theorem ggX6_worthOf_X6_sineOf : GoodIn wsX6_worthOf wsX6_sineOf := goodIn_r _ [22, 23, 24, 25, 26] (by decide +kernel) (by decide +kernel)
set_option maxRecDepth 20000 in
theorem gX6_worthOf_X6_sineOf : GoodIn wsX6_worthOf (va_wsS RX6 111 yX6_sineOf wsX6_sineOf) := goodIn_app (goodIn_of _ (by decide +kernel)) ggX6_worthOf_X6_sineOf
set_option maxRecDepth 20000 in
theorem ggX6_worthOf_X6_pieceOf : GoodIn wsX6_worthOf wsX6_pieceOf := goodIn_r _ [30, 14, 40, 41, 42, 43, 44, 45, 46, 47, 48, 49, 50, 51, 52, 53, 54] (by decide +kernel) (by decide +kernel)
set_option maxRecDepth 20000 in
theorem gX6_worthOf_X6_pieceOf : GoodIn wsX6_worthOf (wsV RX6 90 RX6 yX6_pieceOf wsX6_pieceOf) := goodIn_app (goodIn_of _ (by decide +kernel)) ggX6_worthOf_X6_pieceOf
set_option maxRecDepth 20000 in
theorem ggX6_worthOf_X6_isLarge : GoodIn wsX6_worthOf wsX6_isLarge := goodIn_r _ [33, 34, 35] (by decide +kernel) (by decide +kernel)
set_option maxRecDepth 20000 in
theorem gX6_worthOf_X6_isLarge : GoodIn wsX6_worthOf (va_wsS RX6 127 yX6_isLarge wsX6_isLarge) := goodIn_app (goodIn_of _ (by decide +kernel)) ggX6_worthOf_X6_isLarge
set_option maxRecDepth 20000 in
theorem ggX6_worthOf_X6_holeAt : GoodIn wsX6_worthOf wsX6_holeAt := goodIn_r _ [39, 19, 6, 40, 41, 42, 43, 44, 45, 46, 47, 48, 49, 50, 51, 52, 53, 54] (by decide +kernel) (by decide +kernel)
set_option maxRecDepth 20000 in
theorem gX6_worthOf_X6_holeAt : GoodIn wsX6_worthOf (wsV RX6 74 RX6 yX6_holeAt wsX6_holeAt) := goodIn_app (goodIn_of _ (by decide +kernel)) ggX6_worthOf_X6_holeAt
theorem dX6_worthOf_0 : decode cX6_worthOf 0 = .ok (.aload_n 0, 1) := by decide +kernel
theorem dX6_worthOf_1 : decode cX6_worthOf 1 = .ok (.getfield 19, 3) := by decide +kernel
theorem dX6_worthOf_4 : decode cX6_worthOf 4 = .ok (.iconst 1, 1) := by decide +kernel
theorem dX6_worthOf_5 : decode cX6_worthOf 5 = .ok (.iaload, 1) := by decide +kernel
theorem dX6_worthOf_6 : decode cX6_worthOf 6 = .ok (.ifCond .ne 7, 3) := by decide +kernel
theorem dX6_worthOf_9 : decode cX6_worthOf 9 = .ok (.lconst 0, 1) := by decide +kernel
theorem dX6_worthOf_10 : decode cX6_worthOf 10 = .ok (.goto 6, 3) := by decide +kernel
theorem dX6_worthOf_13 : decode cX6_worthOf 13 = .ok (.ldc2_w 119, 3) := by decide +kernel
theorem dX6_worthOf_16 : decode cX6_worthOf 16 = .ok (.lstore_n 3, 1) := by decide +kernel
theorem dX6_worthOf_17 : decode cX6_worthOf 17 = .ok (.aload_n 0, 1) := by decide +kernel
theorem dX6_worthOf_18 : decode cX6_worthOf 18 = .ok (.getfield 19, 3) := by decide +kernel
theorem dX6_worthOf_21 : decode cX6_worthOf 21 = .ok (.iconst 1, 1) := by decide +kernel
theorem dX6_worthOf_22 : decode cX6_worthOf 22 = .ok (.iaload, 1) := by decide +kernel
theorem dX6_worthOf_23 : decode cX6_worthOf 23 = .ok (.ifCond .ne 9, 3) := by decide +kernel
theorem dX6_worthOf_26 : decode cX6_worthOf 26 = .ok (.ldc2_w 119, 3) := by decide +kernel
theorem dX6_worthOf_29 : decode cX6_worthOf 29 = .ok (.goto 4, 3) := by decide +kernel
theorem dX6_worthOf_32 : decode cX6_worthOf 32 = .ok (.lconst 0, 1) := by decide +kernel
theorem dX6_worthOf_33 : decode cX6_worthOf 33 = .ok (.lstore 5, 2) := by decide +kernel
theorem dX6_worthOf_35 : decode cX6_worthOf 35 = .ok (.aload_n 0, 1) := by decide +kernel
theorem dX6_worthOf_36 : decode cX6_worthOf 36 = .ok (.invokevirtual 57, 3) := by decide +kernel
theorem dX6_worthOf_39 : decode cX6_worthOf 39 = .ok (.istore 7, 2) := by decide +kernel
theorem dX6_worthOf_41 : decode cX6_worthOf 41 = .ok (.iload 7, 2) := by decide +kernel
theorem dX6_worthOf_43 : decode cX6_worthOf 43 = .ok (.ifCond .le 233, 3) := by decide +kernel
theorem dX6_worthOf_46 : decode cX6_worthOf 46 = .ok (.aload_n 0, 1) := by decide +kernel
theorem dX6_worthOf_47 : decode cX6_worthOf 47 = .ok (.iload 7, 2) := by decide +kernel
theorem dX6_worthOf_49 : decode cX6_worthOf 49 = .ok (.invokevirtual 121, 3) := by decide +kernel
theorem dX6_worthOf_52 : decode cX6_worthOf 52 = .ok (.istore 8, 2) := by decide +kernel
theorem dX6_worthOf_54 : decode cX6_worthOf 54 = .ok (.iload_n 1, 1) := by decide +kernel
theorem dX6_worthOf_55 : decode cX6_worthOf 55 = .ok (.iload 7, 2) := by decide +kernel
theorem dX6_worthOf_57 : decode cX6_worthOf 57 = .ok (.iload 8, 2) := by decide +kernel
theorem dX6_worthOf_59 : decode cX6_worthOf 59 = .ok (.isub, 1) := by decide +kernel
theorem dX6_worthOf_60 : decode cX6_worthOf 60 = .ok (.imul, 1) := by decide +kernel
theorem dX6_worthOf_61 : decode cX6_worthOf 61 = .ok (.bipush 16, 2) := by decide +kernel
theorem dX6_worthOf_63 : decode cX6_worthOf 63 = .ok (.imul, 1) := by decide +kernel
theorem dX6_worthOf_64 : decode cX6_worthOf 64 = .ok (.ldc 124, 2) := by decide +kernel
theorem dX6_worthOf_66 : decode cX6_worthOf 66 = .ok (.irem, 1) := by decide +kernel
theorem dX6_worthOf_67 : decode cX6_worthOf 67 = .ok (.istore 9, 2) := by decide +kernel
theorem dX6_worthOf_69 : decode cX6_worthOf 69 = .ok (.iload 9, 2) := by decide +kernel
theorem dX6_worthOf_71 : decode cX6_worthOf 71 = .ok (.invokestatic 111, 3) := by decide +kernel
theorem dX6_worthOf_74 : decode cX6_worthOf 74 = .ok (.lstore 10, 2) := by decide +kernel
theorem dX6_worthOf_76 : decode cX6_worthOf 76 = .ok (.iload 9, 2) := by decide +kernel
theorem dX6_worthOf_78 : decode cX6_worthOf 78 = .ok (.sipush 16384, 3) := by decide +kernel
theorem dX6_worthOf_81 : decode cX6_worthOf 81 = .ok (.iadd, 1) := by decide +kernel
theorem dX6_worthOf_82 : decode cX6_worthOf 82 = .ok (.ldc 124, 2) := by decide +kernel
theorem dX6_worthOf_84 : decode cX6_worthOf 84 = .ok (.irem, 1) := by decide +kernel
theorem dX6_worthOf_85 : decode cX6_worthOf 85 = .ok (.invokestatic 111, 3) := by decide +kernel
theorem dX6_worthOf_88 : decode cX6_worthOf 88 = .ok (.lstore 12, 2) := by decide +kernel
theorem dX6_worthOf_90 : decode cX6_worthOf 90 = .ok (.aload_n 0, 1) := by decide +kernel
theorem dX6_worthOf_91 : decode cX6_worthOf 91 = .ok (.getfield 13, 3) := by decide +kernel
theorem dX6_worthOf_94 : decode cX6_worthOf 94 = .ok (.aload_n 0, 1) := by decide +kernel
theorem dX6_worthOf_95 : decode cX6_worthOf 95 = .ok (.iload 7, 2) := by decide +kernel
theorem dX6_worthOf_97 : decode cX6_worthOf 97 = .ok (.invokevirtual 90, 3) := by decide +kernel
theorem dX6_worthOf_100 : decode cX6_worthOf 100 = .ok (.iaload, 1) := by decide +kernel
theorem dX6_worthOf_101 : decode cX6_worthOf 101 = .ok (.i2l, 1) := by decide +kernel
theorem dX6_worthOf_102 : decode cX6_worthOf 102 = .ok (.lstore 14, 2) := by decide +kernel
theorem dX6_worthOf_104 : decode cX6_worthOf 104 = .ok (.lload_n 3, 1) := by decide +kernel
theorem dX6_worthOf_105 : decode cX6_worthOf 105 = .ok (.lload 12, 2) := by decide +kernel
theorem dX6_worthOf_107 : decode cX6_worthOf 107 = .ok (.lmul, 1) := by decide +kernel
theorem dX6_worthOf_108 : decode cX6_worthOf 108 = .ok (.bipush 15, 2) := by decide +kernel
theorem dX6_worthOf_110 : decode cX6_worthOf 110 = .ok (.lshr, 1) := by decide +kernel
theorem dX6_worthOf_111 : decode cX6_worthOf 111 = .ok (.lload 5, 2) := by decide +kernel
theorem dX6_worthOf_113 : decode cX6_worthOf 113 = .ok (.lload 10, 2) := by decide +kernel
theorem dX6_worthOf_115 : decode cX6_worthOf 115 = .ok (.lmul, 1) := by decide +kernel
theorem dX6_worthOf_116 : decode cX6_worthOf 116 = .ok (.bipush 15, 2) := by decide +kernel
theorem dX6_worthOf_118 : decode cX6_worthOf 118 = .ok (.lshr, 1) := by decide +kernel
theorem dX6_worthOf_119 : decode cX6_worthOf 119 = .ok (.ldc2_w 125, 3) := by decide +kernel
theorem dX6_worthOf_122 : decode cX6_worthOf 122 = .ok (.lmul, 1) := by decide +kernel
theorem dX6_worthOf_123 : decode cX6_worthOf 123 = .ok (.lload 14, 2) := by decide +kernel
theorem dX6_worthOf_125 : decode cX6_worthOf 125 = .ok (.lload 14, 2) := by decide +kernel
theorem dX6_worthOf_127 : decode cX6_worthOf 127 = .ok (.lmul, 1) := by decide +kernel
theorem dX6_worthOf_128 : decode cX6_worthOf 128 = .ok (.ldiv, 1) := by decide +kernel
theorem dX6_worthOf_129 : decode cX6_worthOf 129 = .ok (.ladd, 1) := by decide +kernel
theorem dX6_worthOf_130 : decode cX6_worthOf 130 = .ok (.lstore 16, 2) := by decide +kernel
theorem dX6_worthOf_132 : decode cX6_worthOf 132 = .ok (.lload 5, 2) := by decide +kernel
theorem dX6_worthOf_134 : decode cX6_worthOf 134 = .ok (.lload 12, 2) := by decide +kernel
theorem dX6_worthOf_136 : decode cX6_worthOf 136 = .ok (.lmul, 1) := by decide +kernel
theorem dX6_worthOf_137 : decode cX6_worthOf 137 = .ok (.bipush 15, 2) := by decide +kernel
theorem dX6_worthOf_139 : decode cX6_worthOf 139 = .ok (.lshr, 1) := by decide +kernel
theorem dX6_worthOf_140 : decode cX6_worthOf 140 = .ok (.lload_n 3, 1) := by decide +kernel
theorem dX6_worthOf_141 : decode cX6_worthOf 141 = .ok (.lload 10, 2) := by decide +kernel
theorem dX6_worthOf_143 : decode cX6_worthOf 143 = .ok (.lmul, 1) := by decide +kernel
theorem dX6_worthOf_144 : decode cX6_worthOf 144 = .ok (.bipush 15, 2) := by decide +kernel
theorem dX6_worthOf_146 : decode cX6_worthOf 146 = .ok (.lshr, 1) := by decide +kernel
theorem dX6_worthOf_147 : decode cX6_worthOf 147 = .ok (.lload 14, 2) := by decide +kernel
theorem dX6_worthOf_149 : decode cX6_worthOf 149 = .ok (.lload 14, 2) := by decide +kernel
theorem dX6_worthOf_151 : decode cX6_worthOf 151 = .ok (.lmul, 1) := by decide +kernel
theorem dX6_worthOf_152 : decode cX6_worthOf 152 = .ok (.lmul, 1) := by decide +kernel
theorem dX6_worthOf_153 : decode cX6_worthOf 153 = .ok (.ldc2_w 125, 3) := by decide +kernel
theorem dX6_worthOf_156 : decode cX6_worthOf 156 = .ok (.ldiv, 1) := by decide +kernel
theorem dX6_worthOf_157 : decode cX6_worthOf 157 = .ok (.lsub, 1) := by decide +kernel
theorem dX6_worthOf_158 : decode cX6_worthOf 158 = .ok (.lstore 18, 2) := by decide +kernel
theorem dX6_worthOf_160 : decode cX6_worthOf 160 = .ok (.lload 16, 2) := by decide +kernel
theorem dX6_worthOf_162 : decode cX6_worthOf 162 = .ok (.lstore_n 3, 1) := by decide +kernel
theorem dX6_worthOf_163 : decode cX6_worthOf 163 = .ok (.lload 18, 2) := by decide +kernel
theorem dX6_worthOf_165 : decode cX6_worthOf 165 = .ok (.lstore 5, 2) := by decide +kernel
theorem dX6_worthOf_167 : decode cX6_worthOf 167 = .ok (.lload_n 3, 1) := by decide +kernel
theorem dX6_worthOf_168 : decode cX6_worthOf 168 = .ok (.invokestatic 127, 3) := by decide +kernel
theorem dX6_worthOf_171 : decode cX6_worthOf 171 = .ok (.ifCond .ne 11, 3) := by decide +kernel
theorem dX6_worthOf_174 : decode cX6_worthOf 174 = .ok (.lload 5, 2) := by decide +kernel
theorem dX6_worthOf_176 : decode cX6_worthOf 176 = .ok (.invokestatic 127, 3) := by decide +kernel
theorem dX6_worthOf_179 : decode cX6_worthOf 179 = .ok (.ifCond .eq 18, 3) := by decide +kernel
theorem dX6_worthOf_182 : decode cX6_worthOf 182 = .ok (.lload_n 3, 1) := by decide +kernel
theorem dX6_worthOf_183 : decode cX6_worthOf 183 = .ok (.bipush 8, 2) := by decide +kernel
theorem dX6_worthOf_185 : decode cX6_worthOf 185 = .ok (.lshr, 1) := by decide +kernel
theorem dX6_worthOf_186 : decode cX6_worthOf 186 = .ok (.lstore_n 3, 1) := by decide +kernel
theorem dX6_worthOf_187 : decode cX6_worthOf 187 = .ok (.lload 5, 2) := by decide +kernel
theorem dX6_worthOf_189 : decode cX6_worthOf 189 = .ok (.bipush 8, 2) := by decide +kernel
theorem dX6_worthOf_191 : decode cX6_worthOf 191 = .ok (.lshr, 1) := by decide +kernel
theorem dX6_worthOf_192 : decode cX6_worthOf 192 = .ok (.lstore 5, 2) := by decide +kernel
theorem dX6_worthOf_194 : decode cX6_worthOf 194 = .ok (.goto (-27), 3) := by decide +kernel
theorem dX6_worthOf_197 : decode cX6_worthOf 197 = .ok (.aload_n 0, 1) := by decide +kernel
theorem dX6_worthOf_198 : decode cX6_worthOf 198 = .ok (.iload 8, 2) := by decide +kernel
theorem dX6_worthOf_200 : decode cX6_worthOf 200 = .ok (.invokevirtual 74, 3) := by decide +kernel
theorem dX6_worthOf_203 : decode cX6_worthOf 203 = .ok (.istore 20, 2) := by decide +kernel
theorem dX6_worthOf_205 : decode cX6_worthOf 205 = .ok (.iload 20, 2) := by decide +kernel
theorem dX6_worthOf_207 : decode cX6_worthOf 207 = .ok (.ifCond .lt 62, 3) := by decide +kernel
theorem dX6_worthOf_210 : decode cX6_worthOf 210 = .ok (.iload_n 2, 1) := by decide +kernel
theorem dX6_worthOf_211 : decode cX6_worthOf 211 = .ok (.iload 20, 2) := by decide +kernel
theorem dX6_worthOf_213 : decode cX6_worthOf 213 = .ok (.ishr, 1) := by decide +kernel
theorem dX6_worthOf_214 : decode cX6_worthOf 214 = .ok (.iconst 1, 1) := by decide +kernel
theorem dX6_worthOf_215 : decode cX6_worthOf 215 = .ok (.iand, 1) := by decide +kernel
theorem dX6_worthOf_216 : decode cX6_worthOf 216 = .ok (.iconst 1, 1) := by decide +kernel
theorem dX6_worthOf_217 : decode cX6_worthOf 217 = .ok (.if_icmp .ne 52, 3) := by decide +kernel
theorem dX6_worthOf_220 : decode cX6_worthOf 220 = .ok (.aload_n 0, 1) := by decide +kernel
theorem dX6_worthOf_221 : decode cX6_worthOf 221 = .ok (.getfield 16, 3) := by decide +kernel
theorem dX6_worthOf_224 : decode cX6_worthOf 224 = .ok (.iconst 3, 1) := by decide +kernel
theorem dX6_worthOf_225 : decode cX6_worthOf 225 = .ok (.iload 20, 2) := by decide +kernel
theorem dX6_worthOf_227 : decode cX6_worthOf 227 = .ok (.imul, 1) := by decide +kernel
theorem dX6_worthOf_228 : decode cX6_worthOf 228 = .ok (.iconst 1, 1) := by decide +kernel
theorem dX6_worthOf_229 : decode cX6_worthOf 229 = .ok (.iadd, 1) := by decide +kernel
theorem dX6_worthOf_230 : decode cX6_worthOf 230 = .ok (.iaload, 1) := by decide +kernel
theorem dX6_worthOf_231 : decode cX6_worthOf 231 = .ok (.i2l, 1) := by decide +kernel
theorem dX6_worthOf_232 : decode cX6_worthOf 232 = .ok (.lstore 21, 2) := by decide +kernel
theorem dX6_worthOf_234 : decode cX6_worthOf 234 = .ok (.lload 5, 2) := by decide +kernel
theorem dX6_worthOf_236 : decode cX6_worthOf 236 = .ok (.lload_n 3, 1) := by decide +kernel
theorem dX6_worthOf_237 : decode cX6_worthOf 237 = .ok (.lload 21, 2) := by decide +kernel
theorem dX6_worthOf_239 : decode cX6_worthOf 239 = .ok (.lmul, 1) := by decide +kernel
theorem dX6_worthOf_240 : decode cX6_worthOf 240 = .ok (.lload 21, 2) := by decide +kernel
theorem dX6_worthOf_242 : decode cX6_worthOf 242 = .ok (.lmul, 1) := by decide +kernel
theorem dX6_worthOf_243 : decode cX6_worthOf 243 = .ok (.ldc2_w 131, 3) := by decide +kernel
theorem dX6_worthOf_246 : decode cX6_worthOf 246 = .ok (.lload 21, 2) := by decide +kernel
theorem dX6_worthOf_248 : decode cX6_worthOf 248 = .ok (.aload_n 0, 1) := by decide +kernel
theorem dX6_worthOf_249 : decode cX6_worthOf 249 = .ok (.getfield 16, 3) := by decide +kernel
theorem dX6_worthOf_252 : decode cX6_worthOf 252 = .ok (.iconst 3, 1) := by decide +kernel
theorem dX6_worthOf_253 : decode cX6_worthOf 253 = .ok (.iload 20, 2) := by decide +kernel
theorem dX6_worthOf_255 : decode cX6_worthOf 255 = .ok (.imul, 1) := by decide +kernel
theorem dX6_worthOf_256 : decode cX6_worthOf 256 = .ok (.iconst 2, 1) := by decide +kernel
theorem dX6_worthOf_257 : decode cX6_worthOf 257 = .ok (.iadd, 1) := by decide +kernel
theorem dX6_worthOf_258 : decode cX6_worthOf 258 = .ok (.iaload, 1) := by decide +kernel
theorem dX6_worthOf_259 : decode cX6_worthOf 259 = .ok (.i2l, 1) := by decide +kernel
theorem dX6_worthOf_260 : decode cX6_worthOf 260 = .ok (.ladd, 1) := by decide +kernel
theorem dX6_worthOf_261 : decode cX6_worthOf 261 = .ok (.lmul, 1) := by decide +kernel
theorem dX6_worthOf_262 : decode cX6_worthOf 262 = .ok (.iload_n 1, 1) := by decide +kernel
theorem dX6_worthOf_263 : decode cX6_worthOf 263 = .ok (.i2l, 1) := by decide +kernel
theorem dX6_worthOf_264 : decode cX6_worthOf 264 = .ok (.lmul, 1) := by decide +kernel
theorem dX6_worthOf_265 : decode cX6_worthOf 265 = .ok (.ldiv, 1) := by decide +kernel
theorem dX6_worthOf_266 : decode cX6_worthOf 266 = .ok (.ladd, 1) := by decide +kernel
theorem dX6_worthOf_267 : decode cX6_worthOf 267 = .ok (.lstore 5, 2) := by decide +kernel
theorem dX6_worthOf_269 : decode cX6_worthOf 269 = .ok (.iload 8, 2) := by decide +kernel
theorem dX6_worthOf_271 : decode cX6_worthOf 271 = .ok (.istore 7, 2) := by decide +kernel
theorem dX6_worthOf_273 : decode cX6_worthOf 273 = .ok (.goto (-232), 3) := by decide +kernel
theorem dX6_worthOf_276 : decode cX6_worthOf 276 = .ok (.aload_n 0, 1) := by decide +kernel
theorem dX6_worthOf_277 : decode cX6_worthOf 277 = .ok (.getfield 19, 3) := by decide +kernel
theorem dX6_worthOf_280 : decode cX6_worthOf 280 = .ok (.iconst 0, 1) := by decide +kernel
theorem dX6_worthOf_281 : decode cX6_worthOf 281 = .ok (.iaload, 1) := by decide +kernel
theorem dX6_worthOf_282 : decode cX6_worthOf 282 = .ok (.ifCond .ne 7, 3) := by decide +kernel
theorem dX6_worthOf_285 : decode cX6_worthOf 285 = .ok (.lload_n 3, 1) := by decide +kernel
theorem dX6_worthOf_286 : decode cX6_worthOf 286 = .ok (.goto 5, 3) := by decide +kernel
theorem dX6_worthOf_289 : decode cX6_worthOf 289 = .ok (.lload 5, 2) := by decide +kernel
theorem dX6_worthOf_291 : decode cX6_worthOf 291 = .ok (.lreturn, 1) := by decide +kernel
set_option maxRecDepth 20000 in
theorem ggX6_isSet_X6_in : GoodIn wsX6_isSet wsX6_in := goodIn_r _ [5] (by decide +kernel) (by decide +kernel)
set_option maxRecDepth 20000 in
theorem gX6_isSet_X6_in : GoodIn wsX6_isSet (va_wsS RX6 47 yX6_in wsX6_in) := goodIn_app (goodIn_of _ (by decide +kernel)) ggX6_isSet_X6_in
theorem dX6_isSet_0 : decode cX6_isSet 0 = .ok (.iload_n 0, 1) := by decide +kernel
theorem dX6_isSet_1 : decode cX6_isSet 1 = .ok (.i2l, 1) := by decide +kernel
theorem dX6_isSet_2 : decode cX6_isSet 2 = .ok (.lconst 0, 1) := by decide +kernel
theorem dX6_isSet_3 : decode cX6_isSet 3 = .ok (.ldc2_w 133, 3) := by decide +kernel
theorem dX6_isSet_6 : decode cX6_isSet 6 = .ok (.invokestatic 47, 3) := by decide +kernel
theorem dX6_isSet_9 : decode cX6_isSet 9 = .ok (.ireturn, 1) := by decide +kernel
set_option maxRecDepth 20000 in
theorem ggX6_worth_X6_in : GoodIn wsX6_worth wsX6_in := goodIn_r _ [8] (by decide +kernel) (by decide +kernel)
set_option maxRecDepth 20000 in
theorem gX6_worth_X6_in : GoodIn wsX6_worth (va_wsS RX6 47 yX6_in wsX6_in) := goodIn_app (goodIn_of _ (by decide +kernel)) ggX6_worth_X6_in
set_option maxRecDepth 20000 in
theorem ggX6_worth_X6_isSet : GoodIn wsX6_worth wsX6_isSet := goodIn_r _ [11, 12, 5, 6, 7, 8] (by decide +kernel) (by decide +kernel)
set_option maxRecDepth 20000 in
theorem gX6_worth_X6_isSet : GoodIn wsX6_worth (va_wsS RX6 137 yX6_isSet wsX6_isSet) := goodIn_app (goodIn_of _ (by decide +kernel)) ggX6_worth_X6_isSet
set_option maxRecDepth 20000 in
theorem ggX6_worth_X6_worthOf : GoodIn wsX6_worth wsX6_worthOf := goodIn_r _ [16, 17, 18, 19, 20, 21, 22, 23, 24, 25, 26, 7, 27, 3, 28, 29, 30, 31, 32, 33, 34, 35, 36, 37, 38, 39, 40, 41, 42, 43, 44, 45, 46, 47, 48, 49, 50, 51, 52, 53, 54, 55, 56, 57, 58, 59, 60, 61, 62, 63, 64, 65, 66, 67, 68] (by decide +kernel) (by decide +kernel)
set_option maxRecDepth 20000 in
theorem gX6_worth_X6_worthOf : GoodIn wsX6_worth (wsV RX6 144 RX6 yX6_worthOf wsX6_worthOf) := goodIn_app (goodIn_of _ (by decide +kernel)) ggX6_worth_X6_worthOf
theorem dX6_worth_0 : decode cX6_worth 0 = .ok (.iload_n 1, 1) := by decide +kernel
theorem dX6_worth_1 : decode cX6_worth 1 = .ok (.i2l, 1) := by decide +kernel
theorem dX6_worth_2 : decode cX6_worth 2 = .ok (.lconst 1, 1) := by decide +kernel
theorem dX6_worth_3 : decode cX6_worth 3 = .ok (.ldc2_w 135, 3) := by decide +kernel
theorem dX6_worth_6 : decode cX6_worth 6 = .ok (.invokestatic 47, 3) := by decide +kernel
theorem dX6_worth_9 : decode cX6_worth 9 = .ok (.ifCond .eq 10, 3) := by decide +kernel
theorem dX6_worth_12 : decode cX6_worth 12 = .ok (.iload_n 2, 1) := by decide +kernel
theorem dX6_worth_13 : decode cX6_worth 13 = .ok (.invokestatic 137, 3) := by decide +kernel
theorem dX6_worth_16 : decode cX6_worth 16 = .ok (.ifCond .ne 7, 3) := by decide +kernel
theorem dX6_worth_19 : decode cX6_worth 19 = .ok (.ldc2_w 140, 3) := by decide +kernel
theorem dX6_worth_22 : decode cX6_worth 22 = .ok (.lreturn, 1) := by decide +kernel
theorem dX6_worth_23 : decode cX6_worth 23 = .ok (.aload_n 0, 1) := by decide +kernel
theorem dX6_worth_24 : decode cX6_worth 24 = .ok (.getfield 42, 3) := by decide +kernel
theorem dX6_worth_27 : decode cX6_worth 27 = .ok (.ifCond .ne 9, 3) := by decide +kernel
theorem dX6_worth_30 : decode cX6_worth 30 = .ok (.ldc2_w 142, 3) := by decide +kernel
theorem dX6_worth_33 : decode cX6_worth 33 = .ok (.goto 9, 3) := by decide +kernel
theorem dX6_worth_36 : decode cX6_worth 36 = .ok (.aload_n 0, 1) := by decide +kernel
theorem dX6_worth_37 : decode cX6_worth 37 = .ok (.iload_n 1, 1) := by decide +kernel
theorem dX6_worth_38 : decode cX6_worth 38 = .ok (.iload_n 2, 1) := by decide +kernel
theorem dX6_worth_39 : decode cX6_worth 39 = .ok (.invokevirtual 144, 3) := by decide +kernel
theorem dX6_worth_42 : decode cX6_worth 42 = .ok (.lreturn, 1) := by decide +kernel
set_option maxRecDepth 20000 in
theorem ggX6_toneOf_X6_worthOf : GoodIn wsX6_toneOf wsX6_worthOf := goodIn_r _ [7, 8, 9, 10, 11, 12, 13, 14, 15, 16, 17, 6, 18, 2, 19, 20, 21, 22, 23, 24, 25, 26, 27, 28, 29, 30, 31, 32, 33, 34, 35, 36, 37, 38, 39, 40, 41, 42, 43, 44, 45, 46, 47, 48, 49, 50, 51, 52, 53, 54, 55, 56, 57, 58, 59] (by decide +kernel) (by decide +kernel)
set_option maxRecDepth 20000 in
theorem gX6_toneOf_X6_worthOf : GoodIn wsX6_toneOf (wsV RX6 144 RX6 yX6_worthOf wsX6_worthOf) := goodIn_app (goodIn_of _ (by decide +kernel)) ggX6_toneOf_X6_worthOf
theorem dX6_toneOf_0 : decode cX6_toneOf 0 = .ok (.aload_n 0, 1) := by decide +kernel
theorem dX6_toneOf_1 : decode cX6_toneOf 1 = .ok (.iconst 0, 1) := by decide +kernel
theorem dX6_toneOf_2 : decode cX6_toneOf 2 = .ok (.putfield 148, 3) := by decide +kernel
theorem dX6_toneOf_5 : decode cX6_toneOf 5 = .ok (.aload_n 0, 1) := by decide +kernel
theorem dX6_toneOf_6 : decode cX6_toneOf 6 = .ok (.getfield 42, 3) := by decide +kernel
theorem dX6_toneOf_9 : decode cX6_toneOf 9 = .ok (.ifCond .ne 5, 3) := by decide +kernel
theorem dX6_toneOf_12 : decode cX6_toneOf 12 = .ok (.iconst (-1), 1) := by decide +kernel
theorem dX6_toneOf_13 : decode cX6_toneOf 13 = .ok (.ireturn, 1) := by decide +kernel
theorem dX6_toneOf_14 : decode cX6_toneOf 14 = .ok (.aload_n 0, 1) := by decide +kernel
theorem dX6_toneOf_15 : decode cX6_toneOf 15 = .ok (.iconst 1, 1) := by decide +kernel
theorem dX6_toneOf_16 : decode cX6_toneOf 16 = .ok (.iload_n 1, 1) := by decide +kernel
theorem dX6_toneOf_17 : decode cX6_toneOf 17 = .ok (.invokevirtual 144, 3) := by decide +kernel
theorem dX6_toneOf_20 : decode cX6_toneOf 20 = .ok (.lconst 0, 1) := by decide +kernel
theorem dX6_toneOf_21 : decode cX6_toneOf 21 = .ok (.lcmp, 1) := by decide +kernel
theorem dX6_toneOf_22 : decode cX6_toneOf 22 = .ok (.ifCond .le 7, 3) := by decide +kernel
theorem dX6_toneOf_25 : decode cX6_toneOf 25 = .ok (.iconst 1, 1) := by decide +kernel
theorem dX6_toneOf_26 : decode cX6_toneOf 26 = .ok (.goto 4, 3) := by decide +kernel
theorem dX6_toneOf_29 : decode cX6_toneOf 29 = .ok (.iconst 0, 1) := by decide +kernel
theorem dX6_toneOf_30 : decode cX6_toneOf 30 = .ok (.istore_n 3, 1) := by decide +kernel
theorem dX6_toneOf_31 : decode cX6_toneOf 31 = .ok (.iconst 1, 1) := by decide +kernel
theorem dX6_toneOf_32 : decode cX6_toneOf 32 = .ok (.istore 4, 2) := by decide +kernel
theorem dX6_toneOf_34 : decode cX6_toneOf 34 = .ok (.iload 4, 2) := by decide +kernel
theorem dX6_toneOf_36 : decode cX6_toneOf 36 = .ok (.sipush 300, 3) := by decide +kernel
theorem dX6_toneOf_39 : decode cX6_toneOf 39 = .ok (.if_icmp .ge 60, 3) := by decide +kernel
theorem dX6_toneOf_42 : decode cX6_toneOf 42 = .ok (.aload_n 0, 1) := by decide +kernel
theorem dX6_toneOf_43 : decode cX6_toneOf 43 = .ok (.iload 4, 2) := by decide +kernel
theorem dX6_toneOf_45 : decode cX6_toneOf 45 = .ok (.iconst 1, 1) := by decide +kernel
theorem dX6_toneOf_46 : decode cX6_toneOf 46 = .ok (.iadd, 1) := by decide +kernel
theorem dX6_toneOf_47 : decode cX6_toneOf 47 = .ok (.iload_n 1, 1) := by decide +kernel
theorem dX6_toneOf_48 : decode cX6_toneOf 48 = .ok (.invokevirtual 144, 3) := by decide +kernel
theorem dX6_toneOf_51 : decode cX6_toneOf 51 = .ok (.lconst 0, 1) := by decide +kernel
theorem dX6_toneOf_52 : decode cX6_toneOf 52 = .ok (.lcmp, 1) := by decide +kernel
theorem dX6_toneOf_53 : decode cX6_toneOf 53 = .ok (.ifCond .le 7, 3) := by decide +kernel
theorem dX6_toneOf_56 : decode cX6_toneOf 56 = .ok (.iconst 1, 1) := by decide +kernel
theorem dX6_toneOf_57 : decode cX6_toneOf 57 = .ok (.goto 4, 3) := by decide +kernel
theorem dX6_toneOf_60 : decode cX6_toneOf 60 = .ok (.iconst 0, 1) := by decide +kernel
theorem dX6_toneOf_61 : decode cX6_toneOf 61 = .ok (.istore 5, 2) := by decide +kernel
theorem dX6_toneOf_63 : decode cX6_toneOf 63 = .ok (.iload_n 3, 1) := by decide +kernel
theorem dX6_toneOf_64 : decode cX6_toneOf 64 = .ok (.iload 5, 2) := by decide +kernel
theorem dX6_toneOf_66 : decode cX6_toneOf 66 = .ok (.if_icmp .eq 24, 3) := by decide +kernel
theorem dX6_toneOf_69 : decode cX6_toneOf 69 = .ok (.aload_n 0, 1) := by decide +kernel
theorem dX6_toneOf_70 : decode cX6_toneOf 70 = .ok (.getfield 148, 3) := by decide +kernel
theorem dX6_toneOf_73 : decode cX6_toneOf 73 = .ok (.iload_n 2, 1) := by decide +kernel
theorem dX6_toneOf_74 : decode cX6_toneOf 74 = .ok (.if_icmp .ne 6, 3) := by decide +kernel
theorem dX6_toneOf_77 : decode cX6_toneOf 77 = .ok (.iload 4, 2) := by decide +kernel
theorem dX6_toneOf_79 : decode cX6_toneOf 79 = .ok (.ireturn, 1) := by decide +kernel
theorem dX6_toneOf_80 : decode cX6_toneOf 80 = .ok (.aload_n 0, 1) := by decide +kernel
theorem dX6_toneOf_81 : decode cX6_toneOf 81 = .ok (.dup, 1) := by decide +kernel
theorem dX6_toneOf_82 : decode cX6_toneOf 82 = .ok (.getfield 148, 3) := by decide +kernel
theorem dX6_toneOf_85 : decode cX6_toneOf 85 = .ok (.iconst 1, 1) := by decide +kernel
theorem dX6_toneOf_86 : decode cX6_toneOf 86 = .ok (.iadd, 1) := by decide +kernel
theorem dX6_toneOf_87 : decode cX6_toneOf 87 = .ok (.putfield 148, 3) := by decide +kernel
theorem dX6_toneOf_90 : decode cX6_toneOf 90 = .ok (.iload 5, 2) := by decide +kernel
theorem dX6_toneOf_92 : decode cX6_toneOf 92 = .ok (.istore_n 3, 1) := by decide +kernel
theorem dX6_toneOf_93 : decode cX6_toneOf 93 = .ok (.iinc 4 1, 3) := by decide +kernel
theorem dX6_toneOf_96 : decode cX6_toneOf 96 = .ok (.goto (-62), 3) := by decide +kernel
theorem dX6_toneOf_99 : decode cX6_toneOf 99 = .ok (.iconst (-1), 1) := by decide +kernel
theorem dX6_toneOf_100 : decode cX6_toneOf 100 = .ok (.ireturn, 1) := by decide +kernel
set_option maxRecDepth 20000 in
theorem ggX6_tone_X6_isSet : GoodIn wsX6_tone wsX6_isSet := goodIn_r _ [6, 7, 8, 9, 5, 10] (by decide +kernel) (by decide +kernel)
set_option maxRecDepth 20000 in
theorem gX6_tone_X6_isSet : GoodIn wsX6_tone (va_wsS RX6 137 yX6_isSet wsX6_isSet) := goodIn_app (goodIn_of _ (by decide +kernel)) ggX6_tone_X6_isSet
set_option maxRecDepth 20000 in
theorem ggX6_tone_X6_toneOf : GoodIn wsX6_tone wsX6_toneOf := goodIn_r _ [14, 2, 1, 15, 16, 17, 5, 18, 19, 20, 21, 22, 23, 24, 25, 26, 27, 28, 29, 30, 31, 32, 33, 34, 35, 36, 37, 38, 39, 40, 41, 42, 43, 44, 45, 46, 47, 48, 49, 50, 51, 52, 53, 54, 55, 56, 57, 58, 59, 60, 61, 62, 63, 64, 65, 66, 67, 68, 69, 70] (by decide +kernel) (by decide +kernel)
set_option maxRecDepth 20000 in
theorem gX6_tone_X6_toneOf : GoodIn wsX6_tone (wsV RX6 151 RX6 yX6_toneOf wsX6_toneOf) := goodIn_app (goodIn_of _ (by decide +kernel)) ggX6_tone_X6_toneOf
theorem dX6_tone_0 : decode cX6_tone 0 = .ok (.iload_n 1, 1) := by decide +kernel
theorem dX6_tone_1 : decode cX6_tone 1 = .ok (.invokestatic 137, 3) := by decide +kernel
theorem dX6_tone_4 : decode cX6_tone 4 = .ok (.ifCond .eq 8, 3) := by decide +kernel
theorem dX6_tone_7 : decode cX6_tone 7 = .ok (.iload_n 2, 1) := by decide +kernel
theorem dX6_tone_8 : decode cX6_tone 8 = .ok (.iconst (-1), 1) := by decide +kernel
theorem dX6_tone_9 : decode cX6_tone 9 = .ok (.if_icmp .ge 7, 3) := by decide +kernel
theorem dX6_tone_12 : decode cX6_tone 12 = .ok (.sipush (-1002), 3) := by decide +kernel
theorem dX6_tone_15 : decode cX6_tone 15 = .ok (.ireturn, 1) := by decide +kernel
theorem dX6_tone_16 : decode cX6_tone 16 = .ok (.aload_n 0, 1) := by decide +kernel
theorem dX6_tone_17 : decode cX6_tone 17 = .ok (.getfield 42, 3) := by decide +kernel
theorem dX6_tone_20 : decode cX6_tone 20 = .ok (.ifCond .ne 7, 3) := by decide +kernel
theorem dX6_tone_23 : decode cX6_tone 23 = .ok (.sipush (-1003), 3) := by decide +kernel
theorem dX6_tone_26 : decode cX6_tone 26 = .ok (.ireturn, 1) := by decide +kernel
theorem dX6_tone_27 : decode cX6_tone 27 = .ok (.aload_n 0, 1) := by decide +kernel
theorem dX6_tone_28 : decode cX6_tone 28 = .ok (.iload_n 1, 1) := by decide +kernel
theorem dX6_tone_29 : decode cX6_tone 29 = .ok (.iload_n 2, 1) := by decide +kernel
theorem dX6_tone_30 : decode cX6_tone 30 = .ok (.invokevirtual 151, 3) := by decide +kernel
theorem dX6_tone_33 : decode cX6_tone 33 = .ok (.istore_n 3, 1) := by decide +kernel
theorem dX6_tone_34 : decode cX6_tone 34 = .ok (.iload_n 2, 1) := by decide +kernel
theorem dX6_tone_35 : decode cX6_tone 35 = .ok (.iconst (-1), 1) := by decide +kernel
theorem dX6_tone_36 : decode cX6_tone 36 = .ok (.if_icmp .ne 10, 3) := by decide +kernel
theorem dX6_tone_39 : decode cX6_tone 39 = .ok (.aload_n 0, 1) := by decide +kernel
theorem dX6_tone_40 : decode cX6_tone 40 = .ok (.getfield 148, 3) := by decide +kernel
theorem dX6_tone_43 : decode cX6_tone 43 = .ok (.goto 4, 3) := by decide +kernel
theorem dX6_tone_46 : decode cX6_tone 46 = .ok (.iload_n 3, 1) := by decide +kernel
theorem dX6_tone_47 : decode cX6_tone 47 = .ok (.ireturn, 1) := by decide +kernel
set_option maxRecDepth 20000 in
theorem ggX6_nearest_X6_in : GoodIn wsX6_nearest wsX6_in := goodIn_r _ [7] (by decide +kernel) (by decide +kernel)
set_option maxRecDepth 20000 in
theorem gX6_nearest_X6_in : GoodIn wsX6_nearest (va_wsS RX6 47 yX6_in wsX6_in) := goodIn_app (goodIn_of _ (by decide +kernel)) ggX6_nearest_X6_in
set_option maxRecDepth 20000 in
theorem ggX6_nearest_X6_toneOf : GoodIn wsX6_nearest wsX6_toneOf := goodIn_r _ [11, 12, 2, 13, 14, 15, 6, 16, 17, 18, 19, 20, 21, 22, 23, 24, 25, 26, 27, 28, 29, 30, 31, 32, 3, 33, 34, 35, 36, 37, 38, 39, 40, 41, 42, 43, 44, 45, 46, 47, 48, 49, 50, 51, 52, 53, 54, 55, 56, 57, 58, 59, 60, 61, 62, 63, 64, 65, 66, 67] (by decide +kernel) (by decide +kernel)
set_option maxRecDepth 20000 in
theorem gX6_nearest_X6_toneOf : GoodIn wsX6_nearest (wsV RX6 151 RX6 yX6_toneOf wsX6_toneOf) := goodIn_app (goodIn_of _ (by decide +kernel)) ggX6_nearest_X6_toneOf
theorem dX6_nearest_0 : decode cX6_nearest 0 = .ok (.iload_n 1, 1) := by decide +kernel
theorem dX6_nearest_1 : decode cX6_nearest 1 = .ok (.i2l, 1) := by decide +kernel
theorem dX6_nearest_2 : decode cX6_nearest 2 = .ok (.lconst 1, 1) := by decide +kernel
theorem dX6_nearest_3 : decode cX6_nearest 3 = .ok (.ldc2_w 135, 3) := by decide +kernel
theorem dX6_nearest_6 : decode cX6_nearest 6 = .ok (.invokestatic 47, 3) := by decide +kernel
theorem dX6_nearest_9 : decode cX6_nearest 9 = .ok (.ifCond .eq 13, 3) := by decide +kernel
theorem dX6_nearest_12 : decode cX6_nearest 12 = .ok (.iload_n 2, 1) := by decide +kernel
theorem dX6_nearest_13 : decode cX6_nearest 13 = .ok (.i2l, 1) := by decide +kernel
theorem dX6_nearest_14 : decode cX6_nearest 14 = .ok (.lconst 0, 1) := by decide +kernel
theorem dX6_nearest_15 : decode cX6_nearest 15 = .ok (.lconst 1, 1) := by decide +kernel
theorem dX6_nearest_16 : decode cX6_nearest 16 = .ok (.invokestatic 47, 3) := by decide +kernel
theorem dX6_nearest_19 : decode cX6_nearest 19 = .ok (.ifCond .ne 7, 3) := by decide +kernel
theorem dX6_nearest_22 : decode cX6_nearest 22 = .ok (.sipush (-1002), 3) := by decide +kernel
theorem dX6_nearest_25 : decode cX6_nearest 25 = .ok (.ireturn, 1) := by decide +kernel
theorem dX6_nearest_26 : decode cX6_nearest 26 = .ok (.aload_n 0, 1) := by decide +kernel
theorem dX6_nearest_27 : decode cX6_nearest 27 = .ok (.getfield 42, 3) := by decide +kernel
theorem dX6_nearest_30 : decode cX6_nearest 30 = .ok (.ifCond .ne 7, 3) := by decide +kernel
theorem dX6_nearest_33 : decode cX6_nearest 33 = .ok (.sipush (-1003), 3) := by decide +kernel
theorem dX6_nearest_36 : decode cX6_nearest 36 = .ok (.ireturn, 1) := by decide +kernel
theorem dX6_nearest_37 : decode cX6_nearest 37 = .ok (.iconst (-1), 1) := by decide +kernel
theorem dX6_nearest_38 : decode cX6_nearest 38 = .ok (.istore_n 3, 1) := by decide +kernel
theorem dX6_nearest_39 : decode cX6_nearest 39 = .ok (.iconst (-1), 1) := by decide +kernel
theorem dX6_nearest_40 : decode cX6_nearest 40 = .ok (.istore 4, 2) := by decide +kernel
theorem dX6_nearest_42 : decode cX6_nearest 42 = .ok (.iconst 0, 1) := by decide +kernel
theorem dX6_nearest_43 : decode cX6_nearest 43 = .ok (.istore 5, 2) := by decide +kernel
theorem dX6_nearest_45 : decode cX6_nearest 45 = .ok (.iconst 0, 1) := by decide +kernel
theorem dX6_nearest_46 : decode cX6_nearest 46 = .ok (.istore 6, 2) := by decide +kernel
theorem dX6_nearest_48 : decode cX6_nearest 48 = .ok (.iload 6, 2) := by decide +kernel
theorem dX6_nearest_50 : decode cX6_nearest 50 = .ok (.iconst 1, 1) := by decide +kernel
theorem dX6_nearest_51 : decode cX6_nearest 51 = .ok (.aload_n 0, 1) := by decide +kernel
theorem dX6_nearest_52 : decode cX6_nearest 52 = .ok (.getfield 67, 3) := by decide +kernel
theorem dX6_nearest_55 : decode cX6_nearest 55 = .ok (.ishl, 1) := by decide +kernel
theorem dX6_nearest_56 : decode cX6_nearest 56 = .ok (.if_icmp .ge 64, 3) := by decide +kernel
theorem dX6_nearest_59 : decode cX6_nearest 59 = .ok (.aload_n 0, 1) := by decide +kernel
theorem dX6_nearest_60 : decode cX6_nearest 60 = .ok (.iload 6, 2) := by decide +kernel
theorem dX6_nearest_62 : decode cX6_nearest 62 = .ok (.iconst 0, 1) := by decide +kernel
theorem dX6_nearest_63 : decode cX6_nearest 63 = .ok (.invokevirtual 151, 3) := by decide +kernel
theorem dX6_nearest_66 : decode cX6_nearest 66 = .ok (.istore 7, 2) := by decide +kernel
theorem dX6_nearest_68 : decode cX6_nearest 68 = .ok (.iload 7, 2) := by decide +kernel
theorem dX6_nearest_70 : decode cX6_nearest 70 = .ok (.iload_n 1, 1) := by decide +kernel
theorem dX6_nearest_71 : decode cX6_nearest 71 = .ok (.if_icmp .le 10, 3) := by decide +kernel
theorem dX6_nearest_74 : decode cX6_nearest 74 = .ok (.iload 7, 2) := by decide +kernel
theorem dX6_nearest_76 : decode cX6_nearest 76 = .ok (.iload_n 1, 1) := by decide +kernel
theorem dX6_nearest_77 : decode cX6_nearest 77 = .ok (.isub, 1) := by decide +kernel
theorem dX6_nearest_78 : decode cX6_nearest 78 = .ok (.goto 7, 3) := by decide +kernel
theorem dX6_nearest_81 : decode cX6_nearest 81 = .ok (.iload_n 1, 1) := by decide +kernel
theorem dX6_nearest_82 : decode cX6_nearest 82 = .ok (.iload 7, 2) := by decide +kernel
theorem dX6_nearest_84 : decode cX6_nearest 84 = .ok (.isub, 1) := by decide +kernel
theorem dX6_nearest_85 : decode cX6_nearest 85 = .ok (.istore 8, 2) := by decide +kernel
theorem dX6_nearest_87 : decode cX6_nearest 87 = .ok (.iload 7, 2) := by decide +kernel
theorem dX6_nearest_89 : decode cX6_nearest 89 = .ok (.ifCond .lt 25, 3) := by decide +kernel
theorem dX6_nearest_92 : decode cX6_nearest 92 = .ok (.iload_n 3, 1) := by decide +kernel
theorem dX6_nearest_93 : decode cX6_nearest 93 = .ok (.ifCond .lt 10, 3) := by decide +kernel
theorem dX6_nearest_96 : decode cX6_nearest 96 = .ok (.iload 8, 2) := by decide +kernel
theorem dX6_nearest_98 : decode cX6_nearest 98 = .ok (.iload 5, 2) := by decide +kernel
theorem dX6_nearest_100 : decode cX6_nearest 100 = .ok (.if_icmp .ge 14, 3) := by decide +kernel
theorem dX6_nearest_103 : decode cX6_nearest 103 = .ok (.iload 6, 2) := by decide +kernel
theorem dX6_nearest_105 : decode cX6_nearest 105 = .ok (.istore_n 3, 1) := by decide +kernel
theorem dX6_nearest_106 : decode cX6_nearest 106 = .ok (.iload 7, 2) := by decide +kernel
theorem dX6_nearest_108 : decode cX6_nearest 108 = .ok (.istore 4, 2) := by decide +kernel
theorem dX6_nearest_110 : decode cX6_nearest 110 = .ok (.iload 8, 2) := by decide +kernel
theorem dX6_nearest_112 : decode cX6_nearest 112 = .ok (.istore 5, 2) := by decide +kernel
theorem dX6_nearest_114 : decode cX6_nearest 114 = .ok (.iinc 6 1, 3) := by decide +kernel
theorem dX6_nearest_117 : decode cX6_nearest 117 = .ok (.goto (-69), 3) := by decide +kernel
theorem dX6_nearest_120 : decode cX6_nearest 120 = .ok (.iload_n 2, 1) := by decide +kernel
theorem dX6_nearest_121 : decode cX6_nearest 121 = .ok (.ifCond .ne 7, 3) := by decide +kernel
theorem dX6_nearest_124 : decode cX6_nearest 124 = .ok (.iload_n 3, 1) := by decide +kernel
theorem dX6_nearest_125 : decode cX6_nearest 125 = .ok (.goto 5, 3) := by decide +kernel
theorem dX6_nearest_128 : decode cX6_nearest 128 = .ok (.iload 4, 2) := by decide +kernel
theorem dX6_nearest_130 : decode cX6_nearest 130 = .ok (.ireturn, 1) := by decide +kernel
set_option maxRecDepth 20000 in
theorem ggX6_note_X6_isSet : GoodIn wsX6_note wsX6_isSet := goodIn_r _ [10, 11, 12, 13, 9, 14] (by decide +kernel) (by decide +kernel)
set_option maxRecDepth 20000 in
theorem gX6_note_X6_isSet : GoodIn wsX6_note (va_wsS RX6 137 yX6_isSet wsX6_isSet) := goodIn_app (goodIn_of _ (by decide +kernel)) ggX6_note_X6_isSet
set_option maxRecDepth 20000 in
theorem ggX6_note_X6_in : GoodIn wsX6_note wsX6_in := goodIn_r _ [14] (by decide +kernel) (by decide +kernel)
set_option maxRecDepth 20000 in
theorem gX6_note_X6_in : GoodIn wsX6_note (va_wsS RX6 47 yX6_in wsX6_in) := goodIn_app (goodIn_of _ (by decide +kernel)) ggX6_note_X6_in
theorem dX6_note_0 : decode cX6_note 0 = .ok (.iload_n 1, 1) := by decide +kernel
theorem dX6_note_1 : decode cX6_note 1 = .ok (.invokestatic 137, 3) := by decide +kernel
theorem dX6_note_4 : decode cX6_note 4 = .ok (.ifCond .eq 27, 3) := by decide +kernel
theorem dX6_note_7 : decode cX6_note 7 = .ok (.iload_n 2, 1) := by decide +kernel
theorem dX6_note_8 : decode cX6_note 8 = .ok (.i2l, 1) := by decide +kernel
theorem dX6_note_9 : decode cX6_note 9 = .ok (.lconst 0, 1) := by decide +kernel
theorem dX6_note_10 : decode cX6_note 10 = .ok (.ldc2_w 155, 3) := by decide +kernel
theorem dX6_note_13 : decode cX6_note 13 = .ok (.invokestatic 47, 3) := by decide +kernel
theorem dX6_note_16 : decode cX6_note 16 = .ok (.ifCond .eq 15, 3) := by decide +kernel
theorem dX6_note_19 : decode cX6_note 19 = .ok (.iload_n 3, 1) := by decide +kernel
theorem dX6_note_20 : decode cX6_note 20 = .ok (.i2l, 1) := by decide +kernel
theorem dX6_note_21 : decode cX6_note 21 = .ok (.lconst 1, 1) := by decide +kernel
theorem dX6_note_22 : decode cX6_note 22 = .ok (.ldc2_w 135, 3) := by decide +kernel
theorem dX6_note_25 : decode cX6_note 25 = .ok (.invokestatic 47, 3) := by decide +kernel
theorem dX6_note_28 : decode cX6_note 28 = .ok (.ifCond .ne 7, 3) := by decide +kernel
theorem dX6_note_31 : decode cX6_note 31 = .ok (.sipush (-1002), 3) := by decide +kernel
theorem dX6_note_34 : decode cX6_note 34 = .ok (.ireturn, 1) := by decide +kernel
theorem dX6_note_35 : decode cX6_note 35 = .ok (.aload_n 0, 1) := by decide +kernel
theorem dX6_note_36 : decode cX6_note 36 = .ok (.getfield 82, 3) := by decide +kernel
theorem dX6_note_39 : decode cX6_note 39 = .ok (.bipush 6, 2) := by decide +kernel
theorem dX6_note_41 : decode cX6_note 41 = .ok (.if_icmp .ne 7, 3) := by decide +kernel
theorem dX6_note_44 : decode cX6_note 44 = .ok (.sipush (-1004), 3) := by decide +kernel
theorem dX6_note_47 : decode cX6_note 47 = .ok (.ireturn, 1) := by decide +kernel
theorem dX6_note_48 : decode cX6_note 48 = .ok (.aload_n 0, 1) := by decide +kernel
theorem dX6_note_49 : decode cX6_note 49 = .ok (.getfield 22, 3) := by decide +kernel
theorem dX6_note_52 : decode cX6_note 52 = .ok (.aload_n 0, 1) := by decide +kernel
theorem dX6_note_53 : decode cX6_note 53 = .ok (.getfield 82, 3) := by decide +kernel
theorem dX6_note_56 : decode cX6_note 56 = .ok (.iload_n 1, 1) := by decide +kernel
theorem dX6_note_57 : decode cX6_note 57 = .ok (.iastore, 1) := by decide +kernel
theorem dX6_note_58 : decode cX6_note 58 = .ok (.aload_n 0, 1) := by decide +kernel
theorem dX6_note_59 : decode cX6_note 59 = .ok (.getfield 25, 3) := by decide +kernel
theorem dX6_note_62 : decode cX6_note 62 = .ok (.aload_n 0, 1) := by decide +kernel
theorem dX6_note_63 : decode cX6_note 63 = .ok (.getfield 82, 3) := by decide +kernel
theorem dX6_note_66 : decode cX6_note 66 = .ok (.iload_n 2, 1) := by decide +kernel
theorem dX6_note_67 : decode cX6_note 67 = .ok (.iastore, 1) := by decide +kernel
theorem dX6_note_68 : decode cX6_note 68 = .ok (.aload_n 0, 1) := by decide +kernel
theorem dX6_note_69 : decode cX6_note 69 = .ok (.getfield 28, 3) := by decide +kernel
theorem dX6_note_72 : decode cX6_note 72 = .ok (.aload_n 0, 1) := by decide +kernel
theorem dX6_note_73 : decode cX6_note 73 = .ok (.getfield 82, 3) := by decide +kernel
theorem dX6_note_76 : decode cX6_note 76 = .ok (.iload_n 3, 1) := by decide +kernel
theorem dX6_note_77 : decode cX6_note 77 = .ok (.iastore, 1) := by decide +kernel
theorem dX6_note_78 : decode cX6_note 78 = .ok (.aload_n 0, 1) := by decide +kernel
theorem dX6_note_79 : decode cX6_note 79 = .ok (.dup, 1) := by decide +kernel
theorem dX6_note_80 : decode cX6_note 80 = .ok (.getfield 82, 3) := by decide +kernel
theorem dX6_note_83 : decode cX6_note 83 = .ok (.iconst 1, 1) := by decide +kernel
theorem dX6_note_84 : decode cX6_note 84 = .ok (.iadd, 1) := by decide +kernel
theorem dX6_note_85 : decode cX6_note 85 = .ok (.putfield 82, 3) := by decide +kernel
theorem dX6_note_88 : decode cX6_note 88 = .ok (.aload_n 0, 1) := by decide +kernel
theorem dX6_note_89 : decode cX6_note 89 = .ok (.getfield 82, 3) := by decide +kernel
theorem dX6_note_92 : decode cX6_note 92 = .ok (.iconst 1, 1) := by decide +kernel
theorem dX6_note_93 : decode cX6_note 93 = .ok (.isub, 1) := by decide +kernel
theorem dX6_note_94 : decode cX6_note 94 = .ok (.ireturn, 1) := by decide +kernel
set_option maxRecDepth 20000 in
theorem ggX6_missOf_X6_toneOf : GoodIn wsX6_missOf wsX6_toneOf := goodIn_r _ [8, 9, 10, 11, 12, 13, 7, 14, 15, 16, 17, 18, 19, 20, 21, 22, 23, 24, 25, 26, 27, 28, 29, 30, 31, 32, 33, 34, 35, 36, 37, 38, 39, 40, 41, 42, 43, 44, 45, 46, 47, 48, 49, 50, 51, 52, 53, 54, 55, 56, 57, 58, 59, 60, 61, 62, 63, 64, 65, 66] (by decide +kernel) (by decide +kernel)
set_option maxRecDepth 20000 in
theorem gX6_missOf_X6_toneOf : GoodIn wsX6_missOf (wsV RX6 151 RX6 yX6_toneOf wsX6_toneOf) := goodIn_app (goodIn_of _ (by decide +kernel)) ggX6_missOf_X6_toneOf
theorem dX6_missOf_0 : decode cX6_missOf 0 = .ok (.aload_n 0, 1) := by decide +kernel
theorem dX6_missOf_1 : decode cX6_missOf 1 = .ok (.aload_n 0, 1) := by decide +kernel
theorem dX6_missOf_2 : decode cX6_missOf 2 = .ok (.getfield 22, 3) := by decide +kernel
theorem dX6_missOf_5 : decode cX6_missOf 5 = .ok (.iload_n 1, 1) := by decide +kernel
theorem dX6_missOf_6 : decode cX6_missOf 6 = .ok (.iaload, 1) := by decide +kernel
theorem dX6_missOf_7 : decode cX6_missOf 7 = .ok (.aload_n 0, 1) := by decide +kernel
theorem dX6_missOf_8 : decode cX6_missOf 8 = .ok (.getfield 25, 3) := by decide +kernel
theorem dX6_missOf_11 : decode cX6_missOf 11 = .ok (.iload_n 1, 1) := by decide +kernel
theorem dX6_missOf_12 : decode cX6_missOf 12 = .ok (.iaload, 1) := by decide +kernel
theorem dX6_missOf_13 : decode cX6_missOf 13 = .ok (.invokevirtual 151, 3) := by decide +kernel
theorem dX6_missOf_16 : decode cX6_missOf 16 = .ok (.istore_n 2, 1) := by decide +kernel
theorem dX6_missOf_17 : decode cX6_missOf 17 = .ok (.iload_n 2, 1) := by decide +kernel
theorem dX6_missOf_18 : decode cX6_missOf 18 = .ok (.aload_n 0, 1) := by decide +kernel
theorem dX6_missOf_19 : decode cX6_missOf 19 = .ok (.getfield 28, 3) := by decide +kernel
theorem dX6_missOf_22 : decode cX6_missOf 22 = .ok (.iload_n 1, 1) := by decide +kernel
theorem dX6_missOf_23 : decode cX6_missOf 23 = .ok (.iaload, 1) := by decide +kernel
theorem dX6_missOf_24 : decode cX6_missOf 24 = .ok (.isub, 1) := by decide +kernel
theorem dX6_missOf_25 : decode cX6_missOf 25 = .ok (.istore_n 3, 1) := by decide +kernel
theorem dX6_missOf_26 : decode cX6_missOf 26 = .ok (.iload_n 2, 1) := by decide +kernel
theorem dX6_missOf_27 : decode cX6_missOf 27 = .ok (.ifCond .ge 9, 3) := by decide +kernel
theorem dX6_missOf_30 : decode cX6_missOf 30 = .ok (.sipush 300, 3) := by decide +kernel
theorem dX6_missOf_33 : decode cX6_missOf 33 = .ok (.goto 13, 3) := by decide +kernel
theorem dX6_missOf_36 : decode cX6_missOf 36 = .ok (.iload_n 3, 1) := by decide +kernel
theorem dX6_missOf_37 : decode cX6_missOf 37 = .ok (.ifCond .ge 8, 3) := by decide +kernel
theorem dX6_missOf_40 : decode cX6_missOf 40 = .ok (.iload_n 3, 1) := by decide +kernel
theorem dX6_missOf_41 : decode cX6_missOf 41 = .ok (.ineg, 1) := by decide +kernel
theorem dX6_missOf_42 : decode cX6_missOf 42 = .ok (.goto 4, 3) := by decide +kernel
theorem dX6_missOf_45 : decode cX6_missOf 45 = .ok (.iload_n 3, 1) := by decide +kernel
theorem dX6_missOf_46 : decode cX6_missOf 46 = .ok (.ireturn, 1) := by decide +kernel
set_option maxRecDepth 20000 in
theorem ggX6_noted_X6_in : GoodIn wsX6_noted wsX6_in := goodIn_r _ [8] (by decide +kernel) (by decide +kernel)
set_option maxRecDepth 20000 in
theorem gX6_noted_X6_in : GoodIn wsX6_noted (va_wsS RX6 47 yX6_in wsX6_in) := goodIn_app (goodIn_of _ (by decide +kernel)) ggX6_noted_X6_in
set_option maxRecDepth 20000 in
theorem ggX6_noted_X6_toneOf : GoodIn wsX6_noted wsX6_toneOf := goodIn_r _ [12, 13, 14, 15, 16, 17, 7, 18, 19, 20, 21, 22, 23, 24, 25, 26, 27, 28, 29, 30, 31, 32, 33, 34, 35, 36, 37, 38, 39, 40, 41, 42, 43, 44, 45, 46, 47, 48, 49, 50, 51, 52, 53, 54, 55, 60, 61, 62, 63, 64, 65, 66, 67, 68, 69, 70, 71, 72, 73, 74] (by decide +kernel) (by decide +kernel)
set_option maxRecDepth 20000 in
theorem gX6_noted_X6_toneOf : GoodIn wsX6_noted (wsV RX6 151 RX6 yX6_toneOf wsX6_toneOf) := goodIn_app (goodIn_of _ (by decide +kernel)) ggX6_noted_X6_toneOf
set_option maxRecDepth 20000 in
theorem ggX6_noted_X6_missOf : GoodIn wsX6_noted wsX6_missOf := goodIn_r _ [59, 2, 3, 4, 9, 10, 11, 7, 12, 13, 14, 15, 16, 17, 18, 19, 20, 21, 22, 23, 24, 25, 26, 27, 28, 29, 30, 31, 32, 33, 34, 35, 36, 37, 38, 39, 40, 41, 42, 43, 44, 45, 46, 47, 48, 49, 50, 51, 52, 53, 54, 55, 60, 61, 62, 63, 64, 65, 66, 67, 68, 69, 70, 71, 72, 73, 74] (by decide +kernel) (by decide +kernel)
set_option maxRecDepth 20000 in
theorem gX6_noted_X6_missOf : GoodIn wsX6_noted (wsV RX6 157 RX6 yX6_missOf wsX6_missOf) := goodIn_app (goodIn_of _ (by decide +kernel)) ggX6_noted_X6_missOf
theorem dX6_noted_0 : decode cX6_noted 0 = .ok (.iload_n 1, 1) := by decide +kernel
theorem dX6_noted_1 : decode cX6_noted 1 = .ok (.i2l, 1) := by decide +kernel
theorem dX6_noted_2 : decode cX6_noted 2 = .ok (.lconst 0, 1) := by decide +kernel
theorem dX6_noted_3 : decode cX6_noted 3 = .ok (.aload_n 0, 1) := by decide +kernel
theorem dX6_noted_4 : decode cX6_noted 4 = .ok (.getfield 82, 3) := by decide +kernel
theorem dX6_noted_7 : decode cX6_noted 7 = .ok (.iconst 1, 1) := by decide +kernel
theorem dX6_noted_8 : decode cX6_noted 8 = .ok (.isub, 1) := by decide +kernel
theorem dX6_noted_9 : decode cX6_noted 9 = .ok (.i2l, 1) := by decide +kernel
theorem dX6_noted_10 : decode cX6_noted 10 = .ok (.invokestatic 47, 3) := by decide +kernel
theorem dX6_noted_13 : decode cX6_noted 13 = .ok (.ifCond .ne 7, 3) := by decide +kernel
theorem dX6_noted_16 : decode cX6_noted 16 = .ok (.sipush (-1001), 3) := by decide +kernel
theorem dX6_noted_19 : decode cX6_noted 19 = .ok (.ireturn, 1) := by decide +kernel
theorem dX6_noted_20 : decode cX6_noted 20 = .ok (.iload_n 2, 1) := by decide +kernel
theorem dX6_noted_21 : decode cX6_noted 21 = .ok (.tableswitch 79 0 4 #[35, 42, 49, 56, 73], 35) := by decide +kernel
theorem dX6_noted_56 : decode cX6_noted 56 = .ok (.aload_n 0, 1) := by decide +kernel
theorem dX6_noted_57 : decode cX6_noted 57 = .ok (.getfield 22, 3) := by decide +kernel
theorem dX6_noted_60 : decode cX6_noted 60 = .ok (.iload_n 1, 1) := by decide +kernel
theorem dX6_noted_61 : decode cX6_noted 61 = .ok (.iaload, 1) := by decide +kernel
theorem dX6_noted_62 : decode cX6_noted 62 = .ok (.ireturn, 1) := by decide +kernel
theorem dX6_noted_63 : decode cX6_noted 63 = .ok (.aload_n 0, 1) := by decide +kernel
theorem dX6_noted_64 : decode cX6_noted 64 = .ok (.getfield 25, 3) := by decide +kernel
theorem dX6_noted_67 : decode cX6_noted 67 = .ok (.iload_n 1, 1) := by decide +kernel
theorem dX6_noted_68 : decode cX6_noted 68 = .ok (.iaload, 1) := by decide +kernel
theorem dX6_noted_69 : decode cX6_noted 69 = .ok (.ireturn, 1) := by decide +kernel
theorem dX6_noted_70 : decode cX6_noted 70 = .ok (.aload_n 0, 1) := by decide +kernel
theorem dX6_noted_71 : decode cX6_noted 71 = .ok (.getfield 28, 3) := by decide +kernel
theorem dX6_noted_74 : decode cX6_noted 74 = .ok (.iload_n 1, 1) := by decide +kernel
theorem dX6_noted_75 : decode cX6_noted 75 = .ok (.iaload, 1) := by decide +kernel
theorem dX6_noted_76 : decode cX6_noted 76 = .ok (.ireturn, 1) := by decide +kernel
theorem dX6_noted_77 : decode cX6_noted 77 = .ok (.aload_n 0, 1) := by decide +kernel
theorem dX6_noted_78 : decode cX6_noted 78 = .ok (.aload_n 0, 1) := by decide +kernel
theorem dX6_noted_79 : decode cX6_noted 79 = .ok (.getfield 22, 3) := by decide +kernel
theorem dX6_noted_82 : decode cX6_noted 82 = .ok (.iload_n 1, 1) := by decide +kernel
theorem dX6_noted_83 : decode cX6_noted 83 = .ok (.iaload, 1) := by decide +kernel
theorem dX6_noted_84 : decode cX6_noted 84 = .ok (.aload_n 0, 1) := by decide +kernel
theorem dX6_noted_85 : decode cX6_noted 85 = .ok (.getfield 25, 3) := by decide +kernel
theorem dX6_noted_88 : decode cX6_noted 88 = .ok (.iload_n 1, 1) := by decide +kernel
theorem dX6_noted_89 : decode cX6_noted 89 = .ok (.iaload, 1) := by decide +kernel
theorem dX6_noted_90 : decode cX6_noted 90 = .ok (.invokevirtual 151, 3) := by decide +kernel
theorem dX6_noted_93 : decode cX6_noted 93 = .ok (.ireturn, 1) := by decide +kernel
theorem dX6_noted_94 : decode cX6_noted 94 = .ok (.aload_n 0, 1) := by decide +kernel
theorem dX6_noted_95 : decode cX6_noted 95 = .ok (.iload_n 1, 1) := by decide +kernel
theorem dX6_noted_96 : decode cX6_noted 96 = .ok (.invokevirtual 157, 3) := by decide +kernel
theorem dX6_noted_99 : decode cX6_noted 99 = .ok (.ireturn, 1) := by decide +kernel
theorem dX6_noted_100 : decode cX6_noted 100 = .ok (.sipush (-1002), 3) := by decide +kernel
theorem dX6_noted_103 : decode cX6_noted 103 = .ok (.ireturn, 1) := by decide +kernel
set_option maxRecDepth 20000 in
theorem ggX6_greatest_X6_missOf : GoodIn wsX6_greatest wsX6_missOf := goodIn_r _ [6, 7, 8, 9, 10, 11, 12, 5, 13, 14, 15, 16, 17, 18, 19, 20, 21, 22, 23, 24, 25, 26, 27, 28, 29, 30, 31, 32, 33, 34, 35, 36, 37, 38, 39, 40, 41, 42, 43, 44, 45, 46, 47, 48, 49, 50, 51, 52, 53, 54, 55, 56, 57, 58, 59, 60, 61, 62, 63, 64, 65, 66, 67, 68, 69, 70, 71] (by decide +kernel) (by decide +kernel)
set_option maxRecDepth 20000 in
theorem gX6_greatest_X6_missOf : GoodIn wsX6_greatest (wsV RX6 157 RX6 yX6_missOf wsX6_missOf) := goodIn_app (goodIn_of _ (by decide +kernel)) ggX6_greatest_X6_missOf
theorem dX6_greatest_0 : decode cX6_greatest 0 = .ok (.iconst 0, 1) := by decide +kernel
theorem dX6_greatest_1 : decode cX6_greatest 1 = .ok (.istore_n 1, 1) := by decide +kernel
theorem dX6_greatest_2 : decode cX6_greatest 2 = .ok (.iconst 0, 1) := by decide +kernel
theorem dX6_greatest_3 : decode cX6_greatest 3 = .ok (.istore_n 2, 1) := by decide +kernel
theorem dX6_greatest_4 : decode cX6_greatest 4 = .ok (.iload_n 2, 1) := by decide +kernel
theorem dX6_greatest_5 : decode cX6_greatest 5 = .ok (.aload_n 0, 1) := by decide +kernel
theorem dX6_greatest_6 : decode cX6_greatest 6 = .ok (.getfield 82, 3) := by decide +kernel
theorem dX6_greatest_9 : decode cX6_greatest 9 = .ok (.if_icmp .ge 26, 3) := by decide +kernel
theorem dX6_greatest_12 : decode cX6_greatest 12 = .ok (.aload_n 0, 1) := by decide +kernel
theorem dX6_greatest_13 : decode cX6_greatest 13 = .ok (.iload_n 2, 1) := by decide +kernel
theorem dX6_greatest_14 : decode cX6_greatest 14 = .ok (.invokevirtual 157, 3) := by decide +kernel
theorem dX6_greatest_17 : decode cX6_greatest 17 = .ok (.istore_n 3, 1) := by decide +kernel
theorem dX6_greatest_18 : decode cX6_greatest 18 = .ok (.iload_n 3, 1) := by decide +kernel
theorem dX6_greatest_19 : decode cX6_greatest 19 = .ok (.iload_n 1, 1) := by decide +kernel
theorem dX6_greatest_20 : decode cX6_greatest 20 = .ok (.if_icmp .le 7, 3) := by decide +kernel
theorem dX6_greatest_23 : decode cX6_greatest 23 = .ok (.iload_n 3, 1) := by decide +kernel
theorem dX6_greatest_24 : decode cX6_greatest 24 = .ok (.goto 4, 3) := by decide +kernel
theorem dX6_greatest_27 : decode cX6_greatest 27 = .ok (.iload_n 1, 1) := by decide +kernel
theorem dX6_greatest_28 : decode cX6_greatest 28 = .ok (.istore_n 1, 1) := by decide +kernel
theorem dX6_greatest_29 : decode cX6_greatest 29 = .ok (.iinc 2 1, 3) := by decide +kernel
theorem dX6_greatest_32 : decode cX6_greatest 32 = .ok (.goto (-28), 3) := by decide +kernel
theorem dX6_greatest_35 : decode cX6_greatest 35 = .ok (.iload_n 1, 1) := by decide +kernel
theorem dX6_greatest_36 : decode cX6_greatest 36 = .ok (.ireturn, 1) := by decide +kernel
set_option maxRecDepth 20000 in
theorem ggX6_sumOfMisses_X6_missOf : GoodIn wsX6_sumOfMisses wsX6_missOf := goodIn_r _ [6, 7, 8, 9, 10, 11, 12, 5, 13, 14, 15, 16, 17, 18, 19, 20, 21, 22, 23, 24, 25, 26, 27, 28, 29, 30, 31, 32, 33, 34, 35, 36, 37, 38, 39, 40, 41, 42, 43, 44, 45, 46, 47, 48, 49, 50, 51, 52, 53, 54, 55, 56, 57, 58, 59, 60, 61, 62, 63, 64, 65, 66, 67, 68, 69, 70, 71] (by decide +kernel) (by decide +kernel)
set_option maxRecDepth 20000 in
theorem gX6_sumOfMisses_X6_missOf : GoodIn wsX6_sumOfMisses (wsV RX6 157 RX6 yX6_missOf wsX6_missOf) := goodIn_app (goodIn_of _ (by decide +kernel)) ggX6_sumOfMisses_X6_missOf
theorem dX6_sumOfMisses_0 : decode cX6_sumOfMisses 0 = .ok (.iconst 0, 1) := by decide +kernel
theorem dX6_sumOfMisses_1 : decode cX6_sumOfMisses 1 = .ok (.istore_n 1, 1) := by decide +kernel
theorem dX6_sumOfMisses_2 : decode cX6_sumOfMisses 2 = .ok (.iconst 0, 1) := by decide +kernel
theorem dX6_sumOfMisses_3 : decode cX6_sumOfMisses 3 = .ok (.istore_n 2, 1) := by decide +kernel
theorem dX6_sumOfMisses_4 : decode cX6_sumOfMisses 4 = .ok (.iload_n 2, 1) := by decide +kernel
theorem dX6_sumOfMisses_5 : decode cX6_sumOfMisses 5 = .ok (.aload_n 0, 1) := by decide +kernel
theorem dX6_sumOfMisses_6 : decode cX6_sumOfMisses 6 = .ok (.getfield 82, 3) := by decide +kernel
theorem dX6_sumOfMisses_9 : decode cX6_sumOfMisses 9 = .ok (.if_icmp .ge 17, 3) := by decide +kernel
theorem dX6_sumOfMisses_12 : decode cX6_sumOfMisses 12 = .ok (.iload_n 1, 1) := by decide +kernel
theorem dX6_sumOfMisses_13 : decode cX6_sumOfMisses 13 = .ok (.aload_n 0, 1) := by decide +kernel
theorem dX6_sumOfMisses_14 : decode cX6_sumOfMisses 14 = .ok (.iload_n 2, 1) := by decide +kernel
theorem dX6_sumOfMisses_15 : decode cX6_sumOfMisses 15 = .ok (.invokevirtual 157, 3) := by decide +kernel
theorem dX6_sumOfMisses_18 : decode cX6_sumOfMisses 18 = .ok (.iadd, 1) := by decide +kernel
theorem dX6_sumOfMisses_19 : decode cX6_sumOfMisses 19 = .ok (.istore_n 1, 1) := by decide +kernel
theorem dX6_sumOfMisses_20 : decode cX6_sumOfMisses 20 = .ok (.iinc 2 1, 3) := by decide +kernel
theorem dX6_sumOfMisses_23 : decode cX6_sumOfMisses 23 = .ok (.goto (-19), 3) := by decide +kernel
theorem dX6_sumOfMisses_26 : decode cX6_sumOfMisses 26 = .ok (.iload_n 1, 1) := by decide +kernel
theorem dX6_sumOfMisses_27 : decode cX6_sumOfMisses 27 = .ok (.ireturn, 1) := by decide +kernel
set_option maxRecDepth 20000 in
theorem ggX6_badness_X6_missOf : GoodIn wsX6_badness wsX6_missOf := goodIn_r _ [6, 7, 8, 9, 10, 11, 12, 5, 13, 14, 15, 16, 17, 18, 19, 20, 21, 22, 23, 24, 25, 26, 27, 28, 29, 30, 31, 32, 33, 34, 35, 36, 37, 38, 39, 40, 41, 42, 43, 44, 45, 46, 47, 48, 49, 50, 51, 52, 53, 54, 55, 56, 57, 58, 59, 60, 61, 62, 63, 64, 65, 66, 67, 68, 69, 70, 71] (by decide +kernel) (by decide +kernel)
set_option maxRecDepth 20000 in
theorem gX6_badness_X6_missOf : GoodIn wsX6_badness (wsV RX6 157 RX6 yX6_missOf wsX6_missOf) := goodIn_app (goodIn_of _ (by decide +kernel)) ggX6_badness_X6_missOf
theorem dX6_badness_0 : decode cX6_badness 0 = .ok (.iconst 0, 1) := by decide +kernel
theorem dX6_badness_1 : decode cX6_badness 1 = .ok (.istore_n 1, 1) := by decide +kernel
theorem dX6_badness_2 : decode cX6_badness 2 = .ok (.iconst 0, 1) := by decide +kernel
theorem dX6_badness_3 : decode cX6_badness 3 = .ok (.istore_n 2, 1) := by decide +kernel
theorem dX6_badness_4 : decode cX6_badness 4 = .ok (.iconst 0, 1) := by decide +kernel
theorem dX6_badness_5 : decode cX6_badness 5 = .ok (.istore_n 3, 1) := by decide +kernel
theorem dX6_badness_6 : decode cX6_badness 6 = .ok (.iload_n 3, 1) := by decide +kernel
theorem dX6_badness_7 : decode cX6_badness 7 = .ok (.aload_n 0, 1) := by decide +kernel
theorem dX6_badness_8 : decode cX6_badness 8 = .ok (.getfield 82, 3) := by decide +kernel
theorem dX6_badness_11 : decode cX6_badness 11 = .ok (.if_icmp .ge 34, 3) := by decide +kernel
theorem dX6_badness_14 : decode cX6_badness 14 = .ok (.aload_n 0, 1) := by decide +kernel
theorem dX6_badness_15 : decode cX6_badness 15 = .ok (.iload_n 3, 1) := by decide +kernel
theorem dX6_badness_16 : decode cX6_badness 16 = .ok (.invokevirtual 157, 3) := by decide +kernel
theorem dX6_badness_19 : decode cX6_badness 19 = .ok (.istore 4, 2) := by decide +kernel
theorem dX6_badness_21 : decode cX6_badness 21 = .ok (.iload 4, 2) := by decide +kernel
theorem dX6_badness_23 : decode cX6_badness 23 = .ok (.iload_n 1, 1) := by decide +kernel
theorem dX6_badness_24 : decode cX6_badness 24 = .ok (.if_icmp .le 8, 3) := by decide +kernel
theorem dX6_badness_27 : decode cX6_badness 27 = .ok (.iload 4, 2) := by decide +kernel
theorem dX6_badness_29 : decode cX6_badness 29 = .ok (.goto 4, 3) := by decide +kernel
theorem dX6_badness_32 : decode cX6_badness 32 = .ok (.iload_n 1, 1) := by decide +kernel
theorem dX6_badness_33 : decode cX6_badness 33 = .ok (.istore_n 1, 1) := by decide +kernel
theorem dX6_badness_34 : decode cX6_badness 34 = .ok (.iload_n 2, 1) := by decide +kernel
theorem dX6_badness_35 : decode cX6_badness 35 = .ok (.iload 4, 2) := by decide +kernel
theorem dX6_badness_37 : decode cX6_badness 37 = .ok (.iadd, 1) := by decide +kernel
theorem dX6_badness_38 : decode cX6_badness 38 = .ok (.istore_n 2, 1) := by decide +kernel
theorem dX6_badness_39 : decode cX6_badness 39 = .ok (.iinc 3 1, 3) := by decide +kernel
theorem dX6_badness_42 : decode cX6_badness 42 = .ok (.goto (-36), 3) := by decide +kernel
theorem dX6_badness_45 : decode cX6_badness 45 = .ok (.sipush 10000, 3) := by decide +kernel
theorem dX6_badness_48 : decode cX6_badness 48 = .ok (.iload_n 1, 1) := by decide +kernel
theorem dX6_badness_49 : decode cX6_badness 49 = .ok (.imul, 1) := by decide +kernel
theorem dX6_badness_50 : decode cX6_badness 50 = .ok (.iload_n 2, 1) := by decide +kernel
theorem dX6_badness_51 : decode cX6_badness 51 = .ok (.iadd, 1) := by decide +kernel
theorem dX6_badness_52 : decode cX6_badness 52 = .ok (.ireturn, 1) := by decide +kernel
set_option maxRecDepth 20000 in
theorem ggX6_drill_X6_in : GoodIn wsX6_drill wsX6_in := goodIn_r _ [6] (by decide +kernel) (by decide +kernel)
set_option maxRecDepth 20000 in
theorem gX6_drill_X6_in : GoodIn wsX6_drill (va_wsS RX6 47 yX6_in wsX6_in) := goodIn_app (goodIn_of _ (by decide +kernel)) ggX6_drill_X6_in
set_option maxRecDepth 20000 in
theorem ggX6_drill_X6_drillMany : GoodIn wsX6_drill wsX6_drillMany := goodIn_r _ [10, 2, 11, 12, 13, 14, 15, 16, 17, 18, 19, 20, 21, 22, 23, 24, 25] (by decide +kernel) (by decide +kernel)
set_option maxRecDepth 20000 in
theorem gX6_drill_X6_drillMany : GoodIn wsX6_drill (wsV RX6 93 RX6 yX6_drillMany wsX6_drillMany) := goodIn_app (goodIn_of _ (by decide +kernel)) ggX6_drill_X6_drillMany
theorem dX6_drill_0 : decode cX6_drill 0 = .ok (.iload_n 1, 1) := by decide +kernel
theorem dX6_drill_1 : decode cX6_drill 1 = .ok (.i2l, 1) := by decide +kernel
theorem dX6_drill_2 : decode cX6_drill 2 = .ok (.lconst 1, 1) := by decide +kernel
theorem dX6_drill_3 : decode cX6_drill 3 = .ok (.ldc2_w 65, 3) := by decide +kernel
theorem dX6_drill_6 : decode cX6_drill 6 = .ok (.invokestatic 47, 3) := by decide +kernel
theorem dX6_drill_9 : decode cX6_drill 9 = .ok (.ifCond .ne 7, 3) := by decide +kernel
theorem dX6_drill_12 : decode cX6_drill 12 = .ok (.sipush (-1002), 3) := by decide +kernel
theorem dX6_drill_15 : decode cX6_drill 15 = .ok (.ireturn, 1) := by decide +kernel
theorem dX6_drill_16 : decode cX6_drill 16 = .ok (.aload_n 0, 1) := by decide +kernel
theorem dX6_drill_17 : decode cX6_drill 17 = .ok (.getfield 31, 3) := by decide +kernel
theorem dX6_drill_20 : decode cX6_drill 20 = .ok (.iload_n 1, 1) := by decide +kernel
theorem dX6_drill_21 : decode cX6_drill 21 = .ok (.iload_n 2, 1) := by decide +kernel
theorem dX6_drill_22 : decode cX6_drill 22 = .ok (.bastore, 1) := by decide +kernel
theorem dX6_drill_23 : decode cX6_drill 23 = .ok (.aload_n 0, 1) := by decide +kernel
theorem dX6_drill_24 : decode cX6_drill 24 = .ok (.invokevirtual 93, 3) := by decide +kernel
theorem dX6_drill_27 : decode cX6_drill 27 = .ok (.ireturn, 1) := by decide +kernel
set_option maxRecDepth 20000 in
theorem ggX6_reach_X6_in : GoodIn wsX6_reach wsX6_in := goodIn_r _ [6] (by decide +kernel) (by decide +kernel)
set_option maxRecDepth 20000 in
theorem gX6_reach_X6_in : GoodIn wsX6_reach (va_wsS RX6 47 yX6_in wsX6_in) := goodIn_app (goodIn_of _ (by decide +kernel)) ggX6_reach_X6_in
theorem dX6_reach_0 : decode cX6_reach 0 = .ok (.iload_n 1, 1) := by decide +kernel
theorem dX6_reach_1 : decode cX6_reach 1 = .ok (.i2l, 1) := by decide +kernel
theorem dX6_reach_2 : decode cX6_reach 2 = .ok (.lconst 1, 1) := by decide +kernel
theorem dX6_reach_3 : decode cX6_reach 3 = .ok (.ldc2_w 51, 3) := by decide +kernel
theorem dX6_reach_6 : decode cX6_reach 6 = .ok (.invokestatic 47, 3) := by decide +kernel
theorem dX6_reach_9 : decode cX6_reach 9 = .ok (.ifCond .ne 7, 3) := by decide +kernel
theorem dX6_reach_12 : decode cX6_reach 12 = .ok (.sipush (-1002), 3) := by decide +kernel
theorem dX6_reach_15 : decode cX6_reach 15 = .ok (.ireturn, 1) := by decide +kernel
theorem dX6_reach_16 : decode cX6_reach 16 = .ok (.aload_n 0, 1) := by decide +kernel
theorem dX6_reach_17 : decode cX6_reach 17 = .ok (.getfield 35, 3) := by decide +kernel
theorem dX6_reach_20 : decode cX6_reach 20 = .ok (.istore_n 2, 1) := by decide +kernel
theorem dX6_reach_21 : decode cX6_reach 21 = .ok (.aload_n 0, 1) := by decide +kernel
theorem dX6_reach_22 : decode cX6_reach 22 = .ok (.iload_n 1, 1) := by decide +kernel
theorem dX6_reach_23 : decode cX6_reach 23 = .ok (.putfield 35, 3) := by decide +kernel
theorem dX6_reach_26 : decode cX6_reach 26 = .ok (.iload_n 2, 1) := by decide +kernel
theorem dX6_reach_27 : decode cX6_reach 27 = .ok (.ireturn, 1) := by decide +kernel
theorem dX6_beside_0 : decode cX6_beside 0 = .ok (.iconst (-1), 1) := by decide +kernel
theorem dX6_beside_1 : decode cX6_beside 1 = .ok (.istore_n 3, 1) := by decide +kernel
theorem dX6_beside_2 : decode cX6_beside 2 = .ok (.iconst 0, 1) := by decide +kernel
theorem dX6_beside_3 : decode cX6_beside 3 = .ok (.istore 4, 2) := by decide +kernel
theorem dX6_beside_5 : decode cX6_beside 5 = .ok (.iload 4, 2) := by decide +kernel
theorem dX6_beside_7 : decode cX6_beside 7 = .ok (.aload_n 0, 1) := by decide +kernel
theorem dX6_beside_8 : decode cX6_beside 8 = .ok (.getfield 67, 3) := by decide +kernel
theorem dX6_beside_11 : decode cX6_beside 11 = .ok (.if_icmp .ge 67, 3) := by decide +kernel
theorem dX6_beside_14 : decode cX6_beside 14 = .ok (.aload_n 0, 1) := by decide +kernel
theorem dX6_beside_15 : decode cX6_beside 15 = .ok (.getfield 16, 3) := by decide +kernel
theorem dX6_beside_18 : decode cX6_beside 18 = .ok (.iconst 3, 1) := by decide +kernel
theorem dX6_beside_19 : decode cX6_beside 19 = .ok (.iload 4, 2) := by decide +kernel
theorem dX6_beside_21 : decode cX6_beside 21 = .ok (.imul, 1) := by decide +kernel
theorem dX6_beside_22 : decode cX6_beside 22 = .ok (.iaload, 1) := by decide +kernel
theorem dX6_beside_23 : decode cX6_beside 23 = .ok (.aload_n 0, 1) := by decide +kernel
theorem dX6_beside_24 : decode cX6_beside 24 = .ok (.getfield 16, 3) := by decide +kernel
theorem dX6_beside_27 : decode cX6_beside 27 = .ok (.iconst 3, 1) := by decide +kernel
theorem dX6_beside_28 : decode cX6_beside 28 = .ok (.iload_n 1, 1) := by decide +kernel
theorem dX6_beside_29 : decode cX6_beside 29 = .ok (.imul, 1) := by decide +kernel
theorem dX6_beside_30 : decode cX6_beside 30 = .ok (.iaload, 1) := by decide +kernel
theorem dX6_beside_31 : decode cX6_beside 31 = .ok (.isub, 1) := by decide +kernel
theorem dX6_beside_32 : decode cX6_beside 32 = .ok (.iload_n 2, 1) := by decide +kernel
theorem dX6_beside_33 : decode cX6_beside 33 = .ok (.imul, 1) := by decide +kernel
theorem dX6_beside_34 : decode cX6_beside 34 = .ok (.istore 5, 2) := by decide +kernel
theorem dX6_beside_36 : decode cX6_beside 36 = .ok (.iload 5, 2) := by decide +kernel
theorem dX6_beside_38 : decode cX6_beside 38 = .ok (.ifCond .le 34, 3) := by decide +kernel
theorem dX6_beside_41 : decode cX6_beside 41 = .ok (.iload_n 3, 1) := by decide +kernel
theorem dX6_beside_42 : decode cX6_beside 42 = .ok (.ifCond .lt 27, 3) := by decide +kernel
theorem dX6_beside_45 : decode cX6_beside 45 = .ok (.iload 5, 2) := by decide +kernel
theorem dX6_beside_47 : decode cX6_beside 47 = .ok (.aload_n 0, 1) := by decide +kernel
theorem dX6_beside_48 : decode cX6_beside 48 = .ok (.getfield 16, 3) := by decide +kernel
theorem dX6_beside_51 : decode cX6_beside 51 = .ok (.iconst 3, 1) := by decide +kernel
theorem dX6_beside_52 : decode cX6_beside 52 = .ok (.iload_n 3, 1) := by decide +kernel
theorem dX6_beside_53 : decode cX6_beside 53 = .ok (.imul, 1) := by decide +kernel
theorem dX6_beside_54 : decode cX6_beside 54 = .ok (.iaload, 1) := by decide +kernel
theorem dX6_beside_55 : decode cX6_beside 55 = .ok (.aload_n 0, 1) := by decide +kernel
theorem dX6_beside_56 : decode cX6_beside 56 = .ok (.getfield 16, 3) := by decide +kernel
theorem dX6_beside_59 : decode cX6_beside 59 = .ok (.iconst 3, 1) := by decide +kernel
theorem dX6_beside_60 : decode cX6_beside 60 = .ok (.iload_n 1, 1) := by decide +kernel
theorem dX6_beside_61 : decode cX6_beside 61 = .ok (.imul, 1) := by decide +kernel
theorem dX6_beside_62 : decode cX6_beside 62 = .ok (.iaload, 1) := by decide +kernel
theorem dX6_beside_63 : decode cX6_beside 63 = .ok (.isub, 1) := by decide +kernel
theorem dX6_beside_64 : decode cX6_beside 64 = .ok (.iload_n 2, 1) := by decide +kernel
theorem dX6_beside_65 : decode cX6_beside 65 = .ok (.imul, 1) := by decide +kernel
theorem dX6_beside_66 : decode cX6_beside 66 = .ok (.if_icmp .ge 6, 3) := by decide +kernel
theorem dX6_beside_69 : decode cX6_beside 69 = .ok (.iload 4, 2) := by decide +kernel
theorem dX6_beside_71 : decode cX6_beside 71 = .ok (.istore_n 3, 1) := by decide +kernel
theorem dX6_beside_72 : decode cX6_beside 72 = .ok (.iinc 4 1, 3) := by decide +kernel
theorem dX6_beside_75 : decode cX6_beside 75 = .ok (.goto (-70), 3) := by decide +kernel
theorem dX6_beside_78 : decode cX6_beside 78 = .ok (.iload_n 3, 1) := by decide +kernel
theorem dX6_beside_79 : decode cX6_beside 79 = .ok (.ireturn, 1) := by decide +kernel
set_option maxRecDepth 20000 in
theorem ggX6_mayPlace_X6_fits : GoodIn wsX6_mayPlace wsX6_fits := goodIn_r _ [7, 8, 9, 10, 11, 6, 12, 13, 14, 15, 16, 17, 27, 28, 29, 30, 31, 32, 33, 34, 35, 36, 37, 38, 39, 40, 41] (by decide +kernel) (by decide +kernel)
set_option maxRecDepth 20000 in
theorem gX6_mayPlace_X6_fits : GoodIn wsX6_mayPlace (wsV RX6 70 RX6 yX6_fits wsX6_fits) := goodIn_app (goodIn_of _ (by decide +kernel)) ggX6_mayPlace_X6_fits
set_option maxRecDepth 20000 in
theorem ggX6_mayPlace_X6_holeAt : GoodIn wsX6_mayPlace wsX6_holeAt := goodIn_r _ [21, 22, 1, 27, 28, 29, 30, 31, 32, 33, 34, 35, 36, 37, 38, 39, 40, 41] (by decide +kernel) (by decide +kernel)
set_option maxRecDepth 20000 in
theorem gX6_mayPlace_X6_holeAt : GoodIn wsX6_mayPlace (wsV RX6 74 RX6 yX6_holeAt wsX6_holeAt) := goodIn_app (goodIn_of _ (by decide +kernel)) ggX6_mayPlace_X6_holeAt
set_option maxRecDepth 20000 in
theorem ggX6_mayPlace_X6_beside : GoodIn wsX6_mayPlace wsX6_beside := goodIn_r _ [26, 22, 1, 27, 28, 29, 30, 31, 32, 33, 34, 35, 36, 37, 38, 39, 40, 41] (by decide +kernel) (by decide +kernel)
set_option maxRecDepth 20000 in
theorem gX6_mayPlace_X6_beside : GoodIn wsX6_mayPlace (wsV RX6 160 RX6 yX6_beside wsX6_beside) := goodIn_app (goodIn_of _ (by decide +kernel)) ggX6_mayPlace_X6_beside
theorem dX6_mayPlace_0 : decode cX6_mayPlace 0 = .ok (.aload_n 0, 1) := by decide +kernel
theorem dX6_mayPlace_1 : decode cX6_mayPlace 1 = .ok (.iconst 0, 1) := by decide +kernel
theorem dX6_mayPlace_2 : decode cX6_mayPlace 2 = .ok (.iload_n 2, 1) := by decide +kernel
theorem dX6_mayPlace_3 : decode cX6_mayPlace 3 = .ok (.invokevirtual 70, 3) := by decide +kernel
theorem dX6_mayPlace_6 : decode cX6_mayPlace 6 = .ok (.ifCond .eq 11, 3) := by decide +kernel
theorem dX6_mayPlace_9 : decode cX6_mayPlace 9 = .ok (.aload_n 0, 1) := by decide +kernel
theorem dX6_mayPlace_10 : decode cX6_mayPlace 10 = .ok (.iload_n 2, 1) := by decide +kernel
theorem dX6_mayPlace_11 : decode cX6_mayPlace 11 = .ok (.invokevirtual 74, 3) := by decide +kernel
theorem dX6_mayPlace_14 : decode cX6_mayPlace 14 = .ok (.ifCond .lt 5, 3) := by decide +kernel
theorem dX6_mayPlace_17 : decode cX6_mayPlace 17 = .ok (.iconst 0, 1) := by decide +kernel
theorem dX6_mayPlace_18 : decode cX6_mayPlace 18 = .ok (.ireturn, 1) := by decide +kernel
theorem dX6_mayPlace_19 : decode cX6_mayPlace 19 = .ok (.iload_n 2, 1) := by decide +kernel
theorem dX6_mayPlace_20 : decode cX6_mayPlace 20 = .ok (.aload_n 0, 1) := by decide +kernel
theorem dX6_mayPlace_21 : decode cX6_mayPlace 21 = .ok (.getfield 16, 3) := by decide +kernel
theorem dX6_mayPlace_24 : decode cX6_mayPlace 24 = .ok (.iconst 3, 1) := by decide +kernel
theorem dX6_mayPlace_25 : decode cX6_mayPlace 25 = .ok (.iload_n 1, 1) := by decide +kernel
theorem dX6_mayPlace_26 : decode cX6_mayPlace 26 = .ok (.imul, 1) := by decide +kernel
theorem dX6_mayPlace_27 : decode cX6_mayPlace 27 = .ok (.iaload, 1) := by decide +kernel
theorem dX6_mayPlace_28 : decode cX6_mayPlace 28 = .ok (.isub, 1) := by decide +kernel
theorem dX6_mayPlace_29 : decode cX6_mayPlace 29 = .ok (.istore_n 3, 1) := by decide +kernel
theorem dX6_mayPlace_30 : decode cX6_mayPlace 30 = .ok (.aload_n 0, 1) := by decide +kernel
theorem dX6_mayPlace_31 : decode cX6_mayPlace 31 = .ok (.iload_n 1, 1) := by decide +kernel
theorem dX6_mayPlace_32 : decode cX6_mayPlace 32 = .ok (.iload_n 3, 1) := by decide +kernel
theorem dX6_mayPlace_33 : decode cX6_mayPlace 33 = .ok (.invokevirtual 160, 3) := by decide +kernel
theorem dX6_mayPlace_36 : decode cX6_mayPlace 36 = .ok (.istore 4, 2) := by decide +kernel
theorem dX6_mayPlace_38 : decode cX6_mayPlace 38 = .ok (.iload 4, 2) := by decide +kernel
theorem dX6_mayPlace_40 : decode cX6_mayPlace 40 = .ok (.ifCond .ge 5, 3) := by decide +kernel
theorem dX6_mayPlace_43 : decode cX6_mayPlace 43 = .ok (.iconst 1, 1) := by decide +kernel
theorem dX6_mayPlace_44 : decode cX6_mayPlace 44 = .ok (.ireturn, 1) := by decide +kernel
theorem dX6_mayPlace_45 : decode cX6_mayPlace 45 = .ok (.aload_n 0, 1) := by decide +kernel
theorem dX6_mayPlace_46 : decode cX6_mayPlace 46 = .ok (.getfield 16, 3) := by decide +kernel
theorem dX6_mayPlace_49 : decode cX6_mayPlace 49 = .ok (.iconst 3, 1) := by decide +kernel
theorem dX6_mayPlace_50 : decode cX6_mayPlace 50 = .ok (.iload 4, 2) := by decide +kernel
theorem dX6_mayPlace_52 : decode cX6_mayPlace 52 = .ok (.imul, 1) := by decide +kernel
theorem dX6_mayPlace_53 : decode cX6_mayPlace 53 = .ok (.iaload, 1) := by decide +kernel
theorem dX6_mayPlace_54 : decode cX6_mayPlace 54 = .ok (.aload_n 0, 1) := by decide +kernel
theorem dX6_mayPlace_55 : decode cX6_mayPlace 55 = .ok (.getfield 16, 3) := by decide +kernel
theorem dX6_mayPlace_58 : decode cX6_mayPlace 58 = .ok (.iconst 3, 1) := by decide +kernel
theorem dX6_mayPlace_59 : decode cX6_mayPlace 59 = .ok (.iload_n 1, 1) := by decide +kernel
theorem dX6_mayPlace_60 : decode cX6_mayPlace 60 = .ok (.imul, 1) := by decide +kernel
theorem dX6_mayPlace_61 : decode cX6_mayPlace 61 = .ok (.iaload, 1) := by decide +kernel
theorem dX6_mayPlace_62 : decode cX6_mayPlace 62 = .ok (.isub, 1) := by decide +kernel
theorem dX6_mayPlace_63 : decode cX6_mayPlace 63 = .ok (.iload_n 3, 1) := by decide +kernel
theorem dX6_mayPlace_64 : decode cX6_mayPlace 64 = .ok (.imul, 1) := by decide +kernel
theorem dX6_mayPlace_65 : decode cX6_mayPlace 65 = .ok (.istore 5, 2) := by decide +kernel
theorem dX6_mayPlace_67 : decode cX6_mayPlace 67 = .ok (.iload 5, 2) := by decide +kernel
theorem dX6_mayPlace_69 : decode cX6_mayPlace 69 = .ok (.aload_n 0, 1) := by decide +kernel
theorem dX6_mayPlace_70 : decode cX6_mayPlace 70 = .ok (.getfield 35, 3) := by decide +kernel
theorem dX6_mayPlace_73 : decode cX6_mayPlace 73 = .ok (.if_icmp .lt 14, 3) := by decide +kernel
theorem dX6_mayPlace_76 : decode cX6_mayPlace 76 = .ok (.iload 5, 2) := by decide +kernel
theorem dX6_mayPlace_78 : decode cX6_mayPlace 78 = .ok (.iconst 1, 1) := by decide +kernel
theorem dX6_mayPlace_79 : decode cX6_mayPlace 79 = .ok (.isub, 1) := by decide +kernel
theorem dX6_mayPlace_80 : decode cX6_mayPlace 80 = .ok (.aload_n 0, 1) := by decide +kernel
theorem dX6_mayPlace_81 : decode cX6_mayPlace 81 = .ok (.getfield 35, 3) := by decide +kernel
theorem dX6_mayPlace_84 : decode cX6_mayPlace 84 = .ok (.if_icmp .lt 7, 3) := by decide +kernel
theorem dX6_mayPlace_87 : decode cX6_mayPlace 87 = .ok (.iconst 1, 1) := by decide +kernel
theorem dX6_mayPlace_88 : decode cX6_mayPlace 88 = .ok (.goto 4, 3) := by decide +kernel
theorem dX6_mayPlace_91 : decode cX6_mayPlace 91 = .ok (.iconst 0, 1) := by decide +kernel
theorem dX6_mayPlace_92 : decode cX6_mayPlace 92 = .ok (.ireturn, 1) := by decide +kernel
set_option maxRecDepth 20000 in
theorem ggX6_moved_X6_mayPlace : GoodIn wsX6_moved wsX6_mayPlace := goodIn_r _ [8, 1, 9, 10, 11, 12, 7, 13, 2, 14, 15, 16, 17, 18, 19, 20, 21, 22, 23, 24, 25, 26, 27, 28, 29, 30, 31, 32, 33, 34, 35, 36, 37, 38, 39, 40, 41, 42, 43, 44, 45, 46] (by decide +kernel) (by decide +kernel)
set_option maxRecDepth 20000 in
theorem gX6_moved_X6_mayPlace : GoodIn wsX6_moved (wsV RX6 163 RX6 yX6_mayPlace wsX6_mayPlace) := goodIn_app (goodIn_of _ (by decide +kernel)) ggX6_moved_X6_mayPlace
set_option maxRecDepth 20000 in
theorem ggX6_moved_X6_in : GoodIn wsX6_moved wsX6_in := goodIn_r _ [22] (by decide +kernel) (by decide +kernel)
set_option maxRecDepth 20000 in
theorem gX6_moved_X6_in : GoodIn wsX6_moved (va_wsS RX6 47 yX6_in wsX6_in) := goodIn_app (goodIn_of _ (by decide +kernel)) ggX6_moved_X6_in
theorem dX6_moved_0 : decode cX6_moved 0 = .ok (.aload_n 0, 1) := by decide +kernel
theorem dX6_moved_1 : decode cX6_moved 1 = .ok (.getfield 16, 3) := by decide +kernel
theorem dX6_moved_4 : decode cX6_moved 4 = .ok (.iconst 3, 1) := by decide +kernel
theorem dX6_moved_5 : decode cX6_moved 5 = .ok (.iload_n 1, 1) := by decide +kernel
theorem dX6_moved_6 : decode cX6_moved 6 = .ok (.imul, 1) := by decide +kernel
theorem dX6_moved_7 : decode cX6_moved 7 = .ok (.iload_n 2, 1) := by decide +kernel
theorem dX6_moved_8 : decode cX6_moved 8 = .ok (.iconst 2, 1) := by decide +kernel
theorem dX6_moved_9 : decode cX6_moved 9 = .ok (.idiv, 1) := by decide +kernel
theorem dX6_moved_10 : decode cX6_moved 10 = .ok (.iadd, 1) := by decide +kernel
theorem dX6_moved_11 : decode cX6_moved 11 = .ok (.iaload, 1) := by decide +kernel
theorem dX6_moved_12 : decode cX6_moved 12 = .ok (.istore_n 3, 1) := by decide +kernel
theorem dX6_moved_13 : decode cX6_moved 13 = .ok (.iload_n 2, 1) := by decide +kernel
theorem dX6_moved_14 : decode cX6_moved 14 = .ok (.iconst 2, 1) := by decide +kernel
theorem dX6_moved_15 : decode cX6_moved 15 = .ok (.if_icmp .ge 35, 3) := by decide +kernel
theorem dX6_moved_18 : decode cX6_moved 18 = .ok (.iload_n 2, 1) := by decide +kernel
theorem dX6_moved_19 : decode cX6_moved 19 = .ok (.ifCond .ne 9, 3) := by decide +kernel
theorem dX6_moved_22 : decode cX6_moved 22 = .ok (.iload_n 3, 1) := by decide +kernel
theorem dX6_moved_23 : decode cX6_moved 23 = .ok (.iconst 1, 1) := by decide +kernel
theorem dX6_moved_24 : decode cX6_moved 24 = .ok (.iadd, 1) := by decide +kernel
theorem dX6_moved_25 : decode cX6_moved 25 = .ok (.goto 6, 3) := by decide +kernel
theorem dX6_moved_28 : decode cX6_moved 28 = .ok (.iload_n 3, 1) := by decide +kernel
theorem dX6_moved_29 : decode cX6_moved 29 = .ok (.iconst 1, 1) := by decide +kernel
theorem dX6_moved_30 : decode cX6_moved 30 = .ok (.isub, 1) := by decide +kernel
theorem dX6_moved_31 : decode cX6_moved 31 = .ok (.istore 4, 2) := by decide +kernel
theorem dX6_moved_33 : decode cX6_moved 33 = .ok (.aload_n 0, 1) := by decide +kernel
theorem dX6_moved_34 : decode cX6_moved 34 = .ok (.iload_n 1, 1) := by decide +kernel
theorem dX6_moved_35 : decode cX6_moved 35 = .ok (.iload 4, 2) := by decide +kernel
theorem dX6_moved_37 : decode cX6_moved 37 = .ok (.invokevirtual 163, 3) := by decide +kernel
theorem dX6_moved_40 : decode cX6_moved 40 = .ok (.ifCond .eq 8, 3) := by decide +kernel
theorem dX6_moved_43 : decode cX6_moved 43 = .ok (.iload 4, 2) := by decide +kernel
theorem dX6_moved_45 : decode cX6_moved 45 = .ok (.goto 4, 3) := by decide +kernel
theorem dX6_moved_48 : decode cX6_moved 48 = .ok (.iconst (-1), 1) := by decide +kernel
theorem dX6_moved_49 : decode cX6_moved 49 = .ok (.ireturn, 1) := by decide +kernel
theorem dX6_moved_50 : decode cX6_moved 50 = .ok (.iload_n 2, 1) := by decide +kernel
theorem dX6_moved_51 : decode cX6_moved 51 = .ok (.iconst 2, 1) := by decide +kernel
theorem dX6_moved_52 : decode cX6_moved 52 = .ok (.if_icmp .ne 7, 3) := by decide +kernel
theorem dX6_moved_55 : decode cX6_moved 55 = .ok (.iconst 1, 1) := by decide +kernel
theorem dX6_moved_56 : decode cX6_moved 56 = .ok (.goto 4, 3) := by decide +kernel
theorem dX6_moved_59 : decode cX6_moved 59 = .ok (.iconst (-1), 1) := by decide +kernel
theorem dX6_moved_60 : decode cX6_moved 60 = .ok (.istore 4, 2) := by decide +kernel
theorem dX6_moved_62 : decode cX6_moved 62 = .ok (.iload_n 3, 1) := by decide +kernel
theorem dX6_moved_63 : decode cX6_moved 63 = .ok (.iload 4, 2) := by decide +kernel
theorem dX6_moved_65 : decode cX6_moved 65 = .ok (.iadd, 1) := by decide +kernel
theorem dX6_moved_66 : decode cX6_moved 66 = .ok (.istore 5, 2) := by decide +kernel
theorem dX6_moved_68 : decode cX6_moved 68 = .ok (.iload 5, 2) := by decide +kernel
theorem dX6_moved_70 : decode cX6_moved 70 = .ok (.i2l, 1) := by decide +kernel
theorem dX6_moved_71 : decode cX6_moved 71 = .ok (.lconst 1, 1) := by decide +kernel
theorem dX6_moved_72 : decode cX6_moved 72 = .ok (.ldc2_w 65, 3) := by decide +kernel
theorem dX6_moved_75 : decode cX6_moved 75 = .ok (.invokestatic 47, 3) := by decide +kernel
theorem dX6_moved_78 : decode cX6_moved 78 = .ok (.ifCond .eq 23, 3) := by decide +kernel
theorem dX6_moved_81 : decode cX6_moved 81 = .ok (.aload_n 0, 1) := by decide +kernel
theorem dX6_moved_82 : decode cX6_moved 82 = .ok (.getfield 31, 3) := by decide +kernel
theorem dX6_moved_85 : decode cX6_moved 85 = .ok (.iload 5, 2) := by decide +kernel
theorem dX6_moved_87 : decode cX6_moved 87 = .ok (.baload, 1) := by decide +kernel
theorem dX6_moved_88 : decode cX6_moved 88 = .ok (.ifCond .ne 13, 3) := by decide +kernel
theorem dX6_moved_91 : decode cX6_moved 91 = .ok (.iload 5, 2) := by decide +kernel
theorem dX6_moved_93 : decode cX6_moved 93 = .ok (.iload 4, 2) := by decide +kernel
theorem dX6_moved_95 : decode cX6_moved 95 = .ok (.iadd, 1) := by decide +kernel
theorem dX6_moved_96 : decode cX6_moved 96 = .ok (.istore 5, 2) := by decide +kernel
theorem dX6_moved_98 : decode cX6_moved 98 = .ok (.goto (-30), 3) := by decide +kernel
theorem dX6_moved_101 : decode cX6_moved 101 = .ok (.iload 5, 2) := by decide +kernel
theorem dX6_moved_103 : decode cX6_moved 103 = .ok (.i2l, 1) := by decide +kernel
theorem dX6_moved_104 : decode cX6_moved 104 = .ok (.lconst 1, 1) := by decide +kernel
theorem dX6_moved_105 : decode cX6_moved 105 = .ok (.ldc2_w 65, 3) := by decide +kernel
theorem dX6_moved_108 : decode cX6_moved 108 = .ok (.invokestatic 47, 3) := by decide +kernel
theorem dX6_moved_111 : decode cX6_moved 111 = .ok (.ifCond .eq 8, 3) := by decide +kernel
theorem dX6_moved_114 : decode cX6_moved 114 = .ok (.iload 5, 2) := by decide +kernel
theorem dX6_moved_116 : decode cX6_moved 116 = .ok (.goto 4, 3) := by decide +kernel
theorem dX6_moved_119 : decode cX6_moved 119 = .ok (.iconst (-1), 1) := by decide +kernel
theorem dX6_moved_120 : decode cX6_moved 120 = .ok (.ireturn, 1) := by decide +kernel
set_option maxRecDepth 20000 in
theorem ggX6_round_X6_badness : GoodIn wsX6_round wsX6_badness := goodIn_r _ [10, 3, 11, 12, 13, 9, 14, 15, 16, 17, 18, 19, 20, 21, 22, 1, 23, 24, 25, 26, 27, 28, 29, 30, 31, 4, 32, 33, 34, 35, 36, 37, 38, 39, 40, 41, 2, 42, 43, 44, 45, 46, 47, 48, 49, 50, 51, 52, 53, 54, 55, 56, 57, 58, 59, 60, 61, 84, 85, 86, 87, 88, 89, 90, 91, 92, 93, 94, 95, 96, 97, 98] (by decide +kernel) (by decide +kernel)
set_option maxRecDepth 20000 in
theorem gX6_round_X6_badness : GoodIn wsX6_round (wsV RX6 166 RX6 yX6_badness wsX6_badness) := goodIn_app (goodIn_of _ (by decide +kernel)) ggX6_round_X6_badness
set_option maxRecDepth 20000 in
theorem ggX6_round_X6_moved : GoodIn wsX6_round wsX6_moved := goodIn_r _ [65, 4, 66, 67, 68, 69, 70, 9, 71, 72, 73, 74, 75, 76, 33, 34, 35, 36, 1, 37, 77, 78, 79, 58, 59, 60, 61, 2, 80, 81, 82, 83, 84, 85, 86, 87, 88, 89, 90, 91, 92, 93, 94, 95, 96, 97, 98] (by decide +kernel) (by decide +kernel)
set_option maxRecDepth 20000 in
theorem gX6_round_X6_moved : GoodIn wsX6_round (wsV RX6 169 RX6 yX6_moved wsX6_moved) := goodIn_app (goodIn_of _ (by decide +kernel)) ggX6_round_X6_moved
theorem dX6_round_0 : decode cX6_round 0 = .ok (.aload_n 0, 1) := by decide +kernel
theorem dX6_round_1 : decode cX6_round 1 = .ok (.getfield 42, 3) := by decide +kernel
theorem dX6_round_4 : decode cX6_round 4 = .ok (.ifCond .eq 17, 3) := by decide +kernel
theorem dX6_round_7 : decode cX6_round 7 = .ok (.aload_n 0, 1) := by decide +kernel
theorem dX6_round_8 : decode cX6_round 8 = .ok (.getfield 67, 3) := by decide +kernel
theorem dX6_round_11 : decode cX6_round 11 = .ok (.ifCond .eq 10, 3) := by decide +kernel
theorem dX6_round_14 : decode cX6_round 14 = .ok (.aload_n 0, 1) := by decide +kernel
theorem dX6_round_15 : decode cX6_round 15 = .ok (.getfield 82, 3) := by decide +kernel
theorem dX6_round_18 : decode cX6_round 18 = .ok (.ifCond .ne 7, 3) := by decide +kernel
theorem dX6_round_21 : decode cX6_round 21 = .ok (.sipush (-1003), 3) := by decide +kernel
theorem dX6_round_24 : decode cX6_round 24 = .ok (.ireturn, 1) := by decide +kernel
theorem dX6_round_25 : decode cX6_round 25 = .ok (.aload_n 0, 1) := by decide +kernel
theorem dX6_round_26 : decode cX6_round 26 = .ok (.invokevirtual 166, 3) := by decide +kernel
theorem dX6_round_29 : decode cX6_round 29 = .ok (.istore_n 1, 1) := by decide +kernel
theorem dX6_round_30 : decode cX6_round 30 = .ok (.iconst (-1), 1) := by decide +kernel
theorem dX6_round_31 : decode cX6_round 31 = .ok (.istore_n 2, 1) := by decide +kernel
theorem dX6_round_32 : decode cX6_round 32 = .ok (.iconst 0, 1) := by decide +kernel
theorem dX6_round_33 : decode cX6_round 33 = .ok (.istore_n 3, 1) := by decide +kernel
theorem dX6_round_34 : decode cX6_round 34 = .ok (.iconst 0, 1) := by decide +kernel
theorem dX6_round_35 : decode cX6_round 35 = .ok (.istore 4, 2) := by decide +kernel
theorem dX6_round_37 : decode cX6_round 37 = .ok (.iload 4, 2) := by decide +kernel
theorem dX6_round_39 : decode cX6_round 39 = .ok (.iconst 4, 1) := by decide +kernel
theorem dX6_round_40 : decode cX6_round 40 = .ok (.aload_n 0, 1) := by decide +kernel
theorem dX6_round_41 : decode cX6_round 41 = .ok (.getfield 67, 3) := by decide +kernel
theorem dX6_round_44 : decode cX6_round 44 = .ok (.imul, 1) := by decide +kernel
theorem dX6_round_45 : decode cX6_round 45 = .ok (.if_icmp .ge 95, 3) := by decide +kernel
theorem dX6_round_48 : decode cX6_round 48 = .ok (.iload 4, 2) := by decide +kernel
theorem dX6_round_50 : decode cX6_round 50 = .ok (.iconst 4, 1) := by decide +kernel
theorem dX6_round_51 : decode cX6_round 51 = .ok (.idiv, 1) := by decide +kernel
theorem dX6_round_52 : decode cX6_round 52 = .ok (.istore 5, 2) := by decide +kernel
theorem dX6_round_54 : decode cX6_round 54 = .ok (.iload 4, 2) := by decide +kernel
theorem dX6_round_56 : decode cX6_round 56 = .ok (.iconst 4, 1) := by decide +kernel
theorem dX6_round_57 : decode cX6_round 57 = .ok (.irem, 1) := by decide +kernel
theorem dX6_round_58 : decode cX6_round 58 = .ok (.istore 6, 2) := by decide +kernel
theorem dX6_round_60 : decode cX6_round 60 = .ok (.aload_n 0, 1) := by decide +kernel
theorem dX6_round_61 : decode cX6_round 61 = .ok (.iload 5, 2) := by decide +kernel
theorem dX6_round_63 : decode cX6_round 63 = .ok (.iload 6, 2) := by decide +kernel
theorem dX6_round_65 : decode cX6_round 65 = .ok (.invokevirtual 169, 3) := by decide +kernel
theorem dX6_round_68 : decode cX6_round 68 = .ok (.istore 7, 2) := by decide +kernel
theorem dX6_round_70 : decode cX6_round 70 = .ok (.iload 7, 2) := by decide +kernel
theorem dX6_round_72 : decode cX6_round 72 = .ok (.ifCond .lt 62, 3) := by decide +kernel
theorem dX6_round_75 : decode cX6_round 75 = .ok (.iconst 3, 1) := by decide +kernel
theorem dX6_round_76 : decode cX6_round 76 = .ok (.iload 5, 2) := by decide +kernel
theorem dX6_round_78 : decode cX6_round 78 = .ok (.imul, 1) := by decide +kernel
theorem dX6_round_79 : decode cX6_round 79 = .ok (.iload 6, 2) := by decide +kernel
theorem dX6_round_81 : decode cX6_round 81 = .ok (.iconst 2, 1) := by decide +kernel
theorem dX6_round_82 : decode cX6_round 82 = .ok (.idiv, 1) := by decide +kernel
theorem dX6_round_83 : decode cX6_round 83 = .ok (.iadd, 1) := by decide +kernel
theorem dX6_round_84 : decode cX6_round 84 = .ok (.istore 8, 2) := by decide +kernel
theorem dX6_round_86 : decode cX6_round 86 = .ok (.aload_n 0, 1) := by decide +kernel
theorem dX6_round_87 : decode cX6_round 87 = .ok (.getfield 16, 3) := by decide +kernel
theorem dX6_round_90 : decode cX6_round 90 = .ok (.iload 8, 2) := by decide +kernel
theorem dX6_round_92 : decode cX6_round 92 = .ok (.iaload, 1) := by decide +kernel
theorem dX6_round_93 : decode cX6_round 93 = .ok (.istore 9, 2) := by decide +kernel
theorem dX6_round_95 : decode cX6_round 95 = .ok (.aload_n 0, 1) := by decide +kernel
theorem dX6_round_96 : decode cX6_round 96 = .ok (.getfield 16, 3) := by decide +kernel
theorem dX6_round_99 : decode cX6_round 99 = .ok (.iload 8, 2) := by decide +kernel
theorem dX6_round_101 : decode cX6_round 101 = .ok (.iload 7, 2) := by decide +kernel
theorem dX6_round_103 : decode cX6_round 103 = .ok (.iastore, 1) := by decide +kernel
theorem dX6_round_104 : decode cX6_round 104 = .ok (.aload_n 0, 1) := by decide +kernel
theorem dX6_round_105 : decode cX6_round 105 = .ok (.invokevirtual 166, 3) := by decide +kernel
theorem dX6_round_108 : decode cX6_round 108 = .ok (.istore 10, 2) := by decide +kernel
theorem dX6_round_110 : decode cX6_round 110 = .ok (.aload_n 0, 1) := by decide +kernel
theorem dX6_round_111 : decode cX6_round 111 = .ok (.getfield 16, 3) := by decide +kernel
theorem dX6_round_114 : decode cX6_round 114 = .ok (.iload 8, 2) := by decide +kernel
theorem dX6_round_116 : decode cX6_round 116 = .ok (.iload 9, 2) := by decide +kernel
theorem dX6_round_118 : decode cX6_round 118 = .ok (.iastore, 1) := by decide +kernel
theorem dX6_round_119 : decode cX6_round 119 = .ok (.iload 10, 2) := by decide +kernel
theorem dX6_round_121 : decode cX6_round 121 = .ok (.iload_n 1, 1) := by decide +kernel
theorem dX6_round_122 : decode cX6_round 122 = .ok (.if_icmp .ge 12, 3) := by decide +kernel
theorem dX6_round_125 : decode cX6_round 125 = .ok (.iload 10, 2) := by decide +kernel
theorem dX6_round_127 : decode cX6_round 127 = .ok (.istore_n 1, 1) := by decide +kernel
theorem dX6_round_128 : decode cX6_round 128 = .ok (.iload 8, 2) := by decide +kernel
theorem dX6_round_130 : decode cX6_round 130 = .ok (.istore_n 2, 1) := by decide +kernel
theorem dX6_round_131 : decode cX6_round 131 = .ok (.iload 7, 2) := by decide +kernel
theorem dX6_round_133 : decode cX6_round 133 = .ok (.istore_n 3, 1) := by decide +kernel
theorem dX6_round_134 : decode cX6_round 134 = .ok (.iinc 4 1, 3) := by decide +kernel
theorem dX6_round_137 : decode cX6_round 137 = .ok (.goto (-100), 3) := by decide +kernel
theorem dX6_round_140 : decode cX6_round 140 = .ok (.iload_n 2, 1) := by decide +kernel
theorem dX6_round_141 : decode cX6_round 141 = .ok (.ifCond .ge 5, 3) := by decide +kernel
theorem dX6_round_144 : decode cX6_round 144 = .ok (.iconst 0, 1) := by decide +kernel
theorem dX6_round_145 : decode cX6_round 145 = .ok (.ireturn, 1) := by decide +kernel
theorem dX6_round_146 : decode cX6_round 146 = .ok (.aload_n 0, 1) := by decide +kernel
theorem dX6_round_147 : decode cX6_round 147 = .ok (.getfield 16, 3) := by decide +kernel
theorem dX6_round_150 : decode cX6_round 150 = .ok (.iload_n 2, 1) := by decide +kernel
theorem dX6_round_151 : decode cX6_round 151 = .ok (.iload_n 3, 1) := by decide +kernel
theorem dX6_round_152 : decode cX6_round 152 = .ok (.iastore, 1) := by decide +kernel
theorem dX6_round_153 : decode cX6_round 153 = .ok (.aload_n 0, 1) := by decide +kernel
theorem dX6_round_154 : decode cX6_round 154 = .ok (.dup, 1) := by decide +kernel
theorem dX6_round_155 : decode cX6_round 155 = .ok (.getfield 85, 3) := by decide +kernel
theorem dX6_round_158 : decode cX6_round 158 = .ok (.iconst 1, 1) := by decide +kernel
theorem dX6_round_159 : decode cX6_round 159 = .ok (.iadd, 1) := by decide +kernel
theorem dX6_round_160 : decode cX6_round 160 = .ok (.putfield 85, 3) := by decide +kernel
theorem dX6_round_163 : decode cX6_round 163 = .ok (.iconst 1, 1) := by decide +kernel
theorem dX6_round_164 : decode cX6_round 164 = .ok (.ireturn, 1) := by decide +kernel
set_option maxRecDepth 20000 in
theorem ggX6_keep_X6_in : GoodIn wsX6_keep wsX6_in := goodIn_r _ [11] (by decide +kernel) (by decide +kernel)
set_option maxRecDepth 20000 in
theorem gX6_keep_X6_in : GoodIn wsX6_keep (va_wsS RX6 47 yX6_in wsX6_in) := goodIn_app (goodIn_of _ (by decide +kernel)) ggX6_keep_X6_in
theorem dX6_keep_0 : decode cX6_keep 0 = .ok (.iload_n 1, 1) := by decide +kernel
theorem dX6_keep_1 : decode cX6_keep 1 = .ok (.i2l, 1) := by decide +kernel
theorem dX6_keep_2 : decode cX6_keep 2 = .ok (.lconst 0, 1) := by decide +kernel
theorem dX6_keep_3 : decode cX6_keep 3 = .ok (.lconst 1, 1) := by decide +kernel
theorem dX6_keep_4 : decode cX6_keep 4 = .ok (.invokestatic 47, 3) := by decide +kernel
theorem dX6_keep_7 : decode cX6_keep 7 = .ok (.ifCond .ne 7, 3) := by decide +kernel
theorem dX6_keep_10 : decode cX6_keep 10 = .ok (.sipush (-1001), 3) := by decide +kernel
theorem dX6_keep_13 : decode cX6_keep 13 = .ok (.ireturn, 1) := by decide +kernel
theorem dX6_keep_14 : decode cX6_keep 14 = .ok (.aload_n 0, 1) := by decide +kernel
theorem dX6_keep_15 : decode cX6_keep 15 = .ok (.getfield 39, 3) := by decide +kernel
theorem dX6_keep_18 : decode cX6_keep 18 = .ok (.bipush 50, 2) := by decide +kernel
theorem dX6_keep_20 : decode cX6_keep 20 = .ok (.iload_n 1, 1) := by decide +kernel
theorem dX6_keep_21 : decode cX6_keep 21 = .ok (.imul, 1) := by decide +kernel
theorem dX6_keep_22 : decode cX6_keep 22 = .ok (.aload_n 0, 1) := by decide +kernel
theorem dX6_keep_23 : decode cX6_keep 23 = .ok (.getfield 42, 3) := by decide +kernel
theorem dX6_keep_26 : decode cX6_keep 26 = .ok (.iastore, 1) := by decide +kernel
theorem dX6_keep_27 : decode cX6_keep 27 = .ok (.aload_n 0, 1) := by decide +kernel
theorem dX6_keep_28 : decode cX6_keep 28 = .ok (.getfield 39, 3) := by decide +kernel
theorem dX6_keep_31 : decode cX6_keep 31 = .ok (.bipush 50, 2) := by decide +kernel
theorem dX6_keep_33 : decode cX6_keep 33 = .ok (.iload_n 1, 1) := by decide +kernel
theorem dX6_keep_34 : decode cX6_keep 34 = .ok (.imul, 1) := by decide +kernel
theorem dX6_keep_35 : decode cX6_keep 35 = .ok (.iconst 1, 1) := by decide +kernel
theorem dX6_keep_36 : decode cX6_keep 36 = .ok (.iadd, 1) := by decide +kernel
theorem dX6_keep_37 : decode cX6_keep 37 = .ok (.aload_n 0, 1) := by decide +kernel
theorem dX6_keep_38 : decode cX6_keep 38 = .ok (.getfield 67, 3) := by decide +kernel
theorem dX6_keep_41 : decode cX6_keep 41 = .ok (.iastore, 1) := by decide +kernel
theorem dX6_keep_42 : decode cX6_keep 42 = .ok (.aload_n 0, 1) := by decide +kernel
theorem dX6_keep_43 : decode cX6_keep 43 = .ok (.getfield 39, 3) := by decide +kernel
theorem dX6_keep_46 : decode cX6_keep 46 = .ok (.bipush 50, 2) := by decide +kernel
theorem dX6_keep_48 : decode cX6_keep 48 = .ok (.iload_n 1, 1) := by decide +kernel
theorem dX6_keep_49 : decode cX6_keep 49 = .ok (.imul, 1) := by decide +kernel
theorem dX6_keep_50 : decode cX6_keep 50 = .ok (.iconst 2, 1) := by decide +kernel
theorem dX6_keep_51 : decode cX6_keep 51 = .ok (.iadd, 1) := by decide +kernel
theorem dX6_keep_52 : decode cX6_keep 52 = .ok (.aload_n 0, 1) := by decide +kernel
theorem dX6_keep_53 : decode cX6_keep 53 = .ok (.getfield 19, 3) := by decide +kernel
theorem dX6_keep_56 : decode cX6_keep 56 = .ok (.iconst 0, 1) := by decide +kernel
theorem dX6_keep_57 : decode cX6_keep 57 = .ok (.iaload, 1) := by decide +kernel
theorem dX6_keep_58 : decode cX6_keep 58 = .ok (.iastore, 1) := by decide +kernel
theorem dX6_keep_59 : decode cX6_keep 59 = .ok (.aload_n 0, 1) := by decide +kernel
theorem dX6_keep_60 : decode cX6_keep 60 = .ok (.getfield 39, 3) := by decide +kernel
theorem dX6_keep_63 : decode cX6_keep 63 = .ok (.bipush 50, 2) := by decide +kernel
theorem dX6_keep_65 : decode cX6_keep 65 = .ok (.iload_n 1, 1) := by decide +kernel
theorem dX6_keep_66 : decode cX6_keep 66 = .ok (.imul, 1) := by decide +kernel
theorem dX6_keep_67 : decode cX6_keep 67 = .ok (.iconst 3, 1) := by decide +kernel
theorem dX6_keep_68 : decode cX6_keep 68 = .ok (.iadd, 1) := by decide +kernel
theorem dX6_keep_69 : decode cX6_keep 69 = .ok (.aload_n 0, 1) := by decide +kernel
theorem dX6_keep_70 : decode cX6_keep 70 = .ok (.getfield 19, 3) := by decide +kernel
theorem dX6_keep_73 : decode cX6_keep 73 = .ok (.iconst 1, 1) := by decide +kernel
theorem dX6_keep_74 : decode cX6_keep 74 = .ok (.iaload, 1) := by decide +kernel
theorem dX6_keep_75 : decode cX6_keep 75 = .ok (.iastore, 1) := by decide +kernel
theorem dX6_keep_76 : decode cX6_keep 76 = .ok (.iconst 0, 1) := by decide +kernel
theorem dX6_keep_77 : decode cX6_keep 77 = .ok (.istore_n 2, 1) := by decide +kernel
theorem dX6_keep_78 : decode cX6_keep 78 = .ok (.iload_n 2, 1) := by decide +kernel
theorem dX6_keep_79 : decode cX6_keep 79 = .ok (.bipush 12, 2) := by decide +kernel
theorem dX6_keep_81 : decode cX6_keep 81 = .ok (.if_icmp .ge 51, 3) := by decide +kernel
theorem dX6_keep_84 : decode cX6_keep 84 = .ok (.aload_n 0, 1) := by decide +kernel
theorem dX6_keep_85 : decode cX6_keep 85 = .ok (.getfield 39, 3) := by decide +kernel
theorem dX6_keep_88 : decode cX6_keep 88 = .ok (.bipush 50, 2) := by decide +kernel
theorem dX6_keep_90 : decode cX6_keep 90 = .ok (.iload_n 1, 1) := by decide +kernel
theorem dX6_keep_91 : decode cX6_keep 91 = .ok (.imul, 1) := by decide +kernel
theorem dX6_keep_92 : decode cX6_keep 92 = .ok (.iconst 4, 1) := by decide +kernel
theorem dX6_keep_93 : decode cX6_keep 93 = .ok (.iadd, 1) := by decide +kernel
theorem dX6_keep_94 : decode cX6_keep 94 = .ok (.iconst 2, 1) := by decide +kernel
theorem dX6_keep_95 : decode cX6_keep 95 = .ok (.iload_n 2, 1) := by decide +kernel
theorem dX6_keep_96 : decode cX6_keep 96 = .ok (.imul, 1) := by decide +kernel
theorem dX6_keep_97 : decode cX6_keep 97 = .ok (.iadd, 1) := by decide +kernel
theorem dX6_keep_98 : decode cX6_keep 98 = .ok (.aload_n 0, 1) := by decide +kernel
theorem dX6_keep_99 : decode cX6_keep 99 = .ok (.getfield 7, 3) := by decide +kernel
theorem dX6_keep_102 : decode cX6_keep 102 = .ok (.iload_n 2, 1) := by decide +kernel
theorem dX6_keep_103 : decode cX6_keep 103 = .ok (.iaload, 1) := by decide +kernel
theorem dX6_keep_104 : decode cX6_keep 104 = .ok (.iastore, 1) := by decide +kernel
theorem dX6_keep_105 : decode cX6_keep 105 = .ok (.aload_n 0, 1) := by decide +kernel
theorem dX6_keep_106 : decode cX6_keep 106 = .ok (.getfield 39, 3) := by decide +kernel
theorem dX6_keep_109 : decode cX6_keep 109 = .ok (.bipush 50, 2) := by decide +kernel
theorem dX6_keep_111 : decode cX6_keep 111 = .ok (.iload_n 1, 1) := by decide +kernel
theorem dX6_keep_112 : decode cX6_keep 112 = .ok (.imul, 1) := by decide +kernel
theorem dX6_keep_113 : decode cX6_keep 113 = .ok (.iconst 5, 1) := by decide +kernel
theorem dX6_keep_114 : decode cX6_keep 114 = .ok (.iadd, 1) := by decide +kernel
theorem dX6_keep_115 : decode cX6_keep 115 = .ok (.iconst 2, 1) := by decide +kernel
theorem dX6_keep_116 : decode cX6_keep 116 = .ok (.iload_n 2, 1) := by decide +kernel
theorem dX6_keep_117 : decode cX6_keep 117 = .ok (.imul, 1) := by decide +kernel
theorem dX6_keep_118 : decode cX6_keep 118 = .ok (.iadd, 1) := by decide +kernel
theorem dX6_keep_119 : decode cX6_keep 119 = .ok (.aload_n 0, 1) := by decide +kernel
theorem dX6_keep_120 : decode cX6_keep 120 = .ok (.getfield 13, 3) := by decide +kernel
theorem dX6_keep_123 : decode cX6_keep 123 = .ok (.iload_n 2, 1) := by decide +kernel
theorem dX6_keep_124 : decode cX6_keep 124 = .ok (.iaload, 1) := by decide +kernel
theorem dX6_keep_125 : decode cX6_keep 125 = .ok (.iastore, 1) := by decide +kernel
theorem dX6_keep_126 : decode cX6_keep 126 = .ok (.iinc 2 1, 3) := by decide +kernel
theorem dX6_keep_129 : decode cX6_keep 129 = .ok (.goto (-51), 3) := by decide +kernel
theorem dX6_keep_132 : decode cX6_keep 132 = .ok (.iconst 0, 1) := by decide +kernel
theorem dX6_keep_133 : decode cX6_keep 133 = .ok (.istore_n 2, 1) := by decide +kernel
theorem dX6_keep_134 : decode cX6_keep 134 = .ok (.iload_n 2, 1) := by decide +kernel
theorem dX6_keep_135 : decode cX6_keep 135 = .ok (.bipush 18, 2) := by decide +kernel
theorem dX6_keep_137 : decode cX6_keep 137 = .ok (.if_icmp .ge 29, 3) := by decide +kernel
theorem dX6_keep_140 : decode cX6_keep 140 = .ok (.aload_n 0, 1) := by decide +kernel
theorem dX6_keep_141 : decode cX6_keep 141 = .ok (.getfield 39, 3) := by decide +kernel
theorem dX6_keep_144 : decode cX6_keep 144 = .ok (.bipush 50, 2) := by decide +kernel
theorem dX6_keep_146 : decode cX6_keep 146 = .ok (.iload_n 1, 1) := by decide +kernel
theorem dX6_keep_147 : decode cX6_keep 147 = .ok (.imul, 1) := by decide +kernel
theorem dX6_keep_148 : decode cX6_keep 148 = .ok (.bipush 28, 2) := by decide +kernel
theorem dX6_keep_150 : decode cX6_keep 150 = .ok (.iadd, 1) := by decide +kernel
theorem dX6_keep_151 : decode cX6_keep 151 = .ok (.iload_n 2, 1) := by decide +kernel
theorem dX6_keep_152 : decode cX6_keep 152 = .ok (.iadd, 1) := by decide +kernel
theorem dX6_keep_153 : decode cX6_keep 153 = .ok (.aload_n 0, 1) := by decide +kernel
theorem dX6_keep_154 : decode cX6_keep 154 = .ok (.getfield 16, 3) := by decide +kernel
theorem dX6_keep_157 : decode cX6_keep 157 = .ok (.iload_n 2, 1) := by decide +kernel
theorem dX6_keep_158 : decode cX6_keep 158 = .ok (.iaload, 1) := by decide +kernel
theorem dX6_keep_159 : decode cX6_keep 159 = .ok (.iastore, 1) := by decide +kernel
theorem dX6_keep_160 : decode cX6_keep 160 = .ok (.iinc 2 1, 3) := by decide +kernel
theorem dX6_keep_163 : decode cX6_keep 163 = .ok (.goto (-29), 3) := by decide +kernel
theorem dX6_keep_166 : decode cX6_keep 166 = .ok (.iconst 1, 1) := by decide +kernel
theorem dX6_keep_167 : decode cX6_keep 167 = .ok (.ireturn, 1) := by decide +kernel
set_option maxRecDepth 20000 in
theorem ggX6_back_X6_in : GoodIn wsX6_back wsX6_in := goodIn_r _ [11] (by decide +kernel) (by decide +kernel)
set_option maxRecDepth 20000 in
theorem gX6_back_X6_in : GoodIn wsX6_back (va_wsS RX6 47 yX6_in wsX6_in) := goodIn_app (goodIn_of _ (by decide +kernel)) ggX6_back_X6_in
theorem dX6_back_0 : decode cX6_back 0 = .ok (.iload_n 1, 1) := by decide +kernel
theorem dX6_back_1 : decode cX6_back 1 = .ok (.i2l, 1) := by decide +kernel
theorem dX6_back_2 : decode cX6_back 2 = .ok (.lconst 0, 1) := by decide +kernel
theorem dX6_back_3 : decode cX6_back 3 = .ok (.lconst 1, 1) := by decide +kernel
theorem dX6_back_4 : decode cX6_back 4 = .ok (.invokestatic 47, 3) := by decide +kernel
theorem dX6_back_7 : decode cX6_back 7 = .ok (.ifCond .ne 7, 3) := by decide +kernel
theorem dX6_back_10 : decode cX6_back 10 = .ok (.sipush (-1001), 3) := by decide +kernel
theorem dX6_back_13 : decode cX6_back 13 = .ok (.ireturn, 1) := by decide +kernel
theorem dX6_back_14 : decode cX6_back 14 = .ok (.aload_n 0, 1) := by decide +kernel
theorem dX6_back_15 : decode cX6_back 15 = .ok (.getfield 39, 3) := by decide +kernel
theorem dX6_back_18 : decode cX6_back 18 = .ok (.bipush 50, 2) := by decide +kernel
theorem dX6_back_20 : decode cX6_back 20 = .ok (.iload_n 1, 1) := by decide +kernel
theorem dX6_back_21 : decode cX6_back 21 = .ok (.imul, 1) := by decide +kernel
theorem dX6_back_22 : decode cX6_back 22 = .ok (.iaload, 1) := by decide +kernel
theorem dX6_back_23 : decode cX6_back 23 = .ok (.ifCond .ge 7, 3) := by decide +kernel
theorem dX6_back_26 : decode cX6_back 26 = .ok (.sipush (-1003), 3) := by decide +kernel
theorem dX6_back_29 : decode cX6_back 29 = .ok (.ireturn, 1) := by decide +kernel
theorem dX6_back_30 : decode cX6_back 30 = .ok (.aload_n 0, 1) := by decide +kernel
theorem dX6_back_31 : decode cX6_back 31 = .ok (.aload_n 0, 1) := by decide +kernel
theorem dX6_back_32 : decode cX6_back 32 = .ok (.getfield 39, 3) := by decide +kernel
theorem dX6_back_35 : decode cX6_back 35 = .ok (.bipush 50, 2) := by decide +kernel
theorem dX6_back_37 : decode cX6_back 37 = .ok (.iload_n 1, 1) := by decide +kernel
theorem dX6_back_38 : decode cX6_back 38 = .ok (.imul, 1) := by decide +kernel
theorem dX6_back_39 : decode cX6_back 39 = .ok (.iaload, 1) := by decide +kernel
theorem dX6_back_40 : decode cX6_back 40 = .ok (.putfield 42, 3) := by decide +kernel
theorem dX6_back_43 : decode cX6_back 43 = .ok (.aload_n 0, 1) := by decide +kernel
theorem dX6_back_44 : decode cX6_back 44 = .ok (.aload_n 0, 1) := by decide +kernel
theorem dX6_back_45 : decode cX6_back 45 = .ok (.getfield 39, 3) := by decide +kernel
theorem dX6_back_48 : decode cX6_back 48 = .ok (.bipush 50, 2) := by decide +kernel
theorem dX6_back_50 : decode cX6_back 50 = .ok (.iload_n 1, 1) := by decide +kernel
theorem dX6_back_51 : decode cX6_back 51 = .ok (.imul, 1) := by decide +kernel
theorem dX6_back_52 : decode cX6_back 52 = .ok (.iconst 1, 1) := by decide +kernel
theorem dX6_back_53 : decode cX6_back 53 = .ok (.iadd, 1) := by decide +kernel
theorem dX6_back_54 : decode cX6_back 54 = .ok (.iaload, 1) := by decide +kernel
theorem dX6_back_55 : decode cX6_back 55 = .ok (.putfield 67, 3) := by decide +kernel
theorem dX6_back_58 : decode cX6_back 58 = .ok (.aload_n 0, 1) := by decide +kernel
theorem dX6_back_59 : decode cX6_back 59 = .ok (.getfield 19, 3) := by decide +kernel
theorem dX6_back_62 : decode cX6_back 62 = .ok (.iconst 0, 1) := by decide +kernel
theorem dX6_back_63 : decode cX6_back 63 = .ok (.aload_n 0, 1) := by decide +kernel
theorem dX6_back_64 : decode cX6_back 64 = .ok (.getfield 39, 3) := by decide +kernel
theorem dX6_back_67 : decode cX6_back 67 = .ok (.bipush 50, 2) := by decide +kernel
theorem dX6_back_69 : decode cX6_back 69 = .ok (.iload_n 1, 1) := by decide +kernel
theorem dX6_back_70 : decode cX6_back 70 = .ok (.imul, 1) := by decide +kernel
theorem dX6_back_71 : decode cX6_back 71 = .ok (.iconst 2, 1) := by decide +kernel
theorem dX6_back_72 : decode cX6_back 72 = .ok (.iadd, 1) := by decide +kernel
theorem dX6_back_73 : decode cX6_back 73 = .ok (.iaload, 1) := by decide +kernel
theorem dX6_back_74 : decode cX6_back 74 = .ok (.iastore, 1) := by decide +kernel
theorem dX6_back_75 : decode cX6_back 75 = .ok (.aload_n 0, 1) := by decide +kernel
theorem dX6_back_76 : decode cX6_back 76 = .ok (.getfield 19, 3) := by decide +kernel
theorem dX6_back_79 : decode cX6_back 79 = .ok (.iconst 1, 1) := by decide +kernel
theorem dX6_back_80 : decode cX6_back 80 = .ok (.aload_n 0, 1) := by decide +kernel
theorem dX6_back_81 : decode cX6_back 81 = .ok (.getfield 39, 3) := by decide +kernel
theorem dX6_back_84 : decode cX6_back 84 = .ok (.bipush 50, 2) := by decide +kernel
theorem dX6_back_86 : decode cX6_back 86 = .ok (.iload_n 1, 1) := by decide +kernel
theorem dX6_back_87 : decode cX6_back 87 = .ok (.imul, 1) := by decide +kernel
theorem dX6_back_88 : decode cX6_back 88 = .ok (.iconst 3, 1) := by decide +kernel
theorem dX6_back_89 : decode cX6_back 89 = .ok (.iadd, 1) := by decide +kernel
theorem dX6_back_90 : decode cX6_back 90 = .ok (.iaload, 1) := by decide +kernel
theorem dX6_back_91 : decode cX6_back 91 = .ok (.iastore, 1) := by decide +kernel
theorem dX6_back_92 : decode cX6_back 92 = .ok (.iconst 0, 1) := by decide +kernel
theorem dX6_back_93 : decode cX6_back 93 = .ok (.istore_n 2, 1) := by decide +kernel
theorem dX6_back_94 : decode cX6_back 94 = .ok (.iload_n 2, 1) := by decide +kernel
theorem dX6_back_95 : decode cX6_back 95 = .ok (.bipush 12, 2) := by decide +kernel
theorem dX6_back_97 : decode cX6_back 97 = .ok (.if_icmp .ge 51, 3) := by decide +kernel
theorem dX6_back_100 : decode cX6_back 100 = .ok (.aload_n 0, 1) := by decide +kernel
theorem dX6_back_101 : decode cX6_back 101 = .ok (.getfield 7, 3) := by decide +kernel
theorem dX6_back_104 : decode cX6_back 104 = .ok (.iload_n 2, 1) := by decide +kernel
theorem dX6_back_105 : decode cX6_back 105 = .ok (.aload_n 0, 1) := by decide +kernel
theorem dX6_back_106 : decode cX6_back 106 = .ok (.getfield 39, 3) := by decide +kernel
theorem dX6_back_109 : decode cX6_back 109 = .ok (.bipush 50, 2) := by decide +kernel
theorem dX6_back_111 : decode cX6_back 111 = .ok (.iload_n 1, 1) := by decide +kernel
theorem dX6_back_112 : decode cX6_back 112 = .ok (.imul, 1) := by decide +kernel
theorem dX6_back_113 : decode cX6_back 113 = .ok (.iconst 4, 1) := by decide +kernel
theorem dX6_back_114 : decode cX6_back 114 = .ok (.iadd, 1) := by decide +kernel
theorem dX6_back_115 : decode cX6_back 115 = .ok (.iconst 2, 1) := by decide +kernel
theorem dX6_back_116 : decode cX6_back 116 = .ok (.iload_n 2, 1) := by decide +kernel
theorem dX6_back_117 : decode cX6_back 117 = .ok (.imul, 1) := by decide +kernel
theorem dX6_back_118 : decode cX6_back 118 = .ok (.iadd, 1) := by decide +kernel
theorem dX6_back_119 : decode cX6_back 119 = .ok (.iaload, 1) := by decide +kernel
theorem dX6_back_120 : decode cX6_back 120 = .ok (.iastore, 1) := by decide +kernel
theorem dX6_back_121 : decode cX6_back 121 = .ok (.aload_n 0, 1) := by decide +kernel
theorem dX6_back_122 : decode cX6_back 122 = .ok (.getfield 13, 3) := by decide +kernel
theorem dX6_back_125 : decode cX6_back 125 = .ok (.iload_n 2, 1) := by decide +kernel
theorem dX6_back_126 : decode cX6_back 126 = .ok (.aload_n 0, 1) := by decide +kernel
theorem dX6_back_127 : decode cX6_back 127 = .ok (.getfield 39, 3) := by decide +kernel
theorem dX6_back_130 : decode cX6_back 130 = .ok (.bipush 50, 2) := by decide +kernel
theorem dX6_back_132 : decode cX6_back 132 = .ok (.iload_n 1, 1) := by decide +kernel
theorem dX6_back_133 : decode cX6_back 133 = .ok (.imul, 1) := by decide +kernel
theorem dX6_back_134 : decode cX6_back 134 = .ok (.iconst 5, 1) := by decide +kernel
theorem dX6_back_135 : decode cX6_back 135 = .ok (.iadd, 1) := by decide +kernel
theorem dX6_back_136 : decode cX6_back 136 = .ok (.iconst 2, 1) := by decide +kernel
theorem dX6_back_137 : decode cX6_back 137 = .ok (.iload_n 2, 1) := by decide +kernel
theorem dX6_back_138 : decode cX6_back 138 = .ok (.imul, 1) := by decide +kernel
theorem dX6_back_139 : decode cX6_back 139 = .ok (.iadd, 1) := by decide +kernel
theorem dX6_back_140 : decode cX6_back 140 = .ok (.iaload, 1) := by decide +kernel
theorem dX6_back_141 : decode cX6_back 141 = .ok (.iastore, 1) := by decide +kernel
theorem dX6_back_142 : decode cX6_back 142 = .ok (.iinc 2 1, 3) := by decide +kernel
theorem dX6_back_145 : decode cX6_back 145 = .ok (.goto (-51), 3) := by decide +kernel
theorem dX6_back_148 : decode cX6_back 148 = .ok (.iconst 0, 1) := by decide +kernel
theorem dX6_back_149 : decode cX6_back 149 = .ok (.istore_n 2, 1) := by decide +kernel
theorem dX6_back_150 : decode cX6_back 150 = .ok (.iload_n 2, 1) := by decide +kernel
theorem dX6_back_151 : decode cX6_back 151 = .ok (.bipush 18, 2) := by decide +kernel
theorem dX6_back_153 : decode cX6_back 153 = .ok (.if_icmp .ge 29, 3) := by decide +kernel
theorem dX6_back_156 : decode cX6_back 156 = .ok (.aload_n 0, 1) := by decide +kernel
theorem dX6_back_157 : decode cX6_back 157 = .ok (.getfield 16, 3) := by decide +kernel
theorem dX6_back_160 : decode cX6_back 160 = .ok (.iload_n 2, 1) := by decide +kernel
theorem dX6_back_161 : decode cX6_back 161 = .ok (.aload_n 0, 1) := by decide +kernel
theorem dX6_back_162 : decode cX6_back 162 = .ok (.getfield 39, 3) := by decide +kernel
theorem dX6_back_165 : decode cX6_back 165 = .ok (.bipush 50, 2) := by decide +kernel
theorem dX6_back_167 : decode cX6_back 167 = .ok (.iload_n 1, 1) := by decide +kernel
theorem dX6_back_168 : decode cX6_back 168 = .ok (.imul, 1) := by decide +kernel
theorem dX6_back_169 : decode cX6_back 169 = .ok (.bipush 28, 2) := by decide +kernel
theorem dX6_back_171 : decode cX6_back 171 = .ok (.iadd, 1) := by decide +kernel
theorem dX6_back_172 : decode cX6_back 172 = .ok (.iload_n 2, 1) := by decide +kernel
theorem dX6_back_173 : decode cX6_back 173 = .ok (.iadd, 1) := by decide +kernel
theorem dX6_back_174 : decode cX6_back 174 = .ok (.iaload, 1) := by decide +kernel
theorem dX6_back_175 : decode cX6_back 175 = .ok (.iastore, 1) := by decide +kernel
theorem dX6_back_176 : decode cX6_back 176 = .ok (.iinc 2 1, 3) := by decide +kernel
theorem dX6_back_179 : decode cX6_back 179 = .ok (.goto (-29), 3) := by decide +kernel
theorem dX6_back_182 : decode cX6_back 182 = .ok (.iconst 1, 1) := by decide +kernel
theorem dX6_back_183 : decode cX6_back 183 = .ok (.ireturn, 1) := by decide +kernel
theorem dX6_unlike_0 : decode cX6_unlike 0 = .ok (.iload_n 0, 1) := by decide +kernel
theorem dX6_unlike_1 : decode cX6_unlike 1 = .ok (.ifCond .eq 19, 3) := by decide +kernel
theorem dX6_unlike_4 : decode cX6_unlike 4 = .ok (.iload_n 1, 1) := by decide +kernel
theorem dX6_unlike_5 : decode cX6_unlike 5 = .ok (.ifCond .eq 15, 3) := by decide +kernel
theorem dX6_unlike_8 : decode cX6_unlike 8 = .ok (.iload_n 2, 1) := by decide +kernel
theorem dX6_unlike_9 : decode cX6_unlike 9 = .ok (.ifCond .eq 7, 3) := by decide +kernel
theorem dX6_unlike_12 : decode cX6_unlike 12 = .ok (.iconst 0, 1) := by decide +kernel
theorem dX6_unlike_13 : decode cX6_unlike 13 = .ok (.goto 20, 3) := by decide +kernel
theorem dX6_unlike_16 : decode cX6_unlike 16 = .ok (.iconst 1, 1) := by decide +kernel
theorem dX6_unlike_17 : decode cX6_unlike 17 = .ok (.goto 16, 3) := by decide +kernel
theorem dX6_unlike_20 : decode cX6_unlike 20 = .ok (.iload_n 0, 1) := by decide +kernel
theorem dX6_unlike_21 : decode cX6_unlike 21 = .ok (.ifCond .ne 7, 3) := by decide +kernel
theorem dX6_unlike_24 : decode cX6_unlike 24 = .ok (.iload_n 1, 1) := by decide +kernel
theorem dX6_unlike_25 : decode cX6_unlike 25 = .ok (.ifCond .eq 7, 3) := by decide +kernel
theorem dX6_unlike_28 : decode cX6_unlike 28 = .ok (.iconst 1, 1) := by decide +kernel
theorem dX6_unlike_29 : decode cX6_unlike 29 = .ok (.goto 4, 3) := by decide +kernel
theorem dX6_unlike_32 : decode cX6_unlike 32 = .ok (.iconst 0, 1) := by decide +kernel
theorem dX6_unlike_33 : decode cX6_unlike 33 = .ok (.ireturn, 1) := by decide +kernel
set_option maxRecDepth 20000 in
theorem ggX6_differs_X6_in : GoodIn wsX6_differs wsX6_in := goodIn_r _ [11] (by decide +kernel) (by decide +kernel)
set_option maxRecDepth 20000 in
theorem gX6_differs_X6_in : GoodIn wsX6_differs (va_wsS RX6 47 yX6_in wsX6_in) := goodIn_app (goodIn_of _ (by decide +kernel)) ggX6_differs_X6_in
set_option maxRecDepth 20000 in
theorem ggX6_differs_X6_unlike : GoodIn wsX6_differs wsX6_unlike := goodIn_r _ [14] (by decide +kernel) (by decide +kernel)
set_option maxRecDepth 20000 in
theorem gX6_differs_X6_unlike : GoodIn wsX6_differs (va_wsS RX6 172 yX6_unlike wsX6_unlike) := goodIn_app (goodIn_of _ (by decide +kernel)) ggX6_differs_X6_unlike
theorem dX6_differs_0 : decode cX6_differs 0 = .ok (.iload_n 1, 1) := by decide +kernel
theorem dX6_differs_1 : decode cX6_differs 1 = .ok (.i2l, 1) := by decide +kernel
theorem dX6_differs_2 : decode cX6_differs 2 = .ok (.lconst 0, 1) := by decide +kernel
theorem dX6_differs_3 : decode cX6_differs 3 = .ok (.lconst 1, 1) := by decide +kernel
theorem dX6_differs_4 : decode cX6_differs 4 = .ok (.invokestatic 47, 3) := by decide +kernel
theorem dX6_differs_7 : decode cX6_differs 7 = .ok (.ifCond .ne 7, 3) := by decide +kernel
theorem dX6_differs_10 : decode cX6_differs 10 = .ok (.sipush (-1001), 3) := by decide +kernel
theorem dX6_differs_13 : decode cX6_differs 13 = .ok (.ireturn, 1) := by decide +kernel
theorem dX6_differs_14 : decode cX6_differs 14 = .ok (.aload_n 0, 1) := by decide +kernel
theorem dX6_differs_15 : decode cX6_differs 15 = .ok (.getfield 39, 3) := by decide +kernel
theorem dX6_differs_18 : decode cX6_differs 18 = .ok (.bipush 50, 2) := by decide +kernel
theorem dX6_differs_20 : decode cX6_differs 20 = .ok (.iload_n 1, 1) := by decide +kernel
theorem dX6_differs_21 : decode cX6_differs 21 = .ok (.imul, 1) := by decide +kernel
theorem dX6_differs_22 : decode cX6_differs 22 = .ok (.iaload, 1) := by decide +kernel
theorem dX6_differs_23 : decode cX6_differs 23 = .ok (.ifCond .ge 7, 3) := by decide +kernel
theorem dX6_differs_26 : decode cX6_differs 26 = .ok (.sipush (-1003), 3) := by decide +kernel
theorem dX6_differs_29 : decode cX6_differs 29 = .ok (.ireturn, 1) := by decide +kernel
theorem dX6_differs_30 : decode cX6_differs 30 = .ok (.aload_n 0, 1) := by decide +kernel
theorem dX6_differs_31 : decode cX6_differs 31 = .ok (.getfield 19, 3) := by decide +kernel
theorem dX6_differs_34 : decode cX6_differs 34 = .ok (.iconst 0, 1) := by decide +kernel
theorem dX6_differs_35 : decode cX6_differs 35 = .ok (.iaload, 1) := by decide +kernel
theorem dX6_differs_36 : decode cX6_differs 36 = .ok (.aload_n 0, 1) := by decide +kernel
theorem dX6_differs_37 : decode cX6_differs 37 = .ok (.getfield 39, 3) := by decide +kernel
theorem dX6_differs_40 : decode cX6_differs 40 = .ok (.bipush 50, 2) := by decide +kernel
theorem dX6_differs_42 : decode cX6_differs 42 = .ok (.iload_n 1, 1) := by decide +kernel
theorem dX6_differs_43 : decode cX6_differs 43 = .ok (.imul, 1) := by decide +kernel
theorem dX6_differs_44 : decode cX6_differs 44 = .ok (.iconst 2, 1) := by decide +kernel
theorem dX6_differs_45 : decode cX6_differs 45 = .ok (.iadd, 1) := by decide +kernel
theorem dX6_differs_46 : decode cX6_differs 46 = .ok (.iaload, 1) := by decide +kernel
theorem dX6_differs_47 : decode cX6_differs 47 = .ok (.if_icmp .ne 7, 3) := by decide +kernel
theorem dX6_differs_50 : decode cX6_differs 50 = .ok (.iconst 0, 1) := by decide +kernel
theorem dX6_differs_51 : decode cX6_differs 51 = .ok (.goto 4, 3) := by decide +kernel
theorem dX6_differs_54 : decode cX6_differs 54 = .ok (.iconst 1, 1) := by decide +kernel
theorem dX6_differs_55 : decode cX6_differs 55 = .ok (.aload_n 0, 1) := by decide +kernel
theorem dX6_differs_56 : decode cX6_differs 56 = .ok (.getfield 19, 3) := by decide +kernel
theorem dX6_differs_59 : decode cX6_differs 59 = .ok (.iconst 1, 1) := by decide +kernel
theorem dX6_differs_60 : decode cX6_differs 60 = .ok (.iaload, 1) := by decide +kernel
theorem dX6_differs_61 : decode cX6_differs 61 = .ok (.aload_n 0, 1) := by decide +kernel
theorem dX6_differs_62 : decode cX6_differs 62 = .ok (.getfield 39, 3) := by decide +kernel
theorem dX6_differs_65 : decode cX6_differs 65 = .ok (.bipush 50, 2) := by decide +kernel
theorem dX6_differs_67 : decode cX6_differs 67 = .ok (.iload_n 1, 1) := by decide +kernel
theorem dX6_differs_68 : decode cX6_differs 68 = .ok (.imul, 1) := by decide +kernel
theorem dX6_differs_69 : decode cX6_differs 69 = .ok (.iconst 3, 1) := by decide +kernel
theorem dX6_differs_70 : decode cX6_differs 70 = .ok (.iadd, 1) := by decide +kernel
theorem dX6_differs_71 : decode cX6_differs 71 = .ok (.iaload, 1) := by decide +kernel
theorem dX6_differs_72 : decode cX6_differs 72 = .ok (.if_icmp .ne 7, 3) := by decide +kernel
theorem dX6_differs_75 : decode cX6_differs 75 = .ok (.iconst 0, 1) := by decide +kernel
theorem dX6_differs_76 : decode cX6_differs 76 = .ok (.goto 4, 3) := by decide +kernel
theorem dX6_differs_79 : decode cX6_differs 79 = .ok (.iconst 1, 1) := by decide +kernel
theorem dX6_differs_80 : decode cX6_differs 80 = .ok (.iadd, 1) := by decide +kernel
theorem dX6_differs_81 : decode cX6_differs 81 = .ok (.istore_n 2, 1) := by decide +kernel
theorem dX6_differs_82 : decode cX6_differs 82 = .ok (.iconst 0, 1) := by decide +kernel
theorem dX6_differs_83 : decode cX6_differs 83 = .ok (.istore_n 3, 1) := by decide +kernel
theorem dX6_differs_84 : decode cX6_differs 84 = .ok (.iload_n 3, 1) := by decide +kernel
theorem dX6_differs_85 : decode cX6_differs 85 = .ok (.bipush 12, 2) := by decide +kernel
theorem dX6_differs_87 : decode cX6_differs 87 = .ok (.if_icmp .ge 127, 3) := by decide +kernel
theorem dX6_differs_90 : decode cX6_differs 90 = .ok (.iload_n 3, 1) := by decide +kernel
theorem dX6_differs_91 : decode cX6_differs 91 = .ok (.aload_n 0, 1) := by decide +kernel
theorem dX6_differs_92 : decode cX6_differs 92 = .ok (.getfield 39, 3) := by decide +kernel
theorem dX6_differs_95 : decode cX6_differs 95 = .ok (.bipush 50, 2) := by decide +kernel
theorem dX6_differs_97 : decode cX6_differs 97 = .ok (.iload_n 1, 1) := by decide +kernel
theorem dX6_differs_98 : decode cX6_differs 98 = .ok (.imul, 1) := by decide +kernel
theorem dX6_differs_99 : decode cX6_differs 99 = .ok (.iaload, 1) := by decide +kernel
theorem dX6_differs_100 : decode cX6_differs 100 = .ok (.if_icmp .ge 7, 3) := by decide +kernel
theorem dX6_differs_103 : decode cX6_differs 103 = .ok (.iconst 1, 1) := by decide +kernel
theorem dX6_differs_104 : decode cX6_differs 104 = .ok (.goto 4, 3) := by decide +kernel
theorem dX6_differs_107 : decode cX6_differs 107 = .ok (.iconst 0, 1) := by decide +kernel
theorem dX6_differs_108 : decode cX6_differs 108 = .ok (.istore 4, 2) := by decide +kernel
theorem dX6_differs_110 : decode cX6_differs 110 = .ok (.iload_n 2, 1) := by decide +kernel
theorem dX6_differs_111 : decode cX6_differs 111 = .ok (.iload_n 3, 1) := by decide +kernel
theorem dX6_differs_112 : decode cX6_differs 112 = .ok (.aload_n 0, 1) := by decide +kernel
theorem dX6_differs_113 : decode cX6_differs 113 = .ok (.getfield 42, 3) := by decide +kernel
theorem dX6_differs_116 : decode cX6_differs 116 = .ok (.if_icmp .ge 7, 3) := by decide +kernel
theorem dX6_differs_119 : decode cX6_differs 119 = .ok (.iconst 1, 1) := by decide +kernel
theorem dX6_differs_120 : decode cX6_differs 120 = .ok (.goto 4, 3) := by decide +kernel
theorem dX6_differs_123 : decode cX6_differs 123 = .ok (.iconst 0, 1) := by decide +kernel
theorem dX6_differs_124 : decode cX6_differs 124 = .ok (.iload 4, 2) := by decide +kernel
theorem dX6_differs_126 : decode cX6_differs 126 = .ok (.aload_n 0, 1) := by decide +kernel
theorem dX6_differs_127 : decode cX6_differs 127 = .ok (.getfield 7, 3) := by decide +kernel
theorem dX6_differs_130 : decode cX6_differs 130 = .ok (.iload_n 3, 1) := by decide +kernel
theorem dX6_differs_131 : decode cX6_differs 131 = .ok (.iaload, 1) := by decide +kernel
theorem dX6_differs_132 : decode cX6_differs 132 = .ok (.aload_n 0, 1) := by decide +kernel
theorem dX6_differs_133 : decode cX6_differs 133 = .ok (.getfield 39, 3) := by decide +kernel
theorem dX6_differs_136 : decode cX6_differs 136 = .ok (.bipush 50, 2) := by decide +kernel
theorem dX6_differs_138 : decode cX6_differs 138 = .ok (.iload_n 1, 1) := by decide +kernel
theorem dX6_differs_139 : decode cX6_differs 139 = .ok (.imul, 1) := by decide +kernel
theorem dX6_differs_140 : decode cX6_differs 140 = .ok (.iconst 4, 1) := by decide +kernel
theorem dX6_differs_141 : decode cX6_differs 141 = .ok (.iadd, 1) := by decide +kernel
theorem dX6_differs_142 : decode cX6_differs 142 = .ok (.iconst 2, 1) := by decide +kernel
theorem dX6_differs_143 : decode cX6_differs 143 = .ok (.iload_n 3, 1) := by decide +kernel
theorem dX6_differs_144 : decode cX6_differs 144 = .ok (.imul, 1) := by decide +kernel
theorem dX6_differs_145 : decode cX6_differs 145 = .ok (.iadd, 1) := by decide +kernel
theorem dX6_differs_146 : decode cX6_differs 146 = .ok (.iaload, 1) := by decide +kernel
theorem dX6_differs_147 : decode cX6_differs 147 = .ok (.if_icmp .ne 7, 3) := by decide +kernel
theorem dX6_differs_150 : decode cX6_differs 150 = .ok (.iconst 1, 1) := by decide +kernel
theorem dX6_differs_151 : decode cX6_differs 151 = .ok (.goto 4, 3) := by decide +kernel
theorem dX6_differs_154 : decode cX6_differs 154 = .ok (.iconst 0, 1) := by decide +kernel
theorem dX6_differs_155 : decode cX6_differs 155 = .ok (.invokestatic 172, 3) := by decide +kernel
theorem dX6_differs_158 : decode cX6_differs 158 = .ok (.iload_n 3, 1) := by decide +kernel
theorem dX6_differs_159 : decode cX6_differs 159 = .ok (.aload_n 0, 1) := by decide +kernel
theorem dX6_differs_160 : decode cX6_differs 160 = .ok (.getfield 42, 3) := by decide +kernel
theorem dX6_differs_163 : decode cX6_differs 163 = .ok (.if_icmp .ge 7, 3) := by decide +kernel
theorem dX6_differs_166 : decode cX6_differs 166 = .ok (.iconst 1, 1) := by decide +kernel
theorem dX6_differs_167 : decode cX6_differs 167 = .ok (.goto 4, 3) := by decide +kernel
theorem dX6_differs_170 : decode cX6_differs 170 = .ok (.iconst 0, 1) := by decide +kernel
theorem dX6_differs_171 : decode cX6_differs 171 = .ok (.iload 4, 2) := by decide +kernel
theorem dX6_differs_173 : decode cX6_differs 173 = .ok (.aload_n 0, 1) := by decide +kernel
theorem dX6_differs_174 : decode cX6_differs 174 = .ok (.getfield 13, 3) := by decide +kernel
theorem dX6_differs_177 : decode cX6_differs 177 = .ok (.iload_n 3, 1) := by decide +kernel
theorem dX6_differs_178 : decode cX6_differs 178 = .ok (.iaload, 1) := by decide +kernel
theorem dX6_differs_179 : decode cX6_differs 179 = .ok (.aload_n 0, 1) := by decide +kernel
theorem dX6_differs_180 : decode cX6_differs 180 = .ok (.getfield 39, 3) := by decide +kernel
theorem dX6_differs_183 : decode cX6_differs 183 = .ok (.bipush 50, 2) := by decide +kernel
theorem dX6_differs_185 : decode cX6_differs 185 = .ok (.iload_n 1, 1) := by decide +kernel
theorem dX6_differs_186 : decode cX6_differs 186 = .ok (.imul, 1) := by decide +kernel
theorem dX6_differs_187 : decode cX6_differs 187 = .ok (.iconst 5, 1) := by decide +kernel
theorem dX6_differs_188 : decode cX6_differs 188 = .ok (.iadd, 1) := by decide +kernel
theorem dX6_differs_189 : decode cX6_differs 189 = .ok (.iconst 2, 1) := by decide +kernel
theorem dX6_differs_190 : decode cX6_differs 190 = .ok (.iload_n 3, 1) := by decide +kernel
theorem dX6_differs_191 : decode cX6_differs 191 = .ok (.imul, 1) := by decide +kernel
theorem dX6_differs_192 : decode cX6_differs 192 = .ok (.iadd, 1) := by decide +kernel
theorem dX6_differs_193 : decode cX6_differs 193 = .ok (.iaload, 1) := by decide +kernel
theorem dX6_differs_194 : decode cX6_differs 194 = .ok (.if_icmp .ne 7, 3) := by decide +kernel
theorem dX6_differs_197 : decode cX6_differs 197 = .ok (.iconst 1, 1) := by decide +kernel
theorem dX6_differs_198 : decode cX6_differs 198 = .ok (.goto 4, 3) := by decide +kernel
theorem dX6_differs_201 : decode cX6_differs 201 = .ok (.iconst 0, 1) := by decide +kernel
theorem dX6_differs_202 : decode cX6_differs 202 = .ok (.invokestatic 172, 3) := by decide +kernel
theorem dX6_differs_205 : decode cX6_differs 205 = .ok (.iadd, 1) := by decide +kernel
theorem dX6_differs_206 : decode cX6_differs 206 = .ok (.iadd, 1) := by decide +kernel
theorem dX6_differs_207 : decode cX6_differs 207 = .ok (.istore_n 2, 1) := by decide +kernel
theorem dX6_differs_208 : decode cX6_differs 208 = .ok (.iinc 3 1, 3) := by decide +kernel
theorem dX6_differs_211 : decode cX6_differs 211 = .ok (.goto (-127), 3) := by decide +kernel
theorem dX6_differs_214 : decode cX6_differs 214 = .ok (.iconst 0, 1) := by decide +kernel
theorem dX6_differs_215 : decode cX6_differs 215 = .ok (.istore_n 3, 1) := by decide +kernel
theorem dX6_differs_216 : decode cX6_differs 216 = .ok (.iload_n 3, 1) := by decide +kernel
theorem dX6_differs_217 : decode cX6_differs 217 = .ok (.bipush 18, 2) := by decide +kernel
theorem dX6_differs_219 : decode cX6_differs 219 = .ok (.if_icmp .ge 80, 3) := by decide +kernel
theorem dX6_differs_222 : decode cX6_differs 222 = .ok (.iload_n 2, 1) := by decide +kernel
theorem dX6_differs_223 : decode cX6_differs 223 = .ok (.iload_n 3, 1) := by decide +kernel
theorem dX6_differs_224 : decode cX6_differs 224 = .ok (.iconst 3, 1) := by decide +kernel
theorem dX6_differs_225 : decode cX6_differs 225 = .ok (.idiv, 1) := by decide +kernel
theorem dX6_differs_226 : decode cX6_differs 226 = .ok (.aload_n 0, 1) := by decide +kernel
theorem dX6_differs_227 : decode cX6_differs 227 = .ok (.getfield 67, 3) := by decide +kernel
theorem dX6_differs_230 : decode cX6_differs 230 = .ok (.if_icmp .ge 7, 3) := by decide +kernel
theorem dX6_differs_233 : decode cX6_differs 233 = .ok (.iconst 1, 1) := by decide +kernel
theorem dX6_differs_234 : decode cX6_differs 234 = .ok (.goto 4, 3) := by decide +kernel
theorem dX6_differs_237 : decode cX6_differs 237 = .ok (.iconst 0, 1) := by decide +kernel
theorem dX6_differs_238 : decode cX6_differs 238 = .ok (.iload_n 3, 1) := by decide +kernel
theorem dX6_differs_239 : decode cX6_differs 239 = .ok (.iconst 3, 1) := by decide +kernel
theorem dX6_differs_240 : decode cX6_differs 240 = .ok (.idiv, 1) := by decide +kernel
theorem dX6_differs_241 : decode cX6_differs 241 = .ok (.aload_n 0, 1) := by decide +kernel
theorem dX6_differs_242 : decode cX6_differs 242 = .ok (.getfield 39, 3) := by decide +kernel
theorem dX6_differs_245 : decode cX6_differs 245 = .ok (.bipush 50, 2) := by decide +kernel
theorem dX6_differs_247 : decode cX6_differs 247 = .ok (.iload_n 1, 1) := by decide +kernel
theorem dX6_differs_248 : decode cX6_differs 248 = .ok (.imul, 1) := by decide +kernel
theorem dX6_differs_249 : decode cX6_differs 249 = .ok (.iconst 1, 1) := by decide +kernel
theorem dX6_differs_250 : decode cX6_differs 250 = .ok (.iadd, 1) := by decide +kernel
theorem dX6_differs_251 : decode cX6_differs 251 = .ok (.iaload, 1) := by decide +kernel
theorem dX6_differs_252 : decode cX6_differs 252 = .ok (.if_icmp .ge 7, 3) := by decide +kernel
theorem dX6_differs_255 : decode cX6_differs 255 = .ok (.iconst 1, 1) := by decide +kernel
theorem dX6_differs_256 : decode cX6_differs 256 = .ok (.goto 4, 3) := by decide +kernel
theorem dX6_differs_259 : decode cX6_differs 259 = .ok (.iconst 0, 1) := by decide +kernel
theorem dX6_differs_260 : decode cX6_differs 260 = .ok (.aload_n 0, 1) := by decide +kernel
theorem dX6_differs_261 : decode cX6_differs 261 = .ok (.getfield 16, 3) := by decide +kernel
theorem dX6_differs_264 : decode cX6_differs 264 = .ok (.iload_n 3, 1) := by decide +kernel
theorem dX6_differs_265 : decode cX6_differs 265 = .ok (.iaload, 1) := by decide +kernel
theorem dX6_differs_266 : decode cX6_differs 266 = .ok (.aload_n 0, 1) := by decide +kernel
theorem dX6_differs_267 : decode cX6_differs 267 = .ok (.getfield 39, 3) := by decide +kernel
theorem dX6_differs_270 : decode cX6_differs 270 = .ok (.bipush 50, 2) := by decide +kernel
theorem dX6_differs_272 : decode cX6_differs 272 = .ok (.iload_n 1, 1) := by decide +kernel
theorem dX6_differs_273 : decode cX6_differs 273 = .ok (.imul, 1) := by decide +kernel
theorem dX6_differs_274 : decode cX6_differs 274 = .ok (.bipush 28, 2) := by decide +kernel
theorem dX6_differs_276 : decode cX6_differs 276 = .ok (.iadd, 1) := by decide +kernel
theorem dX6_differs_277 : decode cX6_differs 277 = .ok (.iload_n 3, 1) := by decide +kernel
theorem dX6_differs_278 : decode cX6_differs 278 = .ok (.iadd, 1) := by decide +kernel
theorem dX6_differs_279 : decode cX6_differs 279 = .ok (.iaload, 1) := by decide +kernel
theorem dX6_differs_280 : decode cX6_differs 280 = .ok (.if_icmp .ne 7, 3) := by decide +kernel
theorem dX6_differs_283 : decode cX6_differs 283 = .ok (.iconst 1, 1) := by decide +kernel
theorem dX6_differs_284 : decode cX6_differs 284 = .ok (.goto 4, 3) := by decide +kernel
theorem dX6_differs_287 : decode cX6_differs 287 = .ok (.iconst 0, 1) := by decide +kernel
theorem dX6_differs_288 : decode cX6_differs 288 = .ok (.invokestatic 172, 3) := by decide +kernel
theorem dX6_differs_291 : decode cX6_differs 291 = .ok (.iadd, 1) := by decide +kernel
theorem dX6_differs_292 : decode cX6_differs 292 = .ok (.istore_n 2, 1) := by decide +kernel
theorem dX6_differs_293 : decode cX6_differs 293 = .ok (.iinc 3 1, 3) := by decide +kernel
theorem dX6_differs_296 : decode cX6_differs 296 = .ok (.goto (-80), 3) := by decide +kernel
theorem dX6_differs_299 : decode cX6_differs 299 = .ok (.iload_n 2, 1) := by decide +kernel
theorem dX6_differs_300 : decode cX6_differs 300 = .ok (.ireturn, 1) := by decide +kernel
