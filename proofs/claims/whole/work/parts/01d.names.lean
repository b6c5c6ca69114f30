theorem dX5_init_0 : decode cX5_init 0 = .ok (.aload_n 0, 1) := by decide +kernel
theorem dX5_init_1 : decode cX5_init 1 = .ok (.invokespecial 3, 3) := by decide +kernel
theorem dX5_init_4 : decode cX5_init 4 = .ok (.aload_n 0, 1) := by decide +kernel
theorem dX5_init_5 : decode cX5_init 5 = .ok (.new 9, 3) := by decide +kernel
theorem dX5_init_8 : decode cX5_init 8 = .ok (.dup, 1) := by decide +kernel
theorem dX5_init_9 : decode cX5_init 9 = .ok (.invokespecial 11, 3) := by decide +kernel
theorem dX5_init_12 : decode cX5_init 12 = .ok (.putfield 12, 3) := by decide +kernel
theorem dX5_init_15 : decode cX5_init 15 = .ok (.aload_n 0, 1) := by decide +kernel
theorem dX5_init_16 : decode cX5_init 16 = .ok (.new 16, 3) := by decide +kernel
theorem dX5_init_19 : decode cX5_init 19 = .ok (.dup, 1) := by decide +kernel
theorem dX5_init_20 : decode cX5_init 20 = .ok (.invokespecial 18, 3) := by decide +kernel
theorem dX5_init_23 : decode cX5_init 23 = .ok (.putfield 19, 3) := by decide +kernel
theorem dX5_init_26 : decode cX5_init 26 = .ok (.aload_n 0, 1) := by decide +kernel
theorem dX5_init_27 : decode cX5_init 27 = .ok (.new 16, 3) := by decide +kernel
theorem dX5_init_30 : decode cX5_init 30 = .ok (.dup, 1) := by decide +kernel
theorem dX5_init_31 : decode cX5_init 31 = .ok (.invokespecial 18, 3) := by decide +kernel
theorem dX5_init_34 : decode cX5_init 34 = .ok (.putfield 23, 3) := by decide +kernel
theorem dX5_init_37 : decode cX5_init 37 = .ok (.aload_n 0, 1) := by decide +kernel
theorem dX5_init_38 : decode cX5_init 38 = .ok (.new 26, 3) := by decide +kernel
theorem dX5_init_41 : decode cX5_init 41 = .ok (.dup, 1) := by decide +kernel
theorem dX5_init_42 : decode cX5_init 42 = .ok (.invokespecial 28, 3) := by decide +kernel
theorem dX5_init_45 : decode cX5_init 45 = .ok (.putfield 29, 3) := by decide +kernel
theorem dX5_init_48 : decode cX5_init 48 = .ok (.aload_n 0, 1) := by decide +kernel
theorem dX5_init_49 : decode cX5_init 49 = .ok (.new 33, 3) := by decide +kernel
theorem dX5_init_52 : decode cX5_init 52 = .ok (.dup, 1) := by decide +kernel
theorem dX5_init_53 : decode cX5_init 53 = .ok (.invokespecial 35, 3) := by decide +kernel
theorem dX5_init_56 : decode cX5_init 56 = .ok (.putfield 36, 3) := by decide +kernel
theorem dX5_init_59 : decode cX5_init 59 = .ok (.aload_n 0, 1) := by decide +kernel
theorem dX5_init_60 : decode cX5_init 60 = .ok (.new 40, 3) := by decide +kernel
theorem dX5_init_63 : decode cX5_init 63 = .ok (.dup, 1) := by decide +kernel
theorem dX5_init_64 : decode cX5_init 64 = .ok (.invokespecial 42, 3) := by decide +kernel
theorem dX5_init_67 : decode cX5_init 67 = .ok (.putfield 43, 3) := by decide +kernel
theorem dX5_init_70 : decode cX5_init 70 = .ok (.aload_n 0, 1) := by decide +kernel
theorem dX5_init_71 : decode cX5_init 71 = .ok (.ldc2_w 47, 3) := by decide +kernel
theorem dX5_init_74 : decode cX5_init 74 = .ok (.putfield 49, 3) := by decide +kernel
theorem dX5_init_77 : decode cX5_init 77 = .ok (.aload_n 0, 1) := by decide +kernel
theorem dX5_init_78 : decode cX5_init 78 = .ok (.iconst 2, 1) := by decide +kernel
theorem dX5_init_79 : decode cX5_init 79 = .ok (.putfield 53, 3) := by decide +kernel
theorem dX5_init_82 : decode cX5_init 82 = .ok (.aload_n 0, 1) := by decide +kernel
theorem dX5_init_83 : decode cX5_init 83 = .ok (.iconst 0, 1) := by decide +kernel
theorem dX5_init_84 : decode cX5_init 84 = .ok (.putfield 57, 3) := by decide +kernel
theorem dX5_init_87 : decode cX5_init 87 = .ok (.return_, 1) := by decide +kernel
set_option maxRecDepth 20000 in
theorem ggX5_piece_X5_isPiece : GoodIn wsX5_piece wsX5_isPiece := goodIn_r _ [6, 7, 8, 5, 9] (by decide +kernel) (by decide +kernel)
set_option maxRecDepth 20000 in
theorem gX5_piece_X5_isPiece : GoodIn wsX5_piece (va_wsS RX5 60 yX5_isPiece wsX5_isPiece) := goodIn_app (goodIn_of _ (by decide +kernel)) ggX5_piece_X5_isPiece
set_option maxRecDepth 20000 in
theorem ggX5_piece_X2_addPiece : GoodIn wsX5_piece wsX2_addPiece := goodIn_r _ [14, 15, 16, 17, 18, 5, 19, 39, 40, 41, 42, 43, 44, 45, 46, 47] (by decide +kernel) (by decide +kernel)
set_option maxRecDepth 20000 in
theorem gX5_piece_X2_addPiece : GoodIn wsX5_piece (wsV RX5 67 RX2 yX2_addPiece wsX2_addPiece) := goodIn_app (goodIn_of _ (by decide +kernel)) ggX5_piece_X2_addPiece
set_option maxRecDepth 20000 in
theorem ggX5_piece_X2_wholeLength : GoodIn wsX5_piece wsX2_wholeLength := goodIn_r _ [23, 16, 24, 25, 26, 13, 27, 15, 28, 5, 29, 39, 40, 41, 42, 43, 44, 45, 46, 47] (by decide +kernel) (by decide +kernel)
set_option maxRecDepth 20000 in
theorem gX5_piece_X2_wholeLength : GoodIn wsX5_piece (wsV RX5 71 RX2 yX2_wholeLength wsX2_wholeLength) := goodIn_app (goodIn_of _ (by decide +kernel)) ggX5_piece_X2_wholeLength
theorem dX5_piece_0 : decode cX5_piece 0 = .ok (.iload_n 1, 1) := by decide +kernel
theorem dX5_piece_1 : decode cX5_piece 1 = .ok (.iload_n 2, 1) := by decide +kernel
theorem dX5_piece_2 : decode cX5_piece 2 = .ok (.invokestatic 60, 3) := by decide +kernel
theorem dX5_piece_5 : decode cX5_piece 5 = .ok (.ifCond .ne 7, 3) := by decide +kernel
theorem dX5_piece_8 : decode cX5_piece 8 = .ok (.sipush (-1002), 3) := by decide +kernel
theorem dX5_piece_11 : decode cX5_piece 11 = .ok (.ireturn, 1) := by decide +kernel
theorem dX5_piece_12 : decode cX5_piece 12 = .ok (.aload_n 0, 1) := by decide +kernel
theorem dX5_piece_13 : decode cX5_piece 13 = .ok (.getfield 12, 3) := by decide +kernel
theorem dX5_piece_16 : decode cX5_piece 16 = .ok (.getfield 64, 3) := by decide +kernel
theorem dX5_piece_19 : decode cX5_piece 19 = .ok (.bipush 12, 2) := by decide +kernel
theorem dX5_piece_21 : decode cX5_piece 21 = .ok (.if_icmp .lt 7, 3) := by decide +kernel
theorem dX5_piece_24 : decode cX5_piece 24 = .ok (.sipush (-1004), 3) := by decide +kernel
theorem dX5_piece_27 : decode cX5_piece 27 = .ok (.ireturn, 1) := by decide +kernel
theorem dX5_piece_28 : decode cX5_piece 28 = .ok (.aload_n 0, 1) := by decide +kernel
theorem dX5_piece_29 : decode cX5_piece 29 = .ok (.getfield 12, 3) := by decide +kernel
theorem dX5_piece_32 : decode cX5_piece 32 = .ok (.iload_n 1, 1) := by decide +kernel
theorem dX5_piece_33 : decode cX5_piece 33 = .ok (.iload_n 2, 1) := by decide +kernel
theorem dX5_piece_34 : decode cX5_piece 34 = .ok (.invokevirtual 67, 3) := by decide +kernel
theorem dX5_piece_37 : decode cX5_piece 37 = .ok (.aload_n 0, 1) := by decide +kernel
theorem dX5_piece_38 : decode cX5_piece 38 = .ok (.getfield 12, 3) := by decide +kernel
theorem dX5_piece_41 : decode cX5_piece 41 = .ok (.invokevirtual 71, 3) := by decide +kernel
theorem dX5_piece_44 : decode cX5_piece 44 = .ok (.ireturn, 1) := by decide +kernel
set_option maxRecDepth 20000 in
theorem ggX5_cone_X5_isPiece : GoodIn wsX5_cone wsX5_isPiece := goodIn_r _ [6, 7, 8, 5, 9] (by decide +kernel) (by decide +kernel)
set_option maxRecDepth 20000 in
theorem gX5_cone_X5_isPiece : GoodIn wsX5_cone (va_wsS RX5 60 yX5_isPiece wsX5_isPiece) := goodIn_app (goodIn_of _ (by decide +kernel)) ggX5_cone_X5_isPiece
set_option maxRecDepth 20000 in
theorem ggX5_cone_X5_within : GoodIn wsX5_cone wsX5_within := goodIn_r _ [9] (by decide +kernel) (by decide +kernel)
set_option maxRecDepth 20000 in
theorem gX5_cone_X5_within : GoodIn wsX5_cone (va_wsS RX5 75 yX5_within wsX5_within) := goodIn_app (goodIn_of _ (by decide +kernel)) ggX5_cone_X5_within
set_option maxRecDepth 20000 in
theorem ggX5_cone_X5_quotient : GoodIn wsX5_cone wsX5_quotient := goodIn_r _ [12] (by decide +kernel) (by decide +kernel)
set_option maxRecDepth 20000 in
theorem gX5_cone_X5_quotient : GoodIn wsX5_cone (va_wsS RX5 79 yX5_quotient wsX5_quotient) := goodIn_app (goodIn_of _ (by decide +kernel)) ggX5_cone_X5_quotient
set_option maxRecDepth 20000 in
theorem ggX5_cone_X2_addPiece : GoodIn wsX5_cone wsX2_addPiece := goodIn_r _ [17, 18, 19, 20, 21, 5, 22, 42, 43, 44, 45, 46, 47, 48, 49, 50] (by decide +kernel) (by decide +kernel)
set_option maxRecDepth 20000 in
theorem gX5_cone_X2_addPiece : GoodIn wsX5_cone (wsV RX5 67 RX2 yX2_addPiece wsX2_addPiece) := goodIn_app (goodIn_of _ (by decide +kernel)) ggX5_cone_X2_addPiece
set_option maxRecDepth 20000 in
theorem ggX5_cone_X2_wholeLength : GoodIn wsX5_cone wsX2_wholeLength := goodIn_r _ [26, 19, 27, 28, 29, 16, 30, 18, 31, 5, 32, 42, 43, 44, 45, 46, 47, 48, 49, 50] (by decide +kernel) (by decide +kernel)
set_option maxRecDepth 20000 in
theorem gX5_cone_X2_wholeLength : GoodIn wsX5_cone (wsV RX5 71 RX2 yX2_wholeLength wsX2_wholeLength) := goodIn_app (goodIn_of _ (by decide +kernel)) ggX5_cone_X2_wholeLength
theorem dX5_cone_0 : decode cX5_cone 0 = .ok (.iload_n 1, 1) := by decide +kernel
theorem dX5_cone_1 : decode cX5_cone 1 = .ok (.iload_n 2, 1) := by decide +kernel
theorem dX5_cone_2 : decode cX5_cone 2 = .ok (.invokestatic 60, 3) := by decide +kernel
theorem dX5_cone_5 : decode cX5_cone 5 = .ok (.ifCond .eq 22, 3) := by decide +kernel
theorem dX5_cone_8 : decode cX5_cone 8 = .ok (.iload_n 1, 1) := by decide +kernel
theorem dX5_cone_9 : decode cX5_cone 9 = .ok (.iload_n 3, 1) := by decide +kernel
theorem dX5_cone_10 : decode cX5_cone 10 = .ok (.invokestatic 60, 3) := by decide +kernel
theorem dX5_cone_13 : decode cX5_cone 13 = .ok (.ifCond .eq 14, 3) := by decide +kernel
theorem dX5_cone_16 : decode cX5_cone 16 = .ok (.iload 4, 2) := by decide +kernel
theorem dX5_cone_18 : decode cX5_cone 18 = .ok (.iconst 2, 1) := by decide +kernel
theorem dX5_cone_19 : decode cX5_cone 19 = .ok (.bipush 12, 2) := by decide +kernel
theorem dX5_cone_21 : decode cX5_cone 21 = .ok (.invokestatic 75, 3) := by decide +kernel
theorem dX5_cone_24 : decode cX5_cone 24 = .ok (.ifCond .ne 7, 3) := by decide +kernel
theorem dX5_cone_27 : decode cX5_cone 27 = .ok (.sipush (-1002), 3) := by decide +kernel
theorem dX5_cone_30 : decode cX5_cone 30 = .ok (.ireturn, 1) := by decide +kernel
theorem dX5_cone_31 : decode cX5_cone 31 = .ok (.aload_n 0, 1) := by decide +kernel
theorem dX5_cone_32 : decode cX5_cone 32 = .ok (.getfield 12, 3) := by decide +kernel
theorem dX5_cone_35 : decode cX5_cone 35 = .ok (.getfield 64, 3) := by decide +kernel
theorem dX5_cone_38 : decode cX5_cone 38 = .ok (.iload 4, 2) := by decide +kernel
theorem dX5_cone_40 : decode cX5_cone 40 = .ok (.iadd, 1) := by decide +kernel
theorem dX5_cone_41 : decode cX5_cone 41 = .ok (.bipush 12, 2) := by decide +kernel
theorem dX5_cone_43 : decode cX5_cone 43 = .ok (.if_icmp .le 7, 3) := by decide +kernel
theorem dX5_cone_46 : decode cX5_cone 46 = .ok (.sipush (-1004), 3) := by decide +kernel
theorem dX5_cone_49 : decode cX5_cone 49 = .ok (.ireturn, 1) := by decide +kernel
theorem dX5_cone_50 : decode cX5_cone 50 = .ok (.iconst 0, 1) := by decide +kernel
theorem dX5_cone_51 : decode cX5_cone 51 = .ok (.istore 5, 2) := by decide +kernel
theorem dX5_cone_53 : decode cX5_cone 53 = .ok (.iload 5, 2) := by decide +kernel
theorem dX5_cone_55 : decode cX5_cone 55 = .ok (.iload 4, 2) := by decide +kernel
theorem dX5_cone_57 : decode cX5_cone 57 = .ok (.if_icmp .ge 35, 3) := by decide +kernel
theorem dX5_cone_60 : decode cX5_cone 60 = .ok (.aload_n 0, 1) := by decide +kernel
theorem dX5_cone_61 : decode cX5_cone 61 = .ok (.getfield 12, 3) := by decide +kernel
theorem dX5_cone_64 : decode cX5_cone 64 = .ok (.iload_n 1, 1) := by decide +kernel
theorem dX5_cone_65 : decode cX5_cone 65 = .ok (.iload_n 2, 1) := by decide +kernel
theorem dX5_cone_66 : decode cX5_cone 66 = .ok (.iload_n 3, 1) := by decide +kernel
theorem dX5_cone_67 : decode cX5_cone 67 = .ok (.iload_n 2, 1) := by decide +kernel
theorem dX5_cone_68 : decode cX5_cone 68 = .ok (.isub, 1) := by decide +kernel
theorem dX5_cone_69 : decode cX5_cone 69 = .ok (.iload 5, 2) := by decide +kernel
theorem dX5_cone_71 : decode cX5_cone 71 = .ok (.imul, 1) := by decide +kernel
theorem dX5_cone_72 : decode cX5_cone 72 = .ok (.i2l, 1) := by decide +kernel
theorem dX5_cone_73 : decode cX5_cone 73 = .ok (.iload 4, 2) := by decide +kernel
theorem dX5_cone_75 : decode cX5_cone 75 = .ok (.iconst 1, 1) := by decide +kernel
theorem dX5_cone_76 : decode cX5_cone 76 = .ok (.isub, 1) := by decide +kernel
theorem dX5_cone_77 : decode cX5_cone 77 = .ok (.i2l, 1) := by decide +kernel
theorem dX5_cone_78 : decode cX5_cone 78 = .ok (.invokestatic 79, 3) := by decide +kernel
theorem dX5_cone_81 : decode cX5_cone 81 = .ok (.l2i, 1) := by decide +kernel
theorem dX5_cone_82 : decode cX5_cone 82 = .ok (.iadd, 1) := by decide +kernel
theorem dX5_cone_83 : decode cX5_cone 83 = .ok (.invokevirtual 67, 3) := by decide +kernel
theorem dX5_cone_86 : decode cX5_cone 86 = .ok (.iinc 5 1, 3) := by decide +kernel
theorem dX5_cone_89 : decode cX5_cone 89 = .ok (.goto (-36), 3) := by decide +kernel
theorem dX5_cone_92 : decode cX5_cone 92 = .ok (.aload_n 0, 1) := by decide +kernel
theorem dX5_cone_93 : decode cX5_cone 93 = .ok (.getfield 12, 3) := by decide +kernel
theorem dX5_cone_96 : decode cX5_cone 96 = .ok (.invokevirtual 71, 3) := by decide +kernel
theorem dX5_cone_99 : decode cX5_cone 99 = .ok (.ireturn, 1) := by decide +kernel
set_option maxRecDepth 20000 in
theorem ggX5_hole_X5_mayBe : GoodIn wsX5_hole wsX5_mayBe := goodIn_r _ [7, 1, 8, 9, 10, 11, 12, 13, 14, 15, 16, 17, 18, 19, 6, 20, 21, 22, 23, 38, 39, 40, 41, 42, 43, 44, 45, 46, 47, 48, 49, 50, 51, 52, 53, 54, 55] (by decide +kernel) (by decide +kernel)
set_option maxRecDepth 20000 in
theorem gX5_hole_X5_mayBe : GoodIn wsX5_hole (wsV RX5 83 RX5 yX5_mayBe wsX5_mayBe) := goodIn_app (goodIn_of _ (by decide +kernel)) ggX5_hole_X5_mayBe
set_option maxRecDepth 20000 in
theorem ggX5_hole_X2_holeAt : GoodIn wsX5_hole wsX2_holeAt := goodIn_r _ [27, 28, 29, 19, 6, 20, 47, 48, 49, 50, 51, 52, 53, 54, 55] (by decide +kernel) (by decide +kernel)
set_option maxRecDepth 20000 in
theorem gX5_hole_X2_holeAt : GoodIn wsX5_hole (wsV RX5 86 RX2 yX2_holeAt wsX2_holeAt) := goodIn_app (goodIn_of _ (by decide +kernel)) ggX5_hole_X2_holeAt
set_option maxRecDepth 20000 in
theorem ggX5_hole_X2_addHole : GoodIn wsX5_hole wsX2_addHole := goodIn_r _ [33, 29, 28, 34, 35, 36, 6, 37, 47, 48, 49, 50, 51, 52, 53, 54, 55] (by decide +kernel) (by decide +kernel)
set_option maxRecDepth 20000 in
theorem gX5_hole_X2_addHole : GoodIn wsX5_hole (wsV RX5 93 RX2 yX2_addHole wsX2_addHole) := goodIn_app (goodIn_of _ (by decide +kernel)) ggX5_hole_X2_addHole
theorem dX5_hole_0 : decode cX5_hole 0 = .ok (.aload_n 0, 1) := by decide +kernel
theorem dX5_hole_1 : decode cX5_hole 1 = .ok (.iconst 0, 1) := by decide +kernel
theorem dX5_hole_2 : decode cX5_hole 2 = .ok (.iload_n 1, 1) := by decide +kernel
theorem dX5_hole_3 : decode cX5_hole 3 = .ok (.invokevirtual 83, 3) := by decide +kernel
theorem dX5_hole_6 : decode cX5_hole 6 = .ok (.ifCond .eq 21, 3) := by decide +kernel
theorem dX5_hole_9 : decode cX5_hole 9 = .ok (.aload_n 0, 1) := by decide +kernel
theorem dX5_hole_10 : decode cX5_hole 10 = .ok (.iconst 1, 1) := by decide +kernel
theorem dX5_hole_11 : decode cX5_hole 11 = .ok (.iload_n 2, 1) := by decide +kernel
theorem dX5_hole_12 : decode cX5_hole 12 = .ok (.invokevirtual 83, 3) := by decide +kernel
theorem dX5_hole_15 : decode cX5_hole 15 = .ok (.ifCond .eq 12, 3) := by decide +kernel
theorem dX5_hole_18 : decode cX5_hole 18 = .ok (.aload_n 0, 1) := by decide +kernel
theorem dX5_hole_19 : decode cX5_hole 19 = .ok (.iconst 2, 1) := by decide +kernel
theorem dX5_hole_20 : decode cX5_hole 20 = .ok (.iload_n 3, 1) := by decide +kernel
theorem dX5_hole_21 : decode cX5_hole 21 = .ok (.invokevirtual 83, 3) := by decide +kernel
theorem dX5_hole_24 : decode cX5_hole 24 = .ok (.ifCond .ne 7, 3) := by decide +kernel
theorem dX5_hole_27 : decode cX5_hole 27 = .ok (.sipush (-1002), 3) := by decide +kernel
theorem dX5_hole_30 : decode cX5_hole 30 = .ok (.ireturn, 1) := by decide +kernel
theorem dX5_hole_31 : decode cX5_hole 31 = .ok (.aload_n 0, 1) := by decide +kernel
theorem dX5_hole_32 : decode cX5_hole 32 = .ok (.getfield 12, 3) := by decide +kernel
theorem dX5_hole_35 : decode cX5_hole 35 = .ok (.iload_n 1, 1) := by decide +kernel
theorem dX5_hole_36 : decode cX5_hole 36 = .ok (.invokevirtual 86, 3) := by decide +kernel
theorem dX5_hole_39 : decode cX5_hole 39 = .ok (.iconst (-1), 1) := by decide +kernel
theorem dX5_hole_40 : decode cX5_hole 40 = .ok (.if_icmp .eq 7, 3) := by decide +kernel
theorem dX5_hole_43 : decode cX5_hole 43 = .ok (.sipush (-1003), 3) := by decide +kernel
theorem dX5_hole_46 : decode cX5_hole 46 = .ok (.ireturn, 1) := by decide +kernel
theorem dX5_hole_47 : decode cX5_hole 47 = .ok (.aload_n 0, 1) := by decide +kernel
theorem dX5_hole_48 : decode cX5_hole 48 = .ok (.getfield 12, 3) := by decide +kernel
theorem dX5_hole_51 : decode cX5_hole 51 = .ok (.getfield 90, 3) := by decide +kernel
theorem dX5_hole_54 : decode cX5_hole 54 = .ok (.bipush 6, 2) := by decide +kernel
theorem dX5_hole_56 : decode cX5_hole 56 = .ok (.if_icmp .lt 7, 3) := by decide +kernel
theorem dX5_hole_59 : decode cX5_hole 59 = .ok (.sipush (-1004), 3) := by decide +kernel
theorem dX5_hole_62 : decode cX5_hole 62 = .ok (.ireturn, 1) := by decide +kernel
theorem dX5_hole_63 : decode cX5_hole 63 = .ok (.aload_n 0, 1) := by decide +kernel
theorem dX5_hole_64 : decode cX5_hole 64 = .ok (.getfield 12, 3) := by decide +kernel
theorem dX5_hole_67 : decode cX5_hole 67 = .ok (.iload_n 1, 1) := by decide +kernel
theorem dX5_hole_68 : decode cX5_hole 68 = .ok (.iload_n 2, 1) := by decide +kernel
theorem dX5_hole_69 : decode cX5_hole 69 = .ok (.iload_n 3, 1) := by decide +kernel
theorem dX5_hole_70 : decode cX5_hole 70 = .ok (.invokevirtual 93, 3) := by decide +kernel
theorem dX5_hole_73 : decode cX5_hole 73 = .ok (.aload_n 0, 1) := by decide +kernel
theorem dX5_hole_74 : decode cX5_hole 74 = .ok (.getfield 12, 3) := by decide +kernel
theorem dX5_hole_77 : decode cX5_hole 77 = .ok (.getfield 90, 3) := by decide +kernel
theorem dX5_hole_80 : decode cX5_hole 80 = .ok (.iconst 1, 1) := by decide +kernel
theorem dX5_hole_81 : decode cX5_hole 81 = .ok (.isub, 1) := by decide +kernel
theorem dX5_hole_82 : decode cX5_hole 82 = .ok (.ireturn, 1) := by decide +kernel
set_option maxRecDepth 20000 in
theorem ggX5_set_X5_within : GoodIn wsX5_set wsX5_within := goodIn_r _ [7] (by decide +kernel) (by decide +kernel)
set_option maxRecDepth 20000 in
theorem gX5_set_X5_within : GoodIn wsX5_set (va_wsS RX5 75 yX5_within wsX5_within) := goodIn_app (goodIn_of _ (by decide +kernel)) ggX5_set_X5_within
set_option maxRecDepth 20000 in
theorem ggX5_set_X5_mayBe : GoodIn wsX5_set wsX5_mayBe := goodIn_r _ [11, 1, 12, 13, 14, 15, 16, 17, 18, 19, 20, 21, 22, 23, 6, 24, 4, 5, 7, 48, 49, 50, 51, 52, 53, 54, 55, 56, 57, 58, 59, 60, 61, 62, 63, 64, 65] (by decide +kernel) (by decide +kernel)
set_option maxRecDepth 20000 in
theorem gX5_set_X5_mayBe : GoodIn wsX5_set (wsV RX5 83 RX5 yX5_mayBe wsX5_mayBe) := goodIn_app (goodIn_of _ (by decide +kernel)) ggX5_set_X5_mayBe
set_option maxRecDepth 20000 in
theorem ggX5_set_X5_at : GoodIn wsX5_set wsX5_at := goodIn_r _ [24] (by decide +kernel) (by decide +kernel)
set_option maxRecDepth 20000 in
theorem gX5_set_X5_at : GoodIn wsX5_set (va_wsS RX5 101 yX5_at wsX5_at) := goodIn_app (goodIn_of _ (by decide +kernel)) ggX5_set_X5_at
set_option maxRecDepth 20000 in
theorem ggX5_set_X2_holeAt : GoodIn wsX5_set wsX2_holeAt := goodIn_r _ [29, 30, 31, 23, 6, 24, 57, 58, 59, 60, 61, 62, 63, 64, 65] (by decide +kernel) (by decide +kernel)
set_option maxRecDepth 20000 in
theorem gX5_set_X2_holeAt : GoodIn wsX5_set (wsV RX5 86 RX2 yX2_holeAt wsX2_holeAt) := goodIn_app (goodIn_of _ (by decide +kernel)) ggX5_set_X2_holeAt
set_option maxRecDepth 20000 in
theorem ggX5_set_X2_ofHole : GoodIn wsX5_set wsX2_ofHole := goodIn_r _ [35, 36, 37, 38, 15, 39, 31, 40, 41, 23, 6, 24, 57, 58, 59, 60, 61, 62, 63, 64, 65] (by decide +kernel) (by decide +kernel)
set_option maxRecDepth 20000 in
theorem gX5_set_X2_ofHole : GoodIn wsX5_set (wsV RX5 105 RX2 yX2_ofHole wsX2_ofHole) := goodIn_app (goodIn_of _ (by decide +kernel)) ggX5_set_X2_ofHole
set_option maxRecDepth 20000 in
theorem ggX5_set_X2_changeHole : GoodIn wsX5_set wsX2_changeHole := goodIn_r _ [45, 36, 37, 38, 15, 39, 31, 40, 41, 46, 6, 47, 57, 58, 59, 60, 61, 62, 63, 64, 65] (by decide +kernel) (by decide +kernel)
set_option maxRecDepth 20000 in
theorem gX5_set_X2_changeHole : GoodIn wsX5_set (wsV RX5 109 RX2 yX2_changeHole wsX2_changeHole) := goodIn_app (goodIn_of _ (by decide +kernel)) ggX5_set_X2_changeHole
theorem dX5_set_0 : decode cX5_set 0 = .ok (.iload_n 1, 1) := by decide +kernel
theorem dX5_set_1 : decode cX5_set 1 = .ok (.iconst 0, 1) := by decide +kernel
theorem dX5_set_2 : decode cX5_set 2 = .ok (.aload_n 0, 1) := by decide +kernel
theorem dX5_set_3 : decode cX5_set 3 = .ok (.getfield 12, 3) := by decide +kernel
theorem dX5_set_6 : decode cX5_set 6 = .ok (.getfield 90, 3) := by decide +kernel
theorem dX5_set_9 : decode cX5_set 9 = .ok (.iconst 1, 1) := by decide +kernel
theorem dX5_set_10 : decode cX5_set 10 = .ok (.isub, 1) := by decide +kernel
theorem dX5_set_11 : decode cX5_set 11 = .ok (.invokestatic 75, 3) := by decide +kernel
theorem dX5_set_14 : decode cX5_set 14 = .ok (.ifCond .ne 7, 3) := by decide +kernel
theorem dX5_set_17 : decode cX5_set 17 = .ok (.sipush (-1001), 3) := by decide +kernel
theorem dX5_set_20 : decode cX5_set 20 = .ok (.ireturn, 1) := by decide +kernel
theorem dX5_set_21 : decode cX5_set 21 = .ok (.aload_n 0, 1) := by decide +kernel
theorem dX5_set_22 : decode cX5_set 22 = .ok (.iload_n 2, 1) := by decide +kernel
theorem dX5_set_23 : decode cX5_set 23 = .ok (.iload_n 3, 1) := by decide +kernel
theorem dX5_set_24 : decode cX5_set 24 = .ok (.invokevirtual 83, 3) := by decide +kernel
theorem dX5_set_27 : decode cX5_set 27 = .ok (.ifCond .ne 7, 3) := by decide +kernel
theorem dX5_set_30 : decode cX5_set 30 = .ok (.sipush (-1002), 3) := by decide +kernel
theorem dX5_set_33 : decode cX5_set 33 = .ok (.ireturn, 1) := by decide +kernel
theorem dX5_set_34 : decode cX5_set 34 = .ok (.iload_n 2, 1) := by decide +kernel
theorem dX5_set_35 : decode cX5_set 35 = .ok (.ifCond .ne 34, 3) := by decide +kernel
theorem dX5_set_38 : decode cX5_set 38 = .ok (.iload_n 3, 1) := by decide +kernel
theorem dX5_set_39 : decode cX5_set 39 = .ok (.aload_n 0, 1) := by decide +kernel
theorem dX5_set_40 : decode cX5_set 40 = .ok (.getfield 12, 3) := by decide +kernel
theorem dX5_set_43 : decode cX5_set 43 = .ok (.getfield 97, 3) := by decide +kernel
theorem dX5_set_46 : decode cX5_set 46 = .ok (.iload_n 1, 1) := by decide +kernel
theorem dX5_set_47 : decode cX5_set 47 = .ok (.invokestatic 101, 3) := by decide +kernel
theorem dX5_set_50 : decode cX5_set 50 = .ok (.if_icmp .eq 19, 3) := by decide +kernel
theorem dX5_set_53 : decode cX5_set 53 = .ok (.aload_n 0, 1) := by decide +kernel
theorem dX5_set_54 : decode cX5_set 54 = .ok (.getfield 12, 3) := by decide +kernel
theorem dX5_set_57 : decode cX5_set 57 = .ok (.iload_n 3, 1) := by decide +kernel
theorem dX5_set_58 : decode cX5_set 58 = .ok (.invokevirtual 86, 3) := by decide +kernel
theorem dX5_set_61 : decode cX5_set 61 = .ok (.iconst (-1), 1) := by decide +kernel
theorem dX5_set_62 : decode cX5_set 62 = .ok (.if_icmp .eq 7, 3) := by decide +kernel
theorem dX5_set_65 : decode cX5_set 65 = .ok (.sipush (-1003), 3) := by decide +kernel
theorem dX5_set_68 : decode cX5_set 68 = .ok (.ireturn, 1) := by decide +kernel
theorem dX5_set_69 : decode cX5_set 69 = .ok (.aload_n 0, 1) := by decide +kernel
theorem dX5_set_70 : decode cX5_set 70 = .ok (.getfield 12, 3) := by decide +kernel
theorem dX5_set_73 : decode cX5_set 73 = .ok (.iload_n 1, 1) := by decide +kernel
theorem dX5_set_74 : decode cX5_set 74 = .ok (.iload_n 2, 1) := by decide +kernel
theorem dX5_set_75 : decode cX5_set 75 = .ok (.invokevirtual 105, 3) := by decide +kernel
theorem dX5_set_78 : decode cX5_set 78 = .ok (.istore 4, 2) := by decide +kernel
theorem dX5_set_80 : decode cX5_set 80 = .ok (.aload_n 0, 1) := by decide +kernel
theorem dX5_set_81 : decode cX5_set 81 = .ok (.getfield 12, 3) := by decide +kernel
theorem dX5_set_84 : decode cX5_set 84 = .ok (.iload_n 1, 1) := by decide +kernel
theorem dX5_set_85 : decode cX5_set 85 = .ok (.iload_n 2, 1) := by decide +kernel
theorem dX5_set_86 : decode cX5_set 86 = .ok (.iload_n 3, 1) := by decide +kernel
theorem dX5_set_87 : decode cX5_set 87 = .ok (.invokevirtual 109, 3) := by decide +kernel
theorem dX5_set_90 : decode cX5_set 90 = .ok (.iload 4, 2) := by decide +kernel
theorem dX5_set_92 : decode cX5_set 92 = .ok (.ireturn, 1) := by decide +kernel
set_option maxRecDepth 20000 in
theorem ggX5_end_X5_within : GoodIn wsX5_end wsX5_within := goodIn_r _ [7] (by decide +kernel) (by decide +kernel)
set_option maxRecDepth 20000 in
theorem gX5_end_X5_within : GoodIn wsX5_end (va_wsS RX5 75 yX5_within wsX5_within) := goodIn_app (goodIn_of _ (by decide +kernel)) ggX5_end_X5_within
theorem dX5_end_0 : decode cX5_end 0 = .ok (.iload_n 1, 1) := by decide +kernel
theorem dX5_end_1 : decode cX5_end 1 = .ok (.iconst 0, 1) := by decide +kernel
theorem dX5_end_2 : decode cX5_end 2 = .ok (.iconst 1, 1) := by decide +kernel
theorem dX5_end_3 : decode cX5_end 3 = .ok (.invokestatic 75, 3) := by decide +kernel
theorem dX5_end_6 : decode cX5_end 6 = .ok (.ifCond .eq 12, 3) := by decide +kernel
theorem dX5_end_9 : decode cX5_end 9 = .ok (.iload_n 2, 1) := by decide +kernel
theorem dX5_end_10 : decode cX5_end 10 = .ok (.iconst 0, 1) := by decide +kernel
theorem dX5_end_11 : decode cX5_end 11 = .ok (.iconst 1, 1) := by decide +kernel
theorem dX5_end_12 : decode cX5_end 12 = .ok (.invokestatic 75, 3) := by decide +kernel
theorem dX5_end_15 : decode cX5_end 15 = .ok (.ifCond .ne 7, 3) := by decide +kernel
theorem dX5_end_18 : decode cX5_end 18 = .ok (.sipush (-1002), 3) := by decide +kernel
theorem dX5_end_21 : decode cX5_end 21 = .ok (.ireturn, 1) := by decide +kernel
theorem dX5_end_22 : decode cX5_end 22 = .ok (.iload_n 1, 1) := by decide +kernel
theorem dX5_end_23 : decode cX5_end 23 = .ok (.ifCond .ne 13, 3) := by decide +kernel
theorem dX5_end_26 : decode cX5_end 26 = .ok (.aload_n 0, 1) := by decide +kernel
theorem dX5_end_27 : decode cX5_end 27 = .ok (.getfield 12, 3) := by decide +kernel
theorem dX5_end_30 : decode cX5_end 30 = .ok (.getfield 112, 3) := by decide +kernel
theorem dX5_end_33 : decode cX5_end 33 = .ok (.goto 10, 3) := by decide +kernel
theorem dX5_end_36 : decode cX5_end 36 = .ok (.aload_n 0, 1) := by decide +kernel
theorem dX5_end_37 : decode cX5_end 37 = .ok (.getfield 12, 3) := by decide +kernel
theorem dX5_end_40 : decode cX5_end 40 = .ok (.getfield 115, 3) := by decide +kernel
theorem dX5_end_43 : decode cX5_end 43 = .ok (.istore_n 3, 1) := by decide +kernel
theorem dX5_end_44 : decode cX5_end 44 = .ok (.iload_n 1, 1) := by decide +kernel
theorem dX5_end_45 : decode cX5_end 45 = .ok (.ifCond .ne 14, 3) := by decide +kernel
theorem dX5_end_48 : decode cX5_end 48 = .ok (.aload_n 0, 1) := by decide +kernel
theorem dX5_end_49 : decode cX5_end 49 = .ok (.getfield 12, 3) := by decide +kernel
theorem dX5_end_52 : decode cX5_end 52 = .ok (.iload_n 2, 1) := by decide +kernel
theorem dX5_end_53 : decode cX5_end 53 = .ok (.putfield 112, 3) := by decide +kernel
theorem dX5_end_56 : decode cX5_end 56 = .ok (.goto 11, 3) := by decide +kernel
theorem dX5_end_59 : decode cX5_end 59 = .ok (.aload_n 0, 1) := by decide +kernel
theorem dX5_end_60 : decode cX5_end 60 = .ok (.getfield 12, 3) := by decide +kernel
theorem dX5_end_63 : decode cX5_end 63 = .ok (.iload_n 2, 1) := by decide +kernel
theorem dX5_end_64 : decode cX5_end 64 = .ok (.putfield 115, 3) := by decide +kernel
theorem dX5_end_67 : decode cX5_end 67 = .ok (.iload_n 3, 1) := by decide +kernel
theorem dX5_end_68 : decode cX5_end 68 = .ok (.ireturn, 1) := by decide +kernel
set_option maxRecDepth 20000 in
theorem ggX5_clear_X2_empty : GoodIn wsX5_clear wsX2_empty := goodIn_r _ [10, 11, 12, 13, 14, 24, 25, 26, 27, 28, 29, 30, 31, 32] (by decide +kernel) (by decide +kernel)
set_option maxRecDepth 20000 in
theorem gX5_clear_X2_empty : GoodIn wsX5_clear (wsV RX5 118 RX2 yX2_empty wsX2_empty) := goodIn_app (goodIn_of _ (by decide +kernel)) ggX5_clear_X2_empty
theorem dX5_clear_0 : decode cX5_clear 0 = .ok (.aload_n 0, 1) := by decide +kernel
theorem dX5_clear_1 : decode cX5_clear 1 = .ok (.getfield 12, 3) := by decide +kernel
theorem dX5_clear_4 : decode cX5_clear 4 = .ok (.getfield 64, 3) := by decide +kernel
theorem dX5_clear_7 : decode cX5_clear 7 = .ok (.istore_n 1, 1) := by decide +kernel
theorem dX5_clear_8 : decode cX5_clear 8 = .ok (.aload_n 0, 1) := by decide +kernel
theorem dX5_clear_9 : decode cX5_clear 9 = .ok (.getfield 12, 3) := by decide +kernel
theorem dX5_clear_12 : decode cX5_clear 12 = .ok (.invokevirtual 118, 3) := by decide +kernel
theorem dX5_clear_15 : decode cX5_clear 15 = .ok (.aload_n 0, 1) := by decide +kernel
theorem dX5_clear_16 : decode cX5_clear 16 = .ok (.getfield 36, 3) := by decide +kernel
theorem dX5_clear_19 : decode cX5_clear 19 = .ok (.iconst 0, 1) := by decide +kernel
theorem dX5_clear_20 : decode cX5_clear 20 = .ok (.putfield 121, 3) := by decide +kernel
theorem dX5_clear_23 : decode cX5_clear 23 = .ok (.aload_n 0, 1) := by decide +kernel
theorem dX5_clear_24 : decode cX5_clear 24 = .ok (.iconst 0, 1) := by decide +kernel
theorem dX5_clear_25 : decode cX5_clear 25 = .ok (.putfield 57, 3) := by decide +kernel
theorem dX5_clear_28 : decode cX5_clear 28 = .ok (.iload_n 1, 1) := by decide +kernel
theorem dX5_clear_29 : decode cX5_clear 29 = .ok (.ireturn, 1) := by decide +kernel
set_option maxRecDepth 20000 in
theorem ggX5_told_X5_within : GoodIn wsX5_told wsX5_within := goodIn_r _ [8] (by decide +kernel) (by decide +kernel)
set_option maxRecDepth 20000 in
theorem gX5_told_X5_within : GoodIn wsX5_told (va_wsS RX5 75 yX5_within wsX5_within) := goodIn_app (goodIn_of _ (by decide +kernel)) ggX5_told_X5_within
set_option maxRecDepth 20000 in
theorem ggX5_told_X5_at : GoodIn wsX5_told wsX5_at := goodIn_r _ [11] (by decide +kernel) (by decide +kernel)
set_option maxRecDepth 20000 in
theorem gX5_told_X5_at : GoodIn wsX5_told (va_wsS RX5 101 yX5_at wsX5_at) := goodIn_app (goodIn_of _ (by decide +kernel)) ggX5_told_X5_at
theorem dX5_told_0 : decode cX5_told 0 = .ok (.iload_n 1, 1) := by decide +kernel
theorem dX5_told_1 : decode cX5_told 1 = .ok (.iconst 0, 1) := by decide +kernel
theorem dX5_told_2 : decode cX5_told 2 = .ok (.aload_n 0, 1) := by decide +kernel
theorem dX5_told_3 : decode cX5_told 3 = .ok (.getfield 12, 3) := by decide +kernel
theorem dX5_told_6 : decode cX5_told 6 = .ok (.getfield 64, 3) := by decide +kernel
theorem dX5_told_9 : decode cX5_told 9 = .ok (.iconst 1, 1) := by decide +kernel
theorem dX5_told_10 : decode cX5_told 10 = .ok (.isub, 1) := by decide +kernel
theorem dX5_told_11 : decode cX5_told 11 = .ok (.invokestatic 75, 3) := by decide +kernel
theorem dX5_told_14 : decode cX5_told 14 = .ok (.ifCond .ne 7, 3) := by decide +kernel
theorem dX5_told_17 : decode cX5_told 17 = .ok (.sipush (-1001), 3) := by decide +kernel
theorem dX5_told_20 : decode cX5_told 20 = .ok (.ireturn, 1) := by decide +kernel
theorem dX5_told_21 : decode cX5_told 21 = .ok (.iload_n 2, 1) := by decide +kernel
theorem dX5_told_22 : decode cX5_told 22 = .ok (.iconst 0, 1) := by decide +kernel
theorem dX5_told_23 : decode cX5_told 23 = .ok (.iconst 1, 1) := by decide +kernel
theorem dX5_told_24 : decode cX5_told 24 = .ok (.invokestatic 75, 3) := by decide +kernel
theorem dX5_told_27 : decode cX5_told 27 = .ok (.ifCond .ne 7, 3) := by decide +kernel
theorem dX5_told_30 : decode cX5_told 30 = .ok (.sipush (-1002), 3) := by decide +kernel
theorem dX5_told_33 : decode cX5_told 33 = .ok (.ireturn, 1) := by decide +kernel
theorem dX5_told_34 : decode cX5_told 34 = .ok (.iload_n 2, 1) := by decide +kernel
theorem dX5_told_35 : decode cX5_told 35 = .ok (.ifCond .ne 17, 3) := by decide +kernel
theorem dX5_told_38 : decode cX5_told 38 = .ok (.aload_n 0, 1) := by decide +kernel
theorem dX5_told_39 : decode cX5_told 39 = .ok (.getfield 12, 3) := by decide +kernel
theorem dX5_told_42 : decode cX5_told 42 = .ok (.getfield 124, 3) := by decide +kernel
theorem dX5_told_45 : decode cX5_told 45 = .ok (.iload_n 1, 1) := by decide +kernel
theorem dX5_told_46 : decode cX5_told 46 = .ok (.invokestatic 101, 3) := by decide +kernel
theorem dX5_told_49 : decode cX5_told 49 = .ok (.goto 14, 3) := by decide +kernel
theorem dX5_told_52 : decode cX5_told 52 = .ok (.aload_n 0, 1) := by decide +kernel
theorem dX5_told_53 : decode cX5_told 53 = .ok (.getfield 12, 3) := by decide +kernel
theorem dX5_told_56 : decode cX5_told 56 = .ok (.getfield 127, 3) := by decide +kernel
theorem dX5_told_59 : decode cX5_told 59 = .ok (.iload_n 1, 1) := by decide +kernel
theorem dX5_told_60 : decode cX5_told 60 = .ok (.invokestatic 101, 3) := by decide +kernel
theorem dX5_told_63 : decode cX5_told 63 = .ok (.ireturn, 1) := by decide +kernel
set_option maxRecDepth 20000 in
theorem ggX5_bored_X5_within : GoodIn wsX5_bored wsX5_within := goodIn_r _ [7] (by decide +kernel) (by decide +kernel)
set_option maxRecDepth 20000 in
theorem gX5_bored_X5_within : GoodIn wsX5_bored (va_wsS RX5 75 yX5_within wsX5_within) := goodIn_app (goodIn_of _ (by decide +kernel)) ggX5_bored_X5_within
set_option maxRecDepth 20000 in
theorem ggX5_bored_X5_at : GoodIn wsX5_bored wsX5_at := goodIn_r _ [10] (by decide +kernel) (by decide +kernel)
set_option maxRecDepth 20000 in
theorem gX5_bored_X5_at : GoodIn wsX5_bored (va_wsS RX5 101 yX5_at wsX5_at) := goodIn_app (goodIn_of _ (by decide +kernel)) ggX5_bored_X5_at
set_option maxRecDepth 20000 in
theorem ggX5_bored_X2_pieceAt : GoodIn wsX5_bored wsX2_pieceAt := goodIn_r _ [15, 16, 17, 9, 6, 10, 43, 44, 45, 46, 47, 48, 49, 50, 51] (by decide +kernel) (by decide +kernel)
set_option maxRecDepth 20000 in
theorem gX5_bored_X2_pieceAt : GoodIn wsX5_bored (wsV RX5 130 RX2 yX2_pieceAt wsX2_pieceAt) := goodIn_app (goodIn_of _ (by decide +kernel)) ggX5_bored_X2_pieceAt
set_option maxRecDepth 20000 in
theorem ggX5_bored_X2_holesBefore : GoodIn wsX5_bored wsX2_holesBefore := goodIn_r _ [21, 22, 23, 9, 6, 10, 43, 44, 45, 46, 47, 48, 49, 50, 51] (by decide +kernel) (by decide +kernel)
set_option maxRecDepth 20000 in
theorem gX5_bored_X2_holesBefore : GoodIn wsX5_bored (wsV RX5 133 RX2 yX2_holesBefore wsX2_holesBefore) := goodIn_app (goodIn_of _ (by decide +kernel)) ggX5_bored_X2_holesBefore
set_option maxRecDepth 20000 in
theorem ggX5_bored_X2_ofHole : GoodIn wsX5_bored wsX2_ofHole := goodIn_r _ [27, 28, 29, 30, 14, 31, 23, 32, 33, 9, 6, 10, 43, 44, 45, 46, 47, 48, 49, 50, 51] (by decide +kernel) (by decide +kernel)
set_option maxRecDepth 20000 in
theorem gX5_bored_X2_ofHole : GoodIn wsX5_bored (wsV RX5 105 RX2 yX2_ofHole wsX2_ofHole) := goodIn_app (goodIn_of _ (by decide +kernel)) ggX5_bored_X2_ofHole
theorem dX5_bored_0 : decode cX5_bored 0 = .ok (.iload_n 1, 1) := by decide +kernel
theorem dX5_bored_1 : decode cX5_bored 1 = .ok (.iconst 0, 1) := by decide +kernel
theorem dX5_bored_2 : decode cX5_bored 2 = .ok (.aload_n 0, 1) := by decide +kernel
theorem dX5_bored_3 : decode cX5_bored 3 = .ok (.getfield 12, 3) := by decide +kernel
theorem dX5_bored_6 : decode cX5_bored 6 = .ok (.getfield 90, 3) := by decide +kernel
theorem dX5_bored_9 : decode cX5_bored 9 = .ok (.iconst 1, 1) := by decide +kernel
theorem dX5_bored_10 : decode cX5_bored 10 = .ok (.isub, 1) := by decide +kernel
theorem dX5_bored_11 : decode cX5_bored 11 = .ok (.invokestatic 75, 3) := by decide +kernel
theorem dX5_bored_14 : decode cX5_bored 14 = .ok (.ifCond .ne 7, 3) := by decide +kernel
theorem dX5_bored_17 : decode cX5_bored 17 = .ok (.sipush (-1001), 3) := by decide +kernel
theorem dX5_bored_20 : decode cX5_bored 20 = .ok (.ireturn, 1) := by decide +kernel
theorem dX5_bored_21 : decode cX5_bored 21 = .ok (.iload_n 2, 1) := by decide +kernel
theorem dX5_bored_22 : decode cX5_bored 22 = .ok (.iconst 0, 1) := by decide +kernel
theorem dX5_bored_23 : decode cX5_bored 23 = .ok (.iconst 4, 1) := by decide +kernel
theorem dX5_bored_24 : decode cX5_bored 24 = .ok (.invokestatic 75, 3) := by decide +kernel
theorem dX5_bored_27 : decode cX5_bored 27 = .ok (.ifCond .ne 7, 3) := by decide +kernel
theorem dX5_bored_30 : decode cX5_bored 30 = .ok (.sipush (-1002), 3) := by decide +kernel
theorem dX5_bored_33 : decode cX5_bored 33 = .ok (.ireturn, 1) := by decide +kernel
theorem dX5_bored_34 : decode cX5_bored 34 = .ok (.iload_n 2, 1) := by decide +kernel
theorem dX5_bored_35 : decode cX5_bored 35 = .ok (.iconst 3, 1) := by decide +kernel
theorem dX5_bored_36 : decode cX5_bored 36 = .ok (.if_icmp .ne 22, 3) := by decide +kernel
theorem dX5_bored_39 : decode cX5_bored 39 = .ok (.aload_n 0, 1) := by decide +kernel
theorem dX5_bored_40 : decode cX5_bored 40 = .ok (.getfield 12, 3) := by decide +kernel
theorem dX5_bored_43 : decode cX5_bored 43 = .ok (.aload_n 0, 1) := by decide +kernel
theorem dX5_bored_44 : decode cX5_bored 44 = .ok (.getfield 12, 3) := by decide +kernel
theorem dX5_bored_47 : decode cX5_bored 47 = .ok (.getfield 97, 3) := by decide +kernel
theorem dX5_bored_50 : decode cX5_bored 50 = .ok (.iload_n 1, 1) := by decide +kernel
theorem dX5_bored_51 : decode cX5_bored 51 = .ok (.invokestatic 101, 3) := by decide +kernel
theorem dX5_bored_54 : decode cX5_bored 54 = .ok (.invokevirtual 130, 3) := by decide +kernel
theorem dX5_bored_57 : decode cX5_bored 57 = .ok (.ireturn, 1) := by decide +kernel
theorem dX5_bored_58 : decode cX5_bored 58 = .ok (.iload_n 2, 1) := by decide +kernel
theorem dX5_bored_59 : decode cX5_bored 59 = .ok (.iconst 4, 1) := by decide +kernel
theorem dX5_bored_60 : decode cX5_bored 60 = .ok (.if_icmp .ne 22, 3) := by decide +kernel
theorem dX5_bored_63 : decode cX5_bored 63 = .ok (.aload_n 0, 1) := by decide +kernel
theorem dX5_bored_64 : decode cX5_bored 64 = .ok (.getfield 12, 3) := by decide +kernel
theorem dX5_bored_67 : decode cX5_bored 67 = .ok (.aload_n 0, 1) := by decide +kernel
theorem dX5_bored_68 : decode cX5_bored 68 = .ok (.getfield 12, 3) := by decide +kernel
theorem dX5_bored_71 : decode cX5_bored 71 = .ok (.getfield 97, 3) := by decide +kernel
theorem dX5_bored_74 : decode cX5_bored 74 = .ok (.iload_n 1, 1) := by decide +kernel
theorem dX5_bored_75 : decode cX5_bored 75 = .ok (.invokestatic 101, 3) := by decide +kernel
theorem dX5_bored_78 : decode cX5_bored 78 = .ok (.invokevirtual 133, 3) := by decide +kernel
theorem dX5_bored_81 : decode cX5_bored 81 = .ok (.ireturn, 1) := by decide +kernel
theorem dX5_bored_82 : decode cX5_bored 82 = .ok (.aload_n 0, 1) := by decide +kernel
theorem dX5_bored_83 : decode cX5_bored 83 = .ok (.getfield 12, 3) := by decide +kernel
theorem dX5_bored_86 : decode cX5_bored 86 = .ok (.iload_n 1, 1) := by decide +kernel
theorem dX5_bored_87 : decode cX5_bored 87 = .ok (.iload_n 2, 1) := by decide +kernel
theorem dX5_bored_88 : decode cX5_bored 88 = .ok (.invokevirtual 105, 3) := by decide +kernel
theorem dX5_bored_91 : decode cX5_bored 91 = .ok (.ireturn, 1) := by decide +kernel
set_option maxRecDepth 20000 in
theorem ggX5_count_X2_wholeLength : GoodIn wsX5_count wsX2_wholeLength := goodIn_r _ [16, 17, 18, 19, 20, 15, 21, 22, 23, 24, 25, 132, 133, 134, 135, 136, 137, 138, 139, 140] (by decide +kernel) (by decide +kernel)
set_option maxRecDepth 20000 in
theorem gX5_count_X2_wholeLength : GoodIn wsX5_count (wsV RX5 71 RX2 yX2_wholeLength wsX2_wholeLength) := goodIn_app (goodIn_of _ (by decide +kernel)) ggX5_count_X2_wholeLength
set_option maxRecDepth 20000 in
theorem ggX5_count_J13_bitCount_95d88 : GoodIn wsX5_count wsJ13_bitCount_95d88 := goodIn_r _ [29, 30, 31, 32] (by decide +kernel) (by decide +kernel)
set_option maxRecDepth 20000 in
theorem gX5_count_J13_bitCount_95d88 : GoodIn wsX5_count (va_wsS RX5 136 yJ13_bitCount_95d88 wsJ13_bitCount_95d88) := goodIn_app (goodIn_of _ (by decide +kernel)) ggX5_count_J13_bitCount_95d88
set_option maxRecDepth 20000 in
theorem ggX5_count_X5_rank : GoodIn wsX5_count wsX5_rank := goodIn_r _ [36, 37, 1, 4, 5, 38, 39, 40, 41, 42, 43, 44, 45, 46, 47, 48, 49, 50, 51, 52, 53, 54, 55, 56, 57, 58, 59, 60, 61, 62, 63, 64, 13, 14, 15, 16, 17, 18, 19, 20, 21, 22, 23, 24, 25, 65, 66, 67, 68, 69, 70, 71, 72, 73, 74, 75, 76, 77, 78, 79, 80, 81, 82, 83, 84, 85, 86, 87, 88, 89, 90, 91, 92, 93, 94, 95, 96, 97, 98, 99, 100, 101, 102, 103, 104, 105, 106, 107, 108, 109, 110, 111, 112, 113, 114, 115, 116, 117, 118, 119, 120, 121, 122, 123, 124, 125, 126, 127, 128, 129, 130, 131, 141, 142, 143, 144, 145, 146, 147, 148, 149, 150, 151, 152, 132, 133, 134, 135, 136, 137, 138, 139, 140] (by decide +kernel) (by decide +kernel)
set_option maxRecDepth 20000 in
theorem gX5_count_X5_rank : GoodIn wsX5_count (wsV RX5 143 RX5 yX5_rank wsX5_rank) := goodIn_app (goodIn_of _ (by decide +kernel)) ggX5_count_X5_rank
theorem dX5_count_0 : decode cX5_count 0 = .ok (.iload_n 1, 1) := by decide +kernel
theorem dX5_count_1 : decode cX5_count 1 = .ok (.tableswitch 147 0 10 #[59, 67, 75, 83, 91, 99, 107, 112, 120, 131, 142], 59) := by decide +kernel
theorem dX5_count_60 : decode cX5_count 60 = .ok (.aload_n 0, 1) := by decide +kernel
theorem dX5_count_61 : decode cX5_count 61 = .ok (.getfield 12, 3) := by decide +kernel
theorem dX5_count_64 : decode cX5_count 64 = .ok (.getfield 64, 3) := by decide +kernel
theorem dX5_count_67 : decode cX5_count 67 = .ok (.ireturn, 1) := by decide +kernel
theorem dX5_count_68 : decode cX5_count 68 = .ok (.aload_n 0, 1) := by decide +kernel
theorem dX5_count_69 : decode cX5_count 69 = .ok (.getfield 12, 3) := by decide +kernel
theorem dX5_count_72 : decode cX5_count 72 = .ok (.getfield 90, 3) := by decide +kernel
theorem dX5_count_75 : decode cX5_count 75 = .ok (.ireturn, 1) := by decide +kernel
theorem dX5_count_76 : decode cX5_count 76 = .ok (.aload_n 0, 1) := by decide +kernel
theorem dX5_count_77 : decode cX5_count 77 = .ok (.getfield 36, 3) := by decide +kernel
theorem dX5_count_80 : decode cX5_count 80 = .ok (.getfield 121, 3) := by decide +kernel
theorem dX5_count_83 : decode cX5_count 83 = .ok (.ireturn, 1) := by decide +kernel
theorem dX5_count_84 : decode cX5_count 84 = .ok (.aload_n 0, 1) := by decide +kernel
theorem dX5_count_85 : decode cX5_count 85 = .ok (.getfield 12, 3) := by decide +kernel
theorem dX5_count_88 : decode cX5_count 88 = .ok (.invokevirtual 71, 3) := by decide +kernel
theorem dX5_count_91 : decode cX5_count 91 = .ok (.ireturn, 1) := by decide +kernel
theorem dX5_count_92 : decode cX5_count 92 = .ok (.aload_n 0, 1) := by decide +kernel
theorem dX5_count_93 : decode cX5_count 93 = .ok (.getfield 12, 3) := by decide +kernel
theorem dX5_count_96 : decode cX5_count 96 = .ok (.getfield 112, 3) := by decide +kernel
theorem dX5_count_99 : decode cX5_count 99 = .ok (.ireturn, 1) := by decide +kernel
theorem dX5_count_100 : decode cX5_count 100 = .ok (.aload_n 0, 1) := by decide +kernel
theorem dX5_count_101 : decode cX5_count 101 = .ok (.getfield 12, 3) := by decide +kernel
theorem dX5_count_104 : decode cX5_count 104 = .ok (.getfield 115, 3) := by decide +kernel
theorem dX5_count_107 : decode cX5_count 107 = .ok (.ireturn, 1) := by decide +kernel
theorem dX5_count_108 : decode cX5_count 108 = .ok (.aload_n 0, 1) := by decide +kernel
theorem dX5_count_109 : decode cX5_count 109 = .ok (.getfield 53, 3) := by decide +kernel
theorem dX5_count_112 : decode cX5_count 112 = .ok (.ireturn, 1) := by decide +kernel
theorem dX5_count_113 : decode cX5_count 113 = .ok (.aload_n 0, 1) := by decide +kernel
theorem dX5_count_114 : decode cX5_count 114 = .ok (.getfield 49, 3) := by decide +kernel
theorem dX5_count_117 : decode cX5_count 117 = .ok (.invokestatic 136, 3) := by decide +kernel
theorem dX5_count_120 : decode cX5_count 120 = .ok (.ireturn, 1) := by decide +kernel
theorem dX5_count_121 : decode cX5_count 121 = .ok (.aload_n 0, 1) := by decide +kernel
theorem dX5_count_122 : decode cX5_count 122 = .ok (.ldc 142, 2) := by decide +kernel
theorem dX5_count_124 : decode cX5_count 124 = .ok (.invokevirtual 143, 3) := by decide +kernel
theorem dX5_count_127 : decode cX5_count 127 = .ok (.sipush 1801, 3) := by decide +kernel
theorem dX5_count_130 : decode cX5_count 130 = .ok (.idiv, 1) := by decide +kernel
theorem dX5_count_131 : decode cX5_count 131 = .ok (.ireturn, 1) := by decide +kernel
theorem dX5_count_132 : decode cX5_count 132 = .ok (.aload_n 0, 1) := by decide +kernel
theorem dX5_count_133 : decode cX5_count 133 = .ok (.ldc 142, 2) := by decide +kernel
theorem dX5_count_135 : decode cX5_count 135 = .ok (.invokevirtual 143, 3) := by decide +kernel
theorem dX5_count_138 : decode cX5_count 138 = .ok (.sipush 1801, 3) := by decide +kernel
theorem dX5_count_141 : decode cX5_count 141 = .ok (.irem, 1) := by decide +kernel
theorem dX5_count_142 : decode cX5_count 142 = .ok (.ireturn, 1) := by decide +kernel
theorem dX5_count_143 : decode cX5_count 143 = .ok (.aload_n 0, 1) := by decide +kernel
theorem dX5_count_144 : decode cX5_count 144 = .ok (.getfield 57, 3) := by decide +kernel
theorem dX5_count_147 : decode cX5_count 147 = .ok (.ireturn, 1) := by decide +kernel
theorem dX5_count_148 : decode cX5_count 148 = .ok (.sipush (-1002), 3) := by decide +kernel
theorem dX5_count_151 : decode cX5_count 151 = .ok (.ireturn, 1) := by decide +kernel
set_option maxRecDepth 20000 in
theorem ggX5_sine_X5_within : GoodIn wsX5_sine wsX5_within := goodIn_r _ [5] (by decide +kernel) (by decide +kernel)
set_option maxRecDepth 20000 in
theorem gX5_sine_X5_within : GoodIn wsX5_sine (va_wsS RX5 75 yX5_within wsX5_within) := goodIn_app (goodIn_of _ (by decide +kernel)) ggX5_sine_X5_within
set_option maxRecDepth 20000 in
theorem ggX5_sine_X5_sineOf : GoodIn wsX5_sine wsX5_sineOf := goodIn_r _ [8, 9, 10, 11, 12, 13, 14, 4, 15] (by decide +kernel) (by decide +kernel)
set_option maxRecDepth 20000 in
theorem gX5_sine_X5_sineOf : GoodIn wsX5_sine (va_wsS RX5 147 yX5_sineOf wsX5_sineOf) := goodIn_app (goodIn_of _ (by decide +kernel)) ggX5_sine_X5_sineOf
theorem dX5_sine_0 : decode cX5_sine 0 = .ok (.iload_n 1, 1) := by decide +kernel
theorem dX5_sine_1 : decode cX5_sine 1 = .ok (.iconst 0, 1) := by decide +kernel
theorem dX5_sine_2 : decode cX5_sine 2 = .ok (.ldc 146, 2) := by decide +kernel
theorem dX5_sine_4 : decode cX5_sine 4 = .ok (.invokestatic 75, 3) := by decide +kernel
theorem dX5_sine_7 : decode cX5_sine 7 = .ok (.ifCond .eq 11, 3) := by decide +kernel
theorem dX5_sine_10 : decode cX5_sine 10 = .ok (.iload_n 1, 1) := by decide +kernel
theorem dX5_sine_11 : decode cX5_sine 11 = .ok (.invokestatic 147, 3) := by decide +kernel
theorem dX5_sine_14 : decode cX5_sine 14 = .ok (.l2i, 1) := by decide +kernel
theorem dX5_sine_15 : decode cX5_sine 15 = .ok (.goto 6, 3) := by decide +kernel
theorem dX5_sine_18 : decode cX5_sine 18 = .ok (.sipush (-1002), 3) := by decide +kernel
theorem dX5_sine_21 : decode cX5_sine 21 = .ok (.ireturn, 1) := by decide +kernel
set_option maxRecDepth 20000 in
theorem ggX5_worth_X5_within : GoodIn wsX5_worth wsX5_within := goodIn_r _ [9] (by decide +kernel) (by decide +kernel)
set_option maxRecDepth 20000 in
theorem gX5_worth_X5_within : GoodIn wsX5_worth (va_wsS RX5 75 yX5_within wsX5_within) := goodIn_app (goodIn_of _ (by decide +kernel)) ggX5_worth_X5_within
set_option maxRecDepth 20000 in
theorem ggX5_worth_X4_cutUp : GoodIn wsX5_worth wsX4_cutUp := goodIn_r _ [14, 15, 16, 17, 18, 19, 20, 21, 22, 23, 24, 25, 26, 27, 28, 29, 30, 31, 32, 33, 34, 35, 36, 37, 38, 39, 40, 41, 42, 43, 8, 44, 45, 46, 47, 48, 49, 50, 51, 52, 53, 54, 55, 56, 57, 58, 59, 60, 61, 62, 110, 111, 112, 113, 114, 115, 116, 117, 101, 102, 103, 104, 105, 106, 107, 108, 109] (by decide +kernel) (by decide +kernel)
set_option maxRecDepth 20000 in
theorem gX5_worth_X4_cutUp : GoodIn wsX5_worth (wsV RX5 155 RX4 yX4_cutUp wsX4_cutUp) := goodIn_app (goodIn_of _ (by decide +kernel)) ggX5_worth_X4_cutUp
set_option maxRecDepth 20000 in
theorem ggX5_worth_X4_worthOf : GoodIn wsX5_worth wsX4_worthOf := goodIn_r _ [66, 17, 67, 15, 24, 68, 25, 69, 28, 70, 30, 19, 43, 8, 44, 71, 72, 73, 74, 75, 76, 77, 78, 79, 80, 81, 13, 82, 83, 84, 85, 86, 87, 88, 89, 90, 91, 27, 110, 111, 112, 113, 114, 115, 116, 117] (by decide +kernel) (by decide +kernel)
set_option maxRecDepth 20000 in
theorem gX5_worth_X4_worthOf : GoodIn wsX5_worth (wsV RX5 159 RX4 yX4_worthOf wsX4_worthOf) := goodIn_app (goodIn_of _ (by decide +kernel)) ggX5_worth_X4_worthOf
theorem dX5_worth_0 : decode cX5_worth 0 = .ok (.iload_n 1, 1) := by decide +kernel
theorem dX5_worth_1 : decode cX5_worth 1 = .ok (.iconst 1, 1) := by decide +kernel
theorem dX5_worth_2 : decode cX5_worth 2 = .ok (.sipush 300, 3) := by decide +kernel
theorem dX5_worth_5 : decode cX5_worth 5 = .ok (.invokestatic 75, 3) := by decide +kernel
theorem dX5_worth_8 : decode cX5_worth 8 = .ok (.ifCond .eq 13, 3) := by decide +kernel
theorem dX5_worth_11 : decode cX5_worth 11 = .ok (.iload_n 2, 1) := by decide +kernel
theorem dX5_worth_12 : decode cX5_worth 12 = .ok (.iconst 0, 1) := by decide +kernel
theorem dX5_worth_13 : decode cX5_worth 13 = .ok (.bipush 63, 2) := by decide +kernel
theorem dX5_worth_15 : decode cX5_worth 15 = .ok (.invokestatic 75, 3) := by decide +kernel
theorem dX5_worth_18 : decode cX5_worth 18 = .ok (.ifCond .ne 7, 3) := by decide +kernel
theorem dX5_worth_21 : decode cX5_worth 21 = .ok (.ldc2_w 151, 3) := by decide +kernel
theorem dX5_worth_24 : decode cX5_worth 24 = .ok (.lreturn, 1) := by decide +kernel
theorem dX5_worth_25 : decode cX5_worth 25 = .ok (.aload_n 0, 1) := by decide +kernel
theorem dX5_worth_26 : decode cX5_worth 26 = .ok (.getfield 12, 3) := by decide +kernel
theorem dX5_worth_29 : decode cX5_worth 29 = .ok (.getfield 64, 3) := by decide +kernel
theorem dX5_worth_32 : decode cX5_worth 32 = .ok (.ifCond .ne 7, 3) := by decide +kernel
theorem dX5_worth_35 : decode cX5_worth 35 = .ok (.ldc2_w 153, 3) := by decide +kernel
theorem dX5_worth_38 : decode cX5_worth 38 = .ok (.lreturn, 1) := by decide +kernel
theorem dX5_worth_39 : decode cX5_worth 39 = .ok (.aload_n 0, 1) := by decide +kernel
theorem dX5_worth_40 : decode cX5_worth 40 = .ok (.getfield 29, 3) := by decide +kernel
theorem dX5_worth_43 : decode cX5_worth 43 = .ok (.aload_n 0, 1) := by decide +kernel
theorem dX5_worth_44 : decode cX5_worth 44 = .ok (.getfield 12, 3) := by decide +kernel
theorem dX5_worth_47 : decode cX5_worth 47 = .ok (.invokevirtual 155, 3) := by decide +kernel
theorem dX5_worth_50 : decode cX5_worth 50 = .ok (.aload_n 0, 1) := by decide +kernel
theorem dX5_worth_51 : decode cX5_worth 51 = .ok (.getfield 29, 3) := by decide +kernel
theorem dX5_worth_54 : decode cX5_worth 54 = .ok (.iload_n 1, 1) := by decide +kernel
theorem dX5_worth_55 : decode cX5_worth 55 = .ok (.iload_n 2, 1) := by decide +kernel
theorem dX5_worth_56 : decode cX5_worth 56 = .ok (.invokevirtual 159, 3) := by decide +kernel
theorem dX5_worth_59 : decode cX5_worth 59 = .ok (.lreturn, 1) := by decide +kernel
set_option maxRecDepth 20000 in
theorem ggX5_tone_X5_within : GoodIn wsX5_tone wsX5_within := goodIn_r _ [7] (by decide +kernel) (by decide +kernel)
set_option maxRecDepth 20000 in
theorem gX5_tone_X5_within : GoodIn wsX5_tone (va_wsS RX5 75 yX5_within wsX5_within) := goodIn_app (goodIn_of _ (by decide +kernel)) ggX5_tone_X5_within
set_option maxRecDepth 20000 in
theorem ggX5_tone_X4_cutUp : GoodIn wsX5_tone wsX4_cutUp := goodIn_r _ [12, 13, 14, 15, 16, 17, 18, 19, 20, 21, 22, 23, 24, 25, 26, 27, 28, 29, 30, 31, 32, 33, 34, 35, 36, 37, 38, 39, 40, 41, 6, 42, 43, 44, 45, 46, 47, 48, 49, 50, 51, 52, 53, 54, 55, 56, 57, 58, 59, 60, 112, 113, 114, 115, 116, 117, 118, 119, 103, 104, 105, 106, 107, 108, 109, 110, 111] (by decide +kernel) (by decide +kernel)
set_option maxRecDepth 20000 in
theorem gX5_tone_X4_cutUp : GoodIn wsX5_tone (wsV RX5 155 RX4 yX4_cutUp wsX4_cutUp) := goodIn_app (goodIn_of _ (by decide +kernel)) ggX5_tone_X4_cutUp
set_option maxRecDepth 20000 in
theorem ggX5_tone_X4_findTone : GoodIn wsX5_tone wsX4_findTone := goodIn_r _ [64, 65, 66, 67, 11, 68, 15, 69, 13, 22, 70, 23, 71, 26, 72, 28, 17, 41, 6, 42, 73, 74, 75, 76, 77, 78, 79, 80, 81, 82, 83, 84, 85, 86, 87, 88, 89, 90, 91, 92, 93, 25, 112, 113, 114, 115, 116, 117, 118, 119] (by decide +kernel) (by decide +kernel)
set_option maxRecDepth 20000 in
theorem gX5_tone_X4_findTone : GoodIn wsX5_tone (wsV RX5 163 RX4 yX4_findTone wsX4_findTone) := goodIn_app (goodIn_of _ (by decide +kernel)) ggX5_tone_X4_findTone
theorem dX5_tone_0 : decode cX5_tone 0 = .ok (.iload_n 1, 1) := by decide +kernel
theorem dX5_tone_1 : decode cX5_tone 1 = .ok (.iconst 0, 1) := by decide +kernel
theorem dX5_tone_2 : decode cX5_tone 2 = .ok (.bipush 63, 2) := by decide +kernel
theorem dX5_tone_4 : decode cX5_tone 4 = .ok (.invokestatic 75, 3) := by decide +kernel
theorem dX5_tone_7 : decode cX5_tone 7 = .ok (.ifCond .eq 8, 3) := by decide +kernel
theorem dX5_tone_10 : decode cX5_tone 10 = .ok (.iload_n 2, 1) := by decide +kernel
theorem dX5_tone_11 : decode cX5_tone 11 = .ok (.iconst (-1), 1) := by decide +kernel
theorem dX5_tone_12 : decode cX5_tone 12 = .ok (.if_icmp .ge 7, 3) := by decide +kernel
theorem dX5_tone_15 : decode cX5_tone 15 = .ok (.sipush (-1002), 3) := by decide +kernel
theorem dX5_tone_18 : decode cX5_tone 18 = .ok (.ireturn, 1) := by decide +kernel
theorem dX5_tone_19 : decode cX5_tone 19 = .ok (.aload_n 0, 1) := by decide +kernel
theorem dX5_tone_20 : decode cX5_tone 20 = .ok (.getfield 12, 3) := by decide +kernel
theorem dX5_tone_23 : decode cX5_tone 23 = .ok (.getfield 64, 3) := by decide +kernel
theorem dX5_tone_26 : decode cX5_tone 26 = .ok (.ifCond .ne 7, 3) := by decide +kernel
theorem dX5_tone_29 : decode cX5_tone 29 = .ok (.sipush (-1003), 3) := by decide +kernel
theorem dX5_tone_32 : decode cX5_tone 32 = .ok (.ireturn, 1) := by decide +kernel
theorem dX5_tone_33 : decode cX5_tone 33 = .ok (.aload_n 0, 1) := by decide +kernel
theorem dX5_tone_34 : decode cX5_tone 34 = .ok (.getfield 29, 3) := by decide +kernel
theorem dX5_tone_37 : decode cX5_tone 37 = .ok (.aload_n 0, 1) := by decide +kernel
theorem dX5_tone_38 : decode cX5_tone 38 = .ok (.getfield 12, 3) := by decide +kernel
theorem dX5_tone_41 : decode cX5_tone 41 = .ok (.invokevirtual 155, 3) := by decide +kernel
theorem dX5_tone_44 : decode cX5_tone 44 = .ok (.aload_n 0, 1) := by decide +kernel
theorem dX5_tone_45 : decode cX5_tone 45 = .ok (.getfield 29, 3) := by decide +kernel
theorem dX5_tone_48 : decode cX5_tone 48 = .ok (.iload_n 1, 1) := by decide +kernel
theorem dX5_tone_49 : decode cX5_tone 49 = .ok (.iload_n 2, 1) := by decide +kernel
theorem dX5_tone_50 : decode cX5_tone 50 = .ok (.invokevirtual 163, 3) := by decide +kernel
theorem dX5_tone_53 : decode cX5_tone 53 = .ok (.ireturn, 1) := by decide +kernel
set_option maxRecDepth 20000 in
theorem ggX5_nearest_X5_within : GoodIn wsX5_nearest wsX5_within := goodIn_r _ [8] (by decide +kernel) (by decide +kernel)
set_option maxRecDepth 20000 in
theorem gX5_nearest_X5_within : GoodIn wsX5_nearest (va_wsS RX5 75 yX5_within wsX5_within) := goodIn_app (goodIn_of _ (by decide +kernel)) ggX5_nearest_X5_within
set_option maxRecDepth 20000 in
theorem ggX5_nearest_X4_cutUp : GoodIn wsX5_nearest wsX4_cutUp := goodIn_r _ [13, 14, 15, 16, 17, 18, 19, 20, 21, 22, 23, 24, 25, 26, 27, 28, 29, 30, 31, 32, 33, 34, 35, 36, 37, 38, 39, 40, 41, 42, 7, 43, 44, 45, 46, 47, 48, 49, 50, 51, 52, 53, 54, 55, 56, 57, 58, 59, 60, 61, 119, 120, 121, 122, 123, 124, 125, 126, 110, 111, 112, 113, 114, 115, 116, 117, 118] (by decide +kernel) (by decide +kernel)
set_option maxRecDepth 20000 in
theorem gX5_nearest_X4_cutUp : GoodIn wsX5_nearest (wsV RX5 155 RX4 yX4_cutUp wsX4_cutUp) := goodIn_app (goodIn_of _ (by decide +kernel)) ggX5_nearest_X4_cutUp
set_option maxRecDepth 20000 in
theorem ggX5_nearest_X4_findTone : GoodIn wsX5_nearest wsX4_findTone := goodIn_r _ [65, 66, 67, 68, 12, 69, 16, 70, 14, 23, 71, 24, 72, 27, 73, 29, 18, 42, 7, 43, 74, 75, 76, 77, 78, 79, 80, 81, 82, 83, 84, 85, 86, 87, 88, 89, 90, 91, 92, 93, 94, 26, 119, 120, 121, 122, 123, 124, 125, 126] (by decide +kernel) (by decide +kernel)
set_option maxRecDepth 20000 in
theorem gX5_nearest_X4_findTone : GoodIn wsX5_nearest (wsV RX5 163 RX4 yX4_findTone wsX4_findTone) := goodIn_app (goodIn_of _ (by decide +kernel)) ggX5_nearest_X4_findTone
set_option maxRecDepth 20000 in
theorem ggX5_nearest_X5_missOf : GoodIn wsX5_nearest wsX5_missOf := goodIn_r _ [97, 98, 99, 21, 100] (by decide +kernel) (by decide +kernel)
set_option maxRecDepth 20000 in
theorem gX5_nearest_X5_missOf : GoodIn wsX5_nearest (va_wsS RX5 166 yX5_missOf wsX5_missOf) := goodIn_app (goodIn_of _ (by decide +kernel)) ggX5_nearest_X5_missOf
theorem dX5_nearest_0 : decode cX5_nearest 0 = .ok (.iload_n 1, 1) := by decide +kernel
theorem dX5_nearest_1 : decode cX5_nearest 1 = .ok (.iconst 1, 1) := by decide +kernel
theorem dX5_nearest_2 : decode cX5_nearest 2 = .ok (.sipush 300, 3) := by decide +kernel
theorem dX5_nearest_5 : decode cX5_nearest 5 = .ok (.invokestatic 75, 3) := by decide +kernel
theorem dX5_nearest_8 : decode cX5_nearest 8 = .ok (.ifCond .eq 12, 3) := by decide +kernel
theorem dX5_nearest_11 : decode cX5_nearest 11 = .ok (.iload_n 2, 1) := by decide +kernel
theorem dX5_nearest_12 : decode cX5_nearest 12 = .ok (.iconst 0, 1) := by decide +kernel
theorem dX5_nearest_13 : decode cX5_nearest 13 = .ok (.iconst 1, 1) := by decide +kernel
theorem dX5_nearest_14 : decode cX5_nearest 14 = .ok (.invokestatic 75, 3) := by decide +kernel
theorem dX5_nearest_17 : decode cX5_nearest 17 = .ok (.ifCond .ne 7, 3) := by decide +kernel
theorem dX5_nearest_20 : decode cX5_nearest 20 = .ok (.sipush (-1002), 3) := by decide +kernel
theorem dX5_nearest_23 : decode cX5_nearest 23 = .ok (.ireturn, 1) := by decide +kernel
theorem dX5_nearest_24 : decode cX5_nearest 24 = .ok (.aload_n 0, 1) := by decide +kernel
theorem dX5_nearest_25 : decode cX5_nearest 25 = .ok (.getfield 12, 3) := by decide +kernel
theorem dX5_nearest_28 : decode cX5_nearest 28 = .ok (.getfield 64, 3) := by decide +kernel
theorem dX5_nearest_31 : decode cX5_nearest 31 = .ok (.ifCond .ne 7, 3) := by decide +kernel
theorem dX5_nearest_34 : decode cX5_nearest 34 = .ok (.sipush (-1003), 3) := by decide +kernel
theorem dX5_nearest_37 : decode cX5_nearest 37 = .ok (.ireturn, 1) := by decide +kernel
theorem dX5_nearest_38 : decode cX5_nearest 38 = .ok (.aload_n 0, 1) := by decide +kernel
theorem dX5_nearest_39 : decode cX5_nearest 39 = .ok (.getfield 29, 3) := by decide +kernel
theorem dX5_nearest_42 : decode cX5_nearest 42 = .ok (.aload_n 0, 1) := by decide +kernel
theorem dX5_nearest_43 : decode cX5_nearest 43 = .ok (.getfield 12, 3) := by decide +kernel
theorem dX5_nearest_46 : decode cX5_nearest 46 = .ok (.invokevirtual 155, 3) := by decide +kernel
theorem dX5_nearest_49 : decode cX5_nearest 49 = .ok (.iconst (-1), 1) := by decide +kernel
theorem dX5_nearest_50 : decode cX5_nearest 50 = .ok (.istore_n 3, 1) := by decide +kernel
theorem dX5_nearest_51 : decode cX5_nearest 51 = .ok (.iconst (-1), 1) := by decide +kernel
theorem dX5_nearest_52 : decode cX5_nearest 52 = .ok (.istore 4, 2) := by decide +kernel
theorem dX5_nearest_54 : decode cX5_nearest 54 = .ok (.iconst 0, 1) := by decide +kernel
theorem dX5_nearest_55 : decode cX5_nearest 55 = .ok (.istore 5, 2) := by decide +kernel
theorem dX5_nearest_57 : decode cX5_nearest 57 = .ok (.iload 5, 2) := by decide +kernel
theorem dX5_nearest_59 : decode cX5_nearest 59 = .ok (.iconst 1, 1) := by decide +kernel
theorem dX5_nearest_60 : decode cX5_nearest 60 = .ok (.aload_n 0, 1) := by decide +kernel
theorem dX5_nearest_61 : decode cX5_nearest 61 = .ok (.getfield 12, 3) := by decide +kernel
theorem dX5_nearest_64 : decode cX5_nearest 64 = .ok (.getfield 90, 3) := by decide +kernel
theorem dX5_nearest_67 : decode cX5_nearest 67 = .ok (.ishl, 1) := by decide +kernel
theorem dX5_nearest_68 : decode cX5_nearest 68 = .ok (.if_icmp .ge 43, 3) := by decide +kernel
theorem dX5_nearest_71 : decode cX5_nearest 71 = .ok (.aload_n 0, 1) := by decide +kernel
theorem dX5_nearest_72 : decode cX5_nearest 72 = .ok (.getfield 29, 3) := by decide +kernel
theorem dX5_nearest_75 : decode cX5_nearest 75 = .ok (.iload 5, 2) := by decide +kernel
theorem dX5_nearest_77 : decode cX5_nearest 77 = .ok (.iconst 0, 1) := by decide +kernel
theorem dX5_nearest_78 : decode cX5_nearest 78 = .ok (.invokevirtual 163, 3) := by decide +kernel
theorem dX5_nearest_81 : decode cX5_nearest 81 = .ok (.istore 6, 2) := by decide +kernel
theorem dX5_nearest_83 : decode cX5_nearest 83 = .ok (.iload 6, 2) := by decide +kernel
theorem dX5_nearest_85 : decode cX5_nearest 85 = .ok (.iload_n 1, 1) := by decide +kernel
theorem dX5_nearest_86 : decode cX5_nearest 86 = .ok (.invokestatic 166, 3) := by decide +kernel
theorem dX5_nearest_89 : decode cX5_nearest 89 = .ok (.iload 4, 2) := by decide +kernel
theorem dX5_nearest_91 : decode cX5_nearest 91 = .ok (.iload_n 1, 1) := by decide +kernel
theorem dX5_nearest_92 : decode cX5_nearest 92 = .ok (.invokestatic 166, 3) := by decide +kernel
theorem dX5_nearest_95 : decode cX5_nearest 95 = .ok (.if_icmp .ge 10, 3) := by decide +kernel
theorem dX5_nearest_98 : decode cX5_nearest 98 = .ok (.iload 5, 2) := by decide +kernel
theorem dX5_nearest_100 : decode cX5_nearest 100 = .ok (.istore_n 3, 1) := by decide +kernel
theorem dX5_nearest_101 : decode cX5_nearest 101 = .ok (.iload 6, 2) := by decide +kernel
theorem dX5_nearest_103 : decode cX5_nearest 103 = .ok (.istore 4, 2) := by decide +kernel
theorem dX5_nearest_105 : decode cX5_nearest 105 = .ok (.iinc 5 1, 3) := by decide +kernel
theorem dX5_nearest_108 : decode cX5_nearest 108 = .ok (.goto (-51), 3) := by decide +kernel
theorem dX5_nearest_111 : decode cX5_nearest 111 = .ok (.iload_n 2, 1) := by decide +kernel
theorem dX5_nearest_112 : decode cX5_nearest 112 = .ok (.ifCond .ne 7, 3) := by decide +kernel
theorem dX5_nearest_115 : decode cX5_nearest 115 = .ok (.iload_n 3, 1) := by decide +kernel
theorem dX5_nearest_116 : decode cX5_nearest 116 = .ok (.goto 5, 3) := by decide +kernel
theorem dX5_nearest_119 : decode cX5_nearest 119 = .ok (.iload 4, 2) := by decide +kernel
theorem dX5_nearest_121 : decode cX5_nearest 121 = .ok (.ireturn, 1) := by decide +kernel
set_option maxRecDepth 20000 in
theorem ggX5_note_X5_within : GoodIn wsX5_note wsX5_within := goodIn_r _ [6] (by decide +kernel) (by decide +kernel)
set_option maxRecDepth 20000 in
theorem gX5_note_X5_within : GoodIn wsX5_note (va_wsS RX5 75 yX5_within wsX5_within) := goodIn_app (goodIn_of _ (by decide +kernel)) ggX5_note_X5_within
set_option maxRecDepth 20000 in
theorem ggX5_note_X1_add : GoodIn wsX5_note wsX1_add := goodIn_r _ [11, 12, 13, 14, 15, 16, 5, 17, 27, 28, 29, 30] (by decide +kernel) (by decide +kernel)
set_option maxRecDepth 20000 in
theorem gX5_note_X1_add : GoodIn wsX5_note (wsV RX5 169 RX1 yX1_add wsX1_add) := goodIn_app (goodIn_of _ (by decide +kernel)) ggX5_note_X1_add
theorem dX5_note_0 : decode cX5_note 0 = .ok (.iload_n 1, 1) := by decide +kernel
theorem dX5_note_1 : decode cX5_note 1 = .ok (.iconst 0, 1) := by decide +kernel
theorem dX5_note_2 : decode cX5_note 2 = .ok (.bipush 63, 2) := by decide +kernel
theorem dX5_note_4 : decode cX5_note 4 = .ok (.invokestatic 75, 3) := by decide +kernel
theorem dX5_note_7 : decode cX5_note 7 = .ok (.ifCond .eq 23, 3) := by decide +kernel
theorem dX5_note_10 : decode cX5_note 10 = .ok (.iload_n 2, 1) := by decide +kernel
theorem dX5_note_11 : decode cX5_note 11 = .ok (.iconst 0, 1) := by decide +kernel
theorem dX5_note_12 : decode cX5_note 12 = .ok (.iconst 5, 1) := by decide +kernel
theorem dX5_note_13 : decode cX5_note 13 = .ok (.invokestatic 75, 3) := by decide +kernel
theorem dX5_note_16 : decode cX5_note 16 = .ok (.ifCond .eq 14, 3) := by decide +kernel
theorem dX5_note_19 : decode cX5_note 19 = .ok (.iload_n 3, 1) := by decide +kernel
theorem dX5_note_20 : decode cX5_note 20 = .ok (.iconst 1, 1) := by decide +kernel
theorem dX5_note_21 : decode cX5_note 21 = .ok (.sipush 300, 3) := by decide +kernel
theorem dX5_note_24 : decode cX5_note 24 = .ok (.invokestatic 75, 3) := by decide +kernel
theorem dX5_note_27 : decode cX5_note 27 = .ok (.ifCond .ne 7, 3) := by decide +kernel
theorem dX5_note_30 : decode cX5_note 30 = .ok (.sipush (-1002), 3) := by decide +kernel
theorem dX5_note_33 : decode cX5_note 33 = .ok (.ireturn, 1) := by decide +kernel
theorem dX5_note_34 : decode cX5_note 34 = .ok (.aload_n 0, 1) := by decide +kernel
theorem dX5_note_35 : decode cX5_note 35 = .ok (.getfield 36, 3) := by decide +kernel
theorem dX5_note_38 : decode cX5_note 38 = .ok (.getfield 121, 3) := by decide +kernel
theorem dX5_note_41 : decode cX5_note 41 = .ok (.bipush 6, 2) := by decide +kernel
theorem dX5_note_43 : decode cX5_note 43 = .ok (.if_icmp .lt 7, 3) := by decide +kernel
theorem dX5_note_46 : decode cX5_note 46 = .ok (.sipush (-1004), 3) := by decide +kernel
theorem dX5_note_49 : decode cX5_note 49 = .ok (.ireturn, 1) := by decide +kernel
theorem dX5_note_50 : decode cX5_note 50 = .ok (.aload_n 0, 1) := by decide +kernel
theorem dX5_note_51 : decode cX5_note 51 = .ok (.getfield 36, 3) := by decide +kernel
theorem dX5_note_54 : decode cX5_note 54 = .ok (.iload_n 1, 1) := by decide +kernel
theorem dX5_note_55 : decode cX5_note 55 = .ok (.iload_n 2, 1) := by decide +kernel
theorem dX5_note_56 : decode cX5_note 56 = .ok (.iload_n 3, 1) := by decide +kernel
theorem dX5_note_57 : decode cX5_note 57 = .ok (.invokevirtual 169, 3) := by decide +kernel
theorem dX5_note_60 : decode cX5_note 60 = .ok (.aload_n 0, 1) := by decide +kernel
theorem dX5_note_61 : decode cX5_note 61 = .ok (.getfield 36, 3) := by decide +kernel
theorem dX5_note_64 : decode cX5_note 64 = .ok (.getfield 121, 3) := by decide +kernel
theorem dX5_note_67 : decode cX5_note 67 = .ok (.iconst 1, 1) := by decide +kernel
theorem dX5_note_68 : decode cX5_note 68 = .ok (.isub, 1) := by decide +kernel
theorem dX5_note_69 : decode cX5_note 69 = .ok (.ireturn, 1) := by decide +kernel
set_option maxRecDepth 20000 in
theorem ggX5_noted_X5_within : GoodIn wsX5_noted wsX5_within := goodIn_r _ [9] (by decide +kernel) (by decide +kernel)
set_option maxRecDepth 20000 in
theorem gX5_noted_X5_within : GoodIn wsX5_noted (va_wsS RX5 75 yX5_within wsX5_within) := goodIn_app (goodIn_of _ (by decide +kernel)) ggX5_noted_X5_within
set_option maxRecDepth 20000 in
theorem ggX5_noted_X5_at : GoodIn wsX5_noted wsX5_at := goodIn_r _ [12] (by decide +kernel) (by decide +kernel)
set_option maxRecDepth 20000 in
theorem gX5_noted_X5_at : GoodIn wsX5_noted (va_wsS RX5 101 yX5_at wsX5_at) := goodIn_app (goodIn_of _ (by decide +kernel)) ggX5_noted_X5_at
set_option maxRecDepth 20000 in
theorem ggX5_noted_X5_toneNow : GoodIn wsX5_noted wsX5_toneNow := goodIn_r _ [16, 17, 18, 1, 3, 4, 19, 20, 21, 22, 23, 24, 25, 26, 27, 28, 29, 30, 31, 32, 33, 34, 35, 36, 37, 38, 39, 40, 41, 42, 43, 44, 45, 46, 47, 48, 49, 50, 51, 11, 8, 12, 52, 53, 54, 55, 56, 57, 58, 59, 60, 61, 62, 63, 64, 65, 66, 67, 68, 69, 10, 70, 71, 72, 73, 74, 75, 76, 77, 78, 79, 80, 81, 82, 83, 84, 85, 86, 87, 88, 89, 90, 91, 92, 93, 94, 95, 96, 97, 98, 99, 100, 101, 102, 109, 110, 111, 112, 113, 114, 115, 116, 117, 118, 119, 120, 121, 122, 123, 124, 125, 126, 127, 128, 129, 130, 131, 132, 133, 134, 135, 136, 137, 138] (by decide +kernel) (by decide +kernel)
set_option maxRecDepth 20000 in
theorem gX5_noted_X5_toneNow : GoodIn wsX5_noted (wsV RX5 181 RX5 yX5_toneNow wsX5_toneNow) := goodIn_app (goodIn_of _ (by decide +kernel)) ggX5_noted_X5_toneNow
set_option maxRecDepth 20000 in
theorem ggX5_noted_X5_missOf : GoodIn wsX5_noted wsX5_missOf := goodIn_r _ [105, 106, 107, 31, 108] (by decide +kernel) (by decide +kernel)
set_option maxRecDepth 20000 in
theorem gX5_noted_X5_missOf : GoodIn wsX5_noted (va_wsS RX5 166 yX5_missOf wsX5_missOf) := goodIn_app (goodIn_of _ (by decide +kernel)) ggX5_noted_X5_missOf
theorem dX5_noted_0 : decode cX5_noted 0 = .ok (.iload_n 1, 1) := by decide +kernel
theorem dX5_noted_1 : decode cX5_noted 1 = .ok (.iconst 0, 1) := by decide +kernel
theorem dX5_noted_2 : decode cX5_noted 2 = .ok (.aload_n 0, 1) := by decide +kernel
theorem dX5_noted_3 : decode cX5_noted 3 = .ok (.getfield 36, 3) := by decide +kernel
theorem dX5_noted_6 : decode cX5_noted 6 = .ok (.getfield 121, 3) := by decide +kernel
theorem dX5_noted_9 : decode cX5_noted 9 = .ok (.iconst 1, 1) := by decide +kernel
theorem dX5_noted_10 : decode cX5_noted 10 = .ok (.isub, 1) := by decide +kernel
theorem dX5_noted_11 : decode cX5_noted 11 = .ok (.invokestatic 75, 3) := by decide +kernel
theorem dX5_noted_14 : decode cX5_noted 14 = .ok (.ifCond .ne 7, 3) := by decide +kernel
theorem dX5_noted_17 : decode cX5_noted 17 = .ok (.sipush (-1001), 3) := by decide +kernel
theorem dX5_noted_20 : decode cX5_noted 20 = .ok (.ireturn, 1) := by decide +kernel
theorem dX5_noted_21 : decode cX5_noted 21 = .ok (.iload_n 2, 1) := by decide +kernel
theorem dX5_noted_22 : decode cX5_noted 22 = .ok (.tableswitch 96 0 4 #[34, 46, 58, 70, 76], 34) := by decide +kernel
theorem dX5_noted_56 : decode cX5_noted 56 = .ok (.aload_n 0, 1) := by decide +kernel
theorem dX5_noted_57 : decode cX5_noted 57 = .ok (.getfield 36, 3) := by decide +kernel
theorem dX5_noted_60 : decode cX5_noted 60 = .ok (.getfield 172, 3) := by decide +kernel
theorem dX5_noted_63 : decode cX5_noted 63 = .ok (.iload_n 1, 1) := by decide +kernel
theorem dX5_noted_64 : decode cX5_noted 64 = .ok (.invokestatic 101, 3) := by decide +kernel
theorem dX5_noted_67 : decode cX5_noted 67 = .ok (.ireturn, 1) := by decide +kernel
theorem dX5_noted_68 : decode cX5_noted 68 = .ok (.aload_n 0, 1) := by decide +kernel
theorem dX5_noted_69 : decode cX5_noted 69 = .ok (.getfield 36, 3) := by decide +kernel
theorem dX5_noted_72 : decode cX5_noted 72 = .ok (.getfield 175, 3) := by decide +kernel
theorem dX5_noted_75 : decode cX5_noted 75 = .ok (.iload_n 1, 1) := by decide +kernel
theorem dX5_noted_76 : decode cX5_noted 76 = .ok (.invokestatic 101, 3) := by decide +kernel
theorem dX5_noted_79 : decode cX5_noted 79 = .ok (.ireturn, 1) := by decide +kernel
theorem dX5_noted_80 : decode cX5_noted 80 = .ok (.aload_n 0, 1) := by decide +kernel
theorem dX5_noted_81 : decode cX5_noted 81 = .ok (.getfield 36, 3) := by decide +kernel
theorem dX5_noted_84 : decode cX5_noted 84 = .ok (.getfield 178, 3) := by decide +kernel
theorem dX5_noted_87 : decode cX5_noted 87 = .ok (.iload_n 1, 1) := by decide +kernel
theorem dX5_noted_88 : decode cX5_noted 88 = .ok (.invokestatic 101, 3) := by decide +kernel
theorem dX5_noted_91 : decode cX5_noted 91 = .ok (.ireturn, 1) := by decide +kernel
theorem dX5_noted_92 : decode cX5_noted 92 = .ok (.aload_n 0, 1) := by decide +kernel
theorem dX5_noted_93 : decode cX5_noted 93 = .ok (.iload_n 1, 1) := by decide +kernel
theorem dX5_noted_94 : decode cX5_noted 94 = .ok (.invokevirtual 181, 3) := by decide +kernel
theorem dX5_noted_97 : decode cX5_noted 97 = .ok (.ireturn, 1) := by decide +kernel
theorem dX5_noted_98 : decode cX5_noted 98 = .ok (.aload_n 0, 1) := by decide +kernel
theorem dX5_noted_99 : decode cX5_noted 99 = .ok (.iload_n 1, 1) := by decide +kernel
theorem dX5_noted_100 : decode cX5_noted 100 = .ok (.invokevirtual 181, 3) := by decide +kernel
theorem dX5_noted_103 : decode cX5_noted 103 = .ok (.aload_n 0, 1) := by decide +kernel
theorem dX5_noted_104 : decode cX5_noted 104 = .ok (.getfield 36, 3) := by decide +kernel
theorem dX5_noted_107 : decode cX5_noted 107 = .ok (.getfield 178, 3) := by decide +kernel
theorem dX5_noted_110 : decode cX5_noted 110 = .ok (.iload_n 1, 1) := by decide +kernel
theorem dX5_noted_111 : decode cX5_noted 111 = .ok (.invokestatic 101, 3) := by decide +kernel
theorem dX5_noted_114 : decode cX5_noted 114 = .ok (.invokestatic 166, 3) := by decide +kernel
theorem dX5_noted_117 : decode cX5_noted 117 = .ok (.ireturn, 1) := by decide +kernel
theorem dX5_noted_118 : decode cX5_noted 118 = .ok (.sipush (-1002), 3) := by decide +kernel
theorem dX5_noted_121 : decode cX5_noted 121 = .ok (.ireturn, 1) := by decide +kernel
set_option maxRecDepth 20000 in
theorem ggX5_drill_X5_within : GoodIn wsX5_drill wsX5_within := goodIn_r _ [6] (by decide +kernel) (by decide +kernel)
set_option maxRecDepth 20000 in
theorem gX5_drill_X5_within : GoodIn wsX5_drill (va_wsS RX5 75 yX5_within wsX5_within) := goodIn_app (goodIn_of _ (by decide +kernel)) ggX5_drill_X5_within
set_option maxRecDepth 20000 in
theorem ggX5_drill_J13_bitCount_95d88 : GoodIn wsX5_drill wsJ13_bitCount_95d88 := goodIn_r _ [10, 11, 12, 13] (by decide +kernel) (by decide +kernel)
set_option maxRecDepth 20000 in
theorem gX5_drill_J13_bitCount_95d88 : GoodIn wsX5_drill (va_wsS RX5 136 yJ13_bitCount_95d88 wsJ13_bitCount_95d88) := goodIn_app (goodIn_of _ (by decide +kernel)) ggX5_drill_J13_bitCount_95d88
theorem dX5_drill_0 : decode cX5_drill 0 = .ok (.iload_n 1, 1) := by decide +kernel
theorem dX5_drill_1 : decode cX5_drill 1 = .ok (.iconst 1, 1) := by decide +kernel
theorem dX5_drill_2 : decode cX5_drill 2 = .ok (.bipush 60, 2) := by decide +kernel
theorem dX5_drill_4 : decode cX5_drill 4 = .ok (.invokestatic 75, 3) := by decide +kernel
theorem dX5_drill_7 : decode cX5_drill 7 = .ok (.ifCond .ne 7, 3) := by decide +kernel
theorem dX5_drill_10 : decode cX5_drill 10 = .ok (.sipush (-1002), 3) := by decide +kernel
theorem dX5_drill_13 : decode cX5_drill 13 = .ok (.ireturn, 1) := by decide +kernel
theorem dX5_drill_14 : decode cX5_drill 14 = .ok (.lconst 1, 1) := by decide +kernel
theorem dX5_drill_15 : decode cX5_drill 15 = .ok (.iload_n 1, 1) := by decide +kernel
theorem dX5_drill_16 : decode cX5_drill 16 = .ok (.lshl, 1) := by decide +kernel
theorem dX5_drill_17 : decode cX5_drill 17 = .ok (.lstore_n 3, 1) := by decide +kernel
theorem dX5_drill_18 : decode cX5_drill 18 = .ok (.aload_n 0, 1) := by decide +kernel
theorem dX5_drill_19 : decode cX5_drill 19 = .ok (.iload_n 2, 1) := by decide +kernel
theorem dX5_drill_20 : decode cX5_drill 20 = .ok (.ifCond .eq 12, 3) := by decide +kernel
theorem dX5_drill_23 : decode cX5_drill 23 = .ok (.aload_n 0, 1) := by decide +kernel
theorem dX5_drill_24 : decode cX5_drill 24 = .ok (.getfield 49, 3) := by decide +kernel
theorem dX5_drill_27 : decode cX5_drill 27 = .ok (.lload_n 3, 1) := by decide +kernel
theorem dX5_drill_28 : decode cX5_drill 28 = .ok (.lor, 1) := by decide +kernel
theorem dX5_drill_29 : decode cX5_drill 29 = .ok (.goto 13, 3) := by decide +kernel
theorem dX5_drill_32 : decode cX5_drill 32 = .ok (.aload_n 0, 1) := by decide +kernel
theorem dX5_drill_33 : decode cX5_drill 33 = .ok (.getfield 49, 3) := by decide +kernel
theorem dX5_drill_36 : decode cX5_drill 36 = .ok (.lload_n 3, 1) := by decide +kernel
theorem dX5_drill_37 : decode cX5_drill 37 = .ok (.ldc2_w 184, 3) := by decide +kernel
theorem dX5_drill_40 : decode cX5_drill 40 = .ok (.lxor, 1) := by decide +kernel
theorem dX5_drill_41 : decode cX5_drill 41 = .ok (.land, 1) := by decide +kernel
theorem dX5_drill_42 : decode cX5_drill 42 = .ok (.putfield 49, 3) := by decide +kernel
theorem dX5_drill_45 : decode cX5_drill 45 = .ok (.aload_n 0, 1) := by decide +kernel
theorem dX5_drill_46 : decode cX5_drill 46 = .ok (.getfield 49, 3) := by decide +kernel
theorem dX5_drill_49 : decode cX5_drill 49 = .ok (.invokestatic 136, 3) := by decide +kernel
theorem dX5_drill_52 : decode cX5_drill 52 = .ok (.ireturn, 1) := by decide +kernel
set_option maxRecDepth 20000 in
theorem ggX5_reach_X5_within : GoodIn wsX5_reach wsX5_within := goodIn_r _ [5] (by decide +kernel) (by decide +kernel)
set_option maxRecDepth 20000 in
theorem gX5_reach_X5_within : GoodIn wsX5_reach (va_wsS RX5 75 yX5_within wsX5_within) := goodIn_app (goodIn_of _ (by decide +kernel)) ggX5_reach_X5_within
theorem dX5_reach_0 : decode cX5_reach 0 = .ok (.iload_n 1, 1) := by decide +kernel
theorem dX5_reach_1 : decode cX5_reach 1 = .ok (.iconst 1, 1) := by decide +kernel
theorem dX5_reach_2 : decode cX5_reach 2 = .ok (.bipush 100, 2) := by decide +kernel
theorem dX5_reach_4 : decode cX5_reach 4 = .ok (.invokestatic 75, 3) := by decide +kernel
theorem dX5_reach_7 : decode cX5_reach 7 = .ok (.ifCond .ne 7, 3) := by decide +kernel
theorem dX5_reach_10 : decode cX5_reach 10 = .ok (.sipush (-1002), 3) := by decide +kernel
theorem dX5_reach_13 : decode cX5_reach 13 = .ok (.ireturn, 1) := by decide +kernel
theorem dX5_reach_14 : decode cX5_reach 14 = .ok (.aload_n 0, 1) := by decide +kernel
theorem dX5_reach_15 : decode cX5_reach 15 = .ok (.getfield 53, 3) := by decide +kernel
theorem dX5_reach_18 : decode cX5_reach 18 = .ok (.istore_n 2, 1) := by decide +kernel
theorem dX5_reach_19 : decode cX5_reach 19 = .ok (.aload_n 0, 1) := by decide +kernel
theorem dX5_reach_20 : decode cX5_reach 20 = .ok (.iload_n 1, 1) := by decide +kernel
theorem dX5_reach_21 : decode cX5_reach 21 = .ok (.putfield 53, 3) := by decide +kernel
theorem dX5_reach_24 : decode cX5_reach 24 = .ok (.iload_n 2, 1) := by decide +kernel
theorem dX5_reach_25 : decode cX5_reach 25 = .ok (.ireturn, 1) := by decide +kernel
set_option maxRecDepth 20000 in
theorem ggX5_round_X5_rank : GoodIn wsX5_round wsX5_rank := goodIn_r _ [16, 17, 1, 4, 5, 18, 19, 20, 21, 22, 23, 24, 25, 26, 27, 28, 29, 30, 31, 32, 33, 34, 35, 36, 37, 38, 39, 40, 41, 42, 43, 44, 45, 46, 47, 48, 49, 50, 51, 52, 53, 54, 55, 15, 56, 57, 58, 59, 60, 61, 62, 63, 64, 65, 66, 67, 68, 69, 70, 71, 72, 73, 74, 75, 76, 77, 78, 79, 80, 81, 82, 83, 84, 85, 86, 87, 88, 89, 90, 91, 92, 93, 94, 95, 96, 97, 98, 99, 100, 101, 102, 103, 104, 105, 106, 107, 108, 109, 110, 111, 112, 113, 114, 172, 173, 174, 175, 176, 177, 178, 179, 180, 190, 191, 192, 193, 198, 199, 200, 201, 202, 203, 204, 205, 181, 182, 183, 184, 185, 186, 187, 188, 189] (by decide +kernel) (by decide +kernel)
set_option maxRecDepth 20000 in
theorem gX5_round_X5_rank : GoodIn wsX5_round (wsV RX5 143 RX5 yX5_rank wsX5_rank) := goodIn_app (goodIn_of _ (by decide +kernel)) ggX5_round_X5_rank
set_option maxRecDepth 20000 in
theorem ggX5_round_X0_none : GoodIn wsX5_round wsX0_none := goodIn_r _ [119, 120, 121, 194, 195, 196, 197] (by decide +kernel) (by decide +kernel)
set_option maxRecDepth 20000 in
theorem gX5_round_X0_none : GoodIn wsX5_round (wsV RX5 186 RX0 yX0_none wsX0_none) := goodIn_app (goodIn_of _ (by decide +kernel)) ggX5_round_X0_none
set_option maxRecDepth 20000 in
theorem ggX5_round_X5_placeMoved : GoodIn wsX5_round wsX5_placeMoved := goodIn_r _ [125, 1, 126, 127, 75, 55, 15, 56, 128, 129, 130, 131, 132, 45, 46, 47, 48, 49, 50, 51, 52, 53, 54, 133, 134, 135, 136, 70, 71, 72, 66, 67, 137, 138, 139, 140, 172, 173, 174, 175, 176, 177, 178, 179, 180, 181, 182, 183, 184, 185, 186, 187, 188, 189] (by decide +kernel) (by decide +kernel)
set_option maxRecDepth 20000 in
theorem gX5_round_X5_placeMoved : GoodIn wsX5_round (wsV RX5 190 RX5 yX5_placeMoved wsX5_placeMoved) := goodIn_app (goodIn_of _ (by decide +kernel)) ggX5_round_X5_placeMoved
set_option maxRecDepth 20000 in
theorem ggX5_round_X5_tryMove : GoodIn wsX5_round wsX5_tryMove := goodIn_r _ [144, 1, 6, 145, 146, 147, 148, 47, 149, 150, 151, 152, 153, 67, 154, 155, 55, 15, 56, 156, 157, 158, 159, 73, 74, 12, 13, 14, 16, 17, 4, 5, 18, 19, 20, 21, 22, 23, 24, 25, 26, 27, 28, 29, 30, 31, 32, 33, 34, 35, 36, 37, 38, 39, 40, 41, 42, 43, 44, 45, 46, 48, 49, 50, 51, 52, 53, 54, 57, 58, 59, 60, 61, 62, 63, 64, 65, 66, 68, 69, 70, 71, 72, 75, 76, 77, 78, 79, 80, 81, 82, 83, 84, 85, 86, 87, 88, 89, 90, 91, 92, 93, 94, 95, 96, 97, 98, 99, 100, 101, 102, 103, 104, 105, 106, 107, 108, 109, 110, 111, 112, 113, 114, 160, 161, 162, 118, 163, 120, 121, 164, 165, 172, 173, 174, 175, 176, 177, 178, 179, 180, 194, 195, 196, 197, 181, 182, 183, 184, 185, 186, 187, 188, 189, 190, 191, 192, 193, 198, 199, 200, 201, 202, 203, 204, 205] (by decide +kernel) (by decide +kernel)
set_option maxRecDepth 20000 in
theorem gX5_round_X5_tryMove : GoodIn wsX5_round (wsV RX5 193 RX5 yX5_tryMove wsX5_tryMove) := goodIn_app (goodIn_of _ (by decide +kernel)) ggX5_round_X5_tryMove
set_option maxRecDepth 20000 in
theorem ggX5_round_X5_nextSize : GoodIn wsX5_round wsX5_nextSize := goodIn_r _ [169, 1, 170, 171, 75, 55, 15, 56, 133, 134, 135, 172, 173, 174, 175, 176, 177, 178, 179, 180, 181, 182, 183, 184, 185, 186, 187, 188, 189] (by decide +kernel) (by decide +kernel)
set_option maxRecDepth 20000 in
theorem gX5_round_X5_nextSize : GoodIn wsX5_round (wsV RX5 196 RX5 yX5_nextSize wsX5_nextSize) := goodIn_app (goodIn_of _ (by decide +kernel)) ggX5_round_X5_nextSize
set_option maxRecDepth 20000 in
theorem ggX5_round_X2_changeHole : GoodIn wsX5_round wsX2_changeHole := goodIn_r _ [159, 150, 151, 152, 47, 153, 67, 154, 155, 73, 15, 74, 181, 182, 183, 184, 185, 186, 187, 188, 189] (by decide +kernel) (by decide +kernel)
set_option maxRecDepth 20000 in
theorem gX5_round_X2_changeHole : GoodIn wsX5_round (wsV RX5 109 RX2 yX2_changeHole wsX2_changeHole) := goodIn_app (goodIn_of _ (by decide +kernel)) ggX5_round_X2_changeHole
theorem dX5_round_0 : decode cX5_round 0 = .ok (.aload_n 0, 1) := by decide +kernel
theorem dX5_round_1 : decode cX5_round 1 = .ok (.getfield 12, 3) := by decide +kernel
theorem dX5_round_4 : decode cX5_round 4 = .ok (.getfield 64, 3) := by decide +kernel
theorem dX5_round_7 : decode cX5_round 7 = .ok (.ifCond .eq 23, 3) := by decide +kernel
theorem dX5_round_10 : decode cX5_round 10 = .ok (.aload_n 0, 1) := by decide +kernel
theorem dX5_round_11 : decode cX5_round 11 = .ok (.getfield 12, 3) := by decide +kernel
theorem dX5_round_14 : decode cX5_round 14 = .ok (.getfield 90, 3) := by decide +kernel
theorem dX5_round_17 : decode cX5_round 17 = .ok (.ifCond .eq 13, 3) := by decide +kernel
theorem dX5_round_20 : decode cX5_round 20 = .ok (.aload_n 0, 1) := by decide +kernel
theorem dX5_round_21 : decode cX5_round 21 = .ok (.getfield 36, 3) := by decide +kernel
theorem dX5_round_24 : decode cX5_round 24 = .ok (.getfield 121, 3) := by decide +kernel
theorem dX5_round_27 : decode cX5_round 27 = .ok (.ifCond .ne 7, 3) := by decide +kernel
theorem dX5_round_30 : decode cX5_round 30 = .ok (.sipush (-1003), 3) := by decide +kernel
theorem dX5_round_33 : decode cX5_round 33 = .ok (.ireturn, 1) := by decide +kernel
theorem dX5_round_34 : decode cX5_round 34 = .ok (.aload_n 0, 1) := by decide +kernel
theorem dX5_round_35 : decode cX5_round 35 = .ok (.getfield 43, 3) := by decide +kernel
theorem dX5_round_38 : decode cX5_round 38 = .ok (.aload_n 0, 1) := by decide +kernel
theorem dX5_round_39 : decode cX5_round 39 = .ok (.ldc 142, 2) := by decide +kernel
theorem dX5_round_41 : decode cX5_round 41 = .ok (.invokevirtual 143, 3) := by decide +kernel
theorem dX5_round_44 : decode cX5_round 44 = .ok (.invokevirtual 186, 3) := by decide +kernel
theorem dX5_round_47 : decode cX5_round 47 = .ok (.iconst 0, 1) := by decide +kernel
theorem dX5_round_48 : decode cX5_round 48 = .ok (.istore_n 1, 1) := by decide +kernel
theorem dX5_round_49 : decode cX5_round 49 = .ok (.iload_n 1, 1) := by decide +kernel
theorem dX5_round_50 : decode cX5_round 50 = .ok (.aload_n 0, 1) := by decide +kernel
theorem dX5_round_51 : decode cX5_round 51 = .ok (.getfield 12, 3) := by decide +kernel
theorem dX5_round_54 : decode cX5_round 54 = .ok (.getfield 90, 3) := by decide +kernel
theorem dX5_round_57 : decode cX5_round 57 = .ok (.if_icmp .ge 57, 3) := by decide +kernel
theorem dX5_round_60 : decode cX5_round 60 = .ok (.aload_n 0, 1) := by decide +kernel
theorem dX5_round_61 : decode cX5_round 61 = .ok (.iload_n 1, 1) := by decide +kernel
theorem dX5_round_62 : decode cX5_round 62 = .ok (.iconst 0, 1) := by decide +kernel
theorem dX5_round_63 : decode cX5_round 63 = .ok (.aload_n 0, 1) := by decide +kernel
theorem dX5_round_64 : decode cX5_round 64 = .ok (.iload_n 1, 1) := by decide +kernel
theorem dX5_round_65 : decode cX5_round 65 = .ok (.iconst 1, 1) := by decide +kernel
theorem dX5_round_66 : decode cX5_round 66 = .ok (.invokevirtual 190, 3) := by decide +kernel
theorem dX5_round_69 : decode cX5_round 69 = .ok (.invokevirtual 193, 3) := by decide +kernel
theorem dX5_round_72 : decode cX5_round 72 = .ok (.aload_n 0, 1) := by decide +kernel
theorem dX5_round_73 : decode cX5_round 73 = .ok (.iload_n 1, 1) := by decide +kernel
theorem dX5_round_74 : decode cX5_round 74 = .ok (.iconst 0, 1) := by decide +kernel
theorem dX5_round_75 : decode cX5_round 75 = .ok (.aload_n 0, 1) := by decide +kernel
theorem dX5_round_76 : decode cX5_round 76 = .ok (.iload_n 1, 1) := by decide +kernel
theorem dX5_round_77 : decode cX5_round 77 = .ok (.iconst (-1), 1) := by decide +kernel
theorem dX5_round_78 : decode cX5_round 78 = .ok (.invokevirtual 190, 3) := by decide +kernel
theorem dX5_round_81 : decode cX5_round 81 = .ok (.invokevirtual 193, 3) := by decide +kernel
theorem dX5_round_84 : decode cX5_round 84 = .ok (.aload_n 0, 1) := by decide +kernel
theorem dX5_round_85 : decode cX5_round 85 = .ok (.iload_n 1, 1) := by decide +kernel
theorem dX5_round_86 : decode cX5_round 86 = .ok (.iconst 1, 1) := by decide +kernel
theorem dX5_round_87 : decode cX5_round 87 = .ok (.aload_n 0, 1) := by decide +kernel
theorem dX5_round_88 : decode cX5_round 88 = .ok (.iload_n 1, 1) := by decide +kernel
theorem dX5_round_89 : decode cX5_round 89 = .ok (.iconst 1, 1) := by decide +kernel
theorem dX5_round_90 : decode cX5_round 90 = .ok (.invokevirtual 196, 3) := by decide +kernel
theorem dX5_round_93 : decode cX5_round 93 = .ok (.invokevirtual 193, 3) := by decide +kernel
theorem dX5_round_96 : decode cX5_round 96 = .ok (.aload_n 0, 1) := by decide +kernel
theorem dX5_round_97 : decode cX5_round 97 = .ok (.iload_n 1, 1) := by decide +kernel
theorem dX5_round_98 : decode cX5_round 98 = .ok (.iconst 1, 1) := by decide +kernel
theorem dX5_round_99 : decode cX5_round 99 = .ok (.aload_n 0, 1) := by decide +kernel
theorem dX5_round_100 : decode cX5_round 100 = .ok (.iload_n 1, 1) := by decide +kernel
theorem dX5_round_101 : decode cX5_round 101 = .ok (.iconst (-1), 1) := by decide +kernel
theorem dX5_round_102 : decode cX5_round 102 = .ok (.invokevirtual 196, 3) := by decide +kernel
theorem dX5_round_105 : decode cX5_round 105 = .ok (.invokevirtual 193, 3) := by decide +kernel
theorem dX5_round_108 : decode cX5_round 108 = .ok (.iinc 1 1, 3) := by decide +kernel
theorem dX5_round_111 : decode cX5_round 111 = .ok (.goto (-62), 3) := by decide +kernel
theorem dX5_round_114 : decode cX5_round 114 = .ok (.aload_n 0, 1) := by decide +kernel
theorem dX5_round_115 : decode cX5_round 115 = .ok (.getfield 43, 3) := by decide +kernel
theorem dX5_round_118 : decode cX5_round 118 = .ok (.getfield 199, 3) := by decide +kernel
theorem dX5_round_121 : decode cX5_round 121 = .ok (.iconst (-1), 1) := by decide +kernel
theorem dX5_round_122 : decode cX5_round 122 = .ok (.if_icmp .ne 5, 3) := by decide +kernel
theorem dX5_round_125 : decode cX5_round 125 = .ok (.iconst 0, 1) := by decide +kernel
theorem dX5_round_126 : decode cX5_round 126 = .ok (.ireturn, 1) := by decide +kernel
theorem dX5_round_127 : decode cX5_round 127 = .ok (.aload_n 0, 1) := by decide +kernel
theorem dX5_round_128 : decode cX5_round 128 = .ok (.getfield 12, 3) := by decide +kernel
theorem dX5_round_131 : decode cX5_round 131 = .ok (.aload_n 0, 1) := by decide +kernel
theorem dX5_round_132 : decode cX5_round 132 = .ok (.getfield 43, 3) := by decide +kernel
theorem dX5_round_135 : decode cX5_round 135 = .ok (.getfield 199, 3) := by decide +kernel
theorem dX5_round_138 : decode cX5_round 138 = .ok (.aload_n 0, 1) := by decide +kernel
theorem dX5_round_139 : decode cX5_round 139 = .ok (.getfield 43, 3) := by decide +kernel
theorem dX5_round_142 : decode cX5_round 142 = .ok (.getfield 202, 3) := by decide +kernel
theorem dX5_round_145 : decode cX5_round 145 = .ok (.aload_n 0, 1) := by decide +kernel
theorem dX5_round_146 : decode cX5_round 146 = .ok (.getfield 43, 3) := by decide +kernel
theorem dX5_round_149 : decode cX5_round 149 = .ok (.getfield 205, 3) := by decide +kernel
theorem dX5_round_152 : decode cX5_round 152 = .ok (.invokevirtual 109, 3) := by decide +kernel
theorem dX5_round_155 : decode cX5_round 155 = .ok (.aload_n 0, 1) := by decide +kernel
theorem dX5_round_156 : decode cX5_round 156 = .ok (.dup, 1) := by decide +kernel
theorem dX5_round_157 : decode cX5_round 157 = .ok (.getfield 57, 3) := by decide +kernel
theorem dX5_round_160 : decode cX5_round 160 = .ok (.iconst 1, 1) := by decide +kernel
theorem dX5_round_161 : decode cX5_round 161 = .ok (.iadd, 1) := by decide +kernel
theorem dX5_round_162 : decode cX5_round 162 = .ok (.putfield 57, 3) := by decide +kernel
theorem dX5_round_165 : decode cX5_round 165 = .ok (.iconst 1, 1) := by decide +kernel
theorem dX5_round_166 : decode cX5_round 166 = .ok (.ireturn, 1) := by decide +kernel
set_option maxRecDepth 20000 in
theorem ggX5_keep_X5_within : GoodIn wsX5_keep wsX5_within := goodIn_r _ [7] (by decide +kernel) (by decide +kernel)
set_option maxRecDepth 20000 in
theorem gX5_keep_X5_within : GoodIn wsX5_keep (va_wsS RX5 75 yX5_within wsX5_within) := goodIn_app (goodIn_of _ (by decide +kernel)) ggX5_keep_X5_within
set_option maxRecDepth 20000 in
theorem ggX5_keep_X5_shelfOf : GoodIn wsX5_keep wsX5_shelfOf := goodIn_r _ [11, 12, 13, 38, 39, 40, 41, 42, 43, 44, 45, 46] (by decide +kernel) (by decide +kernel)
set_option maxRecDepth 20000 in
theorem gX5_keep_X5_shelfOf : GoodIn wsX5_keep (wsV RX5 208 RX5 yX5_shelfOf wsX5_shelfOf) := goodIn_app (goodIn_of _ (by decide +kernel)) ggX5_keep_X5_shelfOf
set_option maxRecDepth 20000 in
theorem ggX5_keep_X2_copy : GoodIn wsX5_keep wsX2_copy := goodIn_r _ [18, 19, 20, 21, 22, 23, 24, 25, 26, 27, 28, 6, 29, 30, 31, 32, 33, 34, 35, 47, 48, 49, 50, 51, 52, 53, 54, 55] (by decide +kernel) (by decide +kernel)
set_option maxRecDepth 20000 in
theorem gX5_keep_X2_copy : GoodIn wsX5_keep (wsV RX5 215 RX2 yX2_copy wsX2_copy) := goodIn_app (goodIn_of _ (by decide +kernel)) ggX5_keep_X2_copy
theorem dX5_keep_0 : decode cX5_keep 0 = .ok (.iload_n 1, 1) := by decide +kernel
theorem dX5_keep_1 : decode cX5_keep 1 = .ok (.iconst 0, 1) := by decide +kernel
theorem dX5_keep_2 : decode cX5_keep 2 = .ok (.iconst 1, 1) := by decide +kernel
theorem dX5_keep_3 : decode cX5_keep 3 = .ok (.invokestatic 75, 3) := by decide +kernel
theorem dX5_keep_6 : decode cX5_keep 6 = .ok (.ifCond .ne 7, 3) := by decide +kernel
theorem dX5_keep_9 : decode cX5_keep 9 = .ok (.sipush (-1001), 3) := by decide +kernel
theorem dX5_keep_12 : decode cX5_keep 12 = .ok (.ireturn, 1) := by decide +kernel
theorem dX5_keep_13 : decode cX5_keep 13 = .ok (.aload_n 0, 1) := by decide +kernel
theorem dX5_keep_14 : decode cX5_keep 14 = .ok (.iload_n 1, 1) := by decide +kernel
theorem dX5_keep_15 : decode cX5_keep 15 = .ok (.invokevirtual 208, 3) := by decide +kernel
theorem dX5_keep_18 : decode cX5_keep 18 = .ok (.astore_n 2, 1) := by decide +kernel
theorem dX5_keep_19 : decode cX5_keep 19 = .ok (.aload_n 2, 1) := by decide +kernel
theorem dX5_keep_20 : decode cX5_keep 20 = .ok (.getfield 212, 3) := by decide +kernel
theorem dX5_keep_23 : decode cX5_keep 23 = .ok (.aload_n 0, 1) := by decide +kernel
theorem dX5_keep_24 : decode cX5_keep 24 = .ok (.getfield 12, 3) := by decide +kernel
theorem dX5_keep_27 : decode cX5_keep 27 = .ok (.invokevirtual 215, 3) := by decide +kernel
theorem dX5_keep_30 : decode cX5_keep 30 = .ok (.aload_n 2, 1) := by decide +kernel
theorem dX5_keep_31 : decode cX5_keep 31 = .ok (.iconst 1, 1) := by decide +kernel
theorem dX5_keep_32 : decode cX5_keep 32 = .ok (.putfield 218, 3) := by decide +kernel
theorem dX5_keep_35 : decode cX5_keep 35 = .ok (.iconst 1, 1) := by decide +kernel
theorem dX5_keep_36 : decode cX5_keep 36 = .ok (.ireturn, 1) := by decide +kernel
set_option maxRecDepth 20000 in
theorem ggX5_back_X5_within : GoodIn wsX5_back wsX5_within := goodIn_r _ [7] (by decide +kernel) (by decide +kernel)
set_option maxRecDepth 20000 in
theorem gX5_back_X5_within : GoodIn wsX5_back (va_wsS RX5 75 yX5_within wsX5_within) := goodIn_app (goodIn_of _ (by decide +kernel)) ggX5_back_X5_within
set_option maxRecDepth 20000 in
theorem ggX5_back_X5_shelfOf : GoodIn wsX5_back wsX5_shelfOf := goodIn_r _ [11, 12, 13, 38, 39, 40, 41, 42, 43, 44, 45, 46] (by decide +kernel) (by decide +kernel)
set_option maxRecDepth 20000 in
theorem gX5_back_X5_shelfOf : GoodIn wsX5_back (wsV RX5 208 RX5 yX5_shelfOf wsX5_shelfOf) := goodIn_app (goodIn_of _ (by decide +kernel)) ggX5_back_X5_shelfOf
set_option maxRecDepth 20000 in
theorem ggX5_back_X2_copy : GoodIn wsX5_back wsX2_copy := goodIn_r _ [18, 19, 20, 21, 22, 23, 24, 25, 26, 27, 28, 6, 29, 30, 31, 32, 33, 34, 35, 47, 48, 49, 50, 51, 52, 53, 54, 55] (by decide +kernel) (by decide +kernel)
set_option maxRecDepth 20000 in
theorem gX5_back_X2_copy : GoodIn wsX5_back (wsV RX5 215 RX2 yX2_copy wsX2_copy) := goodIn_app (goodIn_of _ (by decide +kernel)) ggX5_back_X2_copy
theorem dX5_back_0 : decode cX5_back 0 = .ok (.iload_n 1, 1) := by decide +kernel
theorem dX5_back_1 : decode cX5_back 1 = .ok (.iconst 0, 1) := by decide +kernel
theorem dX5_back_2 : decode cX5_back 2 = .ok (.iconst 1, 1) := by decide +kernel
theorem dX5_back_3 : decode cX5_back 3 = .ok (.invokestatic 75, 3) := by decide +kernel
theorem dX5_back_6 : decode cX5_back 6 = .ok (.ifCond .ne 7, 3) := by decide +kernel
theorem dX5_back_9 : decode cX5_back 9 = .ok (.sipush (-1001), 3) := by decide +kernel
theorem dX5_back_12 : decode cX5_back 12 = .ok (.ireturn, 1) := by decide +kernel
theorem dX5_back_13 : decode cX5_back 13 = .ok (.aload_n 0, 1) := by decide +kernel
theorem dX5_back_14 : decode cX5_back 14 = .ok (.iload_n 1, 1) := by decide +kernel
theorem dX5_back_15 : decode cX5_back 15 = .ok (.invokevirtual 208, 3) := by decide +kernel
theorem dX5_back_18 : decode cX5_back 18 = .ok (.astore_n 2, 1) := by decide +kernel
theorem dX5_back_19 : decode cX5_back 19 = .ok (.aload_n 2, 1) := by decide +kernel
theorem dX5_back_20 : decode cX5_back 20 = .ok (.getfield 218, 3) := by decide +kernel
theorem dX5_back_23 : decode cX5_back 23 = .ok (.ifCond .ne 7, 3) := by decide +kernel
theorem dX5_back_26 : decode cX5_back 26 = .ok (.sipush (-1003), 3) := by decide +kernel
theorem dX5_back_29 : decode cX5_back 29 = .ok (.ireturn, 1) := by decide +kernel
theorem dX5_back_30 : decode cX5_back 30 = .ok (.aload_n 0, 1) := by decide +kernel
theorem dX5_back_31 : decode cX5_back 31 = .ok (.getfield 12, 3) := by decide +kernel
theorem dX5_back_34 : decode cX5_back 34 = .ok (.aload_n 2, 1) := by decide +kernel
theorem dX5_back_35 : decode cX5_back 35 = .ok (.getfield 212, 3) := by decide +kernel
theorem dX5_back_38 : decode cX5_back 38 = .ok (.invokevirtual 215, 3) := by decide +kernel
theorem dX5_back_41 : decode cX5_back 41 = .ok (.iconst 1, 1) := by decide +kernel
theorem dX5_back_42 : decode cX5_back 42 = .ok (.ireturn, 1) := by decide +kernel
set_option maxRecDepth 20000 in
theorem ggX5_differs_X5_within : GoodIn wsX5_differs wsX5_within := goodIn_r _ [7] (by decide +kernel) (by decide +kernel)
set_option maxRecDepth 20000 in
theorem gX5_differs_X5_within : GoodIn wsX5_differs (va_wsS RX5 75 yX5_within wsX5_within) := goodIn_app (goodIn_of _ (by decide +kernel)) ggX5_differs_X5_within
set_option maxRecDepth 20000 in
theorem ggX5_differs_X5_shelfOf : GoodIn wsX5_differs wsX5_shelfOf := goodIn_r _ [11, 12, 13, 42, 43, 44, 45, 46, 47, 48, 49, 50] (by decide +kernel) (by decide +kernel)
set_option maxRecDepth 20000 in
theorem gX5_differs_X5_shelfOf : GoodIn wsX5_differs (wsV RX5 208 RX5 yX5_shelfOf wsX5_shelfOf) := goodIn_app (goodIn_of _ (by decide +kernel)) ggX5_differs_X5_shelfOf
set_option maxRecDepth 20000 in
theorem ggX5_differs_X2_differences : GoodIn wsX5_differs wsX2_differences := goodIn_r _ [18, 19, 20, 21, 22, 23, 24, 25, 26, 27, 28, 6, 29, 30, 31, 32, 33, 34, 35, 36, 37, 38, 39, 51, 52, 53, 54, 55, 56, 57, 58, 59] (by decide +kernel) (by decide +kernel)
set_option maxRecDepth 20000 in
theorem gX5_differs_X2_differences : GoodIn wsX5_differs (wsV RX5 222 RX2 yX2_differences wsX2_differences) := goodIn_app (goodIn_of _ (by decide +kernel)) ggX5_differs_X2_differences
theorem dX5_differs_0 : decode cX5_differs 0 = .ok (.iload_n 1, 1) := by decide +kernel
theorem dX5_differs_1 : decode cX5_differs 1 = .ok (.iconst 0, 1) := by decide +kernel
theorem dX5_differs_2 : decode cX5_differs 2 = .ok (.iconst 1, 1) := by decide +kernel
theorem dX5_differs_3 : decode cX5_differs 3 = .ok (.invokestatic 75, 3) := by decide +kernel
theorem dX5_differs_6 : decode cX5_differs 6 = .ok (.ifCond .ne 7, 3) := by decide +kernel
theorem dX5_differs_9 : decode cX5_differs 9 = .ok (.sipush (-1001), 3) := by decide +kernel
theorem dX5_differs_12 : decode cX5_differs 12 = .ok (.ireturn, 1) := by decide +kernel
theorem dX5_differs_13 : decode cX5_differs 13 = .ok (.aload_n 0, 1) := by decide +kernel
theorem dX5_differs_14 : decode cX5_differs 14 = .ok (.iload_n 1, 1) := by decide +kernel
theorem dX5_differs_15 : decode cX5_differs 15 = .ok (.invokevirtual 208, 3) := by decide +kernel
theorem dX5_differs_18 : decode cX5_differs 18 = .ok (.astore_n 2, 1) := by decide +kernel
theorem dX5_differs_19 : decode cX5_differs 19 = .ok (.aload_n 2, 1) := by decide +kernel
theorem dX5_differs_20 : decode cX5_differs 20 = .ok (.getfield 218, 3) := by decide +kernel
theorem dX5_differs_23 : decode cX5_differs 23 = .ok (.ifCond .ne 7, 3) := by decide +kernel
theorem dX5_differs_26 : decode cX5_differs 26 = .ok (.sipush (-1003), 3) := by decide +kernel
theorem dX5_differs_29 : decode cX5_differs 29 = .ok (.ireturn, 1) := by decide +kernel
theorem dX5_differs_30 : decode cX5_differs 30 = .ok (.aload_n 0, 1) := by decide +kernel
theorem dX5_differs_31 : decode cX5_differs 31 = .ok (.getfield 12, 3) := by decide +kernel
theorem dX5_differs_34 : decode cX5_differs 34 = .ok (.aload_n 2, 1) := by decide +kernel
theorem dX5_differs_35 : decode cX5_differs 35 = .ok (.getfield 212, 3) := by decide +kernel
theorem dX5_differs_38 : decode cX5_differs 38 = .ok (.invokevirtual 222, 3) := by decide +kernel
theorem dX5_differs_41 : decode cX5_differs 41 = .ok (.ireturn, 1) := by decide +kernel
theorem dX5_shelfOf_0 : decode cX5_shelfOf 0 = .ok (.iload_n 1, 1) := by decide +kernel
theorem dX5_shelfOf_1 : decode cX5_shelfOf 1 = .ok (.ifCond .ne 10, 3) := by decide +kernel
theorem dX5_shelfOf_4 : decode cX5_shelfOf 4 = .ok (.aload_n 0, 1) := by decide +kernel
theorem dX5_shelfOf_5 : decode cX5_shelfOf 5 = .ok (.getfield 19, 3) := by decide +kernel
theorem dX5_shelfOf_8 : decode cX5_shelfOf 8 = .ok (.goto 7, 3) := by decide +kernel
theorem dX5_shelfOf_11 : decode cX5_shelfOf 11 = .ok (.aload_n 0, 1) := by decide +kernel
theorem dX5_shelfOf_12 : decode cX5_shelfOf 12 = .ok (.getfield 23, 3) := by decide +kernel
theorem dX5_shelfOf_15 : decode cX5_shelfOf 15 = .ok (.areturn, 1) := by decide +kernel
theorem dX5_within_0 : decode cX5_within 0 = .ok (.iload_n 0, 1) := by decide +kernel
theorem dX5_within_1 : decode cX5_within 1 = .ok (.iload_n 1, 1) := by decide +kernel
theorem dX5_within_2 : decode cX5_within 2 = .ok (.if_icmp .lt 12, 3) := by decide +kernel
theorem dX5_within_5 : decode cX5_within 5 = .ok (.iload_n 0, 1) := by decide +kernel
theorem dX5_within_6 : decode cX5_within 6 = .ok (.iload_n 2, 1) := by decide +kernel
theorem dX5_within_7 : decode cX5_within 7 = .ok (.if_icmp .gt 7, 3) := by decide +kernel
theorem dX5_within_10 : decode cX5_within 10 = .ok (.iconst 1, 1) := by decide +kernel
theorem dX5_within_11 : decode cX5_within 11 = .ok (.goto 4, 3) := by decide +kernel
theorem dX5_within_14 : decode cX5_within 14 = .ok (.iconst 0, 1) := by decide +kernel
theorem dX5_within_15 : decode cX5_within 15 = .ok (.ireturn, 1) := by decide +kernel
set_option maxRecDepth 20000 in
theorem ggX5_isPiece_X5_within : GoodIn wsX5_isPiece wsX5_within := goodIn_r _ [4] (by decide +kernel) (by decide +kernel)
set_option maxRecDepth 20000 in
theorem gX5_isPiece_X5_within : GoodIn wsX5_isPiece (va_wsS RX5 75 yX5_within wsX5_within) := goodIn_app (goodIn_of _ (by decide +kernel)) ggX5_isPiece_X5_within
theorem dX5_isPiece_0 : decode cX5_isPiece 0 = .ok (.iload_n 0, 1) := by decide +kernel
theorem dX5_isPiece_1 : decode cX5_isPiece 1 = .ok (.iconst 1, 1) := by decide +kernel
theorem dX5_isPiece_2 : decode cX5_isPiece 2 = .ok (.sipush 400, 3) := by decide +kernel
theorem dX5_isPiece_5 : decode cX5_isPiece 5 = .ok (.invokestatic 75, 3) := by decide +kernel
theorem dX5_isPiece_8 : decode cX5_isPiece 8 = .ok (.ifCond .eq 17, 3) := by decide +kernel
theorem dX5_isPiece_11 : decode cX5_isPiece 11 = .ok (.iload_n 1, 1) := by decide +kernel
theorem dX5_isPiece_12 : decode cX5_isPiece 12 = .ok (.iconst 1, 1) := by decide +kernel
theorem dX5_isPiece_13 : decode cX5_isPiece 13 = .ok (.bipush 100, 2) := by decide +kernel
theorem dX5_isPiece_15 : decode cX5_isPiece 15 = .ok (.invokestatic 75, 3) := by decide +kernel
theorem dX5_isPiece_18 : decode cX5_isPiece 18 = .ok (.ifCond .eq 7, 3) := by decide +kernel
theorem dX5_isPiece_21 : decode cX5_isPiece 21 = .ok (.iconst 1, 1) := by decide +kernel
theorem dX5_isPiece_22 : decode cX5_isPiece 22 = .ok (.goto 4, 3) := by decide +kernel
theorem dX5_isPiece_25 : decode cX5_isPiece 25 = .ok (.iconst 0, 1) := by decide +kernel
theorem dX5_isPiece_26 : decode cX5_isPiece 26 = .ok (.ireturn, 1) := by decide +kernel
set_option maxRecDepth 20000 in
theorem ggX5_mayBe_X2_wholeLength : GoodIn wsX5_mayBe wsX2_wholeLength := goodIn_r _ [6, 7, 8, 9, 10, 5, 11, 12, 13, 14, 15, 28, 29, 30, 31, 32, 33, 34, 35, 36] (by decide +kernel) (by decide +kernel)
set_option maxRecDepth 20000 in
theorem gX5_mayBe_X2_wholeLength : GoodIn wsX5_mayBe (wsV RX5 71 RX2 yX2_wholeLength wsX2_wholeLength) := goodIn_app (goodIn_of _ (by decide +kernel)) ggX5_mayBe_X2_wholeLength
set_option maxRecDepth 20000 in
theorem ggX5_mayBe_X5_within : GoodIn wsX5_mayBe wsX5_within := goodIn_r _ [18] (by decide +kernel) (by decide +kernel)
set_option maxRecDepth 20000 in
theorem gX5_mayBe_X5_within : GoodIn wsX5_mayBe (va_wsS RX5 75 yX5_within wsX5_within) := goodIn_app (goodIn_of _ (by decide +kernel)) ggX5_mayBe_X5_within
theorem dX5_mayBe_0 : decode cX5_mayBe 0 = .ok (.iload_n 1, 1) := by decide +kernel
theorem dX5_mayBe_1 : decode cX5_mayBe 1 = .ok (.tableswitch 58 0 2 #[27, 42, 50], 27) := by decide +kernel
theorem dX5_mayBe_28 : decode cX5_mayBe 28 = .ok (.iload_n 2, 1) := by decide +kernel
theorem dX5_mayBe_29 : decode cX5_mayBe 29 = .ok (.iconst 1, 1) := by decide +kernel
theorem dX5_mayBe_30 : decode cX5_mayBe 30 = .ok (.aload_n 0, 1) := by decide +kernel
theorem dX5_mayBe_31 : decode cX5_mayBe 31 = .ok (.getfield 12, 3) := by decide +kernel
theorem dX5_mayBe_34 : decode cX5_mayBe 34 = .ok (.invokevirtual 71, 3) := by decide +kernel
theorem dX5_mayBe_37 : decode cX5_mayBe 37 = .ok (.iconst 1, 1) := by decide +kernel
theorem dX5_mayBe_38 : decode cX5_mayBe 38 = .ok (.isub, 1) := by decide +kernel
theorem dX5_mayBe_39 : decode cX5_mayBe 39 = .ok (.invokestatic 75, 3) := by decide +kernel
theorem dX5_mayBe_42 : decode cX5_mayBe 42 = .ok (.ireturn, 1) := by decide +kernel
theorem dX5_mayBe_43 : decode cX5_mayBe 43 = .ok (.iload_n 2, 1) := by decide +kernel
theorem dX5_mayBe_44 : decode cX5_mayBe 44 = .ok (.iconst 1, 1) := by decide +kernel
theorem dX5_mayBe_45 : decode cX5_mayBe 45 = .ok (.bipush 60, 2) := by decide +kernel
theorem dX5_mayBe_47 : decode cX5_mayBe 47 = .ok (.invokestatic 75, 3) := by decide +kernel
theorem dX5_mayBe_50 : decode cX5_mayBe 50 = .ok (.ireturn, 1) := by decide +kernel
theorem dX5_mayBe_51 : decode cX5_mayBe 51 = .ok (.iload_n 2, 1) := by decide +kernel
theorem dX5_mayBe_52 : decode cX5_mayBe 52 = .ok (.iconst 0, 1) := by decide +kernel
theorem dX5_mayBe_53 : decode cX5_mayBe 53 = .ok (.bipush 60, 2) := by decide +kernel
theorem dX5_mayBe_55 : decode cX5_mayBe 55 = .ok (.invokestatic 75, 3) := by decide +kernel
theorem dX5_mayBe_58 : decode cX5_mayBe 58 = .ok (.ireturn, 1) := by decide +kernel
theorem dX5_mayBe_59 : decode cX5_mayBe 59 = .ok (.iconst 0, 1) := by decide +kernel
theorem dX5_mayBe_60 : decode cX5_mayBe 60 = .ok (.ireturn, 1) := by decide +kernel
set_option maxRecDepth 20000 in
theorem ggX5_toneNow_X4_cutUp : GoodIn wsX5_toneNow wsX4_cutUp := goodIn_r _ [10, 11, 12, 13, 14, 15, 16, 17, 18, 19, 20, 21, 22, 23, 24, 25, 26, 27, 28, 29, 30, 31, 32, 33, 34, 35, 36, 37, 38, 39, 40, 41, 42, 43, 44, 45, 46, 47, 48, 49, 50, 51, 52, 53, 54, 55, 56, 57, 58, 59, 107, 108, 109, 110, 111, 112, 113, 114, 115, 116, 117, 118, 119, 120, 121, 122, 123] (by decide +kernel) (by decide +kernel)
set_option maxRecDepth 20000 in
theorem gX5_toneNow_X4_cutUp : GoodIn wsX5_toneNow (wsV RX5 155 RX4 yX4_cutUp wsX4_cutUp) := goodIn_app (goodIn_of _ (by decide +kernel)) ggX5_toneNow_X4_cutUp
set_option maxRecDepth 20000 in
theorem ggX5_toneNow_X5_at : GoodIn wsX5_toneNow wsX5_at := goodIn_r _ [41] (by decide +kernel) (by decide +kernel)
set_option maxRecDepth 20000 in
theorem gX5_toneNow_X5_at : GoodIn wsX5_toneNow (va_wsS RX5 101 yX5_at wsX5_at) := goodIn_app (goodIn_of _ (by decide +kernel)) ggX5_toneNow_X5_at
set_option maxRecDepth 20000 in
theorem ggX5_toneNow_X4_findTone : GoodIn wsX5_toneNow wsX4_findTone := goodIn_r _ [64, 65, 66, 67, 9, 68, 13, 69, 11, 20, 70, 21, 71, 24, 72, 26, 15, 39, 40, 41, 73, 74, 75, 76, 77, 78, 79, 80, 81, 82, 83, 84, 85, 86, 87, 88, 89, 90, 91, 92, 93, 23, 107, 108, 109, 110, 111, 112, 113, 114] (by decide +kernel) (by decide +kernel)
set_option maxRecDepth 20000 in
theorem gX5_toneNow_X4_findTone : GoodIn wsX5_toneNow (wsV RX5 163 RX4 yX4_findTone wsX4_findTone) := goodIn_app (goodIn_of _ (by decide +kernel)) ggX5_toneNow_X4_findTone
theorem dX5_toneNow_0 : decode cX5_toneNow 0 = .ok (.aload_n 0, 1) := by decide +kernel
theorem dX5_toneNow_1 : decode cX5_toneNow 1 = .ok (.getfield 29, 3) := by decide +kernel
theorem dX5_toneNow_4 : decode cX5_toneNow 4 = .ok (.aload_n 0, 1) := by decide +kernel
theorem dX5_toneNow_5 : decode cX5_toneNow 5 = .ok (.getfield 12, 3) := by decide +kernel
theorem dX5_toneNow_8 : decode cX5_toneNow 8 = .ok (.invokevirtual 155, 3) := by decide +kernel
theorem dX5_toneNow_11 : decode cX5_toneNow 11 = .ok (.aload_n 0, 1) := by decide +kernel
theorem dX5_toneNow_12 : decode cX5_toneNow 12 = .ok (.getfield 29, 3) := by decide +kernel
theorem dX5_toneNow_15 : decode cX5_toneNow 15 = .ok (.aload_n 0, 1) := by decide +kernel
theorem dX5_toneNow_16 : decode cX5_toneNow 16 = .ok (.getfield 36, 3) := by decide +kernel
theorem dX5_toneNow_19 : decode cX5_toneNow 19 = .ok (.getfield 172, 3) := by decide +kernel
theorem dX5_toneNow_22 : decode cX5_toneNow 22 = .ok (.iload_n 1, 1) := by decide +kernel
theorem dX5_toneNow_23 : decode cX5_toneNow 23 = .ok (.invokestatic 101, 3) := by decide +kernel
theorem dX5_toneNow_26 : decode cX5_toneNow 26 = .ok (.aload_n 0, 1) := by decide +kernel
theorem dX5_toneNow_27 : decode cX5_toneNow 27 = .ok (.getfield 36, 3) := by decide +kernel
theorem dX5_toneNow_30 : decode cX5_toneNow 30 = .ok (.getfield 175, 3) := by decide +kernel
theorem dX5_toneNow_33 : decode cX5_toneNow 33 = .ok (.iload_n 1, 1) := by decide +kernel
theorem dX5_toneNow_34 : decode cX5_toneNow 34 = .ok (.invokestatic 101, 3) := by decide +kernel
theorem dX5_toneNow_37 : decode cX5_toneNow 37 = .ok (.invokevirtual 163, 3) := by decide +kernel
theorem dX5_toneNow_40 : decode cX5_toneNow 40 = .ok (.ireturn, 1) := by decide +kernel
theorem dX5_missOf_0 : decode cX5_missOf 0 = .ok (.iload_n 0, 1) := by decide +kernel
theorem dX5_missOf_1 : decode cX5_missOf 1 = .ok (.iconst (-1), 1) := by decide +kernel
theorem dX5_missOf_2 : decode cX5_missOf 2 = .ok (.if_icmp .ne 9, 3) := by decide +kernel
theorem dX5_missOf_5 : decode cX5_missOf 5 = .ok (.sipush 300, 3) := by decide +kernel
theorem dX5_missOf_8 : decode cX5_missOf 8 = .ok (.goto 9, 3) := by decide +kernel
theorem dX5_missOf_11 : decode cX5_missOf 11 = .ok (.iload_n 0, 1) := by decide +kernel
theorem dX5_missOf_12 : decode cX5_missOf 12 = .ok (.iload_n 1, 1) := by decide +kernel
theorem dX5_missOf_13 : decode cX5_missOf 13 = .ok (.isub, 1) := by decide +kernel
theorem dX5_missOf_14 : decode cX5_missOf 14 = .ok (.invokestatic 226, 3) := by decide +kernel
theorem dX5_missOf_17 : decode cX5_missOf 17 = .ok (.ireturn, 1) := by decide +kernel
set_option maxRecDepth 20000 in
theorem ggX5_rank_X4_cutUp : GoodIn wsX5_rank wsX4_cutUp := goodIn_r _ [16, 17, 18, 19, 20, 21, 22, 9, 10, 11, 23, 24, 25, 26, 27, 28, 29, 30, 31, 32, 33, 34, 35, 36, 37, 38, 39, 40, 41, 42, 43, 44, 45, 46, 47, 48, 49, 50, 51, 52, 53, 54, 55, 56, 57, 58, 59, 60, 61, 62, 116, 117, 118, 119, 120, 121, 122, 123, 124, 125, 126, 127, 128, 129, 130, 131, 132] (by decide +kernel) (by decide +kernel)
set_option maxRecDepth 20000 in
theorem gX5_rank_X4_cutUp : GoodIn wsX5_rank (wsV RX5 155 RX4 yX4_cutUp wsX4_cutUp) := goodIn_app (goodIn_of _ (by decide +kernel)) ggX5_rank_X4_cutUp
set_option maxRecDepth 20000 in
theorem ggX5_rank_X5_at : GoodIn wsX5_rank wsX5_at := goodIn_r _ [44] (by decide +kernel) (by decide +kernel)
set_option maxRecDepth 20000 in
theorem gX5_rank_X5_at : GoodIn wsX5_rank (va_wsS RX5 101 yX5_at wsX5_at) := goodIn_app (goodIn_of _ (by decide +kernel)) ggX5_rank_X5_at
set_option maxRecDepth 20000 in
theorem ggX5_rank_X4_findTone : GoodIn wsX5_rank wsX4_findTone := goodIn_r _ [67, 68, 69, 70, 15, 71, 19, 72, 17, 23, 73, 24, 74, 27, 75, 29, 21, 42, 43, 44, 76, 77, 78, 79, 80, 81, 82, 83, 84, 85, 86, 87, 88, 89, 90, 91, 92, 93, 94, 95, 96, 26, 116, 117, 118, 119, 120, 121, 122, 123] (by decide +kernel) (by decide +kernel)
set_option maxRecDepth 20000 in
theorem gX5_rank_X4_findTone : GoodIn wsX5_rank (wsV RX5 163 RX4 yX4_findTone wsX4_findTone) := goodIn_app (goodIn_of _ (by decide +kernel)) ggX5_rank_X4_findTone
set_option maxRecDepth 20000 in
theorem ggX5_rank_X5_missOf : GoodIn wsX5_rank wsX5_missOf := goodIn_r _ [99, 100, 101, 10, 102] (by decide +kernel) (by decide +kernel)
set_option maxRecDepth 20000 in
theorem gX5_rank_X5_missOf : GoodIn wsX5_rank (va_wsS RX5 166 yX5_missOf wsX5_missOf) := goodIn_app (goodIn_of _ (by decide +kernel)) ggX5_rank_X5_missOf
theorem dX5_rank_0 : decode cX5_rank 0 = .ok (.aload_n 0, 1) := by decide +kernel
theorem dX5_rank_1 : decode cX5_rank 1 = .ok (.getfield 29, 3) := by decide +kernel
theorem dX5_rank_4 : decode cX5_rank 4 = .ok (.aload_n 0, 1) := by decide +kernel
theorem dX5_rank_5 : decode cX5_rank 5 = .ok (.getfield 12, 3) := by decide +kernel
theorem dX5_rank_8 : decode cX5_rank 8 = .ok (.invokevirtual 155, 3) := by decide +kernel
theorem dX5_rank_11 : decode cX5_rank 11 = .ok (.iconst 0, 1) := by decide +kernel
theorem dX5_rank_12 : decode cX5_rank 12 = .ok (.istore_n 2, 1) := by decide +kernel
theorem dX5_rank_13 : decode cX5_rank 13 = .ok (.iconst 0, 1) := by decide +kernel
theorem dX5_rank_14 : decode cX5_rank 14 = .ok (.istore_n 3, 1) := by decide +kernel
theorem dX5_rank_15 : decode cX5_rank 15 = .ok (.iconst 0, 1) := by decide +kernel
theorem dX5_rank_16 : decode cX5_rank 16 = .ok (.istore 4, 2) := by decide +kernel
theorem dX5_rank_18 : decode cX5_rank 18 = .ok (.iload 4, 2) := by decide +kernel
theorem dX5_rank_20 : decode cX5_rank 20 = .ok (.aload_n 0, 1) := by decide +kernel
theorem dX5_rank_21 : decode cX5_rank 21 = .ok (.getfield 36, 3) := by decide +kernel
theorem dX5_rank_24 : decode cX5_rank 24 = .ok (.getfield 121, 3) := by decide +kernel
theorem dX5_rank_27 : decode cX5_rank 27 = .ok (.if_icmp .ge 84, 3) := by decide +kernel
theorem dX5_rank_30 : decode cX5_rank 30 = .ok (.iload_n 2, 1) := by decide +kernel
theorem dX5_rank_31 : decode cX5_rank 31 = .ok (.sipush 1801, 3) := by decide +kernel
theorem dX5_rank_34 : decode cX5_rank 34 = .ok (.imul, 1) := by decide +kernel
theorem dX5_rank_35 : decode cX5_rank 35 = .ok (.iload_n 3, 1) := by decide +kernel
theorem dX5_rank_36 : decode cX5_rank 36 = .ok (.iadd, 1) := by decide +kernel
theorem dX5_rank_37 : decode cX5_rank 37 = .ok (.iload_n 1, 1) := by decide +kernel
theorem dX5_rank_38 : decode cX5_rank 38 = .ok (.if_icmp .ge 73, 3) := by decide +kernel
theorem dX5_rank_41 : decode cX5_rank 41 = .ok (.aload_n 0, 1) := by decide +kernel
theorem dX5_rank_42 : decode cX5_rank 42 = .ok (.getfield 29, 3) := by decide +kernel
theorem dX5_rank_45 : decode cX5_rank 45 = .ok (.aload_n 0, 1) := by decide +kernel
theorem dX5_rank_46 : decode cX5_rank 46 = .ok (.getfield 36, 3) := by decide +kernel
theorem dX5_rank_49 : decode cX5_rank 49 = .ok (.getfield 172, 3) := by decide +kernel
theorem dX5_rank_52 : decode cX5_rank 52 = .ok (.iload 4, 2) := by decide +kernel
theorem dX5_rank_54 : decode cX5_rank 54 = .ok (.invokestatic 101, 3) := by decide +kernel
theorem dX5_rank_57 : decode cX5_rank 57 = .ok (.aload_n 0, 1) := by decide +kernel
theorem dX5_rank_58 : decode cX5_rank 58 = .ok (.getfield 36, 3) := by decide +kernel
theorem dX5_rank_61 : decode cX5_rank 61 = .ok (.getfield 175, 3) := by decide +kernel
theorem dX5_rank_64 : decode cX5_rank 64 = .ok (.iload 4, 2) := by decide +kernel
theorem dX5_rank_66 : decode cX5_rank 66 = .ok (.invokestatic 101, 3) := by decide +kernel
theorem dX5_rank_69 : decode cX5_rank 69 = .ok (.invokevirtual 163, 3) := by decide +kernel
theorem dX5_rank_72 : decode cX5_rank 72 = .ok (.istore 5, 2) := by decide +kernel
theorem dX5_rank_74 : decode cX5_rank 74 = .ok (.iload 5, 2) := by decide +kernel
theorem dX5_rank_76 : decode cX5_rank 76 = .ok (.aload_n 0, 1) := by decide +kernel
theorem dX5_rank_77 : decode cX5_rank 77 = .ok (.getfield 36, 3) := by decide +kernel
theorem dX5_rank_80 : decode cX5_rank 80 = .ok (.getfield 178, 3) := by decide +kernel
theorem dX5_rank_83 : decode cX5_rank 83 = .ok (.iload 4, 2) := by decide +kernel
theorem dX5_rank_85 : decode cX5_rank 85 = .ok (.invokestatic 101, 3) := by decide +kernel
theorem dX5_rank_88 : decode cX5_rank 88 = .ok (.invokestatic 166, 3) := by decide +kernel
theorem dX5_rank_91 : decode cX5_rank 91 = .ok (.istore 6, 2) := by decide +kernel
theorem dX5_rank_93 : decode cX5_rank 93 = .ok (.iload_n 2, 1) := by decide +kernel
theorem dX5_rank_94 : decode cX5_rank 94 = .ok (.iload 6, 2) := by decide +kernel
theorem dX5_rank_96 : decode cX5_rank 96 = .ok (.invokestatic 231, 3) := by decide +kernel
theorem dX5_rank_99 : decode cX5_rank 99 = .ok (.istore_n 2, 1) := by decide +kernel
theorem dX5_rank_100 : decode cX5_rank 100 = .ok (.iload_n 3, 1) := by decide +kernel
theorem dX5_rank_101 : decode cX5_rank 101 = .ok (.iload 6, 2) := by decide +kernel
theorem dX5_rank_103 : decode cX5_rank 103 = .ok (.iadd, 1) := by decide +kernel
theorem dX5_rank_104 : decode cX5_rank 104 = .ok (.istore_n 3, 1) := by decide +kernel
theorem dX5_rank_105 : decode cX5_rank 105 = .ok (.iinc 4 1, 3) := by decide +kernel
theorem dX5_rank_108 : decode cX5_rank 108 = .ok (.goto (-90), 3) := by decide +kernel
theorem dX5_rank_111 : decode cX5_rank 111 = .ok (.iload_n 2, 1) := by decide +kernel
theorem dX5_rank_112 : decode cX5_rank 112 = .ok (.sipush 1801, 3) := by decide +kernel
theorem dX5_rank_115 : decode cX5_rank 115 = .ok (.imul, 1) := by decide +kernel
theorem dX5_rank_116 : decode cX5_rank 116 = .ok (.iload_n 3, 1) := by decide +kernel
theorem dX5_rank_117 : decode cX5_rank 117 = .ok (.iadd, 1) := by decide +kernel
theorem dX5_rank_118 : decode cX5_rank 118 = .ok (.ireturn, 1) := by decide +kernel
set_option maxRecDepth 20000 in
theorem ggX5_tryMove_X2_ofHole : GoodIn wsX5_tryMove wsX2_ofHole := goodIn_r _ [8, 9, 10, 11, 7, 12, 13, 14, 15, 16, 17, 18, 145, 146, 147, 148, 149, 150, 151, 152, 153] (by decide +kernel) (by decide +kernel)
set_option maxRecDepth 20000 in
theorem gX5_tryMove_X2_ofHole : GoodIn wsX5_tryMove (wsV RX5 105 RX2 yX2_ofHole wsX2_ofHole) := goodIn_app (goodIn_of _ (by decide +kernel)) ggX5_tryMove_X2_ofHole
set_option maxRecDepth 20000 in
theorem ggX5_tryMove_X2_changeHole : GoodIn wsX5_tryMove wsX2_changeHole := goodIn_r _ [22, 9, 10, 11, 7, 12, 13, 14, 15, 23, 17, 24, 145, 146, 147, 148, 149, 150, 151, 152, 153] (by decide +kernel) (by decide +kernel)
set_option maxRecDepth 20000 in
theorem gX5_tryMove_X2_changeHole : GoodIn wsX5_tryMove (wsV RX5 109 RX2 yX2_changeHole wsX2_changeHole) := goodIn_app (goodIn_of _ (by decide +kernel)) ggX5_tryMove_X2_changeHole
set_option maxRecDepth 20000 in
theorem ggX5_tryMove_X5_rank : GoodIn wsX5_tryMove wsX5_rank := goodIn_r _ [28, 29, 1, 30, 31, 32, 33, 34, 35, 36, 37, 38, 39, 40, 41, 42, 43, 44, 45, 46, 47, 48, 49, 50, 51, 52, 53, 54, 55, 56, 57, 58, 59, 60, 7, 61, 62, 63, 64, 65, 66, 67, 16, 17, 18, 68, 69, 70, 71, 72, 73, 74, 75, 76, 77, 13, 78, 79, 80, 81, 82, 23, 24, 83, 84, 85, 86, 87, 88, 89, 90, 91, 92, 93, 94, 95, 96, 97, 98, 99, 100, 101, 102, 103, 104, 105, 106, 107, 108, 109, 110, 111, 112, 113, 114, 115, 116, 117, 118, 119, 120, 121, 122, 132, 133, 134, 135, 136, 137, 138, 139, 140, 154, 155, 156, 157, 158, 159, 160, 161, 162, 163, 164, 165, 145, 146, 147, 148, 149, 150, 151, 152, 153] (by decide +kernel) (by decide +kernel)
set_option maxRecDepth 20000 in
theorem gX5_tryMove_X5_rank : GoodIn wsX5_tryMove (wsV RX5 143 RX5 yX5_rank wsX5_rank) := goodIn_app (goodIn_of _ (by decide +kernel)) ggX5_tryMove_X5_rank
set_option maxRecDepth 20000 in
theorem ggX5_tryMove_X0_take : GoodIn wsX5_tryMove wsX0_take := goodIn_r _ [127, 128, 129, 130, 131, 141, 142, 143, 144] (by decide +kernel) (by decide +kernel)
set_option maxRecDepth 20000 in
theorem gX5_tryMove_X0_take : GoodIn wsX5_tryMove (wsV RX5 236 RX0 yX0_take wsX0_take) := goodIn_app (goodIn_of _ (by decide +kernel)) ggX5_tryMove_X0_take
theorem dX5_tryMove_0 : decode cX5_tryMove 0 = .ok (.iload_n 3, 1) := by decide +kernel
theorem dX5_tryMove_1 : decode cX5_tryMove 1 = .ok (.iconst (-1), 1) := by decide +kernel
theorem dX5_tryMove_2 : decode cX5_tryMove 2 = .ok (.if_icmp .ne 4, 3) := by decide +kernel
theorem dX5_tryMove_5 : decode cX5_tryMove 5 = .ok (.return_, 1) := by decide +kernel
theorem dX5_tryMove_6 : decode cX5_tryMove 6 = .ok (.aload_n 0, 1) := by decide +kernel
theorem dX5_tryMove_7 : decode cX5_tryMove 7 = .ok (.getfield 12, 3) := by decide +kernel
theorem dX5_tryMove_10 : decode cX5_tryMove 10 = .ok (.iload_n 1, 1) := by decide +kernel
theorem dX5_tryMove_11 : decode cX5_tryMove 11 = .ok (.iload_n 2, 1) := by decide +kernel
theorem dX5_tryMove_12 : decode cX5_tryMove 12 = .ok (.invokevirtual 105, 3) := by decide +kernel
theorem dX5_tryMove_15 : decode cX5_tryMove 15 = .ok (.istore 4, 2) := by decide +kernel
theorem dX5_tryMove_17 : decode cX5_tryMove 17 = .ok (.aload_n 0, 1) := by decide +kernel
theorem dX5_tryMove_18 : decode cX5_tryMove 18 = .ok (.getfield 12, 3) := by decide +kernel
theorem dX5_tryMove_21 : decode cX5_tryMove 21 = .ok (.iload_n 1, 1) := by decide +kernel
theorem dX5_tryMove_22 : decode cX5_tryMove 22 = .ok (.iload_n 2, 1) := by decide +kernel
theorem dX5_tryMove_23 : decode cX5_tryMove 23 = .ok (.iload_n 3, 1) := by decide +kernel
theorem dX5_tryMove_24 : decode cX5_tryMove 24 = .ok (.invokevirtual 109, 3) := by decide +kernel
theorem dX5_tryMove_27 : decode cX5_tryMove 27 = .ok (.aload_n 0, 1) := by decide +kernel
theorem dX5_tryMove_28 : decode cX5_tryMove 28 = .ok (.aload_n 0, 1) := by decide +kernel
theorem dX5_tryMove_29 : decode cX5_tryMove 29 = .ok (.getfield 43, 3) := by decide +kernel
theorem dX5_tryMove_32 : decode cX5_tryMove 32 = .ok (.getfield 234, 3) := by decide +kernel
theorem dX5_tryMove_35 : decode cX5_tryMove 35 = .ok (.invokevirtual 143, 3) := by decide +kernel
theorem dX5_tryMove_38 : decode cX5_tryMove 38 = .ok (.istore 5, 2) := by decide +kernel
theorem dX5_tryMove_40 : decode cX5_tryMove 40 = .ok (.aload_n 0, 1) := by decide +kernel
theorem dX5_tryMove_41 : decode cX5_tryMove 41 = .ok (.getfield 12, 3) := by decide +kernel
theorem dX5_tryMove_44 : decode cX5_tryMove 44 = .ok (.iload_n 1, 1) := by decide +kernel
theorem dX5_tryMove_45 : decode cX5_tryMove 45 = .ok (.iload_n 2, 1) := by decide +kernel
theorem dX5_tryMove_46 : decode cX5_tryMove 46 = .ok (.iload 4, 2) := by decide +kernel
theorem dX5_tryMove_48 : decode cX5_tryMove 48 = .ok (.invokevirtual 109, 3) := by decide +kernel
theorem dX5_tryMove_51 : decode cX5_tryMove 51 = .ok (.iload 5, 2) := by decide +kernel
theorem dX5_tryMove_53 : decode cX5_tryMove 53 = .ok (.aload_n 0, 1) := by decide +kernel
theorem dX5_tryMove_54 : decode cX5_tryMove 54 = .ok (.getfield 43, 3) := by decide +kernel
theorem dX5_tryMove_57 : decode cX5_tryMove 57 = .ok (.getfield 234, 3) := by decide +kernel
theorem dX5_tryMove_60 : decode cX5_tryMove 60 = .ok (.if_icmp .ge 15, 3) := by decide +kernel
theorem dX5_tryMove_63 : decode cX5_tryMove 63 = .ok (.aload_n 0, 1) := by decide +kernel
theorem dX5_tryMove_64 : decode cX5_tryMove 64 = .ok (.getfield 43, 3) := by decide +kernel
theorem dX5_tryMove_67 : decode cX5_tryMove 67 = .ok (.iload 5, 2) := by decide +kernel
theorem dX5_tryMove_69 : decode cX5_tryMove 69 = .ok (.iload_n 1, 1) := by decide +kernel
theorem dX5_tryMove_70 : decode cX5_tryMove 70 = .ok (.iload_n 2, 1) := by decide +kernel
theorem dX5_tryMove_71 : decode cX5_tryMove 71 = .ok (.iload_n 3, 1) := by decide +kernel
theorem dX5_tryMove_72 : decode cX5_tryMove 72 = .ok (.invokevirtual 236, 3) := by decide +kernel
theorem dX5_tryMove_75 : decode cX5_tryMove 75 = .ok (.return_, 1) := by decide +kernel
set_option maxRecDepth 20000 in
theorem ggX5_placeMoved_X5_at : GoodIn wsX5_placeMoved wsX5_at := goodIn_r _ [7] (by decide +kernel) (by decide +kernel)
set_option maxRecDepth 20000 in
theorem gX5_placeMoved_X5_at : GoodIn wsX5_placeMoved (va_wsS RX5 101 yX5_at wsX5_at) := goodIn_app (goodIn_of _ (by decide +kernel)) ggX5_placeMoved_X5_at
set_option maxRecDepth 20000 in
theorem ggX5_placeMoved_X5_mayBe : GoodIn wsX5_placeMoved wsX5_mayBe := goodIn_r _ [11, 1, 12, 13, 14, 15, 16, 17, 18, 19, 20, 21, 22, 5, 6, 7, 23, 24, 25, 36, 37, 38, 39, 40, 41, 42, 43, 44, 45, 46, 47, 48, 49, 50, 51, 52, 53] (by decide +kernel) (by decide +kernel)
set_option maxRecDepth 20000 in
theorem gX5_placeMoved_X5_mayBe : GoodIn wsX5_placeMoved (wsV RX5 83 RX5 yX5_mayBe wsX5_mayBe) := goodIn_app (goodIn_of _ (by decide +kernel)) ggX5_placeMoved_X5_mayBe
set_option maxRecDepth 20000 in
theorem ggX5_placeMoved_X2_holeAt : GoodIn wsX5_placeMoved wsX2_holeAt := goodIn_r _ [29, 30, 31, 5, 6, 7, 45, 46, 47, 48, 49, 50, 51, 52, 53] (by decide +kernel) (by decide +kernel)
set_option maxRecDepth 20000 in
theorem gX5_placeMoved_X2_holeAt : GoodIn wsX5_placeMoved (wsV RX5 86 RX2 yX2_holeAt wsX2_holeAt) := goodIn_app (goodIn_of _ (by decide +kernel)) ggX5_placeMoved_X2_holeAt
set_option maxRecDepth 20000 in
theorem ggX5_placeMoved_X2_gap : GoodIn wsX5_placeMoved wsX2_gap := goodIn_r _ [35, 30, 31, 5, 6, 7, 45, 46, 47, 48, 49, 50, 51, 52, 53] (by decide +kernel) (by decide +kernel)
set_option maxRecDepth 20000 in
theorem gX5_placeMoved_X2_gap : GoodIn wsX5_placeMoved (wsV RX5 240 RX2 yX2_gap wsX2_gap) := goodIn_app (goodIn_of _ (by decide +kernel)) ggX5_placeMoved_X2_gap
theorem dX5_placeMoved_0 : decode cX5_placeMoved 0 = .ok (.aload_n 0, 1) := by decide +kernel
theorem dX5_placeMoved_1 : decode cX5_placeMoved 1 = .ok (.getfield 12, 3) := by decide +kernel
theorem dX5_placeMoved_4 : decode cX5_placeMoved 4 = .ok (.getfield 97, 3) := by decide +kernel
theorem dX5_placeMoved_7 : decode cX5_placeMoved 7 = .ok (.iload_n 1, 1) := by decide +kernel
theorem dX5_placeMoved_8 : decode cX5_placeMoved 8 = .ok (.invokestatic 101, 3) := by decide +kernel
theorem dX5_placeMoved_11 : decode cX5_placeMoved 11 = .ok (.iload_n 2, 1) := by decide +kernel
theorem dX5_placeMoved_12 : decode cX5_placeMoved 12 = .ok (.iadd, 1) := by decide +kernel
theorem dX5_placeMoved_13 : decode cX5_placeMoved 13 = .ok (.istore_n 3, 1) := by decide +kernel
theorem dX5_placeMoved_14 : decode cX5_placeMoved 14 = .ok (.aload_n 0, 1) := by decide +kernel
theorem dX5_placeMoved_15 : decode cX5_placeMoved 15 = .ok (.iconst 0, 1) := by decide +kernel
theorem dX5_placeMoved_16 : decode cX5_placeMoved 16 = .ok (.iload_n 3, 1) := by decide +kernel
theorem dX5_placeMoved_17 : decode cX5_placeMoved 17 = .ok (.invokevirtual 83, 3) := by decide +kernel
theorem dX5_placeMoved_20 : decode cX5_placeMoved 20 = .ok (.ifCond .eq 15, 3) := by decide +kernel
theorem dX5_placeMoved_23 : decode cX5_placeMoved 23 = .ok (.aload_n 0, 1) := by decide +kernel
theorem dX5_placeMoved_24 : decode cX5_placeMoved 24 = .ok (.getfield 12, 3) := by decide +kernel
theorem dX5_placeMoved_27 : decode cX5_placeMoved 27 = .ok (.iload_n 3, 1) := by decide +kernel
theorem dX5_placeMoved_28 : decode cX5_placeMoved 28 = .ok (.invokevirtual 86, 3) := by decide +kernel
theorem dX5_placeMoved_31 : decode cX5_placeMoved 31 = .ok (.iconst (-1), 1) := by decide +kernel
theorem dX5_placeMoved_32 : decode cX5_placeMoved 32 = .ok (.if_icmp .eq 5, 3) := by decide +kernel
theorem dX5_placeMoved_35 : decode cX5_placeMoved 35 = .ok (.iconst (-1), 1) := by decide +kernel
theorem dX5_placeMoved_36 : decode cX5_placeMoved 36 = .ok (.ireturn, 1) := by decide +kernel
theorem dX5_placeMoved_37 : decode cX5_placeMoved 37 = .ok (.aload_n 0, 1) := by decide +kernel
theorem dX5_placeMoved_38 : decode cX5_placeMoved 38 = .ok (.getfield 12, 3) := by decide +kernel
theorem dX5_placeMoved_41 : decode cX5_placeMoved 41 = .ok (.iload_n 1, 1) := by decide +kernel
theorem dX5_placeMoved_42 : decode cX5_placeMoved 42 = .ok (.iload_n 2, 1) := by decide +kernel
theorem dX5_placeMoved_43 : decode cX5_placeMoved 43 = .ok (.invokevirtual 240, 3) := by decide +kernel
theorem dX5_placeMoved_46 : decode cX5_placeMoved 46 = .ok (.aload_n 0, 1) := by decide +kernel
theorem dX5_placeMoved_47 : decode cX5_placeMoved 47 = .ok (.getfield 53, 3) := by decide +kernel
theorem dX5_placeMoved_50 : decode cX5_placeMoved 50 = .ok (.if_icmp .ne 7, 3) := by decide +kernel
theorem dX5_placeMoved_53 : decode cX5_placeMoved 53 = .ok (.iconst (-1), 1) := by decide +kernel
theorem dX5_placeMoved_54 : decode cX5_placeMoved 54 = .ok (.goto 4, 3) := by decide +kernel
theorem dX5_placeMoved_57 : decode cX5_placeMoved 57 = .ok (.iload_n 3, 1) := by decide +kernel
theorem dX5_placeMoved_58 : decode cX5_placeMoved 58 = .ok (.ireturn, 1) := by decide +kernel
set_option maxRecDepth 20000 in
theorem ggX5_nextSize_X5_at : GoodIn wsX5_nextSize wsX5_at := goodIn_r _ [7] (by decide +kernel) (by decide +kernel)
set_option maxRecDepth 20000 in
theorem gX5_nextSize_X5_at : GoodIn wsX5_nextSize (va_wsS RX5 101 yX5_at wsX5_at) := goodIn_app (goodIn_of _ (by decide +kernel)) ggX5_nextSize_X5_at
set_option maxRecDepth 20000 in
theorem ggX5_nextSize_X5_within : GoodIn wsX5_nextSize wsX5_within := goodIn_r _ [10] (by decide +kernel) (by decide +kernel)
set_option maxRecDepth 20000 in
theorem gX5_nextSize_X5_within : GoodIn wsX5_nextSize (va_wsS RX5 75 yX5_within wsX5_within) := goodIn_app (goodIn_of _ (by decide +kernel)) ggX5_nextSize_X5_within
theorem dX5_nextSize_0 : decode cX5_nextSize 0 = .ok (.aload_n 0, 1) := by decide +kernel
theorem dX5_nextSize_1 : decode cX5_nextSize 1 = .ok (.getfield 12, 3) := by decide +kernel
theorem dX5_nextSize_4 : decode cX5_nextSize 4 = .ok (.getfield 243, 3) := by decide +kernel
theorem dX5_nextSize_7 : decode cX5_nextSize 7 = .ok (.iload_n 1, 1) := by decide +kernel
theorem dX5_nextSize_8 : decode cX5_nextSize 8 = .ok (.invokestatic 101, 3) := by decide +kernel
theorem dX5_nextSize_11 : decode cX5_nextSize 11 = .ok (.istore_n 3, 1) := by decide +kernel
theorem dX5_nextSize_12 : decode cX5_nextSize 12 = .ok (.iconst 1, 1) := by decide +kernel
theorem dX5_nextSize_13 : decode cX5_nextSize 13 = .ok (.istore 4, 2) := by decide +kernel
theorem dX5_nextSize_15 : decode cX5_nextSize 15 = .ok (.iload 4, 2) := by decide +kernel
theorem dX5_nextSize_17 : decode cX5_nextSize 17 = .ok (.bipush 60, 2) := by decide +kernel
theorem dX5_nextSize_19 : decode cX5_nextSize 19 = .ok (.if_icmp .ge 45, 3) := by decide +kernel
theorem dX5_nextSize_22 : decode cX5_nextSize 22 = .ok (.iload_n 3, 1) := by decide +kernel
theorem dX5_nextSize_23 : decode cX5_nextSize 23 = .ok (.iload 4, 2) := by decide +kernel
theorem dX5_nextSize_25 : decode cX5_nextSize 25 = .ok (.iload_n 2, 1) := by decide +kernel
theorem dX5_nextSize_26 : decode cX5_nextSize 26 = .ok (.imul, 1) := by decide +kernel
theorem dX5_nextSize_27 : decode cX5_nextSize 27 = .ok (.iadd, 1) := by decide +kernel
theorem dX5_nextSize_28 : decode cX5_nextSize 28 = .ok (.istore 5, 2) := by decide +kernel
theorem dX5_nextSize_30 : decode cX5_nextSize 30 = .ok (.iload 5, 2) := by decide +kernel
theorem dX5_nextSize_32 : decode cX5_nextSize 32 = .ok (.iconst 1, 1) := by decide +kernel
theorem dX5_nextSize_33 : decode cX5_nextSize 33 = .ok (.bipush 60, 2) := by decide +kernel
theorem dX5_nextSize_35 : decode cX5_nextSize 35 = .ok (.invokestatic 75, 3) := by decide +kernel
theorem dX5_nextSize_38 : decode cX5_nextSize 38 = .ok (.ifCond .eq 20, 3) := by decide +kernel
theorem dX5_nextSize_41 : decode cX5_nextSize 41 = .ok (.aload_n 0, 1) := by decide +kernel
theorem dX5_nextSize_42 : decode cX5_nextSize 42 = .ok (.getfield 49, 3) := by decide +kernel
theorem dX5_nextSize_45 : decode cX5_nextSize 45 = .ok (.iload 5, 2) := by decide +kernel
theorem dX5_nextSize_47 : decode cX5_nextSize 47 = .ok (.lshr, 1) := by decide +kernel
theorem dX5_nextSize_48 : decode cX5_nextSize 48 = .ok (.lconst 1, 1) := by decide +kernel
theorem dX5_nextSize_49 : decode cX5_nextSize 49 = .ok (.land, 1) := by decide +kernel
theorem dX5_nextSize_50 : decode cX5_nextSize 50 = .ok (.lconst 1, 1) := by decide +kernel
theorem dX5_nextSize_51 : decode cX5_nextSize 51 = .ok (.lcmp, 1) := by decide +kernel
theorem dX5_nextSize_52 : decode cX5_nextSize 52 = .ok (.ifCond .ne 6, 3) := by decide +kernel
theorem dX5_nextSize_55 : decode cX5_nextSize 55 = .ok (.iload 5, 2) := by decide +kernel
theorem dX5_nextSize_57 : decode cX5_nextSize 57 = .ok (.ireturn, 1) := by decide +kernel
theorem dX5_nextSize_58 : decode cX5_nextSize 58 = .ok (.iinc 4 1, 3) := by decide +kernel
theorem dX5_nextSize_61 : decode cX5_nextSize 61 = .ok (.goto (-46), 3) := by decide +kernel
theorem dX5_nextSize_64 : decode cX5_nextSize 64 = .ok (.iconst (-1), 1) := by decide +kernel
theorem dX5_nextSize_65 : decode cX5_nextSize 65 = .ok (.ireturn, 1) := by decide +kernel
theorem dX5_quotient_0 : decode cX5_quotient 0 = .ok (.lload_n 2, 1) := by decide +kernel
theorem dX5_quotient_1 : decode cX5_quotient 1 = .ok (.lconst 0, 1) := by decide +kernel
theorem dX5_quotient_2 : decode cX5_quotient 2 = .ok (.lcmp, 1) := by decide +kernel
theorem dX5_quotient_3 : decode cX5_quotient 3 = .ok (.ifCond .ne 7, 3) := by decide +kernel
theorem dX5_quotient_6 : decode cX5_quotient 6 = .ok (.lconst 0, 1) := by decide +kernel
theorem dX5_quotient_7 : decode cX5_quotient 7 = .ok (.goto 6, 3) := by decide +kernel
theorem dX5_quotient_10 : decode cX5_quotient 10 = .ok (.lload_n 0, 1) := by decide +kernel
theorem dX5_quotient_11 : decode cX5_quotient 11 = .ok (.lload_n 2, 1) := by decide +kernel
theorem dX5_quotient_12 : decode cX5_quotient 12 = .ok (.ldiv, 1) := by decide +kernel
theorem dX5_quotient_13 : decode cX5_quotient 13 = .ok (.lreturn, 1) := by decide +kernel
set_option maxRecDepth 20000 in
theorem ggX5_sineOf_X5_quotient : GoodIn wsX5_sineOf wsX5_quotient := goodIn_r _ [8] (by decide +kernel) (by decide +kernel)
set_option maxRecDepth 20000 in
theorem gX5_sineOf_X5_quotient : GoodIn wsX5_sineOf (va_wsS RX5 79 yX5_quotient wsX5_quotient) := goodIn_app (goodIn_of _ (by decide +kernel)) ggX5_sineOf_X5_quotient
theorem dX5_sineOf_0 : decode cX5_sineOf 0 = .ok (.iload_n 0, 1) := by decide +kernel
theorem dX5_sineOf_1 : decode cX5_sineOf 1 = .ok (.sipush 32767, 3) := by decide +kernel
theorem dX5_sineOf_4 : decode cX5_sineOf 4 = .ok (.iand, 1) := by decide +kernel
theorem dX5_sineOf_5 : decode cX5_sineOf 5 = .ok (.i2l, 1) := by decide +kernel
theorem dX5_sineOf_6 : decode cX5_sineOf 6 = .ok (.lstore_n 1, 1) := by decide +kernel
theorem dX5_sineOf_7 : decode cX5_sineOf 7 = .ok (.lload_n 1, 1) := by decide +kernel
theorem dX5_sineOf_8 : decode cX5_sineOf 8 = .ok (.ldc2_w 246, 3) := by decide +kernel
theorem dX5_sineOf_11 : decode cX5_sineOf 11 = .ok (.lload_n 1, 1) := by decide +kernel
theorem dX5_sineOf_12 : decode cX5_sineOf 12 = .ok (.lsub, 1) := by decide +kernel
theorem dX5_sineOf_13 : decode cX5_sineOf 13 = .ok (.lmul, 1) := by decide +kernel
theorem dX5_sineOf_14 : decode cX5_sineOf 14 = .ok (.lstore_n 3, 1) := by decide +kernel
theorem dX5_sineOf_15 : decode cX5_sineOf 15 = .ok (.ldc2_w 248, 3) := by decide +kernel
theorem dX5_sineOf_18 : decode cX5_sineOf 18 = .ok (.lload_n 3, 1) := by decide +kernel
theorem dX5_sineOf_19 : decode cX5_sineOf 19 = .ok (.lmul, 1) := by decide +kernel
theorem dX5_sineOf_20 : decode cX5_sineOf 20 = .ok (.ldc2_w 250, 3) := by decide +kernel
theorem dX5_sineOf_23 : decode cX5_sineOf 23 = .ok (.lload_n 3, 1) := by decide +kernel
theorem dX5_sineOf_24 : decode cX5_sineOf 24 = .ok (.lsub, 1) := by decide +kernel
theorem dX5_sineOf_25 : decode cX5_sineOf 25 = .ok (.invokestatic 79, 3) := by decide +kernel
theorem dX5_sineOf_28 : decode cX5_sineOf 28 = .ok (.lstore 5, 2) := by decide +kernel
theorem dX5_sineOf_30 : decode cX5_sineOf 30 = .ok (.iload_n 0, 1) := by decide +kernel
theorem dX5_sineOf_31 : decode cX5_sineOf 31 = .ok (.ldc 252, 2) := by decide +kernel
theorem dX5_sineOf_33 : decode cX5_sineOf 33 = .ok (.iand, 1) := by decide +kernel
theorem dX5_sineOf_34 : decode cX5_sineOf 34 = .ok (.ifCond .ne 8, 3) := by decide +kernel
theorem dX5_sineOf_37 : decode cX5_sineOf 37 = .ok (.lload 5, 2) := by decide +kernel
theorem dX5_sineOf_39 : decode cX5_sineOf 39 = .ok (.goto 6, 3) := by decide +kernel
theorem dX5_sineOf_42 : decode cX5_sineOf 42 = .ok (.lload 5, 2) := by decide +kernel
theorem dX5_sineOf_44 : decode cX5_sineOf 44 = .ok (.lneg, 1) := by decide +kernel
theorem dX5_sineOf_45 : decode cX5_sineOf 45 = .ok (.lreturn, 1) := by decide +kernel
theorem dX5_at_0 : decode cX5_at 0 = .ok (.iload_n 1, 1) := by decide +kernel
theorem dX5_at_1 : decode cX5_at 1 = .ok (.ifCond .lt 15, 3) := by decide +kernel
theorem dX5_at_4 : decode cX5_at 4 = .ok (.iload_n 1, 1) := by decide +kernel
theorem dX5_at_5 : decode cX5_at 5 = .ok (.aload_n 0, 1) := by decide +kernel
theorem dX5_at_6 : decode cX5_at 6 = .ok (.arraylength, 1) := by decide +kernel
theorem dX5_at_7 : decode cX5_at 7 = .ok (.if_icmp .ge 9, 3) := by decide +kernel
theorem dX5_at_10 : decode cX5_at 10 = .ok (.aload_n 0, 1) := by decide +kernel
theorem dX5_at_11 : decode cX5_at 11 = .ok (.iload_n 1, 1) := by decide +kernel
theorem dX5_at_12 : decode cX5_at 12 = .ok (.iaload, 1) := by decide +kernel
theorem dX5_at_13 : decode cX5_at 13 = .ok (.goto 4, 3) := by decide +kernel
theorem dX5_at_16 : decode cX5_at 16 = .ok (.iconst 0, 1) := by decide +kernel
theorem dX5_at_17 : decode cX5_at 17 = .ok (.ireturn, 1) := by decide +kernel
theorem dX5_put_0 : decode cX5_put 0 = .ok (.iload_n 1, 1) := by decide +kernel
theorem dX5_put_1 : decode cX5_put 1 = .ok (.ifCond .lt 13, 3) := by decide +kernel
theorem dX5_put_4 : decode cX5_put 4 = .ok (.iload_n 1, 1) := by decide +kernel
theorem dX5_put_5 : decode cX5_put 5 = .ok (.aload_n 0, 1) := by decide +kernel
theorem dX5_put_6 : decode cX5_put 6 = .ok (.arraylength, 1) := by decide +kernel
theorem dX5_put_7 : decode cX5_put 7 = .ok (.if_icmp .ge 7, 3) := by decide +kernel
theorem dX5_put_10 : decode cX5_put 10 = .ok (.aload_n 0, 1) := by decide +kernel
theorem dX5_put_11 : decode cX5_put 11 = .ok (.iload_n 1, 1) := by decide +kernel
theorem dX5_put_12 : decode cX5_put 12 = .ok (.iload_n 2, 1) := by decide +kernel
theorem dX5_put_13 : decode cX5_put 13 = .ok (.iastore, 1) := by decide +kernel
theorem dX5_put_14 : decode cX5_put 14 = .ok (.return_, 1) := by decide +kernel
set_option maxRecDepth 20000 in
theorem ggX5_copyRow_X5_at : GoodIn wsX5_copyRow wsX5_at := goodIn_r _ [4] (by decide +kernel) (by decide +kernel)
set_option maxRecDepth 20000 in
theorem gX5_copyRow_X5_at : GoodIn wsX5_copyRow (va_wsS RX5 101 yX5_at wsX5_at) := goodIn_app (goodIn_of _ (by decide +kernel)) ggX5_copyRow_X5_at
set_option maxRecDepth 20000 in
theorem ggX5_copyRow_X5_put : GoodIn wsX5_copyRow wsX5_put := goodIn_r _ [7] (by decide +kernel) (by decide +kernel)
set_option maxRecDepth 20000 in
theorem gX5_copyRow_X5_put : GoodIn wsX5_copyRow (va_wsS RX5 253 yX5_put wsX5_put) := goodIn_app (goodIn_of _ (by decide +kernel)) ggX5_copyRow_X5_put
theorem dX5_copyRow_0 : decode cX5_copyRow 0 = .ok (.iconst 0, 1) := by decide +kernel
theorem dX5_copyRow_1 : decode cX5_copyRow 1 = .ok (.istore_n 2, 1) := by decide +kernel
theorem dX5_copyRow_2 : decode cX5_copyRow 2 = .ok (.iload_n 2, 1) := by decide +kernel
theorem dX5_copyRow_3 : decode cX5_copyRow 3 = .ok (.aload_n 0, 1) := by decide +kernel
theorem dX5_copyRow_4 : decode cX5_copyRow 4 = .ok (.arraylength, 1) := by decide +kernel
theorem dX5_copyRow_5 : decode cX5_copyRow 5 = .ok (.if_icmp .ge 19, 3) := by decide +kernel
theorem dX5_copyRow_8 : decode cX5_copyRow 8 = .ok (.aload_n 1, 1) := by decide +kernel
theorem dX5_copyRow_9 : decode cX5_copyRow 9 = .ok (.iload_n 2, 1) := by decide +kernel
theorem dX5_copyRow_10 : decode cX5_copyRow 10 = .ok (.aload_n 0, 1) := by decide +kernel
theorem dX5_copyRow_11 : decode cX5_copyRow 11 = .ok (.iload_n 2, 1) := by decide +kernel
theorem dX5_copyRow_12 : decode cX5_copyRow 12 = .ok (.invokestatic 101, 3) := by decide +kernel
theorem dX5_copyRow_15 : decode cX5_copyRow 15 = .ok (.invokestatic 253, 3) := by decide +kernel
theorem dX5_copyRow_18 : decode cX5_copyRow 18 = .ok (.iinc 2 1, 3) := by decide +kernel
theorem dX5_copyRow_21 : decode cX5_copyRow 21 = .ok (.goto (-19), 3) := by decide +kernel
theorem dX5_copyRow_24 : decode cX5_copyRow 24 = .ok (.return_, 1) := by decide +kernel
set_option maxRecDepth 20000 in
theorem ggX5_rowDifferences_X5_at : GoodIn wsX5_rowDifferences wsX5_at := goodIn_r _ [11] (by decide +kernel) (by decide +kernel)
set_option maxRecDepth 20000 in
theorem gX5_rowDifferences_X5_at : GoodIn wsX5_rowDifferences (va_wsS RX5 101 yX5_at wsX5_at) := goodIn_app (goodIn_of _ (by decide +kernel)) ggX5_rowDifferences_X5_at
theorem dX5_rowDifferences_0 : decode cX5_rowDifferences 0 = .ok (.iload_n 1, 1) := by decide +kernel
theorem dX5_rowDifferences_1 : decode cX5_rowDifferences 1 = .ok (.iload_n 3, 1) := by decide +kernel
theorem dX5_rowDifferences_2 : decode cX5_rowDifferences 2 = .ok (.invokestatic 257, 3) := by decide +kernel
theorem dX5_rowDifferences_5 : decode cX5_rowDifferences 5 = .ok (.istore 4, 2) := by decide +kernel
theorem dX5_rowDifferences_7 : decode cX5_rowDifferences 7 = .ok (.iload_n 1, 1) := by decide +kernel
theorem dX5_rowDifferences_8 : decode cX5_rowDifferences 8 = .ok (.iload_n 3, 1) := by decide +kernel
theorem dX5_rowDifferences_9 : decode cX5_rowDifferences 9 = .ok (.invokestatic 231, 3) := by decide +kernel
theorem dX5_rowDifferences_12 : decode cX5_rowDifferences 12 = .ok (.iload 4, 2) := by decide +kernel
theorem dX5_rowDifferences_14 : decode cX5_rowDifferences 14 = .ok (.isub, 1) := by decide +kernel
theorem dX5_rowDifferences_15 : decode cX5_rowDifferences 15 = .ok (.istore 5, 2) := by decide +kernel
theorem dX5_rowDifferences_17 : decode cX5_rowDifferences 17 = .ok (.iconst 0, 1) := by decide +kernel
theorem dX5_rowDifferences_18 : decode cX5_rowDifferences 18 = .ok (.istore 6, 2) := by decide +kernel
theorem dX5_rowDifferences_20 : decode cX5_rowDifferences 20 = .ok (.iload 6, 2) := by decide +kernel
theorem dX5_rowDifferences_22 : decode cX5_rowDifferences 22 = .ok (.iload 4, 2) := by decide +kernel
theorem dX5_rowDifferences_24 : decode cX5_rowDifferences 24 = .ok (.if_icmp .ge 27, 3) := by decide +kernel
theorem dX5_rowDifferences_27 : decode cX5_rowDifferences 27 = .ok (.aload_n 0, 1) := by decide +kernel
theorem dX5_rowDifferences_28 : decode cX5_rowDifferences 28 = .ok (.iload 6, 2) := by decide +kernel
theorem dX5_rowDifferences_30 : decode cX5_rowDifferences 30 = .ok (.invokestatic 101, 3) := by decide +kernel
theorem dX5_rowDifferences_33 : decode cX5_rowDifferences 33 = .ok (.aload_n 2, 1) := by decide +kernel
theorem dX5_rowDifferences_34 : decode cX5_rowDifferences 34 = .ok (.iload 6, 2) := by decide +kernel
theorem dX5_rowDifferences_36 : decode cX5_rowDifferences 36 = .ok (.invokestatic 101, 3) := by decide +kernel
theorem dX5_rowDifferences_39 : decode cX5_rowDifferences 39 = .ok (.if_icmp .eq 6, 3) := by decide +kernel
theorem dX5_rowDifferences_42 : decode cX5_rowDifferences 42 = .ok (.iinc 5 1, 3) := by decide +kernel
theorem dX5_rowDifferences_45 : decode cX5_rowDifferences 45 = .ok (.iinc 6 1, 3) := by decide +kernel
theorem dX5_rowDifferences_48 : decode cX5_rowDifferences 48 = .ok (.goto (-28), 3) := by decide +kernel
theorem dX5_rowDifferences_51 : decode cX5_rowDifferences 51 = .ok (.iload 5, 2) := by decide +kernel
theorem dX5_rowDifferences_53 : decode cX5_rowDifferences 53 = .ok (.ireturn, 1) := by decide +kernel
