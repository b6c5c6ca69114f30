theorem dX0_init_0 : decode cX0_init 0 = .ok (.aload_n 0, 1) := by decide +kernel
theorem dX0_init_1 : decode cX0_init 1 = .ok (.invokespecial 3, 3) := by decide +kernel
theorem dX0_init_4 : decode cX0_init 4 = .ok (.aload_n 0, 1) := by decide +kernel
theorem dX0_init_5 : decode cX0_init 5 = .ok (.iconst 0, 1) := by decide +kernel
theorem dX0_init_6 : decode cX0_init 6 = .ok (.putfield 9, 3) := by decide +kernel
theorem dX0_init_9 : decode cX0_init 9 = .ok (.aload_n 0, 1) := by decide +kernel
theorem dX0_init_10 : decode cX0_init 10 = .ok (.iconst (-1), 1) := by decide +kernel
theorem dX0_init_11 : decode cX0_init 11 = .ok (.putfield 15, 3) := by decide +kernel
theorem dX0_init_14 : decode cX0_init 14 = .ok (.aload_n 0, 1) := by decide +kernel
theorem dX0_init_15 : decode cX0_init 15 = .ok (.iconst 0, 1) := by decide +kernel
theorem dX0_init_16 : decode cX0_init 16 = .ok (.putfield 18, 3) := by decide +kernel
theorem dX0_init_19 : decode cX0_init 19 = .ok (.aload_n 0, 1) := by decide +kernel
theorem dX0_init_20 : decode cX0_init 20 = .ok (.iconst 0, 1) := by decide +kernel
theorem dX0_init_21 : decode cX0_init 21 = .ok (.putfield 21, 3) := by decide +kernel
theorem dX0_init_24 : decode cX0_init 24 = .ok (.return_, 1) := by decide +kernel
theorem dX0_none_0 : decode cX0_none 0 = .ok (.aload_n 0, 1) := by decide +kernel
theorem dX0_none_1 : decode cX0_none 1 = .ok (.iload_n 1, 1) := by decide +kernel
theorem dX0_none_2 : decode cX0_none 2 = .ok (.putfield 9, 3) := by decide +kernel
theorem dX0_none_5 : decode cX0_none 5 = .ok (.aload_n 0, 1) := by decide +kernel
theorem dX0_none_6 : decode cX0_none 6 = .ok (.iconst (-1), 1) := by decide +kernel
theorem dX0_none_7 : decode cX0_none 7 = .ok (.putfield 15, 3) := by decide +kernel
theorem dX0_none_10 : decode cX0_none 10 = .ok (.return_, 1) := by decide +kernel
theorem dX0_take_0 : decode cX0_take 0 = .ok (.aload_n 0, 1) := by decide +kernel
theorem dX0_take_1 : decode cX0_take 1 = .ok (.iload_n 1, 1) := by decide +kernel
theorem dX0_take_2 : decode cX0_take 2 = .ok (.putfield 9, 3) := by decide +kernel
theorem dX0_take_5 : decode cX0_take 5 = .ok (.aload_n 0, 1) := by decide +kernel
theorem dX0_take_6 : decode cX0_take 6 = .ok (.iload_n 2, 1) := by decide +kernel
theorem dX0_take_7 : decode cX0_take 7 = .ok (.putfield 15, 3) := by decide +kernel
theorem dX0_take_10 : decode cX0_take 10 = .ok (.aload_n 0, 1) := by decide +kernel
theorem dX0_take_11 : decode cX0_take 11 = .ok (.iload_n 3, 1) := by decide +kernel
theorem dX0_take_12 : decode cX0_take 12 = .ok (.putfield 18, 3) := by decide +kernel
theorem dX0_take_15 : decode cX0_take 15 = .ok (.aload_n 0, 1) := by decide +kernel
theorem dX0_take_16 : decode cX0_take 16 = .ok (.iload 4, 2) := by decide +kernel
theorem dX0_take_18 : decode cX0_take 18 = .ok (.putfield 21, 3) := by decide +kernel
theorem dX0_take_21 : decode cX0_take 21 = .ok (.return_, 1) := by decide +kernel
theorem dX1_init_0 : decode cX1_init 0 = .ok (.aload_n 0, 1) := by decide +kernel
theorem dX1_init_1 : decode cX1_init 1 = .ok (.invokespecial 3, 3) := by decide +kernel
theorem dX1_init_4 : decode cX1_init 4 = .ok (.aload_n 0, 1) := by decide +kernel
theorem dX1_init_5 : decode cX1_init 5 = .ok (.bipush 6, 2) := by decide +kernel
theorem dX1_init_7 : decode cX1_init 7 = .ok (.newarray .int, 2) := by decide +kernel
theorem dX1_init_9 : decode cX1_init 9 = .ok (.putfield 9, 3) := by decide +kernel
theorem dX1_init_12 : decode cX1_init 12 = .ok (.aload_n 0, 1) := by decide +kernel
theorem dX1_init_13 : decode cX1_init 13 = .ok (.bipush 6, 2) := by decide +kernel
theorem dX1_init_15 : decode cX1_init 15 = .ok (.newarray .int, 2) := by decide +kernel
theorem dX1_init_17 : decode cX1_init 17 = .ok (.putfield 15, 3) := by decide +kernel
theorem dX1_init_20 : decode cX1_init 20 = .ok (.aload_n 0, 1) := by decide +kernel
theorem dX1_init_21 : decode cX1_init 21 = .ok (.bipush 6, 2) := by decide +kernel
theorem dX1_init_23 : decode cX1_init 23 = .ok (.newarray .int, 2) := by decide +kernel
theorem dX1_init_25 : decode cX1_init 25 = .ok (.putfield 18, 3) := by decide +kernel
theorem dX1_init_28 : decode cX1_init 28 = .ok (.aload_n 0, 1) := by decide +kernel
theorem dX1_init_29 : decode cX1_init 29 = .ok (.iconst 0, 1) := by decide +kernel
theorem dX1_init_30 : decode cX1_init 30 = .ok (.putfield 21, 3) := by decide +kernel
theorem dX1_init_33 : decode cX1_init 33 = .ok (.return_, 1) := by decide +kernel
set_option maxRecDepth 20000 in
theorem ggX1_add_X5_put : GoodIn wsX1_add wsX5_put := goodIn_r _ [7] (by decide +kernel) (by decide +kernel)
set_option maxRecDepth 20000 in
theorem gX1_add_X5_put_n25 : GoodIn wsX1_add (wsX5_put) := ggX1_add_X5_put
theorem dX1_add_0 : decode cX1_add 0 = .ok (.aload_n 0, 1) := by decide +kernel
theorem dX1_add_1 : decode cX1_add 1 = .ok (.getfield 9, 3) := by decide +kernel
theorem dX1_add_4 : decode cX1_add 4 = .ok (.aload_n 0, 1) := by decide +kernel
theorem dX1_add_5 : decode cX1_add 5 = .ok (.getfield 21, 3) := by decide +kernel
theorem dX1_add_8 : decode cX1_add 8 = .ok (.iload_n 1, 1) := by decide +kernel
theorem dX1_add_9 : decode cX1_add 9 = .ok (.invokestatic 25, 3) := by decide +kernel
theorem dX1_add_12 : decode cX1_add 12 = .ok (.aload_n 0, 1) := by decide +kernel
theorem dX1_add_13 : decode cX1_add 13 = .ok (.getfield 15, 3) := by decide +kernel
theorem dX1_add_16 : decode cX1_add 16 = .ok (.aload_n 0, 1) := by decide +kernel
theorem dX1_add_17 : decode cX1_add 17 = .ok (.getfield 21, 3) := by decide +kernel
theorem dX1_add_20 : decode cX1_add 20 = .ok (.iload_n 2, 1) := by decide +kernel
theorem dX1_add_21 : decode cX1_add 21 = .ok (.invokestatic 25, 3) := by decide +kernel
theorem dX1_add_24 : decode cX1_add 24 = .ok (.aload_n 0, 1) := by decide +kernel
theorem dX1_add_25 : decode cX1_add 25 = .ok (.getfield 18, 3) := by decide +kernel
theorem dX1_add_28 : decode cX1_add 28 = .ok (.aload_n 0, 1) := by decide +kernel
theorem dX1_add_29 : decode cX1_add 29 = .ok (.getfield 21, 3) := by decide +kernel
theorem dX1_add_32 : decode cX1_add 32 = .ok (.iload_n 3, 1) := by decide +kernel
theorem dX1_add_33 : decode cX1_add 33 = .ok (.invokestatic 25, 3) := by decide +kernel
theorem dX1_add_36 : decode cX1_add 36 = .ok (.aload_n 0, 1) := by decide +kernel
theorem dX1_add_37 : decode cX1_add 37 = .ok (.dup, 1) := by decide +kernel
theorem dX1_add_38 : decode cX1_add 38 = .ok (.getfield 21, 3) := by decide +kernel
theorem dX1_add_41 : decode cX1_add 41 = .ok (.iconst 1, 1) := by decide +kernel
theorem dX1_add_42 : decode cX1_add 42 = .ok (.iadd, 1) := by decide +kernel
theorem dX1_add_43 : decode cX1_add 43 = .ok (.putfield 21, 3) := by decide +kernel
theorem dX1_add_46 : decode cX1_add 46 = .ok (.return_, 1) := by decide +kernel
theorem dX2_init_0 : decode cX2_init 0 = .ok (.aload_n 0, 1) := by decide +kernel
theorem dX2_init_1 : decode cX2_init 1 = .ok (.invokespecial 3, 3) := by decide +kernel
theorem dX2_init_4 : decode cX2_init 4 = .ok (.aload_n 0, 1) := by decide +kernel
theorem dX2_init_5 : decode cX2_init 5 = .ok (.bipush 12, 2) := by decide +kernel
theorem dX2_init_7 : decode cX2_init 7 = .ok (.newarray .int, 2) := by decide +kernel
theorem dX2_init_9 : decode cX2_init 9 = .ok (.putfield 9, 3) := by decide +kernel
theorem dX2_init_12 : decode cX2_init 12 = .ok (.aload_n 0, 1) := by decide +kernel
theorem dX2_init_13 : decode cX2_init 13 = .ok (.bipush 12, 2) := by decide +kernel
theorem dX2_init_15 : decode cX2_init 15 = .ok (.newarray .int, 2) := by decide +kernel
theorem dX2_init_17 : decode cX2_init 17 = .ok (.putfield 15, 3) := by decide +kernel
theorem dX2_init_20 : decode cX2_init 20 = .ok (.aload_n 0, 1) := by decide +kernel
theorem dX2_init_21 : decode cX2_init 21 = .ok (.bipush 6, 2) := by decide +kernel
theorem dX2_init_23 : decode cX2_init 23 = .ok (.newarray .int, 2) := by decide +kernel
theorem dX2_init_25 : decode cX2_init 25 = .ok (.putfield 18, 3) := by decide +kernel
theorem dX2_init_28 : decode cX2_init 28 = .ok (.aload_n 0, 1) := by decide +kernel
theorem dX2_init_29 : decode cX2_init 29 = .ok (.bipush 6, 2) := by decide +kernel
theorem dX2_init_31 : decode cX2_init 31 = .ok (.newarray .int, 2) := by decide +kernel
theorem dX2_init_33 : decode cX2_init 33 = .ok (.putfield 21, 3) := by decide +kernel
theorem dX2_init_36 : decode cX2_init 36 = .ok (.aload_n 0, 1) := by decide +kernel
theorem dX2_init_37 : decode cX2_init 37 = .ok (.bipush 6, 2) := by decide +kernel
theorem dX2_init_39 : decode cX2_init 39 = .ok (.newarray .int, 2) := by decide +kernel
theorem dX2_init_41 : decode cX2_init 41 = .ok (.putfield 24, 3) := by decide +kernel
theorem dX2_init_44 : decode cX2_init 44 = .ok (.aload_n 0, 1) := by decide +kernel
theorem dX2_init_45 : decode cX2_init 45 = .ok (.iconst 0, 1) := by decide +kernel
theorem dX2_init_46 : decode cX2_init 46 = .ok (.putfield 27, 3) := by decide +kernel
theorem dX2_init_49 : decode cX2_init 49 = .ok (.aload_n 0, 1) := by decide +kernel
theorem dX2_init_50 : decode cX2_init 50 = .ok (.iconst 0, 1) := by decide +kernel
theorem dX2_init_51 : decode cX2_init 51 = .ok (.putfield 31, 3) := by decide +kernel
theorem dX2_init_54 : decode cX2_init 54 = .ok (.aload_n 0, 1) := by decide +kernel
theorem dX2_init_55 : decode cX2_init 55 = .ok (.iconst 0, 1) := by decide +kernel
theorem dX2_init_56 : decode cX2_init 56 = .ok (.putfield 34, 3) := by decide +kernel
theorem dX2_init_59 : decode cX2_init 59 = .ok (.aload_n 0, 1) := by decide +kernel
theorem dX2_init_60 : decode cX2_init 60 = .ok (.iconst 0, 1) := by decide +kernel
theorem dX2_init_61 : decode cX2_init 61 = .ok (.putfield 37, 3) := by decide +kernel
theorem dX2_init_64 : decode cX2_init 64 = .ok (.return_, 1) := by decide +kernel
theorem dX2_empty_0 : decode cX2_empty 0 = .ok (.aload_n 0, 1) := by decide +kernel
theorem dX2_empty_1 : decode cX2_empty 1 = .ok (.iconst 0, 1) := by decide +kernel
theorem dX2_empty_2 : decode cX2_empty 2 = .ok (.putfield 27, 3) := by decide +kernel
theorem dX2_empty_5 : decode cX2_empty 5 = .ok (.aload_n 0, 1) := by decide +kernel
theorem dX2_empty_6 : decode cX2_empty 6 = .ok (.iconst 0, 1) := by decide +kernel
theorem dX2_empty_7 : decode cX2_empty 7 = .ok (.putfield 31, 3) := by decide +kernel
theorem dX2_empty_10 : decode cX2_empty 10 = .ok (.aload_n 0, 1) := by decide +kernel
theorem dX2_empty_11 : decode cX2_empty 11 = .ok (.iconst 0, 1) := by decide +kernel
theorem dX2_empty_12 : decode cX2_empty 12 = .ok (.putfield 34, 3) := by decide +kernel
theorem dX2_empty_15 : decode cX2_empty 15 = .ok (.aload_n 0, 1) := by decide +kernel
theorem dX2_empty_16 : decode cX2_empty 16 = .ok (.iconst 0, 1) := by decide +kernel
theorem dX2_empty_17 : decode cX2_empty 17 = .ok (.putfield 37, 3) := by decide +kernel
theorem dX2_empty_20 : decode cX2_empty 20 = .ok (.return_, 1) := by decide +kernel
set_option maxRecDepth 20000 in
theorem ggX2_addPiece_X5_put : GoodIn wsX2_addPiece wsX5_put := goodIn_r _ [6] (by decide +kernel) (by decide +kernel)
set_option maxRecDepth 20000 in
theorem gX2_addPiece_X5_put_n40 : GoodIn wsX2_addPiece (wsX5_put) := ggX2_addPiece_X5_put
theorem dX2_addPiece_0 : decode cX2_addPiece 0 = .ok (.aload_n 0, 1) := by decide +kernel
theorem dX2_addPiece_1 : decode cX2_addPiece 1 = .ok (.getfield 9, 3) := by decide +kernel
theorem dX2_addPiece_4 : decode cX2_addPiece 4 = .ok (.aload_n 0, 1) := by decide +kernel
theorem dX2_addPiece_5 : decode cX2_addPiece 5 = .ok (.getfield 27, 3) := by decide +kernel
theorem dX2_addPiece_8 : decode cX2_addPiece 8 = .ok (.iload_n 1, 1) := by decide +kernel
theorem dX2_addPiece_9 : decode cX2_addPiece 9 = .ok (.invokestatic 40, 3) := by decide +kernel
theorem dX2_addPiece_12 : decode cX2_addPiece 12 = .ok (.aload_n 0, 1) := by decide +kernel
theorem dX2_addPiece_13 : decode cX2_addPiece 13 = .ok (.getfield 15, 3) := by decide +kernel
theorem dX2_addPiece_16 : decode cX2_addPiece 16 = .ok (.aload_n 0, 1) := by decide +kernel
theorem dX2_addPiece_17 : decode cX2_addPiece 17 = .ok (.getfield 27, 3) := by decide +kernel
theorem dX2_addPiece_20 : decode cX2_addPiece 20 = .ok (.iload_n 2, 1) := by decide +kernel
theorem dX2_addPiece_21 : decode cX2_addPiece 21 = .ok (.invokestatic 40, 3) := by decide +kernel
theorem dX2_addPiece_24 : decode cX2_addPiece 24 = .ok (.aload_n 0, 1) := by decide +kernel
theorem dX2_addPiece_25 : decode cX2_addPiece 25 = .ok (.dup, 1) := by decide +kernel
theorem dX2_addPiece_26 : decode cX2_addPiece 26 = .ok (.getfield 27, 3) := by decide +kernel
theorem dX2_addPiece_29 : decode cX2_addPiece 29 = .ok (.iconst 1, 1) := by decide +kernel
theorem dX2_addPiece_30 : decode cX2_addPiece 30 = .ok (.iadd, 1) := by decide +kernel
theorem dX2_addPiece_31 : decode cX2_addPiece 31 = .ok (.putfield 27, 3) := by decide +kernel
theorem dX2_addPiece_34 : decode cX2_addPiece 34 = .ok (.return_, 1) := by decide +kernel
set_option maxRecDepth 20000 in
theorem ggX2_addHole_X5_put : GoodIn wsX2_addHole wsX5_put := goodIn_r _ [7] (by decide +kernel) (by decide +kernel)
set_option maxRecDepth 20000 in
theorem gX2_addHole_X5_put_n40 : GoodIn wsX2_addHole (wsX5_put) := ggX2_addHole_X5_put
theorem dX2_addHole_0 : decode cX2_addHole 0 = .ok (.aload_n 0, 1) := by decide +kernel
theorem dX2_addHole_1 : decode cX2_addHole 1 = .ok (.getfield 18, 3) := by decide +kernel
theorem dX2_addHole_4 : decode cX2_addHole 4 = .ok (.aload_n 0, 1) := by decide +kernel
theorem dX2_addHole_5 : decode cX2_addHole 5 = .ok (.getfield 31, 3) := by decide +kernel
theorem dX2_addHole_8 : decode cX2_addHole 8 = .ok (.iload_n 1, 1) := by decide +kernel
theorem dX2_addHole_9 : decode cX2_addHole 9 = .ok (.invokestatic 40, 3) := by decide +kernel
theorem dX2_addHole_12 : decode cX2_addHole 12 = .ok (.aload_n 0, 1) := by decide +kernel
theorem dX2_addHole_13 : decode cX2_addHole 13 = .ok (.getfield 21, 3) := by decide +kernel
theorem dX2_addHole_16 : decode cX2_addHole 16 = .ok (.aload_n 0, 1) := by decide +kernel
theorem dX2_addHole_17 : decode cX2_addHole 17 = .ok (.getfield 31, 3) := by decide +kernel
theorem dX2_addHole_20 : decode cX2_addHole 20 = .ok (.iload_n 2, 1) := by decide +kernel
theorem dX2_addHole_21 : decode cX2_addHole 21 = .ok (.invokestatic 40, 3) := by decide +kernel
theorem dX2_addHole_24 : decode cX2_addHole 24 = .ok (.aload_n 0, 1) := by decide +kernel
theorem dX2_addHole_25 : decode cX2_addHole 25 = .ok (.getfield 24, 3) := by decide +kernel
theorem dX2_addHole_28 : decode cX2_addHole 28 = .ok (.aload_n 0, 1) := by decide +kernel
theorem dX2_addHole_29 : decode cX2_addHole 29 = .ok (.getfield 31, 3) := by decide +kernel
theorem dX2_addHole_32 : decode cX2_addHole 32 = .ok (.iload_n 3, 1) := by decide +kernel
theorem dX2_addHole_33 : decode cX2_addHole 33 = .ok (.invokestatic 40, 3) := by decide +kernel
theorem dX2_addHole_36 : decode cX2_addHole 36 = .ok (.aload_n 0, 1) := by decide +kernel
theorem dX2_addHole_37 : decode cX2_addHole 37 = .ok (.dup, 1) := by decide +kernel
theorem dX2_addHole_38 : decode cX2_addHole 38 = .ok (.getfield 31, 3) := by decide +kernel
theorem dX2_addHole_41 : decode cX2_addHole 41 = .ok (.iconst 1, 1) := by decide +kernel
theorem dX2_addHole_42 : decode cX2_addHole 42 = .ok (.iadd, 1) := by decide +kernel
theorem dX2_addHole_43 : decode cX2_addHole 43 = .ok (.putfield 31, 3) := by decide +kernel
theorem dX2_addHole_46 : decode cX2_addHole 46 = .ok (.return_, 1) := by decide +kernel
theorem dX2_rowOf_0 : decode cX2_rowOf 0 = .ok (.iload_n 1, 1) := by decide +kernel
theorem dX2_rowOf_1 : decode cX2_rowOf 1 = .ok (.ifCond .ne 10, 3) := by decide +kernel
theorem dX2_rowOf_4 : decode cX2_rowOf 4 = .ok (.aload_n 0, 1) := by decide +kernel
theorem dX2_rowOf_5 : decode cX2_rowOf 5 = .ok (.getfield 18, 3) := by decide +kernel
theorem dX2_rowOf_8 : decode cX2_rowOf 8 = .ok (.goto 19, 3) := by decide +kernel
theorem dX2_rowOf_11 : decode cX2_rowOf 11 = .ok (.iload_n 1, 1) := by decide +kernel
theorem dX2_rowOf_12 : decode cX2_rowOf 12 = .ok (.iconst 1, 1) := by decide +kernel
theorem dX2_rowOf_13 : decode cX2_rowOf 13 = .ok (.if_icmp .ne 10, 3) := by decide +kernel
theorem dX2_rowOf_16 : decode cX2_rowOf 16 = .ok (.aload_n 0, 1) := by decide +kernel
theorem dX2_rowOf_17 : decode cX2_rowOf 17 = .ok (.getfield 21, 3) := by decide +kernel
theorem dX2_rowOf_20 : decode cX2_rowOf 20 = .ok (.goto 7, 3) := by decide +kernel
theorem dX2_rowOf_23 : decode cX2_rowOf 23 = .ok (.aload_n 0, 1) := by decide +kernel
theorem dX2_rowOf_24 : decode cX2_rowOf 24 = .ok (.getfield 24, 3) := by decide +kernel
theorem dX2_rowOf_27 : decode cX2_rowOf 27 = .ok (.areturn, 1) := by decide +kernel
set_option maxRecDepth 20000 in
theorem ggX2_ofHole_X2_rowOf : GoodIn wsX2_ofHole wsX2_rowOf := goodIn_r _ [5, 6, 7, 8, 12, 13, 14, 15, 16, 17, 18, 19, 20] (by decide +kernel) (by decide +kernel)
set_option maxRecDepth 20000 in
theorem gX2_ofHole_X2_rowOf : GoodIn wsX2_ofHole (wsV RX2 44 RX2 yX2_rowOf wsX2_rowOf) := goodIn_app (goodIn_of _ (by decide +kernel)) ggX2_ofHole_X2_rowOf
set_option maxRecDepth 20000 in
theorem ggX2_ofHole_X5_at : GoodIn wsX2_ofHole wsX5_at := goodIn_r _ [11] (by decide +kernel) (by decide +kernel)
set_option maxRecDepth 20000 in
theorem gX2_ofHole_X5_at_n48 : GoodIn wsX2_ofHole (wsX5_at) := ggX2_ofHole_X5_at
theorem dX2_ofHole_0 : decode cX2_ofHole 0 = .ok (.aload_n 0, 1) := by decide +kernel
theorem dX2_ofHole_1 : decode cX2_ofHole 1 = .ok (.iload_n 2, 1) := by decide +kernel
theorem dX2_ofHole_2 : decode cX2_ofHole 2 = .ok (.invokevirtual 44, 3) := by decide +kernel
theorem dX2_ofHole_5 : decode cX2_ofHole 5 = .ok (.iload_n 1, 1) := by decide +kernel
theorem dX2_ofHole_6 : decode cX2_ofHole 6 = .ok (.invokestatic 48, 3) := by decide +kernel
theorem dX2_ofHole_9 : decode cX2_ofHole 9 = .ok (.ireturn, 1) := by decide +kernel
set_option maxRecDepth 20000 in
theorem ggX2_changeHole_X2_rowOf : GoodIn wsX2_changeHole wsX2_rowOf := goodIn_r _ [5, 6, 7, 8, 12, 13, 14, 15, 16, 17, 18, 19, 20] (by decide +kernel) (by decide +kernel)
set_option maxRecDepth 20000 in
theorem gX2_changeHole_X2_rowOf : GoodIn wsX2_changeHole (wsV RX2 44 RX2 yX2_rowOf wsX2_rowOf) := goodIn_app (goodIn_of _ (by decide +kernel)) ggX2_changeHole_X2_rowOf
set_option maxRecDepth 20000 in
theorem ggX2_changeHole_X5_put : GoodIn wsX2_changeHole wsX5_put := goodIn_r _ [11] (by decide +kernel) (by decide +kernel)
set_option maxRecDepth 20000 in
theorem gX2_changeHole_X5_put_n40 : GoodIn wsX2_changeHole (wsX5_put) := ggX2_changeHole_X5_put
theorem dX2_changeHole_0 : decode cX2_changeHole 0 = .ok (.aload_n 0, 1) := by decide +kernel
theorem dX2_changeHole_1 : decode cX2_changeHole 1 = .ok (.iload_n 2, 1) := by decide +kernel
theorem dX2_changeHole_2 : decode cX2_changeHole 2 = .ok (.invokevirtual 44, 3) := by decide +kernel
theorem dX2_changeHole_5 : decode cX2_changeHole 5 = .ok (.iload_n 1, 1) := by decide +kernel
theorem dX2_changeHole_6 : decode cX2_changeHole 6 = .ok (.iload_n 3, 1) := by decide +kernel
theorem dX2_changeHole_7 : decode cX2_changeHole 7 = .ok (.invokestatic 40, 3) := by decide +kernel
theorem dX2_changeHole_10 : decode cX2_changeHole 10 = .ok (.return_, 1) := by decide +kernel
set_option maxRecDepth 20000 in
theorem ggX2_startOf_X5_at : GoodIn wsX2_startOf wsX5_at := goodIn_r _ [4] (by decide +kernel) (by decide +kernel)
set_option maxRecDepth 20000 in
theorem gX2_startOf_X5_at_n48 : GoodIn wsX2_startOf (wsX5_at) := ggX2_startOf_X5_at
theorem dX2_startOf_0 : decode cX2_startOf 0 = .ok (.iconst 0, 1) := by decide +kernel
theorem dX2_startOf_1 : decode cX2_startOf 1 = .ok (.istore_n 2, 1) := by decide +kernel
theorem dX2_startOf_2 : decode cX2_startOf 2 = .ok (.iconst 0, 1) := by decide +kernel
theorem dX2_startOf_3 : decode cX2_startOf 3 = .ok (.istore_n 3, 1) := by decide +kernel
theorem dX2_startOf_4 : decode cX2_startOf 4 = .ok (.iload_n 3, 1) := by decide +kernel
theorem dX2_startOf_5 : decode cX2_startOf 5 = .ok (.iload_n 1, 1) := by decide +kernel
theorem dX2_startOf_6 : decode cX2_startOf 6 = .ok (.if_icmp .ge 20, 3) := by decide +kernel
theorem dX2_startOf_9 : decode cX2_startOf 9 = .ok (.iload_n 2, 1) := by decide +kernel
theorem dX2_startOf_10 : decode cX2_startOf 10 = .ok (.aload_n 0, 1) := by decide +kernel
theorem dX2_startOf_11 : decode cX2_startOf 11 = .ok (.getfield 9, 3) := by decide +kernel
theorem dX2_startOf_14 : decode cX2_startOf 14 = .ok (.iload_n 3, 1) := by decide +kernel
theorem dX2_startOf_15 : decode cX2_startOf 15 = .ok (.invokestatic 48, 3) := by decide +kernel
theorem dX2_startOf_18 : decode cX2_startOf 18 = .ok (.iadd, 1) := by decide +kernel
theorem dX2_startOf_19 : decode cX2_startOf 19 = .ok (.istore_n 2, 1) := by decide +kernel
theorem dX2_startOf_20 : decode cX2_startOf 20 = .ok (.iinc 3 1, 3) := by decide +kernel
theorem dX2_startOf_23 : decode cX2_startOf 23 = .ok (.goto (-19), 3) := by decide +kernel
theorem dX2_startOf_26 : decode cX2_startOf 26 = .ok (.iload_n 2, 1) := by decide +kernel
theorem dX2_startOf_27 : decode cX2_startOf 27 = .ok (.ireturn, 1) := by decide +kernel
set_option maxRecDepth 20000 in
theorem ggX2_wholeLength_X2_startOf : GoodIn wsX2_wholeLength wsX2_startOf := goodIn_r _ [6, 7, 8, 9, 10, 11, 12, 13, 14, 15, 16, 17, 18, 19] (by decide +kernel) (by decide +kernel)
set_option maxRecDepth 20000 in
theorem gX2_wholeLength_X2_startOf : GoodIn wsX2_wholeLength (wsV RX2 52 RX2 yX2_startOf wsX2_startOf) := goodIn_app (goodIn_of _ (by decide +kernel)) ggX2_wholeLength_X2_startOf
theorem dX2_wholeLength_0 : decode cX2_wholeLength 0 = .ok (.aload_n 0, 1) := by decide +kernel
theorem dX2_wholeLength_1 : decode cX2_wholeLength 1 = .ok (.aload_n 0, 1) := by decide +kernel
theorem dX2_wholeLength_2 : decode cX2_wholeLength 2 = .ok (.getfield 27, 3) := by decide +kernel
theorem dX2_wholeLength_5 : decode cX2_wholeLength 5 = .ok (.invokevirtual 52, 3) := by decide +kernel
theorem dX2_wholeLength_8 : decode cX2_wholeLength 8 = .ok (.ireturn, 1) := by decide +kernel
set_option maxRecDepth 20000 in
theorem ggX2_pieceAt_X5_at : GoodIn wsX2_pieceAt wsX5_at := goodIn_r _ [5] (by decide +kernel) (by decide +kernel)
set_option maxRecDepth 20000 in
theorem gX2_pieceAt_X5_at_n48 : GoodIn wsX2_pieceAt (wsX5_at) := ggX2_pieceAt_X5_at
theorem dX2_pieceAt_0 : decode cX2_pieceAt 0 = .ok (.iconst 0, 1) := by decide +kernel
theorem dX2_pieceAt_1 : decode cX2_pieceAt 1 = .ok (.istore_n 2, 1) := by decide +kernel
theorem dX2_pieceAt_2 : decode cX2_pieceAt 2 = .ok (.iconst 0, 1) := by decide +kernel
theorem dX2_pieceAt_3 : decode cX2_pieceAt 3 = .ok (.istore_n 3, 1) := by decide +kernel
theorem dX2_pieceAt_4 : decode cX2_pieceAt 4 = .ok (.iload_n 3, 1) := by decide +kernel
theorem dX2_pieceAt_5 : decode cX2_pieceAt 5 = .ok (.aload_n 0, 1) := by decide +kernel
theorem dX2_pieceAt_6 : decode cX2_pieceAt 6 = .ok (.getfield 27, 3) := by decide +kernel
theorem dX2_pieceAt_9 : decode cX2_pieceAt 9 = .ok (.if_icmp .ge 27, 3) := by decide +kernel
theorem dX2_pieceAt_12 : decode cX2_pieceAt 12 = .ok (.iload_n 2, 1) := by decide +kernel
theorem dX2_pieceAt_13 : decode cX2_pieceAt 13 = .ok (.aload_n 0, 1) := by decide +kernel
theorem dX2_pieceAt_14 : decode cX2_pieceAt 14 = .ok (.getfield 9, 3) := by decide +kernel
theorem dX2_pieceAt_17 : decode cX2_pieceAt 17 = .ok (.iload_n 3, 1) := by decide +kernel
theorem dX2_pieceAt_18 : decode cX2_pieceAt 18 = .ok (.invokestatic 48, 3) := by decide +kernel
theorem dX2_pieceAt_21 : decode cX2_pieceAt 21 = .ok (.iadd, 1) := by decide +kernel
theorem dX2_pieceAt_22 : decode cX2_pieceAt 22 = .ok (.istore_n 2, 1) := by decide +kernel
theorem dX2_pieceAt_23 : decode cX2_pieceAt 23 = .ok (.iload_n 1, 1) := by decide +kernel
theorem dX2_pieceAt_24 : decode cX2_pieceAt 24 = .ok (.iload_n 2, 1) := by decide +kernel
theorem dX2_pieceAt_25 : decode cX2_pieceAt 25 = .ok (.if_icmp .gt 5, 3) := by decide +kernel
theorem dX2_pieceAt_28 : decode cX2_pieceAt 28 = .ok (.iload_n 3, 1) := by decide +kernel
theorem dX2_pieceAt_29 : decode cX2_pieceAt 29 = .ok (.ireturn, 1) := by decide +kernel
theorem dX2_pieceAt_30 : decode cX2_pieceAt 30 = .ok (.iinc 3 1, 3) := by decide +kernel
theorem dX2_pieceAt_33 : decode cX2_pieceAt 33 = .ok (.goto (-29), 3) := by decide +kernel
theorem dX2_pieceAt_36 : decode cX2_pieceAt 36 = .ok (.iconst (-1), 1) := by decide +kernel
theorem dX2_pieceAt_37 : decode cX2_pieceAt 37 = .ok (.ireturn, 1) := by decide +kernel
set_option maxRecDepth 20000 in
theorem ggX2_holeAt_X5_at : GoodIn wsX2_holeAt wsX5_at := goodIn_r _ [5] (by decide +kernel) (by decide +kernel)
set_option maxRecDepth 20000 in
theorem gX2_holeAt_X5_at_n48 : GoodIn wsX2_holeAt (wsX5_at) := ggX2_holeAt_X5_at
theorem dX2_holeAt_0 : decode cX2_holeAt 0 = .ok (.iconst 0, 1) := by decide +kernel
theorem dX2_holeAt_1 : decode cX2_holeAt 1 = .ok (.istore_n 2, 1) := by decide +kernel
theorem dX2_holeAt_2 : decode cX2_holeAt 2 = .ok (.iload_n 2, 1) := by decide +kernel
theorem dX2_holeAt_3 : decode cX2_holeAt 3 = .ok (.aload_n 0, 1) := by decide +kernel
theorem dX2_holeAt_4 : decode cX2_holeAt 4 = .ok (.getfield 31, 3) := by decide +kernel
theorem dX2_holeAt_7 : decode cX2_holeAt 7 = .ok (.if_icmp .ge 23, 3) := by decide +kernel
theorem dX2_holeAt_10 : decode cX2_holeAt 10 = .ok (.aload_n 0, 1) := by decide +kernel
theorem dX2_holeAt_11 : decode cX2_holeAt 11 = .ok (.getfield 18, 3) := by decide +kernel
theorem dX2_holeAt_14 : decode cX2_holeAt 14 = .ok (.iload_n 2, 1) := by decide +kernel
theorem dX2_holeAt_15 : decode cX2_holeAt 15 = .ok (.invokestatic 48, 3) := by decide +kernel
theorem dX2_holeAt_18 : decode cX2_holeAt 18 = .ok (.iload_n 1, 1) := by decide +kernel
theorem dX2_holeAt_19 : decode cX2_holeAt 19 = .ok (.if_icmp .ne 5, 3) := by decide +kernel
theorem dX2_holeAt_22 : decode cX2_holeAt 22 = .ok (.iload_n 2, 1) := by decide +kernel
theorem dX2_holeAt_23 : decode cX2_holeAt 23 = .ok (.ireturn, 1) := by decide +kernel
theorem dX2_holeAt_24 : decode cX2_holeAt 24 = .ok (.iinc 2 1, 3) := by decide +kernel
theorem dX2_holeAt_27 : decode cX2_holeAt 27 = .ok (.goto (-25), 3) := by decide +kernel
theorem dX2_holeAt_30 : decode cX2_holeAt 30 = .ok (.iconst (-1), 1) := by decide +kernel
theorem dX2_holeAt_31 : decode cX2_holeAt 31 = .ok (.ireturn, 1) := by decide +kernel
set_option maxRecDepth 20000 in
theorem ggX2_holesBefore_X5_at : GoodIn wsX2_holesBefore wsX5_at := goodIn_r _ [5] (by decide +kernel) (by decide +kernel)
set_option maxRecDepth 20000 in
theorem gX2_holesBefore_X5_at_n48 : GoodIn wsX2_holesBefore (wsX5_at) := ggX2_holesBefore_X5_at
theorem dX2_holesBefore_0 : decode cX2_holesBefore 0 = .ok (.iconst 0, 1) := by decide +kernel
theorem dX2_holesBefore_1 : decode cX2_holesBefore 1 = .ok (.istore_n 2, 1) := by decide +kernel
theorem dX2_holesBefore_2 : decode cX2_holesBefore 2 = .ok (.iconst 0, 1) := by decide +kernel
theorem dX2_holesBefore_3 : decode cX2_holesBefore 3 = .ok (.istore_n 3, 1) := by decide +kernel
theorem dX2_holesBefore_4 : decode cX2_holesBefore 4 = .ok (.iload_n 3, 1) := by decide +kernel
theorem dX2_holesBefore_5 : decode cX2_holesBefore 5 = .ok (.aload_n 0, 1) := by decide +kernel
theorem dX2_holesBefore_6 : decode cX2_holesBefore 6 = .ok (.getfield 31, 3) := by decide +kernel
theorem dX2_holesBefore_9 : decode cX2_holesBefore 9 = .ok (.if_icmp .ge 24, 3) := by decide +kernel
theorem dX2_holesBefore_12 : decode cX2_holesBefore 12 = .ok (.aload_n 0, 1) := by decide +kernel
theorem dX2_holesBefore_13 : decode cX2_holesBefore 13 = .ok (.getfield 18, 3) := by decide +kernel
theorem dX2_holesBefore_16 : decode cX2_holesBefore 16 = .ok (.iload_n 3, 1) := by decide +kernel
theorem dX2_holesBefore_17 : decode cX2_holesBefore 17 = .ok (.invokestatic 48, 3) := by decide +kernel
theorem dX2_holesBefore_20 : decode cX2_holesBefore 20 = .ok (.iload_n 1, 1) := by decide +kernel
theorem dX2_holesBefore_21 : decode cX2_holesBefore 21 = .ok (.if_icmp .ge 6, 3) := by decide +kernel
theorem dX2_holesBefore_24 : decode cX2_holesBefore 24 = .ok (.iinc 2 1, 3) := by decide +kernel
theorem dX2_holesBefore_27 : decode cX2_holesBefore 27 = .ok (.iinc 3 1, 3) := by decide +kernel
theorem dX2_holesBefore_30 : decode cX2_holesBefore 30 = .ok (.goto (-26), 3) := by decide +kernel
theorem dX2_holesBefore_33 : decode cX2_holesBefore 33 = .ok (.iload_n 2, 1) := by decide +kernel
theorem dX2_holesBefore_34 : decode cX2_holesBefore 34 = .ok (.ireturn, 1) := by decide +kernel
set_option maxRecDepth 20000 in
theorem ggX2_lastHoleBefore_X5_at : GoodIn wsX2_lastHoleBefore wsX5_at := goodIn_r _ [9] (by decide +kernel) (by decide +kernel)
set_option maxRecDepth 20000 in
theorem gX2_lastHoleBefore_X5_at_n48 : GoodIn wsX2_lastHoleBefore (wsX5_at) := ggX2_lastHoleBefore_X5_at
theorem dX2_lastHoleBefore_0 : decode cX2_lastHoleBefore 0 = .ok (.iconst 0, 1) := by decide +kernel
theorem dX2_lastHoleBefore_1 : decode cX2_lastHoleBefore 1 = .ok (.istore_n 2, 1) := by decide +kernel
theorem dX2_lastHoleBefore_2 : decode cX2_lastHoleBefore 2 = .ok (.iconst 0, 1) := by decide +kernel
theorem dX2_lastHoleBefore_3 : decode cX2_lastHoleBefore 3 = .ok (.istore_n 3, 1) := by decide +kernel
theorem dX2_lastHoleBefore_4 : decode cX2_lastHoleBefore 4 = .ok (.iload_n 3, 1) := by decide +kernel
theorem dX2_lastHoleBefore_5 : decode cX2_lastHoleBefore 5 = .ok (.aload_n 0, 1) := by decide +kernel
theorem dX2_lastHoleBefore_6 : decode cX2_lastHoleBefore 6 = .ok (.getfield 31, 3) := by decide +kernel
theorem dX2_lastHoleBefore_9 : decode cX2_lastHoleBefore 9 = .ok (.if_icmp .ge 34, 3) := by decide +kernel
theorem dX2_lastHoleBefore_12 : decode cX2_lastHoleBefore 12 = .ok (.aload_n 0, 1) := by decide +kernel
theorem dX2_lastHoleBefore_13 : decode cX2_lastHoleBefore 13 = .ok (.getfield 18, 3) := by decide +kernel
theorem dX2_lastHoleBefore_16 : decode cX2_lastHoleBefore 16 = .ok (.iload_n 3, 1) := by decide +kernel
theorem dX2_lastHoleBefore_17 : decode cX2_lastHoleBefore 17 = .ok (.invokestatic 48, 3) := by decide +kernel
theorem dX2_lastHoleBefore_20 : decode cX2_lastHoleBefore 20 = .ok (.iload_n 1, 1) := by decide +kernel
theorem dX2_lastHoleBefore_21 : decode cX2_lastHoleBefore 21 = .ok (.if_icmp .ge 16, 3) := by decide +kernel
theorem dX2_lastHoleBefore_24 : decode cX2_lastHoleBefore 24 = .ok (.iload_n 2, 1) := by decide +kernel
theorem dX2_lastHoleBefore_25 : decode cX2_lastHoleBefore 25 = .ok (.aload_n 0, 1) := by decide +kernel
theorem dX2_lastHoleBefore_26 : decode cX2_lastHoleBefore 26 = .ok (.getfield 18, 3) := by decide +kernel
theorem dX2_lastHoleBefore_29 : decode cX2_lastHoleBefore 29 = .ok (.iload_n 3, 1) := by decide +kernel
theorem dX2_lastHoleBefore_30 : decode cX2_lastHoleBefore 30 = .ok (.invokestatic 48, 3) := by decide +kernel
theorem dX2_lastHoleBefore_33 : decode cX2_lastHoleBefore 33 = .ok (.invokestatic 56, 3) := by decide +kernel
theorem dX2_lastHoleBefore_36 : decode cX2_lastHoleBefore 36 = .ok (.istore_n 2, 1) := by decide +kernel
theorem dX2_lastHoleBefore_37 : decode cX2_lastHoleBefore 37 = .ok (.iinc 3 1, 3) := by decide +kernel
theorem dX2_lastHoleBefore_40 : decode cX2_lastHoleBefore 40 = .ok (.goto (-36), 3) := by decide +kernel
theorem dX2_lastHoleBefore_43 : decode cX2_lastHoleBefore 43 = .ok (.iload_n 2, 1) := by decide +kernel
theorem dX2_lastHoleBefore_44 : decode cX2_lastHoleBefore 44 = .ok (.ireturn, 1) := by decide +kernel
set_option maxRecDepth 20000 in
theorem ggX2_gap_X5_at : GoodIn wsX2_gap wsX5_at := goodIn_r _ [5] (by decide +kernel) (by decide +kernel)
set_option maxRecDepth 20000 in
theorem gX2_gap_X5_at_n48 : GoodIn wsX2_gap (wsX5_at) := ggX2_gap_X5_at
theorem dX2_gap_0 : decode cX2_gap 0 = .ok (.iconst 0, 1) := by decide +kernel
theorem dX2_gap_1 : decode cX2_gap 1 = .ok (.istore_n 3, 1) := by decide +kernel
theorem dX2_gap_2 : decode cX2_gap 2 = .ok (.iconst 0, 1) := by decide +kernel
theorem dX2_gap_3 : decode cX2_gap 3 = .ok (.istore 4, 2) := by decide +kernel
theorem dX2_gap_5 : decode cX2_gap 5 = .ok (.iload 4, 2) := by decide +kernel
theorem dX2_gap_7 : decode cX2_gap 7 = .ok (.aload_n 0, 1) := by decide +kernel
theorem dX2_gap_8 : decode cX2_gap 8 = .ok (.getfield 31, 3) := by decide +kernel
theorem dX2_gap_11 : decode cX2_gap 11 = .ok (.if_icmp .ge 49, 3) := by decide +kernel
theorem dX2_gap_14 : decode cX2_gap 14 = .ok (.aload_n 0, 1) := by decide +kernel
theorem dX2_gap_15 : decode cX2_gap 15 = .ok (.getfield 18, 3) := by decide +kernel
theorem dX2_gap_18 : decode cX2_gap 18 = .ok (.iload 4, 2) := by decide +kernel
theorem dX2_gap_20 : decode cX2_gap 20 = .ok (.invokestatic 48, 3) := by decide +kernel
theorem dX2_gap_23 : decode cX2_gap 23 = .ok (.aload_n 0, 1) := by decide +kernel
theorem dX2_gap_24 : decode cX2_gap 24 = .ok (.getfield 18, 3) := by decide +kernel
theorem dX2_gap_27 : decode cX2_gap 27 = .ok (.iload_n 1, 1) := by decide +kernel
theorem dX2_gap_28 : decode cX2_gap 28 = .ok (.invokestatic 48, 3) := by decide +kernel
theorem dX2_gap_31 : decode cX2_gap 31 = .ok (.isub, 1) := by decide +kernel
theorem dX2_gap_32 : decode cX2_gap 32 = .ok (.iload_n 2, 1) := by decide +kernel
theorem dX2_gap_33 : decode cX2_gap 33 = .ok (.imul, 1) := by decide +kernel
theorem dX2_gap_34 : decode cX2_gap 34 = .ok (.istore 5, 2) := by decide +kernel
theorem dX2_gap_36 : decode cX2_gap 36 = .ok (.iload 5, 2) := by decide +kernel
theorem dX2_gap_38 : decode cX2_gap 38 = .ok (.ifCond .le 16, 3) := by decide +kernel
theorem dX2_gap_41 : decode cX2_gap 41 = .ok (.iload_n 3, 1) := by decide +kernel
theorem dX2_gap_42 : decode cX2_gap 42 = .ok (.ifCond .eq 9, 3) := by decide +kernel
theorem dX2_gap_45 : decode cX2_gap 45 = .ok (.iload 5, 2) := by decide +kernel
theorem dX2_gap_47 : decode cX2_gap 47 = .ok (.iload_n 3, 1) := by decide +kernel
theorem dX2_gap_48 : decode cX2_gap 48 = .ok (.if_icmp .ge 6, 3) := by decide +kernel
theorem dX2_gap_51 : decode cX2_gap 51 = .ok (.iload 5, 2) := by decide +kernel
theorem dX2_gap_53 : decode cX2_gap 53 = .ok (.istore_n 3, 1) := by decide +kernel
theorem dX2_gap_54 : decode cX2_gap 54 = .ok (.iinc 4 1, 3) := by decide +kernel
theorem dX2_gap_57 : decode cX2_gap 57 = .ok (.goto (-52), 3) := by decide +kernel
theorem dX2_gap_60 : decode cX2_gap 60 = .ok (.iload_n 3, 1) := by decide +kernel
theorem dX2_gap_61 : decode cX2_gap 61 = .ok (.ireturn, 1) := by decide +kernel
set_option maxRecDepth 20000 in
theorem ggX2_copy_X5_copyRow : GoodIn wsX2_copy wsX5_copyRow := goodIn_r _ [12, 13, 14, 11, 15, 16, 17, 18] (by decide +kernel) (by decide +kernel)
set_option maxRecDepth 20000 in
theorem gX2_copy_X5_copyRow_n62 : GoodIn wsX2_copy (wsX5_copyRow) := ggX2_copy_X5_copyRow
theorem dX2_copy_0 : decode cX2_copy 0 = .ok (.aload_n 1, 1) := by decide +kernel
theorem dX2_copy_1 : decode cX2_copy 1 = .ok (.getfield 9, 3) := by decide +kernel
theorem dX2_copy_4 : decode cX2_copy 4 = .ok (.aload_n 0, 1) := by decide +kernel
theorem dX2_copy_5 : decode cX2_copy 5 = .ok (.getfield 9, 3) := by decide +kernel
theorem dX2_copy_8 : decode cX2_copy 8 = .ok (.invokestatic 62, 3) := by decide +kernel
theorem dX2_copy_11 : decode cX2_copy 11 = .ok (.aload_n 1, 1) := by decide +kernel
theorem dX2_copy_12 : decode cX2_copy 12 = .ok (.getfield 15, 3) := by decide +kernel
theorem dX2_copy_15 : decode cX2_copy 15 = .ok (.aload_n 0, 1) := by decide +kernel
theorem dX2_copy_16 : decode cX2_copy 16 = .ok (.getfield 15, 3) := by decide +kernel
theorem dX2_copy_19 : decode cX2_copy 19 = .ok (.invokestatic 62, 3) := by decide +kernel
theorem dX2_copy_22 : decode cX2_copy 22 = .ok (.aload_n 1, 1) := by decide +kernel
theorem dX2_copy_23 : decode cX2_copy 23 = .ok (.getfield 18, 3) := by decide +kernel
theorem dX2_copy_26 : decode cX2_copy 26 = .ok (.aload_n 0, 1) := by decide +kernel
theorem dX2_copy_27 : decode cX2_copy 27 = .ok (.getfield 18, 3) := by decide +kernel
theorem dX2_copy_30 : decode cX2_copy 30 = .ok (.invokestatic 62, 3) := by decide +kernel
theorem dX2_copy_33 : decode cX2_copy 33 = .ok (.aload_n 1, 1) := by decide +kernel
theorem dX2_copy_34 : decode cX2_copy 34 = .ok (.getfield 21, 3) := by decide +kernel
theorem dX2_copy_37 : decode cX2_copy 37 = .ok (.aload_n 0, 1) := by decide +kernel
theorem dX2_copy_38 : decode cX2_copy 38 = .ok (.getfield 21, 3) := by decide +kernel
theorem dX2_copy_41 : decode cX2_copy 41 = .ok (.invokestatic 62, 3) := by decide +kernel
theorem dX2_copy_44 : decode cX2_copy 44 = .ok (.aload_n 1, 1) := by decide +kernel
theorem dX2_copy_45 : decode cX2_copy 45 = .ok (.getfield 24, 3) := by decide +kernel
theorem dX2_copy_48 : decode cX2_copy 48 = .ok (.aload_n 0, 1) := by decide +kernel
theorem dX2_copy_49 : decode cX2_copy 49 = .ok (.getfield 24, 3) := by decide +kernel
theorem dX2_copy_52 : decode cX2_copy 52 = .ok (.invokestatic 62, 3) := by decide +kernel
theorem dX2_copy_55 : decode cX2_copy 55 = .ok (.aload_n 0, 1) := by decide +kernel
theorem dX2_copy_56 : decode cX2_copy 56 = .ok (.aload_n 1, 1) := by decide +kernel
theorem dX2_copy_57 : decode cX2_copy 57 = .ok (.getfield 27, 3) := by decide +kernel
theorem dX2_copy_60 : decode cX2_copy 60 = .ok (.putfield 27, 3) := by decide +kernel
theorem dX2_copy_63 : decode cX2_copy 63 = .ok (.aload_n 0, 1) := by decide +kernel
theorem dX2_copy_64 : decode cX2_copy 64 = .ok (.aload_n 1, 1) := by decide +kernel
theorem dX2_copy_65 : decode cX2_copy 65 = .ok (.getfield 31, 3) := by decide +kernel
theorem dX2_copy_68 : decode cX2_copy 68 = .ok (.putfield 31, 3) := by decide +kernel
theorem dX2_copy_71 : decode cX2_copy 71 = .ok (.aload_n 0, 1) := by decide +kernel
theorem dX2_copy_72 : decode cX2_copy 72 = .ok (.aload_n 1, 1) := by decide +kernel
theorem dX2_copy_73 : decode cX2_copy 73 = .ok (.getfield 34, 3) := by decide +kernel
theorem dX2_copy_76 : decode cX2_copy 76 = .ok (.putfield 34, 3) := by decide +kernel
theorem dX2_copy_79 : decode cX2_copy 79 = .ok (.aload_n 0, 1) := by decide +kernel
theorem dX2_copy_80 : decode cX2_copy 80 = .ok (.aload_n 1, 1) := by decide +kernel
theorem dX2_copy_81 : decode cX2_copy 81 = .ok (.getfield 37, 3) := by decide +kernel
theorem dX2_copy_84 : decode cX2_copy 84 = .ok (.putfield 37, 3) := by decide +kernel
theorem dX2_copy_87 : decode cX2_copy 87 = .ok (.return_, 1) := by decide +kernel
set_option maxRecDepth 20000 in
theorem ggX2_differences_X5_rowDifferences : GoodIn wsX2_differences wsX5_rowDifferences := goodIn_r _ [12, 13, 14, 15, 16, 17, 18, 19, 20, 21, 11, 22] (by decide +kernel) (by decide +kernel)
set_option maxRecDepth 20000 in
theorem gX2_differences_X5_rowDifferences_n66 : GoodIn wsX2_differences (wsX5_rowDifferences) := ggX2_differences_X5_rowDifferences
theorem dX2_differences_0 : decode cX2_differences 0 = .ok (.aload_n 0, 1) := by decide +kernel
theorem dX2_differences_1 : decode cX2_differences 1 = .ok (.getfield 9, 3) := by decide +kernel
theorem dX2_differences_4 : decode cX2_differences 4 = .ok (.aload_n 0, 1) := by decide +kernel
theorem dX2_differences_5 : decode cX2_differences 5 = .ok (.getfield 27, 3) := by decide +kernel
theorem dX2_differences_8 : decode cX2_differences 8 = .ok (.aload_n 1, 1) := by decide +kernel
theorem dX2_differences_9 : decode cX2_differences 9 = .ok (.getfield 9, 3) := by decide +kernel
theorem dX2_differences_12 : decode cX2_differences 12 = .ok (.aload_n 1, 1) := by decide +kernel
theorem dX2_differences_13 : decode cX2_differences 13 = .ok (.getfield 27, 3) := by decide +kernel
theorem dX2_differences_16 : decode cX2_differences 16 = .ok (.invokestatic 66, 3) := by decide +kernel
theorem dX2_differences_19 : decode cX2_differences 19 = .ok (.aload_n 0, 1) := by decide +kernel
theorem dX2_differences_20 : decode cX2_differences 20 = .ok (.getfield 15, 3) := by decide +kernel
theorem dX2_differences_23 : decode cX2_differences 23 = .ok (.aload_n 0, 1) := by decide +kernel
theorem dX2_differences_24 : decode cX2_differences 24 = .ok (.getfield 27, 3) := by decide +kernel
theorem dX2_differences_27 : decode cX2_differences 27 = .ok (.aload_n 1, 1) := by decide +kernel
theorem dX2_differences_28 : decode cX2_differences 28 = .ok (.getfield 15, 3) := by decide +kernel
theorem dX2_differences_31 : decode cX2_differences 31 = .ok (.aload_n 1, 1) := by decide +kernel
theorem dX2_differences_32 : decode cX2_differences 32 = .ok (.getfield 27, 3) := by decide +kernel
theorem dX2_differences_35 : decode cX2_differences 35 = .ok (.invokestatic 66, 3) := by decide +kernel
theorem dX2_differences_38 : decode cX2_differences 38 = .ok (.iadd, 1) := by decide +kernel
theorem dX2_differences_39 : decode cX2_differences 39 = .ok (.aload_n 0, 1) := by decide +kernel
theorem dX2_differences_40 : decode cX2_differences 40 = .ok (.getfield 18, 3) := by decide +kernel
theorem dX2_differences_43 : decode cX2_differences 43 = .ok (.aload_n 0, 1) := by decide +kernel
theorem dX2_differences_44 : decode cX2_differences 44 = .ok (.getfield 31, 3) := by decide +kernel
theorem dX2_differences_47 : decode cX2_differences 47 = .ok (.aload_n 1, 1) := by decide +kernel
theorem dX2_differences_48 : decode cX2_differences 48 = .ok (.getfield 18, 3) := by decide +kernel
theorem dX2_differences_51 : decode cX2_differences 51 = .ok (.aload_n 1, 1) := by decide +kernel
theorem dX2_differences_52 : decode cX2_differences 52 = .ok (.getfield 31, 3) := by decide +kernel
theorem dX2_differences_55 : decode cX2_differences 55 = .ok (.invokestatic 66, 3) := by decide +kernel
theorem dX2_differences_58 : decode cX2_differences 58 = .ok (.iadd, 1) := by decide +kernel
theorem dX2_differences_59 : decode cX2_differences 59 = .ok (.aload_n 0, 1) := by decide +kernel
theorem dX2_differences_60 : decode cX2_differences 60 = .ok (.getfield 21, 3) := by decide +kernel
theorem dX2_differences_63 : decode cX2_differences 63 = .ok (.aload_n 0, 1) := by decide +kernel
theorem dX2_differences_64 : decode cX2_differences 64 = .ok (.getfield 31, 3) := by decide +kernel
theorem dX2_differences_67 : decode cX2_differences 67 = .ok (.aload_n 1, 1) := by decide +kernel
theorem dX2_differences_68 : decode cX2_differences 68 = .ok (.getfield 21, 3) := by decide +kernel
theorem dX2_differences_71 : decode cX2_differences 71 = .ok (.aload_n 1, 1) := by decide +kernel
theorem dX2_differences_72 : decode cX2_differences 72 = .ok (.getfield 31, 3) := by decide +kernel
theorem dX2_differences_75 : decode cX2_differences 75 = .ok (.invokestatic 66, 3) := by decide +kernel
theorem dX2_differences_78 : decode cX2_differences 78 = .ok (.iadd, 1) := by decide +kernel
theorem dX2_differences_79 : decode cX2_differences 79 = .ok (.aload_n 0, 1) := by decide +kernel
theorem dX2_differences_80 : decode cX2_differences 80 = .ok (.getfield 24, 3) := by decide +kernel
theorem dX2_differences_83 : decode cX2_differences 83 = .ok (.aload_n 0, 1) := by decide +kernel
theorem dX2_differences_84 : decode cX2_differences 84 = .ok (.getfield 31, 3) := by decide +kernel
theorem dX2_differences_87 : decode cX2_differences 87 = .ok (.aload_n 1, 1) := by decide +kernel
theorem dX2_differences_88 : decode cX2_differences 88 = .ok (.getfield 24, 3) := by decide +kernel
theorem dX2_differences_91 : decode cX2_differences 91 = .ok (.aload_n 1, 1) := by decide +kernel
theorem dX2_differences_92 : decode cX2_differences 92 = .ok (.getfield 31, 3) := by decide +kernel
theorem dX2_differences_95 : decode cX2_differences 95 = .ok (.invokestatic 66, 3) := by decide +kernel
theorem dX2_differences_98 : decode cX2_differences 98 = .ok (.iadd, 1) := by decide +kernel
theorem dX2_differences_99 : decode cX2_differences 99 = .ok (.aload_n 0, 1) := by decide +kernel
theorem dX2_differences_100 : decode cX2_differences 100 = .ok (.getfield 34, 3) := by decide +kernel
theorem dX2_differences_103 : decode cX2_differences 103 = .ok (.aload_n 1, 1) := by decide +kernel
theorem dX2_differences_104 : decode cX2_differences 104 = .ok (.getfield 34, 3) := by decide +kernel
theorem dX2_differences_107 : decode cX2_differences 107 = .ok (.if_icmp .ne 7, 3) := by decide +kernel
theorem dX2_differences_110 : decode cX2_differences 110 = .ok (.iconst 0, 1) := by decide +kernel
theorem dX2_differences_111 : decode cX2_differences 111 = .ok (.goto 4, 3) := by decide +kernel
theorem dX2_differences_114 : decode cX2_differences 114 = .ok (.iconst 1, 1) := by decide +kernel
theorem dX2_differences_115 : decode cX2_differences 115 = .ok (.iadd, 1) := by decide +kernel
theorem dX2_differences_116 : decode cX2_differences 116 = .ok (.aload_n 0, 1) := by decide +kernel
theorem dX2_differences_117 : decode cX2_differences 117 = .ok (.getfield 37, 3) := by decide +kernel
theorem dX2_differences_120 : decode cX2_differences 120 = .ok (.aload_n 1, 1) := by decide +kernel
theorem dX2_differences_121 : decode cX2_differences 121 = .ok (.getfield 37, 3) := by decide +kernel
theorem dX2_differences_124 : decode cX2_differences 124 = .ok (.if_icmp .ne 7, 3) := by decide +kernel
theorem dX2_differences_127 : decode cX2_differences 127 = .ok (.iconst 0, 1) := by decide +kernel
theorem dX2_differences_128 : decode cX2_differences 128 = .ok (.goto 4, 3) := by decide +kernel
theorem dX2_differences_131 : decode cX2_differences 131 = .ok (.iconst 1, 1) := by decide +kernel
theorem dX2_differences_132 : decode cX2_differences 132 = .ok (.iadd, 1) := by decide +kernel
theorem dX2_differences_133 : decode cX2_differences 133 = .ok (.ireturn, 1) := by decide +kernel
set_option maxRecDepth 20000 in
theorem ggX3_init_X2_init : GoodIn wsX3_init wsX2_init := goodIn_r _ [10, 11, 2, 3, 12, 13, 14, 15, 16, 17, 18, 19, 20, 21, 22, 23, 24, 25, 26, 27, 28, 29, 30] (by decide +kernel) (by decide +kernel)
set_option maxRecDepth 20000 in
theorem gX3_init_X2_init_n9 : GoodIn wsX3_init (wsX2_init) := ggX3_init_X2_init
theorem dX3_init_0 : decode cX3_init 0 = .ok (.aload_n 0, 1) := by decide +kernel
theorem dX3_init_1 : decode cX3_init 1 = .ok (.invokespecial 1, 3) := by decide +kernel
theorem dX3_init_4 : decode cX3_init 4 = .ok (.aload_n 0, 1) := by decide +kernel
theorem dX3_init_5 : decode cX3_init 5 = .ok (.new 7, 3) := by decide +kernel
theorem dX3_init_8 : decode cX3_init 8 = .ok (.dup, 1) := by decide +kernel
theorem dX3_init_9 : decode cX3_init 9 = .ok (.invokespecial 9, 3) := by decide +kernel
theorem dX3_init_12 : decode cX3_init 12 = .ok (.putfield 10, 3) := by decide +kernel
theorem dX3_init_15 : decode cX3_init 15 = .ok (.aload_n 0, 1) := by decide +kernel
theorem dX3_init_16 : decode cX3_init 16 = .ok (.iconst 0, 1) := by decide +kernel
theorem dX3_init_17 : decode cX3_init 17 = .ok (.putfield 16, 3) := by decide +kernel
theorem dX3_init_20 : decode cX3_init 20 = .ok (.return_, 1) := by decide +kernel
theorem dX4_init_0 : decode cX4_init 0 = .ok (.aload_n 0, 1) := by decide +kernel
theorem dX4_init_1 : decode cX4_init 1 = .ok (.invokespecial 3, 3) := by decide +kernel
theorem dX4_init_4 : decode cX4_init 4 = .ok (.aload_n 0, 1) := by decide +kernel
theorem dX4_init_5 : decode cX4_init 5 = .ok (.bipush 18, 2) := by decide +kernel
theorem dX4_init_7 : decode cX4_init 7 = .ok (.newarray .int, 2) := by decide +kernel
theorem dX4_init_9 : decode cX4_init 9 = .ok (.putfield 11, 3) := by decide +kernel
theorem dX4_init_12 : decode cX4_init 12 = .ok (.aload_n 0, 1) := by decide +kernel
theorem dX4_init_13 : decode cX4_init 13 = .ok (.bipush 18, 2) := by decide +kernel
theorem dX4_init_15 : decode cX4_init 15 = .ok (.newarray .int, 2) := by decide +kernel
theorem dX4_init_17 : decode cX4_init 17 = .ok (.putfield 15, 3) := by decide +kernel
theorem dX4_init_20 : decode cX4_init 20 = .ok (.aload_n 0, 1) := by decide +kernel
theorem dX4_init_21 : decode cX4_init 21 = .ok (.bipush 18, 2) := by decide +kernel
theorem dX4_init_23 : decode cX4_init 23 = .ok (.newarray .int, 2) := by decide +kernel
theorem dX4_init_25 : decode cX4_init 25 = .ok (.putfield 18, 3) := by decide +kernel
theorem dX4_init_28 : decode cX4_init 28 = .ok (.aload_n 0, 1) := by decide +kernel
theorem dX4_init_29 : decode cX4_init 29 = .ok (.bipush 18, 2) := by decide +kernel
theorem dX4_init_31 : decode cX4_init 31 = .ok (.newarray .int, 2) := by decide +kernel
theorem dX4_init_33 : decode cX4_init 33 = .ok (.putfield 21, 3) := by decide +kernel
theorem dX4_init_36 : decode cX4_init 36 = .ok (.aload_n 0, 1) := by decide +kernel
theorem dX4_init_37 : decode cX4_init 37 = .ok (.bipush 18, 2) := by decide +kernel
theorem dX4_init_39 : decode cX4_init 39 = .ok (.newarray .int, 2) := by decide +kernel
theorem dX4_init_41 : decode cX4_init 41 = .ok (.putfield 24, 3) := by decide +kernel
theorem dX4_init_44 : decode cX4_init 44 = .ok (.aload_n 0, 1) := by decide +kernel
theorem dX4_init_45 : decode cX4_init 45 = .ok (.iconst 0, 1) := by decide +kernel
theorem dX4_init_46 : decode cX4_init 46 = .ok (.putfield 27, 3) := by decide +kernel
theorem dX4_init_49 : decode cX4_init 49 = .ok (.aload_n 0, 1) := by decide +kernel
theorem dX4_init_50 : decode cX4_init 50 = .ok (.iconst 0, 1) := by decide +kernel
theorem dX4_init_51 : decode cX4_init 51 = .ok (.putfield 31, 3) := by decide +kernel
theorem dX4_init_54 : decode cX4_init 54 = .ok (.aload_n 0, 1) := by decide +kernel
theorem dX4_init_55 : decode cX4_init 55 = .ok (.iconst 0, 1) := by decide +kernel
theorem dX4_init_56 : decode cX4_init 56 = .ok (.putfield 35, 3) := by decide +kernel
theorem dX4_init_59 : decode cX4_init 59 = .ok (.return_, 1) := by decide +kernel
set_option maxRecDepth 20000 in
theorem ggX4_cutUp_X2_wholeLength : GoodIn wsX4_cutUp wsX2_wholeLength := goodIn_r _ [22, 23, 24, 25, 26, 21, 27, 28, 29, 30, 31, 58, 59, 60, 61, 62, 63, 64, 65, 66] (by decide +kernel) (by decide +kernel)
set_option maxRecDepth 20000 in
theorem gX4_cutUp_X2_wholeLength : GoodIn wsX4_cutUp (wsV RX4 46 RX2 yX2_wholeLength wsX2_wholeLength) := goodIn_app (goodIn_of _ (by decide +kernel)) ggX4_cutUp_X2_wholeLength
set_option maxRecDepth 20000 in
theorem ggX4_cutUp_X2_pieceAt : GoodIn wsX4_cutUp wsX2_pieceAt := goodIn_r _ [35, 23, 28, 29, 30, 31, 58, 59, 60, 61, 62, 63, 64, 65, 66] (by decide +kernel) (by decide +kernel)
set_option maxRecDepth 20000 in
theorem gX4_cutUp_X2_pieceAt : GoodIn wsX4_cutUp (wsV RX4 50 RX2 yX2_pieceAt wsX2_pieceAt) := goodIn_app (goodIn_of _ (by decide +kernel)) ggX4_cutUp_X2_pieceAt
set_option maxRecDepth 20000 in
theorem ggX4_cutUp_X2_startOf : GoodIn wsX4_cutUp wsX2_startOf := goodIn_r _ [27, 28, 29, 30, 31, 58, 59, 60, 61, 62, 63, 64, 65, 66] (by decide +kernel) (by decide +kernel)
set_option maxRecDepth 20000 in
theorem gX4_cutUp_X2_startOf : GoodIn wsX4_cutUp (wsV RX4 54 RX2 yX2_startOf wsX2_startOf) := goodIn_app (goodIn_of _ (by decide +kernel)) ggX4_cutUp_X2_startOf
set_option maxRecDepth 20000 in
theorem ggX4_cutUp_X2_lastHoleBefore : GoodIn wsX4_cutUp wsX2_lastHoleBefore := goodIn_r _ [40, 41, 42, 43, 7, 8, 9, 29, 30, 31, 58, 59, 60, 61, 62, 63, 64, 65, 66] (by decide +kernel) (by decide +kernel)
set_option maxRecDepth 20000 in
theorem gX4_cutUp_X2_lastHoleBefore : GoodIn wsX4_cutUp (wsV RX4 57 RX2 yX2_lastHoleBefore wsX2_lastHoleBefore) := goodIn_app (goodIn_of _ (by decide +kernel)) ggX4_cutUp_X2_lastHoleBefore
set_option maxRecDepth 20000 in
theorem ggX4_cutUp_X2_holeAt : GoodIn wsX4_cutUp wsX2_holeAt := goodIn_r _ [47, 41, 42, 29, 30, 31, 58, 59, 60, 61, 62, 63, 64, 65, 66] (by decide +kernel) (by decide +kernel)
set_option maxRecDepth 20000 in
theorem gX4_cutUp_X2_holeAt : GoodIn wsX4_cutUp (wsV RX4 66 RX2 yX2_holeAt wsX2_holeAt) := goodIn_app (goodIn_of _ (by decide +kernel)) ggX4_cutUp_X2_holeAt
set_option maxRecDepth 20000 in
theorem ggX4_cutUp_X5_put : GoodIn wsX4_cutUp wsX5_put := goodIn_r _ [49] (by decide +kernel) (by decide +kernel)
set_option maxRecDepth 20000 in
theorem gX4_cutUp_X5_put_n69 : GoodIn wsX4_cutUp (wsX5_put) := ggX4_cutUp_X5_put
set_option maxRecDepth 20000 in
theorem ggX4_cutUp_X5_at : GoodIn wsX4_cutUp wsX5_at := goodIn_r _ [31] (by decide +kernel) (by decide +kernel)
set_option maxRecDepth 20000 in
theorem gX4_cutUp_X5_at_n74 : GoodIn wsX4_cutUp (wsX5_at) := ggX4_cutUp_X5_at
theorem dX4_cutUp_0 : decode cX4_cutUp 0 = .ok (.aload_n 0, 1) := by decide +kernel
theorem dX4_cutUp_1 : decode cX4_cutUp 1 = .ok (.iconst 0, 1) := by decide +kernel
theorem dX4_cutUp_2 : decode cX4_cutUp 2 = .ok (.putfield 27, 3) := by decide +kernel
theorem dX4_cutUp_5 : decode cX4_cutUp 5 = .ok (.aload_n 0, 1) := by decide +kernel
theorem dX4_cutUp_6 : decode cX4_cutUp 6 = .ok (.aload_n 1, 1) := by decide +kernel
theorem dX4_cutUp_7 : decode cX4_cutUp 7 = .ok (.getfield 38, 3) := by decide +kernel
theorem dX4_cutUp_10 : decode cX4_cutUp 10 = .ok (.iconst 1, 1) := by decide +kernel
theorem dX4_cutUp_11 : decode cX4_cutUp 11 = .ok (.if_icmp .ne 7, 3) := by decide +kernel
theorem dX4_cutUp_14 : decode cX4_cutUp 14 = .ok (.iconst 1, 1) := by decide +kernel
theorem dX4_cutUp_15 : decode cX4_cutUp 15 = .ok (.goto 4, 3) := by decide +kernel
theorem dX4_cutUp_18 : decode cX4_cutUp 18 = .ok (.iconst 0, 1) := by decide +kernel
theorem dX4_cutUp_19 : decode cX4_cutUp 19 = .ok (.putfield 31, 3) := by decide +kernel
theorem dX4_cutUp_22 : decode cX4_cutUp 22 = .ok (.aload_n 0, 1) := by decide +kernel
theorem dX4_cutUp_23 : decode cX4_cutUp 23 = .ok (.aload_n 1, 1) := by decide +kernel
theorem dX4_cutUp_24 : decode cX4_cutUp 24 = .ok (.getfield 43, 3) := by decide +kernel
theorem dX4_cutUp_27 : decode cX4_cutUp 27 = .ok (.iconst 1, 1) := by decide +kernel
theorem dX4_cutUp_28 : decode cX4_cutUp 28 = .ok (.if_icmp .ne 7, 3) := by decide +kernel
theorem dX4_cutUp_31 : decode cX4_cutUp 31 = .ok (.iconst 1, 1) := by decide +kernel
theorem dX4_cutUp_32 : decode cX4_cutUp 32 = .ok (.goto 4, 3) := by decide +kernel
theorem dX4_cutUp_35 : decode cX4_cutUp 35 = .ok (.iconst 0, 1) := by decide +kernel
theorem dX4_cutUp_36 : decode cX4_cutUp 36 = .ok (.putfield 35, 3) := by decide +kernel
theorem dX4_cutUp_39 : decode cX4_cutUp 39 = .ok (.aload_n 1, 1) := by decide +kernel
theorem dX4_cutUp_40 : decode cX4_cutUp 40 = .ok (.invokevirtual 46, 3) := by decide +kernel
theorem dX4_cutUp_43 : decode cX4_cutUp 43 = .ok (.istore_n 2, 1) := by decide +kernel
theorem dX4_cutUp_44 : decode cX4_cutUp 44 = .ok (.iconst 0, 1) := by decide +kernel
theorem dX4_cutUp_45 : decode cX4_cutUp 45 = .ok (.istore_n 3, 1) := by decide +kernel
theorem dX4_cutUp_46 : decode cX4_cutUp 46 = .ok (.iload_n 3, 1) := by decide +kernel
theorem dX4_cutUp_47 : decode cX4_cutUp 47 = .ok (.bipush 18, 2) := by decide +kernel
theorem dX4_cutUp_49 : decode cX4_cutUp 49 = .ok (.if_icmp .ge 130, 3) := by decide +kernel
theorem dX4_cutUp_52 : decode cX4_cutUp 52 = .ok (.iload_n 2, 1) := by decide +kernel
theorem dX4_cutUp_53 : decode cX4_cutUp 53 = .ok (.ifCond .le 126, 3) := by decide +kernel
theorem dX4_cutUp_56 : decode cX4_cutUp 56 = .ok (.aload_n 1, 1) := by decide +kernel
theorem dX4_cutUp_57 : decode cX4_cutUp 57 = .ok (.iload_n 2, 1) := by decide +kernel
theorem dX4_cutUp_58 : decode cX4_cutUp 58 = .ok (.invokevirtual 50, 3) := by decide +kernel
theorem dX4_cutUp_61 : decode cX4_cutUp 61 = .ok (.istore 4, 2) := by decide +kernel
theorem dX4_cutUp_63 : decode cX4_cutUp 63 = .ok (.aload_n 1, 1) := by decide +kernel
theorem dX4_cutUp_64 : decode cX4_cutUp 64 = .ok (.iload 4, 2) := by decide +kernel
theorem dX4_cutUp_66 : decode cX4_cutUp 66 = .ok (.invokevirtual 54, 3) := by decide +kernel
theorem dX4_cutUp_69 : decode cX4_cutUp 69 = .ok (.aload_n 1, 1) := by decide +kernel
theorem dX4_cutUp_70 : decode cX4_cutUp 70 = .ok (.iload_n 2, 1) := by decide +kernel
theorem dX4_cutUp_71 : decode cX4_cutUp 71 = .ok (.invokevirtual 57, 3) := by decide +kernel
theorem dX4_cutUp_74 : decode cX4_cutUp 74 = .ok (.invokestatic 60, 3) := by decide +kernel
theorem dX4_cutUp_77 : decode cX4_cutUp 77 = .ok (.istore 5, 2) := by decide +kernel
theorem dX4_cutUp_79 : decode cX4_cutUp 79 = .ok (.aload_n 1, 1) := by decide +kernel
theorem dX4_cutUp_80 : decode cX4_cutUp 80 = .ok (.iload 5, 2) := by decide +kernel
theorem dX4_cutUp_82 : decode cX4_cutUp 82 = .ok (.invokevirtual 66, 3) := by decide +kernel
theorem dX4_cutUp_85 : decode cX4_cutUp 85 = .ok (.istore 6, 2) := by decide +kernel
theorem dX4_cutUp_87 : decode cX4_cutUp 87 = .ok (.aload_n 0, 1) := by decide +kernel
theorem dX4_cutUp_88 : decode cX4_cutUp 88 = .ok (.getfield 11, 3) := by decide +kernel
theorem dX4_cutUp_91 : decode cX4_cutUp 91 = .ok (.iload_n 3, 1) := by decide +kernel
theorem dX4_cutUp_92 : decode cX4_cutUp 92 = .ok (.iload_n 2, 1) := by decide +kernel
theorem dX4_cutUp_93 : decode cX4_cutUp 93 = .ok (.iload 5, 2) := by decide +kernel
theorem dX4_cutUp_95 : decode cX4_cutUp 95 = .ok (.isub, 1) := by decide +kernel
theorem dX4_cutUp_96 : decode cX4_cutUp 96 = .ok (.invokestatic 69, 3) := by decide +kernel
theorem dX4_cutUp_99 : decode cX4_cutUp 99 = .ok (.aload_n 0, 1) := by decide +kernel
theorem dX4_cutUp_100 : decode cX4_cutUp 100 = .ok (.getfield 15, 3) := by decide +kernel
theorem dX4_cutUp_103 : decode cX4_cutUp 103 = .ok (.iload_n 3, 1) := by decide +kernel
theorem dX4_cutUp_104 : decode cX4_cutUp 104 = .ok (.aload_n 1, 1) := by decide +kernel
theorem dX4_cutUp_105 : decode cX4_cutUp 105 = .ok (.getfield 73, 3) := by decide +kernel
theorem dX4_cutUp_108 : decode cX4_cutUp 108 = .ok (.iload 4, 2) := by decide +kernel
theorem dX4_cutUp_110 : decode cX4_cutUp 110 = .ok (.invokestatic 74, 3) := by decide +kernel
theorem dX4_cutUp_113 : decode cX4_cutUp 113 = .ok (.invokestatic 69, 3) := by decide +kernel
theorem dX4_cutUp_116 : decode cX4_cutUp 116 = .ok (.aload_n 0, 1) := by decide +kernel
theorem dX4_cutUp_117 : decode cX4_cutUp 117 = .ok (.getfield 18, 3) := by decide +kernel
theorem dX4_cutUp_120 : decode cX4_cutUp 120 = .ok (.iload_n 3, 1) := by decide +kernel
theorem dX4_cutUp_121 : decode cX4_cutUp 121 = .ok (.iload 6, 2) := by decide +kernel
theorem dX4_cutUp_123 : decode cX4_cutUp 123 = .ok (.invokestatic 69, 3) := by decide +kernel
theorem dX4_cutUp_126 : decode cX4_cutUp 126 = .ok (.aload_n 0, 1) := by decide +kernel
theorem dX4_cutUp_127 : decode cX4_cutUp 127 = .ok (.getfield 21, 3) := by decide +kernel
theorem dX4_cutUp_130 : decode cX4_cutUp 130 = .ok (.iload_n 3, 1) := by decide +kernel
theorem dX4_cutUp_131 : decode cX4_cutUp 131 = .ok (.aload_n 1, 1) := by decide +kernel
theorem dX4_cutUp_132 : decode cX4_cutUp 132 = .ok (.getfield 78, 3) := by decide +kernel
theorem dX4_cutUp_135 : decode cX4_cutUp 135 = .ok (.iload 6, 2) := by decide +kernel
theorem dX4_cutUp_137 : decode cX4_cutUp 137 = .ok (.invokestatic 74, 3) := by decide +kernel
theorem dX4_cutUp_140 : decode cX4_cutUp 140 = .ok (.invokestatic 69, 3) := by decide +kernel
theorem dX4_cutUp_143 : decode cX4_cutUp 143 = .ok (.aload_n 0, 1) := by decide +kernel
theorem dX4_cutUp_144 : decode cX4_cutUp 144 = .ok (.getfield 24, 3) := by decide +kernel
theorem dX4_cutUp_147 : decode cX4_cutUp 147 = .ok (.iload_n 3, 1) := by decide +kernel
theorem dX4_cutUp_148 : decode cX4_cutUp 148 = .ok (.aload_n 1, 1) := by decide +kernel
theorem dX4_cutUp_149 : decode cX4_cutUp 149 = .ok (.getfield 79, 3) := by decide +kernel
theorem dX4_cutUp_152 : decode cX4_cutUp 152 = .ok (.iload 6, 2) := by decide +kernel
theorem dX4_cutUp_154 : decode cX4_cutUp 154 = .ok (.invokestatic 74, 3) := by decide +kernel
theorem dX4_cutUp_157 : decode cX4_cutUp 157 = .ok (.invokestatic 69, 3) := by decide +kernel
theorem dX4_cutUp_160 : decode cX4_cutUp 160 = .ok (.aload_n 0, 1) := by decide +kernel
theorem dX4_cutUp_161 : decode cX4_cutUp 161 = .ok (.dup, 1) := by decide +kernel
theorem dX4_cutUp_162 : decode cX4_cutUp 162 = .ok (.getfield 27, 3) := by decide +kernel
theorem dX4_cutUp_165 : decode cX4_cutUp 165 = .ok (.iconst 1, 1) := by decide +kernel
theorem dX4_cutUp_166 : decode cX4_cutUp 166 = .ok (.iadd, 1) := by decide +kernel
theorem dX4_cutUp_167 : decode cX4_cutUp 167 = .ok (.putfield 27, 3) := by decide +kernel
theorem dX4_cutUp_170 : decode cX4_cutUp 170 = .ok (.iload 5, 2) := by decide +kernel
theorem dX4_cutUp_172 : decode cX4_cutUp 172 = .ok (.istore_n 2, 1) := by decide +kernel
theorem dX4_cutUp_173 : decode cX4_cutUp 173 = .ok (.iinc 3 1, 3) := by decide +kernel
theorem dX4_cutUp_176 : decode cX4_cutUp 176 = .ok (.goto (-130), 3) := by decide +kernel
theorem dX4_cutUp_179 : decode cX4_cutUp 179 = .ok (.return_, 1) := by decide +kernel
set_option maxRecDepth 20000 in
theorem ggX4_worthOf_X5_at : GoodIn wsX4_worthOf wsX5_at := goodIn_r _ [14] (by decide +kernel) (by decide +kernel)
set_option maxRecDepth 20000 in
theorem gX4_worthOf_X5_at_n74 : GoodIn wsX4_worthOf (wsX5_at) := ggX4_worthOf_X5_at
set_option maxRecDepth 20000 in
theorem ggX4_worthOf_X5_sineOf : GoodIn wsX4_worthOf wsX5_sineOf := goodIn_r _ [16, 17, 18, 19, 20, 21, 22, 13, 23] (by decide +kernel) (by decide +kernel)
set_option maxRecDepth 20000 in
theorem gX4_worthOf_X5_sineOf_n83 : GoodIn wsX4_worthOf (wsX5_sineOf) := ggX4_worthOf_X5_sineOf
set_option maxRecDepth 20000 in
theorem ggX4_worthOf_X5_quotient : GoodIn wsX4_worthOf wsX5_quotient := goodIn_r _ [23] (by decide +kernel) (by decide +kernel)
set_option maxRecDepth 20000 in
theorem gX4_worthOf_X5_quotient_n89 : GoodIn wsX4_worthOf (wsX5_quotient) := ggX4_worthOf_X5_quotient
set_option maxRecDepth 20000 in
theorem ggX4_worthOf_X4_shiftFor : GoodIn wsX4_worthOf wsX4_shiftFor := goodIn_r _ [27, 28, 29, 26, 30, 31, 32] (by decide +kernel) (by decide +kernel)
set_option maxRecDepth 20000 in
theorem gX4_worthOf_X4_shiftFor : GoodIn wsX4_worthOf (va_wsS RX4 93 yX4_shiftFor wsX4_shiftFor) := goodIn_app (goodIn_of _ (by decide +kernel)) ggX4_worthOf_X4_shiftFor
set_option maxRecDepth 20000 in
theorem ggX4_worthOf_X4_isOpen : GoodIn wsX4_worthOf wsX4_isOpen := goodIn_r _ [36, 37, 12, 13, 14, 38, 39, 40, 41, 42, 43, 44, 45] (by decide +kernel) (by decide +kernel)
set_option maxRecDepth 20000 in
theorem gX4_worthOf_X4_isOpen : GoodIn wsX4_worthOf (wsV RX4 97 RX4 yX4_isOpen wsX4_isOpen) := goodIn_app (goodIn_of _ (by decide +kernel)) ggX4_worthOf_X4_isOpen
theorem dX4_worthOf_0 : decode cX4_worthOf 0 = .ok (.aload_n 0, 1) := by decide +kernel
theorem dX4_worthOf_1 : decode cX4_worthOf 1 = .ok (.getfield 31, 3) := by decide +kernel
theorem dX4_worthOf_4 : decode cX4_worthOf 4 = .ok (.ifCond .eq 9, 3) := by decide +kernel
theorem dX4_worthOf_7 : decode cX4_worthOf 7 = .ok (.ldc2_w 80, 3) := by decide +kernel
theorem dX4_worthOf_10 : decode cX4_worthOf 10 = .ok (.goto 4, 3) := by decide +kernel
theorem dX4_worthOf_13 : decode cX4_worthOf 13 = .ok (.lconst 0, 1) := by decide +kernel
theorem dX4_worthOf_14 : decode cX4_worthOf 14 = .ok (.lstore_n 3, 1) := by decide +kernel
theorem dX4_worthOf_15 : decode cX4_worthOf 15 = .ok (.aload_n 0, 1) := by decide +kernel
theorem dX4_worthOf_16 : decode cX4_worthOf 16 = .ok (.getfield 31, 3) := by decide +kernel
theorem dX4_worthOf_19 : decode cX4_worthOf 19 = .ok (.ifCond .eq 7, 3) := by decide +kernel
theorem dX4_worthOf_22 : decode cX4_worthOf 22 = .ok (.lconst 0, 1) := by decide +kernel
theorem dX4_worthOf_23 : decode cX4_worthOf 23 = .ok (.goto 6, 3) := by decide +kernel
theorem dX4_worthOf_26 : decode cX4_worthOf 26 = .ok (.ldc2_w 80, 3) := by decide +kernel
theorem dX4_worthOf_29 : decode cX4_worthOf 29 = .ok (.lstore 5, 2) := by decide +kernel
theorem dX4_worthOf_31 : decode cX4_worthOf 31 = .ok (.iconst 0, 1) := by decide +kernel
theorem dX4_worthOf_32 : decode cX4_worthOf 32 = .ok (.istore 7, 2) := by decide +kernel
theorem dX4_worthOf_34 : decode cX4_worthOf 34 = .ok (.iload 7, 2) := by decide +kernel
theorem dX4_worthOf_36 : decode cX4_worthOf 36 = .ok (.aload_n 0, 1) := by decide +kernel
theorem dX4_worthOf_37 : decode cX4_worthOf 37 = .ok (.getfield 27, 3) := by decide +kernel
theorem dX4_worthOf_40 : decode cX4_worthOf 40 = .ok (.if_icmp .ge 202, 3) := by decide +kernel
theorem dX4_worthOf_43 : decode cX4_worthOf 43 = .ok (.iload_n 1, 1) := by decide +kernel
theorem dX4_worthOf_44 : decode cX4_worthOf 44 = .ok (.aload_n 0, 1) := by decide +kernel
theorem dX4_worthOf_45 : decode cX4_worthOf 45 = .ok (.getfield 11, 3) := by decide +kernel
theorem dX4_worthOf_48 : decode cX4_worthOf 48 = .ok (.iload 7, 2) := by decide +kernel
theorem dX4_worthOf_50 : decode cX4_worthOf 50 = .ok (.invokestatic 74, 3) := by decide +kernel
theorem dX4_worthOf_53 : decode cX4_worthOf 53 = .ok (.imul, 1) := by decide +kernel
theorem dX4_worthOf_54 : decode cX4_worthOf 54 = .ok (.bipush 16, 2) := by decide +kernel
theorem dX4_worthOf_56 : decode cX4_worthOf 56 = .ok (.imul, 1) := by decide +kernel
theorem dX4_worthOf_57 : decode cX4_worthOf 57 = .ok (.ldc 82, 2) := by decide +kernel
theorem dX4_worthOf_59 : decode cX4_worthOf 59 = .ok (.iand, 1) := by decide +kernel
theorem dX4_worthOf_60 : decode cX4_worthOf 60 = .ok (.istore 8, 2) := by decide +kernel
theorem dX4_worthOf_62 : decode cX4_worthOf 62 = .ok (.iload 8, 2) := by decide +kernel
theorem dX4_worthOf_64 : decode cX4_worthOf 64 = .ok (.invokestatic 83, 3) := by decide +kernel
theorem dX4_worthOf_67 : decode cX4_worthOf 67 = .ok (.lstore 9, 2) := by decide +kernel
theorem dX4_worthOf_69 : decode cX4_worthOf 69 = .ok (.iload 8, 2) := by decide +kernel
theorem dX4_worthOf_71 : decode cX4_worthOf 71 = .ok (.sipush 16384, 3) := by decide +kernel
theorem dX4_worthOf_74 : decode cX4_worthOf 74 = .ok (.iadd, 1) := by decide +kernel
theorem dX4_worthOf_75 : decode cX4_worthOf 75 = .ok (.ldc 82, 2) := by decide +kernel
theorem dX4_worthOf_77 : decode cX4_worthOf 77 = .ok (.iand, 1) := by decide +kernel
theorem dX4_worthOf_78 : decode cX4_worthOf 78 = .ok (.invokestatic 83, 3) := by decide +kernel
theorem dX4_worthOf_81 : decode cX4_worthOf 81 = .ok (.lstore 11, 2) := by decide +kernel
theorem dX4_worthOf_83 : decode cX4_worthOf 83 = .ok (.aload_n 0, 1) := by decide +kernel
theorem dX4_worthOf_84 : decode cX4_worthOf 84 = .ok (.getfield 15, 3) := by decide +kernel
theorem dX4_worthOf_87 : decode cX4_worthOf 87 = .ok (.iload 7, 2) := by decide +kernel
theorem dX4_worthOf_89 : decode cX4_worthOf 89 = .ok (.invokestatic 74, 3) := by decide +kernel
theorem dX4_worthOf_92 : decode cX4_worthOf 92 = .ok (.aload_n 0, 1) := by decide +kernel
theorem dX4_worthOf_93 : decode cX4_worthOf 93 = .ok (.getfield 15, 3) := by decide +kernel
theorem dX4_worthOf_96 : decode cX4_worthOf 96 = .ok (.iload 7, 2) := by decide +kernel
theorem dX4_worthOf_98 : decode cX4_worthOf 98 = .ok (.invokestatic 74, 3) := by decide +kernel
theorem dX4_worthOf_101 : decode cX4_worthOf 101 = .ok (.imul, 1) := by decide +kernel
theorem dX4_worthOf_102 : decode cX4_worthOf 102 = .ok (.i2l, 1) := by decide +kernel
theorem dX4_worthOf_103 : decode cX4_worthOf 103 = .ok (.lstore 13, 2) := by decide +kernel
theorem dX4_worthOf_105 : decode cX4_worthOf 105 = .ok (.lload_n 3, 1) := by decide +kernel
theorem dX4_worthOf_106 : decode cX4_worthOf 106 = .ok (.lload 11, 2) := by decide +kernel
theorem dX4_worthOf_108 : decode cX4_worthOf 108 = .ok (.lmul, 1) := by decide +kernel
theorem dX4_worthOf_109 : decode cX4_worthOf 109 = .ok (.bipush 15, 2) := by decide +kernel
theorem dX4_worthOf_111 : decode cX4_worthOf 111 = .ok (.lshr, 1) := by decide +kernel
theorem dX4_worthOf_112 : decode cX4_worthOf 112 = .ok (.lload 5, 2) := by decide +kernel
theorem dX4_worthOf_114 : decode cX4_worthOf 114 = .ok (.lload 9, 2) := by decide +kernel
theorem dX4_worthOf_116 : decode cX4_worthOf 116 = .ok (.lmul, 1) := by decide +kernel
theorem dX4_worthOf_117 : decode cX4_worthOf 117 = .ok (.bipush 15, 2) := by decide +kernel
theorem dX4_worthOf_119 : decode cX4_worthOf 119 = .ok (.lshr, 1) := by decide +kernel
theorem dX4_worthOf_120 : decode cX4_worthOf 120 = .ok (.ldc2_w 87, 3) := by decide +kernel
theorem dX4_worthOf_123 : decode cX4_worthOf 123 = .ok (.lmul, 1) := by decide +kernel
theorem dX4_worthOf_124 : decode cX4_worthOf 124 = .ok (.lload 13, 2) := by decide +kernel
theorem dX4_worthOf_126 : decode cX4_worthOf 126 = .ok (.invokestatic 89, 3) := by decide +kernel
theorem dX4_worthOf_129 : decode cX4_worthOf 129 = .ok (.ladd, 1) := by decide +kernel
theorem dX4_worthOf_130 : decode cX4_worthOf 130 = .ok (.lstore 15, 2) := by decide +kernel
theorem dX4_worthOf_132 : decode cX4_worthOf 132 = .ok (.lload 5, 2) := by decide +kernel
theorem dX4_worthOf_134 : decode cX4_worthOf 134 = .ok (.lload 11, 2) := by decide +kernel
theorem dX4_worthOf_136 : decode cX4_worthOf 136 = .ok (.lmul, 1) := by decide +kernel
theorem dX4_worthOf_137 : decode cX4_worthOf 137 = .ok (.bipush 15, 2) := by decide +kernel
theorem dX4_worthOf_139 : decode cX4_worthOf 139 = .ok (.lshr, 1) := by decide +kernel
theorem dX4_worthOf_140 : decode cX4_worthOf 140 = .ok (.lload_n 3, 1) := by decide +kernel
theorem dX4_worthOf_141 : decode cX4_worthOf 141 = .ok (.lload 9, 2) := by decide +kernel
theorem dX4_worthOf_143 : decode cX4_worthOf 143 = .ok (.lmul, 1) := by decide +kernel
theorem dX4_worthOf_144 : decode cX4_worthOf 144 = .ok (.bipush 15, 2) := by decide +kernel
theorem dX4_worthOf_146 : decode cX4_worthOf 146 = .ok (.lshr, 1) := by decide +kernel
theorem dX4_worthOf_147 : decode cX4_worthOf 147 = .ok (.lload 13, 2) := by decide +kernel
theorem dX4_worthOf_149 : decode cX4_worthOf 149 = .ok (.lmul, 1) := by decide +kernel
theorem dX4_worthOf_150 : decode cX4_worthOf 150 = .ok (.ldc2_w 87, 3) := by decide +kernel
theorem dX4_worthOf_153 : decode cX4_worthOf 153 = .ok (.ldiv, 1) := by decide +kernel
theorem dX4_worthOf_154 : decode cX4_worthOf 154 = .ok (.lsub, 1) := by decide +kernel
theorem dX4_worthOf_155 : decode cX4_worthOf 155 = .ok (.lstore 17, 2) := by decide +kernel
theorem dX4_worthOf_157 : decode cX4_worthOf 157 = .ok (.lload 15, 2) := by decide +kernel
theorem dX4_worthOf_159 : decode cX4_worthOf 159 = .ok (.lload 17, 2) := by decide +kernel
theorem dX4_worthOf_161 : decode cX4_worthOf 161 = .ok (.invokestatic 93, 3) := by decide +kernel
theorem dX4_worthOf_164 : decode cX4_worthOf 164 = .ok (.istore 19, 2) := by decide +kernel
theorem dX4_worthOf_166 : decode cX4_worthOf 166 = .ok (.lload 15, 2) := by decide +kernel
theorem dX4_worthOf_168 : decode cX4_worthOf 168 = .ok (.iload 19, 2) := by decide +kernel
theorem dX4_worthOf_170 : decode cX4_worthOf 170 = .ok (.lshr, 1) := by decide +kernel
theorem dX4_worthOf_171 : decode cX4_worthOf 171 = .ok (.lstore_n 3, 1) := by decide +kernel
theorem dX4_worthOf_172 : decode cX4_worthOf 172 = .ok (.lload 17, 2) := by decide +kernel
theorem dX4_worthOf_174 : decode cX4_worthOf 174 = .ok (.iload 19, 2) := by decide +kernel
theorem dX4_worthOf_176 : decode cX4_worthOf 176 = .ok (.lshr, 1) := by decide +kernel
theorem dX4_worthOf_177 : decode cX4_worthOf 177 = .ok (.lstore 5, 2) := by decide +kernel
theorem dX4_worthOf_179 : decode cX4_worthOf 179 = .ok (.aload_n 0, 1) := by decide +kernel
theorem dX4_worthOf_180 : decode cX4_worthOf 180 = .ok (.iload 7, 2) := by decide +kernel
theorem dX4_worthOf_182 : decode cX4_worthOf 182 = .ok (.iload_n 2, 1) := by decide +kernel
theorem dX4_worthOf_183 : decode cX4_worthOf 183 = .ok (.invokevirtual 97, 3) := by decide +kernel
theorem dX4_worthOf_186 : decode cX4_worthOf 186 = .ok (.ifCond .eq 50, 3) := by decide +kernel
theorem dX4_worthOf_189 : decode cX4_worthOf 189 = .ok (.aload_n 0, 1) := by decide +kernel
theorem dX4_worthOf_190 : decode cX4_worthOf 190 = .ok (.getfield 21, 3) := by decide +kernel
theorem dX4_worthOf_193 : decode cX4_worthOf 193 = .ok (.iload 7, 2) := by decide +kernel
theorem dX4_worthOf_195 : decode cX4_worthOf 195 = .ok (.invokestatic 74, 3) := by decide +kernel
theorem dX4_worthOf_198 : decode cX4_worthOf 198 = .ok (.i2l, 1) := by decide +kernel
theorem dX4_worthOf_199 : decode cX4_worthOf 199 = .ok (.lstore 20, 2) := by decide +kernel
theorem dX4_worthOf_201 : decode cX4_worthOf 201 = .ok (.lload 5, 2) := by decide +kernel
theorem dX4_worthOf_203 : decode cX4_worthOf 203 = .ok (.lload_n 3, 1) := by decide +kernel
theorem dX4_worthOf_204 : decode cX4_worthOf 204 = .ok (.lload 20, 2) := by decide +kernel
theorem dX4_worthOf_206 : decode cX4_worthOf 206 = .ok (.lload 20, 2) := by decide +kernel
theorem dX4_worthOf_208 : decode cX4_worthOf 208 = .ok (.lmul, 1) := by decide +kernel
theorem dX4_worthOf_209 : decode cX4_worthOf 209 = .ok (.lmul, 1) := by decide +kernel
theorem dX4_worthOf_210 : decode cX4_worthOf 210 = .ok (.ldc2_w 101, 3) := by decide +kernel
theorem dX4_worthOf_213 : decode cX4_worthOf 213 = .ok (.lload 20, 2) := by decide +kernel
theorem dX4_worthOf_215 : decode cX4_worthOf 215 = .ok (.aload_n 0, 1) := by decide +kernel
theorem dX4_worthOf_216 : decode cX4_worthOf 216 = .ok (.getfield 24, 3) := by decide +kernel
theorem dX4_worthOf_219 : decode cX4_worthOf 219 = .ok (.iload 7, 2) := by decide +kernel
theorem dX4_worthOf_221 : decode cX4_worthOf 221 = .ok (.invokestatic 74, 3) := by decide +kernel
theorem dX4_worthOf_224 : decode cX4_worthOf 224 = .ok (.i2l, 1) := by decide +kernel
theorem dX4_worthOf_225 : decode cX4_worthOf 225 = .ok (.ladd, 1) := by decide +kernel
theorem dX4_worthOf_226 : decode cX4_worthOf 226 = .ok (.lmul, 1) := by decide +kernel
theorem dX4_worthOf_227 : decode cX4_worthOf 227 = .ok (.iload_n 1, 1) := by decide +kernel
theorem dX4_worthOf_228 : decode cX4_worthOf 228 = .ok (.i2l, 1) := by decide +kernel
theorem dX4_worthOf_229 : decode cX4_worthOf 229 = .ok (.lmul, 1) := by decide +kernel
theorem dX4_worthOf_230 : decode cX4_worthOf 230 = .ok (.invokestatic 89, 3) := by decide +kernel
theorem dX4_worthOf_233 : decode cX4_worthOf 233 = .ok (.ladd, 1) := by decide +kernel
theorem dX4_worthOf_234 : decode cX4_worthOf 234 = .ok (.lstore 5, 2) := by decide +kernel
theorem dX4_worthOf_236 : decode cX4_worthOf 236 = .ok (.iinc 7 1, 3) := by decide +kernel
theorem dX4_worthOf_239 : decode cX4_worthOf 239 = .ok (.goto (-205), 3) := by decide +kernel
theorem dX4_worthOf_242 : decode cX4_worthOf 242 = .ok (.aload_n 0, 1) := by decide +kernel
theorem dX4_worthOf_243 : decode cX4_worthOf 243 = .ok (.getfield 35, 3) := by decide +kernel
theorem dX4_worthOf_246 : decode cX4_worthOf 246 = .ok (.ifCond .eq 8, 3) := by decide +kernel
theorem dX4_worthOf_249 : decode cX4_worthOf 249 = .ok (.lload 5, 2) := by decide +kernel
theorem dX4_worthOf_251 : decode cX4_worthOf 251 = .ok (.goto 4, 3) := by decide +kernel
theorem dX4_worthOf_254 : decode cX4_worthOf 254 = .ok (.lload_n 3, 1) := by decide +kernel
theorem dX4_worthOf_255 : decode cX4_worthOf 255 = .ok (.lreturn, 1) := by decide +kernel
set_option maxRecDepth 20000 in
theorem ggX4_isOpen_X5_at : GoodIn wsX4_isOpen wsX5_at := goodIn_r _ [4] (by decide +kernel) (by decide +kernel)
set_option maxRecDepth 20000 in
theorem gX4_isOpen_X5_at_n74 : GoodIn wsX4_isOpen (wsX5_at) := ggX4_isOpen_X5_at
theorem dX4_isOpen_0 : decode cX4_isOpen 0 = .ok (.aload_n 0, 1) := by decide +kernel
theorem dX4_isOpen_1 : decode cX4_isOpen 1 = .ok (.getfield 18, 3) := by decide +kernel
theorem dX4_isOpen_4 : decode cX4_isOpen 4 = .ok (.iload_n 1, 1) := by decide +kernel
theorem dX4_isOpen_5 : decode cX4_isOpen 5 = .ok (.invokestatic 74, 3) := by decide +kernel
theorem dX4_isOpen_8 : decode cX4_isOpen 8 = .ok (.istore_n 3, 1) := by decide +kernel
theorem dX4_isOpen_9 : decode cX4_isOpen 9 = .ok (.iload_n 3, 1) := by decide +kernel
theorem dX4_isOpen_10 : decode cX4_isOpen 10 = .ok (.iconst (-1), 1) := by decide +kernel
theorem dX4_isOpen_11 : decode cX4_isOpen 11 = .ok (.if_icmp .eq 16, 3) := by decide +kernel
theorem dX4_isOpen_14 : decode cX4_isOpen 14 = .ok (.iload_n 2, 1) := by decide +kernel
theorem dX4_isOpen_15 : decode cX4_isOpen 15 = .ok (.iload_n 3, 1) := by decide +kernel
theorem dX4_isOpen_16 : decode cX4_isOpen 16 = .ok (.ishr, 1) := by decide +kernel
theorem dX4_isOpen_17 : decode cX4_isOpen 17 = .ok (.iconst 1, 1) := by decide +kernel
theorem dX4_isOpen_18 : decode cX4_isOpen 18 = .ok (.iand, 1) := by decide +kernel
theorem dX4_isOpen_19 : decode cX4_isOpen 19 = .ok (.iconst 1, 1) := by decide +kernel
theorem dX4_isOpen_20 : decode cX4_isOpen 20 = .ok (.if_icmp .ne 7, 3) := by decide +kernel
theorem dX4_isOpen_23 : decode cX4_isOpen 23 = .ok (.iconst 1, 1) := by decide +kernel
theorem dX4_isOpen_24 : decode cX4_isOpen 24 = .ok (.goto 4, 3) := by decide +kernel
theorem dX4_isOpen_27 : decode cX4_isOpen 27 = .ok (.iconst 0, 1) := by decide +kernel
theorem dX4_isOpen_28 : decode cX4_isOpen 28 = .ok (.ireturn, 1) := by decide +kernel
set_option maxRecDepth 20000 in
theorem ggX4_shiftFor_X4_isTooBig : GoodIn wsX4_shiftFor wsX4_isTooBig := goodIn_r _ [4, 5, 6] (by decide +kernel) (by decide +kernel)
set_option maxRecDepth 20000 in
theorem gX4_shiftFor_X4_isTooBig : GoodIn wsX4_shiftFor (va_wsS RX4 103 yX4_isTooBig wsX4_isTooBig) := goodIn_app (goodIn_of _ (by decide +kernel)) ggX4_shiftFor_X4_isTooBig
theorem dX4_shiftFor_0 : decode cX4_shiftFor 0 = .ok (.iconst 0, 1) := by decide +kernel
theorem dX4_shiftFor_1 : decode cX4_shiftFor 1 = .ok (.istore 4, 2) := by decide +kernel
theorem dX4_shiftFor_3 : decode cX4_shiftFor 3 = .ok (.iload 4, 2) := by decide +kernel
theorem dX4_shiftFor_5 : decode cX4_shiftFor 5 = .ok (.bipush 56, 2) := by decide +kernel
theorem dX4_shiftFor_7 : decode cX4_shiftFor 7 = .ok (.if_icmp .ge 29, 3) := by decide +kernel
theorem dX4_shiftFor_10 : decode cX4_shiftFor 10 = .ok (.lload_n 0, 1) := by decide +kernel
theorem dX4_shiftFor_11 : decode cX4_shiftFor 11 = .ok (.iload 4, 2) := by decide +kernel
theorem dX4_shiftFor_13 : decode cX4_shiftFor 13 = .ok (.lshr, 1) := by decide +kernel
theorem dX4_shiftFor_14 : decode cX4_shiftFor 14 = .ok (.invokestatic 103, 3) := by decide +kernel
theorem dX4_shiftFor_17 : decode cX4_shiftFor 17 = .ok (.ifCond .ne 13, 3) := by decide +kernel
theorem dX4_shiftFor_20 : decode cX4_shiftFor 20 = .ok (.lload_n 2, 1) := by decide +kernel
theorem dX4_shiftFor_21 : decode cX4_shiftFor 21 = .ok (.iload 4, 2) := by decide +kernel
theorem dX4_shiftFor_23 : decode cX4_shiftFor 23 = .ok (.lshr, 1) := by decide +kernel
theorem dX4_shiftFor_24 : decode cX4_shiftFor 24 = .ok (.invokestatic 103, 3) := by decide +kernel
theorem dX4_shiftFor_27 : decode cX4_shiftFor 27 = .ok (.ifCond .eq 9, 3) := by decide +kernel
theorem dX4_shiftFor_30 : decode cX4_shiftFor 30 = .ok (.iinc 4 8, 3) := by decide +kernel
theorem dX4_shiftFor_33 : decode cX4_shiftFor 33 = .ok (.goto (-30), 3) := by decide +kernel
theorem dX4_shiftFor_36 : decode cX4_shiftFor 36 = .ok (.iload 4, 2) := by decide +kernel
theorem dX4_shiftFor_38 : decode cX4_shiftFor 38 = .ok (.ireturn, 1) := by decide +kernel
theorem dX4_isTooBig_0 : decode cX4_isTooBig 0 = .ok (.lload_n 0, 1) := by decide +kernel
theorem dX4_isTooBig_1 : decode cX4_isTooBig 1 = .ok (.ldc2_w 107, 3) := by decide +kernel
theorem dX4_isTooBig_4 : decode cX4_isTooBig 4 = .ok (.lcmp, 1) := by decide +kernel
theorem dX4_isTooBig_5 : decode cX4_isTooBig 5 = .ok (.ifCond .ge 11, 3) := by decide +kernel
theorem dX4_isTooBig_8 : decode cX4_isTooBig 8 = .ok (.lload_n 0, 1) := by decide +kernel
theorem dX4_isTooBig_9 : decode cX4_isTooBig 9 = .ok (.ldc2_w 109, 3) := by decide +kernel
theorem dX4_isTooBig_12 : decode cX4_isTooBig 12 = .ok (.lcmp, 1) := by decide +kernel
theorem dX4_isTooBig_13 : decode cX4_isTooBig 13 = .ok (.ifCond .gt 7, 3) := by decide +kernel
theorem dX4_isTooBig_16 : decode cX4_isTooBig 16 = .ok (.iconst 1, 1) := by decide +kernel
theorem dX4_isTooBig_17 : decode cX4_isTooBig 17 = .ok (.goto 4, 3) := by decide +kernel
theorem dX4_isTooBig_20 : decode cX4_isTooBig 20 = .ok (.iconst 0, 1) := by decide +kernel
theorem dX4_isTooBig_21 : decode cX4_isTooBig 21 = .ok (.ireturn, 1) := by decide +kernel
set_option maxRecDepth 20000 in
theorem ggX4_findTone_X4_worthOf : GoodIn wsX4_findTone wsX4_worthOf := goodIn_r _ [5, 6, 7, 8, 9, 10, 11, 12, 13, 14, 15, 16, 17, 18, 19, 20, 21, 22, 23, 24, 25, 26, 27, 28, 29, 30, 4, 31, 32, 33, 34, 35, 36, 37, 38, 39, 40, 41, 42, 43, 44, 45, 46, 47, 48, 49] (by decide +kernel) (by decide +kernel)
set_option maxRecDepth 20000 in
theorem gX4_findTone_X4_worthOf : GoodIn wsX4_findTone (wsV RX4 111 RX4 yX4_worthOf wsX4_worthOf) := goodIn_app (goodIn_of _ (by decide +kernel)) ggX4_findTone_X4_worthOf
theorem dX4_findTone_0 : decode cX4_findTone 0 = .ok (.iconst 0, 1) := by decide +kernel
theorem dX4_findTone_1 : decode cX4_findTone 1 = .ok (.istore_n 3, 1) := by decide +kernel
theorem dX4_findTone_2 : decode cX4_findTone 2 = .ok (.aload_n 0, 1) := by decide +kernel
theorem dX4_findTone_3 : decode cX4_findTone 3 = .ok (.iconst 1, 1) := by decide +kernel
theorem dX4_findTone_4 : decode cX4_findTone 4 = .ok (.iload_n 1, 1) := by decide +kernel
theorem dX4_findTone_5 : decode cX4_findTone 5 = .ok (.invokevirtual 111, 3) := by decide +kernel
theorem dX4_findTone_8 : decode cX4_findTone 8 = .ok (.lconst 0, 1) := by decide +kernel
theorem dX4_findTone_9 : decode cX4_findTone 9 = .ok (.lcmp, 1) := by decide +kernel
theorem dX4_findTone_10 : decode cX4_findTone 10 = .ok (.ifCond .le 7, 3) := by decide +kernel
theorem dX4_findTone_13 : decode cX4_findTone 13 = .ok (.iconst 1, 1) := by decide +kernel
theorem dX4_findTone_14 : decode cX4_findTone 14 = .ok (.goto 4, 3) := by decide +kernel
theorem dX4_findTone_17 : decode cX4_findTone 17 = .ok (.iconst 0, 1) := by decide +kernel
theorem dX4_findTone_18 : decode cX4_findTone 18 = .ok (.istore 4, 2) := by decide +kernel
theorem dX4_findTone_20 : decode cX4_findTone 20 = .ok (.iconst 1, 1) := by decide +kernel
theorem dX4_findTone_21 : decode cX4_findTone 21 = .ok (.istore 5, 2) := by decide +kernel
theorem dX4_findTone_23 : decode cX4_findTone 23 = .ok (.iload 5, 2) := by decide +kernel
theorem dX4_findTone_25 : decode cX4_findTone 25 = .ok (.sipush 300, 3) := by decide +kernel
theorem dX4_findTone_28 : decode cX4_findTone 28 = .ok (.if_icmp .ge 52, 3) := by decide +kernel
theorem dX4_findTone_31 : decode cX4_findTone 31 = .ok (.aload_n 0, 1) := by decide +kernel
theorem dX4_findTone_32 : decode cX4_findTone 32 = .ok (.iload 5, 2) := by decide +kernel
theorem dX4_findTone_34 : decode cX4_findTone 34 = .ok (.iconst 1, 1) := by decide +kernel
theorem dX4_findTone_35 : decode cX4_findTone 35 = .ok (.iadd, 1) := by decide +kernel
theorem dX4_findTone_36 : decode cX4_findTone 36 = .ok (.iload_n 1, 1) := by decide +kernel
theorem dX4_findTone_37 : decode cX4_findTone 37 = .ok (.invokevirtual 111, 3) := by decide +kernel
theorem dX4_findTone_40 : decode cX4_findTone 40 = .ok (.lconst 0, 1) := by decide +kernel
theorem dX4_findTone_41 : decode cX4_findTone 41 = .ok (.lcmp, 1) := by decide +kernel
theorem dX4_findTone_42 : decode cX4_findTone 42 = .ok (.ifCond .le 7, 3) := by decide +kernel
theorem dX4_findTone_45 : decode cX4_findTone 45 = .ok (.iconst 1, 1) := by decide +kernel
theorem dX4_findTone_46 : decode cX4_findTone 46 = .ok (.goto 4, 3) := by decide +kernel
theorem dX4_findTone_49 : decode cX4_findTone 49 = .ok (.iconst 0, 1) := by decide +kernel
theorem dX4_findTone_50 : decode cX4_findTone 50 = .ok (.istore 6, 2) := by decide +kernel
theorem dX4_findTone_52 : decode cX4_findTone 52 = .ok (.iload 4, 2) := by decide +kernel
theorem dX4_findTone_54 : decode cX4_findTone 54 = .ok (.iload 6, 2) := by decide +kernel
theorem dX4_findTone_56 : decode cX4_findTone 56 = .ok (.if_icmp .eq 14, 3) := by decide +kernel
theorem dX4_findTone_59 : decode cX4_findTone 59 = .ok (.iload_n 3, 1) := by decide +kernel
theorem dX4_findTone_60 : decode cX4_findTone 60 = .ok (.iload_n 2, 1) := by decide +kernel
theorem dX4_findTone_61 : decode cX4_findTone 61 = .ok (.if_icmp .ne 6, 3) := by decide +kernel
theorem dX4_findTone_64 : decode cX4_findTone 64 = .ok (.iload 5, 2) := by decide +kernel
theorem dX4_findTone_66 : decode cX4_findTone 66 = .ok (.ireturn, 1) := by decide +kernel
theorem dX4_findTone_67 : decode cX4_findTone 67 = .ok (.iinc 3 1, 3) := by decide +kernel
theorem dX4_findTone_70 : decode cX4_findTone 70 = .ok (.iload 6, 2) := by decide +kernel
theorem dX4_findTone_72 : decode cX4_findTone 72 = .ok (.istore 4, 2) := by decide +kernel
theorem dX4_findTone_74 : decode cX4_findTone 74 = .ok (.iinc 5 1, 3) := by decide +kernel
theorem dX4_findTone_77 : decode cX4_findTone 77 = .ok (.goto (-54), 3) := by decide +kernel
theorem dX4_findTone_80 : decode cX4_findTone 80 = .ok (.iload_n 2, 1) := by decide +kernel
theorem dX4_findTone_81 : decode cX4_findTone 81 = .ok (.iconst (-1), 1) := by decide +kernel
theorem dX4_findTone_82 : decode cX4_findTone 82 = .ok (.if_icmp .ne 7, 3) := by decide +kernel
theorem dX4_findTone_85 : decode cX4_findTone 85 = .ok (.iload_n 3, 1) := by decide +kernel
theorem dX4_findTone_86 : decode cX4_findTone 86 = .ok (.goto 4, 3) := by decide +kernel
theorem dX4_findTone_89 : decode cX4_findTone 89 = .ok (.iconst (-1), 1) := by decide +kernel
theorem dX4_findTone_90 : decode cX4_findTone 90 = .ok (.ireturn, 1) := by decide +kernel
set_option maxRecDepth 20000 in
theorem ggX5_init_X2_init : GoodIn wsX5_init wsX2_init := goodIn_r _ [30, 31, 2, 3, 32, 33, 34, 35, 36, 37, 38, 39, 40, 41, 73, 74, 75, 76, 77, 78, 79, 80, 81] (by decide +kernel) (by decide +kernel)
set_option maxRecDepth 20000 in
theorem gX5_init_X2_init_n11 : GoodIn wsX5_init (wsX2_init) := ggX5_init_X2_init
set_option maxRecDepth 20000 in
theorem ggX5_init_X3_init : GoodIn wsX5_init wsX3_init := goodIn_r _ [43, 44, 2, 3, 45, 5, 6, 46, 47, 29, 30, 31, 32, 33, 34, 35, 36, 37, 38, 39, 40, 41, 73, 74, 75, 76, 77, 78, 79, 80, 81, 91, 92] (by decide +kernel) (by decide +kernel)
set_option maxRecDepth 20000 in
theorem gX5_init_X3_init_n18 : GoodIn wsX5_init (wsX3_init) := ggX5_init_X3_init
set_option maxRecDepth 20000 in
theorem ggX5_init_X4_init : GoodIn wsX5_init wsX4_init := goodIn_r _ [49, 50, 2, 3, 32, 51, 52, 53, 54, 55, 56, 57, 58, 93, 94, 95, 96, 97, 98, 99, 100] (by decide +kernel) (by decide +kernel)
set_option maxRecDepth 20000 in
theorem gX5_init_X4_init_n28 : GoodIn wsX5_init (wsX4_init) := ggX5_init_X4_init
set_option maxRecDepth 20000 in
theorem ggX5_init_X1_init : GoodIn wsX5_init wsX1_init := goodIn_r _ [60, 61, 2, 3, 32, 62, 63, 64, 65, 101, 102, 103, 104] (by decide +kernel) (by decide +kernel)
set_option maxRecDepth 20000 in
theorem gX5_init_X1_init_n35 : GoodIn wsX5_init (wsX1_init) := ggX5_init_X1_init
set_option maxRecDepth 20000 in
theorem ggX5_init_X0_init : GoodIn wsX5_init wsX0_init := goodIn_r _ [67, 68, 2, 3, 69, 70, 71, 72, 105, 106, 107, 108] (by decide +kernel) (by decide +kernel)
set_option maxRecDepth 20000 in
theorem gX5_init_X0_init_n42 : GoodIn wsX5_init (wsX0_init) := ggX5_init_X0_init
