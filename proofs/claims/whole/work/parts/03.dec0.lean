theorem dX0_init_0 : decode cX0_init 0 = .ok (.aload_n 0, 1) := by decide +kernel
theorem dX0_init_1 : decode cX0_init 1 = .ok (.invokespecial 3, 3) := by decide +kernel
theorem dX0_init_4 : decode cX0_init 4 = .ok (.aload_n 0, 1) := by decide +kernel
theorem dX0_init_5 : decode cX0_init 5 = .ok (.bipush 100, 2) := by decide +kernel
theorem dX0_init_7 : decode cX0_init 7 = .ok (.newarray .int, 2) := by decide +kernel
theorem dX0_init_9 : decode cX0_init 9 = .ok (.putfield 11, 3) := by decide +kernel
theorem dX0_init_12 : decode cX0_init 12 = .ok (.aload_n 0, 1) := by decide +kernel
theorem dX0_init_13 : decode cX0_init 13 = .ok (.bipush 100, 2) := by decide +kernel
theorem dX0_init_15 : decode cX0_init 15 = .ok (.newarray .int, 2) := by decide +kernel
theorem dX0_init_17 : decode cX0_init 17 = .ok (.putfield 15, 3) := by decide +kernel
theorem dX0_init_20 : decode cX0_init 20 = .ok (.aload_n 0, 1) := by decide +kernel
theorem dX0_init_21 : decode cX0_init 21 = .ok (.bipush 100, 2) := by decide +kernel
theorem dX0_init_23 : decode cX0_init 23 = .ok (.newarray .int, 2) := by decide +kernel
theorem dX0_init_25 : decode cX0_init 25 = .ok (.putfield 18, 3) := by decide +kernel
theorem dX0_init_28 : decode cX0_init 28 = .ok (.return_, 1) := by decide +kernel
set_option maxRecDepth 20000 in
theorem ggX0_clear_J7_fill_53178 : GoodIn wsX0_clear wsJ7_fill_53178 := goodIn_r _ [7] (by decide +kernel) (by decide +kernel)
set_option maxRecDepth 20000 in
theorem gX0_clear_J7_fill_53178 : GoodIn wsX0_clear (va_wsS RX0 21 yJ7_fill_53178 wsJ7_fill_53178) := goodIn_app (goodIn_of _ (by decide +kernel)) ggX0_clear_J7_fill_53178
theorem dX0_clear_0 : decode cX0_clear 0 = .ok (.aload_n 0, 1) := by decide +kernel
theorem dX0_clear_1 : decode cX0_clear 1 = .ok (.getfield 11, 3) := by decide +kernel
theorem dX0_clear_4 : decode cX0_clear 4 = .ok (.iconst 0, 1) := by decide +kernel
theorem dX0_clear_5 : decode cX0_clear 5 = .ok (.invokestatic 21, 3) := by decide +kernel
theorem dX0_clear_8 : decode cX0_clear 8 = .ok (.aload_n 0, 1) := by decide +kernel
theorem dX0_clear_9 : decode cX0_clear 9 = .ok (.getfield 15, 3) := by decide +kernel
theorem dX0_clear_12 : decode cX0_clear 12 = .ok (.iconst 0, 1) := by decide +kernel
theorem dX0_clear_13 : decode cX0_clear 13 = .ok (.invokestatic 21, 3) := by decide +kernel
theorem dX0_clear_16 : decode cX0_clear 16 = .ok (.aload_n 0, 1) := by decide +kernel
theorem dX0_clear_17 : decode cX0_clear 17 = .ok (.getfield 18, 3) := by decide +kernel
theorem dX0_clear_20 : decode cX0_clear 20 = .ok (.iconst 0, 1) := by decide +kernel
theorem dX0_clear_21 : decode cX0_clear 21 = .ok (.invokestatic 21, 3) := by decide +kernel
theorem dX0_clear_24 : decode cX0_clear 24 = .ok (.return_, 1) := by decide +kernel
theorem dX0_copyFrom_0 : decode cX0_copyFrom 0 = .ok (.aload_n 1, 1) := by decide +kernel
theorem dX0_copyFrom_1 : decode cX0_copyFrom 1 = .ok (.getfield 11, 3) := by decide +kernel
theorem dX0_copyFrom_4 : decode cX0_copyFrom 4 = .ok (.iconst 0, 1) := by decide +kernel
theorem dX0_copyFrom_5 : decode cX0_copyFrom 5 = .ok (.aload_n 0, 1) := by decide +kernel
theorem dX0_copyFrom_6 : decode cX0_copyFrom 6 = .ok (.getfield 11, 3) := by decide +kernel
theorem dX0_copyFrom_9 : decode cX0_copyFrom 9 = .ok (.iconst 0, 1) := by decide +kernel
theorem dX0_copyFrom_10 : decode cX0_copyFrom 10 = .ok (.bipush 100, 2) := by decide +kernel
theorem dX0_copyFrom_12 : decode cX0_copyFrom 12 = .ok (.invokestatic 27, 3) := by decide +kernel
theorem dX0_copyFrom_15 : decode cX0_copyFrom 15 = .ok (.aload_n 1, 1) := by decide +kernel
theorem dX0_copyFrom_16 : decode cX0_copyFrom 16 = .ok (.getfield 15, 3) := by decide +kernel
theorem dX0_copyFrom_19 : decode cX0_copyFrom 19 = .ok (.iconst 0, 1) := by decide +kernel
theorem dX0_copyFrom_20 : decode cX0_copyFrom 20 = .ok (.aload_n 0, 1) := by decide +kernel
theorem dX0_copyFrom_21 : decode cX0_copyFrom 21 = .ok (.getfield 15, 3) := by decide +kernel
theorem dX0_copyFrom_24 : decode cX0_copyFrom 24 = .ok (.iconst 0, 1) := by decide +kernel
theorem dX0_copyFrom_25 : decode cX0_copyFrom 25 = .ok (.bipush 100, 2) := by decide +kernel
theorem dX0_copyFrom_27 : decode cX0_copyFrom 27 = .ok (.invokestatic 27, 3) := by decide +kernel
theorem dX0_copyFrom_30 : decode cX0_copyFrom 30 = .ok (.aload_n 1, 1) := by decide +kernel
theorem dX0_copyFrom_31 : decode cX0_copyFrom 31 = .ok (.getfield 18, 3) := by decide +kernel
theorem dX0_copyFrom_34 : decode cX0_copyFrom 34 = .ok (.iconst 0, 1) := by decide +kernel
theorem dX0_copyFrom_35 : decode cX0_copyFrom 35 = .ok (.aload_n 0, 1) := by decide +kernel
theorem dX0_copyFrom_36 : decode cX0_copyFrom 36 = .ok (.getfield 18, 3) := by decide +kernel
theorem dX0_copyFrom_39 : decode cX0_copyFrom 39 = .ok (.iconst 0, 1) := by decide +kernel
theorem dX0_copyFrom_40 : decode cX0_copyFrom 40 = .ok (.bipush 100, 2) := by decide +kernel
theorem dX0_copyFrom_42 : decode cX0_copyFrom 42 = .ok (.invokestatic 27, 3) := by decide +kernel
theorem dX0_copyFrom_45 : decode cX0_copyFrom 45 = .ok (.return_, 1) := by decide +kernel
theorem dX0_tell_0 : decode cX0_tell 0 = .ok (.aload_n 0, 1) := by decide +kernel
theorem dX0_tell_1 : decode cX0_tell 1 = .ok (.getfield 11, 3) := by decide +kernel
theorem dX0_tell_4 : decode cX0_tell 4 = .ok (.iload_n 1, 1) := by decide +kernel
theorem dX0_tell_5 : decode cX0_tell 5 = .ok (.iconst 1, 1) := by decide +kernel
theorem dX0_tell_6 : decode cX0_tell 6 = .ok (.iastore, 1) := by decide +kernel
theorem dX0_tell_7 : decode cX0_tell 7 = .ok (.aload_n 0, 1) := by decide +kernel
theorem dX0_tell_8 : decode cX0_tell 8 = .ok (.getfield 15, 3) := by decide +kernel
theorem dX0_tell_11 : decode cX0_tell 11 = .ok (.iload_n 1, 1) := by decide +kernel
theorem dX0_tell_12 : decode cX0_tell 12 = .ok (.iload_n 2, 1) := by decide +kernel
theorem dX0_tell_13 : decode cX0_tell 13 = .ok (.iastore, 1) := by decide +kernel
theorem dX0_tell_14 : decode cX0_tell 14 = .ok (.aload_n 0, 1) := by decide +kernel
theorem dX0_tell_15 : decode cX0_tell 15 = .ok (.getfield 18, 3) := by decide +kernel
theorem dX0_tell_18 : decode cX0_tell 18 = .ok (.iload_n 1, 1) := by decide +kernel
theorem dX0_tell_19 : decode cX0_tell 19 = .ok (.iload_n 3, 1) := by decide +kernel
theorem dX0_tell_20 : decode cX0_tell 20 = .ok (.iastore, 1) := by decide +kernel
theorem dX0_tell_21 : decode cX0_tell 21 = .ok (.return_, 1) := by decide +kernel
theorem dX0_fillGaps_0 : decode cX0_fillGaps 0 = .ok (.iconst 1, 1) := by decide +kernel
theorem dX0_fillGaps_1 : decode cX0_fillGaps 1 = .ok (.istore_n 1, 1) := by decide +kernel
theorem dX0_fillGaps_2 : decode cX0_fillGaps 2 = .ok (.iload_n 1, 1) := by decide +kernel
theorem dX0_fillGaps_3 : decode cX0_fillGaps 3 = .ok (.bipush 100, 2) := by decide +kernel
theorem dX0_fillGaps_5 : decode cX0_fillGaps 5 = .ok (.if_icmp .ge 46, 3) := by decide +kernel
theorem dX0_fillGaps_8 : decode cX0_fillGaps 8 = .ok (.aload_n 0, 1) := by decide +kernel
theorem dX0_fillGaps_9 : decode cX0_fillGaps 9 = .ok (.getfield 11, 3) := by decide +kernel
theorem dX0_fillGaps_12 : decode cX0_fillGaps 12 = .ok (.iload_n 1, 1) := by decide +kernel
theorem dX0_fillGaps_13 : decode cX0_fillGaps 13 = .ok (.iaload, 1) := by decide +kernel
theorem dX0_fillGaps_14 : decode cX0_fillGaps 14 = .ok (.ifCond .ne 31, 3) := by decide +kernel
theorem dX0_fillGaps_17 : decode cX0_fillGaps 17 = .ok (.aload_n 0, 1) := by decide +kernel
theorem dX0_fillGaps_18 : decode cX0_fillGaps 18 = .ok (.getfield 15, 3) := by decide +kernel
theorem dX0_fillGaps_21 : decode cX0_fillGaps 21 = .ok (.iload_n 1, 1) := by decide +kernel
theorem dX0_fillGaps_22 : decode cX0_fillGaps 22 = .ok (.aload_n 0, 1) := by decide +kernel
theorem dX0_fillGaps_23 : decode cX0_fillGaps 23 = .ok (.getfield 15, 3) := by decide +kernel
theorem dX0_fillGaps_26 : decode cX0_fillGaps 26 = .ok (.iload_n 1, 1) := by decide +kernel
theorem dX0_fillGaps_27 : decode cX0_fillGaps 27 = .ok (.iconst 1, 1) := by decide +kernel
theorem dX0_fillGaps_28 : decode cX0_fillGaps 28 = .ok (.isub, 1) := by decide +kernel
theorem dX0_fillGaps_29 : decode cX0_fillGaps 29 = .ok (.iaload, 1) := by decide +kernel
theorem dX0_fillGaps_30 : decode cX0_fillGaps 30 = .ok (.iastore, 1) := by decide +kernel
theorem dX0_fillGaps_31 : decode cX0_fillGaps 31 = .ok (.aload_n 0, 1) := by decide +kernel
theorem dX0_fillGaps_32 : decode cX0_fillGaps 32 = .ok (.getfield 18, 3) := by decide +kernel
theorem dX0_fillGaps_35 : decode cX0_fillGaps 35 = .ok (.iload_n 1, 1) := by decide +kernel
theorem dX0_fillGaps_36 : decode cX0_fillGaps 36 = .ok (.aload_n 0, 1) := by decide +kernel
theorem dX0_fillGaps_37 : decode cX0_fillGaps 37 = .ok (.getfield 18, 3) := by decide +kernel
theorem dX0_fillGaps_40 : decode cX0_fillGaps 40 = .ok (.iload_n 1, 1) := by decide +kernel
theorem dX0_fillGaps_41 : decode cX0_fillGaps 41 = .ok (.iconst 1, 1) := by decide +kernel
theorem dX0_fillGaps_42 : decode cX0_fillGaps 42 = .ok (.isub, 1) := by decide +kernel
theorem dX0_fillGaps_43 : decode cX0_fillGaps 43 = .ok (.iaload, 1) := by decide +kernel
theorem dX0_fillGaps_44 : decode cX0_fillGaps 44 = .ok (.iastore, 1) := by decide +kernel
theorem dX0_fillGaps_45 : decode cX0_fillGaps 45 = .ok (.iinc 1 1, 3) := by decide +kernel
theorem dX0_fillGaps_48 : decode cX0_fillGaps 48 = .ok (.goto (-46), 3) := by decide +kernel
theorem dX0_fillGaps_51 : decode cX0_fillGaps 51 = .ok (.return_, 1) := by decide +kernel
set_option maxRecDepth 20000 in
theorem ggX0_bringTo_X4_weigh : GoodIn wsX0_bringTo wsX4_weigh := goodIn_r _ [18, 19, 20, 21, 22, 23, 24, 25, 26, 27, 4, 28, 29, 30, 31, 32, 33, 34, 35, 36, 37, 38, 39, 40, 41, 42, 43, 44, 45] (by decide +kernel) (by decide +kernel)
set_option maxRecDepth 20000 in
theorem gX0_bringTo_X4_weigh : GoodIn wsX0_bringTo (wsV RX0 57 RX4 yX4_weigh wsX4_weigh) := goodIn_app (goodIn_of _ (by decide +kernel)) ggX0_bringTo_X4_weigh
theorem dX0_bringTo_0 : decode cX0_bringTo 0 = .ok (.iconst 0, 1) := by decide +kernel
theorem dX0_bringTo_1 : decode cX0_bringTo 1 = .ok (.aload_n 1, 1) := by decide +kernel
theorem dX0_bringTo_2 : decode cX0_bringTo 2 = .ok (.getfield 33, 3) := by decide +kernel
theorem dX0_bringTo_5 : decode cX0_bringTo 5 = .ok (.bipush 99, 2) := by decide +kernel
theorem dX0_bringTo_7 : decode cX0_bringTo 7 = .ok (.invokestatic 39, 3) := by decide +kernel
theorem dX0_bringTo_10 : decode cX0_bringTo 10 = .ok (.invokestatic 45, 3) := by decide +kernel
theorem dX0_bringTo_13 : decode cX0_bringTo 13 = .ok (.istore_n 2, 1) := by decide +kernel
theorem dX0_bringTo_14 : decode cX0_bringTo 14 = .ok (.aload_n 1, 1) := by decide +kernel
theorem dX0_bringTo_15 : decode cX0_bringTo 15 = .ok (.dup, 1) := by decide +kernel
theorem dX0_bringTo_16 : decode cX0_bringTo 16 = .ok (.getfield 48, 3) := by decide +kernel
theorem dX0_bringTo_19 : decode cX0_bringTo 19 = .ok (.aload_n 0, 1) := by decide +kernel
theorem dX0_bringTo_20 : decode cX0_bringTo 20 = .ok (.getfield 15, 3) := by decide +kernel
theorem dX0_bringTo_23 : decode cX0_bringTo 23 = .ok (.iload_n 2, 1) := by decide +kernel
theorem dX0_bringTo_24 : decode cX0_bringTo 24 = .ok (.iaload, 1) := by decide +kernel
theorem dX0_bringTo_25 : decode cX0_bringTo 25 = .ok (.i2l, 1) := by decide +kernel
theorem dX0_bringTo_26 : decode cX0_bringTo 26 = .ok (.ladd, 1) := by decide +kernel
theorem dX0_bringTo_27 : decode cX0_bringTo 27 = .ok (.putfield 48, 3) := by decide +kernel
theorem dX0_bringTo_30 : decode cX0_bringTo 30 = .ok (.aload_n 1, 1) := by decide +kernel
theorem dX0_bringTo_31 : decode cX0_bringTo 31 = .ok (.dup, 1) := by decide +kernel
theorem dX0_bringTo_32 : decode cX0_bringTo 32 = .ok (.getfield 52, 3) := by decide +kernel
theorem dX0_bringTo_35 : decode cX0_bringTo 35 = .ok (.ldc2_w 55, 3) := by decide +kernel
theorem dX0_bringTo_38 : decode cX0_bringTo 38 = .ok (.aload_n 0, 1) := by decide +kernel
theorem dX0_bringTo_39 : decode cX0_bringTo 39 = .ok (.getfield 18, 3) := by decide +kernel
theorem dX0_bringTo_42 : decode cX0_bringTo 42 = .ok (.iload_n 2, 1) := by decide +kernel
theorem dX0_bringTo_43 : decode cX0_bringTo 43 = .ok (.iaload, 1) := by decide +kernel
theorem dX0_bringTo_44 : decode cX0_bringTo 44 = .ok (.i2l, 1) := by decide +kernel
theorem dX0_bringTo_45 : decode cX0_bringTo 45 = .ok (.lmul, 1) := by decide +kernel
theorem dX0_bringTo_46 : decode cX0_bringTo 46 = .ok (.ladd, 1) := by decide +kernel
theorem dX0_bringTo_47 : decode cX0_bringTo 47 = .ok (.putfield 52, 3) := by decide +kernel
theorem dX0_bringTo_50 : decode cX0_bringTo 50 = .ok (.aload_n 1, 1) := by decide +kernel
theorem dX0_bringTo_51 : decode cX0_bringTo 51 = .ok (.invokevirtual 57, 3) := by decide +kernel
theorem dX0_bringTo_54 : decode cX0_bringTo 54 = .ok (.return_, 1) := by decide +kernel
theorem dX1_init_0 : decode cX1_init 0 = .ok (.aload_n 0, 1) := by decide +kernel
theorem dX1_init_1 : decode cX1_init 1 = .ok (.invokespecial 5, 3) := by decide +kernel
theorem dX1_init_4 : decode cX1_init 4 = .ok (.aload_n 0, 1) := by decide +kernel
theorem dX1_init_5 : decode cX1_init 5 = .ok (.bipush 8, 2) := by decide +kernel
theorem dX1_init_7 : decode cX1_init 7 = .ok (.newarray .int, 2) := by decide +kernel
theorem dX1_init_9 : decode cX1_init 9 = .ok (.putfield 11, 3) := by decide +kernel
theorem dX1_init_12 : decode cX1_init 12 = .ok (.aload_n 0, 1) := by decide +kernel
theorem dX1_init_13 : decode cX1_init 13 = .ok (.bipush 8, 2) := by decide +kernel
theorem dX1_init_15 : decode cX1_init 15 = .ok (.newarray .long, 2) := by decide +kernel
theorem dX1_init_17 : decode cX1_init 17 = .ok (.putfield 15, 3) := by decide +kernel
theorem dX1_init_20 : decode cX1_init 20 = .ok (.return_, 1) := by decide +kernel
set_option maxRecDepth 20000 in
theorem ggX1_passYear_X0_bringTo : GoodIn wsX1_passYear wsX0_bringTo := goodIn_r _ [12, 13, 14, 15, 16, 17, 18, 19, 20, 21, 22, 23, 24, 25, 26, 27, 28, 29, 30, 31, 32, 33, 34, 35, 36, 37, 38, 39, 40, 83, 84, 85, 86, 87, 88, 89, 90, 91, 92, 93, 94, 95, 96, 97, 98, 99, 102, 103, 104] (by decide +kernel) (by decide +kernel)
set_option maxRecDepth 20000 in
theorem gX1_passYear_X0_bringTo : GoodIn wsX1_passYear (wsV RX1 19 RX0 yX0_bringTo wsX0_bringTo) := goodIn_app (goodIn_of _ (by decide +kernel)) ggX1_passYear_X0_bringTo
set_option maxRecDepth 20000 in
theorem ggX1_passYear_X1_goRound : GoodIn wsX1_passYear wsX1_goRound := goodIn_r _ [45, 2, 46, 47, 48, 29, 49, 33, 50, 35, 51, 52, 31, 53, 54, 55, 56, 57, 58, 59, 60, 61, 62, 63, 64, 65, 66, 67, 68, 69, 70, 71, 72, 73, 74, 75, 76, 77, 27, 28, 30, 32, 34, 36, 37, 38, 39, 16, 40, 100, 101, 83, 84, 85, 86, 87, 88, 89, 90, 91, 92, 93, 94, 95, 96, 97, 98, 99] (by decide +kernel) (by decide +kernel)
set_option maxRecDepth 20000 in
theorem gX1_passYear_X1_goRound : GoodIn wsX1_passYear (wsV RX1 36 RX1 yX1_goRound wsX1_goRound) := goodIn_app (goodIn_of _ (by decide +kernel)) ggX1_passYear_X1_goRound
set_option maxRecDepth 20000 in
theorem ggX1_passYear_X4_stopThoseThatRanLow : GoodIn wsX1_passYear wsX4_stopThoseThatRanLow := goodIn_r _ [81, 67, 82, 57, 53, 54, 55, 29, 56, 83, 84, 85, 86, 87, 88, 89, 90, 91, 92, 93, 94, 95, 96, 97, 98, 99] (by decide +kernel) (by decide +kernel)
set_option maxRecDepth 20000 in
theorem gX1_passYear_X4_stopThoseThatRanLow : GoodIn wsX1_passYear (wsV RX1 40 RX4 yX4_stopThoseThatRanLow wsX4_stopThoseThatRanLow) := goodIn_app (goodIn_of _ (by decide +kernel)) ggX1_passYear_X4_stopThoseThatRanLow
theorem dX1_passYear_0 : decode cX1_passYear 0 = .ok (.aload_n 2, 1) := by decide +kernel
theorem dX1_passYear_1 : decode cX1_passYear 1 = .ok (.aload_n 1, 1) := by decide +kernel
theorem dX1_passYear_2 : decode cX1_passYear 2 = .ok (.invokevirtual 19, 3) := by decide +kernel
theorem dX1_passYear_5 : decode cX1_passYear 5 = .ok (.aload_n 1, 1) := by decide +kernel
theorem dX1_passYear_6 : decode cX1_passYear 6 = .ok (.getfield 25, 3) := by decide +kernel
theorem dX1_passYear_9 : decode cX1_passYear 9 = .ok (.iconst 0, 1) := by decide +kernel
theorem dX1_passYear_10 : decode cX1_passYear 10 = .ok (.aload_n 0, 1) := by decide +kernel
theorem dX1_passYear_11 : decode cX1_passYear 11 = .ok (.getfield 11, 3) := by decide +kernel
theorem dX1_passYear_14 : decode cX1_passYear 14 = .ok (.iconst 0, 1) := by decide +kernel
theorem dX1_passYear_15 : decode cX1_passYear 15 = .ok (.bipush 8, 2) := by decide +kernel
theorem dX1_passYear_17 : decode cX1_passYear 17 = .ok (.invokestatic 30, 3) := by decide +kernel
theorem dX1_passYear_20 : decode cX1_passYear 20 = .ok (.iconst 0, 1) := by decide +kernel
theorem dX1_passYear_21 : decode cX1_passYear 21 = .ok (.istore_n 3, 1) := by decide +kernel
theorem dX1_passYear_22 : decode cX1_passYear 22 = .ok (.iconst 0, 1) := by decide +kernel
theorem dX1_passYear_23 : decode cX1_passYear 23 = .ok (.istore 4, 2) := by decide +kernel
theorem dX1_passYear_25 : decode cX1_passYear 25 = .ok (.iload 4, 2) := by decide +kernel
theorem dX1_passYear_27 : decode cX1_passYear 27 = .ok (.sipush 7993, 3) := by decide +kernel
theorem dX1_passYear_30 : decode cX1_passYear 30 = .ok (.if_icmp .ge 29, 3) := by decide +kernel
theorem dX1_passYear_33 : decode cX1_passYear 33 = .ok (.aload_n 0, 1) := by decide +kernel
theorem dX1_passYear_34 : decode cX1_passYear 34 = .ok (.aload_n 1, 1) := by decide +kernel
theorem dX1_passYear_35 : decode cX1_passYear 35 = .ok (.invokevirtual 36, 3) := by decide +kernel
theorem dX1_passYear_38 : decode cX1_passYear 38 = .ok (.istore 5, 2) := by decide +kernel
theorem dX1_passYear_40 : decode cX1_passYear 40 = .ok (.iload 5, 2) := by decide +kernel
theorem dX1_passYear_42 : decode cX1_passYear 42 = .ok (.ifCond .ne 6, 3) := by decide +kernel
theorem dX1_passYear_45 : decode cX1_passYear 45 = .ok (.goto 14, 3) := by decide +kernel
theorem dX1_passYear_48 : decode cX1_passYear 48 = .ok (.iload_n 3, 1) := by decide +kernel
theorem dX1_passYear_49 : decode cX1_passYear 49 = .ok (.iload 5, 2) := by decide +kernel
theorem dX1_passYear_51 : decode cX1_passYear 51 = .ok (.iadd, 1) := by decide +kernel
theorem dX1_passYear_52 : decode cX1_passYear 52 = .ok (.istore_n 3, 1) := by decide +kernel
theorem dX1_passYear_53 : decode cX1_passYear 53 = .ok (.iinc 4 1, 3) := by decide +kernel
theorem dX1_passYear_56 : decode cX1_passYear 56 = .ok (.goto (-31), 3) := by decide +kernel
theorem dX1_passYear_59 : decode cX1_passYear 59 = .ok (.aload_n 1, 1) := by decide +kernel
theorem dX1_passYear_60 : decode cX1_passYear 60 = .ok (.invokevirtual 40, 3) := by decide +kernel
theorem dX1_passYear_63 : decode cX1_passYear 63 = .ok (.aload_n 1, 1) := by decide +kernel
theorem dX1_passYear_64 : decode cX1_passYear 64 = .ok (.dup, 1) := by decide +kernel
theorem dX1_passYear_65 : decode cX1_passYear 65 = .ok (.getfield 43, 3) := by decide +kernel
theorem dX1_passYear_68 : decode cX1_passYear 68 = .ok (.iconst 1, 1) := by decide +kernel
theorem dX1_passYear_69 : decode cX1_passYear 69 = .ok (.iadd, 1) := by decide +kernel
theorem dX1_passYear_70 : decode cX1_passYear 70 = .ok (.putfield 43, 3) := by decide +kernel
theorem dX1_passYear_73 : decode cX1_passYear 73 = .ok (.iload_n 3, 1) := by decide +kernel
theorem dX1_passYear_74 : decode cX1_passYear 74 = .ok (.ireturn, 1) := by decide +kernel
set_option maxRecDepth 20000 in
theorem ggX1_settle_J7_fill_53178 : GoodIn wsX1_settle wsJ7_fill_53178 := goodIn_r _ [7] (by decide +kernel) (by decide +kernel)
set_option maxRecDepth 20000 in
theorem gX1_settle_J7_fill_53178 : GoodIn wsX1_settle (va_wsS RX1 48 yJ7_fill_53178 wsJ7_fill_53178) := goodIn_app (goodIn_of _ (by decide +kernel)) ggX1_settle_J7_fill_53178
set_option maxRecDepth 20000 in
theorem ggX1_settle_X1_mark : GoodIn wsX1_settle wsX1_mark := goodIn_r _ [12, 13, 14, 15, 16, 17, 18, 83, 84, 85, 86, 87, 88, 89, 90, 91, 92, 93, 94, 95, 96, 97, 98, 99, 81, 82] (by decide +kernel) (by decide +kernel)
set_option maxRecDepth 20000 in
theorem gX1_settle_X1_mark : GoodIn wsX1_settle (wsV RX1 54 RX1 yX1_mark wsX1_mark) := goodIn_app (goodIn_of _ (by decide +kernel)) ggX1_settle_X1_mark
set_option maxRecDepth 20000 in
theorem ggX1_settle_X1_goRound : GoodIn wsX1_settle wsX1_goRound := goodIn_r _ [22, 1, 23, 24, 25, 26, 27, 28, 29, 30, 31, 32, 33, 34, 35, 36, 37, 38, 39, 40, 41, 42, 43, 44, 45, 46, 47, 48, 49, 50, 51, 52, 53, 54, 55, 56, 57, 58, 59, 60, 61, 62, 63, 64, 65, 66, 67, 68, 69, 81, 82, 83, 84, 85, 86, 87, 88, 89, 90, 91, 92, 93, 94, 95, 96, 97, 98, 99] (by decide +kernel) (by decide +kernel)
set_option maxRecDepth 20000 in
theorem gX1_settle_X1_goRound : GoodIn wsX1_settle (wsV RX1 36 RX1 yX1_goRound wsX1_goRound) := goodIn_app (goodIn_of _ (by decide +kernel)) ggX1_settle_X1_goRound
set_option maxRecDepth 20000 in
theorem ggX1_settle_X1_isMarked : GoodIn wsX1_settle wsX1_isMarked := goodIn_r _ [73, 14, 13, 81, 82, 83, 84, 85, 86, 87, 88, 89, 90, 91, 92, 93, 94, 95, 96, 97, 98, 99] (by decide +kernel) (by decide +kernel)
set_option maxRecDepth 20000 in
theorem gX1_settle_X1_isMarked : GoodIn wsX1_settle (wsV RX1 58 RX1 yX1_isMarked wsX1_isMarked) := goodIn_app (goodIn_of _ (by decide +kernel)) ggX1_settle_X1_isMarked
set_option maxRecDepth 20000 in
theorem ggX1_settle_J6_bitCount_0f7a4 : GoodIn wsX1_settle wsJ6_bitCount_0f7a4 := goodIn_r _ [77, 78, 79, 80] (by decide +kernel) (by decide +kernel)
set_option maxRecDepth 20000 in
theorem gX1_settle_J6_bitCount_0f7a4 : GoodIn wsX1_settle (va_wsS RX1 62 yJ6_bitCount_0f7a4 wsJ6_bitCount_0f7a4) := goodIn_app (goodIn_of _ (by decide +kernel)) ggX1_settle_J6_bitCount_0f7a4
theorem dX1_settle_0 : decode cX1_settle 0 = .ok (.aload_n 0, 1) := by decide +kernel
theorem dX1_settle_1 : decode cX1_settle 1 = .ok (.getfield 11, 3) := by decide +kernel
theorem dX1_settle_4 : decode cX1_settle 4 = .ok (.ldc 47, 2) := by decide +kernel
theorem dX1_settle_6 : decode cX1_settle 6 = .ok (.invokestatic 48, 3) := by decide +kernel
theorem dX1_settle_9 : decode cX1_settle 9 = .ok (.aload_n 0, 1) := by decide +kernel
theorem dX1_settle_10 : decode cX1_settle 10 = .ok (.aload_n 1, 1) := by decide +kernel
theorem dX1_settle_11 : decode cX1_settle 11 = .ok (.invokevirtual 54, 3) := by decide +kernel
theorem dX1_settle_14 : decode cX1_settle 14 = .ok (.iconst 0, 1) := by decide +kernel
theorem dX1_settle_15 : decode cX1_settle 15 = .ok (.istore_n 2, 1) := by decide +kernel
theorem dX1_settle_16 : decode cX1_settle 16 = .ok (.iconst 1, 1) := by decide +kernel
theorem dX1_settle_17 : decode cX1_settle 17 = .ok (.istore_n 3, 1) := by decide +kernel
theorem dX1_settle_18 : decode cX1_settle 18 = .ok (.iload_n 3, 1) := by decide +kernel
theorem dX1_settle_19 : decode cX1_settle 19 = .ok (.ldc 47, 2) := by decide +kernel
theorem dX1_settle_21 : decode cX1_settle 21 = .ok (.if_icmp .gt 58, 3) := by decide +kernel
theorem dX1_settle_24 : decode cX1_settle 24 = .ok (.aload_n 0, 1) := by decide +kernel
theorem dX1_settle_25 : decode cX1_settle 25 = .ok (.aload_n 1, 1) := by decide +kernel
theorem dX1_settle_26 : decode cX1_settle 26 = .ok (.invokevirtual 36, 3) := by decide +kernel
theorem dX1_settle_29 : decode cX1_settle 29 = .ok (.istore 4, 2) := by decide +kernel
theorem dX1_settle_31 : decode cX1_settle 31 = .ok (.iload 4, 2) := by decide +kernel
theorem dX1_settle_33 : decode cX1_settle 33 = .ok (.ifCond .ne 5, 3) := by decide +kernel
theorem dX1_settle_36 : decode cX1_settle 36 = .ok (.iload_n 2, 1) := by decide +kernel
theorem dX1_settle_37 : decode cX1_settle 37 = .ok (.ireturn, 1) := by decide +kernel
theorem dX1_settle_38 : decode cX1_settle 38 = .ok (.iload_n 2, 1) := by decide +kernel
theorem dX1_settle_39 : decode cX1_settle 39 = .ok (.iload 4, 2) := by decide +kernel
theorem dX1_settle_41 : decode cX1_settle 41 = .ok (.iadd, 1) := by decide +kernel
theorem dX1_settle_42 : decode cX1_settle 42 = .ok (.istore_n 2, 1) := by decide +kernel
theorem dX1_settle_43 : decode cX1_settle 43 = .ok (.iload_n 2, 1) := by decide +kernel
theorem dX1_settle_44 : decode cX1_settle 44 = .ok (.ldc 57, 2) := by decide +kernel
theorem dX1_settle_46 : decode cX1_settle 46 = .ok (.if_icmp .gt 11, 3) := by decide +kernel
theorem dX1_settle_49 : decode cX1_settle 49 = .ok (.aload_n 0, 1) := by decide +kernel
theorem dX1_settle_50 : decode cX1_settle 50 = .ok (.aload_n 1, 1) := by decide +kernel
theorem dX1_settle_51 : decode cX1_settle 51 = .ok (.invokevirtual 58, 3) := by decide +kernel
theorem dX1_settle_54 : decode cX1_settle 54 = .ok (.ifCond .eq 6, 3) := by decide +kernel
theorem dX1_settle_57 : decode cX1_settle 57 = .ok (.bipush (-5), 2) := by decide +kernel
theorem dX1_settle_59 : decode cX1_settle 59 = .ok (.ireturn, 1) := by decide +kernel
theorem dX1_settle_60 : decode cX1_settle 60 = .ok (.iload_n 3, 1) := by decide +kernel
theorem dX1_settle_61 : decode cX1_settle 61 = .ok (.invokestatic 62, 3) := by decide +kernel
theorem dX1_settle_64 : decode cX1_settle 64 = .ok (.iconst 1, 1) := by decide +kernel
theorem dX1_settle_65 : decode cX1_settle 65 = .ok (.if_icmp .ne 8, 3) := by decide +kernel
theorem dX1_settle_68 : decode cX1_settle 68 = .ok (.aload_n 0, 1) := by decide +kernel
theorem dX1_settle_69 : decode cX1_settle 69 = .ok (.aload_n 1, 1) := by decide +kernel
theorem dX1_settle_70 : decode cX1_settle 70 = .ok (.invokevirtual 54, 3) := by decide +kernel
theorem dX1_settle_73 : decode cX1_settle 73 = .ok (.iinc 3 1, 3) := by decide +kernel
theorem dX1_settle_76 : decode cX1_settle 76 = .ok (.goto (-58), 3) := by decide +kernel
theorem dX1_settle_79 : decode cX1_settle 79 = .ok (.bipush (-5), 2) := by decide +kernel
theorem dX1_settle_81 : decode cX1_settle 81 = .ok (.ireturn, 1) := by decide +kernel
set_option maxRecDepth 20000 in
theorem ggX1_goRound_X4_heading : GoodIn wsX1_goRound wsX4_heading := goodIn_r _ [6, 7, 8, 9, 10, 11, 12, 13, 14, 15, 5, 16, 17, 18, 19, 20, 21, 22, 23, 24, 25, 26, 27, 28, 29, 30, 31, 32, 51, 52, 53, 54, 55, 56, 57, 58, 59, 60, 61, 62, 63, 64, 65, 66, 67] (by decide +kernel) (by decide +kernel)
set_option maxRecDepth 20000 in
theorem gX1_goRound_X4_heading : GoodIn wsX1_goRound (wsV RX1 68 RX4 yX4_heading wsX4_heading) := goodIn_app (goodIn_of _ (by decide +kernel)) ggX1_goRound_X4_heading
set_option maxRecDepth 20000 in
theorem ggX1_goRound_X4_carry : GoodIn wsX1_goRound wsX4_carry := goodIn_r _ [36, 27, 12, 32, 10, 9, 37, 38, 39, 5, 40, 41, 7, 42, 43, 44, 45, 46, 47, 48, 51, 52, 53, 54, 55, 56, 57, 58, 59, 60, 61, 62, 63, 64, 65, 66, 67] (by decide +kernel) (by decide +kernel)
set_option maxRecDepth 20000 in
theorem gX1_goRound_X4_carry : GoodIn wsX1_goRound (wsV RX1 71 RX4 yX4_carry wsX4_carry) := goodIn_app (goodIn_of _ (by decide +kernel)) ggX1_goRound_X4_carry
theorem dX1_goRound_0 : decode cX1_goRound 0 = .ok (.iconst 0, 1) := by decide +kernel
theorem dX1_goRound_1 : decode cX1_goRound 1 = .ok (.istore_n 2, 1) := by decide +kernel
theorem dX1_goRound_2 : decode cX1_goRound 2 = .ok (.iconst 0, 1) := by decide +kernel
theorem dX1_goRound_3 : decode cX1_goRound 3 = .ok (.istore_n 3, 1) := by decide +kernel
theorem dX1_goRound_4 : decode cX1_goRound 4 = .ok (.iload_n 3, 1) := by decide +kernel
theorem dX1_goRound_5 : decode cX1_goRound 5 = .ok (.bipush 8, 2) := by decide +kernel
theorem dX1_goRound_7 : decode cX1_goRound 7 = .ok (.if_icmp .ge 54, 3) := by decide +kernel
theorem dX1_goRound_10 : decode cX1_goRound 10 = .ok (.aload_n 0, 1) := by decide +kernel
theorem dX1_goRound_11 : decode cX1_goRound 11 = .ok (.getfield 11, 3) := by decide +kernel
theorem dX1_goRound_14 : decode cX1_goRound 14 = .ok (.iload_n 3, 1) := by decide +kernel
theorem dX1_goRound_15 : decode cX1_goRound 15 = .ok (.iaload, 1) := by decide +kernel
theorem dX1_goRound_16 : decode cX1_goRound 16 = .ok (.ifCond .le 11, 3) := by decide +kernel
theorem dX1_goRound_19 : decode cX1_goRound 19 = .ok (.aload_n 1, 1) := by decide +kernel
theorem dX1_goRound_20 : decode cX1_goRound 20 = .ok (.iload_n 3, 1) := by decide +kernel
theorem dX1_goRound_21 : decode cX1_goRound 21 = .ok (.invokevirtual 68, 3) := by decide +kernel
theorem dX1_goRound_24 : decode cX1_goRound 24 = .ok (.goto 4, 3) := by decide +kernel
theorem dX1_goRound_27 : decode cX1_goRound 27 = .ok (.iconst 0, 1) := by decide +kernel
theorem dX1_goRound_28 : decode cX1_goRound 28 = .ok (.istore 4, 2) := by decide +kernel
theorem dX1_goRound_30 : decode cX1_goRound 30 = .ok (.iload 4, 2) := by decide +kernel
theorem dX1_goRound_32 : decode cX1_goRound 32 = .ok (.ifCond .eq 23, 3) := by decide +kernel
theorem dX1_goRound_35 : decode cX1_goRound 35 = .ok (.aload_n 1, 1) := by decide +kernel
theorem dX1_goRound_36 : decode cX1_goRound 36 = .ok (.iload_n 3, 1) := by decide +kernel
theorem dX1_goRound_37 : decode cX1_goRound 37 = .ok (.iload 4, 2) := by decide +kernel
theorem dX1_goRound_39 : decode cX1_goRound 39 = .ok (.invokevirtual 71, 3) := by decide +kernel
theorem dX1_goRound_42 : decode cX1_goRound 42 = .ok (.aload_n 0, 1) := by decide +kernel
theorem dX1_goRound_43 : decode cX1_goRound 43 = .ok (.getfield 11, 3) := by decide +kernel
theorem dX1_goRound_46 : decode cX1_goRound 46 = .ok (.iload_n 3, 1) := by decide +kernel
theorem dX1_goRound_47 : decode cX1_goRound 47 = .ok (.dup2, 1) := by decide +kernel
theorem dX1_goRound_48 : decode cX1_goRound 48 = .ok (.iaload, 1) := by decide +kernel
theorem dX1_goRound_49 : decode cX1_goRound 49 = .ok (.iconst 1, 1) := by decide +kernel
theorem dX1_goRound_50 : decode cX1_goRound 50 = .ok (.isub, 1) := by decide +kernel
theorem dX1_goRound_51 : decode cX1_goRound 51 = .ok (.iastore, 1) := by decide +kernel
theorem dX1_goRound_52 : decode cX1_goRound 52 = .ok (.iinc 2 1, 3) := by decide +kernel
theorem dX1_goRound_55 : decode cX1_goRound 55 = .ok (.iinc 3 1, 3) := by decide +kernel
theorem dX1_goRound_58 : decode cX1_goRound 58 = .ok (.goto (-54), 3) := by decide +kernel
theorem dX1_goRound_61 : decode cX1_goRound 61 = .ok (.iload_n 2, 1) := by decide +kernel
theorem dX1_goRound_62 : decode cX1_goRound 62 = .ok (.ireturn, 1) := by decide +kernel
theorem dX1_mark_0 : decode cX1_mark 0 = .ok (.aload_n 1, 1) := by decide +kernel
theorem dX1_mark_1 : decode cX1_mark 1 = .ok (.getfield 75, 3) := by decide +kernel
theorem dX1_mark_4 : decode cX1_mark 4 = .ok (.iconst 0, 1) := by decide +kernel
theorem dX1_mark_5 : decode cX1_mark 5 = .ok (.aload_n 0, 1) := by decide +kernel
theorem dX1_mark_6 : decode cX1_mark 6 = .ok (.getfield 15, 3) := by decide +kernel
theorem dX1_mark_9 : decode cX1_mark 9 = .ok (.iconst 0, 1) := by decide +kernel
theorem dX1_mark_10 : decode cX1_mark 10 = .ok (.bipush 8, 2) := by decide +kernel
theorem dX1_mark_12 : decode cX1_mark 12 = .ok (.invokestatic 30, 3) := by decide +kernel
theorem dX1_mark_15 : decode cX1_mark 15 = .ok (.return_, 1) := by decide +kernel
theorem dX1_isMarked_0 : decode cX1_isMarked 0 = .ok (.iconst 0, 1) := by decide +kernel
theorem dX1_isMarked_1 : decode cX1_isMarked 1 = .ok (.istore_n 2, 1) := by decide +kernel
theorem dX1_isMarked_2 : decode cX1_isMarked 2 = .ok (.iload_n 2, 1) := by decide +kernel
theorem dX1_isMarked_3 : decode cX1_isMarked 3 = .ok (.bipush 8, 2) := by decide +kernel
theorem dX1_isMarked_5 : decode cX1_isMarked 5 = .ok (.if_icmp .ge 27, 3) := by decide +kernel
theorem dX1_isMarked_8 : decode cX1_isMarked 8 = .ok (.aload_n 0, 1) := by decide +kernel
theorem dX1_isMarked_9 : decode cX1_isMarked 9 = .ok (.getfield 15, 3) := by decide +kernel
theorem dX1_isMarked_12 : decode cX1_isMarked 12 = .ok (.iload_n 2, 1) := by decide +kernel
theorem dX1_isMarked_13 : decode cX1_isMarked 13 = .ok (.laload, 1) := by decide +kernel
theorem dX1_isMarked_14 : decode cX1_isMarked 14 = .ok (.aload_n 1, 1) := by decide +kernel
theorem dX1_isMarked_15 : decode cX1_isMarked 15 = .ok (.getfield 75, 3) := by decide +kernel
theorem dX1_isMarked_18 : decode cX1_isMarked 18 = .ok (.iload_n 2, 1) := by decide +kernel
theorem dX1_isMarked_19 : decode cX1_isMarked 19 = .ok (.laload, 1) := by decide +kernel
theorem dX1_isMarked_20 : decode cX1_isMarked 20 = .ok (.lcmp, 1) := by decide +kernel
theorem dX1_isMarked_21 : decode cX1_isMarked 21 = .ok (.ifCond .eq 5, 3) := by decide +kernel
theorem dX1_isMarked_24 : decode cX1_isMarked 24 = .ok (.iconst 0, 1) := by decide +kernel
theorem dX1_isMarked_25 : decode cX1_isMarked 25 = .ok (.ireturn, 1) := by decide +kernel
theorem dX1_isMarked_26 : decode cX1_isMarked 26 = .ok (.iinc 2 1, 3) := by decide +kernel
theorem dX1_isMarked_29 : decode cX1_isMarked 29 = .ok (.goto (-27), 3) := by decide +kernel
theorem dX1_isMarked_32 : decode cX1_isMarked 32 = .ok (.iconst 1, 1) := by decide +kernel
theorem dX1_isMarked_33 : decode cX1_isMarked 33 = .ok (.ireturn, 1) := by decide +kernel
set_option maxRecDepth 20000 in
theorem ggX2_init_X4_init : GoodIn wsX2_init wsX4_init := goodIn_r _ [16, 17, 2, 3, 12, 18, 19, 20, 21, 22, 23, 24, 25, 26, 27, 28, 29, 30, 31, 32, 33, 34, 35, 36, 43, 44, 45, 46, 47, 48, 49, 50, 51, 52, 53, 54, 55, 56, 57, 58, 59] (by decide +kernel) (by decide +kernel)
set_option maxRecDepth 20000 in
theorem gX2_init_X4_init_n11 : GoodIn wsX2_init (wsX4_init) := ggX2_init_X4_init
set_option maxRecDepth 20000 in
theorem ggX2_init_X0_init : GoodIn wsX2_init wsX0_init := goodIn_r _ [38, 39, 2, 3, 12, 40, 41, 42, 64, 65, 66] (by decide +kernel) (by decide +kernel)
set_option maxRecDepth 20000 in
theorem gX2_init_X0_init_n20 : GoodIn wsX2_init (wsX0_init) := ggX2_init_X0_init
theorem dX2_init_0 : decode cX2_init 0 = .ok (.aload_n 0, 1) := by decide +kernel
theorem dX2_init_1 : decode cX2_init 1 = .ok (.invokespecial 3, 3) := by decide +kernel
theorem dX2_init_4 : decode cX2_init 4 = .ok (.aload_n 0, 1) := by decide +kernel
theorem dX2_init_5 : decode cX2_init 5 = .ok (.new 9, 3) := by decide +kernel
theorem dX2_init_8 : decode cX2_init 8 = .ok (.dup, 1) := by decide +kernel
theorem dX2_init_9 : decode cX2_init 9 = .ok (.invokespecial 11, 3) := by decide +kernel
theorem dX2_init_12 : decode cX2_init 12 = .ok (.putfield 12, 3) := by decide +kernel
theorem dX2_init_15 : decode cX2_init 15 = .ok (.aload_n 0, 1) := by decide +kernel
theorem dX2_init_16 : decode cX2_init 16 = .ok (.new 18, 3) := by decide +kernel
theorem dX2_init_19 : decode cX2_init 19 = .ok (.dup, 1) := by decide +kernel
theorem dX2_init_20 : decode cX2_init 20 = .ok (.invokespecial 20, 3) := by decide +kernel
theorem dX2_init_23 : decode cX2_init 23 = .ok (.putfield 21, 3) := by decide +kernel
theorem dX2_init_26 : decode cX2_init 26 = .ok (.aload_n 0, 1) := by decide +kernel
theorem dX2_init_27 : decode cX2_init 27 = .ok (.bipush 7, 2) := by decide +kernel
theorem dX2_init_29 : decode cX2_init 29 = .ok (.newarray .int, 2) := by decide +kernel
theorem dX2_init_31 : decode cX2_init 31 = .ok (.putfield 25, 3) := by decide +kernel
theorem dX2_init_34 : decode cX2_init 34 = .ok (.aload_n 0, 1) := by decide +kernel
theorem dX2_init_35 : decode cX2_init 35 = .ok (.iconst 0, 1) := by decide +kernel
theorem dX2_init_36 : decode cX2_init 36 = .ok (.putfield 29, 3) := by decide +kernel
theorem dX2_init_39 : decode cX2_init 39 = .ok (.return_, 1) := by decide +kernel
set_option maxRecDepth 20000 in
theorem ggX2_firstFault_X4_clear : GoodIn wsX2_firstFault wsX4_clear := goodIn_r _ [9, 10, 11, 12, 13, 14, 15, 16, 17, 18, 142, 143, 144, 145, 146, 147, 148, 149, 150, 151, 152, 153, 154, 155, 156, 157, 158] (by decide +kernel) (by decide +kernel)
set_option maxRecDepth 20000 in
theorem gX2_firstFault_X4_clear : GoodIn wsX2_firstFault (wsV RX2 33 RX4 yX4_clear wsX4_clear) := goodIn_app (goodIn_of _ (by decide +kernel)) ggX2_firstFault_X4_clear
set_option maxRecDepth 20000 in
theorem ggX2_firstFault_X0_clear : GoodIn wsX2_firstFault wsX0_clear := goodIn_r _ [23, 24, 25, 26, 27, 28, 29, 30, 159, 160, 161] (by decide +kernel) (by decide +kernel)
set_option maxRecDepth 20000 in
theorem gX2_firstFault_X0_clear : GoodIn wsX2_firstFault (wsV RX2 36 RX0 yX0_clear wsX0_clear) := goodIn_app (goodIn_of _ (by decide +kernel)) ggX2_firstFault_X0_clear
set_option maxRecDepth 20000 in
theorem ggX2_firstFault_X2_readItem : GoodIn wsX2_firstFault wsX2_readItem := goodIn_r _ [35, 36, 3, 37, 38, 34, 39, 40, 41, 42, 43, 44, 45, 46, 47, 4, 48, 49, 50, 51, 52, 53, 54, 55, 56, 57, 58, 59, 60, 61, 62, 63, 1, 64, 65, 66, 67, 68, 69, 70, 71, 72, 73, 74, 75, 76, 77, 78, 79, 80, 8, 81, 10, 82, 83, 84, 85, 86, 87, 88, 89, 90, 91, 92, 93, 94, 95, 96, 97, 98, 99, 100, 101, 102, 103, 104, 105, 106, 107, 108, 109, 110, 111, 112, 113, 114, 115, 116, 117, 118, 119, 120, 121, 122, 123, 2, 124, 125, 126, 22, 127, 24, 25, 26, 140, 141, 136, 137, 138, 139, 142, 143, 144, 145, 146, 147, 148, 149, 150, 151, 152, 153, 154, 155, 156, 157, 158, 159, 160, 161] (by decide +kernel) (by decide +kernel)
set_option maxRecDepth 20000 in
theorem gX2_firstFault_X2_readItem : GoodIn wsX2_firstFault (wsV RX2 42 RX2 yX2_readItem wsX2_readItem) := goodIn_app (goodIn_of _ (by decide +kernel)) ggX2_firstFault_X2_readItem
set_option maxRecDepth 20000 in
theorem ggX2_firstFault_X0_fillGaps : GoodIn wsX2_firstFault wsX0_fillGaps := goodIn_r _ [131, 24, 25, 26, 159, 160, 161] (by decide +kernel) (by decide +kernel)
set_option maxRecDepth 20000 in
theorem gX2_firstFault_X0_fillGaps : GoodIn wsX2_firstFault (wsV RX2 46 RX0 yX0_fillGaps wsX0_fillGaps) := goodIn_app (goodIn_of _ (by decide +kernel)) ggX2_firstFault_X0_fillGaps
set_option maxRecDepth 20000 in
theorem ggX2_firstFault_X4_weigh : GoodIn wsX2_firstFault wsX4_weigh := goodIn_r _ [135, 13, 16, 17, 15, 14, 88, 96, 97, 98, 92, 99, 142, 143, 144, 145, 146, 147, 148, 149, 150, 151, 152, 153, 154, 155, 156, 157, 158] (by decide +kernel) (by decide +kernel)
set_option maxRecDepth 20000 in
theorem gX2_firstFault_X4_weigh : GoodIn wsX2_firstFault (wsV RX2 49 RX4 yX4_weigh wsX4_weigh) := goodIn_app (goodIn_of _ (by decide +kernel)) ggX2_firstFault_X4_weigh
theorem dX2_firstFault_0 : decode cX2_firstFault 0 = .ok (.aload_n 0, 1) := by decide +kernel
theorem dX2_firstFault_1 : decode cX2_firstFault 1 = .ok (.getfield 12, 3) := by decide +kernel
theorem dX2_firstFault_4 : decode cX2_firstFault 4 = .ok (.invokevirtual 33, 3) := by decide +kernel
theorem dX2_firstFault_7 : decode cX2_firstFault 7 = .ok (.aload_n 0, 1) := by decide +kernel
theorem dX2_firstFault_8 : decode cX2_firstFault 8 = .ok (.getfield 21, 3) := by decide +kernel
theorem dX2_firstFault_11 : decode cX2_firstFault 11 = .ok (.invokevirtual 36, 3) := by decide +kernel
theorem dX2_firstFault_14 : decode cX2_firstFault 14 = .ok (.aload_n 0, 1) := by decide +kernel
theorem dX2_firstFault_15 : decode cX2_firstFault 15 = .ok (.iconst 0, 1) := by decide +kernel
theorem dX2_firstFault_16 : decode cX2_firstFault 16 = .ok (.putfield 29, 3) := by decide +kernel
theorem dX2_firstFault_19 : decode cX2_firstFault 19 = .ok (.iconst 0, 1) := by decide +kernel
theorem dX2_firstFault_20 : decode cX2_firstFault 20 = .ok (.istore_n 2, 1) := by decide +kernel
theorem dX2_firstFault_21 : decode cX2_firstFault 21 = .ok (.iload_n 2, 1) := by decide +kernel
theorem dX2_firstFault_22 : decode cX2_firstFault 22 = .ok (.sipush 400, 3) := by decide +kernel
theorem dX2_firstFault_25 : decode cX2_firstFault 25 = .ok (.if_icmp .ge 35, 3) := by decide +kernel
theorem dX2_firstFault_28 : decode cX2_firstFault 28 = .ok (.aload_n 0, 1) := by decide +kernel
theorem dX2_firstFault_29 : decode cX2_firstFault 29 = .ok (.getfield 29, 3) := by decide +kernel
theorem dX2_firstFault_32 : decode cX2_firstFault 32 = .ok (.aload_n 1, 1) := by decide +kernel
theorem dX2_firstFault_33 : decode cX2_firstFault 33 = .ok (.getfield 39, 3) := by decide +kernel
theorem dX2_firstFault_36 : decode cX2_firstFault 36 = .ok (.if_icmp .ge 24, 3) := by decide +kernel
theorem dX2_firstFault_39 : decode cX2_firstFault 39 = .ok (.aload_n 0, 1) := by decide +kernel
theorem dX2_firstFault_40 : decode cX2_firstFault 40 = .ok (.getfield 29, 3) := by decide +kernel
theorem dX2_firstFault_43 : decode cX2_firstFault 43 = .ok (.istore_n 3, 1) := by decide +kernel
theorem dX2_firstFault_44 : decode cX2_firstFault 44 = .ok (.aload_n 0, 1) := by decide +kernel
theorem dX2_firstFault_45 : decode cX2_firstFault 45 = .ok (.aload_n 1, 1) := by decide +kernel
theorem dX2_firstFault_46 : decode cX2_firstFault 46 = .ok (.invokevirtual 42, 3) := by decide +kernel
theorem dX2_firstFault_49 : decode cX2_firstFault 49 = .ok (.ifCond .ne 5, 3) := by decide +kernel
theorem dX2_firstFault_52 : decode cX2_firstFault 52 = .ok (.iload_n 3, 1) := by decide +kernel
theorem dX2_firstFault_53 : decode cX2_firstFault 53 = .ok (.ireturn, 1) := by decide +kernel
theorem dX2_firstFault_54 : decode cX2_firstFault 54 = .ok (.iinc 2 1, 3) := by decide +kernel
theorem dX2_firstFault_57 : decode cX2_firstFault 57 = .ok (.goto (-36), 3) := by decide +kernel
theorem dX2_firstFault_60 : decode cX2_firstFault 60 = .ok (.aload_n 0, 1) := by decide +kernel
theorem dX2_firstFault_61 : decode cX2_firstFault 61 = .ok (.getfield 21, 3) := by decide +kernel
theorem dX2_firstFault_64 : decode cX2_firstFault 64 = .ok (.invokevirtual 46, 3) := by decide +kernel
theorem dX2_firstFault_67 : decode cX2_firstFault 67 = .ok (.aload_n 0, 1) := by decide +kernel
theorem dX2_firstFault_68 : decode cX2_firstFault 68 = .ok (.getfield 12, 3) := by decide +kernel
theorem dX2_firstFault_71 : decode cX2_firstFault 71 = .ok (.invokevirtual 49, 3) := by decide +kernel
theorem dX2_firstFault_74 : decode cX2_firstFault 74 = .ok (.bipush (-4), 2) := by decide +kernel
theorem dX2_firstFault_76 : decode cX2_firstFault 76 = .ok (.ireturn, 1) := by decide +kernel
set_option maxRecDepth 20000 in
theorem ggX2_readItem_X2_numbersBehind : GoodIn wsX2_readItem wsX2_numbersBehind := goodIn_r _ [6] (by decide +kernel) (by decide +kernel)
set_option maxRecDepth 20000 in
theorem gX2_readItem_X2_numbersBehind : GoodIn wsX2_readItem (va_wsS RX2 56 yX2_numbersBehind wsX2_numbersBehind) := goodIn_app (goodIn_of _ (by decide +kernel)) ggX2_readItem_X2_numbersBehind
set_option maxRecDepth 20000 in
theorem ggX2_readItem_X2_readNumbers : GoodIn wsX2_readItem wsX2_readNumbers := goodIn_r _ [10, 11, 12, 13, 5, 14, 2, 15, 1, 16, 17, 18, 19, 20, 21, 22, 23, 106, 107, 108, 109, 104, 105] (by decide +kernel) (by decide +kernel)
set_option maxRecDepth 20000 in
theorem gX2_readItem_X2_readNumbers : GoodIn wsX2_readItem (wsV RX2 60 RX2 yX2_readNumbers wsX2_readNumbers) := goodIn_app (goodIn_of _ (by decide +kernel)) ggX2_readItem_X2_readNumbers
set_option maxRecDepth 20000 in
theorem ggX2_readItem_X2_takeItem : GoodIn wsX2_readItem wsX2_takeItem := goodIn_r _ [27, 28, 29, 30, 5, 31, 32, 16, 33, 34, 35, 36, 37, 38, 39, 40, 41, 42, 43, 44, 45, 46, 47, 48, 49, 50, 51, 52, 53, 54, 55, 56, 57, 58, 59, 60, 61, 62, 63, 64, 65, 66, 67, 68, 69, 70, 71, 72, 73, 74, 75, 76, 77, 78, 79, 80, 81, 82, 83, 84, 85, 86, 87, 88, 89, 90, 91, 92, 93, 94, 95, 96, 97, 98, 99, 100, 101, 102, 103, 106, 107, 108, 109, 110, 111, 112, 113, 114, 115, 116, 117, 118, 119, 120, 121, 122, 123, 124, 125, 126, 127, 128, 129] (by decide +kernel) (by decide +kernel)
set_option maxRecDepth 20000 in
theorem gX2_readItem_X2_takeItem : GoodIn wsX2_readItem (wsV RX2 64 RX2 yX2_takeItem wsX2_takeItem) := goodIn_app (goodIn_of _ (by decide +kernel)) ggX2_readItem_X2_takeItem
theorem dX2_readItem_0 : decode cX2_readItem 0 = .ok (.aload_n 1, 1) := by decide +kernel
theorem dX2_readItem_1 : decode cX2_readItem 1 = .ok (.getfield 52, 3) := by decide +kernel
theorem dX2_readItem_4 : decode cX2_readItem 4 = .ok (.aload_n 0, 1) := by decide +kernel
theorem dX2_readItem_5 : decode cX2_readItem 5 = .ok (.getfield 29, 3) := by decide +kernel
theorem dX2_readItem_8 : decode cX2_readItem 8 = .ok (.baload, 1) := by decide +kernel
theorem dX2_readItem_9 : decode cX2_readItem 9 = .ok (.istore_n 2, 1) := by decide +kernel
theorem dX2_readItem_10 : decode cX2_readItem 10 = .ok (.aload_n 0, 1) := by decide +kernel
theorem dX2_readItem_11 : decode cX2_readItem 11 = .ok (.dup, 1) := by decide +kernel
theorem dX2_readItem_12 : decode cX2_readItem 12 = .ok (.getfield 29, 3) := by decide +kernel
theorem dX2_readItem_15 : decode cX2_readItem 15 = .ok (.iconst 1, 1) := by decide +kernel
theorem dX2_readItem_16 : decode cX2_readItem 16 = .ok (.iadd, 1) := by decide +kernel
theorem dX2_readItem_17 : decode cX2_readItem 17 = .ok (.putfield 29, 3) := by decide +kernel
theorem dX2_readItem_20 : decode cX2_readItem 20 = .ok (.iload_n 2, 1) := by decide +kernel
theorem dX2_readItem_21 : decode cX2_readItem 21 = .ok (.invokestatic 56, 3) := by decide +kernel
theorem dX2_readItem_24 : decode cX2_readItem 24 = .ok (.istore_n 3, 1) := by decide +kernel
theorem dX2_readItem_25 : decode cX2_readItem 25 = .ok (.iload_n 3, 1) := by decide +kernel
theorem dX2_readItem_26 : decode cX2_readItem 26 = .ok (.ifCond .le 24, 3) := by decide +kernel
theorem dX2_readItem_29 : decode cX2_readItem 29 = .ok (.aload_n 0, 1) := by decide +kernel
theorem dX2_readItem_30 : decode cX2_readItem 30 = .ok (.aload_n 1, 1) := by decide +kernel
theorem dX2_readItem_31 : decode cX2_readItem 31 = .ok (.iload_n 3, 1) := by decide +kernel
theorem dX2_readItem_32 : decode cX2_readItem 32 = .ok (.invokevirtual 60, 3) := by decide +kernel
theorem dX2_readItem_35 : decode cX2_readItem 35 = .ok (.ifCond .eq 15, 3) := by decide +kernel
theorem dX2_readItem_38 : decode cX2_readItem 38 = .ok (.aload_n 0, 1) := by decide +kernel
theorem dX2_readItem_39 : decode cX2_readItem 39 = .ok (.iload_n 2, 1) := by decide +kernel
theorem dX2_readItem_40 : decode cX2_readItem 40 = .ok (.invokevirtual 64, 3) := by decide +kernel
theorem dX2_readItem_43 : decode cX2_readItem 43 = .ok (.ifCond .eq 7, 3) := by decide +kernel
theorem dX2_readItem_46 : decode cX2_readItem 46 = .ok (.iconst 1, 1) := by decide +kernel
theorem dX2_readItem_47 : decode cX2_readItem 47 = .ok (.goto 4, 3) := by decide +kernel
theorem dX2_readItem_50 : decode cX2_readItem 50 = .ok (.iconst 0, 1) := by decide +kernel
theorem dX2_readItem_51 : decode cX2_readItem 51 = .ok (.ireturn, 1) := by decide +kernel
theorem dX2_numbersBehind_0 : decode cX2_numbersBehind 0 = .ok (.iload_n 0, 1) := by decide +kernel
theorem dX2_numbersBehind_1 : decode cX2_numbersBehind 1 = .ok (.tableswitch 80 103 115 #[78, 80, 80, 80, 76, 70, 74, 80, 80, 80, 80, 67, 72], 67) := by decide +kernel
theorem dX2_numbersBehind_68 : decode cX2_numbersBehind 68 = .ok (.bipush 7, 2) := by decide +kernel
theorem dX2_numbersBehind_70 : decode cX2_numbersBehind 70 = .ok (.ireturn, 1) := by decide +kernel
theorem dX2_numbersBehind_71 : decode cX2_numbersBehind 71 = .ok (.iconst 1, 1) := by decide +kernel
theorem dX2_numbersBehind_72 : decode cX2_numbersBehind 72 = .ok (.ireturn, 1) := by decide +kernel
theorem dX2_numbersBehind_73 : decode cX2_numbersBehind 73 = .ok (.iconst 2, 1) := by decide +kernel
theorem dX2_numbersBehind_74 : decode cX2_numbersBehind 74 = .ok (.ireturn, 1) := by decide +kernel
theorem dX2_numbersBehind_75 : decode cX2_numbersBehind 75 = .ok (.iconst 2, 1) := by decide +kernel
theorem dX2_numbersBehind_76 : decode cX2_numbersBehind 76 = .ok (.ireturn, 1) := by decide +kernel
theorem dX2_numbersBehind_77 : decode cX2_numbersBehind 77 = .ok (.iconst 1, 1) := by decide +kernel
theorem dX2_numbersBehind_78 : decode cX2_numbersBehind 78 = .ok (.ireturn, 1) := by decide +kernel
theorem dX2_numbersBehind_79 : decode cX2_numbersBehind 79 = .ok (.iconst 3, 1) := by decide +kernel
theorem dX2_numbersBehind_80 : decode cX2_numbersBehind 80 = .ok (.ireturn, 1) := by decide +kernel
theorem dX2_numbersBehind_81 : decode cX2_numbersBehind 81 = .ok (.iconst 0, 1) := by decide +kernel
theorem dX2_numbersBehind_82 : decode cX2_numbersBehind 82 = .ok (.ireturn, 1) := by decide +kernel
set_option maxRecDepth 20000 in
theorem ggX2_readNumbers_X2_readNumber : GoodIn wsX2_readNumbers wsX2_readNumber := goodIn_r _ [5, 6, 7, 8, 9, 10, 11, 4, 12, 17, 18, 19, 20, 21, 22] (by decide +kernel) (by decide +kernel)
set_option maxRecDepth 20000 in
theorem gX2_readNumbers_X2_readNumber : GoodIn wsX2_readNumbers (wsV RX2 68 RX2 yX2_readNumber wsX2_readNumber) := goodIn_app (goodIn_of _ (by decide +kernel)) ggX2_readNumbers_X2_readNumber
set_option maxRecDepth 20000 in
theorem ggX2_readNumbers_X2_readSign : GoodIn wsX2_readNumbers wsX2_readSign := goodIn_r _ [16, 6, 7, 8, 17, 18, 19, 20, 21, 22] (by decide +kernel) (by decide +kernel)
set_option maxRecDepth 20000 in
theorem gX2_readNumbers_X2_readSign : GoodIn wsX2_readNumbers (wsV RX2 71 RX2 yX2_readSign wsX2_readSign) := goodIn_app (goodIn_of _ (by decide +kernel)) ggX2_readNumbers_X2_readSign
theorem dX2_readNumbers_0 : decode cX2_readNumbers 0 = .ok (.iconst 0, 1) := by decide +kernel
theorem dX2_readNumbers_1 : decode cX2_readNumbers 1 = .ok (.istore_n 3, 1) := by decide +kernel
theorem dX2_readNumbers_2 : decode cX2_readNumbers 2 = .ok (.iload_n 3, 1) := by decide +kernel
theorem dX2_readNumbers_3 : decode cX2_readNumbers 3 = .ok (.iload_n 2, 1) := by decide +kernel
theorem dX2_readNumbers_4 : decode cX2_readNumbers 4 = .ok (.if_icmp .ge 52, 3) := by decide +kernel
theorem dX2_readNumbers_7 : decode cX2_readNumbers 7 = .ok (.iload_n 3, 1) := by decide +kernel
theorem dX2_readNumbers_8 : decode cX2_readNumbers 8 = .ok (.bipush 7, 2) := by decide +kernel
theorem dX2_readNumbers_10 : decode cX2_readNumbers 10 = .ok (.if_icmp .ge 46, 3) := by decide +kernel
theorem dX2_readNumbers_13 : decode cX2_readNumbers 13 = .ok (.iload_n 3, 1) := by decide +kernel
theorem dX2_readNumbers_14 : decode cX2_readNumbers 14 = .ok (.iconst 1, 1) := by decide +kernel
theorem dX2_readNumbers_15 : decode cX2_readNumbers 15 = .ok (.iadd, 1) := by decide +kernel
theorem dX2_readNumbers_16 : decode cX2_readNumbers 16 = .ok (.iload_n 2, 1) := by decide +kernel
theorem dX2_readNumbers_17 : decode cX2_readNumbers 17 = .ok (.if_icmp .ge 8, 3) := by decide +kernel
theorem dX2_readNumbers_20 : decode cX2_readNumbers 20 = .ok (.bipush 44, 2) := by decide +kernel
theorem dX2_readNumbers_22 : decode cX2_readNumbers 22 = .ok (.goto 5, 3) := by decide +kernel
theorem dX2_readNumbers_25 : decode cX2_readNumbers 25 = .ok (.bipush 59, 2) := by decide +kernel
theorem dX2_readNumbers_27 : decode cX2_readNumbers 27 = .ok (.istore 4, 2) := by decide +kernel
theorem dX2_readNumbers_29 : decode cX2_readNumbers 29 = .ok (.aload_n 0, 1) := by decide +kernel
theorem dX2_readNumbers_30 : decode cX2_readNumbers 30 = .ok (.aload_n 1, 1) := by decide +kernel
theorem dX2_readNumbers_31 : decode cX2_readNumbers 31 = .ok (.iload_n 3, 1) := by decide +kernel
theorem dX2_readNumbers_32 : decode cX2_readNumbers 32 = .ok (.invokevirtual 68, 3) := by decide +kernel
theorem dX2_readNumbers_35 : decode cX2_readNumbers 35 = .ok (.ifCond .eq 13, 3) := by decide +kernel
theorem dX2_readNumbers_38 : decode cX2_readNumbers 38 = .ok (.aload_n 0, 1) := by decide +kernel
theorem dX2_readNumbers_39 : decode cX2_readNumbers 39 = .ok (.aload_n 1, 1) := by decide +kernel
theorem dX2_readNumbers_40 : decode cX2_readNumbers 40 = .ok (.iload 4, 2) := by decide +kernel
theorem dX2_readNumbers_42 : decode cX2_readNumbers 42 = .ok (.invokevirtual 71, 3) := by decide +kernel
theorem dX2_readNumbers_45 : decode cX2_readNumbers 45 = .ok (.ifCond .ne 5, 3) := by decide +kernel
theorem dX2_readNumbers_48 : decode cX2_readNumbers 48 = .ok (.iconst 0, 1) := by decide +kernel
theorem dX2_readNumbers_49 : decode cX2_readNumbers 49 = .ok (.ireturn, 1) := by decide +kernel
theorem dX2_readNumbers_50 : decode cX2_readNumbers 50 = .ok (.iinc 3 1, 3) := by decide +kernel
theorem dX2_readNumbers_53 : decode cX2_readNumbers 53 = .ok (.goto (-51), 3) := by decide +kernel
theorem dX2_readNumbers_56 : decode cX2_readNumbers 56 = .ok (.iconst 1, 1) := by decide +kernel
theorem dX2_readNumbers_57 : decode cX2_readNumbers 57 = .ok (.ireturn, 1) := by decide +kernel
set_option maxRecDepth 20000 in
theorem ggX2_readNumber_X2_isFigure : GoodIn wsX2_readNumber wsX2_isFigure := goodIn_r _ [8] (by decide +kernel) (by decide +kernel)
set_option maxRecDepth 20000 in
theorem gX2_readNumber_X2_isFigure : GoodIn wsX2_readNumber (va_wsS RX2 74 yX2_isFigure wsX2_isFigure) := goodIn_app (goodIn_of _ (by decide +kernel)) ggX2_readNumber_X2_isFigure
theorem dX2_readNumber_0 : decode cX2_readNumber 0 = .ok (.iconst 0, 1) := by decide +kernel
theorem dX2_readNumber_1 : decode cX2_readNumber 1 = .ok (.istore_n 3, 1) := by decide +kernel
theorem dX2_readNumber_2 : decode cX2_readNumber 2 = .ok (.iconst 0, 1) := by decide +kernel
theorem dX2_readNumber_3 : decode cX2_readNumber 3 = .ok (.istore 4, 2) := by decide +kernel
theorem dX2_readNumber_5 : decode cX2_readNumber 5 = .ok (.iload_n 3, 1) := by decide +kernel
theorem dX2_readNumber_6 : decode cX2_readNumber 6 = .ok (.iconst 5, 1) := by decide +kernel
theorem dX2_readNumber_7 : decode cX2_readNumber 7 = .ok (.if_icmp .ge 65, 3) := by decide +kernel
theorem dX2_readNumber_10 : decode cX2_readNumber 10 = .ok (.aload_n 0, 1) := by decide +kernel
theorem dX2_readNumber_11 : decode cX2_readNumber 11 = .ok (.getfield 29, 3) := by decide +kernel
theorem dX2_readNumber_14 : decode cX2_readNumber 14 = .ok (.aload_n 1, 1) := by decide +kernel
theorem dX2_readNumber_15 : decode cX2_readNumber 15 = .ok (.getfield 39, 3) := by decide +kernel
theorem dX2_readNumber_18 : decode cX2_readNumber 18 = .ok (.if_icmp .ge 54, 3) := by decide +kernel
theorem dX2_readNumber_21 : decode cX2_readNumber 21 = .ok (.aload_n 1, 1) := by decide +kernel
theorem dX2_readNumber_22 : decode cX2_readNumber 22 = .ok (.getfield 52, 3) := by decide +kernel
theorem dX2_readNumber_25 : decode cX2_readNumber 25 = .ok (.aload_n 0, 1) := by decide +kernel
theorem dX2_readNumber_26 : decode cX2_readNumber 26 = .ok (.getfield 29, 3) := by decide +kernel
theorem dX2_readNumber_29 : decode cX2_readNumber 29 = .ok (.baload, 1) := by decide +kernel
theorem dX2_readNumber_30 : decode cX2_readNumber 30 = .ok (.invokestatic 74, 3) := by decide +kernel
theorem dX2_readNumber_33 : decode cX2_readNumber 33 = .ok (.ifCond .eq 39, 3) := by decide +kernel
theorem dX2_readNumber_36 : decode cX2_readNumber 36 = .ok (.iload 4, 2) := by decide +kernel
theorem dX2_readNumber_38 : decode cX2_readNumber 38 = .ok (.bipush 10, 2) := by decide +kernel
theorem dX2_readNumber_40 : decode cX2_readNumber 40 = .ok (.imul, 1) := by decide +kernel
theorem dX2_readNumber_41 : decode cX2_readNumber 41 = .ok (.aload_n 1, 1) := by decide +kernel
theorem dX2_readNumber_42 : decode cX2_readNumber 42 = .ok (.getfield 52, 3) := by decide +kernel
theorem dX2_readNumber_45 : decode cX2_readNumber 45 = .ok (.aload_n 0, 1) := by decide +kernel
theorem dX2_readNumber_46 : decode cX2_readNumber 46 = .ok (.getfield 29, 3) := by decide +kernel
theorem dX2_readNumber_49 : decode cX2_readNumber 49 = .ok (.baload, 1) := by decide +kernel
theorem dX2_readNumber_50 : decode cX2_readNumber 50 = .ok (.bipush 48, 2) := by decide +kernel
theorem dX2_readNumber_52 : decode cX2_readNumber 52 = .ok (.isub, 1) := by decide +kernel
theorem dX2_readNumber_53 : decode cX2_readNumber 53 = .ok (.iadd, 1) := by decide +kernel
theorem dX2_readNumber_54 : decode cX2_readNumber 54 = .ok (.istore 4, 2) := by decide +kernel
theorem dX2_readNumber_56 : decode cX2_readNumber 56 = .ok (.aload_n 0, 1) := by decide +kernel
theorem dX2_readNumber_57 : decode cX2_readNumber 57 = .ok (.dup, 1) := by decide +kernel
theorem dX2_readNumber_58 : decode cX2_readNumber 58 = .ok (.getfield 29, 3) := by decide +kernel
theorem dX2_readNumber_61 : decode cX2_readNumber 61 = .ok (.iconst 1, 1) := by decide +kernel
theorem dX2_readNumber_62 : decode cX2_readNumber 62 = .ok (.iadd, 1) := by decide +kernel
theorem dX2_readNumber_63 : decode cX2_readNumber 63 = .ok (.putfield 29, 3) := by decide +kernel
theorem dX2_readNumber_66 : decode cX2_readNumber 66 = .ok (.iinc 3 1, 3) := by decide +kernel
theorem dX2_readNumber_69 : decode cX2_readNumber 69 = .ok (.goto (-64), 3) := by decide +kernel
theorem dX2_readNumber_72 : decode cX2_readNumber 72 = .ok (.aload_n 0, 1) := by decide +kernel
theorem dX2_readNumber_73 : decode cX2_readNumber 73 = .ok (.getfield 25, 3) := by decide +kernel
theorem dX2_readNumber_76 : decode cX2_readNumber 76 = .ok (.iload_n 2, 1) := by decide +kernel
theorem dX2_readNumber_77 : decode cX2_readNumber 77 = .ok (.iload 4, 2) := by decide +kernel
theorem dX2_readNumber_79 : decode cX2_readNumber 79 = .ok (.iastore, 1) := by decide +kernel
theorem dX2_readNumber_80 : decode cX2_readNumber 80 = .ok (.iload_n 3, 1) := by decide +kernel
theorem dX2_readNumber_81 : decode cX2_readNumber 81 = .ok (.ifCond .le 7, 3) := by decide +kernel
theorem dX2_readNumber_84 : decode cX2_readNumber 84 = .ok (.iconst 1, 1) := by decide +kernel
theorem dX2_readNumber_85 : decode cX2_readNumber 85 = .ok (.goto 4, 3) := by decide +kernel
theorem dX2_readNumber_88 : decode cX2_readNumber 88 = .ok (.iconst 0, 1) := by decide +kernel
theorem dX2_readNumber_89 : decode cX2_readNumber 89 = .ok (.ireturn, 1) := by decide +kernel
theorem dX2_readSign_0 : decode cX2_readSign 0 = .ok (.aload_n 0, 1) := by decide +kernel
theorem dX2_readSign_1 : decode cX2_readSign 1 = .ok (.getfield 29, 3) := by decide +kernel
theorem dX2_readSign_4 : decode cX2_readSign 4 = .ok (.aload_n 1, 1) := by decide +kernel
theorem dX2_readSign_5 : decode cX2_readSign 5 = .ok (.getfield 39, 3) := by decide +kernel
theorem dX2_readSign_8 : decode cX2_readSign 8 = .ok (.if_icmp .ge 16, 3) := by decide +kernel
theorem dX2_readSign_11 : decode cX2_readSign 11 = .ok (.aload_n 1, 1) := by decide +kernel
theorem dX2_readSign_12 : decode cX2_readSign 12 = .ok (.getfield 52, 3) := by decide +kernel
theorem dX2_readSign_15 : decode cX2_readSign 15 = .ok (.aload_n 0, 1) := by decide +kernel
theorem dX2_readSign_16 : decode cX2_readSign 16 = .ok (.getfield 29, 3) := by decide +kernel
theorem dX2_readSign_19 : decode cX2_readSign 19 = .ok (.baload, 1) := by decide +kernel
theorem dX2_readSign_20 : decode cX2_readSign 20 = .ok (.iload_n 2, 1) := by decide +kernel
theorem dX2_readSign_21 : decode cX2_readSign 21 = .ok (.if_icmp .eq 5, 3) := by decide +kernel
theorem dX2_readSign_24 : decode cX2_readSign 24 = .ok (.iconst 0, 1) := by decide +kernel
theorem dX2_readSign_25 : decode cX2_readSign 25 = .ok (.ireturn, 1) := by decide +kernel
theorem dX2_readSign_26 : decode cX2_readSign 26 = .ok (.aload_n 0, 1) := by decide +kernel
theorem dX2_readSign_27 : decode cX2_readSign 27 = .ok (.dup, 1) := by decide +kernel
theorem dX2_readSign_28 : decode cX2_readSign 28 = .ok (.getfield 29, 3) := by decide +kernel
theorem dX2_readSign_31 : decode cX2_readSign 31 = .ok (.iconst 1, 1) := by decide +kernel
theorem dX2_readSign_32 : decode cX2_readSign 32 = .ok (.iadd, 1) := by decide +kernel
theorem dX2_readSign_33 : decode cX2_readSign 33 = .ok (.putfield 29, 3) := by decide +kernel
theorem dX2_readSign_36 : decode cX2_readSign 36 = .ok (.iconst 1, 1) := by decide +kernel
theorem dX2_readSign_37 : decode cX2_readSign 37 = .ok (.ireturn, 1) := by decide +kernel
theorem dX2_isFigure_0 : decode cX2_isFigure 0 = .ok (.iload_n 0, 1) := by decide +kernel
theorem dX2_isFigure_1 : decode cX2_isFigure 1 = .ok (.bipush 48, 2) := by decide +kernel
theorem dX2_isFigure_3 : decode cX2_isFigure 3 = .ok (.if_icmp .lt 13, 3) := by decide +kernel
theorem dX2_isFigure_6 : decode cX2_isFigure 6 = .ok (.iload_n 0, 1) := by decide +kernel
theorem dX2_isFigure_7 : decode cX2_isFigure 7 = .ok (.bipush 57, 2) := by decide +kernel
theorem dX2_isFigure_9 : decode cX2_isFigure 9 = .ok (.if_icmp .gt 7, 3) := by decide +kernel
theorem dX2_isFigure_12 : decode cX2_isFigure 12 = .ok (.iconst 1, 1) := by decide +kernel
theorem dX2_isFigure_13 : decode cX2_isFigure 13 = .ok (.goto 4, 3) := by decide +kernel
theorem dX2_isFigure_16 : decode cX2_isFigure 16 = .ok (.iconst 0, 1) := by decide +kernel
theorem dX2_isFigure_17 : decode cX2_isFigure 17 = .ok (.ireturn, 1) := by decide +kernel
set_option maxRecDepth 20000 in
theorem ggX2_takeItem_X2_takeRealm : GoodIn wsX2_takeItem wsX2_takeRealm := goodIn_r _ [5, 6, 7, 8, 9, 10, 11, 12, 13, 14, 15, 16, 17, 18, 19, 20, 4, 21, 22, 23, 24, 25, 26, 27, 28, 29, 30, 31, 32, 33, 34, 35, 36, 37, 38, 39, 40, 41, 42, 43, 44, 45, 79, 80, 81, 82, 83, 84, 85, 86, 87, 88, 89, 90, 91, 92, 93, 94, 95, 96, 97, 98, 99] (by decide +kernel) (by decide +kernel)
set_option maxRecDepth 20000 in
theorem gX2_takeItem_X2_takeRealm : GoodIn wsX2_takeItem (wsV RX2 77 RX2 yX2_takeRealm wsX2_takeRealm) := goodIn_app (goodIn_of _ (by decide +kernel)) ggX2_takeItem_X2_takeRealm
set_option maxRecDepth 20000 in
theorem ggX2_takeItem_X2_takeLimp : GoodIn wsX2_takeItem wsX2_takeLimp := goodIn_r _ [49, 6, 7, 50, 22, 23, 24, 25, 26, 27, 79, 80, 81, 82, 83, 84, 85, 86, 87, 88, 89, 90, 91, 92, 93, 94, 95, 96, 97, 98, 99] (by decide +kernel) (by decide +kernel)
set_option maxRecDepth 20000 in
theorem gX2_takeItem_X2_takeLimp : GoodIn wsX2_takeItem (wsV RX2 81 RX2 yX2_takeLimp wsX2_takeLimp) := goodIn_app (goodIn_of _ (by decide +kernel)) ggX2_takeItem_X2_takeLimp
set_option maxRecDepth 20000 in
theorem ggX2_takeItem_X2_takeStop : GoodIn wsX2_takeItem wsX2_takeStop := goodIn_r _ [54, 6, 7, 17, 22, 23, 24, 25, 26, 27, 18, 19, 20, 4, 21, 79, 80, 81, 82, 83, 84, 85, 86, 87, 88, 89, 90, 91, 92, 93, 94, 95, 96, 97, 98, 99] (by decide +kernel) (by decide +kernel)
set_option maxRecDepth 20000 in
theorem gX2_takeItem_X2_takeStop : GoodIn wsX2_takeItem (wsV RX2 84 RX2 yX2_takeStop wsX2_takeStop) := goodIn_app (goodIn_of _ (by decide +kernel)) ggX2_takeItem_X2_takeStop
set_option maxRecDepth 20000 in
theorem ggX2_takeItem_X2_takeMarket : GoodIn wsX2_takeItem wsX2_takeMarket := goodIn_r _ [58, 6, 7, 59, 15, 60, 79, 80, 81, 82, 83, 84, 85, 86, 87, 88, 89, 90, 91, 92, 93, 94, 95, 96, 97, 98, 99] (by decide +kernel) (by decide +kernel)
set_option maxRecDepth 20000 in
theorem gX2_takeItem_X2_takeMarket : GoodIn wsX2_takeItem (wsV RX2 87 RX2 yX2_takeMarket wsX2_takeMarket) := goodIn_app (goodIn_of _ (by decide +kernel)) ggX2_takeItem_X2_takeMarket
set_option maxRecDepth 20000 in
theorem ggX2_takeItem_X2_takeScarcity : GoodIn wsX2_takeItem wsX2_takeScarcity := goodIn_r _ [64, 6, 7, 65, 18, 19, 20, 4, 21, 79, 80, 81, 82, 83, 84, 85, 86, 87, 88, 89, 90, 91, 92, 93, 94, 95, 96, 97, 98, 99] (by decide +kernel) (by decide +kernel)
set_option maxRecDepth 20000 in
theorem gX2_takeItem_X2_takeScarcity : GoodIn wsX2_takeItem (wsV RX2 90 RX2 yX2_takeScarcity wsX2_takeScarcity) := goodIn_app (goodIn_of _ (by decide +kernel)) ggX2_takeItem_X2_takeScarcity
set_option maxRecDepth 20000 in
theorem ggX2_takeItem_X2_takeMines : GoodIn wsX2_takeItem wsX2_takeMines := goodIn_r _ [69, 70, 7, 18, 19, 20, 4, 21, 71, 72, 73, 74, 75, 76, 77, 78, 79, 80, 81, 82, 100, 101, 102] (by decide +kernel) (by decide +kernel)
set_option maxRecDepth 20000 in
theorem gX2_takeItem_X2_takeMines : GoodIn wsX2_takeItem (wsV RX2 93 RX2 yX2_takeMines wsX2_takeMines) := goodIn_app (goodIn_of _ (by decide +kernel)) ggX2_takeItem_X2_takeMines
theorem dX2_takeItem_0 : decode cX2_takeItem 0 = .ok (.iload_n 1, 1) := by decide +kernel
theorem dX2_takeItem_1 : decode cX2_takeItem 1 = .ok (.tableswitch 97 103 115 #[92, 97, 97, 97, 87, 72, 82, 97, 97, 97, 97, 67, 77], 67) := by decide +kernel
theorem dX2_takeItem_68 : decode cX2_takeItem 68 = .ok (.aload_n 0, 1) := by decide +kernel
theorem dX2_takeItem_69 : decode cX2_takeItem 69 = .ok (.invokevirtual 77, 3) := by decide +kernel
theorem dX2_takeItem_72 : decode cX2_takeItem 72 = .ok (.ireturn, 1) := by decide +kernel
theorem dX2_takeItem_73 : decode cX2_takeItem 73 = .ok (.aload_n 0, 1) := by decide +kernel
theorem dX2_takeItem_74 : decode cX2_takeItem 74 = .ok (.invokevirtual 81, 3) := by decide +kernel
theorem dX2_takeItem_77 : decode cX2_takeItem 77 = .ok (.ireturn, 1) := by decide +kernel
theorem dX2_takeItem_78 : decode cX2_takeItem 78 = .ok (.aload_n 0, 1) := by decide +kernel
theorem dX2_takeItem_79 : decode cX2_takeItem 79 = .ok (.invokevirtual 84, 3) := by decide +kernel
theorem dX2_takeItem_82 : decode cX2_takeItem 82 = .ok (.ireturn, 1) := by decide +kernel
theorem dX2_takeItem_83 : decode cX2_takeItem 83 = .ok (.aload_n 0, 1) := by decide +kernel
theorem dX2_takeItem_84 : decode cX2_takeItem 84 = .ok (.invokevirtual 87, 3) := by decide +kernel
theorem dX2_takeItem_87 : decode cX2_takeItem 87 = .ok (.ireturn, 1) := by decide +kernel
theorem dX2_takeItem_88 : decode cX2_takeItem 88 = .ok (.aload_n 0, 1) := by decide +kernel
theorem dX2_takeItem_89 : decode cX2_takeItem 89 = .ok (.invokevirtual 90, 3) := by decide +kernel
theorem dX2_takeItem_92 : decode cX2_takeItem 92 = .ok (.ireturn, 1) := by decide +kernel
theorem dX2_takeItem_93 : decode cX2_takeItem 93 = .ok (.aload_n 0, 1) := by decide +kernel
theorem dX2_takeItem_94 : decode cX2_takeItem 94 = .ok (.invokevirtual 93, 3) := by decide +kernel
theorem dX2_takeItem_97 : decode cX2_takeItem 97 = .ok (.ireturn, 1) := by decide +kernel
theorem dX2_takeItem_98 : decode cX2_takeItem 98 = .ok (.iconst 0, 1) := by decide +kernel
theorem dX2_takeItem_99 : decode cX2_takeItem 99 = .ok (.ireturn, 1) := by decide +kernel
theorem dX2_isWithin_0 : decode cX2_isWithin 0 = .ok (.aload_n 0, 1) := by decide +kernel
theorem dX2_isWithin_1 : decode cX2_isWithin 1 = .ok (.getfield 25, 3) := by decide +kernel
theorem dX2_isWithin_4 : decode cX2_isWithin 4 = .ok (.iload_n 1, 1) := by decide +kernel
theorem dX2_isWithin_5 : decode cX2_isWithin 5 = .ok (.iaload, 1) := by decide +kernel
theorem dX2_isWithin_6 : decode cX2_isWithin 6 = .ok (.iload_n 2, 1) := by decide +kernel
theorem dX2_isWithin_7 : decode cX2_isWithin 7 = .ok (.if_icmp .lt 17, 3) := by decide +kernel
theorem dX2_isWithin_10 : decode cX2_isWithin 10 = .ok (.aload_n 0, 1) := by decide +kernel
theorem dX2_isWithin_11 : decode cX2_isWithin 11 = .ok (.getfield 25, 3) := by decide +kernel
theorem dX2_isWithin_14 : decode cX2_isWithin 14 = .ok (.iload_n 1, 1) := by decide +kernel
theorem dX2_isWithin_15 : decode cX2_isWithin 15 = .ok (.iaload, 1) := by decide +kernel
theorem dX2_isWithin_16 : decode cX2_isWithin 16 = .ok (.iload_n 3, 1) := by decide +kernel
theorem dX2_isWithin_17 : decode cX2_isWithin 17 = .ok (.if_icmp .gt 7, 3) := by decide +kernel
theorem dX2_isWithin_20 : decode cX2_isWithin 20 = .ok (.iconst 1, 1) := by decide +kernel
theorem dX2_isWithin_21 : decode cX2_isWithin 21 = .ok (.goto 4, 3) := by decide +kernel
theorem dX2_isWithin_24 : decode cX2_isWithin 24 = .ok (.iconst 0, 1) := by decide +kernel
theorem dX2_isWithin_25 : decode cX2_isWithin 25 = .ok (.ireturn, 1) := by decide +kernel
set_option maxRecDepth 20000 in
theorem ggX2_takeRealm_X2_isWithin : GoodIn wsX2_takeRealm wsX2_isWithin := goodIn_r _ [17, 2, 42, 43, 44, 45] (by decide +kernel) (by decide +kernel)
set_option maxRecDepth 20000 in
theorem gX2_takeRealm_X2_isWithin : GoodIn wsX2_takeRealm (wsV RX2 96 RX2 yX2_isWithin wsX2_isWithin) := goodIn_app (goodIn_of _ (by decide +kernel)) ggX2_takeRealm_X2_isWithin
set_option maxRecDepth 20000 in
theorem ggX2_takeRealm_X4_has : GoodIn wsX2_takeRealm wsX4_has := goodIn_r _ [22, 23, 46, 47, 48, 49, 50, 51, 52, 53, 54, 55, 56, 57, 58, 59, 60, 61, 62] (by decide +kernel) (by decide +kernel)
set_option maxRecDepth 20000 in
theorem gX2_takeRealm_X4_has : GoodIn wsX2_takeRealm (wsV RX2 100 RX4 yX4_has wsX4_has) := goodIn_app (goodIn_of _ (by decide +kernel)) ggX2_takeRealm_X4_has
set_option maxRecDepth 20000 in
theorem ggX2_takeRealm_X4_setLaw : GoodIn wsX2_takeRealm wsX4_setLaw := goodIn_r _ [27, 28, 29, 30, 31, 32, 33, 34, 35, 36, 37, 38, 39, 40, 41, 46, 47, 48, 49, 50, 51, 52, 53, 54, 55, 56, 57, 58, 59, 60, 61, 62] (by decide +kernel) (by decide +kernel)
set_option maxRecDepth 20000 in
theorem gX2_takeRealm_X4_setLaw : GoodIn wsX2_takeRealm (wsV RX2 118 RX4 yX4_setLaw wsX4_setLaw) := goodIn_app (goodIn_of _ (by decide +kernel)) ggX2_takeRealm_X4_setLaw
theorem dX2_takeRealm_0 : decode cX2_takeRealm 0 = .ok (.aload_n 0, 1) := by decide +kernel
theorem dX2_takeRealm_1 : decode cX2_takeRealm 1 = .ok (.iconst 0, 1) := by decide +kernel
theorem dX2_takeRealm_2 : decode cX2_takeRealm 2 = .ok (.iconst 0, 1) := by decide +kernel
theorem dX2_takeRealm_3 : decode cX2_takeRealm 3 = .ok (.bipush 7, 2) := by decide +kernel
theorem dX2_takeRealm_5 : decode cX2_takeRealm 5 = .ok (.invokevirtual 96, 3) := by decide +kernel
theorem dX2_takeRealm_8 : decode cX2_takeRealm 8 = .ok (.ifCond .eq 23, 3) := by decide +kernel
theorem dX2_takeRealm_11 : decode cX2_takeRealm 11 = .ok (.aload_n 0, 1) := by decide +kernel
theorem dX2_takeRealm_12 : decode cX2_takeRealm 12 = .ok (.getfield 12, 3) := by decide +kernel
theorem dX2_takeRealm_15 : decode cX2_takeRealm 15 = .ok (.aload_n 0, 1) := by decide +kernel
theorem dX2_takeRealm_16 : decode cX2_takeRealm 16 = .ok (.getfield 25, 3) := by decide +kernel
theorem dX2_takeRealm_19 : decode cX2_takeRealm 19 = .ok (.iconst 0, 1) := by decide +kernel
theorem dX2_takeRealm_20 : decode cX2_takeRealm 20 = .ok (.iaload, 1) := by decide +kernel
theorem dX2_takeRealm_21 : decode cX2_takeRealm 21 = .ok (.invokevirtual 100, 3) := by decide +kernel
theorem dX2_takeRealm_24 : decode cX2_takeRealm 24 = .ok (.ifCond .ne 7, 3) := by decide +kernel
theorem dX2_takeRealm_27 : decode cX2_takeRealm 27 = .ok (.iconst 1, 1) := by decide +kernel
theorem dX2_takeRealm_28 : decode cX2_takeRealm 28 = .ok (.goto 4, 3) := by decide +kernel
theorem dX2_takeRealm_31 : decode cX2_takeRealm 31 = .ok (.iconst 0, 1) := by decide +kernel
theorem dX2_takeRealm_32 : decode cX2_takeRealm 32 = .ok (.istore_n 1, 1) := by decide +kernel
theorem dX2_takeRealm_33 : decode cX2_takeRealm 33 = .ok (.aload_n 0, 1) := by decide +kernel
theorem dX2_takeRealm_34 : decode cX2_takeRealm 34 = .ok (.iconst 1, 1) := by decide +kernel
theorem dX2_takeRealm_35 : decode cX2_takeRealm 35 = .ok (.sipush 1000, 3) := by decide +kernel
theorem dX2_takeRealm_38 : decode cX2_takeRealm 38 = .ok (.ldc 103, 2) := by decide +kernel
theorem dX2_takeRealm_40 : decode cX2_takeRealm 40 = .ok (.invokevirtual 96, 3) := by decide +kernel
theorem dX2_takeRealm_43 : decode cX2_takeRealm 43 = .ok (.ifCond .eq 31, 3) := by decide +kernel
theorem dX2_takeRealm_46 : decode cX2_takeRealm 46 = .ok (.aload_n 0, 1) := by decide +kernel
theorem dX2_takeRealm_47 : decode cX2_takeRealm 47 = .ok (.iconst 2, 1) := by decide +kernel
theorem dX2_takeRealm_48 : decode cX2_takeRealm 48 = .ok (.iconst 0, 1) := by decide +kernel
theorem dX2_takeRealm_49 : decode cX2_takeRealm 49 = .ok (.sipush 999, 3) := by decide +kernel
theorem dX2_takeRealm_52 : decode cX2_takeRealm 52 = .ok (.invokevirtual 96, 3) := by decide +kernel
theorem dX2_takeRealm_55 : decode cX2_takeRealm 55 = .ok (.ifCond .eq 19, 3) := by decide +kernel
theorem dX2_takeRealm_58 : decode cX2_takeRealm 58 = .ok (.aload_n 0, 1) := by decide +kernel
theorem dX2_takeRealm_59 : decode cX2_takeRealm 59 = .ok (.iconst 3, 1) := by decide +kernel
theorem dX2_takeRealm_60 : decode cX2_takeRealm 60 = .ok (.iconst 0, 1) := by decide +kernel
theorem dX2_takeRealm_61 : decode cX2_takeRealm 61 = .ok (.sipush 200, 3) := by decide +kernel
theorem dX2_takeRealm_64 : decode cX2_takeRealm 64 = .ok (.invokevirtual 96, 3) := by decide +kernel
theorem dX2_takeRealm_67 : decode cX2_takeRealm 67 = .ok (.ifCond .eq 7, 3) := by decide +kernel
theorem dX2_takeRealm_70 : decode cX2_takeRealm 70 = .ok (.iconst 1, 1) := by decide +kernel
theorem dX2_takeRealm_71 : decode cX2_takeRealm 71 = .ok (.goto 4, 3) := by decide +kernel
theorem dX2_takeRealm_74 : decode cX2_takeRealm 74 = .ok (.iconst 0, 1) := by decide +kernel
theorem dX2_takeRealm_75 : decode cX2_takeRealm 75 = .ok (.istore_n 2, 1) := by decide +kernel
theorem dX2_takeRealm_76 : decode cX2_takeRealm 76 = .ok (.aload_n 0, 1) := by decide +kernel
theorem dX2_takeRealm_77 : decode cX2_takeRealm 77 = .ok (.iconst 4, 1) := by decide +kernel
theorem dX2_takeRealm_78 : decode cX2_takeRealm 78 = .ok (.iconst 0, 1) := by decide +kernel
theorem dX2_takeRealm_79 : decode cX2_takeRealm 79 = .ok (.sipush 9999, 3) := by decide +kernel
theorem dX2_takeRealm_82 : decode cX2_takeRealm 82 = .ok (.invokevirtual 96, 3) := by decide +kernel
theorem dX2_takeRealm_85 : decode cX2_takeRealm 85 = .ok (.ifCond .eq 32, 3) := by decide +kernel
theorem dX2_takeRealm_88 : decode cX2_takeRealm 88 = .ok (.aload_n 0, 1) := by decide +kernel
theorem dX2_takeRealm_89 : decode cX2_takeRealm 89 = .ok (.iconst 5, 1) := by decide +kernel
theorem dX2_takeRealm_90 : decode cX2_takeRealm 90 = .ok (.iconst 0, 1) := by decide +kernel
theorem dX2_takeRealm_91 : decode cX2_takeRealm 91 = .ok (.sipush 9999, 3) := by decide +kernel
theorem dX2_takeRealm_94 : decode cX2_takeRealm 94 = .ok (.invokevirtual 96, 3) := by decide +kernel
theorem dX2_takeRealm_97 : decode cX2_takeRealm 97 = .ok (.ifCond .eq 20, 3) := by decide +kernel
theorem dX2_takeRealm_100 : decode cX2_takeRealm 100 = .ok (.aload_n 0, 1) := by decide +kernel
theorem dX2_takeRealm_101 : decode cX2_takeRealm 101 = .ok (.bipush 6, 2) := by decide +kernel
theorem dX2_takeRealm_103 : decode cX2_takeRealm 103 = .ok (.iconst 0, 1) := by decide +kernel
theorem dX2_takeRealm_104 : decode cX2_takeRealm 104 = .ok (.sipush 999, 3) := by decide +kernel
theorem dX2_takeRealm_107 : decode cX2_takeRealm 107 = .ok (.invokevirtual 96, 3) := by decide +kernel
theorem dX2_takeRealm_110 : decode cX2_takeRealm 110 = .ok (.ifCond .eq 7, 3) := by decide +kernel
theorem dX2_takeRealm_113 : decode cX2_takeRealm 113 = .ok (.iconst 1, 1) := by decide +kernel
theorem dX2_takeRealm_114 : decode cX2_takeRealm 114 = .ok (.goto 4, 3) := by decide +kernel
theorem dX2_takeRealm_117 : decode cX2_takeRealm 117 = .ok (.iconst 0, 1) := by decide +kernel
theorem dX2_takeRealm_118 : decode cX2_takeRealm 118 = .ok (.istore_n 3, 1) := by decide +kernel
theorem dX2_takeRealm_119 : decode cX2_takeRealm 119 = .ok (.iload_n 1, 1) := by decide +kernel
theorem dX2_takeRealm_120 : decode cX2_takeRealm 120 = .ok (.ifCond .eq 11, 3) := by decide +kernel
theorem dX2_takeRealm_123 : decode cX2_takeRealm 123 = .ok (.iload_n 2, 1) := by decide +kernel
theorem dX2_takeRealm_124 : decode cX2_takeRealm 124 = .ok (.ifCond .eq 7, 3) := by decide +kernel
theorem dX2_takeRealm_127 : decode cX2_takeRealm 127 = .ok (.iload_n 3, 1) := by decide +kernel
theorem dX2_takeRealm_128 : decode cX2_takeRealm 128 = .ok (.ifCond .ne 5, 3) := by decide +kernel
theorem dX2_takeRealm_131 : decode cX2_takeRealm 131 = .ok (.iconst 0, 1) := by decide +kernel
theorem dX2_takeRealm_132 : decode cX2_takeRealm 132 = .ok (.ireturn, 1) := by decide +kernel
theorem dX2_takeRealm_133 : decode cX2_takeRealm 133 = .ok (.aload_n 0, 1) := by decide +kernel
theorem dX2_takeRealm_134 : decode cX2_takeRealm 134 = .ok (.getfield 25, 3) := by decide +kernel
theorem dX2_takeRealm_137 : decode cX2_takeRealm 137 = .ok (.iconst 0, 1) := by decide +kernel
theorem dX2_takeRealm_138 : decode cX2_takeRealm 138 = .ok (.iaload, 1) := by decide +kernel
theorem dX2_takeRealm_139 : decode cX2_takeRealm 139 = .ok (.istore 4, 2) := by decide +kernel
theorem dX2_takeRealm_141 : decode cX2_takeRealm 141 = .ok (.aload_n 0, 1) := by decide +kernel
theorem dX2_takeRealm_142 : decode cX2_takeRealm 142 = .ok (.getfield 12, 3) := by decide +kernel
theorem dX2_takeRealm_145 : decode cX2_takeRealm 145 = .ok (.dup, 1) := by decide +kernel
theorem dX2_takeRealm_146 : decode cX2_takeRealm 146 = .ok (.getfield 106, 3) := by decide +kernel
theorem dX2_takeRealm_149 : decode cX2_takeRealm 149 = .ok (.iconst 1, 1) := by decide +kernel
theorem dX2_takeRealm_150 : decode cX2_takeRealm 150 = .ok (.iload 4, 2) := by decide +kernel
theorem dX2_takeRealm_152 : decode cX2_takeRealm 152 = .ok (.ishl, 1) := by decide +kernel
theorem dX2_takeRealm_153 : decode cX2_takeRealm 153 = .ok (.ior, 1) := by decide +kernel
theorem dX2_takeRealm_154 : decode cX2_takeRealm 154 = .ok (.putfield 106, 3) := by decide +kernel
theorem dX2_takeRealm_157 : decode cX2_takeRealm 157 = .ok (.aload_n 0, 1) := by decide +kernel
theorem dX2_takeRealm_158 : decode cX2_takeRealm 158 = .ok (.getfield 12, 3) := by decide +kernel
theorem dX2_takeRealm_161 : decode cX2_takeRealm 161 = .ok (.dup, 1) := by decide +kernel
theorem dX2_takeRealm_162 : decode cX2_takeRealm 162 = .ok (.getfield 109, 3) := by decide +kernel
theorem dX2_takeRealm_165 : decode cX2_takeRealm 165 = .ok (.iconst 1, 1) := by decide +kernel
theorem dX2_takeRealm_166 : decode cX2_takeRealm 166 = .ok (.iload 4, 2) := by decide +kernel
theorem dX2_takeRealm_168 : decode cX2_takeRealm 168 = .ok (.ishl, 1) := by decide +kernel
theorem dX2_takeRealm_169 : decode cX2_takeRealm 169 = .ok (.ior, 1) := by decide +kernel
theorem dX2_takeRealm_170 : decode cX2_takeRealm 170 = .ok (.putfield 109, 3) := by decide +kernel
theorem dX2_takeRealm_173 : decode cX2_takeRealm 173 = .ok (.aload_n 0, 1) := by decide +kernel
theorem dX2_takeRealm_174 : decode cX2_takeRealm 174 = .ok (.getfield 12, 3) := by decide +kernel
theorem dX2_takeRealm_177 : decode cX2_takeRealm 177 = .ok (.getfield 112, 3) := by decide +kernel
theorem dX2_takeRealm_180 : decode cX2_takeRealm 180 = .ok (.iload 4, 2) := by decide +kernel
theorem dX2_takeRealm_182 : decode cX2_takeRealm 182 = .ok (.aload_n 0, 1) := by decide +kernel
theorem dX2_takeRealm_183 : decode cX2_takeRealm 183 = .ok (.getfield 25, 3) := by decide +kernel
theorem dX2_takeRealm_186 : decode cX2_takeRealm 186 = .ok (.iconst 2, 1) := by decide +kernel
theorem dX2_takeRealm_187 : decode cX2_takeRealm 187 = .ok (.iaload, 1) := by decide +kernel
theorem dX2_takeRealm_188 : decode cX2_takeRealm 188 = .ok (.iastore, 1) := by decide +kernel
theorem dX2_takeRealm_189 : decode cX2_takeRealm 189 = .ok (.aload_n 0, 1) := by decide +kernel
theorem dX2_takeRealm_190 : decode cX2_takeRealm 190 = .ok (.getfield 12, 3) := by decide +kernel
theorem dX2_takeRealm_193 : decode cX2_takeRealm 193 = .ok (.getfield 115, 3) := by decide +kernel
theorem dX2_takeRealm_196 : decode cX2_takeRealm 196 = .ok (.iload 4, 2) := by decide +kernel
theorem dX2_takeRealm_198 : decode cX2_takeRealm 198 = .ok (.aload_n 0, 1) := by decide +kernel
theorem dX2_takeRealm_199 : decode cX2_takeRealm 199 = .ok (.getfield 25, 3) := by decide +kernel
theorem dX2_takeRealm_202 : decode cX2_takeRealm 202 = .ok (.iconst 3, 1) := by decide +kernel
theorem dX2_takeRealm_203 : decode cX2_takeRealm 203 = .ok (.iaload, 1) := by decide +kernel
theorem dX2_takeRealm_204 : decode cX2_takeRealm 204 = .ok (.iastore, 1) := by decide +kernel
theorem dX2_takeRealm_205 : decode cX2_takeRealm 205 = .ok (.aload_n 0, 1) := by decide +kernel
theorem dX2_takeRealm_206 : decode cX2_takeRealm 206 = .ok (.getfield 12, 3) := by decide +kernel
theorem dX2_takeRealm_209 : decode cX2_takeRealm 209 = .ok (.iload 4, 2) := by decide +kernel
theorem dX2_takeRealm_211 : decode cX2_takeRealm 211 = .ok (.aload_n 0, 1) := by decide +kernel
theorem dX2_takeRealm_212 : decode cX2_takeRealm 212 = .ok (.getfield 25, 3) := by decide +kernel
theorem dX2_takeRealm_215 : decode cX2_takeRealm 215 = .ok (.iconst 1, 1) := by decide +kernel
theorem dX2_takeRealm_216 : decode cX2_takeRealm 216 = .ok (.iaload, 1) := by decide +kernel
theorem dX2_takeRealm_217 : decode cX2_takeRealm 217 = .ok (.invokevirtual 118, 3) := by decide +kernel
theorem dX2_takeRealm_220 : decode cX2_takeRealm 220 = .ok (.aload_n 0, 1) := by decide +kernel
theorem dX2_takeRealm_221 : decode cX2_takeRealm 221 = .ok (.getfield 12, 3) := by decide +kernel
theorem dX2_takeRealm_224 : decode cX2_takeRealm 224 = .ok (.getfield 122, 3) := by decide +kernel
theorem dX2_takeRealm_227 : decode cX2_takeRealm 227 = .ok (.iload 4, 2) := by decide +kernel
theorem dX2_takeRealm_229 : decode cX2_takeRealm 229 = .ok (.aload_n 0, 1) := by decide +kernel
theorem dX2_takeRealm_230 : decode cX2_takeRealm 230 = .ok (.getfield 25, 3) := by decide +kernel
theorem dX2_takeRealm_233 : decode cX2_takeRealm 233 = .ok (.iconst 4, 1) := by decide +kernel
theorem dX2_takeRealm_234 : decode cX2_takeRealm 234 = .ok (.iaload, 1) := by decide +kernel
theorem dX2_takeRealm_235 : decode cX2_takeRealm 235 = .ok (.i2l, 1) := by decide +kernel
theorem dX2_takeRealm_236 : decode cX2_takeRealm 236 = .ok (.lastore, 1) := by decide +kernel
theorem dX2_takeRealm_237 : decode cX2_takeRealm 237 = .ok (.aload_n 0, 1) := by decide +kernel
theorem dX2_takeRealm_238 : decode cX2_takeRealm 238 = .ok (.getfield 12, 3) := by decide +kernel
theorem dX2_takeRealm_241 : decode cX2_takeRealm 241 = .ok (.getfield 126, 3) := by decide +kernel
theorem dX2_takeRealm_244 : decode cX2_takeRealm 244 = .ok (.iload 4, 2) := by decide +kernel
theorem dX2_takeRealm_246 : decode cX2_takeRealm 246 = .ok (.ldc2_w 129, 3) := by decide +kernel
theorem dX2_takeRealm_249 : decode cX2_takeRealm 249 = .ok (.aload_n 0, 1) := by decide +kernel
theorem dX2_takeRealm_250 : decode cX2_takeRealm 250 = .ok (.getfield 25, 3) := by decide +kernel
theorem dX2_takeRealm_253 : decode cX2_takeRealm 253 = .ok (.iconst 5, 1) := by decide +kernel
theorem dX2_takeRealm_254 : decode cX2_takeRealm 254 = .ok (.iaload, 1) := by decide +kernel
theorem dX2_takeRealm_255 : decode cX2_takeRealm 255 = .ok (.i2l, 1) := by decide +kernel
theorem dX2_takeRealm_256 : decode cX2_takeRealm 256 = .ok (.lmul, 1) := by decide +kernel
theorem dX2_takeRealm_257 : decode cX2_takeRealm 257 = .ok (.lastore, 1) := by decide +kernel
theorem dX2_takeRealm_258 : decode cX2_takeRealm 258 = .ok (.aload_n 0, 1) := by decide +kernel
theorem dX2_takeRealm_259 : decode cX2_takeRealm 259 = .ok (.getfield 12, 3) := by decide +kernel
theorem dX2_takeRealm_262 : decode cX2_takeRealm 262 = .ok (.getfield 131, 3) := by decide +kernel
theorem dX2_takeRealm_265 : decode cX2_takeRealm 265 = .ok (.iload 4, 2) := by decide +kernel
theorem dX2_takeRealm_267 : decode cX2_takeRealm 267 = .ok (.aload_n 0, 1) := by decide +kernel
theorem dX2_takeRealm_268 : decode cX2_takeRealm 268 = .ok (.getfield 25, 3) := by decide +kernel
theorem dX2_takeRealm_271 : decode cX2_takeRealm 271 = .ok (.bipush 6, 2) := by decide +kernel
theorem dX2_takeRealm_273 : decode cX2_takeRealm 273 = .ok (.iaload, 1) := by decide +kernel
theorem dX2_takeRealm_274 : decode cX2_takeRealm 274 = .ok (.iastore, 1) := by decide +kernel
theorem dX2_takeRealm_275 : decode cX2_takeRealm 275 = .ok (.aload_n 0, 1) := by decide +kernel
theorem dX2_takeRealm_276 : decode cX2_takeRealm 276 = .ok (.getfield 12, 3) := by decide +kernel
theorem dX2_takeRealm_279 : decode cX2_takeRealm 279 = .ok (.getfield 134, 3) := by decide +kernel
theorem dX2_takeRealm_282 : decode cX2_takeRealm 282 = .ok (.iload 4, 2) := by decide +kernel
theorem dX2_takeRealm_284 : decode cX2_takeRealm 284 = .ok (.iconst (-1), 1) := by decide +kernel
theorem dX2_takeRealm_285 : decode cX2_takeRealm 285 = .ok (.iastore, 1) := by decide +kernel
theorem dX2_takeRealm_286 : decode cX2_takeRealm 286 = .ok (.iconst 1, 1) := by decide +kernel
theorem dX2_takeRealm_287 : decode cX2_takeRealm 287 = .ok (.ireturn, 1) := by decide +kernel
set_option maxRecDepth 20000 in
theorem ggX2_takeLimp_X4_has : GoodIn wsX2_takeLimp wsX4_has := goodIn_r _ [8, 9, 14, 15, 16, 17, 18, 19, 20, 21, 22, 23, 24, 25, 26, 27, 28, 29, 30] (by decide +kernel) (by decide +kernel)
set_option maxRecDepth 20000 in
theorem gX2_takeLimp_X4_has : GoodIn wsX2_takeLimp (wsV RX2 100 RX4 yX4_has wsX4_has) := goodIn_app (goodIn_of _ (by decide +kernel)) ggX2_takeLimp_X4_has
theorem dX2_takeLimp_0 : decode cX2_takeLimp 0 = .ok (.aload_n 0, 1) := by decide +kernel
theorem dX2_takeLimp_1 : decode cX2_takeLimp 1 = .ok (.getfield 12, 3) := by decide +kernel
theorem dX2_takeLimp_4 : decode cX2_takeLimp 4 = .ok (.aload_n 0, 1) := by decide +kernel
theorem dX2_takeLimp_5 : decode cX2_takeLimp 5 = .ok (.getfield 25, 3) := by decide +kernel
theorem dX2_takeLimp_8 : decode cX2_takeLimp 8 = .ok (.iconst 0, 1) := by decide +kernel
theorem dX2_takeLimp_9 : decode cX2_takeLimp 9 = .ok (.iaload, 1) := by decide +kernel
theorem dX2_takeLimp_10 : decode cX2_takeLimp 10 = .ok (.invokevirtual 100, 3) := by decide +kernel
theorem dX2_takeLimp_13 : decode cX2_takeLimp 13 = .ok (.ifCond .ne 5, 3) := by decide +kernel
theorem dX2_takeLimp_16 : decode cX2_takeLimp 16 = .ok (.iconst 0, 1) := by decide +kernel
theorem dX2_takeLimp_17 : decode cX2_takeLimp 17 = .ok (.ireturn, 1) := by decide +kernel
theorem dX2_takeLimp_18 : decode cX2_takeLimp 18 = .ok (.aload_n 0, 1) := by decide +kernel
theorem dX2_takeLimp_19 : decode cX2_takeLimp 19 = .ok (.getfield 12, 3) := by decide +kernel
theorem dX2_takeLimp_22 : decode cX2_takeLimp 22 = .ok (.dup, 1) := by decide +kernel
theorem dX2_takeLimp_23 : decode cX2_takeLimp 23 = .ok (.getfield 137, 3) := by decide +kernel
theorem dX2_takeLimp_26 : decode cX2_takeLimp 26 = .ok (.iconst 1, 1) := by decide +kernel
theorem dX2_takeLimp_27 : decode cX2_takeLimp 27 = .ok (.aload_n 0, 1) := by decide +kernel
theorem dX2_takeLimp_28 : decode cX2_takeLimp 28 = .ok (.getfield 25, 3) := by decide +kernel
theorem dX2_takeLimp_31 : decode cX2_takeLimp 31 = .ok (.iconst 0, 1) := by decide +kernel
theorem dX2_takeLimp_32 : decode cX2_takeLimp 32 = .ok (.iaload, 1) := by decide +kernel
theorem dX2_takeLimp_33 : decode cX2_takeLimp 33 = .ok (.ishl, 1) := by decide +kernel
theorem dX2_takeLimp_34 : decode cX2_takeLimp 34 = .ok (.ior, 1) := by decide +kernel
theorem dX2_takeLimp_35 : decode cX2_takeLimp 35 = .ok (.putfield 137, 3) := by decide +kernel
theorem dX2_takeLimp_38 : decode cX2_takeLimp 38 = .ok (.iconst 1, 1) := by decide +kernel
theorem dX2_takeLimp_39 : decode cX2_takeLimp 39 = .ok (.ireturn, 1) := by decide +kernel
set_option maxRecDepth 20000 in
theorem ggX2_takeStop_X4_has : GoodIn wsX2_takeStop wsX4_has := goodIn_r _ [8, 9, 19, 20, 21, 22, 23, 24, 25, 26, 27, 28, 29, 30, 31, 32, 33, 34, 35] (by decide +kernel) (by decide +kernel)
set_option maxRecDepth 20000 in
theorem gX2_takeStop_X4_has : GoodIn wsX2_takeStop (wsV RX2 100 RX4 yX4_has wsX4_has) := goodIn_app (goodIn_of _ (by decide +kernel)) ggX2_takeStop_X4_has
set_option maxRecDepth 20000 in
theorem ggX2_takeStop_X2_isWithin : GoodIn wsX2_takeStop wsX2_isWithin := goodIn_r _ [14, 2, 15, 16, 17, 18] (by decide +kernel) (by decide +kernel)
set_option maxRecDepth 20000 in
theorem gX2_takeStop_X2_isWithin : GoodIn wsX2_takeStop (wsV RX2 96 RX2 yX2_isWithin wsX2_isWithin) := goodIn_app (goodIn_of _ (by decide +kernel)) ggX2_takeStop_X2_isWithin
theorem dX2_takeStop_0 : decode cX2_takeStop 0 = .ok (.aload_n 0, 1) := by decide +kernel
theorem dX2_takeStop_1 : decode cX2_takeStop 1 = .ok (.getfield 12, 3) := by decide +kernel
theorem dX2_takeStop_4 : decode cX2_takeStop 4 = .ok (.aload_n 0, 1) := by decide +kernel
theorem dX2_takeStop_5 : decode cX2_takeStop 5 = .ok (.getfield 25, 3) := by decide +kernel
theorem dX2_takeStop_8 : decode cX2_takeStop 8 = .ok (.iconst 0, 1) := by decide +kernel
theorem dX2_takeStop_9 : decode cX2_takeStop 9 = .ok (.iaload, 1) := by decide +kernel
theorem dX2_takeStop_10 : decode cX2_takeStop 10 = .ok (.invokevirtual 100, 3) := by decide +kernel
theorem dX2_takeStop_13 : decode cX2_takeStop 13 = .ok (.ifCond .eq 15, 3) := by decide +kernel
theorem dX2_takeStop_16 : decode cX2_takeStop 16 = .ok (.aload_n 0, 1) := by decide +kernel
theorem dX2_takeStop_17 : decode cX2_takeStop 17 = .ok (.iconst 1, 1) := by decide +kernel
theorem dX2_takeStop_18 : decode cX2_takeStop 18 = .ok (.iconst 0, 1) := by decide +kernel
theorem dX2_takeStop_19 : decode cX2_takeStop 19 = .ok (.sipush 9999, 3) := by decide +kernel
theorem dX2_takeStop_22 : decode cX2_takeStop 22 = .ok (.invokevirtual 96, 3) := by decide +kernel
theorem dX2_takeStop_25 : decode cX2_takeStop 25 = .ok (.ifCond .ne 5, 3) := by decide +kernel
theorem dX2_takeStop_28 : decode cX2_takeStop 28 = .ok (.iconst 0, 1) := by decide +kernel
theorem dX2_takeStop_29 : decode cX2_takeStop 29 = .ok (.ireturn, 1) := by decide +kernel
theorem dX2_takeStop_30 : decode cX2_takeStop 30 = .ok (.aload_n 0, 1) := by decide +kernel
theorem dX2_takeStop_31 : decode cX2_takeStop 31 = .ok (.getfield 12, 3) := by decide +kernel
theorem dX2_takeStop_34 : decode cX2_takeStop 34 = .ok (.getfield 134, 3) := by decide +kernel
theorem dX2_takeStop_37 : decode cX2_takeStop 37 = .ok (.aload_n 0, 1) := by decide +kernel
theorem dX2_takeStop_38 : decode cX2_takeStop 38 = .ok (.getfield 25, 3) := by decide +kernel
theorem dX2_takeStop_41 : decode cX2_takeStop 41 = .ok (.iconst 0, 1) := by decide +kernel
theorem dX2_takeStop_42 : decode cX2_takeStop 42 = .ok (.iaload, 1) := by decide +kernel
theorem dX2_takeStop_43 : decode cX2_takeStop 43 = .ok (.aload_n 0, 1) := by decide +kernel
theorem dX2_takeStop_44 : decode cX2_takeStop 44 = .ok (.getfield 25, 3) := by decide +kernel
theorem dX2_takeStop_47 : decode cX2_takeStop 47 = .ok (.iconst 1, 1) := by decide +kernel
theorem dX2_takeStop_48 : decode cX2_takeStop 48 = .ok (.iaload, 1) := by decide +kernel
theorem dX2_takeStop_49 : decode cX2_takeStop 49 = .ok (.iastore, 1) := by decide +kernel
theorem dX2_takeStop_50 : decode cX2_takeStop 50 = .ok (.iconst 1, 1) := by decide +kernel
theorem dX2_takeStop_51 : decode cX2_takeStop 51 = .ok (.ireturn, 1) := by decide +kernel
theorem dX2_takeMarket_0 : decode cX2_takeMarket 0 = .ok (.aload_n 0, 1) := by decide +kernel
theorem dX2_takeMarket_1 : decode cX2_takeMarket 1 = .ok (.getfield 12, 3) := by decide +kernel
theorem dX2_takeMarket_4 : decode cX2_takeMarket 4 = .ok (.aload_n 0, 1) := by decide +kernel
theorem dX2_takeMarket_5 : decode cX2_takeMarket 5 = .ok (.getfield 25, 3) := by decide +kernel
theorem dX2_takeMarket_8 : decode cX2_takeMarket 8 = .ok (.iconst 0, 1) := by decide +kernel
theorem dX2_takeMarket_9 : decode cX2_takeMarket 9 = .ok (.iaload, 1) := by decide +kernel
theorem dX2_takeMarket_10 : decode cX2_takeMarket 10 = .ok (.i2l, 1) := by decide +kernel
theorem dX2_takeMarket_11 : decode cX2_takeMarket 11 = .ok (.putfield 140, 3) := by decide +kernel
theorem dX2_takeMarket_14 : decode cX2_takeMarket 14 = .ok (.aload_n 0, 1) := by decide +kernel
theorem dX2_takeMarket_15 : decode cX2_takeMarket 15 = .ok (.getfield 12, 3) := by decide +kernel
theorem dX2_takeMarket_18 : decode cX2_takeMarket 18 = .ok (.ldc2_w 129, 3) := by decide +kernel
theorem dX2_takeMarket_21 : decode cX2_takeMarket 21 = .ok (.aload_n 0, 1) := by decide +kernel
theorem dX2_takeMarket_22 : decode cX2_takeMarket 22 = .ok (.getfield 25, 3) := by decide +kernel
theorem dX2_takeMarket_25 : decode cX2_takeMarket 25 = .ok (.iconst 1, 1) := by decide +kernel
theorem dX2_takeMarket_26 : decode cX2_takeMarket 26 = .ok (.iaload, 1) := by decide +kernel
theorem dX2_takeMarket_27 : decode cX2_takeMarket 27 = .ok (.i2l, 1) := by decide +kernel
theorem dX2_takeMarket_28 : decode cX2_takeMarket 28 = .ok (.lmul, 1) := by decide +kernel
theorem dX2_takeMarket_29 : decode cX2_takeMarket 29 = .ok (.putfield 144, 3) := by decide +kernel
theorem dX2_takeMarket_32 : decode cX2_takeMarket 32 = .ok (.iconst 1, 1) := by decide +kernel
theorem dX2_takeMarket_33 : decode cX2_takeMarket 33 = .ok (.ireturn, 1) := by decide +kernel
set_option maxRecDepth 20000 in
theorem ggX2_takeScarcity_X2_isWithin : GoodIn wsX2_takeScarcity wsX2_isWithin := goodIn_r _ [8, 2, 9, 10, 11, 12] (by decide +kernel) (by decide +kernel)
set_option maxRecDepth 20000 in
theorem gX2_takeScarcity_X2_isWithin : GoodIn wsX2_takeScarcity (wsV RX2 96 RX2 yX2_isWithin wsX2_isWithin) := goodIn_app (goodIn_of _ (by decide +kernel)) ggX2_takeScarcity_X2_isWithin
theorem dX2_takeScarcity_0 : decode cX2_takeScarcity 0 = .ok (.aload_n 0, 1) := by decide +kernel
theorem dX2_takeScarcity_1 : decode cX2_takeScarcity 1 = .ok (.iconst 0, 1) := by decide +kernel
theorem dX2_takeScarcity_2 : decode cX2_takeScarcity 2 = .ok (.iconst 1, 1) := by decide +kernel
theorem dX2_takeScarcity_3 : decode cX2_takeScarcity 3 = .ok (.sipush 9999, 3) := by decide +kernel
theorem dX2_takeScarcity_6 : decode cX2_takeScarcity 6 = .ok (.invokevirtual 96, 3) := by decide +kernel
theorem dX2_takeScarcity_9 : decode cX2_takeScarcity 9 = .ok (.ifCond .ne 5, 3) := by decide +kernel
theorem dX2_takeScarcity_12 : decode cX2_takeScarcity 12 = .ok (.iconst 0, 1) := by decide +kernel
theorem dX2_takeScarcity_13 : decode cX2_takeScarcity 13 = .ok (.ireturn, 1) := by decide +kernel
theorem dX2_takeScarcity_14 : decode cX2_takeScarcity 14 = .ok (.aload_n 0, 1) := by decide +kernel
theorem dX2_takeScarcity_15 : decode cX2_takeScarcity 15 = .ok (.getfield 12, 3) := by decide +kernel
theorem dX2_takeScarcity_18 : decode cX2_takeScarcity 18 = .ok (.aload_n 0, 1) := by decide +kernel
theorem dX2_takeScarcity_19 : decode cX2_takeScarcity 19 = .ok (.getfield 25, 3) := by decide +kernel
theorem dX2_takeScarcity_22 : decode cX2_takeScarcity 22 = .ok (.iconst 0, 1) := by decide +kernel
theorem dX2_takeScarcity_23 : decode cX2_takeScarcity 23 = .ok (.iaload, 1) := by decide +kernel
theorem dX2_takeScarcity_24 : decode cX2_takeScarcity 24 = .ok (.putfield 147, 3) := by decide +kernel
theorem dX2_takeScarcity_27 : decode cX2_takeScarcity 27 = .ok (.iconst 1, 1) := by decide +kernel
theorem dX2_takeScarcity_28 : decode cX2_takeScarcity 28 = .ok (.ireturn, 1) := by decide +kernel
set_option maxRecDepth 20000 in
theorem ggX2_takeMines_X2_isWithin : GoodIn wsX2_takeMines wsX2_isWithin := goodIn_r _ [7, 2, 16, 17, 18, 19] (by decide +kernel) (by decide +kernel)
set_option maxRecDepth 20000 in
theorem gX2_takeMines_X2_isWithin : GoodIn wsX2_takeMines (wsV RX2 96 RX2 yX2_isWithin wsX2_isWithin) := goodIn_app (goodIn_of _ (by decide +kernel)) ggX2_takeMines_X2_isWithin
set_option maxRecDepth 20000 in
theorem ggX2_takeMines_X0_tell : GoodIn wsX2_takeMines wsX0_tell := goodIn_r _ [12, 13, 14, 15, 20, 21, 22] (by decide +kernel) (by decide +kernel)
set_option maxRecDepth 20000 in
theorem gX2_takeMines_X0_tell : GoodIn wsX2_takeMines (wsV RX2 150 RX0 yX0_tell wsX0_tell) := goodIn_app (goodIn_of _ (by decide +kernel)) ggX2_takeMines_X0_tell
theorem dX2_takeMines_0 : decode cX2_takeMines 0 = .ok (.aload_n 0, 1) := by decide +kernel
theorem dX2_takeMines_1 : decode cX2_takeMines 1 = .ok (.iconst 0, 1) := by decide +kernel
theorem dX2_takeMines_2 : decode cX2_takeMines 2 = .ok (.iconst 0, 1) := by decide +kernel
theorem dX2_takeMines_3 : decode cX2_takeMines 3 = .ok (.bipush 99, 2) := by decide +kernel
theorem dX2_takeMines_5 : decode cX2_takeMines 5 = .ok (.invokevirtual 96, 3) := by decide +kernel
theorem dX2_takeMines_8 : decode cX2_takeMines 8 = .ok (.ifCond .eq 27, 3) := by decide +kernel
theorem dX2_takeMines_11 : decode cX2_takeMines 11 = .ok (.aload_n 0, 1) := by decide +kernel
theorem dX2_takeMines_12 : decode cX2_takeMines 12 = .ok (.iconst 1, 1) := by decide +kernel
theorem dX2_takeMines_13 : decode cX2_takeMines 13 = .ok (.iconst 0, 1) := by decide +kernel
theorem dX2_takeMines_14 : decode cX2_takeMines 14 = .ok (.sipush 9999, 3) := by decide +kernel
theorem dX2_takeMines_17 : decode cX2_takeMines 17 = .ok (.invokevirtual 96, 3) := by decide +kernel
theorem dX2_takeMines_20 : decode cX2_takeMines 20 = .ok (.ifCond .eq 15, 3) := by decide +kernel
theorem dX2_takeMines_23 : decode cX2_takeMines 23 = .ok (.aload_n 0, 1) := by decide +kernel
theorem dX2_takeMines_24 : decode cX2_takeMines 24 = .ok (.iconst 2, 1) := by decide +kernel
theorem dX2_takeMines_25 : decode cX2_takeMines 25 = .ok (.iconst 0, 1) := by decide +kernel
