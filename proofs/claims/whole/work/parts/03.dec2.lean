theorem dX5_market_33 : decode cX5_market 33 = .ok (.getfield 40, 3) := by decide +kernel
theorem dX5_market_36 : decode cX5_market 36 = .ok (.getfield 121, 3) := by decide +kernel
theorem dX5_market_39 : decode cX5_market 39 = .ok (.lreturn, 1) := by decide +kernel
theorem dX5_market_40 : decode cX5_market 40 = .ok (.aload_n 0, 1) := by decide +kernel
theorem dX5_market_41 : decode cX5_market 41 = .ok (.getfield 40, 3) := by decide +kernel
theorem dX5_market_44 : decode cX5_market 44 = .ok (.getfield 125, 3) := by decide +kernel
theorem dX5_market_47 : decode cX5_market 47 = .ok (.lreturn, 1) := by decide +kernel
theorem dX5_market_48 : decode cX5_market 48 = .ok (.aload_n 0, 1) := by decide +kernel
theorem dX5_market_49 : decode cX5_market 49 = .ok (.getfield 40, 3) := by decide +kernel
theorem dX5_market_52 : decode cX5_market 52 = .ok (.getfield 128, 3) := by decide +kernel
theorem dX5_market_55 : decode cX5_market 55 = .ok (.i2l, 1) := by decide +kernel
theorem dX5_market_56 : decode cX5_market 56 = .ok (.lreturn, 1) := by decide +kernel
theorem dX5_market_57 : decode cX5_market 57 = .ok (.aload_n 0, 1) := by decide +kernel
theorem dX5_market_58 : decode cX5_market 58 = .ok (.getfield 40, 3) := by decide +kernel
theorem dX5_market_61 : decode cX5_market 61 = .ok (.getfield 131, 3) := by decide +kernel
theorem dX5_market_64 : decode cX5_market 64 = .ok (.i2l, 1) := by decide +kernel
theorem dX5_market_65 : decode cX5_market 65 = .ok (.lreturn, 1) := by decide +kernel
theorem dX5_market_66 : decode cX5_market 66 = .ok (.ldc2_w 93, 3) := by decide +kernel
theorem dX5_market_69 : decode cX5_market 69 = .ok (.lreturn, 1) := by decide +kernel
set_option maxRecDepth 20000 in
theorem ggX5_moves_X4_has : GoodIn wsX5_moves wsX4_has := goodIn_r _ [6, 7, 46, 47, 48, 49, 50, 51, 52, 53, 54, 55, 56, 57, 58, 59, 60, 61, 62] (by decide +kernel) (by decide +kernel)
set_option maxRecDepth 20000 in
theorem gX5_moves_X4_has : GoodIn wsX5_moves (wsV RX5 90 RX4 yX4_has wsX4_has) := goodIn_app (goodIn_of _ (by decide +kernel)) ggX5_moves_X4_has
set_option maxRecDepth 20000 in
theorem ggX5_moves_X4_heading : GoodIn wsX5_moves wsX4_heading := goodIn_r _ [11, 12, 13, 14, 15, 16, 17, 18, 19, 20, 5, 21, 22, 23, 24, 25, 26, 27, 28, 29, 30, 31, 32, 33, 34, 35, 36, 37, 46, 47, 48, 49, 50, 51, 52, 53, 54, 55, 56, 57, 58, 59, 60, 61, 62] (by decide +kernel) (by decide +kernel)
set_option maxRecDepth 20000 in
theorem gX5_moves_X4_heading : GoodIn wsX5_moves (wsV RX5 134 RX4 yX4_heading wsX4_heading) := goodIn_app (goodIn_of _ (by decide +kernel)) ggX5_moves_X4_heading
theorem dX5_moves_0 : decode cX5_moves 0 = .ok (.aload_n 0, 1) := by decide +kernel
theorem dX5_moves_1 : decode cX5_moves 1 = .ok (.getfield 40, 3) := by decide +kernel
theorem dX5_moves_4 : decode cX5_moves 4 = .ok (.iload_n 1, 1) := by decide +kernel
theorem dX5_moves_5 : decode cX5_moves 5 = .ok (.invokevirtual 90, 3) := by decide +kernel
theorem dX5_moves_8 : decode cX5_moves 8 = .ok (.ifCond .eq 14, 3) := by decide +kernel
theorem dX5_moves_11 : decode cX5_moves 11 = .ok (.aload_n 0, 1) := by decide +kernel
theorem dX5_moves_12 : decode cX5_moves 12 = .ok (.getfield 40, 3) := by decide +kernel
theorem dX5_moves_15 : decode cX5_moves 15 = .ok (.iload_n 1, 1) := by decide +kernel
theorem dX5_moves_16 : decode cX5_moves 16 = .ok (.invokevirtual 134, 3) := by decide +kernel
theorem dX5_moves_19 : decode cX5_moves 19 = .ok (.goto 4, 3) := by decide +kernel
theorem dX5_moves_22 : decode cX5_moves 22 = .ok (.iconst (-1), 1) := by decide +kernel
theorem dX5_moves_23 : decode cX5_moves 23 = .ok (.ireturn, 1) := by decide +kernel
set_option maxRecDepth 20000 in
theorem ggX5_ends_X4_has : GoodIn wsX5_ends wsX4_has := goodIn_r _ [8, 9, 22, 23, 24, 25, 26, 27, 28, 29, 30, 31, 32, 33, 34, 35, 36, 37, 38] (by decide +kernel) (by decide +kernel)
set_option maxRecDepth 20000 in
theorem gX5_ends_X4_has : GoodIn wsX5_ends (wsV RX5 90 RX4 yX4_has wsX4_has) := goodIn_app (goodIn_of _ (by decide +kernel)) ggX5_ends_X4_has
set_option maxRecDepth 20000 in
theorem ggX5_ends_X5_isZeroOrOne : GoodIn wsX5_ends wsX5_isZeroOrOne := goodIn_r _ [13] (by decide +kernel) (by decide +kernel)
set_option maxRecDepth 20000 in
theorem gX5_ends_X5_isZeroOrOne : GoodIn wsX5_ends (va_wsS RX5 137 yX5_isZeroOrOne wsX5_isZeroOrOne) := goodIn_app (goodIn_of _ (by decide +kernel)) ggX5_ends_X5_isZeroOrOne
theorem dX5_ends_0 : decode cX5_ends 0 = .ok (.aload_n 0, 1) := by decide +kernel
theorem dX5_ends_1 : decode cX5_ends 1 = .ok (.getfield 40, 3) := by decide +kernel
theorem dX5_ends_4 : decode cX5_ends 4 = .ok (.iload_n 1, 1) := by decide +kernel
theorem dX5_ends_5 : decode cX5_ends 5 = .ok (.invokevirtual 90, 3) := by decide +kernel
theorem dX5_ends_8 : decode cX5_ends 8 = .ok (.ifCond .eq 10, 3) := by decide +kernel
theorem dX5_ends_11 : decode cX5_ends 11 = .ok (.iload_n 2, 1) := by decide +kernel
theorem dX5_ends_12 : decode cX5_ends 12 = .ok (.invokestatic 137, 3) := by decide +kernel
theorem dX5_ends_15 : decode cX5_ends 15 = .ok (.ifCond .ne 5, 3) := by decide +kernel
theorem dX5_ends_18 : decode cX5_ends 18 = .ok (.iconst (-1), 1) := by decide +kernel
theorem dX5_ends_19 : decode cX5_ends 19 = .ok (.ireturn, 1) := by decide +kernel
theorem dX5_ends_20 : decode cX5_ends 20 = .ok (.iload_n 2, 1) := by decide +kernel
theorem dX5_ends_21 : decode cX5_ends 21 = .ok (.ifCond .ne 15, 3) := by decide +kernel
theorem dX5_ends_24 : decode cX5_ends 24 = .ok (.aload_n 0, 1) := by decide +kernel
theorem dX5_ends_25 : decode cX5_ends 25 = .ok (.getfield 40, 3) := by decide +kernel
theorem dX5_ends_28 : decode cX5_ends 28 = .ok (.getfield 140, 3) := by decide +kernel
theorem dX5_ends_31 : decode cX5_ends 31 = .ok (.iload_n 1, 1) := by decide +kernel
theorem dX5_ends_32 : decode cX5_ends 32 = .ok (.iaload, 1) := by decide +kernel
theorem dX5_ends_33 : decode cX5_ends 33 = .ok (.goto 12, 3) := by decide +kernel
theorem dX5_ends_36 : decode cX5_ends 36 = .ok (.aload_n 0, 1) := by decide +kernel
theorem dX5_ends_37 : decode cX5_ends 37 = .ok (.getfield 40, 3) := by decide +kernel
theorem dX5_ends_40 : decode cX5_ends 40 = .ok (.getfield 143, 3) := by decide +kernel
theorem dX5_ends_43 : decode cX5_ends 43 = .ok (.iload_n 1, 1) := by decide +kernel
theorem dX5_ends_44 : decode cX5_ends 44 = .ok (.iaload, 1) := by decide +kernel
theorem dX5_ends_45 : decode cX5_ends 45 = .ok (.ireturn, 1) := by decide +kernel
set_option maxRecDepth 20000 in
theorem ggX5_held_X4_holders : GoodIn wsX5_held wsX4_holders := goodIn_r _ [6, 7, 8, 9, 10, 11, 12, 5, 13, 14, 15, 16, 17, 18, 19, 20, 21, 22, 23, 24, 25, 34, 35, 36, 37, 38, 39, 40, 41, 42, 43, 44, 45, 46, 47, 48, 49, 50] (by decide +kernel) (by decide +kernel)
set_option maxRecDepth 20000 in
theorem gX5_held_X4_holders : GoodIn wsX5_held (wsV RX5 146 RX4 yX4_holders wsX4_holders) := goodIn_app (goodIn_of _ (by decide +kernel)) ggX5_held_X4_holders
theorem dX5_held_0 : decode cX5_held 0 = .ok (.aload_n 0, 1) := by decide +kernel
theorem dX5_held_1 : decode cX5_held 1 = .ok (.getfield 40, 3) := by decide +kernel
theorem dX5_held_4 : decode cX5_held 4 = .ok (.invokevirtual 146, 3) := by decide +kernel
theorem dX5_held_7 : decode cX5_held 7 = .ok (.ireturn, 1) := by decide +kernel
set_option maxRecDepth 20000 in
theorem ggX5_year_X1_passYear : GoodIn wsX5_year wsX1_passYear := goodIn_r _ [8, 9, 10, 11, 12, 13, 14, 15, 16, 17, 18, 19, 20, 21, 22, 23, 24, 25, 26, 27, 28, 29, 30, 31, 32, 33, 34, 35, 36, 37, 38, 39, 40, 41, 42, 43, 44, 45, 46, 47, 48, 49, 50, 51, 7, 52, 53, 54, 55, 56, 57, 58, 59, 60, 61, 62, 63, 64, 65, 66, 67, 68, 69, 70, 71, 72, 73, 74, 75, 76, 77, 78, 79, 80, 81, 82, 83, 84, 85, 86, 87, 88, 89, 98, 99, 100, 101, 102, 103, 104, 105, 106, 107, 108, 109, 110, 111, 112, 113, 114, 115, 116, 117, 118, 119] (by decide +kernel) (by decide +kernel)
set_option maxRecDepth 20000 in
theorem gX5_year_X1_passYear : GoodIn wsX5_year (wsV RX5 150 RX1 yX1_passYear wsX1_passYear) := goodIn_app (goodIn_of _ (by decide +kernel)) ggX5_year_X1_passYear
theorem dX5_year_0 : decode cX5_year 0 = .ok (.aload_n 0, 1) := by decide +kernel
theorem dX5_year_1 : decode cX5_year 1 = .ok (.getfield 26, 3) := by decide +kernel
theorem dX5_year_4 : decode cX5_year 4 = .ok (.aload_n 0, 1) := by decide +kernel
theorem dX5_year_5 : decode cX5_year 5 = .ok (.getfield 40, 3) := by decide +kernel
theorem dX5_year_8 : decode cX5_year 8 = .ok (.aload_n 0, 1) := by decide +kernel
theorem dX5_year_9 : decode cX5_year 9 = .ok (.getfield 33, 3) := by decide +kernel
theorem dX5_year_12 : decode cX5_year 12 = .ok (.invokevirtual 150, 3) := by decide +kernel
theorem dX5_year_15 : decode cX5_year 15 = .ok (.ireturn, 1) := by decide +kernel
set_option maxRecDepth 20000 in
theorem ggX5_rest_X4_copyFrom : GoodIn wsX5_rest wsX4_copyFrom := goodIn_r _ [8, 9, 10, 11, 12, 13, 14, 15, 16, 17, 18, 19, 20, 21, 22, 23, 24, 25, 26, 27, 28, 29, 107, 108, 109, 110, 111, 112, 113, 114, 115, 116, 117, 118, 119, 120, 121, 122, 123] (by decide +kernel) (by decide +kernel)
set_option maxRecDepth 20000 in
theorem gX5_rest_X4_copyFrom : GoodIn wsX5_rest (wsV RX5 73 RX4 yX4_copyFrom wsX4_copyFrom) := goodIn_app (goodIn_of _ (by decide +kernel)) ggX5_rest_X4_copyFrom
set_option maxRecDepth 20000 in
theorem ggX5_rest_X1_settle : GoodIn wsX5_rest wsX1_settle := goodIn_r _ [34, 35, 36, 37, 38, 39, 40, 41, 42, 43, 44, 33, 45, 46, 47, 48, 11, 12, 13, 49, 50, 51, 52, 53, 54, 55, 7, 56, 28, 19, 26, 9, 18, 25, 57, 58, 59, 60, 23, 61, 62, 63, 64, 24, 65, 66, 67, 68, 20, 69, 70, 71, 72, 21, 73, 74, 75, 76, 77, 78, 79, 80, 81, 27, 82, 83, 84, 85, 86, 87, 88, 89, 90, 91, 92, 93, 94, 95, 96, 97, 98, 124, 125, 107, 108, 109, 110, 111, 112, 113, 114, 115, 116, 117, 118, 119, 120, 121, 122, 123] (by decide +kernel) (by decide +kernel)
set_option maxRecDepth 20000 in
theorem gX5_rest_X1_settle : GoodIn wsX5_rest (wsV RX5 154 RX1 yX1_settle wsX1_settle) := goodIn_app (goodIn_of _ (by decide +kernel)) ggX5_rest_X1_settle
theorem dX5_rest_0 : decode cX5_rest 0 = .ok (.aload_n 0, 1) := by decide +kernel
theorem dX5_rest_1 : decode cX5_rest 1 = .ok (.getfield 44, 3) := by decide +kernel
theorem dX5_rest_4 : decode cX5_rest 4 = .ok (.aload_n 0, 1) := by decide +kernel
theorem dX5_rest_5 : decode cX5_rest 5 = .ok (.getfield 40, 3) := by decide +kernel
theorem dX5_rest_8 : decode cX5_rest 8 = .ok (.invokevirtual 73, 3) := by decide +kernel
theorem dX5_rest_11 : decode cX5_rest 11 = .ok (.aload_n 0, 1) := by decide +kernel
theorem dX5_rest_12 : decode cX5_rest 12 = .ok (.getfield 26, 3) := by decide +kernel
theorem dX5_rest_15 : decode cX5_rest 15 = .ok (.aload_n 0, 1) := by decide +kernel
theorem dX5_rest_16 : decode cX5_rest 16 = .ok (.getfield 44, 3) := by decide +kernel
theorem dX5_rest_19 : decode cX5_rest 19 = .ok (.invokevirtual 154, 3) := by decide +kernel
theorem dX5_rest_22 : decode cX5_rest 22 = .ok (.istore_n 1, 1) := by decide +kernel
theorem dX5_rest_23 : decode cX5_rest 23 = .ok (.iload_n 1, 1) := by decide +kernel
theorem dX5_rest_24 : decode cX5_rest 24 = .ok (.bipush (-5), 2) := by decide +kernel
theorem dX5_rest_26 : decode cX5_rest 26 = .ok (.if_icmp .eq 14, 3) := by decide +kernel
theorem dX5_rest_29 : decode cX5_rest 29 = .ok (.aload_n 0, 1) := by decide +kernel
theorem dX5_rest_30 : decode cX5_rest 30 = .ok (.getfield 40, 3) := by decide +kernel
theorem dX5_rest_33 : decode cX5_rest 33 = .ok (.aload_n 0, 1) := by decide +kernel
theorem dX5_rest_34 : decode cX5_rest 34 = .ok (.getfield 44, 3) := by decide +kernel
theorem dX5_rest_37 : decode cX5_rest 37 = .ok (.invokevirtual 73, 3) := by decide +kernel
theorem dX5_rest_40 : decode cX5_rest 40 = .ok (.iload_n 1, 1) := by decide +kernel
theorem dX5_rest_41 : decode cX5_rest 41 = .ok (.ireturn, 1) := by decide +kernel
set_option maxRecDepth 20000 in
theorem ggX5_gone_X4_has : GoodIn wsX5_gone wsX4_has := goodIn_r _ [9, 10, 122, 123, 124, 125, 126, 127, 128, 129, 130, 131, 132, 133, 134, 135, 136, 137, 138] (by decide +kernel) (by decide +kernel)
set_option maxRecDepth 20000 in
theorem gX5_gone_X4_has : GoodIn wsX5_gone (wsV RX5 90 RX4 yX4_has wsX4_has) := goodIn_app (goodIn_of _ (by decide +kernel)) ggX5_gone_X4_has
set_option maxRecDepth 20000 in
theorem ggX5_gone_X5_isZeroOrOne : GoodIn wsX5_gone wsX5_isZeroOrOne := goodIn_r _ [14] (by decide +kernel) (by decide +kernel)
set_option maxRecDepth 20000 in
theorem gX5_gone_X5_isZeroOrOne : GoodIn wsX5_gone (va_wsS RX5 137 yX5_isZeroOrOne wsX5_isZeroOrOne) := goodIn_app (goodIn_of _ (by decide +kernel)) ggX5_gone_X5_isZeroOrOne
set_option maxRecDepth 20000 in
theorem ggX5_gone_X5_isSpanOfYears : GoodIn wsX5_gone wsX5_isSpanOfYears := goodIn_r _ [17] (by decide +kernel) (by decide +kernel)
set_option maxRecDepth 20000 in
theorem gX5_gone_X5_isSpanOfYears : GoodIn wsX5_gone (va_wsS RX5 158 yX5_isSpanOfYears wsX5_isSpanOfYears) := goodIn_app (goodIn_of _ (by decide +kernel)) ggX5_gone_X5_isSpanOfYears
set_option maxRecDepth 20000 in
theorem ggX5_gone_X4_copyFrom : GoodIn wsX5_gone wsX4_copyFrom := goodIn_r _ [21, 22, 23, 24, 25, 26, 27, 28, 29, 30, 31, 32, 33, 34, 10, 35, 36, 37, 38, 39, 40, 41, 122, 123, 124, 125, 126, 127, 128, 129, 130, 131, 132, 133, 134, 135, 136, 137, 138] (by decide +kernel) (by decide +kernel)
set_option maxRecDepth 20000 in
theorem gX5_gone_X4_copyFrom : GoodIn wsX5_gone (wsV RX5 73 RX4 yX4_copyFrom wsX4_copyFrom) := goodIn_app (goodIn_of _ (by decide +kernel)) ggX5_gone_X4_copyFrom
set_option maxRecDepth 20000 in
theorem ggX5_gone_X1_passYear : GoodIn wsX5_gone wsX1_passYear := goodIn_r _ [46, 47, 48, 49, 24, 25, 26, 50, 51, 52, 53, 54, 55, 56, 57, 58, 59, 60, 61, 62, 63, 64, 65, 66, 67, 68, 69, 70, 71, 8, 72, 37, 73, 40, 39, 38, 74, 75, 76, 77, 78, 79, 80, 81, 45, 82, 83, 84, 85, 86, 32, 22, 31, 87, 88, 89, 90, 35, 91, 92, 93, 94, 36, 95, 96, 97, 98, 33, 99, 100, 101, 102, 34, 103, 104, 105, 106, 107, 108, 109, 110, 111, 30, 122, 123, 124, 125, 126, 127, 128, 129, 130, 131, 132, 133, 134, 135, 136, 137, 138, 139, 140, 141, 142, 143] (by decide +kernel) (by decide +kernel)
set_option maxRecDepth 20000 in
theorem gX5_gone_X1_passYear : GoodIn wsX5_gone (wsV RX5 150 RX1 yX1_passYear wsX1_passYear) := goodIn_app (goodIn_of _ (by decide +kernel)) ggX5_gone_X1_passYear
set_option maxRecDepth 20000 in
theorem ggX5_gone_X4_hasGold : GoodIn wsX5_gone wsX4_hasGold := goodIn_r _ [98, 33, 122, 123, 124, 125, 126, 127, 128, 129, 130, 131, 132, 133, 134, 135, 136, 137, 138] (by decide +kernel) (by decide +kernel)
set_option maxRecDepth 20000 in
theorem gX5_gone_X4_hasGold : GoodIn wsX5_gone (wsV RX5 161 RX4 yX4_hasGold wsX4_hasGold) := goodIn_app (goodIn_of _ (by decide +kernel)) ggX5_gone_X4_hasGold
set_option maxRecDepth 20000 in
theorem ggX5_gone_X4_hasSilver : GoodIn wsX5_gone wsX4_hasSilver := goodIn_r _ [102, 34, 22, 122, 123, 124, 125, 126, 127, 128, 129, 130, 131, 132, 133, 134, 135, 136, 137, 138] (by decide +kernel) (by decide +kernel)
set_option maxRecDepth 20000 in
theorem gX5_gone_X4_hasSilver : GoodIn wsX5_gone (wsV RX5 164 RX4 yX4_hasSilver wsX4_hasSilver) := goodIn_app (goodIn_of _ (by decide +kernel)) ggX5_gone_X4_hasSilver
theorem dX5_gone_0 : decode cX5_gone 0 = .ok (.aload_n 0, 1) := by decide +kernel
theorem dX5_gone_1 : decode cX5_gone 1 = .ok (.getfield 40, 3) := by decide +kernel
theorem dX5_gone_4 : decode cX5_gone 4 = .ok (.iload_n 1, 1) := by decide +kernel
theorem dX5_gone_5 : decode cX5_gone 5 = .ok (.invokevirtual 90, 3) := by decide +kernel
theorem dX5_gone_8 : decode cX5_gone 8 = .ok (.ifCond .eq 17, 3) := by decide +kernel
theorem dX5_gone_11 : decode cX5_gone 11 = .ok (.iload_n 2, 1) := by decide +kernel
theorem dX5_gone_12 : decode cX5_gone 12 = .ok (.invokestatic 137, 3) := by decide +kernel
theorem dX5_gone_15 : decode cX5_gone 15 = .ok (.ifCond .eq 10, 3) := by decide +kernel
theorem dX5_gone_18 : decode cX5_gone 18 = .ok (.iload_n 3, 1) := by decide +kernel
theorem dX5_gone_19 : decode cX5_gone 19 = .ok (.invokestatic 158, 3) := by decide +kernel
theorem dX5_gone_22 : decode cX5_gone 22 = .ok (.ifCond .ne 5, 3) := by decide +kernel
theorem dX5_gone_25 : decode cX5_gone 25 = .ok (.iconst (-1), 1) := by decide +kernel
theorem dX5_gone_26 : decode cX5_gone 26 = .ok (.ireturn, 1) := by decide +kernel
theorem dX5_gone_27 : decode cX5_gone 27 = .ok (.aload_n 0, 1) := by decide +kernel
theorem dX5_gone_28 : decode cX5_gone 28 = .ok (.getfield 44, 3) := by decide +kernel
theorem dX5_gone_31 : decode cX5_gone 31 = .ok (.aload_n 0, 1) := by decide +kernel
theorem dX5_gone_32 : decode cX5_gone 32 = .ok (.getfield 40, 3) := by decide +kernel
theorem dX5_gone_35 : decode cX5_gone 35 = .ok (.invokevirtual 73, 3) := by decide +kernel
theorem dX5_gone_38 : decode cX5_gone 38 = .ok (.iconst 1, 1) := by decide +kernel
theorem dX5_gone_39 : decode cX5_gone 39 = .ok (.istore 4, 2) := by decide +kernel
theorem dX5_gone_41 : decode cX5_gone 41 = .ok (.iload 4, 2) := by decide +kernel
theorem dX5_gone_43 : decode cX5_gone 43 = .ok (.iload_n 3, 1) := by decide +kernel
theorem dX5_gone_44 : decode cX5_gone 44 = .ok (.if_icmp .gt 57, 3) := by decide +kernel
theorem dX5_gone_47 : decode cX5_gone 47 = .ok (.aload_n 0, 1) := by decide +kernel
theorem dX5_gone_48 : decode cX5_gone 48 = .ok (.getfield 26, 3) := by decide +kernel
theorem dX5_gone_51 : decode cX5_gone 51 = .ok (.aload_n 0, 1) := by decide +kernel
theorem dX5_gone_52 : decode cX5_gone 52 = .ok (.getfield 44, 3) := by decide +kernel
theorem dX5_gone_55 : decode cX5_gone 55 = .ok (.aload_n 0, 1) := by decide +kernel
theorem dX5_gone_56 : decode cX5_gone 56 = .ok (.getfield 33, 3) := by decide +kernel
theorem dX5_gone_59 : decode cX5_gone 59 = .ok (.invokevirtual 150, 3) := by decide +kernel
theorem dX5_gone_62 : decode cX5_gone 62 = .ok (.pop, 1) := by decide +kernel
theorem dX5_gone_63 : decode cX5_gone 63 = .ok (.iload_n 2, 1) := by decide +kernel
theorem dX5_gone_64 : decode cX5_gone 64 = .ok (.ifCond .ne 17, 3) := by decide +kernel
theorem dX5_gone_67 : decode cX5_gone 67 = .ok (.aload_n 0, 1) := by decide +kernel
theorem dX5_gone_68 : decode cX5_gone 68 = .ok (.getfield 44, 3) := by decide +kernel
theorem dX5_gone_71 : decode cX5_gone 71 = .ok (.iload_n 1, 1) := by decide +kernel
theorem dX5_gone_72 : decode cX5_gone 72 = .ok (.invokevirtual 161, 3) := by decide +kernel
theorem dX5_gone_75 : decode cX5_gone 75 = .ok (.ifCond .ne 20, 3) := by decide +kernel
theorem dX5_gone_78 : decode cX5_gone 78 = .ok (.goto 14, 3) := by decide +kernel
theorem dX5_gone_81 : decode cX5_gone 81 = .ok (.aload_n 0, 1) := by decide +kernel
theorem dX5_gone_82 : decode cX5_gone 82 = .ok (.getfield 44, 3) := by decide +kernel
theorem dX5_gone_85 : decode cX5_gone 85 = .ok (.iload_n 1, 1) := by decide +kernel
theorem dX5_gone_86 : decode cX5_gone 86 = .ok (.invokevirtual 164, 3) := by decide +kernel
theorem dX5_gone_89 : decode cX5_gone 89 = .ok (.ifCond .ne 6, 3) := by decide +kernel
theorem dX5_gone_92 : decode cX5_gone 92 = .ok (.iload 4, 2) := by decide +kernel
theorem dX5_gone_94 : decode cX5_gone 94 = .ok (.ireturn, 1) := by decide +kernel
theorem dX5_gone_95 : decode cX5_gone 95 = .ok (.iinc 4 1, 3) := by decide +kernel
theorem dX5_gone_98 : decode cX5_gone 98 = .ok (.goto (-57), 3) := by decide +kernel
theorem dX5_gone_101 : decode cX5_gone 101 = .ok (.bipush (-4), 2) := by decide +kernel
theorem dX5_gone_103 : decode cX5_gone 103 = .ok (.ireturn, 1) := by decide +kernel
set_option maxRecDepth 20000 in
theorem ggX5_stopped_X4_has : GoodIn wsX5_stopped wsX4_has := goodIn_r _ [9, 10, 118, 119, 120, 121, 122, 123, 124, 125, 126, 127, 128, 129, 130, 131, 132, 133, 134] (by decide +kernel) (by decide +kernel)
set_option maxRecDepth 20000 in
theorem gX5_stopped_X4_has : GoodIn wsX5_stopped (wsV RX5 90 RX4 yX4_has wsX4_has) := goodIn_app (goodIn_of _ (by decide +kernel)) ggX5_stopped_X4_has
set_option maxRecDepth 20000 in
theorem ggX5_stopped_X5_isSpanOfYears : GoodIn wsX5_stopped wsX5_isSpanOfYears := goodIn_r _ [14] (by decide +kernel) (by decide +kernel)
set_option maxRecDepth 20000 in
theorem gX5_stopped_X5_isSpanOfYears : GoodIn wsX5_stopped (va_wsS RX5 158 yX5_isSpanOfYears wsX5_isSpanOfYears) := goodIn_app (goodIn_of _ (by decide +kernel)) ggX5_stopped_X5_isSpanOfYears
set_option maxRecDepth 20000 in
theorem ggX5_stopped_X4_mints : GoodIn wsX5_stopped wsX4_mints := goodIn_r _ [18, 19, 118, 119, 120, 121, 122, 123, 124, 125, 126, 127, 128, 129, 130, 131, 132, 133, 134] (by decide +kernel) (by decide +kernel)
set_option maxRecDepth 20000 in
theorem gX5_stopped_X4_mints : GoodIn wsX5_stopped (wsV RX5 115 RX4 yX4_mints wsX4_mints) := goodIn_app (goodIn_of _ (by decide +kernel)) ggX5_stopped_X4_mints
set_option maxRecDepth 20000 in
theorem ggX5_stopped_X4_copyFrom : GoodIn wsX5_stopped wsX4_copyFrom := goodIn_r _ [23, 24, 25, 26, 27, 28, 29, 30, 31, 32, 33, 34, 35, 36, 10, 19, 37, 38, 39, 40, 41, 42, 118, 119, 120, 121, 122, 123, 124, 125, 126, 127, 128, 129, 130, 131, 132, 133, 134] (by decide +kernel) (by decide +kernel)
set_option maxRecDepth 20000 in
theorem gX5_stopped_X4_copyFrom : GoodIn wsX5_stopped (wsV RX5 73 RX4 yX4_copyFrom wsX4_copyFrom) := goodIn_app (goodIn_of _ (by decide +kernel)) ggX5_stopped_X4_copyFrom
set_option maxRecDepth 20000 in
theorem ggX5_stopped_X1_passYear : GoodIn wsX5_stopped wsX1_passYear := goodIn_r _ [47, 48, 49, 50, 26, 27, 28, 51, 52, 53, 54, 55, 56, 57, 58, 59, 60, 61, 62, 63, 64, 65, 66, 67, 68, 69, 70, 71, 72, 8, 73, 38, 74, 41, 40, 39, 75, 76, 77, 78, 79, 80, 81, 82, 46, 83, 84, 85, 86, 87, 34, 24, 33, 88, 16, 17, 18, 19, 89, 90, 91, 92, 37, 93, 94, 95, 96, 35, 97, 98, 99, 100, 36, 101, 102, 103, 104, 105, 106, 107, 108, 109, 32, 118, 119, 120, 121, 122, 123, 124, 125, 126, 127, 128, 129, 130, 131, 132, 133, 134, 135, 136, 137, 138, 139] (by decide +kernel) (by decide +kernel)
set_option maxRecDepth 20000 in
theorem gX5_stopped_X1_passYear : GoodIn wsX5_stopped (wsV RX5 150 RX1 yX1_passYear wsX1_passYear) := goodIn_app (goodIn_of _ (by decide +kernel)) ggX5_stopped_X1_passYear
theorem dX5_stopped_0 : decode cX5_stopped 0 = .ok (.aload_n 0, 1) := by decide +kernel
theorem dX5_stopped_1 : decode cX5_stopped 1 = .ok (.getfield 40, 3) := by decide +kernel
theorem dX5_stopped_4 : decode cX5_stopped 4 = .ok (.iload_n 1, 1) := by decide +kernel
theorem dX5_stopped_5 : decode cX5_stopped 5 = .ok (.invokevirtual 90, 3) := by decide +kernel
theorem dX5_stopped_8 : decode cX5_stopped 8 = .ok (.ifCond .eq 10, 3) := by decide +kernel
theorem dX5_stopped_11 : decode cX5_stopped 11 = .ok (.iload_n 2, 1) := by decide +kernel
theorem dX5_stopped_12 : decode cX5_stopped 12 = .ok (.invokestatic 158, 3) := by decide +kernel
theorem dX5_stopped_15 : decode cX5_stopped 15 = .ok (.ifCond .ne 5, 3) := by decide +kernel
theorem dX5_stopped_18 : decode cX5_stopped 18 = .ok (.iconst (-1), 1) := by decide +kernel
theorem dX5_stopped_19 : decode cX5_stopped 19 = .ok (.ireturn, 1) := by decide +kernel
theorem dX5_stopped_20 : decode cX5_stopped 20 = .ok (.aload_n 0, 1) := by decide +kernel
theorem dX5_stopped_21 : decode cX5_stopped 21 = .ok (.getfield 40, 3) := by decide +kernel
theorem dX5_stopped_24 : decode cX5_stopped 24 = .ok (.iload_n 1, 1) := by decide +kernel
theorem dX5_stopped_25 : decode cX5_stopped 25 = .ok (.invokevirtual 115, 3) := by decide +kernel
theorem dX5_stopped_28 : decode cX5_stopped 28 = .ok (.ifCond .ne 6, 3) := by decide +kernel
theorem dX5_stopped_31 : decode cX5_stopped 31 = .ok (.bipush (-2), 2) := by decide +kernel
theorem dX5_stopped_33 : decode cX5_stopped 33 = .ok (.ireturn, 1) := by decide +kernel
theorem dX5_stopped_34 : decode cX5_stopped 34 = .ok (.aload_n 0, 1) := by decide +kernel
theorem dX5_stopped_35 : decode cX5_stopped 35 = .ok (.getfield 44, 3) := by decide +kernel
theorem dX5_stopped_38 : decode cX5_stopped 38 = .ok (.aload_n 0, 1) := by decide +kernel
theorem dX5_stopped_39 : decode cX5_stopped 39 = .ok (.getfield 40, 3) := by decide +kernel
theorem dX5_stopped_42 : decode cX5_stopped 42 = .ok (.invokevirtual 73, 3) := by decide +kernel
theorem dX5_stopped_45 : decode cX5_stopped 45 = .ok (.iconst 1, 1) := by decide +kernel
theorem dX5_stopped_46 : decode cX5_stopped 46 = .ok (.istore_n 3, 1) := by decide +kernel
theorem dX5_stopped_47 : decode cX5_stopped 47 = .ok (.iload_n 3, 1) := by decide +kernel
theorem dX5_stopped_48 : decode cX5_stopped 48 = .ok (.iload_n 2, 1) := by decide +kernel
theorem dX5_stopped_49 : decode cX5_stopped 49 = .ok (.if_icmp .gt 38, 3) := by decide +kernel
theorem dX5_stopped_52 : decode cX5_stopped 52 = .ok (.aload_n 0, 1) := by decide +kernel
theorem dX5_stopped_53 : decode cX5_stopped 53 = .ok (.getfield 26, 3) := by decide +kernel
theorem dX5_stopped_56 : decode cX5_stopped 56 = .ok (.aload_n 0, 1) := by decide +kernel
theorem dX5_stopped_57 : decode cX5_stopped 57 = .ok (.getfield 44, 3) := by decide +kernel
theorem dX5_stopped_60 : decode cX5_stopped 60 = .ok (.aload_n 0, 1) := by decide +kernel
theorem dX5_stopped_61 : decode cX5_stopped 61 = .ok (.getfield 33, 3) := by decide +kernel
theorem dX5_stopped_64 : decode cX5_stopped 64 = .ok (.invokevirtual 150, 3) := by decide +kernel
theorem dX5_stopped_67 : decode cX5_stopped 67 = .ok (.pop, 1) := by decide +kernel
theorem dX5_stopped_68 : decode cX5_stopped 68 = .ok (.aload_n 0, 1) := by decide +kernel
theorem dX5_stopped_69 : decode cX5_stopped 69 = .ok (.getfield 44, 3) := by decide +kernel
theorem dX5_stopped_72 : decode cX5_stopped 72 = .ok (.iload_n 1, 1) := by decide +kernel
theorem dX5_stopped_73 : decode cX5_stopped 73 = .ok (.invokevirtual 115, 3) := by decide +kernel
theorem dX5_stopped_76 : decode cX5_stopped 76 = .ok (.ifCond .ne 5, 3) := by decide +kernel
theorem dX5_stopped_79 : decode cX5_stopped 79 = .ok (.iload_n 3, 1) := by decide +kernel
theorem dX5_stopped_80 : decode cX5_stopped 80 = .ok (.ireturn, 1) := by decide +kernel
theorem dX5_stopped_81 : decode cX5_stopped 81 = .ok (.iinc 3 1, 3) := by decide +kernel
theorem dX5_stopped_84 : decode cX5_stopped 84 = .ok (.goto (-37), 3) := by decide +kernel
theorem dX5_stopped_87 : decode cX5_stopped 87 = .ok (.bipush (-4), 2) := by decide +kernel
theorem dX5_stopped_89 : decode cX5_stopped 89 = .ok (.ireturn, 1) := by decide +kernel
set_option maxRecDepth 20000 in
theorem ggX5_free_X5_isSpanOfYears : GoodIn wsX5_free wsX5_isSpanOfYears := goodIn_r _ [8] (by decide +kernel) (by decide +kernel)
set_option maxRecDepth 20000 in
theorem gX5_free_X5_isSpanOfYears : GoodIn wsX5_free (va_wsS RX5 158 yX5_isSpanOfYears wsX5_isSpanOfYears) := goodIn_app (goodIn_of _ (by decide +kernel)) ggX5_free_X5_isSpanOfYears
set_option maxRecDepth 20000 in
theorem ggX5_free_X4_copyFrom : GoodIn wsX5_free wsX4_copyFrom := goodIn_r _ [13, 14, 15, 16, 17, 18, 19, 20, 21, 22, 23, 24, 25, 26, 27, 28, 29, 30, 31, 32, 33, 34, 117, 118, 119, 120, 121, 122, 123, 124, 125, 126, 127, 128, 129, 130, 131, 132, 133] (by decide +kernel) (by decide +kernel)
set_option maxRecDepth 20000 in
theorem gX5_free_X4_copyFrom : GoodIn wsX5_free (wsV RX5 73 RX4 yX4_copyFrom wsX4_copyFrom) := goodIn_app (goodIn_of _ (by decide +kernel)) ggX5_free_X4_copyFrom
set_option maxRecDepth 20000 in
theorem ggX5_free_X1_passYear : GoodIn wsX5_free wsX1_passYear := goodIn_r _ [39, 40, 41, 42, 16, 17, 18, 43, 44, 45, 46, 47, 48, 49, 50, 51, 52, 53, 54, 55, 56, 57, 58, 59, 60, 61, 62, 63, 64, 12, 65, 30, 66, 33, 32, 31, 67, 68, 69, 70, 71, 72, 73, 74, 38, 75, 76, 77, 78, 79, 24, 14, 23, 80, 81, 82, 83, 28, 84, 85, 86, 87, 29, 88, 89, 90, 91, 25, 92, 93, 94, 95, 26, 96, 97, 98, 99, 100, 101, 102, 103, 104, 22, 117, 118, 119, 120, 121, 122, 123, 124, 125, 126, 127, 128, 129, 130, 131, 132, 133, 134, 135, 136, 137, 138] (by decide +kernel) (by decide +kernel)
set_option maxRecDepth 20000 in
theorem gX5_free_X1_passYear : GoodIn wsX5_free (wsV RX5 150 RX1 yX1_passYear wsX1_passYear) := goodIn_app (goodIn_of _ (by decide +kernel)) ggX5_free_X1_passYear
set_option maxRecDepth 20000 in
theorem ggX5_free_X4_holders : GoodIn wsX5_free wsX4_holders := goodIn_r _ [108, 33, 23, 24, 80, 81, 82, 12, 83, 28, 88, 89, 90, 91, 25, 92, 93, 94, 95, 26, 14, 117, 118, 119, 120, 121, 122, 123, 124, 125, 126, 127, 128, 129, 130, 131, 132, 133] (by decide +kernel) (by decide +kernel)
set_option maxRecDepth 20000 in
theorem gX5_free_X4_holders : GoodIn wsX5_free (wsV RX5 146 RX4 yX4_holders wsX4_holders) := goodIn_app (goodIn_of _ (by decide +kernel)) ggX5_free_X4_holders
theorem dX5_free_0 : decode cX5_free 0 = .ok (.iload_n 1, 1) := by decide +kernel
theorem dX5_free_1 : decode cX5_free 1 = .ok (.invokestatic 158, 3) := by decide +kernel
theorem dX5_free_4 : decode cX5_free 4 = .ok (.ifCond .ne 5, 3) := by decide +kernel
theorem dX5_free_7 : decode cX5_free 7 = .ok (.iconst (-1), 1) := by decide +kernel
theorem dX5_free_8 : decode cX5_free 8 = .ok (.ireturn, 1) := by decide +kernel
theorem dX5_free_9 : decode cX5_free 9 = .ok (.aload_n 0, 1) := by decide +kernel
theorem dX5_free_10 : decode cX5_free 10 = .ok (.getfield 44, 3) := by decide +kernel
theorem dX5_free_13 : decode cX5_free 13 = .ok (.aload_n 0, 1) := by decide +kernel
theorem dX5_free_14 : decode cX5_free 14 = .ok (.getfield 40, 3) := by decide +kernel
theorem dX5_free_17 : decode cX5_free 17 = .ok (.invokevirtual 73, 3) := by decide +kernel
theorem dX5_free_20 : decode cX5_free 20 = .ok (.iconst 1, 1) := by decide +kernel
theorem dX5_free_21 : decode cX5_free 21 = .ok (.istore_n 2, 1) := by decide +kernel
theorem dX5_free_22 : decode cX5_free 22 = .ok (.iload_n 2, 1) := by decide +kernel
theorem dX5_free_23 : decode cX5_free 23 = .ok (.iload_n 1, 1) := by decide +kernel
theorem dX5_free_24 : decode cX5_free 24 = .ok (.if_icmp .gt 37, 3) := by decide +kernel
theorem dX5_free_27 : decode cX5_free 27 = .ok (.aload_n 0, 1) := by decide +kernel
theorem dX5_free_28 : decode cX5_free 28 = .ok (.getfield 26, 3) := by decide +kernel
theorem dX5_free_31 : decode cX5_free 31 = .ok (.aload_n 0, 1) := by decide +kernel
theorem dX5_free_32 : decode cX5_free 32 = .ok (.getfield 44, 3) := by decide +kernel
theorem dX5_free_35 : decode cX5_free 35 = .ok (.aload_n 0, 1) := by decide +kernel
theorem dX5_free_36 : decode cX5_free 36 = .ok (.getfield 33, 3) := by decide +kernel
theorem dX5_free_39 : decode cX5_free 39 = .ok (.invokevirtual 150, 3) := by decide +kernel
theorem dX5_free_42 : decode cX5_free 42 = .ok (.pop, 1) := by decide +kernel
theorem dX5_free_43 : decode cX5_free 43 = .ok (.aload_n 0, 1) := by decide +kernel
theorem dX5_free_44 : decode cX5_free 44 = .ok (.getfield 44, 3) := by decide +kernel
theorem dX5_free_47 : decode cX5_free 47 = .ok (.invokevirtual 146, 3) := by decide +kernel
theorem dX5_free_50 : decode cX5_free 50 = .ok (.ifCond .ne 5, 3) := by decide +kernel
theorem dX5_free_53 : decode cX5_free 53 = .ok (.iload_n 2, 1) := by decide +kernel
theorem dX5_free_54 : decode cX5_free 54 = .ok (.ireturn, 1) := by decide +kernel
theorem dX5_free_55 : decode cX5_free 55 = .ok (.iinc 2 1, 3) := by decide +kernel
theorem dX5_free_58 : decode cX5_free 58 = .ok (.goto (-36), 3) := by decide +kernel
theorem dX5_free_61 : decode cX5_free 61 = .ok (.bipush (-4), 2) := by decide +kernel
theorem dX5_free_63 : decode cX5_free 63 = .ok (.ireturn, 1) := by decide +kernel
set_option maxRecDepth 20000 in
theorem ggX5_ahead_X5_isSpanOfYears : GoodIn wsX5_ahead wsX5_isSpanOfYears := goodIn_r _ [9] (by decide +kernel) (by decide +kernel)
set_option maxRecDepth 20000 in
theorem gX5_ahead_X5_isSpanOfYears : GoodIn wsX5_ahead (va_wsS RX5 158 yX5_isSpanOfYears wsX5_isSpanOfYears) := goodIn_app (goodIn_of _ (by decide +kernel)) ggX5_ahead_X5_isSpanOfYears
set_option maxRecDepth 20000 in
theorem ggX5_ahead_X4_copyFrom : GoodIn wsX5_ahead wsX4_copyFrom := goodIn_r _ [14, 15, 16, 17, 18, 19, 20, 21, 22, 23, 24, 25, 26, 27, 28, 29, 30, 31, 32, 33, 34, 35, 114, 115, 116, 117, 118, 119, 120, 121, 122, 123, 124, 125, 126, 127, 128, 129, 130] (by decide +kernel) (by decide +kernel)
set_option maxRecDepth 20000 in
theorem gX5_ahead_X4_copyFrom : GoodIn wsX5_ahead (wsV RX5 73 RX4 yX4_copyFrom wsX4_copyFrom) := goodIn_app (goodIn_of _ (by decide +kernel)) ggX5_ahead_X4_copyFrom
set_option maxRecDepth 20000 in
theorem ggX5_ahead_X1_passYear : GoodIn wsX5_ahead wsX1_passYear := goodIn_r _ [40, 41, 42, 43, 17, 18, 19, 44, 45, 46, 47, 48, 49, 50, 51, 52, 53, 54, 55, 56, 57, 58, 59, 60, 61, 62, 63, 64, 65, 13, 66, 31, 67, 34, 33, 32, 68, 69, 70, 71, 72, 73, 74, 75, 39, 76, 77, 78, 79, 80, 25, 15, 24, 81, 82, 83, 84, 29, 85, 86, 87, 88, 30, 89, 90, 91, 92, 26, 93, 94, 95, 96, 27, 97, 98, 99, 100, 101, 102, 103, 104, 105, 23, 114, 115, 116, 117, 118, 119, 120, 121, 122, 123, 124, 125, 126, 127, 128, 129, 130, 131, 132, 133, 134, 135] (by decide +kernel) (by decide +kernel)
set_option maxRecDepth 20000 in
theorem gX5_ahead_X1_passYear : GoodIn wsX5_ahead (wsV RX5 150 RX1 yX1_passYear wsX1_passYear) := goodIn_app (goodIn_of _ (by decide +kernel)) ggX5_ahead_X1_passYear
theorem dX5_ahead_0 : decode cX5_ahead 0 = .ok (.iload_n 1, 1) := by decide +kernel
theorem dX5_ahead_1 : decode cX5_ahead 1 = .ok (.invokestatic 158, 3) := by decide +kernel
theorem dX5_ahead_4 : decode cX5_ahead 4 = .ok (.ifCond .ne 5, 3) := by decide +kernel
theorem dX5_ahead_7 : decode cX5_ahead 7 = .ok (.iconst (-1), 1) := by decide +kernel
theorem dX5_ahead_8 : decode cX5_ahead 8 = .ok (.ireturn, 1) := by decide +kernel
theorem dX5_ahead_9 : decode cX5_ahead 9 = .ok (.aload_n 0, 1) := by decide +kernel
theorem dX5_ahead_10 : decode cX5_ahead 10 = .ok (.getfield 44, 3) := by decide +kernel
theorem dX5_ahead_13 : decode cX5_ahead 13 = .ok (.aload_n 0, 1) := by decide +kernel
theorem dX5_ahead_14 : decode cX5_ahead 14 = .ok (.getfield 40, 3) := by decide +kernel
theorem dX5_ahead_17 : decode cX5_ahead 17 = .ok (.invokevirtual 73, 3) := by decide +kernel
theorem dX5_ahead_20 : decode cX5_ahead 20 = .ok (.iconst 1, 1) := by decide +kernel
theorem dX5_ahead_21 : decode cX5_ahead 21 = .ok (.istore_n 2, 1) := by decide +kernel
theorem dX5_ahead_22 : decode cX5_ahead 22 = .ok (.iload_n 2, 1) := by decide +kernel
theorem dX5_ahead_23 : decode cX5_ahead 23 = .ok (.iload_n 1, 1) := by decide +kernel
theorem dX5_ahead_24 : decode cX5_ahead 24 = .ok (.if_icmp .gt 25, 3) := by decide +kernel
theorem dX5_ahead_27 : decode cX5_ahead 27 = .ok (.aload_n 0, 1) := by decide +kernel
theorem dX5_ahead_28 : decode cX5_ahead 28 = .ok (.getfield 26, 3) := by decide +kernel
theorem dX5_ahead_31 : decode cX5_ahead 31 = .ok (.aload_n 0, 1) := by decide +kernel
theorem dX5_ahead_32 : decode cX5_ahead 32 = .ok (.getfield 44, 3) := by decide +kernel
theorem dX5_ahead_35 : decode cX5_ahead 35 = .ok (.aload_n 0, 1) := by decide +kernel
theorem dX5_ahead_36 : decode cX5_ahead 36 = .ok (.getfield 33, 3) := by decide +kernel
theorem dX5_ahead_39 : decode cX5_ahead 39 = .ok (.invokevirtual 150, 3) := by decide +kernel
theorem dX5_ahead_42 : decode cX5_ahead 42 = .ok (.pop, 1) := by decide +kernel
theorem dX5_ahead_43 : decode cX5_ahead 43 = .ok (.iinc 2 1, 3) := by decide +kernel
theorem dX5_ahead_46 : decode cX5_ahead 46 = .ok (.goto (-24), 3) := by decide +kernel
theorem dX5_ahead_49 : decode cX5_ahead 49 = .ok (.aload_n 0, 1) := by decide +kernel
theorem dX5_ahead_50 : decode cX5_ahead 50 = .ok (.getfield 44, 3) := by decide +kernel
theorem dX5_ahead_53 : decode cX5_ahead 53 = .ok (.getfield 128, 3) := by decide +kernel
theorem dX5_ahead_56 : decode cX5_ahead 56 = .ok (.ireturn, 1) := by decide +kernel
set_option maxRecDepth 20000 in
theorem ggX5_debt_X4_has : GoodIn wsX5_debt wsX4_has := goodIn_r _ [13, 14, 32, 33, 34, 35, 36, 37, 38, 39, 40, 41, 42, 43, 44, 45, 46, 47, 48] (by decide +kernel) (by decide +kernel)
set_option maxRecDepth 20000 in
theorem gX5_debt_X4_has : GoodIn wsX5_debt (wsV RX5 90 RX4 yX4_has wsX4_has) := goodIn_app (goodIn_of _ (by decide +kernel)) ggX5_debt_X4_has
set_option maxRecDepth 20000 in
theorem ggX5_debt_X5_isZeroOrOne : GoodIn wsX5_debt wsX5_isZeroOrOne := goodIn_r _ [18] (by decide +kernel) (by decide +kernel)
set_option maxRecDepth 20000 in
theorem gX5_debt_X5_isZeroOrOne : GoodIn wsX5_debt (va_wsS RX5 137 yX5_isZeroOrOne wsX5_isZeroOrOne) := goodIn_app (goodIn_of _ (by decide +kernel)) ggX5_debt_X5_isZeroOrOne
set_option maxRecDepth 20000 in
theorem ggX5_debt_X4_mints : GoodIn wsX5_debt wsX4_mints := goodIn_r _ [22, 23, 32, 33, 34, 35, 36, 37, 38, 39, 40, 41, 42, 43, 44, 45, 46, 47, 48] (by decide +kernel) (by decide +kernel)
set_option maxRecDepth 20000 in
theorem gX5_debt_X4_mints : GoodIn wsX5_debt (wsV RX5 115 RX4 yX4_mints wsX4_mints) := goodIn_app (goodIn_of _ (by decide +kernel)) ggX5_debt_X4_mints
theorem dX5_debt_0 : decode cX5_debt 0 = .ok (.aload_n 0, 1) := by decide +kernel
theorem dX5_debt_1 : decode cX5_debt 1 = .ok (.getfield 40, 3) := by decide +kernel
theorem dX5_debt_4 : decode cX5_debt 4 = .ok (.iload_n 1, 1) := by decide +kernel
theorem dX5_debt_5 : decode cX5_debt 5 = .ok (.invokevirtual 90, 3) := by decide +kernel
theorem dX5_debt_8 : decode cX5_debt 8 = .ok (.ifCond .eq 21, 3) := by decide +kernel
theorem dX5_debt_11 : decode cX5_debt 11 = .ok (.iload_n 2, 1) := by decide +kernel
theorem dX5_debt_12 : decode cX5_debt 12 = .ok (.iconst 1, 1) := by decide +kernel
theorem dX5_debt_13 : decode cX5_debt 13 = .ok (.if_icmp .lt 16, 3) := by decide +kernel
theorem dX5_debt_16 : decode cX5_debt 16 = .ok (.iload_n 2, 1) := by decide +kernel
theorem dX5_debt_17 : decode cX5_debt 17 = .ok (.ldc 167, 2) := by decide +kernel
theorem dX5_debt_19 : decode cX5_debt 19 = .ok (.if_icmp .gt 10, 3) := by decide +kernel
theorem dX5_debt_22 : decode cX5_debt 22 = .ok (.iload_n 3, 1) := by decide +kernel
theorem dX5_debt_23 : decode cX5_debt 23 = .ok (.invokestatic 137, 3) := by decide +kernel
theorem dX5_debt_26 : decode cX5_debt 26 = .ok (.ifCond .ne 5, 3) := by decide +kernel
theorem dX5_debt_29 : decode cX5_debt 29 = .ok (.iconst (-1), 1) := by decide +kernel
theorem dX5_debt_30 : decode cX5_debt 30 = .ok (.ireturn, 1) := by decide +kernel
theorem dX5_debt_31 : decode cX5_debt 31 = .ok (.aload_n 0, 1) := by decide +kernel
theorem dX5_debt_32 : decode cX5_debt 32 = .ok (.getfield 40, 3) := by decide +kernel
theorem dX5_debt_35 : decode cX5_debt 35 = .ok (.iload_n 1, 1) := by decide +kernel
theorem dX5_debt_36 : decode cX5_debt 36 = .ok (.invokevirtual 115, 3) := by decide +kernel
theorem dX5_debt_39 : decode cX5_debt 39 = .ok (.ifCond .ne 6, 3) := by decide +kernel
theorem dX5_debt_42 : decode cX5_debt 42 = .ok (.bipush (-2), 2) := by decide +kernel
theorem dX5_debt_44 : decode cX5_debt 44 = .ok (.ireturn, 1) := by decide +kernel
theorem dX5_debt_45 : decode cX5_debt 45 = .ok (.aload_n 0, 1) := by decide +kernel
theorem dX5_debt_46 : decode cX5_debt 46 = .ok (.getfield 40, 3) := by decide +kernel
theorem dX5_debt_49 : decode cX5_debt 49 = .ok (.getfield 128, 3) := by decide +kernel
theorem dX5_debt_52 : decode cX5_debt 52 = .ok (.aload_n 0, 1) := by decide +kernel
theorem dX5_debt_53 : decode cX5_debt 53 = .ok (.getfield 40, 3) := by decide +kernel
theorem dX5_debt_56 : decode cX5_debt 56 = .ok (.getfield 95, 3) := by decide +kernel
theorem dX5_debt_59 : decode cX5_debt 59 = .ok (.iload_n 1, 1) := by decide +kernel
theorem dX5_debt_60 : decode cX5_debt 60 = .ok (.iaload, 1) := by decide +kernel
theorem dX5_debt_61 : decode cX5_debt 61 = .ok (.if_icmp .ge 7, 3) := by decide +kernel
theorem dX5_debt_64 : decode cX5_debt 64 = .ok (.iconst 1, 1) := by decide +kernel
theorem dX5_debt_65 : decode cX5_debt 65 = .ok (.goto 4, 3) := by decide +kernel
theorem dX5_debt_68 : decode cX5_debt 68 = .ok (.iconst 0, 1) := by decide +kernel
theorem dX5_debt_69 : decode cX5_debt 69 = .ok (.istore 4, 2) := by decide +kernel
theorem dX5_debt_71 : decode cX5_debt 71 = .ok (.iload_n 3, 1) := by decide +kernel
theorem dX5_debt_72 : decode cX5_debt 72 = .ok (.iconst 1, 1) := by decide +kernel
theorem dX5_debt_73 : decode cX5_debt 73 = .ok (.if_icmp .ne 14, 3) := by decide +kernel
theorem dX5_debt_76 : decode cX5_debt 76 = .ok (.iload 4, 2) := by decide +kernel
theorem dX5_debt_78 : decode cX5_debt 78 = .ok (.ifCond .eq 7, 3) := by decide +kernel
theorem dX5_debt_81 : decode cX5_debt 81 = .ok (.iconst 1, 1) := by decide +kernel
theorem dX5_debt_82 : decode cX5_debt 82 = .ok (.goto 4, 3) := by decide +kernel
theorem dX5_debt_85 : decode cX5_debt 85 = .ok (.iconst 0, 1) := by decide +kernel
theorem dX5_debt_86 : decode cX5_debt 86 = .ok (.ireturn, 1) := by decide +kernel
theorem dX5_debt_87 : decode cX5_debt 87 = .ok (.iload 4, 2) := by decide +kernel
theorem dX5_debt_89 : decode cX5_debt 89 = .ok (.ifCond .eq 33, 3) := by decide +kernel
theorem dX5_debt_92 : decode cX5_debt 92 = .ok (.iload_n 2, 1) := by decide +kernel
theorem dX5_debt_93 : decode cX5_debt 93 = .ok (.i2l, 1) := by decide +kernel
theorem dX5_debt_94 : decode cX5_debt 94 = .ok (.aload_n 0, 1) := by decide +kernel
theorem dX5_debt_95 : decode cX5_debt 95 = .ok (.getfield 40, 3) := by decide +kernel
theorem dX5_debt_98 : decode cX5_debt 98 = .ok (.getfield 128, 3) := by decide +kernel
theorem dX5_debt_101 : decode cX5_debt 101 = .ok (.i2l, 1) := by decide +kernel
theorem dX5_debt_102 : decode cX5_debt 102 = .ok (.lmul, 1) := by decide +kernel
theorem dX5_debt_103 : decode cX5_debt 103 = .ok (.iconst 1, 1) := by decide +kernel
theorem dX5_debt_104 : decode cX5_debt 104 = .ok (.aload_n 0, 1) := by decide +kernel
theorem dX5_debt_105 : decode cX5_debt 105 = .ok (.getfield 40, 3) := by decide +kernel
theorem dX5_debt_108 : decode cX5_debt 108 = .ok (.getfield 95, 3) := by decide +kernel
theorem dX5_debt_111 : decode cX5_debt 111 = .ok (.iload_n 1, 1) := by decide +kernel
theorem dX5_debt_112 : decode cX5_debt 112 = .ok (.iaload, 1) := by decide +kernel
theorem dX5_debt_113 : decode cX5_debt 113 = .ok (.invokestatic 168, 3) := by decide +kernel
theorem dX5_debt_116 : decode cX5_debt 116 = .ok (.i2l, 1) := by decide +kernel
theorem dX5_debt_117 : decode cX5_debt 117 = .ok (.ldiv, 1) := by decide +kernel
theorem dX5_debt_118 : decode cX5_debt 118 = .ok (.l2i, 1) := by decide +kernel
theorem dX5_debt_119 : decode cX5_debt 119 = .ok (.goto 4, 3) := by decide +kernel
theorem dX5_debt_122 : decode cX5_debt 122 = .ok (.iload_n 2, 1) := by decide +kernel
theorem dX5_debt_123 : decode cX5_debt 123 = .ok (.ireturn, 1) := by decide +kernel
set_option maxRecDepth 20000 in
theorem ggX5_pact_X5_isLaw : GoodIn wsX5_pact wsX5_isLaw := goodIn_r _ [8, 9] (by decide +kernel) (by decide +kernel)
set_option maxRecDepth 20000 in
theorem gX5_pact_X5_isLaw : GoodIn wsX5_pact (va_wsS RX5 177 yX5_isLaw wsX5_isLaw) := goodIn_app (goodIn_of _ (by decide +kernel)) ggX5_pact_X5_isLaw
set_option maxRecDepth 20000 in
theorem ggX5_pact_X5_isZeroOrOne : GoodIn wsX5_pact wsX5_isZeroOrOne := goodIn_r _ [12] (by decide +kernel) (by decide +kernel)
set_option maxRecDepth 20000 in
theorem gX5_pact_X5_isZeroOrOne : GoodIn wsX5_pact (va_wsS RX5 137 yX5_isZeroOrOne wsX5_isZeroOrOne) := goodIn_app (goodIn_of _ (by decide +kernel)) ggX5_pact_X5_isZeroOrOne
set_option maxRecDepth 20000 in
theorem ggX5_pact_X5_tryPact : GoodIn wsX5_pact wsX5_tryPact := goodIn_r _ [16, 3, 1, 17, 18, 19, 20, 21, 22, 23, 24, 25, 26, 27, 28, 29, 30, 31, 32, 33, 34, 35, 36, 37, 38, 39, 40, 41, 42, 43, 44, 45, 46, 47, 48, 49, 50, 51, 52, 53, 54, 55, 56, 57, 58, 59, 60, 61, 62, 63, 64, 65, 66, 67, 68, 69, 70, 71, 72, 73, 74, 75, 76, 77, 78, 79, 80, 81, 82, 83, 84, 85, 86, 87, 88, 89, 90, 91, 92, 93, 94, 95, 96, 97, 98, 99, 100, 101, 102, 103, 104, 105, 106, 107, 108, 109, 110, 111, 112, 113, 114, 115, 116, 117, 118, 119, 128, 129, 130, 131, 132, 133, 134, 135, 136, 137, 138, 139, 140, 141, 142, 143, 144, 145, 146, 147, 148, 149, 150, 151, 152, 153, 154] (by decide +kernel) (by decide +kernel)
set_option maxRecDepth 20000 in
theorem gX5_pact_X5_tryPact : GoodIn wsX5_pact (wsV RX5 180 RX5 yX5_tryPact wsX5_tryPact) := goodIn_app (goodIn_of _ (by decide +kernel)) ggX5_pact_X5_tryPact
set_option maxRecDepth 20000 in
theorem ggX5_pact_X5_allHold : GoodIn wsX5_pact wsX5_allHold := goodIn_r _ [123, 3, 124, 125, 126, 21, 127, 42, 32, 33, 84, 85, 86, 87, 37, 92, 93, 94, 95, 34, 96, 97, 98, 99, 35, 23, 128, 129, 130, 131, 132, 133, 134, 135, 136, 137, 138, 139, 140, 141, 142, 143, 144, 145, 146, 147, 148, 149, 150, 151, 152] (by decide +kernel) (by decide +kernel)
set_option maxRecDepth 20000 in
theorem gX5_pact_X5_allHold : GoodIn wsX5_pact (wsV RX5 183 RX5 yX5_allHold wsX5_allHold) := goodIn_app (goodIn_of _ (by decide +kernel)) ggX5_pact_X5_allHold
theorem dX5_pact_0 : decode cX5_pact 0 = .ok (.iload_n 1, 1) := by decide +kernel
theorem dX5_pact_1 : decode cX5_pact 1 = .ok (.ifCond .eq 21, 3) := by decide +kernel
theorem dX5_pact_4 : decode cX5_pact 4 = .ok (.iload_n 1, 1) := by decide +kernel
theorem dX5_pact_5 : decode cX5_pact 5 = .ok (.aload_n 0, 1) := by decide +kernel
theorem dX5_pact_6 : decode cX5_pact 6 = .ok (.getfield 40, 3) := by decide +kernel
theorem dX5_pact_9 : decode cX5_pact 9 = .ok (.getfield 174, 3) := by decide +kernel
theorem dX5_pact_12 : decode cX5_pact 12 = .ok (.iconst (-1), 1) := by decide +kernel
theorem dX5_pact_13 : decode cX5_pact 13 = .ok (.ixor, 1) := by decide +kernel
theorem dX5_pact_14 : decode cX5_pact 14 = .ok (.iand, 1) := by decide +kernel
theorem dX5_pact_15 : decode cX5_pact 15 = .ok (.ifCond .ne 7, 3) := by decide +kernel
theorem dX5_pact_18 : decode cX5_pact 18 = .ok (.iconst 1, 1) := by decide +kernel
theorem dX5_pact_19 : decode cX5_pact 19 = .ok (.goto 4, 3) := by decide +kernel
theorem dX5_pact_22 : decode cX5_pact 22 = .ok (.iconst 0, 1) := by decide +kernel
theorem dX5_pact_23 : decode cX5_pact 23 = .ok (.istore 4, 2) := by decide +kernel
theorem dX5_pact_25 : decode cX5_pact 25 = .ok (.iload 4, 2) := by decide +kernel
theorem dX5_pact_27 : decode cX5_pact 27 = .ok (.ifCond .eq 17, 3) := by decide +kernel
theorem dX5_pact_30 : decode cX5_pact 30 = .ok (.iload_n 2, 1) := by decide +kernel
theorem dX5_pact_31 : decode cX5_pact 31 = .ok (.invokestatic 177, 3) := by decide +kernel
theorem dX5_pact_34 : decode cX5_pact 34 = .ok (.ifCond .eq 10, 3) := by decide +kernel
theorem dX5_pact_37 : decode cX5_pact 37 = .ok (.iload_n 3, 1) := by decide +kernel
theorem dX5_pact_38 : decode cX5_pact 38 = .ok (.invokestatic 137, 3) := by decide +kernel
theorem dX5_pact_41 : decode cX5_pact 41 = .ok (.ifCond .ne 5, 3) := by decide +kernel
theorem dX5_pact_44 : decode cX5_pact 44 = .ok (.iconst (-1), 1) := by decide +kernel
theorem dX5_pact_45 : decode cX5_pact 45 = .ok (.ireturn, 1) := by decide +kernel
theorem dX5_pact_46 : decode cX5_pact 46 = .ok (.aload_n 0, 1) := by decide +kernel
theorem dX5_pact_47 : decode cX5_pact 47 = .ok (.iload_n 1, 1) := by decide +kernel
theorem dX5_pact_48 : decode cX5_pact 48 = .ok (.iload_n 2, 1) := by decide +kernel
theorem dX5_pact_49 : decode cX5_pact 49 = .ok (.invokevirtual 180, 3) := by decide +kernel
theorem dX5_pact_52 : decode cX5_pact 52 = .ok (.bipush (-5), 2) := by decide +kernel
theorem dX5_pact_54 : decode cX5_pact 54 = .ok (.if_icmp .ne 6, 3) := by decide +kernel
theorem dX5_pact_57 : decode cX5_pact 57 = .ok (.bipush (-5), 2) := by decide +kernel
theorem dX5_pact_59 : decode cX5_pact 59 = .ok (.ireturn, 1) := by decide +kernel
theorem dX5_pact_60 : decode cX5_pact 60 = .ok (.iload_n 3, 1) := by decide +kernel
theorem dX5_pact_61 : decode cX5_pact 61 = .ok (.iconst 1, 1) := by decide +kernel
theorem dX5_pact_62 : decode cX5_pact 62 = .ok (.if_icmp .ne 11, 3) := by decide +kernel
theorem dX5_pact_65 : decode cX5_pact 65 = .ok (.aload_n 0, 1) := by decide +kernel
theorem dX5_pact_66 : decode cX5_pact 66 = .ok (.getfield 44, 3) := by decide +kernel
theorem dX5_pact_69 : decode cX5_pact 69 = .ok (.getfield 128, 3) := by decide +kernel
theorem dX5_pact_72 : decode cX5_pact 72 = .ok (.ireturn, 1) := by decide +kernel
theorem dX5_pact_73 : decode cX5_pact 73 = .ok (.aload_n 0, 1) := by decide +kernel
theorem dX5_pact_74 : decode cX5_pact 74 = .ok (.iload_n 1, 1) := by decide +kernel
theorem dX5_pact_75 : decode cX5_pact 75 = .ok (.invokevirtual 183, 3) := by decide +kernel
theorem dX5_pact_78 : decode cX5_pact 78 = .ok (.ifCond .eq 7, 3) := by decide +kernel
theorem dX5_pact_81 : decode cX5_pact 81 = .ok (.iconst 1, 1) := by decide +kernel
theorem dX5_pact_82 : decode cX5_pact 82 = .ok (.goto 4, 3) := by decide +kernel
theorem dX5_pact_85 : decode cX5_pact 85 = .ok (.iconst 0, 1) := by decide +kernel
theorem dX5_pact_86 : decode cX5_pact 86 = .ok (.ireturn, 1) := by decide +kernel
set_option maxRecDepth 20000 in
theorem ggX5_fewest_X5_isLaw : GoodIn wsX5_fewest wsX5_isLaw := goodIn_r _ [6, 7] (by decide +kernel) (by decide +kernel)
set_option maxRecDepth 20000 in
theorem gX5_fewest_X5_isLaw : GoodIn wsX5_fewest (va_wsS RX5 177 yX5_isLaw wsX5_isLaw) := goodIn_app (goodIn_of _ (by decide +kernel)) ggX5_fewest_X5_isLaw
set_option maxRecDepth 20000 in
theorem ggX5_fewest_J6_bitCount_0f7a4 : GoodIn wsX5_fewest wsJ6_bitCount_0f7a4 := goodIn_r _ [11, 12, 13, 14] (by decide +kernel) (by decide +kernel)
set_option maxRecDepth 20000 in
theorem gX5_fewest_J6_bitCount_0f7a4 : GoodIn wsX5_fewest (va_wsS RX5 84 yJ6_bitCount_0f7a4 wsJ6_bitCount_0f7a4) := goodIn_app (goodIn_of _ (by decide +kernel)) ggX5_fewest_J6_bitCount_0f7a4
set_option maxRecDepth 20000 in
theorem ggX5_fewest_X5_tryPact : GoodIn wsX5_fewest wsX5_tryPact := goodIn_r _ [18, 19, 1, 20, 21, 22, 23, 24, 25, 26, 27, 28, 29, 30, 31, 32, 33, 34, 35, 36, 37, 38, 39, 40, 41, 42, 43, 44, 45, 46, 47, 48, 49, 50, 51, 52, 53, 54, 55, 56, 57, 58, 59, 60, 61, 62, 63, 64, 65, 66, 67, 68, 69, 70, 71, 72, 73, 74, 75, 76, 77, 78, 79, 80, 81, 82, 83, 84, 85, 86, 87, 88, 89, 90, 91, 92, 93, 94, 95, 96, 97, 98, 99, 100, 101, 102, 103, 104, 105, 106, 107, 108, 109, 110, 111, 112, 113, 114, 115, 116, 9, 10, 11, 12, 13, 14, 125, 126, 127, 128, 129, 130, 131, 132, 133, 134, 135, 136, 137, 138, 139, 140, 141, 142, 143, 144, 145, 146, 147, 148, 149, 150, 151] (by decide +kernel) (by decide +kernel)
set_option maxRecDepth 20000 in
theorem gX5_fewest_X5_tryPact : GoodIn wsX5_fewest (wsV RX5 180 RX5 yX5_tryPact wsX5_tryPact) := goodIn_app (goodIn_of _ (by decide +kernel)) ggX5_fewest_X5_tryPact
set_option maxRecDepth 20000 in
theorem ggX5_fewest_X5_allHold : GoodIn wsX5_fewest wsX5_allHold := goodIn_r _ [120, 19, 121, 122, 123, 24, 124, 45, 35, 36, 87, 88, 89, 90, 40, 95, 96, 97, 98, 37, 99, 100, 101, 102, 38, 26, 125, 126, 127, 128, 129, 130, 131, 132, 133, 134, 135, 136, 137, 138, 139, 140, 141, 142, 143, 144, 145, 146, 147, 148, 149] (by decide +kernel) (by decide +kernel)
set_option maxRecDepth 20000 in
theorem gX5_fewest_X5_allHold : GoodIn wsX5_fewest (wsV RX5 183 RX5 yX5_allHold wsX5_allHold) := goodIn_app (goodIn_of _ (by decide +kernel)) ggX5_fewest_X5_allHold
theorem dX5_fewest_0 : decode cX5_fewest 0 = .ok (.iload_n 1, 1) := by decide +kernel
theorem dX5_fewest_1 : decode cX5_fewest 1 = .ok (.invokestatic 177, 3) := by decide +kernel
theorem dX5_fewest_4 : decode cX5_fewest 4 = .ok (.ifCond .ne 5, 3) := by decide +kernel
theorem dX5_fewest_7 : decode cX5_fewest 7 = .ok (.iconst (-1), 1) := by decide +kernel
theorem dX5_fewest_8 : decode cX5_fewest 8 = .ok (.ireturn, 1) := by decide +kernel
theorem dX5_fewest_9 : decode cX5_fewest 9 = .ok (.iconst 1, 1) := by decide +kernel
theorem dX5_fewest_10 : decode cX5_fewest 10 = .ok (.istore_n 2, 1) := by decide +kernel
theorem dX5_fewest_11 : decode cX5_fewest 11 = .ok (.iload_n 2, 1) := by decide +kernel
theorem dX5_fewest_12 : decode cX5_fewest 12 = .ok (.bipush 8, 2) := by decide +kernel
theorem dX5_fewest_14 : decode cX5_fewest 14 = .ok (.if_icmp .gt 79, 3) := by decide +kernel
theorem dX5_fewest_17 : decode cX5_fewest 17 = .ok (.iconst 1, 1) := by decide +kernel
theorem dX5_fewest_18 : decode cX5_fewest 18 = .ok (.istore_n 3, 1) := by decide +kernel
theorem dX5_fewest_19 : decode cX5_fewest 19 = .ok (.iload_n 3, 1) := by decide +kernel
theorem dX5_fewest_20 : decode cX5_fewest 20 = .ok (.sipush 256, 3) := by decide +kernel
theorem dX5_fewest_23 : decode cX5_fewest 23 = .ok (.if_icmp .ge 64, 3) := by decide +kernel
theorem dX5_fewest_26 : decode cX5_fewest 26 = .ok (.iload_n 3, 1) := by decide +kernel
theorem dX5_fewest_27 : decode cX5_fewest 27 = .ok (.invokestatic 84, 3) := by decide +kernel
theorem dX5_fewest_30 : decode cX5_fewest 30 = .ok (.iload_n 2, 1) := by decide +kernel
theorem dX5_fewest_31 : decode cX5_fewest 31 = .ok (.if_icmp .ne 21, 3) := by decide +kernel
theorem dX5_fewest_34 : decode cX5_fewest 34 = .ok (.iload_n 3, 1) := by decide +kernel
theorem dX5_fewest_35 : decode cX5_fewest 35 = .ok (.aload_n 0, 1) := by decide +kernel
theorem dX5_fewest_36 : decode cX5_fewest 36 = .ok (.getfield 40, 3) := by decide +kernel
theorem dX5_fewest_39 : decode cX5_fewest 39 = .ok (.getfield 174, 3) := by decide +kernel
theorem dX5_fewest_42 : decode cX5_fewest 42 = .ok (.iconst (-1), 1) := by decide +kernel
theorem dX5_fewest_43 : decode cX5_fewest 43 = .ok (.ixor, 1) := by decide +kernel
theorem dX5_fewest_44 : decode cX5_fewest 44 = .ok (.iand, 1) := by decide +kernel
theorem dX5_fewest_45 : decode cX5_fewest 45 = .ok (.ifCond .ne 7, 3) := by decide +kernel
theorem dX5_fewest_48 : decode cX5_fewest 48 = .ok (.iconst 1, 1) := by decide +kernel
theorem dX5_fewest_49 : decode cX5_fewest 49 = .ok (.goto 4, 3) := by decide +kernel
theorem dX5_fewest_52 : decode cX5_fewest 52 = .ok (.iconst 0, 1) := by decide +kernel
theorem dX5_fewest_53 : decode cX5_fewest 53 = .ok (.istore 4, 2) := by decide +kernel
theorem dX5_fewest_55 : decode cX5_fewest 55 = .ok (.iload 4, 2) := by decide +kernel
theorem dX5_fewest_57 : decode cX5_fewest 57 = .ok (.ifCond .eq 24, 3) := by decide +kernel
theorem dX5_fewest_60 : decode cX5_fewest 60 = .ok (.aload_n 0, 1) := by decide +kernel
theorem dX5_fewest_61 : decode cX5_fewest 61 = .ok (.iload_n 3, 1) := by decide +kernel
theorem dX5_fewest_62 : decode cX5_fewest 62 = .ok (.iload_n 1, 1) := by decide +kernel
theorem dX5_fewest_63 : decode cX5_fewest 63 = .ok (.invokevirtual 180, 3) := by decide +kernel
theorem dX5_fewest_66 : decode cX5_fewest 66 = .ok (.bipush (-5), 2) := by decide +kernel
theorem dX5_fewest_68 : decode cX5_fewest 68 = .ok (.if_icmp .eq 13, 3) := by decide +kernel
theorem dX5_fewest_71 : decode cX5_fewest 71 = .ok (.aload_n 0, 1) := by decide +kernel
theorem dX5_fewest_72 : decode cX5_fewest 72 = .ok (.iload_n 3, 1) := by decide +kernel
theorem dX5_fewest_73 : decode cX5_fewest 73 = .ok (.invokevirtual 183, 3) := by decide +kernel
theorem dX5_fewest_76 : decode cX5_fewest 76 = .ok (.ifCond .eq 5, 3) := by decide +kernel
theorem dX5_fewest_79 : decode cX5_fewest 79 = .ok (.iload_n 3, 1) := by decide +kernel
theorem dX5_fewest_80 : decode cX5_fewest 80 = .ok (.ireturn, 1) := by decide +kernel
theorem dX5_fewest_81 : decode cX5_fewest 81 = .ok (.iinc 3 1, 3) := by decide +kernel
theorem dX5_fewest_84 : decode cX5_fewest 84 = .ok (.goto (-65), 3) := by decide +kernel
theorem dX5_fewest_87 : decode cX5_fewest 87 = .ok (.iinc 2 1, 3) := by decide +kernel
theorem dX5_fewest_90 : decode cX5_fewest 90 = .ok (.goto (-79), 3) := by decide +kernel
theorem dX5_fewest_93 : decode cX5_fewest 93 = .ok (.bipush (-4), 2) := by decide +kernel
theorem dX5_fewest_95 : decode cX5_fewest 95 = .ok (.ireturn, 1) := by decide +kernel
set_option maxRecDepth 20000 in
theorem ggX5_bought_X4_has : GoodIn wsX5_bought wsX4_has := goodIn_r _ [10, 11, 120, 121, 122, 123, 124, 125, 126, 127, 128, 129, 130, 131, 132, 133, 134, 135, 136] (by decide +kernel) (by decide +kernel)
set_option maxRecDepth 20000 in
theorem gX5_bought_X4_has : GoodIn wsX5_bought (wsV RX5 90 RX4 yX4_has wsX4_has) := goodIn_app (goodIn_of _ (by decide +kernel)) ggX5_bought_X4_has
set_option maxRecDepth 20000 in
theorem ggX5_bought_X5_tryPurchase : GoodIn wsX5_bought wsX5_tryPurchase := goodIn_r _ [16, 3, 1, 2, 17, 18, 19, 20, 9, 21, 22, 23, 24, 25, 26, 27, 28, 29, 30, 31, 32, 33, 34, 11, 35, 36, 37, 38, 39, 40, 41, 42, 43, 44, 45, 46, 47, 48, 49, 50, 51, 52, 53, 54, 55, 56, 57, 58, 59, 60, 61, 62, 63, 64, 65, 66, 67, 68, 69, 70, 71, 72, 73, 74, 75, 76, 77, 78, 79, 80, 81, 82, 83, 84, 85, 86, 87, 88, 89, 90, 91, 92, 93, 94, 95, 96, 97, 98, 99, 100, 101, 102, 103, 104, 105, 106, 107, 108, 109, 110, 111, 112, 113, 114, 115, 116, 117, 118, 119, 120, 121, 122, 123, 124, 125, 126, 127, 128, 129, 130, 131, 132, 133, 134, 135, 136, 137, 138] (by decide +kernel) (by decide +kernel)
set_option maxRecDepth 20000 in
theorem gX5_bought_X5_tryPurchase : GoodIn wsX5_bought (wsV RX5 186 RX5 yX5_tryPurchase wsX5_tryPurchase) := goodIn_app (goodIn_of _ (by decide +kernel)) ggX5_bought_X5_tryPurchase
theorem dX5_bought_0 : decode cX5_bought 0 = .ok (.iload_n 1, 1) := by decide +kernel
theorem dX5_bought_1 : decode cX5_bought 1 = .ok (.ifCond .lt 32, 3) := by decide +kernel
theorem dX5_bought_4 : decode cX5_bought 4 = .ok (.iload_n 1, 1) := by decide +kernel
theorem dX5_bought_5 : decode cX5_bought 5 = .ok (.i2l, 1) := by decide +kernel
theorem dX5_bought_6 : decode cX5_bought 6 = .ok (.aload_n 0, 1) := by decide +kernel
theorem dX5_bought_7 : decode cX5_bought 7 = .ok (.getfield 40, 3) := by decide +kernel
theorem dX5_bought_10 : decode cX5_bought 10 = .ok (.getfield 121, 3) := by decide +kernel
theorem dX5_bought_13 : decode cX5_bought 13 = .ok (.lcmp, 1) := by decide +kernel
theorem dX5_bought_14 : decode cX5_bought 14 = .ok (.ifCond .gt 19, 3) := by decide +kernel
theorem dX5_bought_17 : decode cX5_bought 17 = .ok (.iload_n 2, 1) := by decide +kernel
theorem dX5_bought_18 : decode cX5_bought 18 = .ok (.iconst (-1), 1) := by decide +kernel
theorem dX5_bought_19 : decode cX5_bought 19 = .ok (.if_icmp .eq 16, 3) := by decide +kernel
theorem dX5_bought_22 : decode cX5_bought 22 = .ok (.aload_n 0, 1) := by decide +kernel
theorem dX5_bought_23 : decode cX5_bought 23 = .ok (.getfield 40, 3) := by decide +kernel
theorem dX5_bought_26 : decode cX5_bought 26 = .ok (.iload_n 2, 1) := by decide +kernel
theorem dX5_bought_27 : decode cX5_bought 27 = .ok (.invokevirtual 90, 3) := by decide +kernel
theorem dX5_bought_30 : decode cX5_bought 30 = .ok (.ifCond .ne 5, 3) := by decide +kernel
theorem dX5_bought_33 : decode cX5_bought 33 = .ok (.iconst (-1), 1) := by decide +kernel
theorem dX5_bought_34 : decode cX5_bought 34 = .ok (.ireturn, 1) := by decide +kernel
theorem dX5_bought_35 : decode cX5_bought 35 = .ok (.aload_n 0, 1) := by decide +kernel
theorem dX5_bought_36 : decode cX5_bought 36 = .ok (.iload_n 1, 1) := by decide +kernel
theorem dX5_bought_37 : decode cX5_bought 37 = .ok (.invokevirtual 186, 3) := by decide +kernel
theorem dX5_bought_40 : decode cX5_bought 40 = .ok (.bipush (-5), 2) := by decide +kernel
theorem dX5_bought_42 : decode cX5_bought 42 = .ok (.if_icmp .ne 6, 3) := by decide +kernel
theorem dX5_bought_45 : decode cX5_bought 45 = .ok (.bipush (-5), 2) := by decide +kernel
theorem dX5_bought_47 : decode cX5_bought 47 = .ok (.ireturn, 1) := by decide +kernel
theorem dX5_bought_48 : decode cX5_bought 48 = .ok (.iload_n 2, 1) := by decide +kernel
theorem dX5_bought_49 : decode cX5_bought 49 = .ok (.iconst (-1), 1) := by decide +kernel
theorem dX5_bought_50 : decode cX5_bought 50 = .ok (.if_icmp .ne 13, 3) := by decide +kernel
theorem dX5_bought_53 : decode cX5_bought 53 = .ok (.aload_n 0, 1) := by decide +kernel
theorem dX5_bought_54 : decode cX5_bought 54 = .ok (.getfield 44, 3) := by decide +kernel
theorem dX5_bought_57 : decode cX5_bought 57 = .ok (.getfield 128, 3) := by decide +kernel
theorem dX5_bought_60 : decode cX5_bought 60 = .ok (.goto 13, 3) := by decide +kernel
theorem dX5_bought_63 : decode cX5_bought 63 = .ok (.aload_n 0, 1) := by decide +kernel
theorem dX5_bought_64 : decode cX5_bought 64 = .ok (.getfield 44, 3) := by decide +kernel
theorem dX5_bought_67 : decode cX5_bought 67 = .ok (.getfield 105, 3) := by decide +kernel
theorem dX5_bought_70 : decode cX5_bought 70 = .ok (.iload_n 2, 1) := by decide +kernel
theorem dX5_bought_71 : decode cX5_bought 71 = .ok (.laload, 1) := by decide +kernel
theorem dX5_bought_72 : decode cX5_bought 72 = .ok (.l2i, 1) := by decide +kernel
theorem dX5_bought_73 : decode cX5_bought 73 = .ok (.ireturn, 1) := by decide +kernel
set_option maxRecDepth 20000 in
theorem ggX5_corner_X4_has : GoodIn wsX5_corner wsX4_has := goodIn_r _ [12, 13, 123, 124, 125, 126, 127, 128, 129, 130, 131, 132, 133, 134, 135, 136, 137, 138, 139] (by decide +kernel) (by decide +kernel)
set_option maxRecDepth 20000 in
theorem gX5_corner_X4_has : GoodIn wsX5_corner (wsV RX5 90 RX4 yX4_has wsX4_has) := goodIn_app (goodIn_of _ (by decide +kernel)) ggX5_corner_X4_has
set_option maxRecDepth 20000 in
theorem ggX5_corner_X4_mints : GoodIn wsX5_corner wsX4_mints := goodIn_r _ [17, 18, 123, 124, 125, 126, 127, 128, 129, 130, 131, 132, 133, 134, 135, 136, 137, 138, 139] (by decide +kernel) (by decide +kernel)
set_option maxRecDepth 20000 in
theorem gX5_corner_X4_mints : GoodIn wsX5_corner (wsV RX5 115 RX4 yX4_mints wsX4_mints) := goodIn_app (goodIn_of _ (by decide +kernel)) ggX5_corner_X4_mints
set_option maxRecDepth 20000 in
theorem ggX5_corner_X5_tryPurchase : GoodIn wsX5_corner wsX5_tryPurchase := goodIn_r _ [23, 7, 1, 2, 24, 25, 26, 27, 11, 28, 29, 30, 31, 32, 33, 34, 35, 36, 37, 38, 39, 40, 41, 13, 18, 42, 43, 44, 45, 46, 47, 48, 49, 50, 51, 52, 53, 54, 55, 56, 5, 57, 58, 59, 60, 61, 62, 63, 64, 65, 66, 67, 68, 69, 70, 71, 72, 73, 74, 75, 76, 77, 78, 79, 80, 81, 82, 83, 84, 85, 15, 16, 17, 86, 87, 88, 89, 90, 91, 92, 93, 94, 95, 96, 97, 98, 99, 100, 101, 102, 103, 104, 105, 106, 107, 108, 109, 110, 111, 112, 113, 115, 116, 117, 118, 119, 120, 121, 122, 123, 124, 125, 126, 127, 128, 129, 130, 131, 132, 133, 134, 135, 136, 137, 138, 139, 140, 141] (by decide +kernel) (by decide +kernel)
set_option maxRecDepth 20000 in
theorem gX5_corner_X5_tryPurchase : GoodIn wsX5_corner (wsV RX5 186 RX5 yX5_tryPurchase wsX5_tryPurchase) := goodIn_app (goodIn_of _ (by decide +kernel)) ggX5_corner_X5_tryPurchase
set_option maxRecDepth 20000 in
theorem ggX5_corner_X4_hasGold : GoodIn wsX5_corner wsX4_hasGold := goodIn_r _ [93, 40, 123, 124, 125, 126, 127, 128, 129, 130, 131, 132, 133, 134, 135, 136, 137, 138, 139] (by decide +kernel) (by decide +kernel)
set_option maxRecDepth 20000 in
theorem gX5_corner_X4_hasGold : GoodIn wsX5_corner (wsV RX5 161 RX4 yX4_hasGold wsX4_hasGold) := goodIn_app (goodIn_of _ (by decide +kernel)) ggX5_corner_X4_hasGold
theorem dX5_corner_0 : decode cX5_corner 0 = .ok (.aload_n 0, 1) := by decide +kernel
theorem dX5_corner_1 : decode cX5_corner 1 = .ok (.getfield 40, 3) := by decide +kernel
theorem dX5_corner_4 : decode cX5_corner 4 = .ok (.iload_n 1, 1) := by decide +kernel
theorem dX5_corner_5 : decode cX5_corner 5 = .ok (.invokevirtual 90, 3) := by decide +kernel
theorem dX5_corner_8 : decode cX5_corner 8 = .ok (.ifCond .ne 5, 3) := by decide +kernel
theorem dX5_corner_11 : decode cX5_corner 11 = .ok (.iconst (-1), 1) := by decide +kernel
theorem dX5_corner_12 : decode cX5_corner 12 = .ok (.ireturn, 1) := by decide +kernel
theorem dX5_corner_13 : decode cX5_corner 13 = .ok (.aload_n 0, 1) := by decide +kernel
theorem dX5_corner_14 : decode cX5_corner 14 = .ok (.getfield 40, 3) := by decide +kernel
theorem dX5_corner_17 : decode cX5_corner 17 = .ok (.iload_n 1, 1) := by decide +kernel
theorem dX5_corner_18 : decode cX5_corner 18 = .ok (.invokevirtual 115, 3) := by decide +kernel
theorem dX5_corner_21 : decode cX5_corner 21 = .ok (.ifCond .ne 6, 3) := by decide +kernel
theorem dX5_corner_24 : decode cX5_corner 24 = .ok (.bipush (-2), 2) := by decide +kernel
theorem dX5_corner_26 : decode cX5_corner 26 = .ok (.ireturn, 1) := by decide +kernel
theorem dX5_corner_27 : decode cX5_corner 27 = .ok (.aload_n 0, 1) := by decide +kernel
theorem dX5_corner_28 : decode cX5_corner 28 = .ok (.getfield 40, 3) := by decide +kernel
theorem dX5_corner_31 : decode cX5_corner 31 = .ok (.getfield 121, 3) := by decide +kernel
theorem dX5_corner_34 : decode cX5_corner 34 = .ok (.l2i, 1) := by decide +kernel
theorem dX5_corner_35 : decode cX5_corner 35 = .ok (.istore_n 2, 1) := by decide +kernel
theorem dX5_corner_36 : decode cX5_corner 36 = .ok (.iconst 0, 1) := by decide +kernel
theorem dX5_corner_37 : decode cX5_corner 37 = .ok (.istore_n 3, 1) := by decide +kernel
theorem dX5_corner_38 : decode cX5_corner 38 = .ok (.iload_n 3, 1) := by decide +kernel
theorem dX5_corner_39 : decode cX5_corner 39 = .ok (.bipush 32, 2) := by decide +kernel
theorem dX5_corner_41 : decode cX5_corner 41 = .ok (.if_icmp .ge 66, 3) := by decide +kernel
theorem dX5_corner_44 : decode cX5_corner 44 = .ok (.iload_n 3, 1) := by decide +kernel
theorem dX5_corner_45 : decode cX5_corner 45 = .ok (.ifCond .ne 7, 3) := by decide +kernel
theorem dX5_corner_48 : decode cX5_corner 48 = .ok (.iconst 0, 1) := by decide +kernel
theorem dX5_corner_49 : decode cX5_corner 49 = .ok (.goto 8, 3) := by decide +kernel
theorem dX5_corner_52 : decode cX5_corner 52 = .ok (.iconst 1, 1) := by decide +kernel
theorem dX5_corner_53 : decode cX5_corner 53 = .ok (.iload_n 3, 1) := by decide +kernel
theorem dX5_corner_54 : decode cX5_corner 54 = .ok (.iconst 1, 1) := by decide +kernel
theorem dX5_corner_55 : decode cX5_corner 55 = .ok (.isub, 1) := by decide +kernel
theorem dX5_corner_56 : decode cX5_corner 56 = .ok (.ishl, 1) := by decide +kernel
theorem dX5_corner_57 : decode cX5_corner 57 = .ok (.istore 4, 2) := by decide +kernel
theorem dX5_corner_59 : decode cX5_corner 59 = .ok (.iload 4, 2) := by decide +kernel
theorem dX5_corner_61 : decode cX5_corner 61 = .ok (.iload_n 2, 1) := by decide +kernel
theorem dX5_corner_62 : decode cX5_corner 62 = .ok (.invokestatic 189, 3) := by decide +kernel
theorem dX5_corner_65 : decode cX5_corner 65 = .ok (.istore 5, 2) := by decide +kernel
theorem dX5_corner_67 : decode cX5_corner 67 = .ok (.aload_n 0, 1) := by decide +kernel
theorem dX5_corner_68 : decode cX5_corner 68 = .ok (.iload 5, 2) := by decide +kernel
theorem dX5_corner_70 : decode cX5_corner 70 = .ok (.invokevirtual 186, 3) := by decide +kernel
theorem dX5_corner_73 : decode cX5_corner 73 = .ok (.bipush (-5), 2) := by decide +kernel
theorem dX5_corner_75 : decode cX5_corner 75 = .ok (.if_icmp .eq 17, 3) := by decide +kernel
theorem dX5_corner_78 : decode cX5_corner 78 = .ok (.aload_n 0, 1) := by decide +kernel
theorem dX5_corner_79 : decode cX5_corner 79 = .ok (.getfield 44, 3) := by decide +kernel
theorem dX5_corner_82 : decode cX5_corner 82 = .ok (.iload_n 1, 1) := by decide +kernel
theorem dX5_corner_83 : decode cX5_corner 83 = .ok (.invokevirtual 161, 3) := by decide +kernel
theorem dX5_corner_86 : decode cX5_corner 86 = .ok (.ifCond .ne 6, 3) := by decide +kernel
theorem dX5_corner_89 : decode cX5_corner 89 = .ok (.iload 5, 2) := by decide +kernel
theorem dX5_corner_91 : decode cX5_corner 91 = .ok (.ireturn, 1) := by decide +kernel
theorem dX5_corner_92 : decode cX5_corner 92 = .ok (.iload 5, 2) := by decide +kernel
theorem dX5_corner_94 : decode cX5_corner 94 = .ok (.iload_n 2, 1) := by decide +kernel
theorem dX5_corner_95 : decode cX5_corner 95 = .ok (.if_icmp .ne 6, 3) := by decide +kernel
theorem dX5_corner_98 : decode cX5_corner 98 = .ok (.bipush (-4), 2) := by decide +kernel
theorem dX5_corner_100 : decode cX5_corner 100 = .ok (.ireturn, 1) := by decide +kernel
theorem dX5_corner_101 : decode cX5_corner 101 = .ok (.iinc 3 1, 3) := by decide +kernel
theorem dX5_corner_104 : decode cX5_corner 104 = .ok (.goto (-66), 3) := by decide +kernel
theorem dX5_corner_107 : decode cX5_corner 107 = .ok (.bipush (-4), 2) := by decide +kernel
theorem dX5_corner_109 : decode cX5_corner 109 = .ok (.ireturn, 1) := by decide +kernel
set_option maxRecDepth 20000 in
theorem ggX5_move_X4_has : GoodIn wsX5_move wsX4_has := goodIn_r _ [7, 8, 40, 41, 42, 43, 44, 45, 46, 47, 48, 49, 50, 51, 52, 53, 54, 55, 56] (by decide +kernel) (by decide +kernel)
set_option maxRecDepth 20000 in
theorem gX5_move_X4_has : GoodIn wsX5_move (wsV RX5 90 RX4 yX4_has wsX4_has) := goodIn_app (goodIn_of _ (by decide +kernel)) ggX5_move_X4_has
set_option maxRecDepth 20000 in
theorem ggX5_move_X5_isLaw : GoodIn wsX5_move wsX5_isLaw := goodIn_r _ [12, 13] (by decide +kernel) (by decide +kernel)
set_option maxRecDepth 20000 in
theorem gX5_move_X5_isLaw : GoodIn wsX5_move (va_wsS RX5 177 yX5_isLaw wsX5_isLaw) := goodIn_app (goodIn_of _ (by decide +kernel)) ggX5_move_X5_isLaw
set_option maxRecDepth 20000 in
theorem ggX5_move_X4_setLaw : GoodIn wsX5_move wsX4_setLaw := goodIn_r _ [17, 18, 19, 20, 21, 22, 23, 24, 25, 26, 27, 28, 29, 30, 31, 40, 41, 42, 43, 44, 45, 46, 47, 48, 49, 50, 51, 52, 53, 54, 55, 56] (by decide +kernel) (by decide +kernel)
set_option maxRecDepth 20000 in
theorem gX5_move_X4_setLaw : GoodIn wsX5_move (wsV RX5 192 RX4 yX4_setLaw wsX4_setLaw) := goodIn_app (goodIn_of _ (by decide +kernel)) ggX5_move_X4_setLaw
theorem dX5_move_0 : decode cX5_move 0 = .ok (.aload_n 0, 1) := by decide +kernel
theorem dX5_move_1 : decode cX5_move 1 = .ok (.getfield 40, 3) := by decide +kernel
theorem dX5_move_4 : decode cX5_move 4 = .ok (.iload_n 1, 1) := by decide +kernel
theorem dX5_move_5 : decode cX5_move 5 = .ok (.invokevirtual 90, 3) := by decide +kernel
theorem dX5_move_8 : decode cX5_move 8 = .ok (.ifCond .eq 10, 3) := by decide +kernel
theorem dX5_move_11 : decode cX5_move 11 = .ok (.iload_n 2, 1) := by decide +kernel
theorem dX5_move_12 : decode cX5_move 12 = .ok (.invokestatic 177, 3) := by decide +kernel
theorem dX5_move_15 : decode cX5_move 15 = .ok (.ifCond .ne 5, 3) := by decide +kernel
theorem dX5_move_18 : decode cX5_move 18 = .ok (.iconst (-1), 1) := by decide +kernel
theorem dX5_move_19 : decode cX5_move 19 = .ok (.ireturn, 1) := by decide +kernel
theorem dX5_move_20 : decode cX5_move 20 = .ok (.aload_n 0, 1) := by decide +kernel
theorem dX5_move_21 : decode cX5_move 21 = .ok (.getfield 40, 3) := by decide +kernel
theorem dX5_move_24 : decode cX5_move 24 = .ok (.getfield 95, 3) := by decide +kernel
theorem dX5_move_27 : decode cX5_move 27 = .ok (.iload_n 1, 1) := by decide +kernel
theorem dX5_move_28 : decode cX5_move 28 = .ok (.iaload, 1) := by decide +kernel
theorem dX5_move_29 : decode cX5_move 29 = .ok (.istore_n 3, 1) := by decide +kernel
theorem dX5_move_30 : decode cX5_move 30 = .ok (.aload_n 0, 1) := by decide +kernel
theorem dX5_move_31 : decode cX5_move 31 = .ok (.getfield 40, 3) := by decide +kernel
theorem dX5_move_34 : decode cX5_move 34 = .ok (.iload_n 1, 1) := by decide +kernel
theorem dX5_move_35 : decode cX5_move 35 = .ok (.iload_n 2, 1) := by decide +kernel
theorem dX5_move_36 : decode cX5_move 36 = .ok (.invokevirtual 192, 3) := by decide +kernel
theorem dX5_move_39 : decode cX5_move 39 = .ok (.iload_n 3, 1) := by decide +kernel
theorem dX5_move_40 : decode cX5_move 40 = .ok (.ireturn, 1) := by decide +kernel
set_option maxRecDepth 20000 in
theorem ggX5_melted_X4_has : GoodIn wsX5_melted wsX4_has := goodIn_r _ [8, 9, 18, 19, 20, 21, 22, 23, 24, 25, 26, 27, 28, 29, 30, 31, 32, 33, 34] (by decide +kernel) (by decide +kernel)
set_option maxRecDepth 20000 in
theorem gX5_melted_X4_has : GoodIn wsX5_melted (wsV RX5 90 RX4 yX4_has wsX4_has) := goodIn_app (goodIn_of _ (by decide +kernel)) ggX5_melted_X4_has
theorem dX5_melted_0 : decode cX5_melted 0 = .ok (.iconst 0, 1) := by decide +kernel
theorem dX5_melted_1 : decode cX5_melted 1 = .ok (.istore_n 1, 1) := by decide +kernel
theorem dX5_melted_2 : decode cX5_melted 2 = .ok (.iconst 0, 1) := by decide +kernel
theorem dX5_melted_3 : decode cX5_melted 3 = .ok (.istore_n 2, 1) := by decide +kernel
theorem dX5_melted_4 : decode cX5_melted 4 = .ok (.iload_n 2, 1) := by decide +kernel
theorem dX5_melted_5 : decode cX5_melted 5 = .ok (.bipush 8, 2) := by decide +kernel
theorem dX5_melted_7 : decode cX5_melted 7 = .ok (.if_icmp .ge 45, 3) := by decide +kernel
theorem dX5_melted_10 : decode cX5_melted 10 = .ok (.aload_n 0, 1) := by decide +kernel
theorem dX5_melted_11 : decode cX5_melted 11 = .ok (.getfield 40, 3) := by decide +kernel
theorem dX5_melted_14 : decode cX5_melted 14 = .ok (.iload_n 2, 1) := by decide +kernel
theorem dX5_melted_15 : decode cX5_melted 15 = .ok (.invokevirtual 90, 3) := by decide +kernel
theorem dX5_melted_18 : decode cX5_melted 18 = .ok (.ifCond .eq 28, 3) := by decide +kernel
theorem dX5_melted_21 : decode cX5_melted 21 = .ok (.aload_n 0, 1) := by decide +kernel
theorem dX5_melted_22 : decode cX5_melted 22 = .ok (.getfield 40, 3) := by decide +kernel
theorem dX5_melted_25 : decode cX5_melted 25 = .ok (.getfield 128, 3) := by decide +kernel
theorem dX5_melted_28 : decode cX5_melted 28 = .ok (.aload_n 0, 1) := by decide +kernel
theorem dX5_melted_29 : decode cX5_melted 29 = .ok (.getfield 40, 3) := by decide +kernel
theorem dX5_melted_32 : decode cX5_melted 32 = .ok (.getfield 95, 3) := by decide +kernel
theorem dX5_melted_35 : decode cX5_melted 35 = .ok (.iload_n 2, 1) := by decide +kernel
theorem dX5_melted_36 : decode cX5_melted 36 = .ok (.iaload, 1) := by decide +kernel
theorem dX5_melted_37 : decode cX5_melted 37 = .ok (.if_icmp .le 9, 3) := by decide +kernel
theorem dX5_melted_40 : decode cX5_melted 40 = .ok (.iload_n 1, 1) := by decide +kernel
theorem dX5_melted_41 : decode cX5_melted 41 = .ok (.iconst 1, 1) := by decide +kernel
theorem dX5_melted_42 : decode cX5_melted 42 = .ok (.iload_n 2, 1) := by decide +kernel
theorem dX5_melted_43 : decode cX5_melted 43 = .ok (.ishl, 1) := by decide +kernel
theorem dX5_melted_44 : decode cX5_melted 44 = .ok (.ior, 1) := by decide +kernel
theorem dX5_melted_45 : decode cX5_melted 45 = .ok (.istore_n 1, 1) := by decide +kernel
theorem dX5_melted_46 : decode cX5_melted 46 = .ok (.iinc 2 1, 3) := by decide +kernel
theorem dX5_melted_49 : decode cX5_melted 49 = .ok (.goto (-45), 3) := by decide +kernel
theorem dX5_melted_52 : decode cX5_melted 52 = .ok (.iload_n 1, 1) := by decide +kernel
theorem dX5_melted_53 : decode cX5_melted 53 = .ok (.ireturn, 1) := by decide +kernel
set_option maxRecDepth 20000 in
theorem ggX5_keep_X4_copyFrom : GoodIn wsX5_keep wsX4_copyFrom := goodIn_r _ [8, 9, 10, 11, 12, 13, 14, 15, 16, 17, 18, 19, 20, 21, 22, 23, 24, 25, 26, 27, 28, 29, 38, 39, 40, 41, 42, 43, 44, 45, 46, 47, 48, 49, 50, 51, 52, 53, 54] (by decide +kernel) (by decide +kernel)
set_option maxRecDepth 20000 in
theorem gX5_keep_X4_copyFrom : GoodIn wsX5_keep (wsV RX5 73 RX4 yX4_copyFrom wsX4_copyFrom) := goodIn_app (goodIn_of _ (by decide +kernel)) ggX5_keep_X4_copyFrom
theorem dX5_keep_0 : decode cX5_keep 0 = .ok (.aload_n 0, 1) := by decide +kernel
theorem dX5_keep_1 : decode cX5_keep 1 = .ok (.getfield 51, 3) := by decide +kernel
theorem dX5_keep_4 : decode cX5_keep 4 = .ok (.iconst 2, 1) := by decide +kernel
theorem dX5_keep_5 : decode cX5_keep 5 = .ok (.if_icmp .lt 6, 3) := by decide +kernel
theorem dX5_keep_8 : decode cX5_keep 8 = .ok (.bipush (-3), 2) := by decide +kernel
theorem dX5_keep_10 : decode cX5_keep 10 = .ok (.ireturn, 1) := by decide +kernel
theorem dX5_keep_11 : decode cX5_keep 11 = .ok (.aload_n 0, 1) := by decide +kernel
theorem dX5_keep_12 : decode cX5_keep 12 = .ok (.getfield 47, 3) := by decide +kernel
theorem dX5_keep_15 : decode cX5_keep 15 = .ok (.aload_n 0, 1) := by decide +kernel
theorem dX5_keep_16 : decode cX5_keep 16 = .ok (.getfield 51, 3) := by decide +kernel
theorem dX5_keep_19 : decode cX5_keep 19 = .ok (.aaload, 1) := by decide +kernel
theorem dX5_keep_20 : decode cX5_keep 20 = .ok (.aload_n 0, 1) := by decide +kernel
theorem dX5_keep_21 : decode cX5_keep 21 = .ok (.getfield 40, 3) := by decide +kernel
theorem dX5_keep_24 : decode cX5_keep 24 = .ok (.invokevirtual 73, 3) := by decide +kernel
theorem dX5_keep_27 : decode cX5_keep 27 = .ok (.aload_n 0, 1) := by decide +kernel
theorem dX5_keep_28 : decode cX5_keep 28 = .ok (.dup, 1) := by decide +kernel
theorem dX5_keep_29 : decode cX5_keep 29 = .ok (.getfield 51, 3) := by decide +kernel
theorem dX5_keep_32 : decode cX5_keep 32 = .ok (.iconst 1, 1) := by decide +kernel
theorem dX5_keep_33 : decode cX5_keep 33 = .ok (.iadd, 1) := by decide +kernel
theorem dX5_keep_34 : decode cX5_keep 34 = .ok (.putfield 51, 3) := by decide +kernel
theorem dX5_keep_37 : decode cX5_keep 37 = .ok (.aload_n 0, 1) := by decide +kernel
theorem dX5_keep_38 : decode cX5_keep 38 = .ok (.getfield 51, 3) := by decide +kernel
theorem dX5_keep_41 : decode cX5_keep 41 = .ok (.ireturn, 1) := by decide +kernel
set_option maxRecDepth 20000 in
theorem ggX5_back_X4_copyFrom : GoodIn wsX5_back wsX4_copyFrom := goodIn_r _ [8, 9, 10, 11, 12, 13, 14, 15, 16, 17, 18, 19, 20, 21, 22, 23, 24, 25, 26, 27, 28, 29, 38, 39, 40, 41, 42, 43, 44, 45, 46, 47, 48, 49, 50, 51, 52, 53, 54] (by decide +kernel) (by decide +kernel)
set_option maxRecDepth 20000 in
theorem gX5_back_X4_copyFrom : GoodIn wsX5_back (wsV RX5 73 RX4 yX4_copyFrom wsX4_copyFrom) := goodIn_app (goodIn_of _ (by decide +kernel)) ggX5_back_X4_copyFrom
theorem dX5_back_0 : decode cX5_back 0 = .ok (.aload_n 0, 1) := by decide +kernel
theorem dX5_back_1 : decode cX5_back 1 = .ok (.getfield 51, 3) := by decide +kernel
theorem dX5_back_4 : decode cX5_back 4 = .ok (.ifCond .gt 6, 3) := by decide +kernel
theorem dX5_back_7 : decode cX5_back 7 = .ok (.bipush (-2), 2) := by decide +kernel
theorem dX5_back_9 : decode cX5_back 9 = .ok (.ireturn, 1) := by decide +kernel
theorem dX5_back_10 : decode cX5_back 10 = .ok (.aload_n 0, 1) := by decide +kernel
theorem dX5_back_11 : decode cX5_back 11 = .ok (.dup, 1) := by decide +kernel
theorem dX5_back_12 : decode cX5_back 12 = .ok (.getfield 51, 3) := by decide +kernel
theorem dX5_back_15 : decode cX5_back 15 = .ok (.iconst 1, 1) := by decide +kernel
theorem dX5_back_16 : decode cX5_back 16 = .ok (.isub, 1) := by decide +kernel
theorem dX5_back_17 : decode cX5_back 17 = .ok (.putfield 51, 3) := by decide +kernel
theorem dX5_back_20 : decode cX5_back 20 = .ok (.aload_n 0, 1) := by decide +kernel
theorem dX5_back_21 : decode cX5_back 21 = .ok (.getfield 40, 3) := by decide +kernel
theorem dX5_back_24 : decode cX5_back 24 = .ok (.aload_n 0, 1) := by decide +kernel
theorem dX5_back_25 : decode cX5_back 25 = .ok (.getfield 47, 3) := by decide +kernel
theorem dX5_back_28 : decode cX5_back 28 = .ok (.aload_n 0, 1) := by decide +kernel
theorem dX5_back_29 : decode cX5_back 29 = .ok (.getfield 51, 3) := by decide +kernel
theorem dX5_back_32 : decode cX5_back 32 = .ok (.aaload, 1) := by decide +kernel
theorem dX5_back_33 : decode cX5_back 33 = .ok (.invokevirtual 73, 3) := by decide +kernel
theorem dX5_back_36 : decode cX5_back 36 = .ok (.aload_n 0, 1) := by decide +kernel
theorem dX5_back_37 : decode cX5_back 37 = .ok (.getfield 51, 3) := by decide +kernel
theorem dX5_back_40 : decode cX5_back 40 = .ok (.ireturn, 1) := by decide +kernel
set_option maxRecDepth 20000 in
theorem ggX5_count_J6_bitCount_0f7a4 : GoodIn wsX5_count wsJ6_bitCount_0f7a4 := goodIn_r _ [10, 11, 12, 13] (by decide +kernel) (by decide +kernel)
set_option maxRecDepth 20000 in
theorem gX5_count_J6_bitCount_0f7a4 : GoodIn wsX5_count (va_wsS RX5 84 yJ6_bitCount_0f7a4 wsJ6_bitCount_0f7a4) := goodIn_app (goodIn_of _ (by decide +kernel)) ggX5_count_J6_bitCount_0f7a4
set_option maxRecDepth 20000 in
theorem ggX5_count_X4_goldInAll : GoodIn wsX5_count wsX4_goldInAll := goodIn_r _ [18, 19, 20, 21, 22, 23, 17, 24, 25, 34, 35, 36, 37, 38, 39, 40, 41, 42, 43, 44, 45, 46, 47, 48, 49, 50] (by decide +kernel) (by decide +kernel)
set_option maxRecDepth 20000 in
theorem gX5_count_X4_goldInAll : GoodIn wsX5_count (wsV RX5 196 RX4 yX4_goldInAll wsX4_goldInAll) := goodIn_app (goodIn_of _ (by decide +kernel)) ggX5_count_X4_goldInAll
theorem dX5_count_0 : decode cX5_count 0 = .ok (.iload_n 1, 1) := by decide +kernel
theorem dX5_count_1 : decode cX5_count 1 = .ok (.tableswitch 79 0 4 #[35, 46, 54, 65, 74], 35) := by decide +kernel
theorem dX5_count_36 : decode cX5_count 36 = .ok (.aload_n 0, 1) := by decide +kernel
theorem dX5_count_37 : decode cX5_count 37 = .ok (.getfield 40, 3) := by decide +kernel
theorem dX5_count_40 : decode cX5_count 40 = .ok (.getfield 81, 3) := by decide +kernel
theorem dX5_count_43 : decode cX5_count 43 = .ok (.invokestatic 84, 3) := by decide +kernel
theorem dX5_count_46 : decode cX5_count 46 = .ok (.ireturn, 1) := by decide +kernel
theorem dX5_count_47 : decode cX5_count 47 = .ok (.aload_n 0, 1) := by decide +kernel
theorem dX5_count_48 : decode cX5_count 48 = .ok (.getfield 10, 3) := by decide +kernel
theorem dX5_count_51 : decode cX5_count 51 = .ok (.getfield 63, 3) := by decide +kernel
theorem dX5_count_54 : decode cX5_count 54 = .ok (.ireturn, 1) := by decide +kernel
theorem dX5_count_55 : decode cX5_count 55 = .ok (.aload_n 0, 1) := by decide +kernel
theorem dX5_count_56 : decode cX5_count 56 = .ok (.getfield 40, 3) := by decide +kernel
theorem dX5_count_59 : decode cX5_count 59 = .ok (.getfield 174, 3) := by decide +kernel
theorem dX5_count_62 : decode cX5_count 62 = .ok (.invokestatic 84, 3) := by decide +kernel
theorem dX5_count_65 : decode cX5_count 65 = .ok (.ireturn, 1) := by decide +kernel
theorem dX5_count_66 : decode cX5_count 66 = .ok (.aload_n 0, 1) := by decide +kernel
theorem dX5_count_67 : decode cX5_count 67 = .ok (.getfield 40, 3) := by decide +kernel
theorem dX5_count_70 : decode cX5_count 70 = .ok (.invokevirtual 196, 3) := by decide +kernel
theorem dX5_count_73 : decode cX5_count 73 = .ok (.l2i, 1) := by decide +kernel
theorem dX5_count_74 : decode cX5_count 74 = .ok (.ireturn, 1) := by decide +kernel
theorem dX5_count_75 : decode cX5_count 75 = .ok (.aload_n 0, 1) := by decide +kernel
theorem dX5_count_76 : decode cX5_count 76 = .ok (.getfield 51, 3) := by decide +kernel
theorem dX5_count_79 : decode cX5_count 79 = .ok (.ireturn, 1) := by decide +kernel
theorem dX5_count_80 : decode cX5_count 80 = .ok (.iconst (-1), 1) := by decide +kernel
theorem dX5_count_81 : decode cX5_count 81 = .ok (.ireturn, 1) := by decide +kernel
set_option maxRecDepth 20000 in
theorem ggX5_tryPact_X4_copyFrom : GoodIn wsX5_tryPact wsX4_copyFrom := goodIn_r _ [8, 9, 10, 11, 12, 13, 14, 15, 16, 17, 18, 19, 20, 21, 22, 23, 24, 25, 26, 27, 28, 29, 114, 115, 116, 117, 118, 119, 120, 121, 122, 123, 124, 125, 126, 127, 128, 129, 130] (by decide +kernel) (by decide +kernel)
set_option maxRecDepth 20000 in
theorem gX5_tryPact_X4_copyFrom : GoodIn wsX5_tryPact (wsV RX5 73 RX4 yX4_copyFrom wsX4_copyFrom) := goodIn_app (goodIn_of _ (by decide +kernel)) ggX5_tryPact_X4_copyFrom
set_option maxRecDepth 20000 in
theorem ggX5_tryPact_X4_setLaw : GoodIn wsX5_tryPact wsX4_setLaw := goodIn_r _ [33, 9, 15, 34, 14, 35, 36, 37, 38, 18, 19, 39, 40, 41, 42, 114, 115, 116, 117, 118, 119, 120, 121, 122, 123, 124, 125, 126, 127, 128, 129, 130] (by decide +kernel) (by decide +kernel)
set_option maxRecDepth 20000 in
theorem gX5_tryPact_X4_setLaw : GoodIn wsX5_tryPact (wsV RX5 192 RX4 yX4_setLaw wsX4_setLaw) := goodIn_app (goodIn_of _ (by decide +kernel)) ggX5_tryPact_X4_setLaw
set_option maxRecDepth 20000 in
theorem ggX5_tryPact_X1_settle : GoodIn wsX5_tryPact wsX1_settle := goodIn_r _ [47, 48, 49, 50, 51, 52, 53, 54, 55, 56, 57, 46, 58, 59, 60, 61, 11, 12, 13, 62, 63, 64, 65, 66, 67, 68, 7, 69, 28, 19, 26, 9, 18, 25, 70, 71, 72, 73, 23, 74, 75, 76, 77, 24, 78, 79, 80, 81, 20, 82, 83, 84, 85, 21, 86, 87, 88, 89, 90, 91, 92, 93, 94, 27, 34, 39, 40, 41, 37, 42, 95, 96, 97, 98, 99, 100, 101, 102, 103, 104, 105, 131, 132, 114, 115, 116, 117, 118, 119, 120, 121, 122, 123, 124, 125, 126, 127, 128, 129, 130] (by decide +kernel) (by decide +kernel)
set_option maxRecDepth 20000 in
theorem gX5_tryPact_X1_settle : GoodIn wsX5_tryPact (wsV RX5 154 RX1 yX1_settle wsX1_settle) := goodIn_app (goodIn_of _ (by decide +kernel)) ggX5_tryPact_X1_settle
theorem dX5_tryPact_0 : decode cX5_tryPact 0 = .ok (.aload_n 0, 1) := by decide +kernel
theorem dX5_tryPact_1 : decode cX5_tryPact 1 = .ok (.getfield 44, 3) := by decide +kernel
theorem dX5_tryPact_4 : decode cX5_tryPact 4 = .ok (.aload_n 0, 1) := by decide +kernel
theorem dX5_tryPact_5 : decode cX5_tryPact 5 = .ok (.getfield 40, 3) := by decide +kernel
theorem dX5_tryPact_8 : decode cX5_tryPact 8 = .ok (.invokevirtual 73, 3) := by decide +kernel
theorem dX5_tryPact_11 : decode cX5_tryPact 11 = .ok (.iconst 0, 1) := by decide +kernel
theorem dX5_tryPact_12 : decode cX5_tryPact 12 = .ok (.istore_n 3, 1) := by decide +kernel
theorem dX5_tryPact_13 : decode cX5_tryPact 13 = .ok (.iload_n 3, 1) := by decide +kernel
theorem dX5_tryPact_14 : decode cX5_tryPact 14 = .ok (.bipush 8, 2) := by decide +kernel
theorem dX5_tryPact_16 : decode cX5_tryPact 16 = .ok (.if_icmp .ge 27, 3) := by decide +kernel
theorem dX5_tryPact_19 : decode cX5_tryPact 19 = .ok (.iload_n 1, 1) := by decide +kernel
theorem dX5_tryPact_20 : decode cX5_tryPact 20 = .ok (.iload_n 3, 1) := by decide +kernel
theorem dX5_tryPact_21 : decode cX5_tryPact 21 = .ok (.ishr, 1) := by decide +kernel
theorem dX5_tryPact_22 : decode cX5_tryPact 22 = .ok (.iconst 1, 1) := by decide +kernel
theorem dX5_tryPact_23 : decode cX5_tryPact 23 = .ok (.iand, 1) := by decide +kernel
theorem dX5_tryPact_24 : decode cX5_tryPact 24 = .ok (.iconst 1, 1) := by decide +kernel
theorem dX5_tryPact_25 : decode cX5_tryPact 25 = .ok (.if_icmp .ne 12, 3) := by decide +kernel
theorem dX5_tryPact_28 : decode cX5_tryPact 28 = .ok (.aload_n 0, 1) := by decide +kernel
theorem dX5_tryPact_29 : decode cX5_tryPact 29 = .ok (.getfield 44, 3) := by decide +kernel
theorem dX5_tryPact_32 : decode cX5_tryPact 32 = .ok (.iload_n 3, 1) := by decide +kernel
theorem dX5_tryPact_33 : decode cX5_tryPact 33 = .ok (.iload_n 2, 1) := by decide +kernel
theorem dX5_tryPact_34 : decode cX5_tryPact 34 = .ok (.invokevirtual 192, 3) := by decide +kernel
theorem dX5_tryPact_37 : decode cX5_tryPact 37 = .ok (.iinc 3 1, 3) := by decide +kernel
theorem dX5_tryPact_40 : decode cX5_tryPact 40 = .ok (.goto (-27), 3) := by decide +kernel
theorem dX5_tryPact_43 : decode cX5_tryPact 43 = .ok (.aload_n 0, 1) := by decide +kernel
theorem dX5_tryPact_44 : decode cX5_tryPact 44 = .ok (.getfield 26, 3) := by decide +kernel
theorem dX5_tryPact_47 : decode cX5_tryPact 47 = .ok (.aload_n 0, 1) := by decide +kernel
theorem dX5_tryPact_48 : decode cX5_tryPact 48 = .ok (.getfield 44, 3) := by decide +kernel
theorem dX5_tryPact_51 : decode cX5_tryPact 51 = .ok (.invokevirtual 154, 3) := by decide +kernel
theorem dX5_tryPact_54 : decode cX5_tryPact 54 = .ok (.ireturn, 1) := by decide +kernel
set_option maxRecDepth 20000 in
theorem ggX5_allHold_X4_holders : GoodIn wsX5_allHold wsX4_holders := goodIn_r _ [6, 7, 8, 9, 10, 11, 12, 5, 13, 14, 15, 16, 17, 18, 19, 20, 21, 22, 23, 24, 25, 34, 35, 36, 37, 38, 39, 40, 41, 42, 43, 44, 45, 46, 47, 48, 49, 50] (by decide +kernel) (by decide +kernel)
set_option maxRecDepth 20000 in
theorem gX5_allHold_X4_holders : GoodIn wsX5_allHold (wsV RX5 146 RX4 yX4_holders wsX4_holders) := goodIn_app (goodIn_of _ (by decide +kernel)) ggX5_allHold_X4_holders
theorem dX5_allHold_0 : decode cX5_allHold 0 = .ok (.iload_n 1, 1) := by decide +kernel
theorem dX5_allHold_1 : decode cX5_allHold 1 = .ok (.aload_n 0, 1) := by decide +kernel
theorem dX5_allHold_2 : decode cX5_allHold 2 = .ok (.getfield 44, 3) := by decide +kernel
theorem dX5_allHold_5 : decode cX5_allHold 5 = .ok (.invokevirtual 146, 3) := by decide +kernel
theorem dX5_allHold_8 : decode cX5_allHold 8 = .ok (.iconst (-1), 1) := by decide +kernel
theorem dX5_allHold_9 : decode cX5_allHold 9 = .ok (.ixor, 1) := by decide +kernel
theorem dX5_allHold_10 : decode cX5_allHold 10 = .ok (.iand, 1) := by decide +kernel
theorem dX5_allHold_11 : decode cX5_allHold 11 = .ok (.ifCond .ne 7, 3) := by decide +kernel
theorem dX5_allHold_14 : decode cX5_allHold 14 = .ok (.iconst 1, 1) := by decide +kernel
theorem dX5_allHold_15 : decode cX5_allHold 15 = .ok (.goto 4, 3) := by decide +kernel
theorem dX5_allHold_18 : decode cX5_allHold 18 = .ok (.iconst 0, 1) := by decide +kernel
theorem dX5_allHold_19 : decode cX5_allHold 19 = .ok (.ireturn, 1) := by decide +kernel
set_option maxRecDepth 20000 in
theorem ggX5_tryPurchase_X4_copyFrom : GoodIn wsX5_tryPurchase wsX4_copyFrom := goodIn_r _ [9, 10, 11, 12, 13, 14, 15, 16, 17, 18, 19, 20, 21, 22, 23, 24, 25, 26, 27, 28, 29, 30, 109, 110, 111, 112, 113, 114, 115, 116, 117, 118, 119, 120, 121, 122, 123, 124, 125] (by decide +kernel) (by decide +kernel)
set_option maxRecDepth 20000 in
theorem gX5_tryPurchase_X4_copyFrom : GoodIn wsX5_tryPurchase (wsV RX5 73 RX4 yX4_copyFrom wsX4_copyFrom) := goodIn_app (goodIn_of _ (by decide +kernel)) ggX5_tryPurchase_X4_copyFrom
set_option maxRecDepth 20000 in
theorem ggX5_tryPurchase_X4_weigh : GoodIn wsX5_tryPurchase wsX4_weigh := goodIn_r _ [34, 26, 35, 29, 28, 27, 36, 37, 38, 39, 40, 41, 109, 110, 111, 112, 113, 114, 115, 116, 117, 118, 119, 120, 121, 122, 123, 124, 125] (by decide +kernel) (by decide +kernel)
set_option maxRecDepth 20000 in
theorem gX5_tryPurchase_X4_weigh : GoodIn wsX5_tryPurchase (wsV RX5 200 RX4 yX4_weigh wsX4_weigh) := goodIn_app (goodIn_of _ (by decide +kernel)) ggX5_tryPurchase_X4_weigh
set_option maxRecDepth 20000 in
theorem ggX5_tryPurchase_X1_settle : GoodIn wsX5_tryPurchase wsX1_settle := goodIn_r _ [46, 47, 48, 49, 50, 51, 52, 53, 54, 55, 56, 45, 57, 58, 59, 60, 12, 13, 14, 61, 62, 63, 64, 65, 66, 67, 8, 68, 29, 20, 27, 10, 19, 26, 69, 70, 71, 72, 24, 73, 74, 75, 76, 25, 77, 78, 79, 80, 21, 81, 82, 83, 84, 22, 85, 86, 87, 88, 89, 32, 33, 34, 35, 28, 36, 37, 38, 39, 40, 41, 90, 91, 92, 93, 94, 95, 96, 97, 98, 99, 100, 126, 127, 109, 110, 111, 112, 113, 114, 115, 116, 117, 118, 119, 120, 121, 122, 123, 124, 125] (by decide +kernel) (by decide +kernel)
set_option maxRecDepth 20000 in
theorem gX5_tryPurchase_X1_settle : GoodIn wsX5_tryPurchase (wsV RX5 154 RX1 yX1_settle wsX1_settle) := goodIn_app (goodIn_of _ (by decide +kernel)) ggX5_tryPurchase_X1_settle
theorem dX5_tryPurchase_0 : decode cX5_tryPurchase 0 = .ok (.aload_n 0, 1) := by decide +kernel
theorem dX5_tryPurchase_1 : decode cX5_tryPurchase 1 = .ok (.getfield 44, 3) := by decide +kernel
theorem dX5_tryPurchase_4 : decode cX5_tryPurchase 4 = .ok (.aload_n 0, 1) := by decide +kernel
theorem dX5_tryPurchase_5 : decode cX5_tryPurchase 5 = .ok (.getfield 40, 3) := by decide +kernel
theorem dX5_tryPurchase_8 : decode cX5_tryPurchase 8 = .ok (.invokevirtual 73, 3) := by decide +kernel
theorem dX5_tryPurchase_11 : decode cX5_tryPurchase 11 = .ok (.aload_n 0, 1) := by decide +kernel
theorem dX5_tryPurchase_12 : decode cX5_tryPurchase 12 = .ok (.getfield 44, 3) := by decide +kernel
theorem dX5_tryPurchase_15 : decode cX5_tryPurchase 15 = .ok (.dup, 1) := by decide +kernel
theorem dX5_tryPurchase_16 : decode cX5_tryPurchase 16 = .ok (.getfield 121, 3) := by decide +kernel
theorem dX5_tryPurchase_19 : decode cX5_tryPurchase 19 = .ok (.iload_n 1, 1) := by decide +kernel
theorem dX5_tryPurchase_20 : decode cX5_tryPurchase 20 = .ok (.i2l, 1) := by decide +kernel
theorem dX5_tryPurchase_21 : decode cX5_tryPurchase 21 = .ok (.lsub, 1) := by decide +kernel
theorem dX5_tryPurchase_22 : decode cX5_tryPurchase 22 = .ok (.putfield 121, 3) := by decide +kernel
theorem dX5_tryPurchase_25 : decode cX5_tryPurchase 25 = .ok (.aload_n 0, 1) := by decide +kernel
theorem dX5_tryPurchase_26 : decode cX5_tryPurchase 26 = .ok (.getfield 44, 3) := by decide +kernel
theorem dX5_tryPurchase_29 : decode cX5_tryPurchase 29 = .ok (.invokevirtual 200, 3) := by decide +kernel
theorem dX5_tryPurchase_32 : decode cX5_tryPurchase 32 = .ok (.aload_n 0, 1) := by decide +kernel
theorem dX5_tryPurchase_33 : decode cX5_tryPurchase 33 = .ok (.getfield 26, 3) := by decide +kernel
theorem dX5_tryPurchase_36 : decode cX5_tryPurchase 36 = .ok (.aload_n 0, 1) := by decide +kernel
theorem dX5_tryPurchase_37 : decode cX5_tryPurchase 37 = .ok (.getfield 44, 3) := by decide +kernel
theorem dX5_tryPurchase_40 : decode cX5_tryPurchase 40 = .ok (.invokevirtual 154, 3) := by decide +kernel
theorem dX5_tryPurchase_43 : decode cX5_tryPurchase 43 = .ok (.ireturn, 1) := by decide +kernel
theorem dX5_isZeroOrOne_0 : decode cX5_isZeroOrOne 0 = .ok (.iload_n 0, 1) := by decide +kernel
theorem dX5_isZeroOrOne_1 : decode cX5_isZeroOrOne 1 = .ok (.ifCond .eq 8, 3) := by decide +kernel
theorem dX5_isZeroOrOne_4 : decode cX5_isZeroOrOne 4 = .ok (.iload_n 0, 1) := by decide +kernel
theorem dX5_isZeroOrOne_5 : decode cX5_isZeroOrOne 5 = .ok (.iconst 1, 1) := by decide +kernel
theorem dX5_isZeroOrOne_6 : decode cX5_isZeroOrOne 6 = .ok (.if_icmp .ne 7, 3) := by decide +kernel
theorem dX5_isZeroOrOne_9 : decode cX5_isZeroOrOne 9 = .ok (.iconst 1, 1) := by decide +kernel
theorem dX5_isZeroOrOne_10 : decode cX5_isZeroOrOne 10 = .ok (.goto 4, 3) := by decide +kernel
theorem dX5_isZeroOrOne_13 : decode cX5_isZeroOrOne 13 = .ok (.iconst 0, 1) := by decide +kernel
theorem dX5_isZeroOrOne_14 : decode cX5_isZeroOrOne 14 = .ok (.ireturn, 1) := by decide +kernel
theorem dX5_isSpanOfYears_0 : decode cX5_isSpanOfYears 0 = .ok (.iload_n 0, 1) := by decide +kernel
theorem dX5_isSpanOfYears_1 : decode cX5_isSpanOfYears 1 = .ok (.iconst 1, 1) := by decide +kernel
theorem dX5_isSpanOfYears_2 : decode cX5_isSpanOfYears 2 = .ok (.if_icmp .lt 13, 3) := by decide +kernel
theorem dX5_isSpanOfYears_5 : decode cX5_isSpanOfYears 5 = .ok (.iload_n 0, 1) := by decide +kernel
theorem dX5_isSpanOfYears_6 : decode cX5_isSpanOfYears 6 = .ok (.bipush 100, 2) := by decide +kernel
theorem dX5_isSpanOfYears_8 : decode cX5_isSpanOfYears 8 = .ok (.if_icmp .gt 7, 3) := by decide +kernel
theorem dX5_isSpanOfYears_11 : decode cX5_isSpanOfYears 11 = .ok (.iconst 1, 1) := by decide +kernel
theorem dX5_isSpanOfYears_12 : decode cX5_isSpanOfYears 12 = .ok (.goto 4, 3) := by decide +kernel
theorem dX5_isSpanOfYears_15 : decode cX5_isSpanOfYears 15 = .ok (.iconst 0, 1) := by decide +kernel
theorem dX5_isSpanOfYears_16 : decode cX5_isSpanOfYears 16 = .ok (.ireturn, 1) := by decide +kernel
theorem dX5_isLaw_0 : decode cX5_isLaw 0 = .ok (.iload_n 0, 1) := by decide +kernel
theorem dX5_isLaw_1 : decode cX5_isLaw 1 = .ok (.sipush 1000, 3) := by decide +kernel
theorem dX5_isLaw_4 : decode cX5_isLaw 4 = .ok (.if_icmp .lt 13, 3) := by decide +kernel
theorem dX5_isLaw_7 : decode cX5_isLaw 7 = .ok (.iload_n 0, 1) := by decide +kernel
theorem dX5_isLaw_8 : decode cX5_isLaw 8 = .ok (.ldc 203, 2) := by decide +kernel
theorem dX5_isLaw_10 : decode cX5_isLaw 10 = .ok (.if_icmp .gt 7, 3) := by decide +kernel
theorem dX5_isLaw_13 : decode cX5_isLaw 13 = .ok (.iconst 1, 1) := by decide +kernel
theorem dX5_isLaw_14 : decode cX5_isLaw 14 = .ok (.goto 4, 3) := by decide +kernel
theorem dX5_isLaw_17 : decode cX5_isLaw 17 = .ok (.iconst 0, 1) := by decide +kernel
theorem dX5_isLaw_18 : decode cX5_isLaw 18 = .ok (.ireturn, 1) := by decide +kernel
set_option maxRecDepth 20000 in
theorem ggX6_init_X6_noWorld : GoodIn wsX6_init wsX6_noWorld := goodIn_r _ [18, 7, 19, 8, 9, 10, 20, 21, 22, 23, 24, 25, 26, 27, 28, 29, 30] (by decide +kernel) (by decide +kernel)
set_option maxRecDepth 20000 in
theorem gX6_init_X6_noWorld : GoodIn wsX6_init (wsV RX6 35 RX6 yX6_noWorld wsX6_noWorld) := goodIn_app (goodIn_of _ (by decide +kernel)) ggX6_init_X6_noWorld
theorem dX6_init_0 : decode cX6_init 0 = .ok (.aload_n 0, 1) := by decide +kernel
theorem dX6_init_1 : decode cX6_init 1 = .ok (.invokespecial 1, 3) := by decide +kernel
theorem dX6_init_4 : decode cX6_init 4 = .ok (.aload_n 0, 1) := by decide +kernel
theorem dX6_init_5 : decode cX6_init 5 = .ok (.sipush 400, 3) := by decide +kernel
theorem dX6_init_8 : decode cX6_init 8 = .ok (.newarray .int, 2) := by decide +kernel
theorem dX6_init_10 : decode cX6_init 10 = .ok (.putfield 7, 3) := by decide +kernel
theorem dX6_init_13 : decode cX6_init 13 = .ok (.aload_n 0, 1) := by decide +kernel
theorem dX6_init_14 : decode cX6_init 14 = .ok (.sipush 360, 3) := by decide +kernel
theorem dX6_init_17 : decode cX6_init 17 = .ok (.newarray .long, 2) := by decide +kernel
theorem dX6_init_19 : decode cX6_init 19 = .ok (.putfield 13, 3) := by decide +kernel
theorem dX6_init_22 : decode cX6_init 22 = .ok (.aload_n 0, 1) := by decide +kernel
theorem dX6_init_23 : decode cX6_init 23 = .ok (.bipush 15, 2) := by decide +kernel
theorem dX6_init_25 : decode cX6_init 25 = .ok (.newarray .long, 2) := by decide +kernel
theorem dX6_init_27 : decode cX6_init 27 = .ok (.putfield 17, 3) := by decide +kernel
theorem dX6_init_30 : decode cX6_init 30 = .ok (.aload_n 0, 1) := by decide +kernel
theorem dX6_init_31 : decode cX6_init 31 = .ok (.iconst 2, 1) := by decide +kernel
theorem dX6_init_32 : decode cX6_init 32 = .ok (.newarray .int, 2) := by decide +kernel
theorem dX6_init_34 : decode cX6_init 34 = .ok (.putfield 20, 3) := by decide +kernel
theorem dX6_init_37 : decode cX6_init 37 = .ok (.aload_n 0, 1) := by decide +kernel
theorem dX6_init_38 : decode cX6_init 38 = .ok (.iconst 2, 1) := by decide +kernel
theorem dX6_init_39 : decode cX6_init 39 = .ok (.newarray .int, 2) := by decide +kernel
theorem dX6_init_41 : decode cX6_init 41 = .ok (.putfield 23, 3) := by decide +kernel
theorem dX6_init_44 : decode cX6_init 44 = .ok (.aload_n 0, 1) := by decide +kernel
theorem dX6_init_45 : decode cX6_init 45 = .ok (.sipush 360, 3) := by decide +kernel
theorem dX6_init_48 : decode cX6_init 48 = .ok (.newarray .int, 2) := by decide +kernel
theorem dX6_init_50 : decode cX6_init 50 = .ok (.putfield 26, 3) := by decide +kernel
theorem dX6_init_53 : decode cX6_init 53 = .ok (.aload_n 0, 1) := by decide +kernel
theorem dX6_init_54 : decode cX6_init 54 = .ok (.bipush 7, 2) := by decide +kernel
theorem dX6_init_56 : decode cX6_init 56 = .ok (.newarray .int, 2) := by decide +kernel
theorem dX6_init_58 : decode cX6_init 58 = .ok (.putfield 29, 3) := by decide +kernel
theorem dX6_init_61 : decode cX6_init 61 = .ok (.aload_n 0, 1) := by decide +kernel
theorem dX6_init_62 : decode cX6_init 62 = .ok (.bipush 8, 2) := by decide +kernel
theorem dX6_init_64 : decode cX6_init 64 = .ok (.newarray .int, 2) := by decide +kernel
theorem dX6_init_66 : decode cX6_init 66 = .ok (.putfield 32, 3) := by decide +kernel
theorem dX6_init_69 : decode cX6_init 69 = .ok (.aload_n 0, 1) := by decide +kernel
theorem dX6_init_70 : decode cX6_init 70 = .ok (.iconst 0, 1) := by decide +kernel
theorem dX6_init_71 : decode cX6_init 71 = .ok (.iconst 0, 1) := by decide +kernel
theorem dX6_init_72 : decode cX6_init 72 = .ok (.invokevirtual 35, 3) := by decide +kernel
theorem dX6_init_75 : decode cX6_init 75 = .ok (.return_, 1) := by decide +kernel
theorem dX6_in_0 : decode cX6_in 0 = .ok (.lload_n 0, 1) := by decide +kernel
theorem dX6_in_1 : decode cX6_in 1 = .ok (.lload_n 2, 1) := by decide +kernel
theorem dX6_in_2 : decode cX6_in 2 = .ok (.lcmp, 1) := by decide +kernel
theorem dX6_in_3 : decode cX6_in 3 = .ok (.ifCond .lt 14, 3) := by decide +kernel
theorem dX6_in_6 : decode cX6_in 6 = .ok (.lload_n 0, 1) := by decide +kernel
theorem dX6_in_7 : decode cX6_in 7 = .ok (.lload 4, 2) := by decide +kernel
theorem dX6_in_9 : decode cX6_in 9 = .ok (.lcmp, 1) := by decide +kernel
theorem dX6_in_10 : decode cX6_in 10 = .ok (.ifCond .gt 7, 3) := by decide +kernel
theorem dX6_in_13 : decode cX6_in 13 = .ok (.iconst 1, 1) := by decide +kernel
theorem dX6_in_14 : decode cX6_in 14 = .ok (.goto 4, 3) := by decide +kernel
theorem dX6_in_17 : decode cX6_in 17 = .ok (.iconst 0, 1) := by decide +kernel
theorem dX6_in_18 : decode cX6_in 18 = .ok (.ireturn, 1) := by decide +kernel
theorem dX6_has_0 : decode cX6_has 0 = .ok (.iload_n 0, 1) := by decide +kernel
