theorem dX6_debt_23 : decode cX6_debt 23 = .ok (.lconst 1, 1) := by decide +kernel
theorem dX6_debt_24 : decode cX6_debt 24 = .ok (.invokestatic 43, 3) := by decide +kernel
theorem dX6_debt_27 : decode cX6_debt 27 = .ok (.ifCond .ne 5, 3) := by decide +kernel
theorem dX6_debt_30 : decode cX6_debt 30 = .ok (.iconst (-1), 1) := by decide +kernel
theorem dX6_debt_31 : decode cX6_debt 31 = .ok (.ireturn, 1) := by decide +kernel
theorem dX6_debt_32 : decode cX6_debt 32 = .ok (.aload_n 0, 1) := by decide +kernel
theorem dX6_debt_33 : decode cX6_debt 33 = .ok (.iload_n 1, 1) := by decide +kernel
theorem dX6_debt_34 : decode cX6_debt 34 = .ok (.invokevirtual 94, 3) := by decide +kernel
theorem dX6_debt_37 : decode cX6_debt 37 = .ok (.ifCond .ne 6, 3) := by decide +kernel
theorem dX6_debt_40 : decode cX6_debt 40 = .ok (.bipush (-2), 2) := by decide +kernel
theorem dX6_debt_42 : decode cX6_debt 42 = .ok (.ireturn, 1) := by decide +kernel
theorem dX6_debt_43 : decode cX6_debt 43 = .ok (.aload_n 0, 1) := by decide +kernel
theorem dX6_debt_44 : decode cX6_debt 44 = .ok (.invokevirtual 111, 3) := by decide +kernel
theorem dX6_debt_47 : decode cX6_debt 47 = .ok (.aload_n 0, 1) := by decide +kernel
theorem dX6_debt_48 : decode cX6_debt 48 = .ok (.getfield 13, 3) := by decide +kernel
theorem dX6_debt_51 : decode cX6_debt 51 = .ok (.bipush 9, 2) := by decide +kernel
theorem dX6_debt_53 : decode cX6_debt 53 = .ok (.iload_n 1, 1) := by decide +kernel
theorem dX6_debt_54 : decode cX6_debt 54 = .ok (.imul, 1) := by decide +kernel
theorem dX6_debt_55 : decode cX6_debt 55 = .ok (.laload, 1) := by decide +kernel
theorem dX6_debt_56 : decode cX6_debt 56 = .ok (.lcmp, 1) := by decide +kernel
theorem dX6_debt_57 : decode cX6_debt 57 = .ok (.ifCond .ge 7, 3) := by decide +kernel
theorem dX6_debt_60 : decode cX6_debt 60 = .ok (.iconst 1, 1) := by decide +kernel
theorem dX6_debt_61 : decode cX6_debt 61 = .ok (.goto 4, 3) := by decide +kernel
theorem dX6_debt_64 : decode cX6_debt 64 = .ok (.iconst 0, 1) := by decide +kernel
theorem dX6_debt_65 : decode cX6_debt 65 = .ok (.istore 4, 2) := by decide +kernel
theorem dX6_debt_67 : decode cX6_debt 67 = .ok (.iload_n 3, 1) := by decide +kernel
theorem dX6_debt_68 : decode cX6_debt 68 = .ok (.iconst 1, 1) := by decide +kernel
theorem dX6_debt_69 : decode cX6_debt 69 = .ok (.if_icmp .ne 14, 3) := by decide +kernel
theorem dX6_debt_72 : decode cX6_debt 72 = .ok (.iload 4, 2) := by decide +kernel
theorem dX6_debt_74 : decode cX6_debt 74 = .ok (.ifCond .eq 7, 3) := by decide +kernel
theorem dX6_debt_77 : decode cX6_debt 77 = .ok (.iconst 1, 1) := by decide +kernel
theorem dX6_debt_78 : decode cX6_debt 78 = .ok (.goto 4, 3) := by decide +kernel
theorem dX6_debt_81 : decode cX6_debt 81 = .ok (.iconst 0, 1) := by decide +kernel
theorem dX6_debt_82 : decode cX6_debt 82 = .ok (.ireturn, 1) := by decide +kernel
theorem dX6_debt_83 : decode cX6_debt 83 = .ok (.iload 4, 2) := by decide +kernel
theorem dX6_debt_85 : decode cX6_debt 85 = .ok (.ifCond .eq 24, 3) := by decide +kernel
theorem dX6_debt_88 : decode cX6_debt 88 = .ok (.iload_n 2, 1) := by decide +kernel
theorem dX6_debt_89 : decode cX6_debt 89 = .ok (.i2l, 1) := by decide +kernel
theorem dX6_debt_90 : decode cX6_debt 90 = .ok (.aload_n 0, 1) := by decide +kernel
theorem dX6_debt_91 : decode cX6_debt 91 = .ok (.invokevirtual 111, 3) := by decide +kernel
theorem dX6_debt_94 : decode cX6_debt 94 = .ok (.lmul, 1) := by decide +kernel
theorem dX6_debt_95 : decode cX6_debt 95 = .ok (.aload_n 0, 1) := by decide +kernel
theorem dX6_debt_96 : decode cX6_debt 96 = .ok (.getfield 13, 3) := by decide +kernel
theorem dX6_debt_99 : decode cX6_debt 99 = .ok (.bipush 9, 2) := by decide +kernel
theorem dX6_debt_101 : decode cX6_debt 101 = .ok (.iload_n 1, 1) := by decide +kernel
theorem dX6_debt_102 : decode cX6_debt 102 = .ok (.imul, 1) := by decide +kernel
theorem dX6_debt_103 : decode cX6_debt 103 = .ok (.laload, 1) := by decide +kernel
theorem dX6_debt_104 : decode cX6_debt 104 = .ok (.ldiv, 1) := by decide +kernel
theorem dX6_debt_105 : decode cX6_debt 105 = .ok (.l2i, 1) := by decide +kernel
theorem dX6_debt_106 : decode cX6_debt 106 = .ok (.goto 4, 3) := by decide +kernel
theorem dX6_debt_109 : decode cX6_debt 109 = .ok (.iload_n 2, 1) := by decide +kernel
theorem dX6_debt_110 : decode cX6_debt 110 = .ok (.ireturn, 1) := by decide +kernel
set_option maxRecDepth 20000 in
theorem ggX6_minting_X6_isRealm : GoodIn wsX6_minting wsX6_isRealm := goodIn_r _ [5, 6, 7, 8, 9, 4, 10, 15, 16, 17, 18, 19, 20, 21, 22, 23, 24, 25] (by decide +kernel) (by decide +kernel)
set_option maxRecDepth 20000 in
theorem gX6_minting_X6_isRealm : GoodIn wsX6_minting (wsV RX6 91 RX6 yX6_isRealm wsX6_isRealm) := goodIn_app (goodIn_of _ (by decide +kernel)) ggX6_minting_X6_isRealm
set_option maxRecDepth 20000 in
theorem ggX6_minting_X6_mints : GoodIn wsX6_minting wsX6_mints := goodIn_r _ [14, 7, 15, 16, 17, 18, 19, 20, 21, 22, 23, 24, 25] (by decide +kernel) (by decide +kernel)
set_option maxRecDepth 20000 in
theorem gX6_minting_X6_mints : GoodIn wsX6_minting (wsV RX6 94 RX6 yX6_mints wsX6_mints) := goodIn_app (goodIn_of _ (by decide +kernel)) ggX6_minting_X6_mints
theorem dX6_minting_0 : decode cX6_minting 0 = .ok (.iconst 0, 1) := by decide +kernel
theorem dX6_minting_1 : decode cX6_minting 1 = .ok (.istore_n 1, 1) := by decide +kernel
theorem dX6_minting_2 : decode cX6_minting 2 = .ok (.iconst 0, 1) := by decide +kernel
theorem dX6_minting_3 : decode cX6_minting 3 = .ok (.istore_n 2, 1) := by decide +kernel
theorem dX6_minting_4 : decode cX6_minting 4 = .ok (.iload_n 2, 1) := by decide +kernel
theorem dX6_minting_5 : decode cX6_minting 5 = .ok (.bipush 8, 2) := by decide +kernel
theorem dX6_minting_7 : decode cX6_minting 7 = .ok (.if_icmp .ge 35, 3) := by decide +kernel
theorem dX6_minting_10 : decode cX6_minting 10 = .ok (.iload_n 1, 1) := by decide +kernel
theorem dX6_minting_11 : decode cX6_minting 11 = .ok (.aload_n 0, 1) := by decide +kernel
theorem dX6_minting_12 : decode cX6_minting 12 = .ok (.iload_n 2, 1) := by decide +kernel
theorem dX6_minting_13 : decode cX6_minting 13 = .ok (.invokevirtual 91, 3) := by decide +kernel
theorem dX6_minting_16 : decode cX6_minting 16 = .ok (.ifCond .eq 17, 3) := by decide +kernel
theorem dX6_minting_19 : decode cX6_minting 19 = .ok (.aload_n 0, 1) := by decide +kernel
theorem dX6_minting_20 : decode cX6_minting 20 = .ok (.iload_n 2, 1) := by decide +kernel
theorem dX6_minting_21 : decode cX6_minting 21 = .ok (.invokevirtual 94, 3) := by decide +kernel
theorem dX6_minting_24 : decode cX6_minting 24 = .ok (.ifCond .eq 9, 3) := by decide +kernel
theorem dX6_minting_27 : decode cX6_minting 27 = .ok (.iconst 1, 1) := by decide +kernel
theorem dX6_minting_28 : decode cX6_minting 28 = .ok (.iload_n 2, 1) := by decide +kernel
theorem dX6_minting_29 : decode cX6_minting 29 = .ok (.ishl, 1) := by decide +kernel
theorem dX6_minting_30 : decode cX6_minting 30 = .ok (.goto 4, 3) := by decide +kernel
theorem dX6_minting_33 : decode cX6_minting 33 = .ok (.iconst 0, 1) := by decide +kernel
theorem dX6_minting_34 : decode cX6_minting 34 = .ok (.ior, 1) := by decide +kernel
theorem dX6_minting_35 : decode cX6_minting 35 = .ok (.istore_n 1, 1) := by decide +kernel
theorem dX6_minting_36 : decode cX6_minting 36 = .ok (.iinc 2 1, 3) := by decide +kernel
theorem dX6_minting_39 : decode cX6_minting 39 = .ok (.goto (-35), 3) := by decide +kernel
theorem dX6_minting_42 : decode cX6_minting 42 = .ok (.iload_n 1, 1) := by decide +kernel
theorem dX6_minting_43 : decode cX6_minting 43 = .ok (.ireturn, 1) := by decide +kernel
set_option maxRecDepth 20000 in
theorem ggX6_isRatio_X6_in : GoodIn wsX6_isRatio wsX6_in := goodIn_r _ [6] (by decide +kernel) (by decide +kernel)
set_option maxRecDepth 20000 in
theorem gX6_isRatio_X6_in : GoodIn wsX6_isRatio (va_wsS RX6 43 yX6_in wsX6_in) := goodIn_app (goodIn_of _ (by decide +kernel)) ggX6_isRatio_X6_in
theorem dX6_isRatio_0 : decode cX6_isRatio 0 = .ok (.iload_n 0, 1) := by decide +kernel
theorem dX6_isRatio_1 : decode cX6_isRatio 1 = .ok (.i2l, 1) := by decide +kernel
theorem dX6_isRatio_2 : decode cX6_isRatio 2 = .ok (.ldc2_w 73, 3) := by decide +kernel
theorem dX6_isRatio_5 : decode cX6_isRatio 5 = .ok (.ldc2_w 151, 3) := by decide +kernel
theorem dX6_isRatio_8 : decode cX6_isRatio 8 = .ok (.invokestatic 43, 3) := by decide +kernel
theorem dX6_isRatio_11 : decode cX6_isRatio 11 = .ok (.ireturn, 1) := by decide +kernel
set_option maxRecDepth 20000 in
theorem ggX6_pactOf_X6_copy : GoodIn wsX6_pactOf wsX6_copy := goodIn_r _ [6, 1, 7, 60, 61, 62, 63, 64, 65, 66, 67, 68, 69, 70] (by decide +kernel) (by decide +kernel)
set_option maxRecDepth 20000 in
theorem gX6_pactOf_X6_copy : GoodIn wsX6_pactOf (wsV RX6 97 RX6 yX6_copy wsX6_copy) := goodIn_app (goodIn_of _ (by decide +kernel)) ggX6_pactOf_X6_copy
set_option maxRecDepth 20000 in
theorem ggX6_pactOf_X6_has : GoodIn wsX6_pactOf wsX6_has := goodIn_r _ [10] (by decide +kernel) (by decide +kernel)
set_option maxRecDepth 20000 in
theorem gX6_pactOf_X6_has : GoodIn wsX6_pactOf (va_wsS RX6 153 yX6_has wsX6_has) := goodIn_app (goodIn_of _ (by decide +kernel)) ggX6_pactOf_X6_has
set_option maxRecDepth 20000 in
theorem ggX6_pactOf_X6_goRest : GoodIn wsX6_pactOf wsX6_goRest := goodIn_r _ [14, 15, 16, 17, 18, 5, 19, 1, 7, 20, 21, 22, 23, 24, 25, 26, 27, 28, 29, 30, 31, 32, 33, 34, 35, 36, 37, 38, 39, 40, 41, 42, 43, 44, 45, 46, 60, 61, 62, 63, 64, 65, 66, 67, 68, 69, 70] (by decide +kernel) (by decide +kernel)
set_option maxRecDepth 20000 in
theorem gX6_pactOf_X6_goRest : GoodIn wsX6_pactOf (wsV RX6 138 RX6 yX6_goRest wsX6_goRest) := goodIn_app (goodIn_of _ (by decide +kernel)) ggX6_pactOf_X6_goRest
set_option maxRecDepth 20000 in
theorem ggX6_pactOf_X6_ratio : GoodIn wsX6_pactOf wsX6_ratio := goodIn_r _ [36, 7, 37, 38, 20, 60, 61, 62, 63, 64, 65, 66, 67, 68, 69, 70] (by decide +kernel) (by decide +kernel)
set_option maxRecDepth 20000 in
theorem gX6_pactOf_X6_ratio : GoodIn wsX6_pactOf (wsV RX6 111 RX6 yX6_ratio wsX6_ratio) := goodIn_app (goodIn_of _ (by decide +kernel)) ggX6_pactOf_X6_ratio
set_option maxRecDepth 20000 in
theorem ggX6_pactOf_X6_held : GoodIn wsX6_pactOf wsX6_held := goodIn_r _ [50, 51, 52, 53, 5, 54, 1, 33, 34, 35, 36, 7, 37, 38, 20, 21, 22, 23, 24, 25, 26, 27, 28, 29, 30, 31, 32, 55, 56, 57, 58, 59, 39, 40, 41, 60, 61, 62, 63, 64, 65, 66, 67, 68, 69, 70] (by decide +kernel) (by decide +kernel)
set_option maxRecDepth 20000 in
theorem gX6_pactOf_X6_held : GoodIn wsX6_pactOf (wsV RX6 146 RX6 yX6_held wsX6_held) := goodIn_app (goodIn_of _ (by decide +kernel)) ggX6_pactOf_X6_held
theorem dX6_pactOf_0 : decode cX6_pactOf 0 = .ok (.aload_n 0, 1) := by decide +kernel
theorem dX6_pactOf_1 : decode cX6_pactOf 1 = .ok (.iconst 0, 1) := by decide +kernel
theorem dX6_pactOf_2 : decode cX6_pactOf 2 = .ok (.iconst 3, 1) := by decide +kernel
theorem dX6_pactOf_3 : decode cX6_pactOf 3 = .ok (.invokevirtual 97, 3) := by decide +kernel
theorem dX6_pactOf_6 : decode cX6_pactOf 6 = .ok (.iconst 0, 1) := by decide +kernel
theorem dX6_pactOf_7 : decode cX6_pactOf 7 = .ok (.istore 4, 2) := by decide +kernel
theorem dX6_pactOf_9 : decode cX6_pactOf 9 = .ok (.iload 4, 2) := by decide +kernel
theorem dX6_pactOf_11 : decode cX6_pactOf 11 = .ok (.bipush 8, 2) := by decide +kernel
theorem dX6_pactOf_13 : decode cX6_pactOf 13 = .ok (.if_icmp .ge 30, 3) := by decide +kernel
theorem dX6_pactOf_16 : decode cX6_pactOf 16 = .ok (.iload_n 1, 1) := by decide +kernel
theorem dX6_pactOf_17 : decode cX6_pactOf 17 = .ok (.iload 4, 2) := by decide +kernel
theorem dX6_pactOf_19 : decode cX6_pactOf 19 = .ok (.invokestatic 153, 3) := by decide +kernel
theorem dX6_pactOf_22 : decode cX6_pactOf 22 = .ok (.ifCond .eq 15, 3) := by decide +kernel
theorem dX6_pactOf_25 : decode cX6_pactOf 25 = .ok (.aload_n 0, 1) := by decide +kernel
theorem dX6_pactOf_26 : decode cX6_pactOf 26 = .ok (.getfield 13, 3) := by decide +kernel
theorem dX6_pactOf_29 : decode cX6_pactOf 29 = .ok (.bipush 9, 2) := by decide +kernel
theorem dX6_pactOf_31 : decode cX6_pactOf 31 = .ok (.iload 4, 2) := by decide +kernel
theorem dX6_pactOf_33 : decode cX6_pactOf 33 = .ok (.imul, 1) := by decide +kernel
theorem dX6_pactOf_34 : decode cX6_pactOf 34 = .ok (.iload_n 2, 1) := by decide +kernel
theorem dX6_pactOf_35 : decode cX6_pactOf 35 = .ok (.i2l, 1) := by decide +kernel
theorem dX6_pactOf_36 : decode cX6_pactOf 36 = .ok (.lastore, 1) := by decide +kernel
theorem dX6_pactOf_37 : decode cX6_pactOf 37 = .ok (.iinc 4 1, 3) := by decide +kernel
theorem dX6_pactOf_40 : decode cX6_pactOf 40 = .ok (.goto (-31), 3) := by decide +kernel
theorem dX6_pactOf_43 : decode cX6_pactOf 43 = .ok (.aload_n 0, 1) := by decide +kernel
theorem dX6_pactOf_44 : decode cX6_pactOf 44 = .ok (.invokevirtual 138, 3) := by decide +kernel
theorem dX6_pactOf_47 : decode cX6_pactOf 47 = .ok (.istore 4, 2) := by decide +kernel
theorem dX6_pactOf_49 : decode cX6_pactOf 49 = .ok (.iload_n 3, 1) := by decide +kernel
theorem dX6_pactOf_50 : decode cX6_pactOf 50 = .ok (.iconst 1, 1) := by decide +kernel
theorem dX6_pactOf_51 : decode cX6_pactOf 51 = .ok (.if_icmp .ne 11, 3) := by decide +kernel
theorem dX6_pactOf_54 : decode cX6_pactOf 54 = .ok (.aload_n 0, 1) := by decide +kernel
theorem dX6_pactOf_55 : decode cX6_pactOf 55 = .ok (.invokevirtual 111, 3) := by decide +kernel
theorem dX6_pactOf_58 : decode cX6_pactOf 58 = .ok (.l2i, 1) := by decide +kernel
theorem dX6_pactOf_59 : decode cX6_pactOf 59 = .ok (.goto 19, 3) := by decide +kernel
theorem dX6_pactOf_62 : decode cX6_pactOf 62 = .ok (.iload_n 1, 1) := by decide +kernel
theorem dX6_pactOf_63 : decode cX6_pactOf 63 = .ok (.aload_n 0, 1) := by decide +kernel
theorem dX6_pactOf_64 : decode cX6_pactOf 64 = .ok (.invokevirtual 146, 3) := by decide +kernel
theorem dX6_pactOf_67 : decode cX6_pactOf 67 = .ok (.iconst (-1), 1) := by decide +kernel
theorem dX6_pactOf_68 : decode cX6_pactOf 68 = .ok (.ixor, 1) := by decide +kernel
theorem dX6_pactOf_69 : decode cX6_pactOf 69 = .ok (.iand, 1) := by decide +kernel
theorem dX6_pactOf_70 : decode cX6_pactOf 70 = .ok (.ifCond .ne 7, 3) := by decide +kernel
theorem dX6_pactOf_73 : decode cX6_pactOf 73 = .ok (.iconst 1, 1) := by decide +kernel
theorem dX6_pactOf_74 : decode cX6_pactOf 74 = .ok (.goto 4, 3) := by decide +kernel
theorem dX6_pactOf_77 : decode cX6_pactOf 77 = .ok (.iconst 0, 1) := by decide +kernel
theorem dX6_pactOf_78 : decode cX6_pactOf 78 = .ok (.istore 5, 2) := by decide +kernel
theorem dX6_pactOf_80 : decode cX6_pactOf 80 = .ok (.aload_n 0, 1) := by decide +kernel
theorem dX6_pactOf_81 : decode cX6_pactOf 81 = .ok (.iconst 3, 1) := by decide +kernel
theorem dX6_pactOf_82 : decode cX6_pactOf 82 = .ok (.iconst 0, 1) := by decide +kernel
theorem dX6_pactOf_83 : decode cX6_pactOf 83 = .ok (.invokevirtual 97, 3) := by decide +kernel
theorem dX6_pactOf_86 : decode cX6_pactOf 86 = .ok (.iload 4, 2) := by decide +kernel
theorem dX6_pactOf_88 : decode cX6_pactOf 88 = .ok (.bipush (-5), 2) := by decide +kernel
theorem dX6_pactOf_90 : decode cX6_pactOf 90 = .ok (.if_icmp .ne 8, 3) := by decide +kernel
theorem dX6_pactOf_93 : decode cX6_pactOf 93 = .ok (.bipush (-5), 2) := by decide +kernel
theorem dX6_pactOf_95 : decode cX6_pactOf 95 = .ok (.goto 5, 3) := by decide +kernel
theorem dX6_pactOf_98 : decode cX6_pactOf 98 = .ok (.iload 5, 2) := by decide +kernel
theorem dX6_pactOf_100 : decode cX6_pactOf 100 = .ok (.ireturn, 1) := by decide +kernel
set_option maxRecDepth 20000 in
theorem ggX6_pact_X6_minting : GoodIn wsX6_pact wsX6_minting := goodIn_r _ [5, 6, 7, 8, 4, 9, 10, 11, 12, 13, 14, 15, 16, 17, 18, 72, 73, 74, 75, 76, 77, 78, 79, 80, 81, 82] (by decide +kernel) (by decide +kernel)
set_option maxRecDepth 20000 in
theorem gX6_pact_X6_minting : GoodIn wsX6_pact (wsV RX6 157 RX6 yX6_minting wsX6_minting) := goodIn_app (goodIn_of _ (by decide +kernel)) ggX6_pact_X6_minting
set_option maxRecDepth 20000 in
theorem ggX6_pact_X6_isRatio : GoodIn wsX6_pact wsX6_isRatio := goodIn_r _ [21, 22, 23, 12, 13, 4, 14] (by decide +kernel) (by decide +kernel)
set_option maxRecDepth 20000 in
theorem gX6_pact_X6_isRatio : GoodIn wsX6_pact (va_wsS RX6 160 yX6_isRatio wsX6_isRatio) := goodIn_app (goodIn_of _ (by decide +kernel)) ggX6_pact_X6_isRatio
set_option maxRecDepth 20000 in
theorem ggX6_pact_X6_in : GoodIn wsX6_pact wsX6_in := goodIn_r _ [14] (by decide +kernel) (by decide +kernel)
set_option maxRecDepth 20000 in
theorem gX6_pact_X6_in : GoodIn wsX6_pact (va_wsS RX6 43 yX6_in wsX6_in) := goodIn_app (goodIn_of _ (by decide +kernel)) ggX6_pact_X6_in
set_option maxRecDepth 20000 in
theorem ggX6_pact_X6_pactOf : GoodIn wsX6_pact wsX6_pactOf := goodIn_r _ [27, 11, 28, 29, 30, 4, 31, 32, 33, 34, 35, 36, 37, 38, 39, 40, 41, 42, 43, 44, 22, 6, 7, 8, 9, 10, 12, 13, 14, 15, 16, 17, 18, 45, 46, 47, 48, 49, 50, 51, 52, 53, 54, 55, 56, 57, 58, 59, 60, 61, 62, 63, 64, 65, 66, 67, 68, 69, 70, 71, 72, 73, 74, 75, 76, 77, 78, 79, 80, 81, 82] (by decide +kernel) (by decide +kernel)
set_option maxRecDepth 20000 in
theorem gX6_pact_X6_pactOf : GoodIn wsX6_pact (wsV RX6 163 RX6 yX6_pactOf wsX6_pactOf) := goodIn_app (goodIn_of _ (by decide +kernel)) ggX6_pact_X6_pactOf
theorem dX6_pact_0 : decode cX6_pact 0 = .ok (.iload_n 1, 1) := by decide +kernel
theorem dX6_pact_1 : decode cX6_pact 1 = .ok (.ifCond .le 31, 3) := by decide +kernel
theorem dX6_pact_4 : decode cX6_pact 4 = .ok (.iload_n 1, 1) := by decide +kernel
theorem dX6_pact_5 : decode cX6_pact 5 = .ok (.aload_n 0, 1) := by decide +kernel
theorem dX6_pact_6 : decode cX6_pact 6 = .ok (.invokevirtual 157, 3) := by decide +kernel
theorem dX6_pact_9 : decode cX6_pact 9 = .ok (.iconst (-1), 1) := by decide +kernel
theorem dX6_pact_10 : decode cX6_pact 10 = .ok (.ixor, 1) := by decide +kernel
theorem dX6_pact_11 : decode cX6_pact 11 = .ok (.iand, 1) := by decide +kernel
theorem dX6_pact_12 : decode cX6_pact 12 = .ok (.ifCond .ne 20, 3) := by decide +kernel
theorem dX6_pact_15 : decode cX6_pact 15 = .ok (.iload_n 2, 1) := by decide +kernel
theorem dX6_pact_16 : decode cX6_pact 16 = .ok (.invokestatic 160, 3) := by decide +kernel
theorem dX6_pact_19 : decode cX6_pact 19 = .ok (.ifCond .eq 13, 3) := by decide +kernel
theorem dX6_pact_22 : decode cX6_pact 22 = .ok (.iload_n 3, 1) := by decide +kernel
theorem dX6_pact_23 : decode cX6_pact 23 = .ok (.i2l, 1) := by decide +kernel
theorem dX6_pact_24 : decode cX6_pact 24 = .ok (.lconst 0, 1) := by decide +kernel
theorem dX6_pact_25 : decode cX6_pact 25 = .ok (.lconst 1, 1) := by decide +kernel
theorem dX6_pact_26 : decode cX6_pact 26 = .ok (.invokestatic 43, 3) := by decide +kernel
theorem dX6_pact_29 : decode cX6_pact 29 = .ok (.ifCond .ne 5, 3) := by decide +kernel
theorem dX6_pact_32 : decode cX6_pact 32 = .ok (.iconst (-1), 1) := by decide +kernel
theorem dX6_pact_33 : decode cX6_pact 33 = .ok (.ireturn, 1) := by decide +kernel
theorem dX6_pact_34 : decode cX6_pact 34 = .ok (.aload_n 0, 1) := by decide +kernel
theorem dX6_pact_35 : decode cX6_pact 35 = .ok (.iload_n 1, 1) := by decide +kernel
theorem dX6_pact_36 : decode cX6_pact 36 = .ok (.iload_n 2, 1) := by decide +kernel
theorem dX6_pact_37 : decode cX6_pact 37 = .ok (.iload_n 3, 1) := by decide +kernel
theorem dX6_pact_38 : decode cX6_pact 38 = .ok (.invokevirtual 163, 3) := by decide +kernel
theorem dX6_pact_41 : decode cX6_pact 41 = .ok (.ireturn, 1) := by decide +kernel
set_option maxRecDepth 20000 in
theorem ggX6_fewest_X6_isRatio : GoodIn wsX6_fewest wsX6_isRatio := goodIn_r _ [4, 5, 6, 7, 8, 3, 9] (by decide +kernel) (by decide +kernel)
set_option maxRecDepth 20000 in
theorem gX6_fewest_X6_isRatio : GoodIn wsX6_fewest (va_wsS RX6 160 yX6_isRatio wsX6_isRatio) := goodIn_app (goodIn_of _ (by decide +kernel)) ggX6_fewest_X6_isRatio
set_option maxRecDepth 20000 in
theorem ggX6_fewest_X6_minting : GoodIn wsX6_fewest wsX6_minting := goodIn_r _ [13, 14, 15, 16, 3, 17, 18, 19, 7, 8, 9, 20, 21, 22, 23, 75, 76, 77, 78, 79, 80, 81, 82, 83, 84, 85] (by decide +kernel) (by decide +kernel)
set_option maxRecDepth 20000 in
theorem gX6_fewest_X6_minting : GoodIn wsX6_fewest (wsV RX6 157 RX6 yX6_minting wsX6_minting) := goodIn_app (goodIn_of _ (by decide +kernel)) ggX6_fewest_X6_minting
set_option maxRecDepth 20000 in
theorem ggX6_fewest_X6_bits : GoodIn wsX6_fewest wsX6_bits := goodIn_r _ [26] (by decide +kernel) (by decide +kernel)
set_option maxRecDepth 20000 in
theorem gX6_fewest_X6_bits : GoodIn wsX6_fewest (va_wsS RX6 167 yX6_bits wsX6_bits) := goodIn_app (goodIn_of _ (by decide +kernel)) ggX6_fewest_X6_bits
set_option maxRecDepth 20000 in
theorem ggX6_fewest_X6_pactOf : GoodIn wsX6_fewest wsX6_pactOf := goodIn_r _ [30, 19, 31, 32, 33, 3, 34, 35, 36, 37, 38, 39, 40, 41, 42, 43, 44, 45, 46, 47, 5, 14, 15, 16, 17, 18, 7, 8, 9, 20, 21, 22, 23, 48, 49, 50, 51, 52, 53, 54, 55, 56, 57, 58, 59, 60, 61, 62, 63, 64, 65, 66, 67, 68, 69, 70, 71, 72, 73, 74, 75, 76, 77, 78, 79, 80, 81, 82, 83, 84, 85] (by decide +kernel) (by decide +kernel)
set_option maxRecDepth 20000 in
theorem gX6_fewest_X6_pactOf : GoodIn wsX6_fewest (wsV RX6 163 RX6 yX6_pactOf wsX6_pactOf) := goodIn_app (goodIn_of _ (by decide +kernel)) ggX6_fewest_X6_pactOf
theorem dX6_fewest_0 : decode cX6_fewest 0 = .ok (.iload_n 1, 1) := by decide +kernel
theorem dX6_fewest_1 : decode cX6_fewest 1 = .ok (.invokestatic 160, 3) := by decide +kernel
theorem dX6_fewest_4 : decode cX6_fewest 4 = .ok (.ifCond .ne 5, 3) := by decide +kernel
theorem dX6_fewest_7 : decode cX6_fewest 7 = .ok (.iconst (-1), 1) := by decide +kernel
theorem dX6_fewest_8 : decode cX6_fewest 8 = .ok (.ireturn, 1) := by decide +kernel
theorem dX6_fewest_9 : decode cX6_fewest 9 = .ok (.aload_n 0, 1) := by decide +kernel
theorem dX6_fewest_10 : decode cX6_fewest 10 = .ok (.invokevirtual 157, 3) := by decide +kernel
theorem dX6_fewest_13 : decode cX6_fewest 13 = .ok (.istore_n 2, 1) := by decide +kernel
theorem dX6_fewest_14 : decode cX6_fewest 14 = .ok (.bipush (-4), 2) := by decide +kernel
theorem dX6_fewest_16 : decode cX6_fewest 16 = .ok (.istore_n 3, 1) := by decide +kernel
theorem dX6_fewest_17 : decode cX6_fewest 17 = .ok (.iconst 1, 1) := by decide +kernel
theorem dX6_fewest_18 : decode cX6_fewest 18 = .ok (.istore 4, 2) := by decide +kernel
theorem dX6_fewest_20 : decode cX6_fewest 20 = .ok (.iload 4, 2) := by decide +kernel
theorem dX6_fewest_22 : decode cX6_fewest 22 = .ok (.sipush 256, 3) := by decide +kernel
theorem dX6_fewest_25 : decode cX6_fewest 25 = .ok (.if_icmp .ge 67, 3) := by decide +kernel
theorem dX6_fewest_28 : decode cX6_fewest 28 = .ok (.iload 4, 2) := by decide +kernel
theorem dX6_fewest_30 : decode cX6_fewest 30 = .ok (.iload_n 2, 1) := by decide +kernel
theorem dX6_fewest_31 : decode cX6_fewest 31 = .ok (.iconst (-1), 1) := by decide +kernel
theorem dX6_fewest_32 : decode cX6_fewest 32 = .ok (.ixor, 1) := by decide +kernel
theorem dX6_fewest_33 : decode cX6_fewest 33 = .ok (.iand, 1) := by decide +kernel
theorem dX6_fewest_34 : decode cX6_fewest 34 = .ok (.ifCond .ne 25, 3) := by decide +kernel
theorem dX6_fewest_37 : decode cX6_fewest 37 = .ok (.iload_n 3, 1) := by decide +kernel
theorem dX6_fewest_38 : decode cX6_fewest 38 = .ok (.bipush (-4), 2) := by decide +kernel
theorem dX6_fewest_40 : decode cX6_fewest 40 = .ok (.if_icmp .eq 15, 3) := by decide +kernel
theorem dX6_fewest_43 : decode cX6_fewest 43 = .ok (.iload 4, 2) := by decide +kernel
theorem dX6_fewest_45 : decode cX6_fewest 45 = .ok (.invokestatic 167, 3) := by decide +kernel
theorem dX6_fewest_48 : decode cX6_fewest 48 = .ok (.iload_n 3, 1) := by decide +kernel
theorem dX6_fewest_49 : decode cX6_fewest 49 = .ok (.invokestatic 167, 3) := by decide +kernel
theorem dX6_fewest_52 : decode cX6_fewest 52 = .ok (.if_icmp .ge 7, 3) := by decide +kernel
theorem dX6_fewest_55 : decode cX6_fewest 55 = .ok (.iconst 1, 1) := by decide +kernel
theorem dX6_fewest_56 : decode cX6_fewest 56 = .ok (.goto 4, 3) := by decide +kernel
theorem dX6_fewest_59 : decode cX6_fewest 59 = .ok (.iconst 0, 1) := by decide +kernel
theorem dX6_fewest_60 : decode cX6_fewest 60 = .ok (.istore 5, 2) := by decide +kernel
theorem dX6_fewest_62 : decode cX6_fewest 62 = .ok (.iload 5, 2) := by decide +kernel
theorem dX6_fewest_64 : decode cX6_fewest 64 = .ok (.ifCond .eq 20, 3) := by decide +kernel
theorem dX6_fewest_67 : decode cX6_fewest 67 = .ok (.aload_n 0, 1) := by decide +kernel
theorem dX6_fewest_68 : decode cX6_fewest 68 = .ok (.iload 4, 2) := by decide +kernel
theorem dX6_fewest_70 : decode cX6_fewest 70 = .ok (.iload_n 1, 1) := by decide +kernel
theorem dX6_fewest_71 : decode cX6_fewest 71 = .ok (.iconst 0, 1) := by decide +kernel
theorem dX6_fewest_72 : decode cX6_fewest 72 = .ok (.invokevirtual 163, 3) := by decide +kernel
theorem dX6_fewest_75 : decode cX6_fewest 75 = .ok (.iconst 1, 1) := by decide +kernel
theorem dX6_fewest_76 : decode cX6_fewest 76 = .ok (.if_icmp .ne 8, 3) := by decide +kernel
theorem dX6_fewest_79 : decode cX6_fewest 79 = .ok (.iload 4, 2) := by decide +kernel
theorem dX6_fewest_81 : decode cX6_fewest 81 = .ok (.goto 4, 3) := by decide +kernel
theorem dX6_fewest_84 : decode cX6_fewest 84 = .ok (.iload_n 3, 1) := by decide +kernel
theorem dX6_fewest_85 : decode cX6_fewest 85 = .ok (.istore_n 3, 1) := by decide +kernel
theorem dX6_fewest_86 : decode cX6_fewest 86 = .ok (.iinc 4 1, 3) := by decide +kernel
theorem dX6_fewest_89 : decode cX6_fewest 89 = .ok (.goto (-69), 3) := by decide +kernel
theorem dX6_fewest_92 : decode cX6_fewest 92 = .ok (.iload_n 3, 1) := by decide +kernel
theorem dX6_fewest_93 : decode cX6_fewest 93 = .ok (.ireturn, 1) := by decide +kernel
set_option maxRecDepth 20000 in
theorem ggX6_boughtOf_X6_copy : GoodIn wsX6_boughtOf wsX6_copy := goodIn_r _ [7, 2, 1, 44, 45, 46, 47, 48, 49, 50, 51, 52, 53, 54] (by decide +kernel) (by decide +kernel)
set_option maxRecDepth 20000 in
theorem gX6_boughtOf_X6_copy : GoodIn wsX6_boughtOf (wsV RX6 97 RX6 yX6_copy wsX6_copy) := goodIn_app (goodIn_of _ (by decide +kernel)) ggX6_boughtOf_X6_copy
set_option maxRecDepth 20000 in
theorem ggX6_boughtOf_X6_goRest : GoodIn wsX6_boughtOf wsX6_goRest := goodIn_r _ [11, 12, 13, 14, 15, 6, 16, 2, 1, 17, 18, 19, 20, 21, 22, 23, 24, 25, 26, 27, 28, 29, 30, 31, 32, 33, 34, 35, 36, 37, 38, 39, 40, 41, 42, 43, 44, 45, 46, 47, 48, 49, 50, 51, 52, 53, 54] (by decide +kernel) (by decide +kernel)
set_option maxRecDepth 20000 in
theorem gX6_boughtOf_X6_goRest : GoodIn wsX6_boughtOf (wsV RX6 138 RX6 yX6_goRest wsX6_goRest) := goodIn_app (goodIn_of _ (by decide +kernel)) ggX6_boughtOf_X6_goRest
set_option maxRecDepth 20000 in
theorem ggX6_boughtOf_X6_ratio : GoodIn wsX6_boughtOf wsX6_ratio := goodIn_r _ [33, 1, 34, 35, 17, 44, 45, 46, 47, 48, 49, 50, 51, 52, 53, 54] (by decide +kernel) (by decide +kernel)
set_option maxRecDepth 20000 in
theorem gX6_boughtOf_X6_ratio : GoodIn wsX6_boughtOf (wsV RX6 111 RX6 yX6_ratio wsX6_ratio) := goodIn_app (goodIn_of _ (by decide +kernel)) ggX6_boughtOf_X6_ratio
theorem dX6_boughtOf_0 : decode cX6_boughtOf 0 = .ok (.aload_n 0, 1) := by decide +kernel
theorem dX6_boughtOf_1 : decode cX6_boughtOf 1 = .ok (.iconst 0, 1) := by decide +kernel
theorem dX6_boughtOf_2 : decode cX6_boughtOf 2 = .ok (.iconst 3, 1) := by decide +kernel
theorem dX6_boughtOf_3 : decode cX6_boughtOf 3 = .ok (.invokevirtual 97, 3) := by decide +kernel
theorem dX6_boughtOf_6 : decode cX6_boughtOf 6 = .ok (.aload_n 0, 1) := by decide +kernel
theorem dX6_boughtOf_7 : decode cX6_boughtOf 7 = .ok (.getfield 17, 3) := by decide +kernel
theorem dX6_boughtOf_10 : decode cX6_boughtOf 10 = .ok (.iconst 0, 1) := by decide +kernel
theorem dX6_boughtOf_11 : decode cX6_boughtOf 11 = .ok (.dup2, 1) := by decide +kernel
theorem dX6_boughtOf_12 : decode cX6_boughtOf 12 = .ok (.laload, 1) := by decide +kernel
theorem dX6_boughtOf_13 : decode cX6_boughtOf 13 = .ok (.lload_n 1, 1) := by decide +kernel
theorem dX6_boughtOf_14 : decode cX6_boughtOf 14 = .ok (.lsub, 1) := by decide +kernel
theorem dX6_boughtOf_15 : decode cX6_boughtOf 15 = .ok (.lastore, 1) := by decide +kernel
theorem dX6_boughtOf_16 : decode cX6_boughtOf 16 = .ok (.aload_n 0, 1) := by decide +kernel
theorem dX6_boughtOf_17 : decode cX6_boughtOf 17 = .ok (.invokevirtual 138, 3) := by decide +kernel
theorem dX6_boughtOf_20 : decode cX6_boughtOf 20 = .ok (.istore 4, 2) := by decide +kernel
theorem dX6_boughtOf_22 : decode cX6_boughtOf 22 = .ok (.iload_n 3, 1) := by decide +kernel
theorem dX6_boughtOf_23 : decode cX6_boughtOf 23 = .ok (.ifCond .ge 11, 3) := by decide +kernel
theorem dX6_boughtOf_26 : decode cX6_boughtOf 26 = .ok (.aload_n 0, 1) := by decide +kernel
theorem dX6_boughtOf_27 : decode cX6_boughtOf 27 = .ok (.invokevirtual 111, 3) := by decide +kernel
theorem dX6_boughtOf_30 : decode cX6_boughtOf 30 = .ok (.l2i, 1) := by decide +kernel
theorem dX6_boughtOf_31 : decode cX6_boughtOf 31 = .ok (.goto 15, 3) := by decide +kernel
theorem dX6_boughtOf_34 : decode cX6_boughtOf 34 = .ok (.aload_n 0, 1) := by decide +kernel
theorem dX6_boughtOf_35 : decode cX6_boughtOf 35 = .ok (.getfield 13, 3) := by decide +kernel
theorem dX6_boughtOf_38 : decode cX6_boughtOf 38 = .ok (.bipush 9, 2) := by decide +kernel
theorem dX6_boughtOf_40 : decode cX6_boughtOf 40 = .ok (.iload_n 3, 1) := by decide +kernel
theorem dX6_boughtOf_41 : decode cX6_boughtOf 41 = .ok (.imul, 1) := by decide +kernel
theorem dX6_boughtOf_42 : decode cX6_boughtOf 42 = .ok (.iconst 3, 1) := by decide +kernel
theorem dX6_boughtOf_43 : decode cX6_boughtOf 43 = .ok (.iadd, 1) := by decide +kernel
theorem dX6_boughtOf_44 : decode cX6_boughtOf 44 = .ok (.laload, 1) := by decide +kernel
theorem dX6_boughtOf_45 : decode cX6_boughtOf 45 = .ok (.l2i, 1) := by decide +kernel
theorem dX6_boughtOf_46 : decode cX6_boughtOf 46 = .ok (.istore 5, 2) := by decide +kernel
theorem dX6_boughtOf_48 : decode cX6_boughtOf 48 = .ok (.aload_n 0, 1) := by decide +kernel
theorem dX6_boughtOf_49 : decode cX6_boughtOf 49 = .ok (.iconst 3, 1) := by decide +kernel
theorem dX6_boughtOf_50 : decode cX6_boughtOf 50 = .ok (.iconst 0, 1) := by decide +kernel
theorem dX6_boughtOf_51 : decode cX6_boughtOf 51 = .ok (.invokevirtual 97, 3) := by decide +kernel
theorem dX6_boughtOf_54 : decode cX6_boughtOf 54 = .ok (.iload 4, 2) := by decide +kernel
theorem dX6_boughtOf_56 : decode cX6_boughtOf 56 = .ok (.bipush (-5), 2) := by decide +kernel
theorem dX6_boughtOf_58 : decode cX6_boughtOf 58 = .ok (.if_icmp .ne 8, 3) := by decide +kernel
theorem dX6_boughtOf_61 : decode cX6_boughtOf 61 = .ok (.bipush (-5), 2) := by decide +kernel
theorem dX6_boughtOf_63 : decode cX6_boughtOf 63 = .ok (.goto 5, 3) := by decide +kernel
theorem dX6_boughtOf_66 : decode cX6_boughtOf 66 = .ok (.iload 5, 2) := by decide +kernel
theorem dX6_boughtOf_68 : decode cX6_boughtOf 68 = .ok (.ireturn, 1) := by decide +kernel
set_option maxRecDepth 20000 in
theorem ggX6_bought_X6_in : GoodIn wsX6_bought wsX6_in := goodIn_r _ [5] (by decide +kernel) (by decide +kernel)
set_option maxRecDepth 20000 in
theorem gX6_bought_X6_in : GoodIn wsX6_bought (va_wsS RX6 43 yX6_in wsX6_in) := goodIn_app (goodIn_of _ (by decide +kernel)) ggX6_bought_X6_in
set_option maxRecDepth 20000 in
theorem ggX6_bought_X6_isRealm : GoodIn wsX6_bought wsX6_isRealm := goodIn_r _ [9, 10, 11, 2, 3, 4, 5, 48, 49, 50, 51, 52, 53, 54, 55, 56, 57, 58] (by decide +kernel) (by decide +kernel)
set_option maxRecDepth 20000 in
theorem gX6_bought_X6_isRealm : GoodIn wsX6_bought (wsV RX6 91 RX6 yX6_isRealm wsX6_isRealm) := goodIn_app (goodIn_of _ (by decide +kernel)) ggX6_bought_X6_isRealm
set_option maxRecDepth 20000 in
theorem ggX6_bought_X6_boughtOf : GoodIn wsX6_bought wsX6_boughtOf := goodIn_r _ [15, 1, 11, 16, 17, 18, 4, 19, 20, 21, 22, 23, 24, 25, 26, 27, 28, 29, 6, 7, 8, 9, 10, 2, 3, 5, 30, 31, 32, 33, 34, 35, 36, 37, 38, 39, 40, 41, 42, 43, 44, 45, 46, 47, 48, 49, 50, 51, 52, 53, 54, 55, 56, 57, 58] (by decide +kernel) (by decide +kernel)
set_option maxRecDepth 20000 in
theorem gX6_bought_X6_boughtOf : GoodIn wsX6_bought (wsV RX6 170 RX6 yX6_boughtOf wsX6_boughtOf) := goodIn_app (goodIn_of _ (by decide +kernel)) ggX6_bought_X6_boughtOf
theorem dX6_bought_0 : decode cX6_bought 0 = .ok (.iload_n 1, 1) := by decide +kernel
theorem dX6_bought_1 : decode cX6_bought 1 = .ok (.i2l, 1) := by decide +kernel
theorem dX6_bought_2 : decode cX6_bought 2 = .ok (.lconst 0, 1) := by decide +kernel
theorem dX6_bought_3 : decode cX6_bought 3 = .ok (.aload_n 0, 1) := by decide +kernel
theorem dX6_bought_4 : decode cX6_bought 4 = .ok (.getfield 17, 3) := by decide +kernel
theorem dX6_bought_7 : decode cX6_bought 7 = .ok (.iconst 0, 1) := by decide +kernel
theorem dX6_bought_8 : decode cX6_bought 8 = .ok (.laload, 1) := by decide +kernel
theorem dX6_bought_9 : decode cX6_bought 9 = .ok (.invokestatic 43, 3) := by decide +kernel
theorem dX6_bought_12 : decode cX6_bought 12 = .ok (.ifCond .eq 16, 3) := by decide +kernel
theorem dX6_bought_15 : decode cX6_bought 15 = .ok (.iload_n 2, 1) := by decide +kernel
theorem dX6_bought_16 : decode cX6_bought 16 = .ok (.iconst (-1), 1) := by decide +kernel
theorem dX6_bought_17 : decode cX6_bought 17 = .ok (.if_icmp .eq 13, 3) := by decide +kernel
theorem dX6_bought_20 : decode cX6_bought 20 = .ok (.aload_n 0, 1) := by decide +kernel
theorem dX6_bought_21 : decode cX6_bought 21 = .ok (.iload_n 2, 1) := by decide +kernel
theorem dX6_bought_22 : decode cX6_bought 22 = .ok (.invokevirtual 91, 3) := by decide +kernel
theorem dX6_bought_25 : decode cX6_bought 25 = .ok (.ifCond .ne 5, 3) := by decide +kernel
theorem dX6_bought_28 : decode cX6_bought 28 = .ok (.iconst (-1), 1) := by decide +kernel
theorem dX6_bought_29 : decode cX6_bought 29 = .ok (.ireturn, 1) := by decide +kernel
theorem dX6_bought_30 : decode cX6_bought 30 = .ok (.aload_n 0, 1) := by decide +kernel
theorem dX6_bought_31 : decode cX6_bought 31 = .ok (.iload_n 1, 1) := by decide +kernel
theorem dX6_bought_32 : decode cX6_bought 32 = .ok (.i2l, 1) := by decide +kernel
theorem dX6_bought_33 : decode cX6_bought 33 = .ok (.iload_n 2, 1) := by decide +kernel
theorem dX6_bought_34 : decode cX6_bought 34 = .ok (.invokevirtual 170, 3) := by decide +kernel
theorem dX6_bought_37 : decode cX6_bought 37 = .ok (.ireturn, 1) := by decide +kernel
set_option maxRecDepth 20000 in
theorem ggX6_corner_X6_isRealm : GoodIn wsX6_corner wsX6_isRealm := goodIn_r _ [7, 8, 9, 10, 11, 6, 12, 49, 50, 51, 52, 53, 54, 55, 56, 57, 58, 59] (by decide +kernel) (by decide +kernel)
set_option maxRecDepth 20000 in
theorem gX6_corner_X6_isRealm : GoodIn wsX6_corner (wsV RX6 91 RX6 yX6_isRealm wsX6_isRealm) := goodIn_app (goodIn_of _ (by decide +kernel)) ggX6_corner_X6_isRealm
set_option maxRecDepth 20000 in
theorem ggX6_corner_X6_mints : GoodIn wsX6_corner wsX6_mints := goodIn_r _ [16, 9, 49, 50, 51, 52, 53, 54, 55, 56, 57, 58, 59] (by decide +kernel) (by decide +kernel)
set_option maxRecDepth 20000 in
theorem gX6_corner_X6_mints : GoodIn wsX6_corner (wsV RX6 94 RX6 yX6_mints wsX6_mints) := goodIn_app (goodIn_of _ (by decide +kernel)) ggX6_corner_X6_mints
set_option maxRecDepth 20000 in
theorem ggX6_corner_X6_boughtOf : GoodIn wsX6_corner wsX6_boughtOf := goodIn_r _ [20, 1, 9, 21, 22, 23, 6, 24, 25, 26, 27, 28, 29, 30, 31, 32, 33, 34, 3, 4, 5, 7, 8, 10, 11, 12, 13, 14, 15, 16, 35, 36, 37, 38, 39, 40, 41, 42, 43, 44, 45, 46, 47, 48, 49, 50, 51, 52, 53, 54, 55, 56, 57, 58, 59] (by decide +kernel) (by decide +kernel)
set_option maxRecDepth 20000 in
theorem gX6_corner_X6_boughtOf : GoodIn wsX6_corner (wsV RX6 170 RX6 yX6_boughtOf wsX6_boughtOf) := goodIn_app (goodIn_of _ (by decide +kernel)) ggX6_corner_X6_boughtOf
theorem dX6_corner_0 : decode cX6_corner 0 = .ok (.aload_n 0, 1) := by decide +kernel
theorem dX6_corner_1 : decode cX6_corner 1 = .ok (.iload_n 1, 1) := by decide +kernel
theorem dX6_corner_2 : decode cX6_corner 2 = .ok (.invokevirtual 91, 3) := by decide +kernel
theorem dX6_corner_5 : decode cX6_corner 5 = .ok (.ifCond .ne 5, 3) := by decide +kernel
theorem dX6_corner_8 : decode cX6_corner 8 = .ok (.iconst (-1), 1) := by decide +kernel
theorem dX6_corner_9 : decode cX6_corner 9 = .ok (.ireturn, 1) := by decide +kernel
theorem dX6_corner_10 : decode cX6_corner 10 = .ok (.aload_n 0, 1) := by decide +kernel
theorem dX6_corner_11 : decode cX6_corner 11 = .ok (.iload_n 1, 1) := by decide +kernel
theorem dX6_corner_12 : decode cX6_corner 12 = .ok (.invokevirtual 94, 3) := by decide +kernel
theorem dX6_corner_15 : decode cX6_corner 15 = .ok (.ifCond .ne 6, 3) := by decide +kernel
theorem dX6_corner_18 : decode cX6_corner 18 = .ok (.bipush (-2), 2) := by decide +kernel
theorem dX6_corner_20 : decode cX6_corner 20 = .ok (.ireturn, 1) := by decide +kernel
theorem dX6_corner_21 : decode cX6_corner 21 = .ok (.aload_n 0, 1) := by decide +kernel
theorem dX6_corner_22 : decode cX6_corner 22 = .ok (.getfield 17, 3) := by decide +kernel
theorem dX6_corner_25 : decode cX6_corner 25 = .ok (.iconst 0, 1) := by decide +kernel
theorem dX6_corner_26 : decode cX6_corner 26 = .ok (.laload, 1) := by decide +kernel
theorem dX6_corner_27 : decode cX6_corner 27 = .ok (.lstore_n 2, 1) := by decide +kernel
theorem dX6_corner_28 : decode cX6_corner 28 = .ok (.lconst 0, 1) := by decide +kernel
theorem dX6_corner_29 : decode cX6_corner 29 = .ok (.lstore 4, 2) := by decide +kernel
theorem dX6_corner_31 : decode cX6_corner 31 = .ok (.lload 4, 2) := by decide +kernel
theorem dX6_corner_33 : decode cX6_corner 33 = .ok (.lload_n 2, 1) := by decide +kernel
theorem dX6_corner_34 : decode cX6_corner 34 = .ok (.lcmp, 1) := by decide +kernel
theorem dX6_corner_35 : decode cX6_corner 35 = .ok (.ifCond .ge 39, 3) := by decide +kernel
theorem dX6_corner_38 : decode cX6_corner 38 = .ok (.aload_n 0, 1) := by decide +kernel
theorem dX6_corner_39 : decode cX6_corner 39 = .ok (.lload 4, 2) := by decide +kernel
theorem dX6_corner_41 : decode cX6_corner 41 = .ok (.iload_n 1, 1) := by decide +kernel
theorem dX6_corner_42 : decode cX6_corner 42 = .ok (.invokevirtual 170, 3) := by decide +kernel
theorem dX6_corner_45 : decode cX6_corner 45 = .ok (.ifCond .ne 7, 3) := by decide +kernel
theorem dX6_corner_48 : decode cX6_corner 48 = .ok (.lload 4, 2) := by decide +kernel
theorem dX6_corner_50 : decode cX6_corner 50 = .ok (.l2i, 1) := by decide +kernel
theorem dX6_corner_51 : decode cX6_corner 51 = .ok (.ireturn, 1) := by decide +kernel
theorem dX6_corner_52 : decode cX6_corner 52 = .ok (.lload 4, 2) := by decide +kernel
theorem dX6_corner_54 : decode cX6_corner 54 = .ok (.lconst 0, 1) := by decide +kernel
theorem dX6_corner_55 : decode cX6_corner 55 = .ok (.lcmp, 1) := by decide +kernel
theorem dX6_corner_56 : decode cX6_corner 56 = .ok (.ifCond .ne 7, 3) := by decide +kernel
theorem dX6_corner_59 : decode cX6_corner 59 = .ok (.lconst 1, 1) := by decide +kernel
theorem dX6_corner_60 : decode cX6_corner 60 = .ok (.goto 9, 3) := by decide +kernel
theorem dX6_corner_63 : decode cX6_corner 63 = .ok (.ldc2_w 174, 3) := by decide +kernel
theorem dX6_corner_66 : decode cX6_corner 66 = .ok (.lload 4, 2) := by decide +kernel
theorem dX6_corner_68 : decode cX6_corner 68 = .ok (.lmul, 1) := by decide +kernel
theorem dX6_corner_69 : decode cX6_corner 69 = .ok (.lstore 4, 2) := by decide +kernel
theorem dX6_corner_71 : decode cX6_corner 71 = .ok (.goto (-40), 3) := by decide +kernel
theorem dX6_corner_74 : decode cX6_corner 74 = .ok (.aload_n 0, 1) := by decide +kernel
theorem dX6_corner_75 : decode cX6_corner 75 = .ok (.lload_n 2, 1) := by decide +kernel
theorem dX6_corner_76 : decode cX6_corner 76 = .ok (.iload_n 1, 1) := by decide +kernel
theorem dX6_corner_77 : decode cX6_corner 77 = .ok (.invokevirtual 170, 3) := by decide +kernel
theorem dX6_corner_80 : decode cX6_corner 80 = .ok (.ifCond .ne 8, 3) := by decide +kernel
theorem dX6_corner_83 : decode cX6_corner 83 = .ok (.lload_n 2, 1) := by decide +kernel
theorem dX6_corner_84 : decode cX6_corner 84 = .ok (.l2i, 1) := by decide +kernel
theorem dX6_corner_85 : decode cX6_corner 85 = .ok (.goto 5, 3) := by decide +kernel
theorem dX6_corner_88 : decode cX6_corner 88 = .ok (.bipush (-4), 2) := by decide +kernel
theorem dX6_corner_90 : decode cX6_corner 90 = .ok (.ireturn, 1) := by decide +kernel
set_option maxRecDepth 20000 in
theorem ggX6_move_X6_isRealm : GoodIn wsX6_move wsX6_isRealm := goodIn_r _ [6, 7, 1, 8, 9, 5, 10, 16, 17, 18, 19, 20, 21, 22, 23, 24, 25, 26] (by decide +kernel) (by decide +kernel)
set_option maxRecDepth 20000 in
theorem gX6_move_X6_isRealm : GoodIn wsX6_move (wsV RX6 91 RX6 yX6_isRealm wsX6_isRealm) := goodIn_app (goodIn_of _ (by decide +kernel)) ggX6_move_X6_isRealm
set_option maxRecDepth 20000 in
theorem ggX6_move_X6_isRatio : GoodIn wsX6_move wsX6_isRatio := goodIn_r _ [13, 14, 15, 8, 9, 5, 10] (by decide +kernel) (by decide +kernel)
set_option maxRecDepth 20000 in
theorem gX6_move_X6_isRatio : GoodIn wsX6_move (va_wsS RX6 160 yX6_isRatio wsX6_isRatio) := goodIn_app (goodIn_of _ (by decide +kernel)) ggX6_move_X6_isRatio
theorem dX6_move_0 : decode cX6_move 0 = .ok (.aload_n 0, 1) := by decide +kernel
theorem dX6_move_1 : decode cX6_move 1 = .ok (.iload_n 1, 1) := by decide +kernel
theorem dX6_move_2 : decode cX6_move 2 = .ok (.invokevirtual 91, 3) := by decide +kernel
theorem dX6_move_5 : decode cX6_move 5 = .ok (.ifCond .eq 10, 3) := by decide +kernel
theorem dX6_move_8 : decode cX6_move 8 = .ok (.iload_n 2, 1) := by decide +kernel
theorem dX6_move_9 : decode cX6_move 9 = .ok (.invokestatic 160, 3) := by decide +kernel
theorem dX6_move_12 : decode cX6_move 12 = .ok (.ifCond .ne 5, 3) := by decide +kernel
theorem dX6_move_15 : decode cX6_move 15 = .ok (.iconst (-1), 1) := by decide +kernel
theorem dX6_move_16 : decode cX6_move 16 = .ok (.ireturn, 1) := by decide +kernel
theorem dX6_move_17 : decode cX6_move 17 = .ok (.aload_n 0, 1) := by decide +kernel
theorem dX6_move_18 : decode cX6_move 18 = .ok (.getfield 13, 3) := by decide +kernel
theorem dX6_move_21 : decode cX6_move 21 = .ok (.bipush 9, 2) := by decide +kernel
theorem dX6_move_23 : decode cX6_move 23 = .ok (.iload_n 1, 1) := by decide +kernel
theorem dX6_move_24 : decode cX6_move 24 = .ok (.imul, 1) := by decide +kernel
theorem dX6_move_25 : decode cX6_move 25 = .ok (.laload, 1) := by decide +kernel
theorem dX6_move_26 : decode cX6_move 26 = .ok (.l2i, 1) := by decide +kernel
theorem dX6_move_27 : decode cX6_move 27 = .ok (.istore_n 3, 1) := by decide +kernel
theorem dX6_move_28 : decode cX6_move 28 = .ok (.aload_n 0, 1) := by decide +kernel
theorem dX6_move_29 : decode cX6_move 29 = .ok (.getfield 13, 3) := by decide +kernel
theorem dX6_move_32 : decode cX6_move 32 = .ok (.bipush 9, 2) := by decide +kernel
theorem dX6_move_34 : decode cX6_move 34 = .ok (.iload_n 1, 1) := by decide +kernel
theorem dX6_move_35 : decode cX6_move 35 = .ok (.imul, 1) := by decide +kernel
theorem dX6_move_36 : decode cX6_move 36 = .ok (.iload_n 2, 1) := by decide +kernel
theorem dX6_move_37 : decode cX6_move 37 = .ok (.i2l, 1) := by decide +kernel
theorem dX6_move_38 : decode cX6_move 38 = .ok (.lastore, 1) := by decide +kernel
theorem dX6_move_39 : decode cX6_move 39 = .ok (.iload_n 3, 1) := by decide +kernel
theorem dX6_move_40 : decode cX6_move 40 = .ok (.ireturn, 1) := by decide +kernel
set_option maxRecDepth 20000 in
theorem ggX6_melted_X6_isRealm : GoodIn wsX6_melted wsX6_isRealm := goodIn_r _ [6, 7, 1, 8, 9, 5, 10, 19, 20, 21, 22, 23, 24, 25, 26, 27, 28, 29] (by decide +kernel) (by decide +kernel)
set_option maxRecDepth 20000 in
theorem gX6_melted_X6_isRealm : GoodIn wsX6_melted (wsV RX6 91 RX6 yX6_isRealm wsX6_isRealm) := goodIn_app (goodIn_of _ (by decide +kernel)) ggX6_melted_X6_isRealm
set_option maxRecDepth 20000 in
theorem ggX6_melted_X6_ratio : GoodIn wsX6_melted wsX6_ratio := goodIn_r _ [14, 15, 16, 17, 18, 19, 20, 21, 22, 23, 24, 25, 26, 27, 28, 29] (by decide +kernel) (by decide +kernel)
set_option maxRecDepth 20000 in
theorem gX6_melted_X6_ratio : GoodIn wsX6_melted (wsV RX6 111 RX6 yX6_ratio wsX6_ratio) := goodIn_app (goodIn_of _ (by decide +kernel)) ggX6_melted_X6_ratio
theorem dX6_melted_0 : decode cX6_melted 0 = .ok (.iconst 0, 1) := by decide +kernel
theorem dX6_melted_1 : decode cX6_melted 1 = .ok (.istore_n 1, 1) := by decide +kernel
theorem dX6_melted_2 : decode cX6_melted 2 = .ok (.iconst 0, 1) := by decide +kernel
theorem dX6_melted_3 : decode cX6_melted 3 = .ok (.istore_n 2, 1) := by decide +kernel
theorem dX6_melted_4 : decode cX6_melted 4 = .ok (.iload_n 2, 1) := by decide +kernel
theorem dX6_melted_5 : decode cX6_melted 5 = .ok (.bipush 8, 2) := by decide +kernel
theorem dX6_melted_7 : decode cX6_melted 7 = .ok (.if_icmp .ge 44, 3) := by decide +kernel
theorem dX6_melted_10 : decode cX6_melted 10 = .ok (.iload_n 1, 1) := by decide +kernel
theorem dX6_melted_11 : decode cX6_melted 11 = .ok (.aload_n 0, 1) := by decide +kernel
theorem dX6_melted_12 : decode cX6_melted 12 = .ok (.iload_n 2, 1) := by decide +kernel
theorem dX6_melted_13 : decode cX6_melted 13 = .ok (.invokevirtual 91, 3) := by decide +kernel
theorem dX6_melted_16 : decode cX6_melted 16 = .ok (.ifCond .eq 26, 3) := by decide +kernel
theorem dX6_melted_19 : decode cX6_melted 19 = .ok (.aload_n 0, 1) := by decide +kernel
theorem dX6_melted_20 : decode cX6_melted 20 = .ok (.invokevirtual 111, 3) := by decide +kernel
theorem dX6_melted_23 : decode cX6_melted 23 = .ok (.aload_n 0, 1) := by decide +kernel
theorem dX6_melted_24 : decode cX6_melted 24 = .ok (.getfield 13, 3) := by decide +kernel
theorem dX6_melted_27 : decode cX6_melted 27 = .ok (.bipush 9, 2) := by decide +kernel
theorem dX6_melted_29 : decode cX6_melted 29 = .ok (.iload_n 2, 1) := by decide +kernel
theorem dX6_melted_30 : decode cX6_melted 30 = .ok (.imul, 1) := by decide +kernel
theorem dX6_melted_31 : decode cX6_melted 31 = .ok (.laload, 1) := by decide +kernel
theorem dX6_melted_32 : decode cX6_melted 32 = .ok (.lcmp, 1) := by decide +kernel
theorem dX6_melted_33 : decode cX6_melted 33 = .ok (.ifCond .le 9, 3) := by decide +kernel
theorem dX6_melted_36 : decode cX6_melted 36 = .ok (.iconst 1, 1) := by decide +kernel
theorem dX6_melted_37 : decode cX6_melted 37 = .ok (.iload_n 2, 1) := by decide +kernel
theorem dX6_melted_38 : decode cX6_melted 38 = .ok (.ishl, 1) := by decide +kernel
theorem dX6_melted_39 : decode cX6_melted 39 = .ok (.goto 4, 3) := by decide +kernel
theorem dX6_melted_42 : decode cX6_melted 42 = .ok (.iconst 0, 1) := by decide +kernel
theorem dX6_melted_43 : decode cX6_melted 43 = .ok (.ior, 1) := by decide +kernel
theorem dX6_melted_44 : decode cX6_melted 44 = .ok (.istore_n 1, 1) := by decide +kernel
theorem dX6_melted_45 : decode cX6_melted 45 = .ok (.iinc 2 1, 3) := by decide +kernel
theorem dX6_melted_48 : decode cX6_melted 48 = .ok (.goto (-44), 3) := by decide +kernel
theorem dX6_melted_51 : decode cX6_melted 51 = .ok (.iload_n 1, 1) := by decide +kernel
theorem dX6_melted_52 : decode cX6_melted 52 = .ok (.ireturn, 1) := by decide +kernel
set_option maxRecDepth 20000 in
theorem ggX6_keep_X6_copy : GoodIn wsX6_keep wsX6_copy := goodIn_r _ [6, 7, 8, 9, 10, 11, 12, 13, 14, 15, 16, 17, 18, 19] (by decide +kernel) (by decide +kernel)
set_option maxRecDepth 20000 in
theorem gX6_keep_X6_copy : GoodIn wsX6_keep (wsV RX6 97 RX6 yX6_copy wsX6_copy) := goodIn_app (goodIn_of _ (by decide +kernel)) ggX6_keep_X6_copy
theorem dX6_keep_0 : decode cX6_keep 0 = .ok (.aload_n 0, 1) := by decide +kernel
theorem dX6_keep_1 : decode cX6_keep 1 = .ok (.getfield 100, 3) := by decide +kernel
theorem dX6_keep_4 : decode cX6_keep 4 = .ok (.iconst 2, 1) := by decide +kernel
theorem dX6_keep_5 : decode cX6_keep 5 = .ok (.if_icmp .ne 6, 3) := by decide +kernel
theorem dX6_keep_8 : decode cX6_keep 8 = .ok (.bipush (-3), 2) := by decide +kernel
theorem dX6_keep_10 : decode cX6_keep 10 = .ok (.ireturn, 1) := by decide +kernel
theorem dX6_keep_11 : decode cX6_keep 11 = .ok (.aload_n 0, 1) := by decide +kernel
theorem dX6_keep_12 : decode cX6_keep 12 = .ok (.iconst 0, 1) := by decide +kernel
theorem dX6_keep_13 : decode cX6_keep 13 = .ok (.iconst 1, 1) := by decide +kernel
theorem dX6_keep_14 : decode cX6_keep 14 = .ok (.aload_n 0, 1) := by decide +kernel
theorem dX6_keep_15 : decode cX6_keep 15 = .ok (.getfield 100, 3) := by decide +kernel
theorem dX6_keep_18 : decode cX6_keep 18 = .ok (.iadd, 1) := by decide +kernel
theorem dX6_keep_19 : decode cX6_keep 19 = .ok (.invokevirtual 97, 3) := by decide +kernel
theorem dX6_keep_22 : decode cX6_keep 22 = .ok (.aload_n 0, 1) := by decide +kernel
theorem dX6_keep_23 : decode cX6_keep 23 = .ok (.dup, 1) := by decide +kernel
theorem dX6_keep_24 : decode cX6_keep 24 = .ok (.getfield 100, 3) := by decide +kernel
theorem dX6_keep_27 : decode cX6_keep 27 = .ok (.iconst 1, 1) := by decide +kernel
theorem dX6_keep_28 : decode cX6_keep 28 = .ok (.iadd, 1) := by decide +kernel
theorem dX6_keep_29 : decode cX6_keep 29 = .ok (.putfield 100, 3) := by decide +kernel
theorem dX6_keep_32 : decode cX6_keep 32 = .ok (.aload_n 0, 1) := by decide +kernel
theorem dX6_keep_33 : decode cX6_keep 33 = .ok (.getfield 100, 3) := by decide +kernel
theorem dX6_keep_36 : decode cX6_keep 36 = .ok (.ireturn, 1) := by decide +kernel
set_option maxRecDepth 20000 in
theorem ggX6_back_X6_copy : GoodIn wsX6_back wsX6_copy := goodIn_r _ [6, 7, 8, 9, 10, 11, 12, 13, 14, 15, 16, 17, 18, 19] (by decide +kernel) (by decide +kernel)
set_option maxRecDepth 20000 in
theorem gX6_back_X6_copy : GoodIn wsX6_back (wsV RX6 97 RX6 yX6_copy wsX6_copy) := goodIn_app (goodIn_of _ (by decide +kernel)) ggX6_back_X6_copy
theorem dX6_back_0 : decode cX6_back 0 = .ok (.aload_n 0, 1) := by decide +kernel
theorem dX6_back_1 : decode cX6_back 1 = .ok (.getfield 100, 3) := by decide +kernel
theorem dX6_back_4 : decode cX6_back 4 = .ok (.ifCond .ne 6, 3) := by decide +kernel
theorem dX6_back_7 : decode cX6_back 7 = .ok (.bipush (-2), 2) := by decide +kernel
theorem dX6_back_9 : decode cX6_back 9 = .ok (.ireturn, 1) := by decide +kernel
theorem dX6_back_10 : decode cX6_back 10 = .ok (.aload_n 0, 1) := by decide +kernel
theorem dX6_back_11 : decode cX6_back 11 = .ok (.dup, 1) := by decide +kernel
theorem dX6_back_12 : decode cX6_back 12 = .ok (.getfield 100, 3) := by decide +kernel
theorem dX6_back_15 : decode cX6_back 15 = .ok (.iconst 1, 1) := by decide +kernel
theorem dX6_back_16 : decode cX6_back 16 = .ok (.isub, 1) := by decide +kernel
theorem dX6_back_17 : decode cX6_back 17 = .ok (.putfield 100, 3) := by decide +kernel
theorem dX6_back_20 : decode cX6_back 20 = .ok (.aload_n 0, 1) := by decide +kernel
theorem dX6_back_21 : decode cX6_back 21 = .ok (.iconst 1, 1) := by decide +kernel
theorem dX6_back_22 : decode cX6_back 22 = .ok (.aload_n 0, 1) := by decide +kernel
theorem dX6_back_23 : decode cX6_back 23 = .ok (.getfield 100, 3) := by decide +kernel
theorem dX6_back_26 : decode cX6_back 26 = .ok (.iadd, 1) := by decide +kernel
theorem dX6_back_27 : decode cX6_back 27 = .ok (.iconst 0, 1) := by decide +kernel
theorem dX6_back_28 : decode cX6_back 28 = .ok (.invokevirtual 97, 3) := by decide +kernel
theorem dX6_back_31 : decode cX6_back 31 = .ok (.aload_n 0, 1) := by decide +kernel
theorem dX6_back_32 : decode cX6_back 32 = .ok (.getfield 100, 3) := by decide +kernel
theorem dX6_back_35 : decode cX6_back 35 = .ok (.ireturn, 1) := by decide +kernel
set_option maxRecDepth 20000 in
theorem ggX6_count_X6_realmMany : GoodIn wsX6_count wsX6_realmMany := goodIn_r _ [9, 10, 11, 12, 8, 13, 14, 3, 15, 16, 17, 18, 19, 20, 21, 22, 23, 24, 25, 26, 27, 28, 29, 30, 31, 32] (by decide +kernel) (by decide +kernel)
set_option maxRecDepth 20000 in
theorem gX6_count_X6_realmMany : GoodIn wsX6_count (wsV RX6 103 RX6 yX6_realmMany wsX6_realmMany) := goodIn_app (goodIn_of _ (by decide +kernel)) ggX6_count_X6_realmMany
theorem dX6_count_0 : decode cX6_count 0 = .ok (.aload_n 0, 1) := by decide +kernel
theorem dX6_count_1 : decode cX6_count 1 = .ok (.getfield 17, 3) := by decide +kernel
theorem dX6_count_4 : decode cX6_count 4 = .ok (.iconst 0, 1) := by decide +kernel
theorem dX6_count_5 : decode cX6_count 5 = .ok (.laload, 1) := by decide +kernel
theorem dX6_count_6 : decode cX6_count 6 = .ok (.lstore_n 2, 1) := by decide +kernel
theorem dX6_count_7 : decode cX6_count 7 = .ok (.iload_n 1, 1) := by decide +kernel
theorem dX6_count_8 : decode cX6_count 8 = .ok (.tableswitch 92 0 4 #[36, 42, 47, 53, 87], 36) := by decide +kernel
theorem dX6_count_44 : decode cX6_count 44 = .ok (.aload_n 0, 1) := by decide +kernel
theorem dX6_count_45 : decode cX6_count 45 = .ok (.iconst 0, 1) := by decide +kernel
theorem dX6_count_46 : decode cX6_count 46 = .ok (.invokevirtual 103, 3) := by decide +kernel
theorem dX6_count_49 : decode cX6_count 49 = .ok (.ireturn, 1) := by decide +kernel
theorem dX6_count_50 : decode cX6_count 50 = .ok (.aload_n 0, 1) := by decide +kernel
theorem dX6_count_51 : decode cX6_count 51 = .ok (.getfield 47, 3) := by decide +kernel
theorem dX6_count_54 : decode cX6_count 54 = .ok (.ireturn, 1) := by decide +kernel
theorem dX6_count_55 : decode cX6_count 55 = .ok (.aload_n 0, 1) := by decide +kernel
theorem dX6_count_56 : decode cX6_count 56 = .ok (.iconst 1, 1) := by decide +kernel
theorem dX6_count_57 : decode cX6_count 57 = .ok (.invokevirtual 103, 3) := by decide +kernel
theorem dX6_count_60 : decode cX6_count 60 = .ok (.ireturn, 1) := by decide +kernel
theorem dX6_count_61 : decode cX6_count 61 = .ok (.iconst 0, 1) := by decide +kernel
theorem dX6_count_62 : decode cX6_count 62 = .ok (.istore 4, 2) := by decide +kernel
theorem dX6_count_64 : decode cX6_count 64 = .ok (.iload 4, 2) := by decide +kernel
theorem dX6_count_66 : decode cX6_count 66 = .ok (.bipush 8, 2) := by decide +kernel
theorem dX6_count_68 : decode cX6_count 68 = .ok (.if_icmp .ge 24, 3) := by decide +kernel
theorem dX6_count_71 : decode cX6_count 71 = .ok (.lload_n 2, 1) := by decide +kernel
theorem dX6_count_72 : decode cX6_count 72 = .ok (.aload_n 0, 1) := by decide +kernel
theorem dX6_count_73 : decode cX6_count 73 = .ok (.getfield 13, 3) := by decide +kernel
theorem dX6_count_76 : decode cX6_count 76 = .ok (.bipush 9, 2) := by decide +kernel
theorem dX6_count_78 : decode cX6_count 78 = .ok (.iload 4, 2) := by decide +kernel
theorem dX6_count_80 : decode cX6_count 80 = .ok (.imul, 1) := by decide +kernel
theorem dX6_count_81 : decode cX6_count 81 = .ok (.iconst 3, 1) := by decide +kernel
theorem dX6_count_82 : decode cX6_count 82 = .ok (.iadd, 1) := by decide +kernel
theorem dX6_count_83 : decode cX6_count 83 = .ok (.laload, 1) := by decide +kernel
theorem dX6_count_84 : decode cX6_count 84 = .ok (.ladd, 1) := by decide +kernel
theorem dX6_count_85 : decode cX6_count 85 = .ok (.lstore_n 2, 1) := by decide +kernel
theorem dX6_count_86 : decode cX6_count 86 = .ok (.iinc 4 1, 3) := by decide +kernel
theorem dX6_count_89 : decode cX6_count 89 = .ok (.goto (-25), 3) := by decide +kernel
theorem dX6_count_92 : decode cX6_count 92 = .ok (.lload_n 2, 1) := by decide +kernel
theorem dX6_count_93 : decode cX6_count 93 = .ok (.l2i, 1) := by decide +kernel
theorem dX6_count_94 : decode cX6_count 94 = .ok (.ireturn, 1) := by decide +kernel
theorem dX6_count_95 : decode cX6_count 95 = .ok (.aload_n 0, 1) := by decide +kernel
theorem dX6_count_96 : decode cX6_count 96 = .ok (.getfield 100, 3) := by decide +kernel
theorem dX6_count_99 : decode cX6_count 99 = .ok (.ireturn, 1) := by decide +kernel
theorem dX6_count_100 : decode cX6_count 100 = .ok (.iconst (-1), 1) := by decide +kernel
theorem dX6_count_101 : decode cX6_count 101 = .ok (.ireturn, 1) := by decide +kernel
theorem dJ6_bitCount_0f7a4_0 : decode cJ6_bitCount_0f7a4 0 = .ok (.iload_n 0, 1) := by decide +kernel
theorem dJ6_bitCount_0f7a4_1 : decode cJ6_bitCount_0f7a4 1 = .ok (.iload_n 0, 1) := by decide +kernel
theorem dJ6_bitCount_0f7a4_2 : decode cJ6_bitCount_0f7a4 2 = .ok (.iconst 1, 1) := by decide +kernel
theorem dJ6_bitCount_0f7a4_3 : decode cJ6_bitCount_0f7a4 3 = .ok (.iushr, 1) := by decide +kernel
theorem dJ6_bitCount_0f7a4_4 : decode cJ6_bitCount_0f7a4 4 = .ok (.ldc_w 265, 3) := by decide +kernel
theorem dJ6_bitCount_0f7a4_7 : decode cJ6_bitCount_0f7a4 7 = .ok (.iand, 1) := by decide +kernel
theorem dJ6_bitCount_0f7a4_8 : decode cJ6_bitCount_0f7a4 8 = .ok (.isub, 1) := by decide +kernel
theorem dJ6_bitCount_0f7a4_9 : decode cJ6_bitCount_0f7a4 9 = .ok (.istore_n 0, 1) := by decide +kernel
theorem dJ6_bitCount_0f7a4_10 : decode cJ6_bitCount_0f7a4 10 = .ok (.iload_n 0, 1) := by decide +kernel
theorem dJ6_bitCount_0f7a4_11 : decode cJ6_bitCount_0f7a4 11 = .ok (.ldc_w 266, 3) := by decide +kernel
theorem dJ6_bitCount_0f7a4_14 : decode cJ6_bitCount_0f7a4 14 = .ok (.iand, 1) := by decide +kernel
theorem dJ6_bitCount_0f7a4_15 : decode cJ6_bitCount_0f7a4 15 = .ok (.iload_n 0, 1) := by decide +kernel
theorem dJ6_bitCount_0f7a4_16 : decode cJ6_bitCount_0f7a4 16 = .ok (.iconst 2, 1) := by decide +kernel
theorem dJ6_bitCount_0f7a4_17 : decode cJ6_bitCount_0f7a4 17 = .ok (.iushr, 1) := by decide +kernel
theorem dJ6_bitCount_0f7a4_18 : decode cJ6_bitCount_0f7a4 18 = .ok (.ldc_w 266, 3) := by decide +kernel
theorem dJ6_bitCount_0f7a4_21 : decode cJ6_bitCount_0f7a4 21 = .ok (.iand, 1) := by decide +kernel
theorem dJ6_bitCount_0f7a4_22 : decode cJ6_bitCount_0f7a4 22 = .ok (.iadd, 1) := by decide +kernel
theorem dJ6_bitCount_0f7a4_23 : decode cJ6_bitCount_0f7a4 23 = .ok (.istore_n 0, 1) := by decide +kernel
theorem dJ6_bitCount_0f7a4_24 : decode cJ6_bitCount_0f7a4 24 = .ok (.iload_n 0, 1) := by decide +kernel
theorem dJ6_bitCount_0f7a4_25 : decode cJ6_bitCount_0f7a4 25 = .ok (.iload_n 0, 1) := by decide +kernel
theorem dJ6_bitCount_0f7a4_26 : decode cJ6_bitCount_0f7a4 26 = .ok (.iconst 4, 1) := by decide +kernel
theorem dJ6_bitCount_0f7a4_27 : decode cJ6_bitCount_0f7a4 27 = .ok (.iushr, 1) := by decide +kernel
theorem dJ6_bitCount_0f7a4_28 : decode cJ6_bitCount_0f7a4 28 = .ok (.iadd, 1) := by decide +kernel
theorem dJ6_bitCount_0f7a4_29 : decode cJ6_bitCount_0f7a4 29 = .ok (.ldc_w 267, 3) := by decide +kernel
theorem dJ6_bitCount_0f7a4_32 : decode cJ6_bitCount_0f7a4 32 = .ok (.iand, 1) := by decide +kernel
theorem dJ6_bitCount_0f7a4_33 : decode cJ6_bitCount_0f7a4 33 = .ok (.istore_n 0, 1) := by decide +kernel
theorem dJ6_bitCount_0f7a4_34 : decode cJ6_bitCount_0f7a4 34 = .ok (.iload_n 0, 1) := by decide +kernel
theorem dJ6_bitCount_0f7a4_35 : decode cJ6_bitCount_0f7a4 35 = .ok (.iload_n 0, 1) := by decide +kernel
theorem dJ6_bitCount_0f7a4_36 : decode cJ6_bitCount_0f7a4 36 = .ok (.bipush 8, 2) := by decide +kernel
theorem dJ6_bitCount_0f7a4_38 : decode cJ6_bitCount_0f7a4 38 = .ok (.iushr, 1) := by decide +kernel
theorem dJ6_bitCount_0f7a4_39 : decode cJ6_bitCount_0f7a4 39 = .ok (.iadd, 1) := by decide +kernel
theorem dJ6_bitCount_0f7a4_40 : decode cJ6_bitCount_0f7a4 40 = .ok (.istore_n 0, 1) := by decide +kernel
theorem dJ6_bitCount_0f7a4_41 : decode cJ6_bitCount_0f7a4 41 = .ok (.iload_n 0, 1) := by decide +kernel
theorem dJ6_bitCount_0f7a4_42 : decode cJ6_bitCount_0f7a4 42 = .ok (.iload_n 0, 1) := by decide +kernel
theorem dJ6_bitCount_0f7a4_43 : decode cJ6_bitCount_0f7a4 43 = .ok (.bipush 16, 2) := by decide +kernel
theorem dJ6_bitCount_0f7a4_45 : decode cJ6_bitCount_0f7a4 45 = .ok (.iushr, 1) := by decide +kernel
theorem dJ6_bitCount_0f7a4_46 : decode cJ6_bitCount_0f7a4 46 = .ok (.iadd, 1) := by decide +kernel
theorem dJ6_bitCount_0f7a4_47 : decode cJ6_bitCount_0f7a4 47 = .ok (.istore_n 0, 1) := by decide +kernel
theorem dJ6_bitCount_0f7a4_48 : decode cJ6_bitCount_0f7a4 48 = .ok (.iload_n 0, 1) := by decide +kernel
theorem dJ6_bitCount_0f7a4_49 : decode cJ6_bitCount_0f7a4 49 = .ok (.bipush 63, 2) := by decide +kernel
theorem dJ6_bitCount_0f7a4_51 : decode cJ6_bitCount_0f7a4 51 = .ok (.iand, 1) := by decide +kernel
theorem dJ6_bitCount_0f7a4_52 : decode cJ6_bitCount_0f7a4 52 = .ok (.ireturn, 1) := by decide +kernel
theorem dJ9_max_7cf53_0 : decode cJ9_max_7cf53 0 = .ok (.iload_n 0, 1) := by decide +kernel
theorem dJ9_max_7cf53_1 : decode cJ9_max_7cf53 1 = .ok (.iload_n 1, 1) := by decide +kernel
theorem dJ9_max_7cf53_2 : decode cJ9_max_7cf53 2 = .ok (.if_icmp .lt 7, 3) := by decide +kernel
theorem dJ9_max_7cf53_5 : decode cJ9_max_7cf53 5 = .ok (.iload_n 0, 1) := by decide +kernel
theorem dJ9_max_7cf53_6 : decode cJ9_max_7cf53 6 = .ok (.goto 4, 3) := by decide +kernel
theorem dJ9_max_7cf53_9 : decode cJ9_max_7cf53 9 = .ok (.iload_n 1, 1) := by decide +kernel
theorem dJ9_max_7cf53_10 : decode cJ9_max_7cf53 10 = .ok (.ireturn, 1) := by decide +kernel
theorem dJ9_min_7cf53_0 : decode cJ9_min_7cf53 0 = .ok (.iload_n 0, 1) := by decide +kernel
theorem dJ9_min_7cf53_1 : decode cJ9_min_7cf53 1 = .ok (.iload_n 1, 1) := by decide +kernel
theorem dJ9_min_7cf53_2 : decode cJ9_min_7cf53 2 = .ok (.if_icmp .gt 7, 3) := by decide +kernel
theorem dJ9_min_7cf53_5 : decode cJ9_min_7cf53 5 = .ok (.iload_n 0, 1) := by decide +kernel
theorem dJ9_min_7cf53_6 : decode cJ9_min_7cf53 6 = .ok (.goto 4, 3) := by decide +kernel
theorem dJ9_min_7cf53_9 : decode cJ9_min_7cf53 9 = .ok (.iload_n 1, 1) := by decide +kernel
theorem dJ9_min_7cf53_10 : decode cJ9_min_7cf53 10 = .ok (.ireturn, 1) := by decide +kernel
theorem dJ9_min_f86c9_0 : decode cJ9_min_f86c9 0 = .ok (.lload_n 0, 1) := by decide +kernel
theorem dJ9_min_f86c9_1 : decode cJ9_min_f86c9 1 = .ok (.lload_n 2, 1) := by decide +kernel
theorem dJ9_min_f86c9_2 : decode cJ9_min_f86c9 2 = .ok (.lcmp, 1) := by decide +kernel
theorem dJ9_min_f86c9_3 : decode cJ9_min_f86c9 3 = .ok (.ifCond .gt 7, 3) := by decide +kernel
theorem dJ9_min_f86c9_6 : decode cJ9_min_f86c9 6 = .ok (.lload_n 0, 1) := by decide +kernel
theorem dJ9_min_f86c9_7 : decode cJ9_min_f86c9 7 = .ok (.goto 4, 3) := by decide +kernel
theorem dJ9_min_f86c9_10 : decode cJ9_min_f86c9 10 = .ok (.lload_n 2, 1) := by decide +kernel
theorem dJ9_min_f86c9_11 : decode cJ9_min_f86c9 11 = .ok (.lreturn, 1) := by decide +kernel
theorem dJ7_fill_53178_0 : decode cJ7_fill_53178 0 = .ok (.iconst 0, 1) := by decide +kernel
theorem dJ7_fill_53178_1 : decode cJ7_fill_53178 1 = .ok (.istore_n 2, 1) := by decide +kernel
theorem dJ7_fill_53178_2 : decode cJ7_fill_53178 2 = .ok (.aload_n 0, 1) := by decide +kernel
theorem dJ7_fill_53178_3 : decode cJ7_fill_53178 3 = .ok (.arraylength, 1) := by decide +kernel
theorem dJ7_fill_53178_4 : decode cJ7_fill_53178 4 = .ok (.istore_n 3, 1) := by decide +kernel
theorem dJ7_fill_53178_5 : decode cJ7_fill_53178 5 = .ok (.iload_n 2, 1) := by decide +kernel
theorem dJ7_fill_53178_6 : decode cJ7_fill_53178 6 = .ok (.iload_n 3, 1) := by decide +kernel
theorem dJ7_fill_53178_7 : decode cJ7_fill_53178 7 = .ok (.if_icmp .ge 13, 3) := by decide +kernel
theorem dJ7_fill_53178_10 : decode cJ7_fill_53178 10 = .ok (.aload_n 0, 1) := by decide +kernel
theorem dJ7_fill_53178_11 : decode cJ7_fill_53178 11 = .ok (.iload_n 2, 1) := by decide +kernel
theorem dJ7_fill_53178_12 : decode cJ7_fill_53178 12 = .ok (.iload_n 1, 1) := by decide +kernel
theorem dJ7_fill_53178_13 : decode cJ7_fill_53178 13 = .ok (.iastore, 1) := by decide +kernel
theorem dJ7_fill_53178_14 : decode cJ7_fill_53178 14 = .ok (.iinc 2 1, 3) := by decide +kernel
theorem dJ7_fill_53178_17 : decode cJ7_fill_53178 17 = .ok (.goto (-12), 3) := by decide +kernel
theorem dJ7_fill_53178_20 : decode cJ7_fill_53178 20 = .ok (.return_, 1) := by decide +kernel
