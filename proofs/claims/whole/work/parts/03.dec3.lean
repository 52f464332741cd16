theorem dX6_has_1 : decode cX6_has 1 = .ok (.iload_n 1, 1) := by decide +kernel
theorem dX6_has_2 : decode cX6_has 2 = .ok (.ishr, 1) := by decide +kernel
theorem dX6_has_3 : decode cX6_has 3 = .ok (.iconst 1, 1) := by decide +kernel
theorem dX6_has_4 : decode cX6_has 4 = .ok (.iand, 1) := by decide +kernel
theorem dX6_has_5 : decode cX6_has 5 = .ok (.iconst 1, 1) := by decide +kernel
theorem dX6_has_6 : decode cX6_has 6 = .ok (.if_icmp .ne 7, 3) := by decide +kernel
theorem dX6_has_9 : decode cX6_has 9 = .ok (.iconst 1, 1) := by decide +kernel
theorem dX6_has_10 : decode cX6_has 10 = .ok (.goto 4, 3) := by decide +kernel
theorem dX6_has_13 : decode cX6_has 13 = .ok (.iconst 0, 1) := by decide +kernel
theorem dX6_has_14 : decode cX6_has 14 = .ok (.ireturn, 1) := by decide +kernel
theorem dX6_bits_0 : decode cX6_bits 0 = .ok (.iconst 0, 1) := by decide +kernel
theorem dX6_bits_1 : decode cX6_bits 1 = .ok (.istore_n 1, 1) := by decide +kernel
theorem dX6_bits_2 : decode cX6_bits 2 = .ok (.iload_n 0, 1) := by decide +kernel
theorem dX6_bits_3 : decode cX6_bits 3 = .ok (.istore_n 2, 1) := by decide +kernel
theorem dX6_bits_4 : decode cX6_bits 4 = .ok (.iload_n 2, 1) := by decide +kernel
theorem dX6_bits_5 : decode cX6_bits 5 = .ok (.ifCond .eq 15, 3) := by decide +kernel
theorem dX6_bits_8 : decode cX6_bits 8 = .ok (.iinc 1 1, 3) := by decide +kernel
theorem dX6_bits_11 : decode cX6_bits 11 = .ok (.iload_n 2, 1) := by decide +kernel
theorem dX6_bits_12 : decode cX6_bits 12 = .ok (.iload_n 2, 1) := by decide +kernel
theorem dX6_bits_13 : decode cX6_bits 13 = .ok (.iconst 1, 1) := by decide +kernel
theorem dX6_bits_14 : decode cX6_bits 14 = .ok (.isub, 1) := by decide +kernel
theorem dX6_bits_15 : decode cX6_bits 15 = .ok (.iand, 1) := by decide +kernel
theorem dX6_bits_16 : decode cX6_bits 16 = .ok (.istore_n 2, 1) := by decide +kernel
theorem dX6_bits_17 : decode cX6_bits 17 = .ok (.goto (-13), 3) := by decide +kernel
theorem dX6_bits_20 : decode cX6_bits 20 = .ok (.iload_n 1, 1) := by decide +kernel
theorem dX6_bits_21 : decode cX6_bits 21 = .ok (.ireturn, 1) := by decide +kernel
theorem dX6_noWorld_0 : decode cX6_noWorld 0 = .ok (.iconst 0, 1) := by decide +kernel
theorem dX6_noWorld_1 : decode cX6_noWorld 1 = .ok (.istore_n 3, 1) := by decide +kernel
theorem dX6_noWorld_2 : decode cX6_noWorld 2 = .ok (.iload_n 3, 1) := by decide +kernel
theorem dX6_noWorld_3 : decode cX6_noWorld 3 = .ok (.bipush 72, 2) := by decide +kernel
theorem dX6_noWorld_5 : decode cX6_noWorld 5 = .ok (.if_icmp .ge 36, 3) := by decide +kernel
theorem dX6_noWorld_8 : decode cX6_noWorld 8 = .ok (.aload_n 0, 1) := by decide +kernel
theorem dX6_noWorld_9 : decode cX6_noWorld 9 = .ok (.getfield 13, 3) := by decide +kernel
theorem dX6_noWorld_12 : decode cX6_noWorld 12 = .ok (.bipush 72, 2) := by decide +kernel
theorem dX6_noWorld_14 : decode cX6_noWorld 14 = .ok (.iload_n 1, 1) := by decide +kernel
theorem dX6_noWorld_15 : decode cX6_noWorld 15 = .ok (.imul, 1) := by decide +kernel
theorem dX6_noWorld_16 : decode cX6_noWorld 16 = .ok (.iload_n 3, 1) := by decide +kernel
theorem dX6_noWorld_17 : decode cX6_noWorld 17 = .ok (.iadd, 1) := by decide +kernel
theorem dX6_noWorld_18 : decode cX6_noWorld 18 = .ok (.iload_n 3, 1) := by decide +kernel
theorem dX6_noWorld_19 : decode cX6_noWorld 19 = .ok (.bipush 9, 2) := by decide +kernel
theorem dX6_noWorld_21 : decode cX6_noWorld 21 = .ok (.irem, 1) := by decide +kernel
theorem dX6_noWorld_22 : decode cX6_noWorld 22 = .ok (.bipush 8, 2) := by decide +kernel
theorem dX6_noWorld_24 : decode cX6_noWorld 24 = .ok (.if_icmp .ne 9, 3) := by decide +kernel
theorem dX6_noWorld_27 : decode cX6_noWorld 27 = .ok (.ldc2_w 39, 3) := by decide +kernel
theorem dX6_noWorld_30 : decode cX6_noWorld 30 = .ok (.goto 4, 3) := by decide +kernel
theorem dX6_noWorld_33 : decode cX6_noWorld 33 = .ok (.lconst 0, 1) := by decide +kernel
theorem dX6_noWorld_34 : decode cX6_noWorld 34 = .ok (.lastore, 1) := by decide +kernel
theorem dX6_noWorld_35 : decode cX6_noWorld 35 = .ok (.iinc 3 1, 3) := by decide +kernel
theorem dX6_noWorld_38 : decode cX6_noWorld 38 = .ok (.goto (-36), 3) := by decide +kernel
theorem dX6_noWorld_41 : decode cX6_noWorld 41 = .ok (.iconst 0, 1) := by decide +kernel
theorem dX6_noWorld_42 : decode cX6_noWorld 42 = .ok (.istore_n 3, 1) := by decide +kernel
theorem dX6_noWorld_43 : decode cX6_noWorld 43 = .ok (.iload_n 3, 1) := by decide +kernel
theorem dX6_noWorld_44 : decode cX6_noWorld 44 = .ok (.iconst 3, 1) := by decide +kernel
theorem dX6_noWorld_45 : decode cX6_noWorld 45 = .ok (.if_icmp .ge 20, 3) := by decide +kernel
theorem dX6_noWorld_48 : decode cX6_noWorld 48 = .ok (.aload_n 0, 1) := by decide +kernel
theorem dX6_noWorld_49 : decode cX6_noWorld 49 = .ok (.getfield 17, 3) := by decide +kernel
theorem dX6_noWorld_52 : decode cX6_noWorld 52 = .ok (.iconst 3, 1) := by decide +kernel
theorem dX6_noWorld_53 : decode cX6_noWorld 53 = .ok (.iload_n 1, 1) := by decide +kernel
theorem dX6_noWorld_54 : decode cX6_noWorld 54 = .ok (.imul, 1) := by decide +kernel
theorem dX6_noWorld_55 : decode cX6_noWorld 55 = .ok (.iload_n 3, 1) := by decide +kernel
theorem dX6_noWorld_56 : decode cX6_noWorld 56 = .ok (.iadd, 1) := by decide +kernel
theorem dX6_noWorld_57 : decode cX6_noWorld 57 = .ok (.lconst 0, 1) := by decide +kernel
theorem dX6_noWorld_58 : decode cX6_noWorld 58 = .ok (.lastore, 1) := by decide +kernel
theorem dX6_noWorld_59 : decode cX6_noWorld 59 = .ok (.iinc 3 1, 3) := by decide +kernel
theorem dX6_noWorld_62 : decode cX6_noWorld 62 = .ok (.goto (-19), 3) := by decide +kernel
theorem dX6_noWorld_65 : decode cX6_noWorld 65 = .ok (.aload_n 0, 1) := by decide +kernel
theorem dX6_noWorld_66 : decode cX6_noWorld 66 = .ok (.getfield 20, 3) := by decide +kernel
theorem dX6_noWorld_69 : decode cX6_noWorld 69 = .ok (.iload_n 2, 1) := by decide +kernel
theorem dX6_noWorld_70 : decode cX6_noWorld 70 = .ok (.sipush 1000, 3) := by decide +kernel
theorem dX6_noWorld_73 : decode cX6_noWorld 73 = .ok (.iastore, 1) := by decide +kernel
theorem dX6_noWorld_74 : decode cX6_noWorld 74 = .ok (.aload_n 0, 1) := by decide +kernel
theorem dX6_noWorld_75 : decode cX6_noWorld 75 = .ok (.getfield 23, 3) := by decide +kernel
theorem dX6_noWorld_78 : decode cX6_noWorld 78 = .ok (.iload_n 2, 1) := by decide +kernel
theorem dX6_noWorld_79 : decode cX6_noWorld 79 = .ok (.iconst 0, 1) := by decide +kernel
theorem dX6_noWorld_80 : decode cX6_noWorld 80 = .ok (.iastore, 1) := by decide +kernel
theorem dX6_noWorld_81 : decode cX6_noWorld 81 = .ok (.return_, 1) := by decide +kernel
set_option maxRecDepth 20000 in
theorem ggX6_write_X6_in : GoodIn wsX6_write wsX6_in := goodIn_r _ [8] (by decide +kernel) (by decide +kernel)
set_option maxRecDepth 20000 in
theorem gX6_write_X6_in : GoodIn wsX6_write (va_wsS RX6 43 yX6_in wsX6_in) := goodIn_app (goodIn_of _ (by decide +kernel)) ggX6_write_X6_in
theorem dX6_write_0 : decode cX6_write 0 = .ok (.iload_n 1, 1) := by decide +kernel
theorem dX6_write_1 : decode cX6_write 1 = .ok (.i2l, 1) := by decide +kernel
theorem dX6_write_2 : decode cX6_write 2 = .ok (.lconst 1, 1) := by decide +kernel
theorem dX6_write_3 : decode cX6_write 3 = .ok (.ldc2_w 41, 3) := by decide +kernel
theorem dX6_write_6 : decode cX6_write 6 = .ok (.invokestatic 43, 3) := by decide +kernel
theorem dX6_write_9 : decode cX6_write 9 = .ok (.ifCond .ne 5, 3) := by decide +kernel
theorem dX6_write_12 : decode cX6_write 12 = .ok (.iconst (-1), 1) := by decide +kernel
theorem dX6_write_13 : decode cX6_write 13 = .ok (.ireturn, 1) := by decide +kernel
theorem dX6_write_14 : decode cX6_write 14 = .ok (.aload_n 0, 1) := by decide +kernel
theorem dX6_write_15 : decode cX6_write 15 = .ok (.getfield 47, 3) := by decide +kernel
theorem dX6_write_18 : decode cX6_write 18 = .ok (.iload_n 1, 1) := by decide +kernel
theorem dX6_write_19 : decode cX6_write 19 = .ok (.iadd, 1) := by decide +kernel
theorem dX6_write_20 : decode cX6_write 20 = .ok (.sipush 400, 3) := by decide +kernel
theorem dX6_write_23 : decode cX6_write 23 = .ok (.if_icmp .le 6, 3) := by decide +kernel
theorem dX6_write_26 : decode cX6_write 26 = .ok (.bipush (-3), 2) := by decide +kernel
theorem dX6_write_28 : decode cX6_write 28 = .ok (.ireturn, 1) := by decide +kernel
theorem dX6_write_29 : decode cX6_write 29 = .ok (.iload_n 1, 1) := by decide +kernel
theorem dX6_write_30 : decode cX6_write 30 = .ok (.iconst 1, 1) := by decide +kernel
theorem dX6_write_31 : decode cX6_write 31 = .ok (.isub, 1) := by decide +kernel
theorem dX6_write_32 : decode cX6_write 32 = .ok (.istore 4, 2) := by decide +kernel
theorem dX6_write_34 : decode cX6_write 34 = .ok (.iload 4, 2) := by decide +kernel
theorem dX6_write_36 : decode cX6_write 36 = .ok (.ifCond .lt 40, 3) := by decide +kernel
theorem dX6_write_39 : decode cX6_write 39 = .ok (.aload_n 0, 1) := by decide +kernel
theorem dX6_write_40 : decode cX6_write 40 = .ok (.getfield 7, 3) := by decide +kernel
theorem dX6_write_43 : decode cX6_write 43 = .ok (.aload_n 0, 1) := by decide +kernel
theorem dX6_write_44 : decode cX6_write 44 = .ok (.getfield 47, 3) := by decide +kernel
theorem dX6_write_47 : decode cX6_write 47 = .ok (.lload_n 2, 1) := by decide +kernel
theorem dX6_write_48 : decode cX6_write 48 = .ok (.bipush 8, 2) := by decide +kernel
theorem dX6_write_50 : decode cX6_write 50 = .ok (.iload 4, 2) := by decide +kernel
theorem dX6_write_52 : decode cX6_write 52 = .ok (.imul, 1) := by decide +kernel
theorem dX6_write_53 : decode cX6_write 53 = .ok (.lshr, 1) := by decide +kernel
theorem dX6_write_54 : decode cX6_write 54 = .ok (.ldc2_w 51, 3) := by decide +kernel
theorem dX6_write_57 : decode cX6_write 57 = .ok (.land, 1) := by decide +kernel
theorem dX6_write_58 : decode cX6_write 58 = .ok (.l2i, 1) := by decide +kernel
theorem dX6_write_59 : decode cX6_write 59 = .ok (.iastore, 1) := by decide +kernel
theorem dX6_write_60 : decode cX6_write 60 = .ok (.aload_n 0, 1) := by decide +kernel
theorem dX6_write_61 : decode cX6_write 61 = .ok (.dup, 1) := by decide +kernel
theorem dX6_write_62 : decode cX6_write 62 = .ok (.getfield 47, 3) := by decide +kernel
theorem dX6_write_65 : decode cX6_write 65 = .ok (.iconst 1, 1) := by decide +kernel
theorem dX6_write_66 : decode cX6_write 66 = .ok (.iadd, 1) := by decide +kernel
theorem dX6_write_67 : decode cX6_write 67 = .ok (.putfield 47, 3) := by decide +kernel
theorem dX6_write_70 : decode cX6_write 70 = .ok (.iinc 4 (-1), 3) := by decide +kernel
theorem dX6_write_73 : decode cX6_write 73 = .ok (.goto (-39), 3) := by decide +kernel
theorem dX6_write_76 : decode cX6_write 76 = .ok (.aload_n 0, 1) := by decide +kernel
theorem dX6_write_77 : decode cX6_write 77 = .ok (.getfield 47, 3) := by decide +kernel
theorem dX6_write_80 : decode cX6_write 80 = .ok (.ireturn, 1) := by decide +kernel
theorem dX6_wipe_0 : decode cX6_wipe 0 = .ok (.aload_n 0, 1) := by decide +kernel
theorem dX6_wipe_1 : decode cX6_wipe 1 = .ok (.getfield 47, 3) := by decide +kernel
theorem dX6_wipe_4 : decode cX6_wipe 4 = .ok (.istore_n 1, 1) := by decide +kernel
theorem dX6_wipe_5 : decode cX6_wipe 5 = .ok (.aload_n 0, 1) := by decide +kernel
theorem dX6_wipe_6 : decode cX6_wipe 6 = .ok (.iconst 0, 1) := by decide +kernel
theorem dX6_wipe_7 : decode cX6_wipe 7 = .ok (.putfield 47, 3) := by decide +kernel
theorem dX6_wipe_10 : decode cX6_wipe 10 = .ok (.iload_n 1, 1) := by decide +kernel
theorem dX6_wipe_11 : decode cX6_wipe 11 = .ok (.ireturn, 1) := by decide +kernel
theorem dX6_byteAt_0 : decode cX6_byteAt 0 = .ok (.iload_n 1, 1) := by decide +kernel
theorem dX6_byteAt_1 : decode cX6_byteAt 1 = .ok (.aload_n 0, 1) := by decide +kernel
theorem dX6_byteAt_2 : decode cX6_byteAt 2 = .ok (.getfield 47, 3) := by decide +kernel
theorem dX6_byteAt_5 : decode cX6_byteAt 5 = .ok (.if_icmp .ge 12, 3) := by decide +kernel
theorem dX6_byteAt_8 : decode cX6_byteAt 8 = .ok (.aload_n 0, 1) := by decide +kernel
theorem dX6_byteAt_9 : decode cX6_byteAt 9 = .ok (.getfield 7, 3) := by decide +kernel
theorem dX6_byteAt_12 : decode cX6_byteAt 12 = .ok (.iload_n 1, 1) := by decide +kernel
theorem dX6_byteAt_13 : decode cX6_byteAt 13 = .ok (.iaload, 1) := by decide +kernel
theorem dX6_byteAt_14 : decode cX6_byteAt 14 = .ok (.goto 4, 3) := by decide +kernel
theorem dX6_byteAt_17 : decode cX6_byteAt 17 = .ok (.iconst 0, 1) := by decide +kernel
theorem dX6_byteAt_18 : decode cX6_byteAt 18 = .ok (.ireturn, 1) := by decide +kernel
set_option maxRecDepth 20000 in
theorem ggX6_figures_X6_byteAt : GoodIn wsX6_figures wsX6_byteAt := goodIn_r _ [10, 11, 12, 16, 17, 18, 19, 20, 21, 22, 23, 24, 25, 26] (by decide +kernel) (by decide +kernel)
set_option maxRecDepth 20000 in
theorem gX6_figures_X6_byteAt : GoodIn wsX6_figures (wsV RX6 56 RX6 yX6_byteAt wsX6_byteAt) := goodIn_app (goodIn_of _ (by decide +kernel)) ggX6_figures_X6_byteAt
set_option maxRecDepth 20000 in
theorem ggX6_figures_X6_in : GoodIn wsX6_figures wsX6_in := goodIn_r _ [15] (by decide +kernel) (by decide +kernel)
set_option maxRecDepth 20000 in
theorem gX6_figures_X6_in : GoodIn wsX6_figures (va_wsS RX6 43 yX6_in wsX6_in) := goodIn_app (goodIn_of _ (by decide +kernel)) ggX6_figures_X6_in
theorem dX6_figures_0 : decode cX6_figures 0 = .ok (.iconst 0, 1) := by decide +kernel
theorem dX6_figures_1 : decode cX6_figures 1 = .ok (.istore_n 2, 1) := by decide +kernel
theorem dX6_figures_2 : decode cX6_figures 2 = .ok (.iload_n 2, 1) := by decide +kernel
theorem dX6_figures_3 : decode cX6_figures 3 = .ok (.iload_n 1, 1) := by decide +kernel
theorem dX6_figures_4 : decode cX6_figures 4 = .ok (.if_icmp .ge 133, 3) := by decide +kernel
theorem dX6_figures_7 : decode cX6_figures 7 = .ok (.iconst 0, 1) := by decide +kernel
theorem dX6_figures_8 : decode cX6_figures 8 = .ok (.istore_n 3, 1) := by decide +kernel
theorem dX6_figures_9 : decode cX6_figures 9 = .ok (.iconst 0, 1) := by decide +kernel
theorem dX6_figures_10 : decode cX6_figures 10 = .ok (.istore 4, 2) := by decide +kernel
theorem dX6_figures_12 : decode cX6_figures 12 = .ok (.aload_n 0, 1) := by decide +kernel
theorem dX6_figures_13 : decode cX6_figures 13 = .ok (.aload_n 0, 1) := by decide +kernel
theorem dX6_figures_14 : decode cX6_figures 14 = .ok (.getfield 53, 3) := by decide +kernel
theorem dX6_figures_17 : decode cX6_figures 17 = .ok (.invokevirtual 56, 3) := by decide +kernel
theorem dX6_figures_20 : decode cX6_figures 20 = .ok (.i2l, 1) := by decide +kernel
theorem dX6_figures_21 : decode cX6_figures 21 = .ok (.ldc2_w 60, 3) := by decide +kernel
theorem dX6_figures_24 : decode cX6_figures 24 = .ok (.ldc2_w 62, 3) := by decide +kernel
theorem dX6_figures_27 : decode cX6_figures 27 = .ok (.invokestatic 43, 3) := by decide +kernel
theorem dX6_figures_30 : decode cX6_figures 30 = .ok (.ifCond .eq 44, 3) := by decide +kernel
theorem dX6_figures_33 : decode cX6_figures 33 = .ok (.iload_n 3, 1) := by decide +kernel
theorem dX6_figures_34 : decode cX6_figures 34 = .ok (.bipush 6, 2) := by decide +kernel
theorem dX6_figures_36 : decode cX6_figures 36 = .ok (.if_icmp .ge 38, 3) := by decide +kernel
theorem dX6_figures_39 : decode cX6_figures 39 = .ok (.bipush 10, 2) := by decide +kernel
theorem dX6_figures_41 : decode cX6_figures 41 = .ok (.iload 4, 2) := by decide +kernel
theorem dX6_figures_43 : decode cX6_figures 43 = .ok (.imul, 1) := by decide +kernel
theorem dX6_figures_44 : decode cX6_figures 44 = .ok (.aload_n 0, 1) := by decide +kernel
theorem dX6_figures_45 : decode cX6_figures 45 = .ok (.aload_n 0, 1) := by decide +kernel
theorem dX6_figures_46 : decode cX6_figures 46 = .ok (.getfield 53, 3) := by decide +kernel
theorem dX6_figures_49 : decode cX6_figures 49 = .ok (.invokevirtual 56, 3) := by decide +kernel
theorem dX6_figures_52 : decode cX6_figures 52 = .ok (.iadd, 1) := by decide +kernel
theorem dX6_figures_53 : decode cX6_figures 53 = .ok (.bipush 48, 2) := by decide +kernel
theorem dX6_figures_55 : decode cX6_figures 55 = .ok (.isub, 1) := by decide +kernel
theorem dX6_figures_56 : decode cX6_figures 56 = .ok (.istore 4, 2) := by decide +kernel
theorem dX6_figures_58 : decode cX6_figures 58 = .ok (.iinc 3 1, 3) := by decide +kernel
theorem dX6_figures_61 : decode cX6_figures 61 = .ok (.aload_n 0, 1) := by decide +kernel
theorem dX6_figures_62 : decode cX6_figures 62 = .ok (.dup, 1) := by decide +kernel
theorem dX6_figures_63 : decode cX6_figures 63 = .ok (.getfield 53, 3) := by decide +kernel
theorem dX6_figures_66 : decode cX6_figures 66 = .ok (.iconst 1, 1) := by decide +kernel
theorem dX6_figures_67 : decode cX6_figures 67 = .ok (.iadd, 1) := by decide +kernel
theorem dX6_figures_68 : decode cX6_figures 68 = .ok (.putfield 53, 3) := by decide +kernel
theorem dX6_figures_71 : decode cX6_figures 71 = .ok (.goto (-59), 3) := by decide +kernel
theorem dX6_figures_74 : decode cX6_figures 74 = .ok (.iload_n 3, 1) := by decide +kernel
theorem dX6_figures_75 : decode cX6_figures 75 = .ok (.i2l, 1) := by decide +kernel
theorem dX6_figures_76 : decode cX6_figures 76 = .ok (.lconst 1, 1) := by decide +kernel
theorem dX6_figures_77 : decode cX6_figures 77 = .ok (.ldc2_w 64, 3) := by decide +kernel
theorem dX6_figures_80 : decode cX6_figures 80 = .ok (.invokestatic 43, 3) := by decide +kernel
theorem dX6_figures_83 : decode cX6_figures 83 = .ok (.ifCond .eq 28, 3) := by decide +kernel
theorem dX6_figures_86 : decode cX6_figures 86 = .ok (.aload_n 0, 1) := by decide +kernel
theorem dX6_figures_87 : decode cX6_figures 87 = .ok (.aload_n 0, 1) := by decide +kernel
theorem dX6_figures_88 : decode cX6_figures 88 = .ok (.getfield 53, 3) := by decide +kernel
theorem dX6_figures_91 : decode cX6_figures 91 = .ok (.invokevirtual 56, 3) := by decide +kernel
theorem dX6_figures_94 : decode cX6_figures 94 = .ok (.iload_n 2, 1) := by decide +kernel
theorem dX6_figures_95 : decode cX6_figures 95 = .ok (.iload_n 1, 1) := by decide +kernel
theorem dX6_figures_96 : decode cX6_figures 96 = .ok (.iconst 1, 1) := by decide +kernel
theorem dX6_figures_97 : decode cX6_figures 97 = .ok (.isub, 1) := by decide +kernel
theorem dX6_figures_98 : decode cX6_figures 98 = .ok (.if_icmp .ge 8, 3) := by decide +kernel
theorem dX6_figures_101 : decode cX6_figures 101 = .ok (.bipush 44, 2) := by decide +kernel
theorem dX6_figures_103 : decode cX6_figures 103 = .ok (.goto 5, 3) := by decide +kernel
theorem dX6_figures_106 : decode cX6_figures 106 = .ok (.bipush 59, 2) := by decide +kernel
theorem dX6_figures_108 : decode cX6_figures 108 = .ok (.if_icmp .eq 5, 3) := by decide +kernel
theorem dX6_figures_111 : decode cX6_figures 111 = .ok (.iconst 0, 1) := by decide +kernel
theorem dX6_figures_112 : decode cX6_figures 112 = .ok (.ireturn, 1) := by decide +kernel
theorem dX6_figures_113 : decode cX6_figures 113 = .ok (.aload_n 0, 1) := by decide +kernel
theorem dX6_figures_114 : decode cX6_figures 114 = .ok (.getfield 29, 3) := by decide +kernel
theorem dX6_figures_117 : decode cX6_figures 117 = .ok (.iload_n 2, 1) := by decide +kernel
theorem dX6_figures_118 : decode cX6_figures 118 = .ok (.iload 4, 2) := by decide +kernel
theorem dX6_figures_120 : decode cX6_figures 120 = .ok (.iastore, 1) := by decide +kernel
theorem dX6_figures_121 : decode cX6_figures 121 = .ok (.aload_n 0, 1) := by decide +kernel
theorem dX6_figures_122 : decode cX6_figures 122 = .ok (.dup, 1) := by decide +kernel
theorem dX6_figures_123 : decode cX6_figures 123 = .ok (.getfield 53, 3) := by decide +kernel
theorem dX6_figures_126 : decode cX6_figures 126 = .ok (.iconst 1, 1) := by decide +kernel
theorem dX6_figures_127 : decode cX6_figures 127 = .ok (.iadd, 1) := by decide +kernel
theorem dX6_figures_128 : decode cX6_figures 128 = .ok (.putfield 53, 3) := by decide +kernel
theorem dX6_figures_131 : decode cX6_figures 131 = .ok (.iinc 2 1, 3) := by decide +kernel
theorem dX6_figures_134 : decode cX6_figures 134 = .ok (.goto (-132), 3) := by decide +kernel
theorem dX6_figures_137 : decode cX6_figures 137 = .ok (.iconst 1, 1) := by decide +kernel
theorem dX6_figures_138 : decode cX6_figures 138 = .ok (.ireturn, 1) := by decide +kernel
theorem dX6_isRead_0 : decode cX6_isRead 0 = .ok (.iload_n 1, 1) := by decide +kernel
theorem dX6_isRead_1 : decode cX6_isRead 1 = .ok (.bipush 7, 2) := by decide +kernel
theorem dX6_isRead_3 : decode cX6_isRead 3 = .ok (.if_icmp .gt 25, 3) := by decide +kernel
theorem dX6_isRead_6 : decode cX6_isRead 6 = .ok (.aload_n 0, 1) := by decide +kernel
theorem dX6_isRead_7 : decode cX6_isRead 7 = .ok (.getfield 13, 3) := by decide +kernel
theorem dX6_isRead_10 : decode cX6_isRead 10 = .ok (.sipush 288, 3) := by decide +kernel
theorem dX6_isRead_13 : decode cX6_isRead 13 = .ok (.bipush 9, 2) := by decide +kernel
theorem dX6_isRead_15 : decode cX6_isRead 15 = .ok (.iload_n 1, 1) := by decide +kernel
theorem dX6_isRead_16 : decode cX6_isRead 16 = .ok (.imul, 1) := by decide +kernel
theorem dX6_isRead_17 : decode cX6_isRead 17 = .ok (.iadd, 1) := by decide +kernel
theorem dX6_isRead_18 : decode cX6_isRead 18 = .ok (.laload, 1) := by decide +kernel
theorem dX6_isRead_19 : decode cX6_isRead 19 = .ok (.lconst 0, 1) := by decide +kernel
theorem dX6_isRead_20 : decode cX6_isRead 20 = .ok (.lcmp, 1) := by decide +kernel
theorem dX6_isRead_21 : decode cX6_isRead 21 = .ok (.ifCond .le 7, 3) := by decide +kernel
theorem dX6_isRead_24 : decode cX6_isRead 24 = .ok (.iconst 1, 1) := by decide +kernel
theorem dX6_isRead_25 : decode cX6_isRead 25 = .ok (.goto 4, 3) := by decide +kernel
theorem dX6_isRead_28 : decode cX6_isRead 28 = .ok (.iconst 0, 1) := by decide +kernel
theorem dX6_isRead_29 : decode cX6_isRead 29 = .ok (.ireturn, 1) := by decide +kernel
set_option maxRecDepth 20000 in
theorem ggX6_realmItem_X6_figures : GoodIn wsX6_realmItem wsX6_figures := goodIn_r _ [8, 9, 10, 11, 12, 1, 13, 14, 15, 7, 16, 17, 18, 19, 20, 21, 26, 27, 28, 29, 30, 31, 32, 33, 34, 35, 36] (by decide +kernel) (by decide +kernel)
set_option maxRecDepth 20000 in
theorem gX6_realmItem_X6_figures : GoodIn wsX6_realmItem (wsV RX6 66 RX6 yX6_figures wsX6_figures) := goodIn_app (goodIn_of _ (by decide +kernel)) ggX6_realmItem_X6_figures
set_option maxRecDepth 20000 in
theorem ggX6_realmItem_X6_isRead : GoodIn wsX6_realmItem wsX6_isRead := goodIn_r _ [25, 2, 26, 27, 28, 29, 30, 31, 32, 33, 34, 35, 36] (by decide +kernel) (by decide +kernel)
set_option maxRecDepth 20000 in
theorem gX6_realmItem_X6_isRead : GoodIn wsX6_realmItem (wsV RX6 70 RX6 yX6_isRead wsX6_isRead) := goodIn_app (goodIn_of _ (by decide +kernel)) ggX6_realmItem_X6_isRead
theorem dX6_realmItem_0 : decode cX6_realmItem 0 = .ok (.aload_n 0, 1) := by decide +kernel
theorem dX6_realmItem_1 : decode cX6_realmItem 1 = .ok (.bipush 7, 2) := by decide +kernel
theorem dX6_realmItem_3 : decode cX6_realmItem 3 = .ok (.invokevirtual 66, 3) := by decide +kernel
theorem dX6_realmItem_6 : decode cX6_realmItem 6 = .ok (.ifCond .eq 67, 3) := by decide +kernel
theorem dX6_realmItem_9 : decode cX6_realmItem 9 = .ok (.aload_n 0, 1) := by decide +kernel
theorem dX6_realmItem_10 : decode cX6_realmItem 10 = .ok (.getfield 29, 3) := by decide +kernel
theorem dX6_realmItem_13 : decode cX6_realmItem 13 = .ok (.iconst 0, 1) := by decide +kernel
theorem dX6_realmItem_14 : decode cX6_realmItem 14 = .ok (.iaload, 1) := by decide +kernel
theorem dX6_realmItem_15 : decode cX6_realmItem 15 = .ok (.bipush 7, 2) := by decide +kernel
theorem dX6_realmItem_17 : decode cX6_realmItem 17 = .ok (.if_icmp .gt 56, 3) := by decide +kernel
theorem dX6_realmItem_20 : decode cX6_realmItem 20 = .ok (.aload_n 0, 1) := by decide +kernel
theorem dX6_realmItem_21 : decode cX6_realmItem 21 = .ok (.aload_n 0, 1) := by decide +kernel
theorem dX6_realmItem_22 : decode cX6_realmItem 22 = .ok (.getfield 29, 3) := by decide +kernel
theorem dX6_realmItem_25 : decode cX6_realmItem 25 = .ok (.iconst 0, 1) := by decide +kernel
theorem dX6_realmItem_26 : decode cX6_realmItem 26 = .ok (.iaload, 1) := by decide +kernel
theorem dX6_realmItem_27 : decode cX6_realmItem 27 = .ok (.invokevirtual 70, 3) := by decide +kernel
theorem dX6_realmItem_30 : decode cX6_realmItem 30 = .ok (.ifCond .ne 43, 3) := by decide +kernel
theorem dX6_realmItem_33 : decode cX6_realmItem 33 = .ok (.aload_n 0, 1) := by decide +kernel
theorem dX6_realmItem_34 : decode cX6_realmItem 34 = .ok (.getfield 29, 3) := by decide +kernel
theorem dX6_realmItem_37 : decode cX6_realmItem 37 = .ok (.iconst 1, 1) := by decide +kernel
theorem dX6_realmItem_38 : decode cX6_realmItem 38 = .ok (.iaload, 1) := by decide +kernel
theorem dX6_realmItem_39 : decode cX6_realmItem 39 = .ok (.sipush 1000, 3) := by decide +kernel
theorem dX6_realmItem_42 : decode cX6_realmItem 42 = .ok (.if_icmp .lt 31, 3) := by decide +kernel
theorem dX6_realmItem_45 : decode cX6_realmItem 45 = .ok (.aload_n 0, 1) := by decide +kernel
theorem dX6_realmItem_46 : decode cX6_realmItem 46 = .ok (.getfield 29, 3) := by decide +kernel
theorem dX6_realmItem_49 : decode cX6_realmItem 49 = .ok (.iconst 2, 1) := by decide +kernel
theorem dX6_realmItem_50 : decode cX6_realmItem 50 = .ok (.iaload, 1) := by decide +kernel
theorem dX6_realmItem_51 : decode cX6_realmItem 51 = .ok (.sipush 999, 3) := by decide +kernel
theorem dX6_realmItem_54 : decode cX6_realmItem 54 = .ok (.if_icmp .gt 19, 3) := by decide +kernel
theorem dX6_realmItem_57 : decode cX6_realmItem 57 = .ok (.aload_n 0, 1) := by decide +kernel
theorem dX6_realmItem_58 : decode cX6_realmItem 58 = .ok (.getfield 29, 3) := by decide +kernel
theorem dX6_realmItem_61 : decode cX6_realmItem 61 = .ok (.iconst 3, 1) := by decide +kernel
theorem dX6_realmItem_62 : decode cX6_realmItem 62 = .ok (.iaload, 1) := by decide +kernel
theorem dX6_realmItem_63 : decode cX6_realmItem 63 = .ok (.sipush 200, 3) := by decide +kernel
theorem dX6_realmItem_66 : decode cX6_realmItem 66 = .ok (.if_icmp .gt 7, 3) := by decide +kernel
theorem dX6_realmItem_69 : decode cX6_realmItem 69 = .ok (.iconst 1, 1) := by decide +kernel
theorem dX6_realmItem_70 : decode cX6_realmItem 70 = .ok (.goto 4, 3) := by decide +kernel
theorem dX6_realmItem_73 : decode cX6_realmItem 73 = .ok (.iconst 0, 1) := by decide +kernel
theorem dX6_realmItem_74 : decode cX6_realmItem 74 = .ok (.istore_n 1, 1) := by decide +kernel
theorem dX6_realmItem_75 : decode cX6_realmItem 75 = .ok (.iload_n 1, 1) := by decide +kernel
theorem dX6_realmItem_76 : decode cX6_realmItem 76 = .ok (.ifCond .eq 40, 3) := by decide +kernel
theorem dX6_realmItem_79 : decode cX6_realmItem 79 = .ok (.aload_n 0, 1) := by decide +kernel
theorem dX6_realmItem_80 : decode cX6_realmItem 80 = .ok (.getfield 29, 3) := by decide +kernel
theorem dX6_realmItem_83 : decode cX6_realmItem 83 = .ok (.iconst 4, 1) := by decide +kernel
theorem dX6_realmItem_84 : decode cX6_realmItem 84 = .ok (.iaload, 1) := by decide +kernel
theorem dX6_realmItem_85 : decode cX6_realmItem 85 = .ok (.sipush 9999, 3) := by decide +kernel
theorem dX6_realmItem_88 : decode cX6_realmItem 88 = .ok (.if_icmp .gt 28, 3) := by decide +kernel
theorem dX6_realmItem_91 : decode cX6_realmItem 91 = .ok (.aload_n 0, 1) := by decide +kernel
theorem dX6_realmItem_92 : decode cX6_realmItem 92 = .ok (.getfield 29, 3) := by decide +kernel
theorem dX6_realmItem_95 : decode cX6_realmItem 95 = .ok (.iconst 5, 1) := by decide +kernel
theorem dX6_realmItem_96 : decode cX6_realmItem 96 = .ok (.iaload, 1) := by decide +kernel
theorem dX6_realmItem_97 : decode cX6_realmItem 97 = .ok (.sipush 9999, 3) := by decide +kernel
theorem dX6_realmItem_100 : decode cX6_realmItem 100 = .ok (.if_icmp .gt 16, 3) := by decide +kernel
theorem dX6_realmItem_103 : decode cX6_realmItem 103 = .ok (.aload_n 0, 1) := by decide +kernel
theorem dX6_realmItem_104 : decode cX6_realmItem 104 = .ok (.getfield 29, 3) := by decide +kernel
theorem dX6_realmItem_107 : decode cX6_realmItem 107 = .ok (.bipush 6, 2) := by decide +kernel
theorem dX6_realmItem_109 : decode cX6_realmItem 109 = .ok (.iaload, 1) := by decide +kernel
theorem dX6_realmItem_110 : decode cX6_realmItem 110 = .ok (.sipush 999, 3) := by decide +kernel
theorem dX6_realmItem_113 : decode cX6_realmItem 113 = .ok (.if_icmp .le 5, 3) := by decide +kernel
theorem dX6_realmItem_116 : decode cX6_realmItem 116 = .ok (.iconst 0, 1) := by decide +kernel
theorem dX6_realmItem_117 : decode cX6_realmItem 117 = .ok (.ireturn, 1) := by decide +kernel
theorem dX6_realmItem_118 : decode cX6_realmItem 118 = .ok (.sipush 288, 3) := by decide +kernel
theorem dX6_realmItem_121 : decode cX6_realmItem 121 = .ok (.bipush 9, 2) := by decide +kernel
theorem dX6_realmItem_123 : decode cX6_realmItem 123 = .ok (.aload_n 0, 1) := by decide +kernel
theorem dX6_realmItem_124 : decode cX6_realmItem 124 = .ok (.getfield 29, 3) := by decide +kernel
theorem dX6_realmItem_127 : decode cX6_realmItem 127 = .ok (.iconst 0, 1) := by decide +kernel
theorem dX6_realmItem_128 : decode cX6_realmItem 128 = .ok (.iaload, 1) := by decide +kernel
theorem dX6_realmItem_129 : decode cX6_realmItem 129 = .ok (.imul, 1) := by decide +kernel
theorem dX6_realmItem_130 : decode cX6_realmItem 130 = .ok (.iadd, 1) := by decide +kernel
theorem dX6_realmItem_131 : decode cX6_realmItem 131 = .ok (.istore_n 2, 1) := by decide +kernel
theorem dX6_realmItem_132 : decode cX6_realmItem 132 = .ok (.iconst 0, 1) := by decide +kernel
theorem dX6_realmItem_133 : decode cX6_realmItem 133 = .ok (.istore_n 3, 1) := by decide +kernel
theorem dX6_realmItem_134 : decode cX6_realmItem 134 = .ok (.iload_n 3, 1) := by decide +kernel
theorem dX6_realmItem_135 : decode cX6_realmItem 135 = .ok (.iconst 4, 1) := by decide +kernel
theorem dX6_realmItem_136 : decode cX6_realmItem 136 = .ok (.if_icmp .ge 26, 3) := by decide +kernel
theorem dX6_realmItem_139 : decode cX6_realmItem 139 = .ok (.aload_n 0, 1) := by decide +kernel
theorem dX6_realmItem_140 : decode cX6_realmItem 140 = .ok (.getfield 13, 3) := by decide +kernel
theorem dX6_realmItem_143 : decode cX6_realmItem 143 = .ok (.iload_n 2, 1) := by decide +kernel
theorem dX6_realmItem_144 : decode cX6_realmItem 144 = .ok (.iload_n 3, 1) := by decide +kernel
theorem dX6_realmItem_145 : decode cX6_realmItem 145 = .ok (.iadd, 1) := by decide +kernel
theorem dX6_realmItem_146 : decode cX6_realmItem 146 = .ok (.aload_n 0, 1) := by decide +kernel
theorem dX6_realmItem_147 : decode cX6_realmItem 147 = .ok (.getfield 29, 3) := by decide +kernel
theorem dX6_realmItem_150 : decode cX6_realmItem 150 = .ok (.iload_n 3, 1) := by decide +kernel
theorem dX6_realmItem_151 : decode cX6_realmItem 151 = .ok (.iconst 1, 1) := by decide +kernel
theorem dX6_realmItem_152 : decode cX6_realmItem 152 = .ok (.iadd, 1) := by decide +kernel
theorem dX6_realmItem_153 : decode cX6_realmItem 153 = .ok (.iaload, 1) := by decide +kernel
theorem dX6_realmItem_154 : decode cX6_realmItem 154 = .ok (.i2l, 1) := by decide +kernel
theorem dX6_realmItem_155 : decode cX6_realmItem 155 = .ok (.lastore, 1) := by decide +kernel
theorem dX6_realmItem_156 : decode cX6_realmItem 156 = .ok (.iinc 3 1, 3) := by decide +kernel
theorem dX6_realmItem_159 : decode cX6_realmItem 159 = .ok (.goto (-25), 3) := by decide +kernel
theorem dX6_realmItem_162 : decode cX6_realmItem 162 = .ok (.aload_n 0, 1) := by decide +kernel
theorem dX6_realmItem_163 : decode cX6_realmItem 163 = .ok (.getfield 13, 3) := by decide +kernel
theorem dX6_realmItem_166 : decode cX6_realmItem 166 = .ok (.iload_n 2, 1) := by decide +kernel
theorem dX6_realmItem_167 : decode cX6_realmItem 167 = .ok (.iconst 4, 1) := by decide +kernel
theorem dX6_realmItem_168 : decode cX6_realmItem 168 = .ok (.iadd, 1) := by decide +kernel
theorem dX6_realmItem_169 : decode cX6_realmItem 169 = .ok (.ldc2_w 73, 3) := by decide +kernel
theorem dX6_realmItem_172 : decode cX6_realmItem 172 = .ok (.aload_n 0, 1) := by decide +kernel
theorem dX6_realmItem_173 : decode cX6_realmItem 173 = .ok (.getfield 29, 3) := by decide +kernel
theorem dX6_realmItem_176 : decode cX6_realmItem 176 = .ok (.iconst 5, 1) := by decide +kernel
theorem dX6_realmItem_177 : decode cX6_realmItem 177 = .ok (.iaload, 1) := by decide +kernel
theorem dX6_realmItem_178 : decode cX6_realmItem 178 = .ok (.i2l, 1) := by decide +kernel
theorem dX6_realmItem_179 : decode cX6_realmItem 179 = .ok (.lmul, 1) := by decide +kernel
theorem dX6_realmItem_180 : decode cX6_realmItem 180 = .ok (.lastore, 1) := by decide +kernel
theorem dX6_realmItem_181 : decode cX6_realmItem 181 = .ok (.aload_n 0, 1) := by decide +kernel
theorem dX6_realmItem_182 : decode cX6_realmItem 182 = .ok (.getfield 13, 3) := by decide +kernel
theorem dX6_realmItem_185 : decode cX6_realmItem 185 = .ok (.iload_n 2, 1) := by decide +kernel
theorem dX6_realmItem_186 : decode cX6_realmItem 186 = .ok (.iconst 5, 1) := by decide +kernel
theorem dX6_realmItem_187 : decode cX6_realmItem 187 = .ok (.iadd, 1) := by decide +kernel
theorem dX6_realmItem_188 : decode cX6_realmItem 188 = .ok (.aload_n 0, 1) := by decide +kernel
theorem dX6_realmItem_189 : decode cX6_realmItem 189 = .ok (.getfield 29, 3) := by decide +kernel
theorem dX6_realmItem_192 : decode cX6_realmItem 192 = .ok (.bipush 6, 2) := by decide +kernel
theorem dX6_realmItem_194 : decode cX6_realmItem 194 = .ok (.iaload, 1) := by decide +kernel
theorem dX6_realmItem_195 : decode cX6_realmItem 195 = .ok (.i2l, 1) := by decide +kernel
theorem dX6_realmItem_196 : decode cX6_realmItem 196 = .ok (.lastore, 1) := by decide +kernel
theorem dX6_realmItem_197 : decode cX6_realmItem 197 = .ok (.aload_n 0, 1) := by decide +kernel
theorem dX6_realmItem_198 : decode cX6_realmItem 198 = .ok (.getfield 13, 3) := by decide +kernel
theorem dX6_realmItem_201 : decode cX6_realmItem 201 = .ok (.iload_n 2, 1) := by decide +kernel
theorem dX6_realmItem_202 : decode cX6_realmItem 202 = .ok (.bipush 6, 2) := by decide +kernel
theorem dX6_realmItem_204 : decode cX6_realmItem 204 = .ok (.iadd, 1) := by decide +kernel
theorem dX6_realmItem_205 : decode cX6_realmItem 205 = .ok (.lconst 1, 1) := by decide +kernel
theorem dX6_realmItem_206 : decode cX6_realmItem 206 = .ok (.lastore, 1) := by decide +kernel
theorem dX6_realmItem_207 : decode cX6_realmItem 207 = .ok (.iconst 1, 1) := by decide +kernel
theorem dX6_realmItem_208 : decode cX6_realmItem 208 = .ok (.ireturn, 1) := by decide +kernel
set_option maxRecDepth 20000 in
theorem ggX6_mineItem_X6_figures : GoodIn wsX6_mineItem wsX6_figures := goodIn_r _ [8, 9, 10, 11, 12, 1, 13, 14, 15, 7, 16, 17, 18, 19, 20, 21, 22, 23, 24, 25, 26, 27, 28, 29, 30, 31, 32] (by decide +kernel) (by decide +kernel)
set_option maxRecDepth 20000 in
theorem gX6_mineItem_X6_figures : GoodIn wsX6_mineItem (wsV RX6 66 RX6 yX6_figures wsX6_figures) := goodIn_app (goodIn_of _ (by decide +kernel)) ggX6_mineItem_X6_figures
theorem dX6_mineItem_0 : decode cX6_mineItem 0 = .ok (.aload_n 0, 1) := by decide +kernel
theorem dX6_mineItem_1 : decode cX6_mineItem 1 = .ok (.iconst 3, 1) := by decide +kernel
theorem dX6_mineItem_2 : decode cX6_mineItem 2 = .ok (.invokevirtual 66, 3) := by decide +kernel
theorem dX6_mineItem_5 : decode cX6_mineItem 5 = .ok (.ifCond .eq 38, 3) := by decide +kernel
theorem dX6_mineItem_8 : decode cX6_mineItem 8 = .ok (.aload_n 0, 1) := by decide +kernel
theorem dX6_mineItem_9 : decode cX6_mineItem 9 = .ok (.getfield 29, 3) := by decide +kernel
theorem dX6_mineItem_12 : decode cX6_mineItem 12 = .ok (.iconst 0, 1) := by decide +kernel
theorem dX6_mineItem_13 : decode cX6_mineItem 13 = .ok (.iaload, 1) := by decide +kernel
theorem dX6_mineItem_14 : decode cX6_mineItem 14 = .ok (.bipush 99, 2) := by decide +kernel
theorem dX6_mineItem_16 : decode cX6_mineItem 16 = .ok (.if_icmp .gt 27, 3) := by decide +kernel
theorem dX6_mineItem_19 : decode cX6_mineItem 19 = .ok (.aload_n 0, 1) := by decide +kernel
theorem dX6_mineItem_20 : decode cX6_mineItem 20 = .ok (.getfield 29, 3) := by decide +kernel
theorem dX6_mineItem_23 : decode cX6_mineItem 23 = .ok (.iconst 1, 1) := by decide +kernel
theorem dX6_mineItem_24 : decode cX6_mineItem 24 = .ok (.iaload, 1) := by decide +kernel
theorem dX6_mineItem_25 : decode cX6_mineItem 25 = .ok (.sipush 9999, 3) := by decide +kernel
theorem dX6_mineItem_28 : decode cX6_mineItem 28 = .ok (.if_icmp .gt 15, 3) := by decide +kernel
theorem dX6_mineItem_31 : decode cX6_mineItem 31 = .ok (.aload_n 0, 1) := by decide +kernel
theorem dX6_mineItem_32 : decode cX6_mineItem 32 = .ok (.getfield 29, 3) := by decide +kernel
theorem dX6_mineItem_35 : decode cX6_mineItem 35 = .ok (.iconst 2, 1) := by decide +kernel
theorem dX6_mineItem_36 : decode cX6_mineItem 36 = .ok (.iaload, 1) := by decide +kernel
theorem dX6_mineItem_37 : decode cX6_mineItem 37 = .ok (.sipush 9999, 3) := by decide +kernel
theorem dX6_mineItem_40 : decode cX6_mineItem 40 = .ok (.if_icmp .le 5, 3) := by decide +kernel
theorem dX6_mineItem_43 : decode cX6_mineItem 43 = .ok (.iconst 0, 1) := by decide +kernel
theorem dX6_mineItem_44 : decode cX6_mineItem 44 = .ok (.ireturn, 1) := by decide +kernel
theorem dX6_mineItem_45 : decode cX6_mineItem 45 = .ok (.sipush 180, 3) := by decide +kernel
theorem dX6_mineItem_48 : decode cX6_mineItem 48 = .ok (.iconst 3, 1) := by decide +kernel
theorem dX6_mineItem_49 : decode cX6_mineItem 49 = .ok (.aload_n 0, 1) := by decide +kernel
theorem dX6_mineItem_50 : decode cX6_mineItem 50 = .ok (.getfield 23, 3) := by decide +kernel
theorem dX6_mineItem_53 : decode cX6_mineItem 53 = .ok (.iconst 1, 1) := by decide +kernel
theorem dX6_mineItem_54 : decode cX6_mineItem 54 = .ok (.iaload, 1) := by decide +kernel
theorem dX6_mineItem_55 : decode cX6_mineItem 55 = .ok (.imul, 1) := by decide +kernel
theorem dX6_mineItem_56 : decode cX6_mineItem 56 = .ok (.iadd, 1) := by decide +kernel
theorem dX6_mineItem_57 : decode cX6_mineItem 57 = .ok (.istore_n 1, 1) := by decide +kernel
theorem dX6_mineItem_58 : decode cX6_mineItem 58 = .ok (.iconst 0, 1) := by decide +kernel
theorem dX6_mineItem_59 : decode cX6_mineItem 59 = .ok (.istore_n 2, 1) := by decide +kernel
theorem dX6_mineItem_60 : decode cX6_mineItem 60 = .ok (.iload_n 2, 1) := by decide +kernel
theorem dX6_mineItem_61 : decode cX6_mineItem 61 = .ok (.iconst 3, 1) := by decide +kernel
theorem dX6_mineItem_62 : decode cX6_mineItem 62 = .ok (.if_icmp .ge 23, 3) := by decide +kernel
theorem dX6_mineItem_65 : decode cX6_mineItem 65 = .ok (.aload_n 0, 1) := by decide +kernel
theorem dX6_mineItem_66 : decode cX6_mineItem 66 = .ok (.getfield 26, 3) := by decide +kernel
theorem dX6_mineItem_69 : decode cX6_mineItem 69 = .ok (.iload_n 1, 1) := by decide +kernel
theorem dX6_mineItem_70 : decode cX6_mineItem 70 = .ok (.iload_n 2, 1) := by decide +kernel
theorem dX6_mineItem_71 : decode cX6_mineItem 71 = .ok (.iadd, 1) := by decide +kernel
theorem dX6_mineItem_72 : decode cX6_mineItem 72 = .ok (.aload_n 0, 1) := by decide +kernel
theorem dX6_mineItem_73 : decode cX6_mineItem 73 = .ok (.getfield 29, 3) := by decide +kernel
theorem dX6_mineItem_76 : decode cX6_mineItem 76 = .ok (.iload_n 2, 1) := by decide +kernel
theorem dX6_mineItem_77 : decode cX6_mineItem 77 = .ok (.iaload, 1) := by decide +kernel
theorem dX6_mineItem_78 : decode cX6_mineItem 78 = .ok (.iastore, 1) := by decide +kernel
theorem dX6_mineItem_79 : decode cX6_mineItem 79 = .ok (.iinc 2 1, 3) := by decide +kernel
theorem dX6_mineItem_82 : decode cX6_mineItem 82 = .ok (.goto (-22), 3) := by decide +kernel
theorem dX6_mineItem_85 : decode cX6_mineItem 85 = .ok (.aload_n 0, 1) := by decide +kernel
theorem dX6_mineItem_86 : decode cX6_mineItem 86 = .ok (.getfield 23, 3) := by decide +kernel
theorem dX6_mineItem_89 : decode cX6_mineItem 89 = .ok (.iconst 1, 1) := by decide +kernel
theorem dX6_mineItem_90 : decode cX6_mineItem 90 = .ok (.dup2, 1) := by decide +kernel
theorem dX6_mineItem_91 : decode cX6_mineItem 91 = .ok (.iaload, 1) := by decide +kernel
theorem dX6_mineItem_92 : decode cX6_mineItem 92 = .ok (.iconst 1, 1) := by decide +kernel
theorem dX6_mineItem_93 : decode cX6_mineItem 93 = .ok (.iadd, 1) := by decide +kernel
theorem dX6_mineItem_94 : decode cX6_mineItem 94 = .ok (.iastore, 1) := by decide +kernel
theorem dX6_mineItem_95 : decode cX6_mineItem 95 = .ok (.iconst 1, 1) := by decide +kernel
theorem dX6_mineItem_96 : decode cX6_mineItem 96 = .ok (.ireturn, 1) := by decide +kernel
set_option maxRecDepth 20000 in
theorem ggX6_item_X6_byteAt : GoodIn wsX6_item wsX6_byteAt := goodIn_r _ [12, 13, 14, 39, 40, 41, 42, 43, 44, 45, 46, 47, 48, 49] (by decide +kernel) (by decide +kernel)
set_option maxRecDepth 20000 in
theorem gX6_item_X6_byteAt : GoodIn wsX6_item (wsV RX6 56 RX6 yX6_byteAt wsX6_byteAt) := goodIn_app (goodIn_of _ (by decide +kernel)) ggX6_item_X6_byteAt
set_option maxRecDepth 20000 in
theorem ggX6_item_X6_realmItem : GoodIn wsX6_item wsX6_realmItem := goodIn_r _ [18, 2, 3, 5, 19, 20, 21, 11, 22, 1, 23, 24, 25, 8, 9, 10, 12, 13, 14, 26, 27, 28, 29, 30, 31, 32, 39, 40, 41, 42, 43, 44, 45, 46, 47, 48, 49] (by decide +kernel) (by decide +kernel)
set_option maxRecDepth 20000 in
theorem gX6_item_X6_realmItem : GoodIn wsX6_item (wsV RX6 75 RX6 yX6_realmItem wsX6_realmItem) := goodIn_app (goodIn_of _ (by decide +kernel)) ggX6_item_X6_realmItem
set_option maxRecDepth 20000 in
theorem ggX6_item_X6_figures : GoodIn wsX6_item wsX6_figures := goodIn_r _ [22, 1, 23, 24, 25, 2, 8, 9, 10, 11, 12, 13, 14, 26, 27, 28, 39, 40, 41, 42, 43, 44, 45, 46, 47, 48, 49] (by decide +kernel) (by decide +kernel)
set_option maxRecDepth 20000 in
theorem gX6_item_X6_figures : GoodIn wsX6_item (wsV RX6 66 RX6 yX6_figures wsX6_figures) := goodIn_app (goodIn_of _ (by decide +kernel)) ggX6_item_X6_figures
set_option maxRecDepth 20000 in
theorem ggX6_item_X6_isRead : GoodIn wsX6_item wsX6_isRead := goodIn_r _ [32, 3, 39, 40, 41, 42, 43, 44, 45, 46, 47, 48, 49] (by decide +kernel) (by decide +kernel)
set_option maxRecDepth 20000 in
theorem gX6_item_X6_isRead : GoodIn wsX6_item (wsV RX6 70 RX6 yX6_isRead wsX6_isRead) := goodIn_app (goodIn_of _ (by decide +kernel)) ggX6_item_X6_isRead
set_option maxRecDepth 20000 in
theorem ggX6_item_X6_in : GoodIn wsX6_item wsX6_in := goodIn_r _ [28] (by decide +kernel) (by decide +kernel)
set_option maxRecDepth 20000 in
theorem gX6_item_X6_in : GoodIn wsX6_item (va_wsS RX6 43 yX6_in wsX6_in) := goodIn_app (goodIn_of _ (by decide +kernel)) ggX6_item_X6_in
set_option maxRecDepth 20000 in
theorem ggX6_item_X6_mineItem : GoodIn wsX6_item wsX6_mineItem := goodIn_r _ [36, 2, 37, 38, 19, 20, 21, 11, 22, 1, 23, 24, 25, 8, 9, 10, 12, 13, 14, 26, 27, 28, 39, 40, 41, 42, 43, 44, 45, 46, 47, 48, 49] (by decide +kernel) (by decide +kernel)
set_option maxRecDepth 20000 in
theorem gX6_item_X6_mineItem : GoodIn wsX6_item (wsV RX6 81 RX6 yX6_mineItem wsX6_mineItem) := goodIn_app (goodIn_of _ (by decide +kernel)) ggX6_item_X6_mineItem
theorem dX6_item_0 : decode cX6_item 0 = .ok (.aload_n 0, 1) := by decide +kernel
theorem dX6_item_1 : decode cX6_item 1 = .ok (.aload_n 0, 1) := by decide +kernel
theorem dX6_item_2 : decode cX6_item 2 = .ok (.getfield 53, 3) := by decide +kernel
theorem dX6_item_5 : decode cX6_item 5 = .ok (.invokevirtual 56, 3) := by decide +kernel
theorem dX6_item_8 : decode cX6_item 8 = .ok (.istore_n 1, 1) := by decide +kernel
theorem dX6_item_9 : decode cX6_item 9 = .ok (.aload_n 0, 1) := by decide +kernel
theorem dX6_item_10 : decode cX6_item 10 = .ok (.dup, 1) := by decide +kernel
theorem dX6_item_11 : decode cX6_item 11 = .ok (.getfield 53, 3) := by decide +kernel
theorem dX6_item_14 : decode cX6_item 14 = .ok (.iconst 1, 1) := by decide +kernel
theorem dX6_item_15 : decode cX6_item 15 = .ok (.iadd, 1) := by decide +kernel
theorem dX6_item_16 : decode cX6_item 16 = .ok (.putfield 53, 3) := by decide +kernel
theorem dX6_item_19 : decode cX6_item 19 = .ok (.iload_n 1, 1) := by decide +kernel
theorem dX6_item_20 : decode cX6_item 20 = .ok (.tableswitch 269 103 115 #[264, 269, 269, 269, 223, 73, 179, 269, 269, 269, 269, 68, 117], 68) := by decide +kernel
theorem dX6_item_88 : decode cX6_item 88 = .ok (.aload_n 0, 1) := by decide +kernel
theorem dX6_item_89 : decode cX6_item 89 = .ok (.invokevirtual 75, 3) := by decide +kernel
theorem dX6_item_92 : decode cX6_item 92 = .ok (.ireturn, 1) := by decide +kernel
theorem dX6_item_93 : decode cX6_item 93 = .ok (.aload_n 0, 1) := by decide +kernel
theorem dX6_item_94 : decode cX6_item 94 = .ok (.iconst 1, 1) := by decide +kernel
theorem dX6_item_95 : decode cX6_item 95 = .ok (.invokevirtual 66, 3) := by decide +kernel
theorem dX6_item_98 : decode cX6_item 98 = .ok (.ifCond .eq 16, 3) := by decide +kernel
theorem dX6_item_101 : decode cX6_item 101 = .ok (.aload_n 0, 1) := by decide +kernel
theorem dX6_item_102 : decode cX6_item 102 = .ok (.aload_n 0, 1) := by decide +kernel
theorem dX6_item_103 : decode cX6_item 103 = .ok (.getfield 29, 3) := by decide +kernel
theorem dX6_item_106 : decode cX6_item 106 = .ok (.iconst 0, 1) := by decide +kernel
theorem dX6_item_107 : decode cX6_item 107 = .ok (.iaload, 1) := by decide +kernel
theorem dX6_item_108 : decode cX6_item 108 = .ok (.invokevirtual 70, 3) := by decide +kernel
theorem dX6_item_111 : decode cX6_item 111 = .ok (.ifCond .ne 5, 3) := by decide +kernel
theorem dX6_item_114 : decode cX6_item 114 = .ok (.iconst 0, 1) := by decide +kernel
theorem dX6_item_115 : decode cX6_item 115 = .ok (.ireturn, 1) := by decide +kernel
theorem dX6_item_116 : decode cX6_item 116 = .ok (.aload_n 0, 1) := by decide +kernel
theorem dX6_item_117 : decode cX6_item 117 = .ok (.getfield 13, 3) := by decide +kernel
theorem dX6_item_120 : decode cX6_item 120 = .ok (.sipush 295, 3) := by decide +kernel
theorem dX6_item_123 : decode cX6_item 123 = .ok (.bipush 9, 2) := by decide +kernel
theorem dX6_item_125 : decode cX6_item 125 = .ok (.aload_n 0, 1) := by decide +kernel
theorem dX6_item_126 : decode cX6_item 126 = .ok (.getfield 29, 3) := by decide +kernel
theorem dX6_item_129 : decode cX6_item 129 = .ok (.iconst 0, 1) := by decide +kernel
theorem dX6_item_130 : decode cX6_item 130 = .ok (.iaload, 1) := by decide +kernel
theorem dX6_item_131 : decode cX6_item 131 = .ok (.imul, 1) := by decide +kernel
theorem dX6_item_132 : decode cX6_item 132 = .ok (.iadd, 1) := by decide +kernel
theorem dX6_item_133 : decode cX6_item 133 = .ok (.lconst 1, 1) := by decide +kernel
theorem dX6_item_134 : decode cX6_item 134 = .ok (.lastore, 1) := by decide +kernel
theorem dX6_item_135 : decode cX6_item 135 = .ok (.iconst 1, 1) := by decide +kernel
theorem dX6_item_136 : decode cX6_item 136 = .ok (.ireturn, 1) := by decide +kernel
theorem dX6_item_137 : decode cX6_item 137 = .ok (.aload_n 0, 1) := by decide +kernel
theorem dX6_item_138 : decode cX6_item 138 = .ok (.iconst 2, 1) := by decide +kernel
theorem dX6_item_139 : decode cX6_item 139 = .ok (.invokevirtual 66, 3) := by decide +kernel
theorem dX6_item_142 : decode cX6_item 142 = .ok (.ifCond .eq 28, 3) := by decide +kernel
theorem dX6_item_145 : decode cX6_item 145 = .ok (.aload_n 0, 1) := by decide +kernel
theorem dX6_item_146 : decode cX6_item 146 = .ok (.aload_n 0, 1) := by decide +kernel
theorem dX6_item_147 : decode cX6_item 147 = .ok (.getfield 29, 3) := by decide +kernel
theorem dX6_item_150 : decode cX6_item 150 = .ok (.iconst 0, 1) := by decide +kernel
theorem dX6_item_151 : decode cX6_item 151 = .ok (.iaload, 1) := by decide +kernel
theorem dX6_item_152 : decode cX6_item 152 = .ok (.invokevirtual 70, 3) := by decide +kernel
theorem dX6_item_155 : decode cX6_item 155 = .ok (.ifCond .eq 15, 3) := by decide +kernel
theorem dX6_item_158 : decode cX6_item 158 = .ok (.aload_n 0, 1) := by decide +kernel
theorem dX6_item_159 : decode cX6_item 159 = .ok (.getfield 29, 3) := by decide +kernel
theorem dX6_item_162 : decode cX6_item 162 = .ok (.iconst 1, 1) := by decide +kernel
theorem dX6_item_163 : decode cX6_item 163 = .ok (.iaload, 1) := by decide +kernel
theorem dX6_item_164 : decode cX6_item 164 = .ok (.sipush 9999, 3) := by decide +kernel
theorem dX6_item_167 : decode cX6_item 167 = .ok (.if_icmp .le 5, 3) := by decide +kernel
theorem dX6_item_170 : decode cX6_item 170 = .ok (.iconst 0, 1) := by decide +kernel
theorem dX6_item_171 : decode cX6_item 171 = .ok (.ireturn, 1) := by decide +kernel
theorem dX6_item_172 : decode cX6_item 172 = .ok (.aload_n 0, 1) := by decide +kernel
theorem dX6_item_173 : decode cX6_item 173 = .ok (.getfield 13, 3) := by decide +kernel
theorem dX6_item_176 : decode cX6_item 176 = .ok (.sipush 296, 3) := by decide +kernel
theorem dX6_item_179 : decode cX6_item 179 = .ok (.bipush 9, 2) := by decide +kernel
theorem dX6_item_181 : decode cX6_item 181 = .ok (.aload_n 0, 1) := by decide +kernel
theorem dX6_item_182 : decode cX6_item 182 = .ok (.getfield 29, 3) := by decide +kernel
theorem dX6_item_185 : decode cX6_item 185 = .ok (.iconst 0, 1) := by decide +kernel
theorem dX6_item_186 : decode cX6_item 186 = .ok (.iaload, 1) := by decide +kernel
theorem dX6_item_187 : decode cX6_item 187 = .ok (.imul, 1) := by decide +kernel
theorem dX6_item_188 : decode cX6_item 188 = .ok (.iadd, 1) := by decide +kernel
theorem dX6_item_189 : decode cX6_item 189 = .ok (.aload_n 0, 1) := by decide +kernel
theorem dX6_item_190 : decode cX6_item 190 = .ok (.getfield 29, 3) := by decide +kernel
theorem dX6_item_193 : decode cX6_item 193 = .ok (.iconst 1, 1) := by decide +kernel
theorem dX6_item_194 : decode cX6_item 194 = .ok (.iaload, 1) := by decide +kernel
theorem dX6_item_195 : decode cX6_item 195 = .ok (.i2l, 1) := by decide +kernel
theorem dX6_item_196 : decode cX6_item 196 = .ok (.lastore, 1) := by decide +kernel
theorem dX6_item_197 : decode cX6_item 197 = .ok (.iconst 1, 1) := by decide +kernel
theorem dX6_item_198 : decode cX6_item 198 = .ok (.ireturn, 1) := by decide +kernel
theorem dX6_item_199 : decode cX6_item 199 = .ok (.aload_n 0, 1) := by decide +kernel
theorem dX6_item_200 : decode cX6_item 200 = .ok (.iconst 2, 1) := by decide +kernel
theorem dX6_item_201 : decode cX6_item 201 = .ok (.invokevirtual 66, 3) := by decide +kernel
theorem dX6_item_204 : decode cX6_item 204 = .ok (.ifCond .ne 5, 3) := by decide +kernel
theorem dX6_item_207 : decode cX6_item 207 = .ok (.iconst 0, 1) := by decide +kernel
theorem dX6_item_208 : decode cX6_item 208 = .ok (.ireturn, 1) := by decide +kernel
theorem dX6_item_209 : decode cX6_item 209 = .ok (.aload_n 0, 1) := by decide +kernel
theorem dX6_item_210 : decode cX6_item 210 = .ok (.getfield 17, 3) := by decide +kernel
theorem dX6_item_213 : decode cX6_item 213 = .ok (.bipush 12, 2) := by decide +kernel
theorem dX6_item_215 : decode cX6_item 215 = .ok (.aload_n 0, 1) := by decide +kernel
theorem dX6_item_216 : decode cX6_item 216 = .ok (.getfield 29, 3) := by decide +kernel
theorem dX6_item_219 : decode cX6_item 219 = .ok (.iconst 0, 1) := by decide +kernel
theorem dX6_item_220 : decode cX6_item 220 = .ok (.iaload, 1) := by decide +kernel
theorem dX6_item_221 : decode cX6_item 221 = .ok (.i2l, 1) := by decide +kernel
theorem dX6_item_222 : decode cX6_item 222 = .ok (.lastore, 1) := by decide +kernel
theorem dX6_item_223 : decode cX6_item 223 = .ok (.aload_n 0, 1) := by decide +kernel
theorem dX6_item_224 : decode cX6_item 224 = .ok (.getfield 17, 3) := by decide +kernel
theorem dX6_item_227 : decode cX6_item 227 = .ok (.bipush 13, 2) := by decide +kernel
theorem dX6_item_229 : decode cX6_item 229 = .ok (.ldc2_w 73, 3) := by decide +kernel
theorem dX6_item_232 : decode cX6_item 232 = .ok (.aload_n 0, 1) := by decide +kernel
theorem dX6_item_233 : decode cX6_item 233 = .ok (.getfield 29, 3) := by decide +kernel
theorem dX6_item_236 : decode cX6_item 236 = .ok (.iconst 1, 1) := by decide +kernel
theorem dX6_item_237 : decode cX6_item 237 = .ok (.iaload, 1) := by decide +kernel
theorem dX6_item_238 : decode cX6_item 238 = .ok (.i2l, 1) := by decide +kernel
theorem dX6_item_239 : decode cX6_item 239 = .ok (.lmul, 1) := by decide +kernel
theorem dX6_item_240 : decode cX6_item 240 = .ok (.lastore, 1) := by decide +kernel
theorem dX6_item_241 : decode cX6_item 241 = .ok (.iconst 1, 1) := by decide +kernel
theorem dX6_item_242 : decode cX6_item 242 = .ok (.ireturn, 1) := by decide +kernel
theorem dX6_item_243 : decode cX6_item 243 = .ok (.aload_n 0, 1) := by decide +kernel
theorem dX6_item_244 : decode cX6_item 244 = .ok (.iconst 1, 1) := by decide +kernel
theorem dX6_item_245 : decode cX6_item 245 = .ok (.invokevirtual 66, 3) := by decide +kernel
theorem dX6_item_248 : decode cX6_item 248 = .ok (.ifCond .eq 20, 3) := by decide +kernel
theorem dX6_item_251 : decode cX6_item 251 = .ok (.aload_n 0, 1) := by decide +kernel
theorem dX6_item_252 : decode cX6_item 252 = .ok (.getfield 29, 3) := by decide +kernel
theorem dX6_item_255 : decode cX6_item 255 = .ok (.iconst 0, 1) := by decide +kernel
theorem dX6_item_256 : decode cX6_item 256 = .ok (.iaload, 1) := by decide +kernel
theorem dX6_item_257 : decode cX6_item 257 = .ok (.i2l, 1) := by decide +kernel
theorem dX6_item_258 : decode cX6_item 258 = .ok (.lconst 1, 1) := by decide +kernel
theorem dX6_item_259 : decode cX6_item 259 = .ok (.ldc2_w 79, 3) := by decide +kernel
theorem dX6_item_262 : decode cX6_item 262 = .ok (.invokestatic 43, 3) := by decide +kernel
theorem dX6_item_265 : decode cX6_item 265 = .ok (.ifCond .ne 5, 3) := by decide +kernel
theorem dX6_item_268 : decode cX6_item 268 = .ok (.iconst 0, 1) := by decide +kernel
theorem dX6_item_269 : decode cX6_item 269 = .ok (.ireturn, 1) := by decide +kernel
theorem dX6_item_270 : decode cX6_item 270 = .ok (.aload_n 0, 1) := by decide +kernel
theorem dX6_item_271 : decode cX6_item 271 = .ok (.getfield 20, 3) := by decide +kernel
theorem dX6_item_274 : decode cX6_item 274 = .ok (.iconst 1, 1) := by decide +kernel
theorem dX6_item_275 : decode cX6_item 275 = .ok (.aload_n 0, 1) := by decide +kernel
theorem dX6_item_276 : decode cX6_item 276 = .ok (.getfield 29, 3) := by decide +kernel
theorem dX6_item_279 : decode cX6_item 279 = .ok (.iconst 0, 1) := by decide +kernel
theorem dX6_item_280 : decode cX6_item 280 = .ok (.iaload, 1) := by decide +kernel
theorem dX6_item_281 : decode cX6_item 281 = .ok (.iastore, 1) := by decide +kernel
theorem dX6_item_282 : decode cX6_item 282 = .ok (.iconst 1, 1) := by decide +kernel
theorem dX6_item_283 : decode cX6_item 283 = .ok (.ireturn, 1) := by decide +kernel
theorem dX6_item_284 : decode cX6_item 284 = .ok (.aload_n 0, 1) := by decide +kernel
theorem dX6_item_285 : decode cX6_item 285 = .ok (.invokevirtual 81, 3) := by decide +kernel
theorem dX6_item_288 : decode cX6_item 288 = .ok (.ireturn, 1) := by decide +kernel
theorem dX6_item_289 : decode cX6_item 289 = .ok (.iconst 0, 1) := by decide +kernel
theorem dX6_item_290 : decode cX6_item 290 = .ok (.ireturn, 1) := by decide +kernel
set_option maxRecDepth 20000 in
theorem ggX6_readAll_X6_noWorld : GoodIn wsX6_readAll wsX6_noWorld := goodIn_r _ [7, 8, 9, 10, 11, 12, 48, 49, 50, 51, 52, 53, 54, 55, 56, 57, 58] (by decide +kernel) (by decide +kernel)
set_option maxRecDepth 20000 in
theorem gX6_readAll_X6_noWorld : GoodIn wsX6_readAll (wsV RX6 35 RX6 yX6_noWorld wsX6_noWorld) := goodIn_app (goodIn_of _ (by decide +kernel)) ggX6_readAll_X6_noWorld
set_option maxRecDepth 20000 in
theorem ggX6_readAll_X6_item : GoodIn wsX6_readAll wsX6_item := goodIn_r _ [16, 1, 17, 8, 10, 18, 19, 11, 20, 21, 22, 6, 23, 2, 24, 25, 26, 27, 28, 29, 30, 31, 32, 33, 34, 35, 36, 37, 38, 39, 40, 41, 42, 43, 44, 45, 46, 12, 47, 48, 49, 50, 51, 52, 53, 54, 55, 56, 57, 58] (by decide +kernel) (by decide +kernel)
set_option maxRecDepth 20000 in
theorem gX6_readAll_X6_item : GoodIn wsX6_readAll (wsV RX6 84 RX6 yX6_item wsX6_item) := goodIn_app (goodIn_of _ (by decide +kernel)) ggX6_readAll_X6_item
theorem dX6_readAll_0 : decode cX6_readAll 0 = .ok (.aload_n 0, 1) := by decide +kernel
theorem dX6_readAll_1 : decode cX6_readAll 1 = .ok (.iconst 4, 1) := by decide +kernel
theorem dX6_readAll_2 : decode cX6_readAll 2 = .ok (.iconst 1, 1) := by decide +kernel
theorem dX6_readAll_3 : decode cX6_readAll 3 = .ok (.invokevirtual 35, 3) := by decide +kernel
theorem dX6_readAll_6 : decode cX6_readAll 6 = .ok (.aload_n 0, 1) := by decide +kernel
theorem dX6_readAll_7 : decode cX6_readAll 7 = .ok (.iconst 0, 1) := by decide +kernel
theorem dX6_readAll_8 : decode cX6_readAll 8 = .ok (.putfield 53, 3) := by decide +kernel
theorem dX6_readAll_11 : decode cX6_readAll 11 = .ok (.aload_n 0, 1) := by decide +kernel
theorem dX6_readAll_12 : decode cX6_readAll 12 = .ok (.getfield 53, 3) := by decide +kernel
theorem dX6_readAll_15 : decode cX6_readAll 15 = .ok (.aload_n 0, 1) := by decide +kernel
theorem dX6_readAll_16 : decode cX6_readAll 16 = .ok (.getfield 47, 3) := by decide +kernel
theorem dX6_readAll_19 : decode cX6_readAll 19 = .ok (.if_icmp .ge 20, 3) := by decide +kernel
theorem dX6_readAll_22 : decode cX6_readAll 22 = .ok (.aload_n 0, 1) := by decide +kernel
theorem dX6_readAll_23 : decode cX6_readAll 23 = .ok (.getfield 53, 3) := by decide +kernel
theorem dX6_readAll_26 : decode cX6_readAll 26 = .ok (.istore_n 1, 1) := by decide +kernel
theorem dX6_readAll_27 : decode cX6_readAll 27 = .ok (.aload_n 0, 1) := by decide +kernel
theorem dX6_readAll_28 : decode cX6_readAll 28 = .ok (.invokevirtual 84, 3) := by decide +kernel
theorem dX6_readAll_31 : decode cX6_readAll 31 = .ok (.ifCond .ne 5, 3) := by decide +kernel
theorem dX6_readAll_34 : decode cX6_readAll 34 = .ok (.iload_n 1, 1) := by decide +kernel
theorem dX6_readAll_35 : decode cX6_readAll 35 = .ok (.ireturn, 1) := by decide +kernel
theorem dX6_readAll_36 : decode cX6_readAll 36 = .ok (.goto (-25), 3) := by decide +kernel
theorem dX6_readAll_39 : decode cX6_readAll 39 = .ok (.bipush (-4), 2) := by decide +kernel
theorem dX6_readAll_41 : decode cX6_readAll 41 = .ok (.ireturn, 1) := by decide +kernel
set_option maxRecDepth 20000 in
theorem ggX6_fault_X6_readAll : GoodIn wsX6_fault wsX6_readAll := goodIn_r _ [5, 6, 7, 8, 9, 10, 4, 11, 12, 13, 14, 15, 16, 17, 18, 19, 20, 21, 22, 23, 24, 25, 26, 27, 28, 29, 30, 31, 32, 33, 34, 35, 36, 37, 38, 39, 40, 41, 42, 43, 44, 45, 46, 47, 48, 49, 50, 51, 52, 53, 54, 55, 56, 57, 58, 59, 60, 61, 62] (by decide +kernel) (by decide +kernel)
set_option maxRecDepth 20000 in
theorem gX6_fault_X6_readAll : GoodIn wsX6_fault (wsV RX6 87 RX6 yX6_readAll wsX6_readAll) := goodIn_app (goodIn_of _ (by decide +kernel)) ggX6_fault_X6_readAll
theorem dX6_fault_0 : decode cX6_fault 0 = .ok (.aload_n 0, 1) := by decide +kernel
theorem dX6_fault_1 : decode cX6_fault 1 = .ok (.invokevirtual 87, 3) := by decide +kernel
theorem dX6_fault_4 : decode cX6_fault 4 = .ok (.ireturn, 1) := by decide +kernel
theorem dX6_copy_0 : decode cX6_copy 0 = .ok (.iconst 0, 1) := by decide +kernel
theorem dX6_copy_1 : decode cX6_copy 1 = .ok (.istore_n 3, 1) := by decide +kernel
theorem dX6_copy_2 : decode cX6_copy 2 = .ok (.iload_n 3, 1) := by decide +kernel
theorem dX6_copy_3 : decode cX6_copy 3 = .ok (.bipush 72, 2) := by decide +kernel
theorem dX6_copy_5 : decode cX6_copy 5 = .ok (.if_icmp .ge 31, 3) := by decide +kernel
theorem dX6_copy_8 : decode cX6_copy 8 = .ok (.aload_n 0, 1) := by decide +kernel
theorem dX6_copy_9 : decode cX6_copy 9 = .ok (.getfield 13, 3) := by decide +kernel
theorem dX6_copy_12 : decode cX6_copy 12 = .ok (.bipush 72, 2) := by decide +kernel
theorem dX6_copy_14 : decode cX6_copy 14 = .ok (.iload_n 2, 1) := by decide +kernel
theorem dX6_copy_15 : decode cX6_copy 15 = .ok (.imul, 1) := by decide +kernel
theorem dX6_copy_16 : decode cX6_copy 16 = .ok (.iload_n 3, 1) := by decide +kernel
theorem dX6_copy_17 : decode cX6_copy 17 = .ok (.iadd, 1) := by decide +kernel
theorem dX6_copy_18 : decode cX6_copy 18 = .ok (.aload_n 0, 1) := by decide +kernel
theorem dX6_copy_19 : decode cX6_copy 19 = .ok (.getfield 13, 3) := by decide +kernel
theorem dX6_copy_22 : decode cX6_copy 22 = .ok (.bipush 72, 2) := by decide +kernel
theorem dX6_copy_24 : decode cX6_copy 24 = .ok (.iload_n 1, 1) := by decide +kernel
theorem dX6_copy_25 : decode cX6_copy 25 = .ok (.imul, 1) := by decide +kernel
theorem dX6_copy_26 : decode cX6_copy 26 = .ok (.iload_n 3, 1) := by decide +kernel
theorem dX6_copy_27 : decode cX6_copy 27 = .ok (.iadd, 1) := by decide +kernel
theorem dX6_copy_28 : decode cX6_copy 28 = .ok (.laload, 1) := by decide +kernel
theorem dX6_copy_29 : decode cX6_copy 29 = .ok (.lastore, 1) := by decide +kernel
theorem dX6_copy_30 : decode cX6_copy 30 = .ok (.iinc 3 1, 3) := by decide +kernel
theorem dX6_copy_33 : decode cX6_copy 33 = .ok (.goto (-31), 3) := by decide +kernel
theorem dX6_copy_36 : decode cX6_copy 36 = .ok (.iconst 0, 1) := by decide +kernel
theorem dX6_copy_37 : decode cX6_copy 37 = .ok (.istore_n 3, 1) := by decide +kernel
theorem dX6_copy_38 : decode cX6_copy 38 = .ok (.iload_n 3, 1) := by decide +kernel
theorem dX6_copy_39 : decode cX6_copy 39 = .ok (.iconst 3, 1) := by decide +kernel
theorem dX6_copy_40 : decode cX6_copy 40 = .ok (.if_icmp .ge 29, 3) := by decide +kernel
theorem dX6_copy_43 : decode cX6_copy 43 = .ok (.aload_n 0, 1) := by decide +kernel
theorem dX6_copy_44 : decode cX6_copy 44 = .ok (.getfield 17, 3) := by decide +kernel
theorem dX6_copy_47 : decode cX6_copy 47 = .ok (.iconst 3, 1) := by decide +kernel
theorem dX6_copy_48 : decode cX6_copy 48 = .ok (.iload_n 2, 1) := by decide +kernel
theorem dX6_copy_49 : decode cX6_copy 49 = .ok (.imul, 1) := by decide +kernel
theorem dX6_copy_50 : decode cX6_copy 50 = .ok (.iload_n 3, 1) := by decide +kernel
theorem dX6_copy_51 : decode cX6_copy 51 = .ok (.iadd, 1) := by decide +kernel
theorem dX6_copy_52 : decode cX6_copy 52 = .ok (.aload_n 0, 1) := by decide +kernel
theorem dX6_copy_53 : decode cX6_copy 53 = .ok (.getfield 17, 3) := by decide +kernel
theorem dX6_copy_56 : decode cX6_copy 56 = .ok (.iconst 3, 1) := by decide +kernel
theorem dX6_copy_57 : decode cX6_copy 57 = .ok (.iload_n 1, 1) := by decide +kernel
theorem dX6_copy_58 : decode cX6_copy 58 = .ok (.imul, 1) := by decide +kernel
theorem dX6_copy_59 : decode cX6_copy 59 = .ok (.iload_n 3, 1) := by decide +kernel
theorem dX6_copy_60 : decode cX6_copy 60 = .ok (.iadd, 1) := by decide +kernel
theorem dX6_copy_61 : decode cX6_copy 61 = .ok (.laload, 1) := by decide +kernel
theorem dX6_copy_62 : decode cX6_copy 62 = .ok (.lastore, 1) := by decide +kernel
theorem dX6_copy_63 : decode cX6_copy 63 = .ok (.iinc 3 1, 3) := by decide +kernel
theorem dX6_copy_66 : decode cX6_copy 66 = .ok (.goto (-28), 3) := by decide +kernel
theorem dX6_copy_69 : decode cX6_copy 69 = .ok (.return_, 1) := by decide +kernel
set_option maxRecDepth 20000 in
theorem ggX6_realmMany_X6_isRealm : GoodIn wsX6_realmMany wsX6_isRealm := goodIn_r _ [5, 6, 7, 8, 9, 4, 10, 15, 16, 17, 18, 19, 20, 21, 22, 23, 24, 25] (by decide +kernel) (by decide +kernel)
set_option maxRecDepth 20000 in
theorem gX6_realmMany_X6_isRealm : GoodIn wsX6_realmMany (wsV RX6 91 RX6 yX6_isRealm wsX6_isRealm) := goodIn_app (goodIn_of _ (by decide +kernel)) ggX6_realmMany_X6_isRealm
set_option maxRecDepth 20000 in
theorem ggX6_realmMany_X6_mints : GoodIn wsX6_realmMany wsX6_mints := goodIn_r _ [14, 7, 15, 16, 17, 18, 19, 20, 21, 22, 23, 24, 25] (by decide +kernel) (by decide +kernel)
set_option maxRecDepth 20000 in
theorem gX6_realmMany_X6_mints : GoodIn wsX6_realmMany (wsV RX6 94 RX6 yX6_mints wsX6_mints) := goodIn_app (goodIn_of _ (by decide +kernel)) ggX6_realmMany_X6_mints
theorem dX6_realmMany_0 : decode cX6_realmMany 0 = .ok (.iconst 0, 1) := by decide +kernel
theorem dX6_realmMany_1 : decode cX6_realmMany 1 = .ok (.istore_n 2, 1) := by decide +kernel
theorem dX6_realmMany_2 : decode cX6_realmMany 2 = .ok (.iconst 0, 1) := by decide +kernel
theorem dX6_realmMany_3 : decode cX6_realmMany 3 = .ok (.istore_n 3, 1) := by decide +kernel
theorem dX6_realmMany_4 : decode cX6_realmMany 4 = .ok (.iload_n 3, 1) := by decide +kernel
theorem dX6_realmMany_5 : decode cX6_realmMany 5 = .ok (.bipush 8, 2) := by decide +kernel
theorem dX6_realmMany_7 : decode cX6_realmMany 7 = .ok (.if_icmp .ge 37, 3) := by decide +kernel
theorem dX6_realmMany_10 : decode cX6_realmMany 10 = .ok (.iload_n 2, 1) := by decide +kernel
theorem dX6_realmMany_11 : decode cX6_realmMany 11 = .ok (.aload_n 0, 1) := by decide +kernel
theorem dX6_realmMany_12 : decode cX6_realmMany 12 = .ok (.iload_n 3, 1) := by decide +kernel
theorem dX6_realmMany_13 : decode cX6_realmMany 13 = .ok (.invokevirtual 91, 3) := by decide +kernel
theorem dX6_realmMany_16 : decode cX6_realmMany 16 = .ok (.ifCond .eq 19, 3) := by decide +kernel
theorem dX6_realmMany_19 : decode cX6_realmMany 19 = .ok (.iload_n 1, 1) := by decide +kernel
theorem dX6_realmMany_20 : decode cX6_realmMany 20 = .ok (.ifCond .eq 11, 3) := by decide +kernel
theorem dX6_realmMany_23 : decode cX6_realmMany 23 = .ok (.aload_n 0, 1) := by decide +kernel
theorem dX6_realmMany_24 : decode cX6_realmMany 24 = .ok (.iload_n 3, 1) := by decide +kernel
theorem dX6_realmMany_25 : decode cX6_realmMany 25 = .ok (.invokevirtual 94, 3) := by decide +kernel
theorem dX6_realmMany_28 : decode cX6_realmMany 28 = .ok (.ifCond .eq 7, 3) := by decide +kernel
theorem dX6_realmMany_31 : decode cX6_realmMany 31 = .ok (.iconst 1, 1) := by decide +kernel
theorem dX6_realmMany_32 : decode cX6_realmMany 32 = .ok (.goto 4, 3) := by decide +kernel
theorem dX6_realmMany_35 : decode cX6_realmMany 35 = .ok (.iconst 0, 1) := by decide +kernel
theorem dX6_realmMany_36 : decode cX6_realmMany 36 = .ok (.iadd, 1) := by decide +kernel
theorem dX6_realmMany_37 : decode cX6_realmMany 37 = .ok (.istore_n 2, 1) := by decide +kernel
theorem dX6_realmMany_38 : decode cX6_realmMany 38 = .ok (.iinc 3 1, 3) := by decide +kernel
theorem dX6_realmMany_41 : decode cX6_realmMany 41 = .ok (.goto (-37), 3) := by decide +kernel
theorem dX6_realmMany_44 : decode cX6_realmMany 44 = .ok (.iload_n 2, 1) := by decide +kernel
theorem dX6_realmMany_45 : decode cX6_realmMany 45 = .ok (.ireturn, 1) := by decide +kernel
set_option maxRecDepth 20000 in
theorem ggX6_lay_X6_readAll : GoodIn wsX6_lay wsX6_readAll := goodIn_r _ [9, 10, 11, 12, 13, 14, 8, 15, 16, 17, 18, 1, 2, 19, 20, 21, 22, 23, 24, 25, 26, 27, 28, 29, 30, 31, 32, 33, 34, 35, 36, 37, 38, 39, 40, 41, 42, 43, 44, 45, 46, 47, 48, 49, 50, 51, 52, 3, 70, 71, 72, 73, 74, 75, 76, 77, 78, 79, 80] (by decide +kernel) (by decide +kernel)
set_option maxRecDepth 20000 in
theorem gX6_lay_X6_readAll : GoodIn wsX6_lay (wsV RX6 87 RX6 yX6_readAll wsX6_readAll) := goodIn_app (goodIn_of _ (by decide +kernel)) ggX6_lay_X6_readAll
set_option maxRecDepth 20000 in
theorem ggX6_lay_X6_copy : GoodIn wsX6_lay wsX6_copy := goodIn_r _ [56, 16, 18, 70, 71, 72, 73, 74, 75, 76, 77, 78, 79, 80] (by decide +kernel) (by decide +kernel)
set_option maxRecDepth 20000 in
theorem gX6_lay_X6_copy : GoodIn wsX6_lay (wsV RX6 97 RX6 yX6_copy wsX6_copy) := goodIn_app (goodIn_of _ (by decide +kernel)) ggX6_lay_X6_copy
set_option maxRecDepth 20000 in
theorem ggX6_lay_X6_realmMany : GoodIn wsX6_lay wsX6_realmMany := goodIn_r _ [60, 61, 62, 63, 8, 64, 65, 16, 42, 43, 44, 66, 67, 68, 69, 70, 71, 72, 73, 74, 75, 76, 77, 78, 79, 80] (by decide +kernel) (by decide +kernel)
set_option maxRecDepth 20000 in
theorem gX6_lay_X6_realmMany : GoodIn wsX6_lay (wsV RX6 103 RX6 yX6_realmMany wsX6_realmMany) := goodIn_app (goodIn_of _ (by decide +kernel)) ggX6_lay_X6_realmMany
theorem dX6_lay_0 : decode cX6_lay 0 = .ok (.aload_n 0, 1) := by decide +kernel
theorem dX6_lay_1 : decode cX6_lay 1 = .ok (.invokevirtual 87, 3) := by decide +kernel
theorem dX6_lay_4 : decode cX6_lay 4 = .ok (.bipush (-4), 2) := by decide +kernel
theorem dX6_lay_6 : decode cX6_lay 6 = .ok (.if_icmp .eq 6, 3) := by decide +kernel
theorem dX6_lay_9 : decode cX6_lay 9 = .ok (.bipush (-2), 2) := by decide +kernel
theorem dX6_lay_11 : decode cX6_lay 11 = .ok (.ireturn, 1) := by decide +kernel
theorem dX6_lay_12 : decode cX6_lay 12 = .ok (.aload_n 0, 1) := by decide +kernel
theorem dX6_lay_13 : decode cX6_lay 13 = .ok (.iconst 4, 1) := by decide +kernel
theorem dX6_lay_14 : decode cX6_lay 14 = .ok (.iconst 0, 1) := by decide +kernel
theorem dX6_lay_15 : decode cX6_lay 15 = .ok (.invokevirtual 97, 3) := by decide +kernel
theorem dX6_lay_18 : decode cX6_lay 18 = .ok (.aload_n 0, 1) := by decide +kernel
theorem dX6_lay_19 : decode cX6_lay 19 = .ok (.getfield 20, 3) := by decide +kernel
theorem dX6_lay_22 : decode cX6_lay 22 = .ok (.iconst 0, 1) := by decide +kernel
theorem dX6_lay_23 : decode cX6_lay 23 = .ok (.aload_n 0, 1) := by decide +kernel
theorem dX6_lay_24 : decode cX6_lay 24 = .ok (.getfield 20, 3) := by decide +kernel
theorem dX6_lay_27 : decode cX6_lay 27 = .ok (.iconst 1, 1) := by decide +kernel
theorem dX6_lay_28 : decode cX6_lay 28 = .ok (.iaload, 1) := by decide +kernel
theorem dX6_lay_29 : decode cX6_lay 29 = .ok (.iastore, 1) := by decide +kernel
theorem dX6_lay_30 : decode cX6_lay 30 = .ok (.aload_n 0, 1) := by decide +kernel
theorem dX6_lay_31 : decode cX6_lay 31 = .ok (.getfield 23, 3) := by decide +kernel
theorem dX6_lay_34 : decode cX6_lay 34 = .ok (.iconst 0, 1) := by decide +kernel
theorem dX6_lay_35 : decode cX6_lay 35 = .ok (.aload_n 0, 1) := by decide +kernel
theorem dX6_lay_36 : decode cX6_lay 36 = .ok (.getfield 23, 3) := by decide +kernel
theorem dX6_lay_39 : decode cX6_lay 39 = .ok (.iconst 1, 1) := by decide +kernel
theorem dX6_lay_40 : decode cX6_lay 40 = .ok (.iaload, 1) := by decide +kernel
theorem dX6_lay_41 : decode cX6_lay 41 = .ok (.iastore, 1) := by decide +kernel
theorem dX6_lay_42 : decode cX6_lay 42 = .ok (.iconst 0, 1) := by decide +kernel
theorem dX6_lay_43 : decode cX6_lay 43 = .ok (.istore_n 1, 1) := by decide +kernel
theorem dX6_lay_44 : decode cX6_lay 44 = .ok (.iload_n 1, 1) := by decide +kernel
theorem dX6_lay_45 : decode cX6_lay 45 = .ok (.sipush 180, 3) := by decide +kernel
theorem dX6_lay_48 : decode cX6_lay 48 = .ok (.if_icmp .ge 25, 3) := by decide +kernel
theorem dX6_lay_51 : decode cX6_lay 51 = .ok (.aload_n 0, 1) := by decide +kernel
theorem dX6_lay_52 : decode cX6_lay 52 = .ok (.getfield 26, 3) := by decide +kernel
theorem dX6_lay_55 : decode cX6_lay 55 = .ok (.iload_n 1, 1) := by decide +kernel
theorem dX6_lay_56 : decode cX6_lay 56 = .ok (.aload_n 0, 1) := by decide +kernel
theorem dX6_lay_57 : decode cX6_lay 57 = .ok (.getfield 26, 3) := by decide +kernel
theorem dX6_lay_60 : decode cX6_lay 60 = .ok (.sipush 180, 3) := by decide +kernel
theorem dX6_lay_63 : decode cX6_lay 63 = .ok (.iload_n 1, 1) := by decide +kernel
theorem dX6_lay_64 : decode cX6_lay 64 = .ok (.iadd, 1) := by decide +kernel
theorem dX6_lay_65 : decode cX6_lay 65 = .ok (.iaload, 1) := by decide +kernel
theorem dX6_lay_66 : decode cX6_lay 66 = .ok (.iastore, 1) := by decide +kernel
theorem dX6_lay_67 : decode cX6_lay 67 = .ok (.iinc 1 1, 3) := by decide +kernel
theorem dX6_lay_70 : decode cX6_lay 70 = .ok (.goto (-26), 3) := by decide +kernel
theorem dX6_lay_73 : decode cX6_lay 73 = .ok (.aload_n 0, 1) := by decide +kernel
theorem dX6_lay_74 : decode cX6_lay 74 = .ok (.iconst 0, 1) := by decide +kernel
theorem dX6_lay_75 : decode cX6_lay 75 = .ok (.putfield 100, 3) := by decide +kernel
theorem dX6_lay_78 : decode cX6_lay 78 = .ok (.aload_n 0, 1) := by decide +kernel
theorem dX6_lay_79 : decode cX6_lay 79 = .ok (.iconst 0, 1) := by decide +kernel
theorem dX6_lay_80 : decode cX6_lay 80 = .ok (.invokevirtual 103, 3) := by decide +kernel
theorem dX6_lay_83 : decode cX6_lay 83 = .ok (.ireturn, 1) := by decide +kernel
set_option maxRecDepth 20000 in
theorem ggX6_isRealm_X6_in : GoodIn wsX6_isRealm wsX6_in := goodIn_r _ [6] (by decide +kernel) (by decide +kernel)
set_option maxRecDepth 20000 in
theorem gX6_isRealm_X6_in : GoodIn wsX6_isRealm (va_wsS RX6 43 yX6_in wsX6_in) := goodIn_app (goodIn_of _ (by decide +kernel)) ggX6_isRealm_X6_in
theorem dX6_isRealm_0 : decode cX6_isRealm 0 = .ok (.iload_n 1, 1) := by decide +kernel
theorem dX6_isRealm_1 : decode cX6_isRealm 1 = .ok (.i2l, 1) := by decide +kernel
theorem dX6_isRealm_2 : decode cX6_isRealm 2 = .ok (.lconst 0, 1) := by decide +kernel
theorem dX6_isRealm_3 : decode cX6_isRealm 3 = .ok (.ldc2_w 107, 3) := by decide +kernel
theorem dX6_isRealm_6 : decode cX6_isRealm 6 = .ok (.invokestatic 43, 3) := by decide +kernel
theorem dX6_isRealm_9 : decode cX6_isRealm 9 = .ok (.ifCond .eq 21, 3) := by decide +kernel
theorem dX6_isRealm_12 : decode cX6_isRealm 12 = .ok (.aload_n 0, 1) := by decide +kernel
theorem dX6_isRealm_13 : decode cX6_isRealm 13 = .ok (.getfield 13, 3) := by decide +kernel
theorem dX6_isRealm_16 : decode cX6_isRealm 16 = .ok (.bipush 9, 2) := by decide +kernel
theorem dX6_isRealm_18 : decode cX6_isRealm 18 = .ok (.iload_n 1, 1) := by decide +kernel
theorem dX6_isRealm_19 : decode cX6_isRealm 19 = .ok (.imul, 1) := by decide +kernel
theorem dX6_isRealm_20 : decode cX6_isRealm 20 = .ok (.laload, 1) := by decide +kernel
theorem dX6_isRealm_21 : decode cX6_isRealm 21 = .ok (.lconst 0, 1) := by decide +kernel
theorem dX6_isRealm_22 : decode cX6_isRealm 22 = .ok (.lcmp, 1) := by decide +kernel
theorem dX6_isRealm_23 : decode cX6_isRealm 23 = .ok (.ifCond .le 7, 3) := by decide +kernel
theorem dX6_isRealm_26 : decode cX6_isRealm 26 = .ok (.iconst 1, 1) := by decide +kernel
theorem dX6_isRealm_27 : decode cX6_isRealm 27 = .ok (.goto 4, 3) := by decide +kernel
theorem dX6_isRealm_30 : decode cX6_isRealm 30 = .ok (.iconst 0, 1) := by decide +kernel
theorem dX6_isRealm_31 : decode cX6_isRealm 31 = .ok (.ireturn, 1) := by decide +kernel
theorem dX6_mints_0 : decode cX6_mints 0 = .ok (.aload_n 0, 1) := by decide +kernel
theorem dX6_mints_1 : decode cX6_mints 1 = .ok (.getfield 13, 3) := by decide +kernel
theorem dX6_mints_4 : decode cX6_mints 4 = .ok (.bipush 9, 2) := by decide +kernel
theorem dX6_mints_6 : decode cX6_mints 6 = .ok (.iload_n 1, 1) := by decide +kernel
theorem dX6_mints_7 : decode cX6_mints 7 = .ok (.imul, 1) := by decide +kernel
theorem dX6_mints_8 : decode cX6_mints 8 = .ok (.bipush 6, 2) := by decide +kernel
theorem dX6_mints_10 : decode cX6_mints 10 = .ok (.iadd, 1) := by decide +kernel
theorem dX6_mints_11 : decode cX6_mints 11 = .ok (.laload, 1) := by decide +kernel
theorem dX6_mints_12 : decode cX6_mints 12 = .ok (.lconst 1, 1) := by decide +kernel
theorem dX6_mints_13 : decode cX6_mints 13 = .ok (.lcmp, 1) := by decide +kernel
theorem dX6_mints_14 : decode cX6_mints 14 = .ok (.ifCond .ne 7, 3) := by decide +kernel
theorem dX6_mints_17 : decode cX6_mints 17 = .ok (.iconst 1, 1) := by decide +kernel
theorem dX6_mints_18 : decode cX6_mints 18 = .ok (.goto 4, 3) := by decide +kernel
theorem dX6_mints_21 : decode cX6_mints 21 = .ok (.iconst 0, 1) := by decide +kernel
theorem dX6_mints_22 : decode cX6_mints 22 = .ok (.ireturn, 1) := by decide +kernel
set_option maxRecDepth 20000 in
theorem ggX6_realm_X6_isRealm : GoodIn wsX6_realm wsX6_isRealm := goodIn_r _ [8, 1, 2, 9, 10, 7, 11, 12, 13, 14, 15, 16, 17, 18, 19, 20, 21, 22] (by decide +kernel) (by decide +kernel)
set_option maxRecDepth 20000 in
theorem gX6_realm_X6_isRealm : GoodIn wsX6_realm (wsV RX6 91 RX6 yX6_isRealm wsX6_isRealm) := goodIn_app (goodIn_of _ (by decide +kernel)) ggX6_realm_X6_isRealm
set_option maxRecDepth 20000 in
theorem ggX6_realm_X6_in : GoodIn wsX6_realm wsX6_in := goodIn_r _ [11] (by decide +kernel) (by decide +kernel)
set_option maxRecDepth 20000 in
theorem gX6_realm_X6_in : GoodIn wsX6_realm (va_wsS RX6 43 yX6_in wsX6_in) := goodIn_app (goodIn_of _ (by decide +kernel)) ggX6_realm_X6_in
theorem dX6_realm_0 : decode cX6_realm 0 = .ok (.aload_n 0, 1) := by decide +kernel
theorem dX6_realm_1 : decode cX6_realm 1 = .ok (.iload_n 1, 1) := by decide +kernel
theorem dX6_realm_2 : decode cX6_realm 2 = .ok (.invokevirtual 91, 3) := by decide +kernel
theorem dX6_realm_5 : decode cX6_realm 5 = .ok (.ifCond .eq 29, 3) := by decide +kernel
theorem dX6_realm_8 : decode cX6_realm 8 = .ok (.iload_n 2, 1) := by decide +kernel
theorem dX6_realm_9 : decode cX6_realm 9 = .ok (.i2l, 1) := by decide +kernel
theorem dX6_realm_10 : decode cX6_realm 10 = .ok (.lconst 0, 1) := by decide +kernel
theorem dX6_realm_11 : decode cX6_realm 11 = .ok (.ldc2_w 107, 3) := by decide +kernel
theorem dX6_realm_14 : decode cX6_realm 14 = .ok (.invokestatic 43, 3) := by decide +kernel
theorem dX6_realm_17 : decode cX6_realm 17 = .ok (.ifCond .eq 17, 3) := by decide +kernel
theorem dX6_realm_20 : decode cX6_realm 20 = .ok (.aload_n 0, 1) := by decide +kernel
theorem dX6_realm_21 : decode cX6_realm 21 = .ok (.getfield 13, 3) := by decide +kernel
theorem dX6_realm_24 : decode cX6_realm 24 = .ok (.bipush 9, 2) := by decide +kernel
theorem dX6_realm_26 : decode cX6_realm 26 = .ok (.iload_n 1, 1) := by decide +kernel
theorem dX6_realm_27 : decode cX6_realm 27 = .ok (.imul, 1) := by decide +kernel
theorem dX6_realm_28 : decode cX6_realm 28 = .ok (.iload_n 2, 1) := by decide +kernel
theorem dX6_realm_29 : decode cX6_realm 29 = .ok (.iadd, 1) := by decide +kernel
theorem dX6_realm_30 : decode cX6_realm 30 = .ok (.laload, 1) := by decide +kernel
theorem dX6_realm_31 : decode cX6_realm 31 = .ok (.goto 6, 3) := by decide +kernel
theorem dX6_realm_34 : decode cX6_realm 34 = .ok (.ldc2_w 39, 3) := by decide +kernel
theorem dX6_realm_37 : decode cX6_realm 37 = .ok (.lreturn, 1) := by decide +kernel
theorem dX6_ratio_0 : decode cX6_ratio 0 = .ok (.aload_n 0, 1) := by decide +kernel
theorem dX6_ratio_1 : decode cX6_ratio 1 = .ok (.getfield 17, 3) := by decide +kernel
theorem dX6_ratio_4 : decode cX6_ratio 4 = .ok (.iconst 0, 1) := by decide +kernel
theorem dX6_ratio_5 : decode cX6_ratio 5 = .ok (.laload, 1) := by decide +kernel
theorem dX6_ratio_6 : decode cX6_ratio 6 = .ok (.lconst 0, 1) := by decide +kernel
theorem dX6_ratio_7 : decode cX6_ratio 7 = .ok (.lcmp, 1) := by decide +kernel
theorem dX6_ratio_8 : decode cX6_ratio 8 = .ok (.ifCond .ne 7, 3) := by decide +kernel
theorem dX6_ratio_11 : decode cX6_ratio 11 = .ok (.ldc2_w 109, 3) := by decide +kernel
theorem dX6_ratio_14 : decode cX6_ratio 14 = .ok (.lreturn, 1) := by decide +kernel
theorem dX6_ratio_15 : decode cX6_ratio 15 = .ok (.aload_n 0, 1) := by decide +kernel
theorem dX6_ratio_16 : decode cX6_ratio 16 = .ok (.getfield 20, 3) := by decide +kernel
theorem dX6_ratio_19 : decode cX6_ratio 19 = .ok (.iconst 0, 1) := by decide +kernel
theorem dX6_ratio_20 : decode cX6_ratio 20 = .ok (.iaload, 1) := by decide +kernel
theorem dX6_ratio_21 : decode cX6_ratio 21 = .ok (.i2l, 1) := by decide +kernel
theorem dX6_ratio_22 : decode cX6_ratio 22 = .ok (.aload_n 0, 1) := by decide +kernel
theorem dX6_ratio_23 : decode cX6_ratio 23 = .ok (.getfield 17, 3) := by decide +kernel
theorem dX6_ratio_26 : decode cX6_ratio 26 = .ok (.iconst 1, 1) := by decide +kernel
theorem dX6_ratio_27 : decode cX6_ratio 27 = .ok (.laload, 1) := by decide +kernel
theorem dX6_ratio_28 : decode cX6_ratio 28 = .ok (.lmul, 1) := by decide +kernel
theorem dX6_ratio_29 : decode cX6_ratio 29 = .ok (.ldc2_w 73, 3) := by decide +kernel
theorem dX6_ratio_32 : decode cX6_ratio 32 = .ok (.aload_n 0, 1) := by decide +kernel
theorem dX6_ratio_33 : decode cX6_ratio 33 = .ok (.getfield 17, 3) := by decide +kernel
theorem dX6_ratio_36 : decode cX6_ratio 36 = .ok (.iconst 0, 1) := by decide +kernel
theorem dX6_ratio_37 : decode cX6_ratio 37 = .ok (.laload, 1) := by decide +kernel
theorem dX6_ratio_38 : decode cX6_ratio 38 = .ok (.lmul, 1) := by decide +kernel
theorem dX6_ratio_39 : decode cX6_ratio 39 = .ok (.ldiv, 1) := by decide +kernel
theorem dX6_ratio_40 : decode cX6_ratio 40 = .ok (.lstore_n 1, 1) := by decide +kernel
theorem dX6_ratio_41 : decode cX6_ratio 41 = .ok (.lload_n 1, 1) := by decide +kernel
theorem dX6_ratio_42 : decode cX6_ratio 42 = .ok (.ldc2_w 109, 3) := by decide +kernel
theorem dX6_ratio_45 : decode cX6_ratio 45 = .ok (.lcmp, 1) := by decide +kernel
theorem dX6_ratio_46 : decode cX6_ratio 46 = .ok (.ifCond .le 9, 3) := by decide +kernel
theorem dX6_ratio_49 : decode cX6_ratio 49 = .ok (.ldc2_w 109, 3) := by decide +kernel
theorem dX6_ratio_52 : decode cX6_ratio 52 = .ok (.goto 4, 3) := by decide +kernel
theorem dX6_ratio_55 : decode cX6_ratio 55 = .ok (.lload_n 1, 1) := by decide +kernel
theorem dX6_ratio_56 : decode cX6_ratio 56 = .ok (.lreturn, 1) := by decide +kernel
set_option maxRecDepth 20000 in
theorem ggX6_market_X6_ratio : GoodIn wsX6_market wsX6_ratio := goodIn_r _ [7, 1, 8, 9, 10, 11, 12, 13, 14, 15, 16, 17, 18, 19, 20, 21] (by decide +kernel) (by decide +kernel)
set_option maxRecDepth 20000 in
theorem gX6_market_X6_ratio : GoodIn wsX6_market (wsV RX6 111 RX6 yX6_ratio wsX6_ratio) := goodIn_app (goodIn_of _ (by decide +kernel)) ggX6_market_X6_ratio
theorem dX6_market_0 : decode cX6_market 0 = .ok (.iload_n 1, 1) := by decide +kernel
theorem dX6_market_1 : decode cX6_market 1 = .ok (.tableswitch 57 0 3 #[31, 38, 45, 50], 31) := by decide +kernel
theorem dX6_market_32 : decode cX6_market 32 = .ok (.aload_n 0, 1) := by decide +kernel
theorem dX6_market_33 : decode cX6_market 33 = .ok (.getfield 17, 3) := by decide +kernel
theorem dX6_market_36 : decode cX6_market 36 = .ok (.iconst 0, 1) := by decide +kernel
theorem dX6_market_37 : decode cX6_market 37 = .ok (.laload, 1) := by decide +kernel
theorem dX6_market_38 : decode cX6_market 38 = .ok (.lreturn, 1) := by decide +kernel
theorem dX6_market_39 : decode cX6_market 39 = .ok (.aload_n 0, 1) := by decide +kernel
theorem dX6_market_40 : decode cX6_market 40 = .ok (.getfield 17, 3) := by decide +kernel
theorem dX6_market_43 : decode cX6_market 43 = .ok (.iconst 1, 1) := by decide +kernel
theorem dX6_market_44 : decode cX6_market 44 = .ok (.laload, 1) := by decide +kernel
theorem dX6_market_45 : decode cX6_market 45 = .ok (.lreturn, 1) := by decide +kernel
theorem dX6_market_46 : decode cX6_market 46 = .ok (.aload_n 0, 1) := by decide +kernel
theorem dX6_market_47 : decode cX6_market 47 = .ok (.invokevirtual 111, 3) := by decide +kernel
theorem dX6_market_50 : decode cX6_market 50 = .ok (.lreturn, 1) := by decide +kernel
theorem dX6_market_51 : decode cX6_market 51 = .ok (.aload_n 0, 1) := by decide +kernel
theorem dX6_market_52 : decode cX6_market 52 = .ok (.getfield 17, 3) := by decide +kernel
theorem dX6_market_55 : decode cX6_market 55 = .ok (.iconst 2, 1) := by decide +kernel
theorem dX6_market_56 : decode cX6_market 56 = .ok (.laload, 1) := by decide +kernel
theorem dX6_market_57 : decode cX6_market 57 = .ok (.lreturn, 1) := by decide +kernel
theorem dX6_market_58 : decode cX6_market 58 = .ok (.ldc2_w 39, 3) := by decide +kernel
theorem dX6_market_61 : decode cX6_market 61 = .ok (.lreturn, 1) := by decide +kernel
theorem dX6_above_0 : decode cX6_above 0 = .ok (.lload_n 0, 1) := by decide +kernel
theorem dX6_above_1 : decode cX6_above 1 = .ok (.lconst 0, 1) := by decide +kernel
theorem dX6_above_2 : decode cX6_above 2 = .ok (.lcmp, 1) := by decide +kernel
theorem dX6_above_3 : decode cX6_above 3 = .ok (.ifCond .ge 7, 3) := by decide +kernel
theorem dX6_above_6 : decode cX6_above 6 = .ok (.lconst 0, 1) := by decide +kernel
theorem dX6_above_7 : decode cX6_above 7 = .ok (.goto 4, 3) := by decide +kernel
theorem dX6_above_10 : decode cX6_above 10 = .ok (.lload_n 0, 1) := by decide +kernel
theorem dX6_above_11 : decode cX6_above 11 = .ok (.lreturn, 1) := by decide +kernel
set_option maxRecDepth 20000 in
theorem ggX6_movesOf_X6_isRealm : GoodIn wsX6_movesOf wsX6_isRealm := goodIn_r _ [8, 9, 1, 10, 11, 7, 12, 26, 27, 28, 29, 30, 31, 32, 33, 34, 35, 36] (by decide +kernel) (by decide +kernel)
set_option maxRecDepth 20000 in
theorem gX6_movesOf_X6_isRealm : GoodIn wsX6_movesOf (wsV RX6 91 RX6 yX6_isRealm wsX6_isRealm) := goodIn_app (goodIn_of _ (by decide +kernel)) ggX6_movesOf_X6_isRealm
set_option maxRecDepth 20000 in
theorem ggX6_movesOf_X6_mints : GoodIn wsX6_movesOf wsX6_mints := goodIn_r _ [16, 1, 26, 27, 28, 29, 30, 31, 32, 33, 34, 35, 36] (by decide +kernel) (by decide +kernel)
set_option maxRecDepth 20000 in
theorem gX6_movesOf_X6_mints : GoodIn wsX6_movesOf (wsV RX6 94 RX6 yX6_mints wsX6_mints) := goodIn_app (goodIn_of _ (by decide +kernel)) ggX6_movesOf_X6_mints
set_option maxRecDepth 20000 in
theorem ggX6_movesOf_X6_ratio : GoodIn wsX6_movesOf wsX6_ratio := goodIn_r _ [20, 2, 21, 22, 3, 26, 27, 28, 29, 30, 31, 32, 33, 34, 35, 36] (by decide +kernel) (by decide +kernel)
set_option maxRecDepth 20000 in
theorem gX6_movesOf_X6_ratio : GoodIn wsX6_movesOf (wsV RX6 111 RX6 yX6_ratio wsX6_ratio) := goodIn_app (goodIn_of _ (by decide +kernel)) ggX6_movesOf_X6_ratio
set_option maxRecDepth 20000 in
theorem ggX6_movesOf_X6_above : GoodIn wsX6_movesOf wsX6_above := goodIn_r _ [25] (by decide +kernel) (by decide +kernel)
set_option maxRecDepth 20000 in
theorem gX6_movesOf_X6_above : GoodIn wsX6_movesOf (va_wsS RX6 115 yX6_above wsX6_above) := goodIn_app (goodIn_of _ (by decide +kernel)) ggX6_movesOf_X6_above
theorem dX6_movesOf_0 : decode cX6_movesOf 0 = .ok (.bipush 9, 2) := by decide +kernel
theorem dX6_movesOf_2 : decode cX6_movesOf 2 = .ok (.iload_n 1, 1) := by decide +kernel
theorem dX6_movesOf_3 : decode cX6_movesOf 3 = .ok (.imul, 1) := by decide +kernel
theorem dX6_movesOf_4 : decode cX6_movesOf 4 = .ok (.istore_n 2, 1) := by decide +kernel
theorem dX6_movesOf_5 : decode cX6_movesOf 5 = .ok (.aload_n 0, 1) := by decide +kernel
theorem dX6_movesOf_6 : decode cX6_movesOf 6 = .ok (.iload_n 1, 1) := by decide +kernel
theorem dX6_movesOf_7 : decode cX6_movesOf 7 = .ok (.invokevirtual 91, 3) := by decide +kernel
theorem dX6_movesOf_10 : decode cX6_movesOf 10 = .ok (.ifCond .eq 11, 3) := by decide +kernel
theorem dX6_movesOf_13 : decode cX6_movesOf 13 = .ok (.aload_n 0, 1) := by decide +kernel
theorem dX6_movesOf_14 : decode cX6_movesOf 14 = .ok (.iload_n 1, 1) := by decide +kernel
theorem dX6_movesOf_15 : decode cX6_movesOf 15 = .ok (.invokevirtual 94, 3) := by decide +kernel
theorem dX6_movesOf_18 : decode cX6_movesOf 18 = .ok (.ifCond .ne 5, 3) := by decide +kernel
theorem dX6_movesOf_21 : decode cX6_movesOf 21 = .ok (.iconst 0, 1) := by decide +kernel
theorem dX6_movesOf_22 : decode cX6_movesOf 22 = .ok (.ireturn, 1) := by decide +kernel
theorem dX6_movesOf_23 : decode cX6_movesOf 23 = .ok (.aload_n 0, 1) := by decide +kernel
theorem dX6_movesOf_24 : decode cX6_movesOf 24 = .ok (.invokevirtual 111, 3) := by decide +kernel
theorem dX6_movesOf_27 : decode cX6_movesOf 27 = .ok (.lstore_n 3, 1) := by decide +kernel
theorem dX6_movesOf_28 : decode cX6_movesOf 28 = .ok (.aload_n 0, 1) := by decide +kernel
