theorem dX2_takeMines_26 : decode cX2_takeMines 26 = .ok (.sipush 9999, 3) := by decide +kernel
theorem dX2_takeMines_29 : decode cX2_takeMines 29 = .ok (.invokevirtual 96, 3) := by decide +kernel
theorem dX2_takeMines_32 : decode cX2_takeMines 32 = .ok (.ifCond .ne 5, 3) := by decide +kernel
theorem dX2_takeMines_35 : decode cX2_takeMines 35 = .ok (.iconst 0, 1) := by decide +kernel
theorem dX2_takeMines_36 : decode cX2_takeMines 36 = .ok (.ireturn, 1) := by decide +kernel
theorem dX2_takeMines_37 : decode cX2_takeMines 37 = .ok (.aload_n 0, 1) := by decide +kernel
theorem dX2_takeMines_38 : decode cX2_takeMines 38 = .ok (.getfield 21, 3) := by decide +kernel
theorem dX2_takeMines_41 : decode cX2_takeMines 41 = .ok (.aload_n 0, 1) := by decide +kernel
theorem dX2_takeMines_42 : decode cX2_takeMines 42 = .ok (.getfield 25, 3) := by decide +kernel
theorem dX2_takeMines_45 : decode cX2_takeMines 45 = .ok (.iconst 0, 1) := by decide +kernel
theorem dX2_takeMines_46 : decode cX2_takeMines 46 = .ok (.iaload, 1) := by decide +kernel
theorem dX2_takeMines_47 : decode cX2_takeMines 47 = .ok (.aload_n 0, 1) := by decide +kernel
theorem dX2_takeMines_48 : decode cX2_takeMines 48 = .ok (.getfield 25, 3) := by decide +kernel
theorem dX2_takeMines_51 : decode cX2_takeMines 51 = .ok (.iconst 1, 1) := by decide +kernel
theorem dX2_takeMines_52 : decode cX2_takeMines 52 = .ok (.iaload, 1) := by decide +kernel
theorem dX2_takeMines_53 : decode cX2_takeMines 53 = .ok (.aload_n 0, 1) := by decide +kernel
theorem dX2_takeMines_54 : decode cX2_takeMines 54 = .ok (.getfield 25, 3) := by decide +kernel
theorem dX2_takeMines_57 : decode cX2_takeMines 57 = .ok (.iconst 2, 1) := by decide +kernel
theorem dX2_takeMines_58 : decode cX2_takeMines 58 = .ok (.iaload, 1) := by decide +kernel
theorem dX2_takeMines_59 : decode cX2_takeMines 59 = .ok (.invokevirtual 150, 3) := by decide +kernel
theorem dX2_takeMines_62 : decode cX2_takeMines 62 = .ok (.iconst 1, 1) := by decide +kernel
theorem dX2_takeMines_63 : decode cX2_takeMines 63 = .ok (.ireturn, 1) := by decide +kernel
theorem dX3_init_0 : decode cX3_init 0 = .ok (.aload_n 0, 1) := by decide +kernel
theorem dX3_init_1 : decode cX3_init 1 = .ok (.invokespecial 1, 3) := by decide +kernel
theorem dX3_init_4 : decode cX3_init 4 = .ok (.aload_n 0, 1) := by decide +kernel
theorem dX3_init_5 : decode cX3_init 5 = .ok (.sipush 400, 3) := by decide +kernel
theorem dX3_init_8 : decode cX3_init 8 = .ok (.newarray .byte, 2) := by decide +kernel
theorem dX3_init_10 : decode cX3_init 10 = .ok (.putfield 9, 3) := by decide +kernel
theorem dX3_init_13 : decode cX3_init 13 = .ok (.aload_n 0, 1) := by decide +kernel
theorem dX3_init_14 : decode cX3_init 14 = .ok (.iconst 0, 1) := by decide +kernel
theorem dX3_init_15 : decode cX3_init 15 = .ok (.putfield 13, 3) := by decide +kernel
theorem dX3_init_18 : decode cX3_init 18 = .ok (.return_, 1) := by decide +kernel
theorem dX3_hasRoomFor_0 : decode cX3_hasRoomFor 0 = .ok (.aload_n 0, 1) := by decide +kernel
theorem dX3_hasRoomFor_1 : decode cX3_hasRoomFor 1 = .ok (.getfield 13, 3) := by decide +kernel
theorem dX3_hasRoomFor_4 : decode cX3_hasRoomFor 4 = .ok (.iload_n 1, 1) := by decide +kernel
theorem dX3_hasRoomFor_5 : decode cX3_hasRoomFor 5 = .ok (.iadd, 1) := by decide +kernel
theorem dX3_hasRoomFor_6 : decode cX3_hasRoomFor 6 = .ok (.sipush 400, 3) := by decide +kernel
theorem dX3_hasRoomFor_9 : decode cX3_hasRoomFor 9 = .ok (.if_icmp .gt 7, 3) := by decide +kernel
theorem dX3_hasRoomFor_12 : decode cX3_hasRoomFor 12 = .ok (.iconst 1, 1) := by decide +kernel
theorem dX3_hasRoomFor_13 : decode cX3_hasRoomFor 13 = .ok (.goto 4, 3) := by decide +kernel
theorem dX3_hasRoomFor_16 : decode cX3_hasRoomFor 16 = .ok (.iconst 0, 1) := by decide +kernel
theorem dX3_hasRoomFor_17 : decode cX3_hasRoomFor 17 = .ok (.ireturn, 1) := by decide +kernel
theorem dX3_append_0 : decode cX3_append 0 = .ok (.iload_n 1, 1) := by decide +kernel
theorem dX3_append_1 : decode cX3_append 1 = .ok (.iconst 1, 1) := by decide +kernel
theorem dX3_append_2 : decode cX3_append 2 = .ok (.isub, 1) := by decide +kernel
theorem dX3_append_3 : decode cX3_append 3 = .ok (.istore 4, 2) := by decide +kernel
theorem dX3_append_5 : decode cX3_append 5 = .ok (.iload 4, 2) := by decide +kernel
theorem dX3_append_7 : decode cX3_append 7 = .ok (.ifCond .lt 47, 3) := by decide +kernel
theorem dX3_append_10 : decode cX3_append 10 = .ok (.aload_n 0, 1) := by decide +kernel
theorem dX3_append_11 : decode cX3_append 11 = .ok (.getfield 13, 3) := by decide +kernel
theorem dX3_append_14 : decode cX3_append 14 = .ok (.sipush 400, 3) := by decide +kernel
theorem dX3_append_17 : decode cX3_append 17 = .ok (.if_icmp .ge 37, 3) := by decide +kernel
theorem dX3_append_20 : decode cX3_append 20 = .ok (.aload_n 0, 1) := by decide +kernel
theorem dX3_append_21 : decode cX3_append 21 = .ok (.getfield 9, 3) := by decide +kernel
theorem dX3_append_24 : decode cX3_append 24 = .ok (.aload_n 0, 1) := by decide +kernel
theorem dX3_append_25 : decode cX3_append 25 = .ok (.getfield 13, 3) := by decide +kernel
theorem dX3_append_28 : decode cX3_append 28 = .ok (.lload_n 2, 1) := by decide +kernel
theorem dX3_append_29 : decode cX3_append 29 = .ok (.iload 4, 2) := by decide +kernel
theorem dX3_append_31 : decode cX3_append 31 = .ok (.bipush 8, 2) := by decide +kernel
theorem dX3_append_33 : decode cX3_append 33 = .ok (.imul, 1) := by decide +kernel
theorem dX3_append_34 : decode cX3_append 34 = .ok (.lshr, 1) := by decide +kernel
theorem dX3_append_35 : decode cX3_append 35 = .ok (.l2i, 1) := by decide +kernel
theorem dX3_append_36 : decode cX3_append 36 = .ok (.i2b, 1) := by decide +kernel
theorem dX3_append_37 : decode cX3_append 37 = .ok (.bastore, 1) := by decide +kernel
theorem dX3_append_38 : decode cX3_append 38 = .ok (.aload_n 0, 1) := by decide +kernel
theorem dX3_append_39 : decode cX3_append 39 = .ok (.dup, 1) := by decide +kernel
theorem dX3_append_40 : decode cX3_append 40 = .ok (.getfield 13, 3) := by decide +kernel
theorem dX3_append_43 : decode cX3_append 43 = .ok (.iconst 1, 1) := by decide +kernel
theorem dX3_append_44 : decode cX3_append 44 = .ok (.iadd, 1) := by decide +kernel
theorem dX3_append_45 : decode cX3_append 45 = .ok (.putfield 13, 3) := by decide +kernel
theorem dX3_append_48 : decode cX3_append 48 = .ok (.iinc 4 (-1), 3) := by decide +kernel
theorem dX3_append_51 : decode cX3_append 51 = .ok (.goto (-46), 3) := by decide +kernel
theorem dX3_append_54 : decode cX3_append 54 = .ok (.return_, 1) := by decide +kernel
theorem dX4_init_0 : decode cX4_init 0 = .ok (.aload_n 0, 1) := by decide +kernel
theorem dX4_init_1 : decode cX4_init 1 = .ok (.invokespecial 3, 3) := by decide +kernel
theorem dX4_init_4 : decode cX4_init 4 = .ok (.aload_n 0, 1) := by decide +kernel
theorem dX4_init_5 : decode cX4_init 5 = .ok (.bipush 8, 2) := by decide +kernel
theorem dX4_init_7 : decode cX4_init 7 = .ok (.newarray .int, 2) := by decide +kernel
theorem dX4_init_9 : decode cX4_init 9 = .ok (.putfield 9, 3) := by decide +kernel
theorem dX4_init_12 : decode cX4_init 12 = .ok (.aload_n 0, 1) := by decide +kernel
theorem dX4_init_13 : decode cX4_init 13 = .ok (.bipush 8, 2) := by decide +kernel
theorem dX4_init_15 : decode cX4_init 15 = .ok (.newarray .int, 2) := by decide +kernel
theorem dX4_init_17 : decode cX4_init 17 = .ok (.putfield 15, 3) := by decide +kernel
theorem dX4_init_20 : decode cX4_init 20 = .ok (.aload_n 0, 1) := by decide +kernel
theorem dX4_init_21 : decode cX4_init 21 = .ok (.bipush 8, 2) := by decide +kernel
theorem dX4_init_23 : decode cX4_init 23 = .ok (.newarray .int, 2) := by decide +kernel
theorem dX4_init_25 : decode cX4_init 25 = .ok (.putfield 18, 3) := by decide +kernel
theorem dX4_init_28 : decode cX4_init 28 = .ok (.aload_n 0, 1) := by decide +kernel
theorem dX4_init_29 : decode cX4_init 29 = .ok (.bipush 8, 2) := by decide +kernel
theorem dX4_init_31 : decode cX4_init 31 = .ok (.newarray .int, 2) := by decide +kernel
theorem dX4_init_33 : decode cX4_init 33 = .ok (.putfield 21, 3) := by decide +kernel
theorem dX4_init_36 : decode cX4_init 36 = .ok (.aload_n 0, 1) := by decide +kernel
theorem dX4_init_37 : decode cX4_init 37 = .ok (.bipush 8, 2) := by decide +kernel
theorem dX4_init_39 : decode cX4_init 39 = .ok (.newarray .int, 2) := by decide +kernel
theorem dX4_init_41 : decode cX4_init 41 = .ok (.putfield 24, 3) := by decide +kernel
theorem dX4_init_44 : decode cX4_init 44 = .ok (.aload_n 0, 1) := by decide +kernel
theorem dX4_init_45 : decode cX4_init 45 = .ok (.bipush 8, 2) := by decide +kernel
theorem dX4_init_47 : decode cX4_init 47 = .ok (.newarray .int, 2) := by decide +kernel
theorem dX4_init_49 : decode cX4_init 49 = .ok (.putfield 27, 3) := by decide +kernel
theorem dX4_init_52 : decode cX4_init 52 = .ok (.aload_n 0, 1) := by decide +kernel
theorem dX4_init_53 : decode cX4_init 53 = .ok (.bipush 8, 2) := by decide +kernel
theorem dX4_init_55 : decode cX4_init 55 = .ok (.newarray .int, 2) := by decide +kernel
theorem dX4_init_57 : decode cX4_init 57 = .ok (.putfield 30, 3) := by decide +kernel
theorem dX4_init_60 : decode cX4_init 60 = .ok (.aload_n 0, 1) := by decide +kernel
theorem dX4_init_61 : decode cX4_init 61 = .ok (.bipush 8, 2) := by decide +kernel
theorem dX4_init_63 : decode cX4_init 63 = .ok (.newarray .long, 2) := by decide +kernel
theorem dX4_init_65 : decode cX4_init 65 = .ok (.putfield 33, 3) := by decide +kernel
theorem dX4_init_68 : decode cX4_init 68 = .ok (.aload_n 0, 1) := by decide +kernel
theorem dX4_init_69 : decode cX4_init 69 = .ok (.bipush 8, 2) := by decide +kernel
theorem dX4_init_71 : decode cX4_init 71 = .ok (.newarray .long, 2) := by decide +kernel
theorem dX4_init_73 : decode cX4_init 73 = .ok (.putfield 37, 3) := by decide +kernel
theorem dX4_init_76 : decode cX4_init 76 = .ok (.aload_n 0, 1) := by decide +kernel
theorem dX4_init_77 : decode cX4_init 77 = .ok (.iconst 0, 1) := by decide +kernel
theorem dX4_init_78 : decode cX4_init 78 = .ok (.putfield 40, 3) := by decide +kernel
theorem dX4_init_81 : decode cX4_init 81 = .ok (.aload_n 0, 1) := by decide +kernel
theorem dX4_init_82 : decode cX4_init 82 = .ok (.iconst 0, 1) := by decide +kernel
theorem dX4_init_83 : decode cX4_init 83 = .ok (.putfield 44, 3) := by decide +kernel
theorem dX4_init_86 : decode cX4_init 86 = .ok (.aload_n 0, 1) := by decide +kernel
theorem dX4_init_87 : decode cX4_init 87 = .ok (.iconst 0, 1) := by decide +kernel
theorem dX4_init_88 : decode cX4_init 88 = .ok (.putfield 47, 3) := by decide +kernel
theorem dX4_init_91 : decode cX4_init 91 = .ok (.aload_n 0, 1) := by decide +kernel
theorem dX4_init_92 : decode cX4_init 92 = .ok (.lconst 0, 1) := by decide +kernel
theorem dX4_init_93 : decode cX4_init 93 = .ok (.putfield 50, 3) := by decide +kernel
theorem dX4_init_96 : decode cX4_init 96 = .ok (.aload_n 0, 1) := by decide +kernel
theorem dX4_init_97 : decode cX4_init 97 = .ok (.lconst 0, 1) := by decide +kernel
theorem dX4_init_98 : decode cX4_init 98 = .ok (.putfield 54, 3) := by decide +kernel
theorem dX4_init_101 : decode cX4_init 101 = .ok (.aload_n 0, 1) := by decide +kernel
theorem dX4_init_102 : decode cX4_init 102 = .ok (.sipush 1000, 3) := by decide +kernel
theorem dX4_init_105 : decode cX4_init 105 = .ok (.putfield 57, 3) := by decide +kernel
theorem dX4_init_108 : decode cX4_init 108 = .ok (.aload_n 0, 1) := by decide +kernel
theorem dX4_init_109 : decode cX4_init 109 = .ok (.ldc 60, 2) := by decide +kernel
theorem dX4_init_111 : decode cX4_init 111 = .ok (.putfield 61, 3) := by decide +kernel
theorem dX4_init_114 : decode cX4_init 114 = .ok (.aload_n 0, 1) := by decide +kernel
theorem dX4_init_115 : decode cX4_init 115 = .ok (.iconst 0, 1) := by decide +kernel
theorem dX4_init_116 : decode cX4_init 116 = .ok (.putfield 64, 3) := by decide +kernel
theorem dX4_init_119 : decode cX4_init 119 = .ok (.return_, 1) := by decide +kernel
theorem dX4_clear_0 : decode cX4_clear 0 = .ok (.aload_n 0, 1) := by decide +kernel
theorem dX4_clear_1 : decode cX4_clear 1 = .ok (.iconst 0, 1) := by decide +kernel
theorem dX4_clear_2 : decode cX4_clear 2 = .ok (.putfield 40, 3) := by decide +kernel
theorem dX4_clear_5 : decode cX4_clear 5 = .ok (.aload_n 0, 1) := by decide +kernel
theorem dX4_clear_6 : decode cX4_clear 6 = .ok (.iconst 0, 1) := by decide +kernel
theorem dX4_clear_7 : decode cX4_clear 7 = .ok (.putfield 44, 3) := by decide +kernel
theorem dX4_clear_10 : decode cX4_clear 10 = .ok (.aload_n 0, 1) := by decide +kernel
theorem dX4_clear_11 : decode cX4_clear 11 = .ok (.iconst 0, 1) := by decide +kernel
theorem dX4_clear_12 : decode cX4_clear 12 = .ok (.putfield 47, 3) := by decide +kernel
theorem dX4_clear_15 : decode cX4_clear 15 = .ok (.aload_n 0, 1) := by decide +kernel
theorem dX4_clear_16 : decode cX4_clear 16 = .ok (.lconst 0, 1) := by decide +kernel
theorem dX4_clear_17 : decode cX4_clear 17 = .ok (.putfield 50, 3) := by decide +kernel
theorem dX4_clear_20 : decode cX4_clear 20 = .ok (.aload_n 0, 1) := by decide +kernel
theorem dX4_clear_21 : decode cX4_clear 21 = .ok (.lconst 0, 1) := by decide +kernel
theorem dX4_clear_22 : decode cX4_clear 22 = .ok (.putfield 54, 3) := by decide +kernel
theorem dX4_clear_25 : decode cX4_clear 25 = .ok (.aload_n 0, 1) := by decide +kernel
theorem dX4_clear_26 : decode cX4_clear 26 = .ok (.sipush 1000, 3) := by decide +kernel
theorem dX4_clear_29 : decode cX4_clear 29 = .ok (.putfield 57, 3) := by decide +kernel
theorem dX4_clear_32 : decode cX4_clear 32 = .ok (.aload_n 0, 1) := by decide +kernel
theorem dX4_clear_33 : decode cX4_clear 33 = .ok (.ldc 60, 2) := by decide +kernel
theorem dX4_clear_35 : decode cX4_clear 35 = .ok (.putfield 61, 3) := by decide +kernel
theorem dX4_clear_38 : decode cX4_clear 38 = .ok (.aload_n 0, 1) := by decide +kernel
theorem dX4_clear_39 : decode cX4_clear 39 = .ok (.iconst 0, 1) := by decide +kernel
theorem dX4_clear_40 : decode cX4_clear 40 = .ok (.putfield 64, 3) := by decide +kernel
theorem dX4_clear_43 : decode cX4_clear 43 = .ok (.return_, 1) := by decide +kernel
theorem dX4_copyFrom_0 : decode cX4_copyFrom 0 = .ok (.aload_n 1, 1) := by decide +kernel
theorem dX4_copyFrom_1 : decode cX4_copyFrom 1 = .ok (.getfield 9, 3) := by decide +kernel
theorem dX4_copyFrom_4 : decode cX4_copyFrom 4 = .ok (.iconst 0, 1) := by decide +kernel
theorem dX4_copyFrom_5 : decode cX4_copyFrom 5 = .ok (.aload_n 0, 1) := by decide +kernel
theorem dX4_copyFrom_6 : decode cX4_copyFrom 6 = .ok (.getfield 9, 3) := by decide +kernel
theorem dX4_copyFrom_9 : decode cX4_copyFrom 9 = .ok (.iconst 0, 1) := by decide +kernel
theorem dX4_copyFrom_10 : decode cX4_copyFrom 10 = .ok (.bipush 8, 2) := by decide +kernel
theorem dX4_copyFrom_12 : decode cX4_copyFrom 12 = .ok (.invokestatic 67, 3) := by decide +kernel
theorem dX4_copyFrom_15 : decode cX4_copyFrom 15 = .ok (.aload_n 1, 1) := by decide +kernel
theorem dX4_copyFrom_16 : decode cX4_copyFrom 16 = .ok (.getfield 15, 3) := by decide +kernel
theorem dX4_copyFrom_19 : decode cX4_copyFrom 19 = .ok (.iconst 0, 1) := by decide +kernel
theorem dX4_copyFrom_20 : decode cX4_copyFrom 20 = .ok (.aload_n 0, 1) := by decide +kernel
theorem dX4_copyFrom_21 : decode cX4_copyFrom 21 = .ok (.getfield 15, 3) := by decide +kernel
theorem dX4_copyFrom_24 : decode cX4_copyFrom 24 = .ok (.iconst 0, 1) := by decide +kernel
theorem dX4_copyFrom_25 : decode cX4_copyFrom 25 = .ok (.bipush 8, 2) := by decide +kernel
theorem dX4_copyFrom_27 : decode cX4_copyFrom 27 = .ok (.invokestatic 67, 3) := by decide +kernel
theorem dX4_copyFrom_30 : decode cX4_copyFrom 30 = .ok (.aload_n 1, 1) := by decide +kernel
theorem dX4_copyFrom_31 : decode cX4_copyFrom 31 = .ok (.getfield 18, 3) := by decide +kernel
theorem dX4_copyFrom_34 : decode cX4_copyFrom 34 = .ok (.iconst 0, 1) := by decide +kernel
theorem dX4_copyFrom_35 : decode cX4_copyFrom 35 = .ok (.aload_n 0, 1) := by decide +kernel
theorem dX4_copyFrom_36 : decode cX4_copyFrom 36 = .ok (.getfield 18, 3) := by decide +kernel
theorem dX4_copyFrom_39 : decode cX4_copyFrom 39 = .ok (.iconst 0, 1) := by decide +kernel
theorem dX4_copyFrom_40 : decode cX4_copyFrom 40 = .ok (.bipush 8, 2) := by decide +kernel
theorem dX4_copyFrom_42 : decode cX4_copyFrom 42 = .ok (.invokestatic 67, 3) := by decide +kernel
theorem dX4_copyFrom_45 : decode cX4_copyFrom 45 = .ok (.aload_n 1, 1) := by decide +kernel
theorem dX4_copyFrom_46 : decode cX4_copyFrom 46 = .ok (.getfield 21, 3) := by decide +kernel
theorem dX4_copyFrom_49 : decode cX4_copyFrom 49 = .ok (.iconst 0, 1) := by decide +kernel
theorem dX4_copyFrom_50 : decode cX4_copyFrom 50 = .ok (.aload_n 0, 1) := by decide +kernel
theorem dX4_copyFrom_51 : decode cX4_copyFrom 51 = .ok (.getfield 21, 3) := by decide +kernel
theorem dX4_copyFrom_54 : decode cX4_copyFrom 54 = .ok (.iconst 0, 1) := by decide +kernel
theorem dX4_copyFrom_55 : decode cX4_copyFrom 55 = .ok (.bipush 8, 2) := by decide +kernel
theorem dX4_copyFrom_57 : decode cX4_copyFrom 57 = .ok (.invokestatic 67, 3) := by decide +kernel
theorem dX4_copyFrom_60 : decode cX4_copyFrom 60 = .ok (.aload_n 1, 1) := by decide +kernel
theorem dX4_copyFrom_61 : decode cX4_copyFrom 61 = .ok (.getfield 24, 3) := by decide +kernel
theorem dX4_copyFrom_64 : decode cX4_copyFrom 64 = .ok (.iconst 0, 1) := by decide +kernel
theorem dX4_copyFrom_65 : decode cX4_copyFrom 65 = .ok (.aload_n 0, 1) := by decide +kernel
theorem dX4_copyFrom_66 : decode cX4_copyFrom 66 = .ok (.getfield 24, 3) := by decide +kernel
theorem dX4_copyFrom_69 : decode cX4_copyFrom 69 = .ok (.iconst 0, 1) := by decide +kernel
theorem dX4_copyFrom_70 : decode cX4_copyFrom 70 = .ok (.bipush 8, 2) := by decide +kernel
theorem dX4_copyFrom_72 : decode cX4_copyFrom 72 = .ok (.invokestatic 67, 3) := by decide +kernel
theorem dX4_copyFrom_75 : decode cX4_copyFrom 75 = .ok (.aload_n 1, 1) := by decide +kernel
theorem dX4_copyFrom_76 : decode cX4_copyFrom 76 = .ok (.getfield 27, 3) := by decide +kernel
theorem dX4_copyFrom_79 : decode cX4_copyFrom 79 = .ok (.iconst 0, 1) := by decide +kernel
theorem dX4_copyFrom_80 : decode cX4_copyFrom 80 = .ok (.aload_n 0, 1) := by decide +kernel
theorem dX4_copyFrom_81 : decode cX4_copyFrom 81 = .ok (.getfield 27, 3) := by decide +kernel
theorem dX4_copyFrom_84 : decode cX4_copyFrom 84 = .ok (.iconst 0, 1) := by decide +kernel
theorem dX4_copyFrom_85 : decode cX4_copyFrom 85 = .ok (.bipush 8, 2) := by decide +kernel
theorem dX4_copyFrom_87 : decode cX4_copyFrom 87 = .ok (.invokestatic 67, 3) := by decide +kernel
theorem dX4_copyFrom_90 : decode cX4_copyFrom 90 = .ok (.aload_n 1, 1) := by decide +kernel
theorem dX4_copyFrom_91 : decode cX4_copyFrom 91 = .ok (.getfield 30, 3) := by decide +kernel
theorem dX4_copyFrom_94 : decode cX4_copyFrom 94 = .ok (.iconst 0, 1) := by decide +kernel
theorem dX4_copyFrom_95 : decode cX4_copyFrom 95 = .ok (.aload_n 0, 1) := by decide +kernel
theorem dX4_copyFrom_96 : decode cX4_copyFrom 96 = .ok (.getfield 30, 3) := by decide +kernel
theorem dX4_copyFrom_99 : decode cX4_copyFrom 99 = .ok (.iconst 0, 1) := by decide +kernel
theorem dX4_copyFrom_100 : decode cX4_copyFrom 100 = .ok (.bipush 8, 2) := by decide +kernel
theorem dX4_copyFrom_102 : decode cX4_copyFrom 102 = .ok (.invokestatic 67, 3) := by decide +kernel
theorem dX4_copyFrom_105 : decode cX4_copyFrom 105 = .ok (.aload_n 1, 1) := by decide +kernel
theorem dX4_copyFrom_106 : decode cX4_copyFrom 106 = .ok (.getfield 33, 3) := by decide +kernel
theorem dX4_copyFrom_109 : decode cX4_copyFrom 109 = .ok (.iconst 0, 1) := by decide +kernel
theorem dX4_copyFrom_110 : decode cX4_copyFrom 110 = .ok (.aload_n 0, 1) := by decide +kernel
theorem dX4_copyFrom_111 : decode cX4_copyFrom 111 = .ok (.getfield 33, 3) := by decide +kernel
theorem dX4_copyFrom_114 : decode cX4_copyFrom 114 = .ok (.iconst 0, 1) := by decide +kernel
theorem dX4_copyFrom_115 : decode cX4_copyFrom 115 = .ok (.bipush 8, 2) := by decide +kernel
theorem dX4_copyFrom_117 : decode cX4_copyFrom 117 = .ok (.invokestatic 67, 3) := by decide +kernel
theorem dX4_copyFrom_120 : decode cX4_copyFrom 120 = .ok (.aload_n 1, 1) := by decide +kernel
theorem dX4_copyFrom_121 : decode cX4_copyFrom 121 = .ok (.getfield 37, 3) := by decide +kernel
theorem dX4_copyFrom_124 : decode cX4_copyFrom 124 = .ok (.iconst 0, 1) := by decide +kernel
theorem dX4_copyFrom_125 : decode cX4_copyFrom 125 = .ok (.aload_n 0, 1) := by decide +kernel
theorem dX4_copyFrom_126 : decode cX4_copyFrom 126 = .ok (.getfield 37, 3) := by decide +kernel
theorem dX4_copyFrom_129 : decode cX4_copyFrom 129 = .ok (.iconst 0, 1) := by decide +kernel
theorem dX4_copyFrom_130 : decode cX4_copyFrom 130 = .ok (.bipush 8, 2) := by decide +kernel
theorem dX4_copyFrom_132 : decode cX4_copyFrom 132 = .ok (.invokestatic 67, 3) := by decide +kernel
theorem dX4_copyFrom_135 : decode cX4_copyFrom 135 = .ok (.aload_n 0, 1) := by decide +kernel
theorem dX4_copyFrom_136 : decode cX4_copyFrom 136 = .ok (.aload_n 1, 1) := by decide +kernel
theorem dX4_copyFrom_137 : decode cX4_copyFrom 137 = .ok (.getfield 40, 3) := by decide +kernel
theorem dX4_copyFrom_140 : decode cX4_copyFrom 140 = .ok (.putfield 40, 3) := by decide +kernel
theorem dX4_copyFrom_143 : decode cX4_copyFrom 143 = .ok (.aload_n 0, 1) := by decide +kernel
theorem dX4_copyFrom_144 : decode cX4_copyFrom 144 = .ok (.aload_n 1, 1) := by decide +kernel
theorem dX4_copyFrom_145 : decode cX4_copyFrom 145 = .ok (.getfield 44, 3) := by decide +kernel
theorem dX4_copyFrom_148 : decode cX4_copyFrom 148 = .ok (.putfield 44, 3) := by decide +kernel
theorem dX4_copyFrom_151 : decode cX4_copyFrom 151 = .ok (.aload_n 0, 1) := by decide +kernel
theorem dX4_copyFrom_152 : decode cX4_copyFrom 152 = .ok (.aload_n 1, 1) := by decide +kernel
theorem dX4_copyFrom_153 : decode cX4_copyFrom 153 = .ok (.getfield 47, 3) := by decide +kernel
theorem dX4_copyFrom_156 : decode cX4_copyFrom 156 = .ok (.putfield 47, 3) := by decide +kernel
theorem dX4_copyFrom_159 : decode cX4_copyFrom 159 = .ok (.aload_n 0, 1) := by decide +kernel
theorem dX4_copyFrom_160 : decode cX4_copyFrom 160 = .ok (.aload_n 1, 1) := by decide +kernel
theorem dX4_copyFrom_161 : decode cX4_copyFrom 161 = .ok (.getfield 50, 3) := by decide +kernel
theorem dX4_copyFrom_164 : decode cX4_copyFrom 164 = .ok (.putfield 50, 3) := by decide +kernel
theorem dX4_copyFrom_167 : decode cX4_copyFrom 167 = .ok (.aload_n 0, 1) := by decide +kernel
theorem dX4_copyFrom_168 : decode cX4_copyFrom 168 = .ok (.aload_n 1, 1) := by decide +kernel
theorem dX4_copyFrom_169 : decode cX4_copyFrom 169 = .ok (.getfield 54, 3) := by decide +kernel
theorem dX4_copyFrom_172 : decode cX4_copyFrom 172 = .ok (.putfield 54, 3) := by decide +kernel
theorem dX4_copyFrom_175 : decode cX4_copyFrom 175 = .ok (.aload_n 0, 1) := by decide +kernel
theorem dX4_copyFrom_176 : decode cX4_copyFrom 176 = .ok (.aload_n 1, 1) := by decide +kernel
theorem dX4_copyFrom_177 : decode cX4_copyFrom 177 = .ok (.getfield 57, 3) := by decide +kernel
theorem dX4_copyFrom_180 : decode cX4_copyFrom 180 = .ok (.putfield 57, 3) := by decide +kernel
theorem dX4_copyFrom_183 : decode cX4_copyFrom 183 = .ok (.aload_n 0, 1) := by decide +kernel
theorem dX4_copyFrom_184 : decode cX4_copyFrom 184 = .ok (.aload_n 1, 1) := by decide +kernel
theorem dX4_copyFrom_185 : decode cX4_copyFrom 185 = .ok (.getfield 61, 3) := by decide +kernel
theorem dX4_copyFrom_188 : decode cX4_copyFrom 188 = .ok (.putfield 61, 3) := by decide +kernel
theorem dX4_copyFrom_191 : decode cX4_copyFrom 191 = .ok (.aload_n 0, 1) := by decide +kernel
theorem dX4_copyFrom_192 : decode cX4_copyFrom 192 = .ok (.aload_n 1, 1) := by decide +kernel
theorem dX4_copyFrom_193 : decode cX4_copyFrom 193 = .ok (.getfield 64, 3) := by decide +kernel
theorem dX4_copyFrom_196 : decode cX4_copyFrom 196 = .ok (.putfield 64, 3) := by decide +kernel
theorem dX4_copyFrom_199 : decode cX4_copyFrom 199 = .ok (.return_, 1) := by decide +kernel
theorem dX4_has_0 : decode cX4_has 0 = .ok (.iload_n 1, 1) := by decide +kernel
theorem dX4_has_1 : decode cX4_has 1 = .ok (.ifCond .lt 25, 3) := by decide +kernel
theorem dX4_has_4 : decode cX4_has 4 = .ok (.iload_n 1, 1) := by decide +kernel
theorem dX4_has_5 : decode cX4_has 5 = .ok (.bipush 8, 2) := by decide +kernel
theorem dX4_has_7 : decode cX4_has 7 = .ok (.if_icmp .ge 19, 3) := by decide +kernel
theorem dX4_has_10 : decode cX4_has 10 = .ok (.aload_n 0, 1) := by decide +kernel
theorem dX4_has_11 : decode cX4_has 11 = .ok (.getfield 40, 3) := by decide +kernel
theorem dX4_has_14 : decode cX4_has 14 = .ok (.iload_n 1, 1) := by decide +kernel
theorem dX4_has_15 : decode cX4_has 15 = .ok (.ishr, 1) := by decide +kernel
theorem dX4_has_16 : decode cX4_has 16 = .ok (.iconst 1, 1) := by decide +kernel
theorem dX4_has_17 : decode cX4_has 17 = .ok (.iand, 1) := by decide +kernel
theorem dX4_has_18 : decode cX4_has 18 = .ok (.iconst 1, 1) := by decide +kernel
theorem dX4_has_19 : decode cX4_has 19 = .ok (.if_icmp .ne 7, 3) := by decide +kernel
theorem dX4_has_22 : decode cX4_has 22 = .ok (.iconst 1, 1) := by decide +kernel
theorem dX4_has_23 : decode cX4_has 23 = .ok (.goto 4, 3) := by decide +kernel
theorem dX4_has_26 : decode cX4_has 26 = .ok (.iconst 0, 1) := by decide +kernel
theorem dX4_has_27 : decode cX4_has 27 = .ok (.ireturn, 1) := by decide +kernel
theorem dX4_mints_0 : decode cX4_mints 0 = .ok (.aload_n 0, 1) := by decide +kernel
theorem dX4_mints_1 : decode cX4_mints 1 = .ok (.getfield 44, 3) := by decide +kernel
theorem dX4_mints_4 : decode cX4_mints 4 = .ok (.iload_n 1, 1) := by decide +kernel
theorem dX4_mints_5 : decode cX4_mints 5 = .ok (.ishr, 1) := by decide +kernel
theorem dX4_mints_6 : decode cX4_mints 6 = .ok (.iconst 1, 1) := by decide +kernel
theorem dX4_mints_7 : decode cX4_mints 7 = .ok (.iand, 1) := by decide +kernel
theorem dX4_mints_8 : decode cX4_mints 8 = .ok (.iconst 1, 1) := by decide +kernel
theorem dX4_mints_9 : decode cX4_mints 9 = .ok (.if_icmp .ne 7, 3) := by decide +kernel
theorem dX4_mints_12 : decode cX4_mints 12 = .ok (.iconst 1, 1) := by decide +kernel
theorem dX4_mints_13 : decode cX4_mints 13 = .ok (.goto 4, 3) := by decide +kernel
theorem dX4_mints_16 : decode cX4_mints 16 = .ok (.iconst 0, 1) := by decide +kernel
theorem dX4_mints_17 : decode cX4_mints 17 = .ok (.ireturn, 1) := by decide +kernel
theorem dX4_limps_0 : decode cX4_limps 0 = .ok (.aload_n 0, 1) := by decide +kernel
theorem dX4_limps_1 : decode cX4_limps 1 = .ok (.getfield 47, 3) := by decide +kernel
theorem dX4_limps_4 : decode cX4_limps 4 = .ok (.iload_n 1, 1) := by decide +kernel
theorem dX4_limps_5 : decode cX4_limps 5 = .ok (.ishr, 1) := by decide +kernel
theorem dX4_limps_6 : decode cX4_limps 6 = .ok (.iconst 1, 1) := by decide +kernel
theorem dX4_limps_7 : decode cX4_limps 7 = .ok (.iand, 1) := by decide +kernel
theorem dX4_limps_8 : decode cX4_limps 8 = .ok (.iconst 1, 1) := by decide +kernel
theorem dX4_limps_9 : decode cX4_limps 9 = .ok (.if_icmp .ne 7, 3) := by decide +kernel
theorem dX4_limps_12 : decode cX4_limps 12 = .ok (.iconst 1, 1) := by decide +kernel
theorem dX4_limps_13 : decode cX4_limps 13 = .ok (.goto 4, 3) := by decide +kernel
theorem dX4_limps_16 : decode cX4_limps 16 = .ok (.iconst 0, 1) := by decide +kernel
theorem dX4_limps_17 : decode cX4_limps 17 = .ok (.ireturn, 1) := by decide +kernel
theorem dX4_hasGold_0 : decode cX4_hasGold 0 = .ok (.aload_n 0, 1) := by decide +kernel
theorem dX4_hasGold_1 : decode cX4_hasGold 1 = .ok (.getfield 33, 3) := by decide +kernel
theorem dX4_hasGold_4 : decode cX4_hasGold 4 = .ok (.iload_n 1, 1) := by decide +kernel
theorem dX4_hasGold_5 : decode cX4_hasGold 5 = .ok (.laload, 1) := by decide +kernel
theorem dX4_hasGold_6 : decode cX4_hasGold 6 = .ok (.lconst 0, 1) := by decide +kernel
theorem dX4_hasGold_7 : decode cX4_hasGold 7 = .ok (.lcmp, 1) := by decide +kernel
theorem dX4_hasGold_8 : decode cX4_hasGold 8 = .ok (.ifCond .le 7, 3) := by decide +kernel
theorem dX4_hasGold_11 : decode cX4_hasGold 11 = .ok (.iconst 1, 1) := by decide +kernel
theorem dX4_hasGold_12 : decode cX4_hasGold 12 = .ok (.goto 4, 3) := by decide +kernel
theorem dX4_hasGold_15 : decode cX4_hasGold 15 = .ok (.iconst 0, 1) := by decide +kernel
theorem dX4_hasGold_16 : decode cX4_hasGold 16 = .ok (.ireturn, 1) := by decide +kernel
theorem dX4_hasSilver_0 : decode cX4_hasSilver 0 = .ok (.aload_n 0, 1) := by decide +kernel
theorem dX4_hasSilver_1 : decode cX4_hasSilver 1 = .ok (.getfield 37, 3) := by decide +kernel
theorem dX4_hasSilver_4 : decode cX4_hasSilver 4 = .ok (.iload_n 1, 1) := by decide +kernel
theorem dX4_hasSilver_5 : decode cX4_hasSilver 5 = .ok (.laload, 1) := by decide +kernel
theorem dX4_hasSilver_6 : decode cX4_hasSilver 6 = .ok (.aload_n 0, 1) := by decide +kernel
theorem dX4_hasSilver_7 : decode cX4_hasSilver 7 = .ok (.getfield 9, 3) := by decide +kernel
theorem dX4_hasSilver_10 : decode cX4_hasSilver 10 = .ok (.iload_n 1, 1) := by decide +kernel
theorem dX4_hasSilver_11 : decode cX4_hasSilver 11 = .ok (.iaload, 1) := by decide +kernel
theorem dX4_hasSilver_12 : decode cX4_hasSilver 12 = .ok (.i2l, 1) := by decide +kernel
theorem dX4_hasSilver_13 : decode cX4_hasSilver 13 = .ok (.lcmp, 1) := by decide +kernel
theorem dX4_hasSilver_14 : decode cX4_hasSilver 14 = .ok (.ifCond .lt 7, 3) := by decide +kernel
theorem dX4_hasSilver_17 : decode cX4_hasSilver 17 = .ok (.iconst 1, 1) := by decide +kernel
theorem dX4_hasSilver_18 : decode cX4_hasSilver 18 = .ok (.goto 4, 3) := by decide +kernel
theorem dX4_hasSilver_21 : decode cX4_hasSilver 21 = .ok (.iconst 0, 1) := by decide +kernel
theorem dX4_hasSilver_22 : decode cX4_hasSilver 22 = .ok (.ireturn, 1) := by decide +kernel
theorem dX4_setLaw_0 : decode cX4_setLaw 0 = .ok (.aload_n 0, 1) := by decide +kernel
theorem dX4_setLaw_1 : decode cX4_setLaw 1 = .ok (.getfield 9, 3) := by decide +kernel
theorem dX4_setLaw_4 : decode cX4_setLaw 4 = .ok (.iload_n 1, 1) := by decide +kernel
theorem dX4_setLaw_5 : decode cX4_setLaw 5 = .ok (.iload_n 2, 1) := by decide +kernel
theorem dX4_setLaw_6 : decode cX4_setLaw 6 = .ok (.iastore, 1) := by decide +kernel
theorem dX4_setLaw_7 : decode cX4_setLaw 7 = .ok (.sipush 1000, 3) := by decide +kernel
theorem dX4_setLaw_10 : decode cX4_setLaw 10 = .ok (.aload_n 0, 1) := by decide +kernel
theorem dX4_setLaw_11 : decode cX4_setLaw 11 = .ok (.getfield 18, 3) := by decide +kernel
theorem dX4_setLaw_14 : decode cX4_setLaw 14 = .ok (.iload_n 1, 1) := by decide +kernel
theorem dX4_setLaw_15 : decode cX4_setLaw 15 = .ok (.iaload, 1) := by decide +kernel
theorem dX4_setLaw_16 : decode cX4_setLaw 16 = .ok (.iadd, 1) := by decide +kernel
theorem dX4_setLaw_17 : decode cX4_setLaw 17 = .ok (.istore_n 3, 1) := by decide +kernel
theorem dX4_setLaw_18 : decode cX4_setLaw 18 = .ok (.ldc2_w 73, 3) := by decide +kernel
theorem dX4_setLaw_21 : decode cX4_setLaw 21 = .ok (.iconst 0, 1) := by decide +kernel
theorem dX4_setLaw_22 : decode cX4_setLaw 22 = .ok (.iload_n 2, 1) := by decide +kernel
theorem dX4_setLaw_23 : decode cX4_setLaw 23 = .ok (.aload_n 0, 1) := by decide +kernel
theorem dX4_setLaw_24 : decode cX4_setLaw 24 = .ok (.getfield 15, 3) := by decide +kernel
theorem dX4_setLaw_27 : decode cX4_setLaw 27 = .ok (.iload_n 1, 1) := by decide +kernel
theorem dX4_setLaw_28 : decode cX4_setLaw 28 = .ok (.iaload, 1) := by decide +kernel
theorem dX4_setLaw_29 : decode cX4_setLaw 29 = .ok (.isub, 1) := by decide +kernel
theorem dX4_setLaw_30 : decode cX4_setLaw 30 = .ok (.invokestatic 75, 3) := by decide +kernel
theorem dX4_setLaw_33 : decode cX4_setLaw 33 = .ok (.i2l, 1) := by decide +kernel
theorem dX4_setLaw_34 : decode cX4_setLaw 34 = .ok (.lmul, 1) := by decide +kernel
theorem dX4_setLaw_35 : decode cX4_setLaw 35 = .ok (.lstore 4, 2) := by decide +kernel
theorem dX4_setLaw_37 : decode cX4_setLaw 37 = .ok (.aload_n 0, 1) := by decide +kernel
theorem dX4_setLaw_38 : decode cX4_setLaw 38 = .ok (.getfield 27, 3) := by decide +kernel
theorem dX4_setLaw_41 : decode cX4_setLaw 41 = .ok (.iload_n 1, 1) := by decide +kernel
theorem dX4_setLaw_42 : decode cX4_setLaw 42 = .ok (.lload 4, 2) := by decide +kernel
theorem dX4_setLaw_44 : decode cX4_setLaw 44 = .ok (.iload_n 3, 1) := by decide +kernel
theorem dX4_setLaw_45 : decode cX4_setLaw 45 = .ok (.i2l, 1) := by decide +kernel
theorem dX4_setLaw_46 : decode cX4_setLaw 46 = .ok (.ladd, 1) := by decide +kernel
theorem dX4_setLaw_47 : decode cX4_setLaw 47 = .ok (.lconst 1, 1) := by decide +kernel
theorem dX4_setLaw_48 : decode cX4_setLaw 48 = .ok (.lsub, 1) := by decide +kernel
theorem dX4_setLaw_49 : decode cX4_setLaw 49 = .ok (.iconst 1, 1) := by decide +kernel
theorem dX4_setLaw_50 : decode cX4_setLaw 50 = .ok (.iload_n 3, 1) := by decide +kernel
theorem dX4_setLaw_51 : decode cX4_setLaw 51 = .ok (.invokestatic 75, 3) := by decide +kernel
theorem dX4_setLaw_54 : decode cX4_setLaw 54 = .ok (.i2l, 1) := by decide +kernel
theorem dX4_setLaw_55 : decode cX4_setLaw 55 = .ok (.ldiv, 1) := by decide +kernel
theorem dX4_setLaw_56 : decode cX4_setLaw 56 = .ok (.l2i, 1) := by decide +kernel
theorem dX4_setLaw_57 : decode cX4_setLaw 57 = .ok (.iastore, 1) := by decide +kernel
theorem dX4_setLaw_58 : decode cX4_setLaw 58 = .ok (.ldc2_w 73, 3) := by decide +kernel
theorem dX4_setLaw_61 : decode cX4_setLaw 61 = .ok (.iload_n 2, 1) := by decide +kernel
theorem dX4_setLaw_62 : decode cX4_setLaw 62 = .ok (.aload_n 0, 1) := by decide +kernel
theorem dX4_setLaw_63 : decode cX4_setLaw 63 = .ok (.getfield 15, 3) := by decide +kernel
theorem dX4_setLaw_66 : decode cX4_setLaw 66 = .ok (.iload_n 1, 1) := by decide +kernel
theorem dX4_setLaw_67 : decode cX4_setLaw 67 = .ok (.iaload, 1) := by decide +kernel
theorem dX4_setLaw_68 : decode cX4_setLaw 68 = .ok (.iadd, 1) := by decide +kernel
theorem dX4_setLaw_69 : decode cX4_setLaw 69 = .ok (.i2l, 1) := by decide +kernel
theorem dX4_setLaw_70 : decode cX4_setLaw 70 = .ok (.lmul, 1) := by decide +kernel
theorem dX4_setLaw_71 : decode cX4_setLaw 71 = .ok (.iconst 1, 1) := by decide +kernel
theorem dX4_setLaw_72 : decode cX4_setLaw 72 = .ok (.sipush 1000, 3) := by decide +kernel
theorem dX4_setLaw_75 : decode cX4_setLaw 75 = .ok (.aload_n 0, 1) := by decide +kernel
theorem dX4_setLaw_76 : decode cX4_setLaw 76 = .ok (.getfield 18, 3) := by decide +kernel
theorem dX4_setLaw_79 : decode cX4_setLaw 79 = .ok (.iload_n 1, 1) := by decide +kernel
theorem dX4_setLaw_80 : decode cX4_setLaw 80 = .ok (.iaload, 1) := by decide +kernel
theorem dX4_setLaw_81 : decode cX4_setLaw 81 = .ok (.isub, 1) := by decide +kernel
theorem dX4_setLaw_82 : decode cX4_setLaw 82 = .ok (.invokestatic 75, 3) := by decide +kernel
theorem dX4_setLaw_85 : decode cX4_setLaw 85 = .ok (.i2l, 1) := by decide +kernel
theorem dX4_setLaw_86 : decode cX4_setLaw 86 = .ok (.ldiv, 1) := by decide +kernel
theorem dX4_setLaw_87 : decode cX4_setLaw 87 = .ok (.lstore 6, 2) := by decide +kernel
theorem dX4_setLaw_89 : decode cX4_setLaw 89 = .ok (.aload_n 0, 1) := by decide +kernel
theorem dX4_setLaw_90 : decode cX4_setLaw 90 = .ok (.getfield 30, 3) := by decide +kernel
theorem dX4_setLaw_93 : decode cX4_setLaw 93 = .ok (.iload_n 1, 1) := by decide +kernel
theorem dX4_setLaw_94 : decode cX4_setLaw 94 = .ok (.lload 6, 2) := by decide +kernel
theorem dX4_setLaw_96 : decode cX4_setLaw 96 = .ok (.ldc2_w 81, 3) := by decide +kernel
theorem dX4_setLaw_99 : decode cX4_setLaw 99 = .ok (.invokestatic 83, 3) := by decide +kernel
theorem dX4_setLaw_102 : decode cX4_setLaw 102 = .ok (.l2i, 1) := by decide +kernel
theorem dX4_setLaw_103 : decode cX4_setLaw 103 = .ok (.iastore, 1) := by decide +kernel
theorem dX4_setLaw_104 : decode cX4_setLaw 104 = .ok (.return_, 1) := by decide +kernel
theorem dX4_weigh_0 : decode cX4_weigh 0 = .ok (.aload_n 0, 1) := by decide +kernel
theorem dX4_weigh_1 : decode cX4_weigh 1 = .ok (.getfield 50, 3) := by decide +kernel
theorem dX4_weigh_4 : decode cX4_weigh 4 = .ok (.lconst 0, 1) := by decide +kernel
theorem dX4_weigh_5 : decode cX4_weigh 5 = .ok (.lcmp, 1) := by decide +kernel
theorem dX4_weigh_6 : decode cX4_weigh 6 = .ok (.ifCond .gt 10, 3) := by decide +kernel
theorem dX4_weigh_9 : decode cX4_weigh 9 = .ok (.aload_n 0, 1) := by decide +kernel
theorem dX4_weigh_10 : decode cX4_weigh 10 = .ok (.ldc 60, 2) := by decide +kernel
theorem dX4_weigh_12 : decode cX4_weigh 12 = .ok (.putfield 61, 3) := by decide +kernel
theorem dX4_weigh_15 : decode cX4_weigh 15 = .ok (.return_, 1) := by decide +kernel
theorem dX4_weigh_16 : decode cX4_weigh 16 = .ok (.aload_n 0, 1) := by decide +kernel
theorem dX4_weigh_17 : decode cX4_weigh 17 = .ok (.aload_n 0, 1) := by decide +kernel
theorem dX4_weigh_18 : decode cX4_weigh 18 = .ok (.getfield 57, 3) := by decide +kernel
theorem dX4_weigh_21 : decode cX4_weigh 21 = .ok (.i2l, 1) := by decide +kernel
theorem dX4_weigh_22 : decode cX4_weigh 22 = .ok (.aload_n 0, 1) := by decide +kernel
theorem dX4_weigh_23 : decode cX4_weigh 23 = .ok (.getfield 54, 3) := by decide +kernel
theorem dX4_weigh_26 : decode cX4_weigh 26 = .ok (.lmul, 1) := by decide +kernel
theorem dX4_weigh_27 : decode cX4_weigh 27 = .ok (.ldc2_w 73, 3) := by decide +kernel
theorem dX4_weigh_30 : decode cX4_weigh 30 = .ok (.aload_n 0, 1) := by decide +kernel
theorem dX4_weigh_31 : decode cX4_weigh 31 = .ok (.getfield 50, 3) := by decide +kernel
theorem dX4_weigh_34 : decode cX4_weigh 34 = .ok (.lmul, 1) := by decide +kernel
theorem dX4_weigh_35 : decode cX4_weigh 35 = .ok (.ldiv, 1) := by decide +kernel
theorem dX4_weigh_36 : decode cX4_weigh 36 = .ok (.ldc2_w 81, 3) := by decide +kernel
theorem dX4_weigh_39 : decode cX4_weigh 39 = .ok (.invokestatic 83, 3) := by decide +kernel
theorem dX4_weigh_42 : decode cX4_weigh 42 = .ok (.l2i, 1) := by decide +kernel
theorem dX4_weigh_43 : decode cX4_weigh 43 = .ok (.putfield 61, 3) := by decide +kernel
theorem dX4_weigh_46 : decode cX4_weigh 46 = .ok (.return_, 1) := by decide +kernel
set_option maxRecDepth 20000 in
theorem ggX4_heading_X4_mints : GoodIn wsX4_heading wsX4_mints := goodIn_r _ [11, 12, 28, 29, 30, 31, 32, 33, 34, 35, 36, 37, 38, 39, 40, 41, 42, 43, 44] (by decide +kernel) (by decide +kernel)
set_option maxRecDepth 20000 in
theorem gX4_heading_X4_mints : GoodIn wsX4_heading (wsV RX4 87 RX4 yX4_mints wsX4_mints) := goodIn_app (goodIn_of _ (by decide +kernel)) ggX4_heading_X4_mints
set_option maxRecDepth 20000 in
theorem ggX4_heading_X4_limps : GoodIn wsX4_heading wsX4_limps := goodIn_r _ [16, 17, 28, 29, 30, 31, 32, 33, 34, 35, 36, 37, 38, 39, 40, 41, 42, 43, 44] (by decide +kernel) (by decide +kernel)
set_option maxRecDepth 20000 in
theorem gX4_heading_X4_limps : GoodIn wsX4_heading (wsV RX4 91 RX4 yX4_limps wsX4_limps) := goodIn_app (goodIn_of _ (by decide +kernel)) ggX4_heading_X4_limps
set_option maxRecDepth 20000 in
theorem ggX4_heading_X4_hasGold : GoodIn wsX4_heading wsX4_hasGold := goodIn_r _ [21, 22, 28, 29, 30, 31, 32, 33, 34, 35, 36, 37, 38, 39, 40, 41, 42, 43, 44] (by decide +kernel) (by decide +kernel)
set_option maxRecDepth 20000 in
theorem gX4_heading_X4_hasGold : GoodIn wsX4_heading (wsV RX4 94 RX4 yX4_hasGold wsX4_hasGold) := goodIn_app (goodIn_of _ (by decide +kernel)) ggX4_heading_X4_hasGold
set_option maxRecDepth 20000 in
theorem ggX4_heading_X4_hasSilver : GoodIn wsX4_heading wsX4_hasSilver := goodIn_r _ [26, 27, 4, 28, 29, 30, 31, 32, 33, 34, 35, 36, 37, 38, 39, 40, 41, 42, 43, 44] (by decide +kernel) (by decide +kernel)
set_option maxRecDepth 20000 in
theorem gX4_heading_X4_hasSilver : GoodIn wsX4_heading (wsV RX4 97 RX4 yX4_hasSilver wsX4_hasSilver) := goodIn_app (goodIn_of _ (by decide +kernel)) ggX4_heading_X4_hasSilver
theorem dX4_heading_0 : decode cX4_heading 0 = .ok (.aload_n 0, 1) := by decide +kernel
theorem dX4_heading_1 : decode cX4_heading 1 = .ok (.iload_n 1, 1) := by decide +kernel
theorem dX4_heading_2 : decode cX4_heading 2 = .ok (.invokevirtual 87, 3) := by decide +kernel
theorem dX4_heading_5 : decode cX4_heading 5 = .ok (.ifCond .ne 5, 3) := by decide +kernel
theorem dX4_heading_8 : decode cX4_heading 8 = .ok (.iconst 0, 1) := by decide +kernel
theorem dX4_heading_9 : decode cX4_heading 9 = .ok (.ireturn, 1) := by decide +kernel
theorem dX4_heading_10 : decode cX4_heading 10 = .ok (.aload_n 0, 1) := by decide +kernel
theorem dX4_heading_11 : decode cX4_heading 11 = .ok (.getfield 61, 3) := by decide +kernel
theorem dX4_heading_14 : decode cX4_heading 14 = .ok (.aload_n 0, 1) := by decide +kernel
theorem dX4_heading_15 : decode cX4_heading 15 = .ok (.getfield 30, 3) := by decide +kernel
theorem dX4_heading_18 : decode cX4_heading 18 = .ok (.iload_n 1, 1) := by decide +kernel
theorem dX4_heading_19 : decode cX4_heading 19 = .ok (.iaload, 1) := by decide +kernel
theorem dX4_heading_20 : decode cX4_heading 20 = .ok (.if_icmp .le 50, 3) := by decide +kernel
theorem dX4_heading_23 : decode cX4_heading 23 = .ok (.aload_n 0, 1) := by decide +kernel
theorem dX4_heading_24 : decode cX4_heading 24 = .ok (.iload_n 1, 1) := by decide +kernel
theorem dX4_heading_25 : decode cX4_heading 25 = .ok (.invokevirtual 91, 3) := by decide +kernel
theorem dX4_heading_28 : decode cX4_heading 28 = .ok (.ifCond .ne 30, 3) := by decide +kernel
theorem dX4_heading_31 : decode cX4_heading 31 = .ok (.aload_n 0, 1) := by decide +kernel
theorem dX4_heading_32 : decode cX4_heading 32 = .ok (.iload_n 1, 1) := by decide +kernel
theorem dX4_heading_33 : decode cX4_heading 33 = .ok (.invokevirtual 94, 3) := by decide +kernel
theorem dX4_heading_36 : decode cX4_heading 36 = .ok (.ifCond .eq 22, 3) := by decide +kernel
theorem dX4_heading_39 : decode cX4_heading 39 = .ok (.aload_n 0, 1) := by decide +kernel
theorem dX4_heading_40 : decode cX4_heading 40 = .ok (.getfield 54, 3) := by decide +kernel
theorem dX4_heading_43 : decode cX4_heading 43 = .ok (.aload_n 0, 1) := by decide +kernel
theorem dX4_heading_44 : decode cX4_heading 44 = .ok (.getfield 9, 3) := by decide +kernel
theorem dX4_heading_47 : decode cX4_heading 47 = .ok (.iload_n 1, 1) := by decide +kernel
theorem dX4_heading_48 : decode cX4_heading 48 = .ok (.iaload, 1) := by decide +kernel
theorem dX4_heading_49 : decode cX4_heading 49 = .ok (.i2l, 1) := by decide +kernel
theorem dX4_heading_50 : decode cX4_heading 50 = .ok (.lcmp, 1) := by decide +kernel
theorem dX4_heading_51 : decode cX4_heading 51 = .ok (.ifCond .lt 7, 3) := by decide +kernel
theorem dX4_heading_54 : decode cX4_heading 54 = .ok (.iconst 1, 1) := by decide +kernel
theorem dX4_heading_55 : decode cX4_heading 55 = .ok (.goto 4, 3) := by decide +kernel
theorem dX4_heading_58 : decode cX4_heading 58 = .ok (.iconst 0, 1) := by decide +kernel
theorem dX4_heading_59 : decode cX4_heading 59 = .ok (.istore_n 2, 1) := by decide +kernel
theorem dX4_heading_60 : decode cX4_heading 60 = .ok (.iload_n 2, 1) := by decide +kernel
theorem dX4_heading_61 : decode cX4_heading 61 = .ok (.ifCond .eq 7, 3) := by decide +kernel
theorem dX4_heading_64 : decode cX4_heading 64 = .ok (.iconst 1, 1) := by decide +kernel
theorem dX4_heading_65 : decode cX4_heading 65 = .ok (.goto 4, 3) := by decide +kernel
theorem dX4_heading_68 : decode cX4_heading 68 = .ok (.iconst 0, 1) := by decide +kernel
theorem dX4_heading_69 : decode cX4_heading 69 = .ok (.ireturn, 1) := by decide +kernel
theorem dX4_heading_70 : decode cX4_heading 70 = .ok (.aload_n 0, 1) := by decide +kernel
theorem dX4_heading_71 : decode cX4_heading 71 = .ok (.getfield 61, 3) := by decide +kernel
theorem dX4_heading_74 : decode cX4_heading 74 = .ok (.aload_n 0, 1) := by decide +kernel
theorem dX4_heading_75 : decode cX4_heading 75 = .ok (.getfield 27, 3) := by decide +kernel
theorem dX4_heading_78 : decode cX4_heading 78 = .ok (.iload_n 1, 1) := by decide +kernel
theorem dX4_heading_79 : decode cX4_heading 79 = .ok (.iaload, 1) := by decide +kernel
theorem dX4_heading_80 : decode cX4_heading 80 = .ok (.if_icmp .ge 36, 3) := by decide +kernel
theorem dX4_heading_83 : decode cX4_heading 83 = .ok (.aload_n 0, 1) := by decide +kernel
theorem dX4_heading_84 : decode cX4_heading 84 = .ok (.getfield 50, 3) := by decide +kernel
theorem dX4_heading_87 : decode cX4_heading 87 = .ok (.lconst 0, 1) := by decide +kernel
theorem dX4_heading_88 : decode cX4_heading 88 = .ok (.lcmp, 1) := by decide +kernel
theorem dX4_heading_89 : decode cX4_heading 89 = .ok (.ifCond .le 15, 3) := by decide +kernel
theorem dX4_heading_92 : decode cX4_heading 92 = .ok (.aload_n 0, 1) := by decide +kernel
theorem dX4_heading_93 : decode cX4_heading 93 = .ok (.iload_n 1, 1) := by decide +kernel
theorem dX4_heading_94 : decode cX4_heading 94 = .ok (.invokevirtual 97, 3) := by decide +kernel
theorem dX4_heading_97 : decode cX4_heading 97 = .ok (.ifCond .eq 7, 3) := by decide +kernel
theorem dX4_heading_100 : decode cX4_heading 100 = .ok (.iconst 1, 1) := by decide +kernel
theorem dX4_heading_101 : decode cX4_heading 101 = .ok (.goto 4, 3) := by decide +kernel
theorem dX4_heading_104 : decode cX4_heading 104 = .ok (.iconst 0, 1) := by decide +kernel
theorem dX4_heading_105 : decode cX4_heading 105 = .ok (.istore_n 2, 1) := by decide +kernel
theorem dX4_heading_106 : decode cX4_heading 106 = .ok (.iload_n 2, 1) := by decide +kernel
theorem dX4_heading_107 : decode cX4_heading 107 = .ok (.ifCond .eq 7, 3) := by decide +kernel
theorem dX4_heading_110 : decode cX4_heading 110 = .ok (.iconst 2, 1) := by decide +kernel
theorem dX4_heading_111 : decode cX4_heading 111 = .ok (.goto 4, 3) := by decide +kernel
theorem dX4_heading_114 : decode cX4_heading 114 = .ok (.iconst 0, 1) := by decide +kernel
theorem dX4_heading_115 : decode cX4_heading 115 = .ok (.ireturn, 1) := by decide +kernel
theorem dX4_heading_116 : decode cX4_heading 116 = .ok (.iconst 0, 1) := by decide +kernel
theorem dX4_heading_117 : decode cX4_heading 117 = .ok (.ireturn, 1) := by decide +kernel
set_option maxRecDepth 20000 in
theorem ggX4_carry_X4_weigh : GoodIn wsX4_carry wsX4_weigh := goodIn_r _ [10, 2, 11, 12, 13, 5, 14, 15, 16, 17, 18, 19, 20, 21, 22, 23, 24, 25, 26, 27, 28, 29, 30, 31, 32, 33, 34, 35, 36] (by decide +kernel) (by decide +kernel)
set_option maxRecDepth 20000 in
theorem gX4_carry_X4_weigh : GoodIn wsX4_carry (wsV RX4 100 RX4 yX4_weigh wsX4_weigh) := goodIn_app (goodIn_of _ (by decide +kernel)) ggX4_carry_X4_weigh
theorem dX4_carry_0 : decode cX4_carry 0 = .ok (.iload_n 2, 1) := by decide +kernel
theorem dX4_carry_1 : decode cX4_carry 1 = .ok (.iconst 1, 1) := by decide +kernel
theorem dX4_carry_2 : decode cX4_carry 2 = .ok (.if_icmp .ne 7, 3) := by decide +kernel
theorem dX4_carry_5 : decode cX4_carry 5 = .ok (.iconst 1, 1) := by decide +kernel
theorem dX4_carry_6 : decode cX4_carry 6 = .ok (.goto 4, 3) := by decide +kernel
theorem dX4_carry_9 : decode cX4_carry 9 = .ok (.iconst (-1), 1) := by decide +kernel
theorem dX4_carry_10 : decode cX4_carry 10 = .ok (.istore_n 3, 1) := by decide +kernel
theorem dX4_carry_11 : decode cX4_carry 11 = .ok (.aload_n 0, 1) := by decide +kernel
theorem dX4_carry_12 : decode cX4_carry 12 = .ok (.getfield 33, 3) := by decide +kernel
theorem dX4_carry_15 : decode cX4_carry 15 = .ok (.iload_n 1, 1) := by decide +kernel
theorem dX4_carry_16 : decode cX4_carry 16 = .ok (.dup2, 1) := by decide +kernel
theorem dX4_carry_17 : decode cX4_carry 17 = .ok (.laload, 1) := by decide +kernel
theorem dX4_carry_18 : decode cX4_carry 18 = .ok (.iload_n 3, 1) := by decide +kernel
theorem dX4_carry_19 : decode cX4_carry 19 = .ok (.i2l, 1) := by decide +kernel
theorem dX4_carry_20 : decode cX4_carry 20 = .ok (.lsub, 1) := by decide +kernel
theorem dX4_carry_21 : decode cX4_carry 21 = .ok (.lastore, 1) := by decide +kernel
theorem dX4_carry_22 : decode cX4_carry 22 = .ok (.aload_n 0, 1) := by decide +kernel
theorem dX4_carry_23 : decode cX4_carry 23 = .ok (.dup, 1) := by decide +kernel
theorem dX4_carry_24 : decode cX4_carry 24 = .ok (.getfield 50, 3) := by decide +kernel
theorem dX4_carry_27 : decode cX4_carry 27 = .ok (.iload_n 3, 1) := by decide +kernel
theorem dX4_carry_28 : decode cX4_carry 28 = .ok (.i2l, 1) := by decide +kernel
theorem dX4_carry_29 : decode cX4_carry 29 = .ok (.ladd, 1) := by decide +kernel
theorem dX4_carry_30 : decode cX4_carry 30 = .ok (.putfield 50, 3) := by decide +kernel
theorem dX4_carry_33 : decode cX4_carry 33 = .ok (.aload_n 0, 1) := by decide +kernel
theorem dX4_carry_34 : decode cX4_carry 34 = .ok (.getfield 37, 3) := by decide +kernel
theorem dX4_carry_37 : decode cX4_carry 37 = .ok (.iload_n 1, 1) := by decide +kernel
theorem dX4_carry_38 : decode cX4_carry 38 = .ok (.dup2, 1) := by decide +kernel
theorem dX4_carry_39 : decode cX4_carry 39 = .ok (.laload, 1) := by decide +kernel
theorem dX4_carry_40 : decode cX4_carry 40 = .ok (.iload_n 3, 1) := by decide +kernel
theorem dX4_carry_41 : decode cX4_carry 41 = .ok (.aload_n 0, 1) := by decide +kernel
theorem dX4_carry_42 : decode cX4_carry 42 = .ok (.getfield 9, 3) := by decide +kernel
theorem dX4_carry_45 : decode cX4_carry 45 = .ok (.iload_n 1, 1) := by decide +kernel
theorem dX4_carry_46 : decode cX4_carry 46 = .ok (.iaload, 1) := by decide +kernel
theorem dX4_carry_47 : decode cX4_carry 47 = .ok (.imul, 1) := by decide +kernel
theorem dX4_carry_48 : decode cX4_carry 48 = .ok (.i2l, 1) := by decide +kernel
theorem dX4_carry_49 : decode cX4_carry 49 = .ok (.ladd, 1) := by decide +kernel
theorem dX4_carry_50 : decode cX4_carry 50 = .ok (.lastore, 1) := by decide +kernel
theorem dX4_carry_51 : decode cX4_carry 51 = .ok (.aload_n 0, 1) := by decide +kernel
theorem dX4_carry_52 : decode cX4_carry 52 = .ok (.dup, 1) := by decide +kernel
theorem dX4_carry_53 : decode cX4_carry 53 = .ok (.getfield 54, 3) := by decide +kernel
theorem dX4_carry_56 : decode cX4_carry 56 = .ok (.iload_n 3, 1) := by decide +kernel
theorem dX4_carry_57 : decode cX4_carry 57 = .ok (.aload_n 0, 1) := by decide +kernel
theorem dX4_carry_58 : decode cX4_carry 58 = .ok (.getfield 9, 3) := by decide +kernel
theorem dX4_carry_61 : decode cX4_carry 61 = .ok (.iload_n 1, 1) := by decide +kernel
theorem dX4_carry_62 : decode cX4_carry 62 = .ok (.iaload, 1) := by decide +kernel
theorem dX4_carry_63 : decode cX4_carry 63 = .ok (.imul, 1) := by decide +kernel
theorem dX4_carry_64 : decode cX4_carry 64 = .ok (.i2l, 1) := by decide +kernel
theorem dX4_carry_65 : decode cX4_carry 65 = .ok (.lsub, 1) := by decide +kernel
theorem dX4_carry_66 : decode cX4_carry 66 = .ok (.putfield 54, 3) := by decide +kernel
theorem dX4_carry_69 : decode cX4_carry 69 = .ok (.aload_n 0, 1) := by decide +kernel
theorem dX4_carry_70 : decode cX4_carry 70 = .ok (.invokevirtual 100, 3) := by decide +kernel
theorem dX4_carry_73 : decode cX4_carry 73 = .ok (.return_, 1) := by decide +kernel
set_option maxRecDepth 20000 in
theorem ggX4_holders_X4_mints : GoodIn wsX4_holders wsX4_mints := goodIn_r _ [8, 9, 21, 22, 23, 24, 25, 26, 27, 28, 29, 30, 31, 32, 33, 34, 35, 36, 37] (by decide +kernel) (by decide +kernel)
set_option maxRecDepth 20000 in
theorem gX4_holders_X4_mints : GoodIn wsX4_holders (wsV RX4 87 RX4 yX4_mints wsX4_mints) := goodIn_app (goodIn_of _ (by decide +kernel)) ggX4_holders_X4_mints
set_option maxRecDepth 20000 in
theorem ggX4_holders_X4_hasGold : GoodIn wsX4_holders wsX4_hasGold := goodIn_r _ [13, 14, 21, 22, 23, 24, 25, 26, 27, 28, 29, 30, 31, 32, 33, 34, 35, 36, 37] (by decide +kernel) (by decide +kernel)
set_option maxRecDepth 20000 in
theorem gX4_holders_X4_hasGold : GoodIn wsX4_holders (wsV RX4 94 RX4 yX4_hasGold wsX4_hasGold) := goodIn_app (goodIn_of _ (by decide +kernel)) ggX4_holders_X4_hasGold
set_option maxRecDepth 20000 in
theorem ggX4_holders_X4_hasSilver : GoodIn wsX4_holders wsX4_hasSilver := goodIn_r _ [18, 19, 20, 21, 22, 23, 24, 25, 26, 27, 28, 29, 30, 31, 32, 33, 34, 35, 36, 37] (by decide +kernel) (by decide +kernel)
set_option maxRecDepth 20000 in
theorem gX4_holders_X4_hasSilver : GoodIn wsX4_holders (wsV RX4 97 RX4 yX4_hasSilver wsX4_hasSilver) := goodIn_app (goodIn_of _ (by decide +kernel)) ggX4_holders_X4_hasSilver
theorem dX4_holders_0 : decode cX4_holders 0 = .ok (.iconst 0, 1) := by decide +kernel
theorem dX4_holders_1 : decode cX4_holders 1 = .ok (.istore_n 1, 1) := by decide +kernel
theorem dX4_holders_2 : decode cX4_holders 2 = .ok (.iconst 0, 1) := by decide +kernel
theorem dX4_holders_3 : decode cX4_holders 3 = .ok (.istore_n 2, 1) := by decide +kernel
theorem dX4_holders_4 : decode cX4_holders 4 = .ok (.iload_n 2, 1) := by decide +kernel
theorem dX4_holders_5 : decode cX4_holders 5 = .ok (.bipush 8, 2) := by decide +kernel
theorem dX4_holders_7 : decode cX4_holders 7 = .ok (.if_icmp .ge 75, 3) := by decide +kernel
theorem dX4_holders_10 : decode cX4_holders 10 = .ok (.aload_n 0, 1) := by decide +kernel
theorem dX4_holders_11 : decode cX4_holders 11 = .ok (.getfield 61, 3) := by decide +kernel
theorem dX4_holders_14 : decode cX4_holders 14 = .ok (.aload_n 0, 1) := by decide +kernel
theorem dX4_holders_15 : decode cX4_holders 15 = .ok (.getfield 27, 3) := by decide +kernel
theorem dX4_holders_18 : decode cX4_holders 18 = .ok (.iload_n 2, 1) := by decide +kernel
theorem dX4_holders_19 : decode cX4_holders 19 = .ok (.iaload, 1) := by decide +kernel
theorem dX4_holders_20 : decode cX4_holders 20 = .ok (.if_icmp .lt 20, 3) := by decide +kernel
theorem dX4_holders_23 : decode cX4_holders 23 = .ok (.aload_n 0, 1) := by decide +kernel
theorem dX4_holders_24 : decode cX4_holders 24 = .ok (.getfield 61, 3) := by decide +kernel
theorem dX4_holders_27 : decode cX4_holders 27 = .ok (.aload_n 0, 1) := by decide +kernel
theorem dX4_holders_28 : decode cX4_holders 28 = .ok (.getfield 30, 3) := by decide +kernel
theorem dX4_holders_31 : decode cX4_holders 31 = .ok (.iload_n 2, 1) := by decide +kernel
theorem dX4_holders_32 : decode cX4_holders 32 = .ok (.iaload, 1) := by decide +kernel
theorem dX4_holders_33 : decode cX4_holders 33 = .ok (.if_icmp .gt 7, 3) := by decide +kernel
theorem dX4_holders_36 : decode cX4_holders 36 = .ok (.iconst 1, 1) := by decide +kernel
theorem dX4_holders_37 : decode cX4_holders 37 = .ok (.goto 4, 3) := by decide +kernel
theorem dX4_holders_40 : decode cX4_holders 40 = .ok (.iconst 0, 1) := by decide +kernel
theorem dX4_holders_41 : decode cX4_holders 41 = .ok (.istore_n 3, 1) := by decide +kernel
theorem dX4_holders_42 : decode cX4_holders 42 = .ok (.aload_n 0, 1) := by decide +kernel
theorem dX4_holders_43 : decode cX4_holders 43 = .ok (.iload_n 2, 1) := by decide +kernel
theorem dX4_holders_44 : decode cX4_holders 44 = .ok (.invokevirtual 87, 3) := by decide +kernel
theorem dX4_holders_47 : decode cX4_holders 47 = .ok (.ifCond .eq 29, 3) := by decide +kernel
theorem dX4_holders_50 : decode cX4_holders 50 = .ok (.iload_n 3, 1) := by decide +kernel
theorem dX4_holders_51 : decode cX4_holders 51 = .ok (.ifCond .eq 25, 3) := by decide +kernel
theorem dX4_holders_54 : decode cX4_holders 54 = .ok (.aload_n 0, 1) := by decide +kernel
theorem dX4_holders_55 : decode cX4_holders 55 = .ok (.iload_n 2, 1) := by decide +kernel
theorem dX4_holders_56 : decode cX4_holders 56 = .ok (.invokevirtual 94, 3) := by decide +kernel
theorem dX4_holders_59 : decode cX4_holders 59 = .ok (.ifCond .eq 17, 3) := by decide +kernel
theorem dX4_holders_62 : decode cX4_holders 62 = .ok (.aload_n 0, 1) := by decide +kernel
theorem dX4_holders_63 : decode cX4_holders 63 = .ok (.iload_n 2, 1) := by decide +kernel
theorem dX4_holders_64 : decode cX4_holders 64 = .ok (.invokevirtual 97, 3) := by decide +kernel
theorem dX4_holders_67 : decode cX4_holders 67 = .ok (.ifCond .eq 9, 3) := by decide +kernel
theorem dX4_holders_70 : decode cX4_holders 70 = .ok (.iload_n 1, 1) := by decide +kernel
theorem dX4_holders_71 : decode cX4_holders 71 = .ok (.iconst 1, 1) := by decide +kernel
theorem dX4_holders_72 : decode cX4_holders 72 = .ok (.iload_n 2, 1) := by decide +kernel
theorem dX4_holders_73 : decode cX4_holders 73 = .ok (.ishl, 1) := by decide +kernel
theorem dX4_holders_74 : decode cX4_holders 74 = .ok (.ior, 1) := by decide +kernel
theorem dX4_holders_75 : decode cX4_holders 75 = .ok (.istore_n 1, 1) := by decide +kernel
theorem dX4_holders_76 : decode cX4_holders 76 = .ok (.iinc 2 1, 3) := by decide +kernel
theorem dX4_holders_79 : decode cX4_holders 79 = .ok (.goto (-75), 3) := by decide +kernel
theorem dX4_holders_82 : decode cX4_holders 82 = .ok (.iload_n 1, 1) := by decide +kernel
theorem dX4_holders_83 : decode cX4_holders 83 = .ok (.ireturn, 1) := by decide +kernel
set_option maxRecDepth 20000 in
theorem ggX4_stopThoseThatRanLow_X4_mints : GoodIn wsX4_stopThoseThatRanLow wsX4_mints := goodIn_r _ [8, 3, 9, 10, 11, 12, 13, 14, 15, 16, 17, 18, 19, 20, 21, 22, 23, 24, 25] (by decide +kernel) (by decide +kernel)
set_option maxRecDepth 20000 in
theorem gX4_stopThoseThatRanLow_X4_mints : GoodIn wsX4_stopThoseThatRanLow (wsV RX4 87 RX4 yX4_mints wsX4_mints) := goodIn_app (goodIn_of _ (by decide +kernel)) ggX4_stopThoseThatRanLow_X4_mints
theorem dX4_stopThoseThatRanLow_0 : decode cX4_stopThoseThatRanLow 0 = .ok (.iconst 0, 1) := by decide +kernel
theorem dX4_stopThoseThatRanLow_1 : decode cX4_stopThoseThatRanLow 1 = .ok (.istore_n 1, 1) := by decide +kernel
theorem dX4_stopThoseThatRanLow_2 : decode cX4_stopThoseThatRanLow 2 = .ok (.iload_n 1, 1) := by decide +kernel
theorem dX4_stopThoseThatRanLow_3 : decode cX4_stopThoseThatRanLow 3 = .ok (.bipush 8, 2) := by decide +kernel
theorem dX4_stopThoseThatRanLow_5 : decode cX4_stopThoseThatRanLow 5 = .ok (.if_icmp .ge 48, 3) := by decide +kernel
theorem dX4_stopThoseThatRanLow_8 : decode cX4_stopThoseThatRanLow 8 = .ok (.aload_n 0, 1) := by decide +kernel
theorem dX4_stopThoseThatRanLow_9 : decode cX4_stopThoseThatRanLow 9 = .ok (.iload_n 1, 1) := by decide +kernel
theorem dX4_stopThoseThatRanLow_10 : decode cX4_stopThoseThatRanLow 10 = .ok (.invokevirtual 87, 3) := by decide +kernel
theorem dX4_stopThoseThatRanLow_13 : decode cX4_stopThoseThatRanLow 13 = .ok (.ifCond .eq 34, 3) := by decide +kernel
theorem dX4_stopThoseThatRanLow_16 : decode cX4_stopThoseThatRanLow 16 = .ok (.aload_n 0, 1) := by decide +kernel
theorem dX4_stopThoseThatRanLow_17 : decode cX4_stopThoseThatRanLow 17 = .ok (.getfield 33, 3) := by decide +kernel
theorem dX4_stopThoseThatRanLow_20 : decode cX4_stopThoseThatRanLow 20 = .ok (.iload_n 1, 1) := by decide +kernel
theorem dX4_stopThoseThatRanLow_21 : decode cX4_stopThoseThatRanLow 21 = .ok (.laload, 1) := by decide +kernel
theorem dX4_stopThoseThatRanLow_22 : decode cX4_stopThoseThatRanLow 22 = .ok (.aload_n 0, 1) := by decide +kernel
theorem dX4_stopThoseThatRanLow_23 : decode cX4_stopThoseThatRanLow 23 = .ok (.getfield 24, 3) := by decide +kernel
theorem dX4_stopThoseThatRanLow_26 : decode cX4_stopThoseThatRanLow 26 = .ok (.iload_n 1, 1) := by decide +kernel
theorem dX4_stopThoseThatRanLow_27 : decode cX4_stopThoseThatRanLow 27 = .ok (.iaload, 1) := by decide +kernel
theorem dX4_stopThoseThatRanLow_28 : decode cX4_stopThoseThatRanLow 28 = .ok (.i2l, 1) := by decide +kernel
theorem dX4_stopThoseThatRanLow_29 : decode cX4_stopThoseThatRanLow 29 = .ok (.lcmp, 1) := by decide +kernel
theorem dX4_stopThoseThatRanLow_30 : decode cX4_stopThoseThatRanLow 30 = .ok (.ifCond .gt 17, 3) := by decide +kernel
theorem dX4_stopThoseThatRanLow_33 : decode cX4_stopThoseThatRanLow 33 = .ok (.aload_n 0, 1) := by decide +kernel
theorem dX4_stopThoseThatRanLow_34 : decode cX4_stopThoseThatRanLow 34 = .ok (.dup, 1) := by decide +kernel
theorem dX4_stopThoseThatRanLow_35 : decode cX4_stopThoseThatRanLow 35 = .ok (.getfield 44, 3) := by decide +kernel
theorem dX4_stopThoseThatRanLow_38 : decode cX4_stopThoseThatRanLow 38 = .ok (.iconst 1, 1) := by decide +kernel
theorem dX4_stopThoseThatRanLow_39 : decode cX4_stopThoseThatRanLow 39 = .ok (.iload_n 1, 1) := by decide +kernel
theorem dX4_stopThoseThatRanLow_40 : decode cX4_stopThoseThatRanLow 40 = .ok (.ishl, 1) := by decide +kernel
theorem dX4_stopThoseThatRanLow_41 : decode cX4_stopThoseThatRanLow 41 = .ok (.iconst (-1), 1) := by decide +kernel
theorem dX4_stopThoseThatRanLow_42 : decode cX4_stopThoseThatRanLow 42 = .ok (.ixor, 1) := by decide +kernel
theorem dX4_stopThoseThatRanLow_43 : decode cX4_stopThoseThatRanLow 43 = .ok (.iand, 1) := by decide +kernel
theorem dX4_stopThoseThatRanLow_44 : decode cX4_stopThoseThatRanLow 44 = .ok (.putfield 44, 3) := by decide +kernel
theorem dX4_stopThoseThatRanLow_47 : decode cX4_stopThoseThatRanLow 47 = .ok (.iinc 1 1, 3) := by decide +kernel
theorem dX4_stopThoseThatRanLow_50 : decode cX4_stopThoseThatRanLow 50 = .ok (.goto (-48), 3) := by decide +kernel
theorem dX4_stopThoseThatRanLow_53 : decode cX4_stopThoseThatRanLow 53 = .ok (.return_, 1) := by decide +kernel
set_option maxRecDepth 20000 in
theorem ggX4_goldInAll_X4_has : GoodIn wsX4_goldInAll wsX4_has := goodIn_r _ [7, 8, 9, 10, 11, 12, 13, 14, 15, 16, 17, 18, 19, 20, 21, 22, 23, 24, 25] (by decide +kernel) (by decide +kernel)
set_option maxRecDepth 20000 in
theorem gX4_goldInAll_X4_has : GoodIn wsX4_goldInAll (wsV RX4 103 RX4 yX4_has wsX4_has) := goodIn_app (goodIn_of _ (by decide +kernel)) ggX4_goldInAll_X4_has
theorem dX4_goldInAll_0 : decode cX4_goldInAll 0 = .ok (.aload_n 0, 1) := by decide +kernel
theorem dX4_goldInAll_1 : decode cX4_goldInAll 1 = .ok (.getfield 50, 3) := by decide +kernel
theorem dX4_goldInAll_4 : decode cX4_goldInAll 4 = .ok (.lstore_n 1, 1) := by decide +kernel
theorem dX4_goldInAll_5 : decode cX4_goldInAll 5 = .ok (.iconst 0, 1) := by decide +kernel
theorem dX4_goldInAll_6 : decode cX4_goldInAll 6 = .ok (.istore_n 3, 1) := by decide +kernel
theorem dX4_goldInAll_7 : decode cX4_goldInAll 7 = .ok (.iload_n 3, 1) := by decide +kernel
theorem dX4_goldInAll_8 : decode cX4_goldInAll 8 = .ok (.bipush 8, 2) := by decide +kernel
theorem dX4_goldInAll_10 : decode cX4_goldInAll 10 = .ok (.if_icmp .ge 30, 3) := by decide +kernel
theorem dX4_goldInAll_13 : decode cX4_goldInAll 13 = .ok (.lload_n 1, 1) := by decide +kernel
theorem dX4_goldInAll_14 : decode cX4_goldInAll 14 = .ok (.aload_n 0, 1) := by decide +kernel
theorem dX4_goldInAll_15 : decode cX4_goldInAll 15 = .ok (.iload_n 3, 1) := by decide +kernel
theorem dX4_goldInAll_16 : decode cX4_goldInAll 16 = .ok (.invokevirtual 103, 3) := by decide +kernel
theorem dX4_goldInAll_19 : decode cX4_goldInAll 19 = .ok (.ifCond .eq 12, 3) := by decide +kernel
theorem dX4_goldInAll_22 : decode cX4_goldInAll 22 = .ok (.aload_n 0, 1) := by decide +kernel
theorem dX4_goldInAll_23 : decode cX4_goldInAll 23 = .ok (.getfield 33, 3) := by decide +kernel
theorem dX4_goldInAll_26 : decode cX4_goldInAll 26 = .ok (.iload_n 3, 1) := by decide +kernel
theorem dX4_goldInAll_27 : decode cX4_goldInAll 27 = .ok (.laload, 1) := by decide +kernel
theorem dX4_goldInAll_28 : decode cX4_goldInAll 28 = .ok (.goto 4, 3) := by decide +kernel
theorem dX4_goldInAll_31 : decode cX4_goldInAll 31 = .ok (.lconst 0, 1) := by decide +kernel
theorem dX4_goldInAll_32 : decode cX4_goldInAll 32 = .ok (.ladd, 1) := by decide +kernel
theorem dX4_goldInAll_33 : decode cX4_goldInAll 33 = .ok (.lstore_n 1, 1) := by decide +kernel
theorem dX4_goldInAll_34 : decode cX4_goldInAll 34 = .ok (.iinc 3 1, 3) := by decide +kernel
theorem dX4_goldInAll_37 : decode cX4_goldInAll 37 = .ok (.goto (-30), 3) := by decide +kernel
theorem dX4_goldInAll_40 : decode cX4_goldInAll 40 = .ok (.lload_n 1, 1) := by decide +kernel
theorem dX4_goldInAll_41 : decode cX4_goldInAll 41 = .ok (.lreturn, 1) := by decide +kernel
set_option maxRecDepth 20000 in
theorem ggX5_init_X3_init : GoodIn wsX5_init wsX3_init := goodIn_r _ [28, 29, 2, 3, 30, 31, 32, 76, 77] (by decide +kernel) (by decide +kernel)
set_option maxRecDepth 20000 in
theorem gX5_init_X3_init_n9 : GoodIn wsX5_init (wsX3_init) := ggX5_init_X3_init
set_option maxRecDepth 20000 in
theorem ggX5_init_X2_init : GoodIn wsX5_init wsX2_init := goodIn_r _ [34, 35, 2, 3, 36, 21, 22, 37, 38, 17, 18, 39, 40, 41, 42, 43, 44, 45, 46, 47, 48, 49, 50, 51, 52, 53, 54, 55, 56, 57, 58, 59, 60, 61, 62, 63, 64, 65, 66, 67, 68, 69, 70, 95, 96, 97, 98, 99, 100, 101, 102, 103, 104, 105, 106, 107, 108, 109, 110, 111, 86, 87, 88, 89, 92, 93, 94] (by decide +kernel) (by decide +kernel)
set_option maxRecDepth 20000 in
theorem gX5_init_X2_init_n18 : GoodIn wsX5_init (wsX2_init) := ggX5_init_X2_init
set_option maxRecDepth 20000 in
theorem ggX5_init_X1_init : GoodIn wsX5_init wsX1_init := goodIn_r _ [72, 73, 2, 3, 40, 74, 53, 75, 90, 91] (by decide +kernel) (by decide +kernel)
set_option maxRecDepth 20000 in
theorem gX5_init_X1_init_n25 : GoodIn wsX5_init (wsX1_init) := ggX5_init_X1_init
set_option maxRecDepth 20000 in
theorem ggX5_init_X0_init : GoodIn wsX5_init wsX0_init := goodIn_r _ [66, 67, 2, 3, 40, 68, 69, 70, 92, 93, 94] (by decide +kernel) (by decide +kernel)
set_option maxRecDepth 20000 in
theorem gX5_init_X0_init_n32 : GoodIn wsX5_init (wsX0_init) := ggX5_init_X0_init
set_option maxRecDepth 20000 in
theorem ggX5_init_X4_init : GoodIn wsX5_init wsX4_init := goodIn_r _ [44, 45, 2, 3, 40, 46, 47, 48, 49, 50, 51, 52, 53, 54, 55, 56, 57, 58, 59, 60, 61, 62, 63, 64, 95, 96, 97, 98, 99, 100, 101, 102, 103, 104, 105, 106, 107, 108, 109, 110, 111] (by decide +kernel) (by decide +kernel)
set_option maxRecDepth 20000 in
theorem gX5_init_X4_init_n39 : GoodIn wsX5_init (wsX4_init) := ggX5_init_X4_init
theorem dX5_init_0 : decode cX5_init 0 = .ok (.aload_n 0, 1) := by decide +kernel
theorem dX5_init_1 : decode cX5_init 1 = .ok (.invokespecial 1, 3) := by decide +kernel
theorem dX5_init_4 : decode cX5_init 4 = .ok (.aload_n 0, 1) := by decide +kernel
theorem dX5_init_5 : decode cX5_init 5 = .ok (.new 7, 3) := by decide +kernel
theorem dX5_init_8 : decode cX5_init 8 = .ok (.dup, 1) := by decide +kernel
theorem dX5_init_9 : decode cX5_init 9 = .ok (.invokespecial 9, 3) := by decide +kernel
theorem dX5_init_12 : decode cX5_init 12 = .ok (.putfield 10, 3) := by decide +kernel
theorem dX5_init_15 : decode cX5_init 15 = .ok (.aload_n 0, 1) := by decide +kernel
theorem dX5_init_16 : decode cX5_init 16 = .ok (.new 16, 3) := by decide +kernel
theorem dX5_init_19 : decode cX5_init 19 = .ok (.dup, 1) := by decide +kernel
theorem dX5_init_20 : decode cX5_init 20 = .ok (.invokespecial 18, 3) := by decide +kernel
theorem dX5_init_23 : decode cX5_init 23 = .ok (.putfield 19, 3) := by decide +kernel
theorem dX5_init_26 : decode cX5_init 26 = .ok (.aload_n 0, 1) := by decide +kernel
theorem dX5_init_27 : decode cX5_init 27 = .ok (.new 23, 3) := by decide +kernel
theorem dX5_init_30 : decode cX5_init 30 = .ok (.dup, 1) := by decide +kernel
theorem dX5_init_31 : decode cX5_init 31 = .ok (.invokespecial 25, 3) := by decide +kernel
theorem dX5_init_34 : decode cX5_init 34 = .ok (.putfield 26, 3) := by decide +kernel
theorem dX5_init_37 : decode cX5_init 37 = .ok (.aload_n 0, 1) := by decide +kernel
theorem dX5_init_38 : decode cX5_init 38 = .ok (.new 30, 3) := by decide +kernel
theorem dX5_init_41 : decode cX5_init 41 = .ok (.dup, 1) := by decide +kernel
theorem dX5_init_42 : decode cX5_init 42 = .ok (.invokespecial 32, 3) := by decide +kernel
theorem dX5_init_45 : decode cX5_init 45 = .ok (.putfield 33, 3) := by decide +kernel
theorem dX5_init_48 : decode cX5_init 48 = .ok (.aload_n 0, 1) := by decide +kernel
theorem dX5_init_49 : decode cX5_init 49 = .ok (.new 37, 3) := by decide +kernel
theorem dX5_init_52 : decode cX5_init 52 = .ok (.dup, 1) := by decide +kernel
theorem dX5_init_53 : decode cX5_init 53 = .ok (.invokespecial 39, 3) := by decide +kernel
theorem dX5_init_56 : decode cX5_init 56 = .ok (.putfield 40, 3) := by decide +kernel
theorem dX5_init_59 : decode cX5_init 59 = .ok (.aload_n 0, 1) := by decide +kernel
theorem dX5_init_60 : decode cX5_init 60 = .ok (.new 37, 3) := by decide +kernel
theorem dX5_init_63 : decode cX5_init 63 = .ok (.dup, 1) := by decide +kernel
theorem dX5_init_64 : decode cX5_init 64 = .ok (.invokespecial 39, 3) := by decide +kernel
theorem dX5_init_67 : decode cX5_init 67 = .ok (.putfield 44, 3) := by decide +kernel
theorem dX5_init_70 : decode cX5_init 70 = .ok (.aload_n 0, 1) := by decide +kernel
theorem dX5_init_71 : decode cX5_init 71 = .ok (.iconst 2, 1) := by decide +kernel
theorem dX5_init_72 : decode cX5_init 72 = .ok (.anewarray 37, 3) := by decide +kernel
theorem dX5_init_75 : decode cX5_init 75 = .ok (.putfield 47, 3) := by decide +kernel
theorem dX5_init_78 : decode cX5_init 78 = .ok (.aload_n 0, 1) := by decide +kernel
theorem dX5_init_79 : decode cX5_init 79 = .ok (.iconst 0, 1) := by decide +kernel
theorem dX5_init_80 : decode cX5_init 80 = .ok (.putfield 51, 3) := by decide +kernel
theorem dX5_init_83 : decode cX5_init 83 = .ok (.iconst 0, 1) := by decide +kernel
theorem dX5_init_84 : decode cX5_init 84 = .ok (.istore_n 1, 1) := by decide +kernel
theorem dX5_init_85 : decode cX5_init 85 = .ok (.iload_n 1, 1) := by decide +kernel
theorem dX5_init_86 : decode cX5_init 86 = .ok (.iconst 2, 1) := by decide +kernel
theorem dX5_init_87 : decode cX5_init 87 = .ok (.if_icmp .ge 22, 3) := by decide +kernel
theorem dX5_init_90 : decode cX5_init 90 = .ok (.aload_n 0, 1) := by decide +kernel
theorem dX5_init_91 : decode cX5_init 91 = .ok (.getfield 47, 3) := by decide +kernel
theorem dX5_init_94 : decode cX5_init 94 = .ok (.iload_n 1, 1) := by decide +kernel
theorem dX5_init_95 : decode cX5_init 95 = .ok (.new 37, 3) := by decide +kernel
theorem dX5_init_98 : decode cX5_init 98 = .ok (.dup, 1) := by decide +kernel
theorem dX5_init_99 : decode cX5_init 99 = .ok (.invokespecial 39, 3) := by decide +kernel
theorem dX5_init_102 : decode cX5_init 102 = .ok (.aastore, 1) := by decide +kernel
theorem dX5_init_103 : decode cX5_init 103 = .ok (.iinc 1 1, 3) := by decide +kernel
theorem dX5_init_106 : decode cX5_init 106 = .ok (.goto (-21), 3) := by decide +kernel
theorem dX5_init_109 : decode cX5_init 109 = .ok (.return_, 1) := by decide +kernel
set_option maxRecDepth 20000 in
theorem ggX5_write_X3_hasRoomFor : GoodIn wsX5_write wsX3_hasRoomFor := goodIn_r _ [7, 8, 22, 23] (by decide +kernel) (by decide +kernel)
set_option maxRecDepth 20000 in
theorem gX5_write_X3_hasRoomFor : GoodIn wsX5_write (wsV RX5 55 RX3 yX3_hasRoomFor wsX3_hasRoomFor) := goodIn_app (goodIn_of _ (by decide +kernel)) ggX5_write_X3_hasRoomFor
set_option maxRecDepth 20000 in
theorem ggX5_write_X3_append : GoodIn wsX5_write wsX3_append := goodIn_r _ [12, 8, 13, 22, 23] (by decide +kernel) (by decide +kernel)
set_option maxRecDepth 20000 in
theorem gX5_write_X3_append : GoodIn wsX5_write (wsV RX5 59 RX3 yX3_append wsX3_append) := goodIn_app (goodIn_of _ (by decide +kernel)) ggX5_write_X3_append
theorem dX5_write_0 : decode cX5_write 0 = .ok (.iload_n 1, 1) := by decide +kernel
theorem dX5_write_1 : decode cX5_write 1 = .ok (.iconst 1, 1) := by decide +kernel
theorem dX5_write_2 : decode cX5_write 2 = .ok (.if_icmp .lt 9, 3) := by decide +kernel
theorem dX5_write_5 : decode cX5_write 5 = .ok (.iload_n 1, 1) := by decide +kernel
theorem dX5_write_6 : decode cX5_write 6 = .ok (.bipush 8, 2) := by decide +kernel
theorem dX5_write_8 : decode cX5_write 8 = .ok (.if_icmp .le 5, 3) := by decide +kernel
theorem dX5_write_11 : decode cX5_write 11 = .ok (.iconst (-1), 1) := by decide +kernel
theorem dX5_write_12 : decode cX5_write 12 = .ok (.ireturn, 1) := by decide +kernel
theorem dX5_write_13 : decode cX5_write 13 = .ok (.aload_n 0, 1) := by decide +kernel
theorem dX5_write_14 : decode cX5_write 14 = .ok (.getfield 10, 3) := by decide +kernel
theorem dX5_write_17 : decode cX5_write 17 = .ok (.iload_n 1, 1) := by decide +kernel
theorem dX5_write_18 : decode cX5_write 18 = .ok (.invokevirtual 55, 3) := by decide +kernel
theorem dX5_write_21 : decode cX5_write 21 = .ok (.ifCond .ne 6, 3) := by decide +kernel
theorem dX5_write_24 : decode cX5_write 24 = .ok (.bipush (-3), 2) := by decide +kernel
theorem dX5_write_26 : decode cX5_write 26 = .ok (.ireturn, 1) := by decide +kernel
theorem dX5_write_27 : decode cX5_write 27 = .ok (.aload_n 0, 1) := by decide +kernel
theorem dX5_write_28 : decode cX5_write 28 = .ok (.getfield 10, 3) := by decide +kernel
theorem dX5_write_31 : decode cX5_write 31 = .ok (.iload_n 1, 1) := by decide +kernel
theorem dX5_write_32 : decode cX5_write 32 = .ok (.lload_n 2, 1) := by decide +kernel
theorem dX5_write_33 : decode cX5_write 33 = .ok (.invokevirtual 59, 3) := by decide +kernel
theorem dX5_write_36 : decode cX5_write 36 = .ok (.aload_n 0, 1) := by decide +kernel
theorem dX5_write_37 : decode cX5_write 37 = .ok (.getfield 10, 3) := by decide +kernel
theorem dX5_write_40 : decode cX5_write 40 = .ok (.getfield 63, 3) := by decide +kernel
theorem dX5_write_43 : decode cX5_write 43 = .ok (.ireturn, 1) := by decide +kernel
theorem dX5_wipe_0 : decode cX5_wipe 0 = .ok (.aload_n 0, 1) := by decide +kernel
theorem dX5_wipe_1 : decode cX5_wipe 1 = .ok (.getfield 10, 3) := by decide +kernel
theorem dX5_wipe_4 : decode cX5_wipe 4 = .ok (.getfield 63, 3) := by decide +kernel
theorem dX5_wipe_7 : decode cX5_wipe 7 = .ok (.istore_n 1, 1) := by decide +kernel
theorem dX5_wipe_8 : decode cX5_wipe 8 = .ok (.aload_n 0, 1) := by decide +kernel
theorem dX5_wipe_9 : decode cX5_wipe 9 = .ok (.getfield 10, 3) := by decide +kernel
theorem dX5_wipe_12 : decode cX5_wipe 12 = .ok (.iconst 0, 1) := by decide +kernel
theorem dX5_wipe_13 : decode cX5_wipe 13 = .ok (.putfield 63, 3) := by decide +kernel
theorem dX5_wipe_16 : decode cX5_wipe 16 = .ok (.iload_n 1, 1) := by decide +kernel
theorem dX5_wipe_17 : decode cX5_wipe 17 = .ok (.ireturn, 1) := by decide +kernel
set_option maxRecDepth 20000 in
theorem ggX5_fault_X2_firstFault : GoodIn wsX5_fault wsX2_firstFault := goodIn_r _ [7, 8, 9, 10, 11, 12, 13, 14, 15, 16, 17, 18, 19, 20, 21, 22, 23, 24, 25, 26, 27, 28, 29, 30, 31, 32, 33, 34, 35, 36, 37, 38, 39, 40, 6, 41, 42, 43, 44, 45, 46, 47, 48, 49, 50, 51, 52, 53, 54, 55, 56, 57, 58, 59, 60, 61, 62, 63, 64, 65, 66, 67, 68, 69, 70, 71, 72, 73, 74, 75, 76, 77, 78, 79, 80, 81, 82, 83, 84, 85, 86, 87, 88, 89, 90, 91, 92, 93, 94, 95, 96, 97, 98, 99, 100, 101, 102, 103, 104, 105, 106, 107, 108, 109, 110, 111, 112, 113, 114, 115, 116, 117, 118, 119, 120, 121, 122, 123, 124, 125, 126, 127, 128, 129, 130, 131, 132, 133, 134, 135, 136, 137, 138, 139, 140, 141, 150, 151, 152, 153, 154, 155, 156, 157, 158, 159, 160, 161, 162, 163, 164, 165, 166, 167, 168, 169, 170, 171, 172, 173, 174, 175] (by decide +kernel) (by decide +kernel)
set_option maxRecDepth 20000 in
theorem gX5_fault_X2_firstFault : GoodIn wsX5_fault (wsV RX5 66 RX2 yX2_firstFault wsX2_firstFault) := goodIn_app (goodIn_of _ (by decide +kernel)) ggX5_fault_X2_firstFault
theorem dX5_fault_0 : decode cX5_fault 0 = .ok (.aload_n 0, 1) := by decide +kernel
theorem dX5_fault_1 : decode cX5_fault 1 = .ok (.getfield 19, 3) := by decide +kernel
theorem dX5_fault_4 : decode cX5_fault 4 = .ok (.aload_n 0, 1) := by decide +kernel
theorem dX5_fault_5 : decode cX5_fault 5 = .ok (.getfield 10, 3) := by decide +kernel
theorem dX5_fault_8 : decode cX5_fault 8 = .ok (.invokevirtual 66, 3) := by decide +kernel
theorem dX5_fault_11 : decode cX5_fault 11 = .ok (.ireturn, 1) := by decide +kernel
set_option maxRecDepth 20000 in
theorem ggX5_lay_X2_firstFault : GoodIn wsX5_lay wsX2_firstFault := goodIn_r _ [13, 14, 15, 16, 17, 18, 19, 20, 21, 22, 23, 24, 25, 26, 27, 28, 29, 30, 31, 32, 33, 34, 35, 36, 37, 38, 39, 40, 41, 42, 43, 44, 45, 46, 12, 47, 48, 49, 50, 51, 52, 53, 54, 55, 56, 57, 58, 59, 60, 61, 62, 63, 64, 65, 66, 67, 68, 69, 70, 71, 72, 73, 74, 75, 76, 77, 78, 79, 80, 81, 82, 83, 84, 85, 86, 87, 88, 89, 90, 91, 92, 93, 94, 95, 96, 97, 98, 99, 100, 101, 102, 103, 104, 105, 106, 107, 108, 109, 110, 111, 112, 113, 114, 115, 116, 117, 118, 119, 120, 121, 122, 123, 124, 125, 126, 127, 128, 129, 130, 131, 132, 133, 134, 135, 136, 137, 138, 139, 140, 141, 142, 143, 144, 145, 146, 147, 180, 181, 182, 183, 201, 202, 184, 185, 186, 187, 188, 189, 190, 191, 192, 193, 194, 195, 196, 197, 198, 199, 200, 203, 204, 205] (by decide +kernel) (by decide +kernel)
set_option maxRecDepth 20000 in
theorem gX5_lay_X2_firstFault : GoodIn wsX5_lay (wsV RX5 66 RX2 yX2_firstFault wsX2_firstFault) := goodIn_app (goodIn_of _ (by decide +kernel)) ggX5_lay_X2_firstFault
set_option maxRecDepth 20000 in
theorem ggX5_lay_X4_copyFrom : GoodIn wsX5_lay wsX4_copyFrom := goodIn_r _ [151, 98, 152, 153, 154, 155, 101, 99, 156, 157, 106, 107, 158, 159, 23, 24, 25, 26, 27, 28, 30, 31, 184, 185, 186, 187, 188, 189, 190, 191, 192, 193, 194, 195, 196, 197, 198, 199, 200] (by decide +kernel) (by decide +kernel)
set_option maxRecDepth 20000 in
theorem gX5_lay_X4_copyFrom : GoodIn wsX5_lay (wsV RX5 73 RX4 yX4_copyFrom wsX4_copyFrom) := goodIn_app (goodIn_of _ (by decide +kernel)) ggX5_lay_X4_copyFrom
set_option maxRecDepth 20000 in
theorem ggX5_lay_X0_copyFrom : GoodIn wsX5_lay wsX0_copyFrom := goodIn_r _ [163, 37, 164, 153, 154, 155, 38, 39, 203, 204, 205] (by decide +kernel) (by decide +kernel)
set_option maxRecDepth 20000 in
theorem gX5_lay_X0_copyFrom : GoodIn wsX5_lay (wsV RX5 78 RX0 yX0_copyFrom wsX0_copyFrom) := goodIn_app (goodIn_of _ (by decide +kernel)) ggX5_lay_X0_copyFrom
set_option maxRecDepth 20000 in
theorem ggX5_lay_J6_bitCount_0f7a4 : GoodIn wsX5_lay wsJ6_bitCount_0f7a4 := goodIn_r _ [168, 169, 170, 171] (by decide +kernel) (by decide +kernel)
set_option maxRecDepth 20000 in
theorem gX5_lay_J6_bitCount_0f7a4 : GoodIn wsX5_lay (va_wsS RX5 84 yJ6_bitCount_0f7a4 wsJ6_bitCount_0f7a4) := goodIn_app (goodIn_of _ (by decide +kernel)) ggX5_lay_J6_bitCount_0f7a4
theorem dX5_lay_0 : decode cX5_lay 0 = .ok (.aload_n 0, 1) := by decide +kernel
theorem dX5_lay_1 : decode cX5_lay 1 = .ok (.getfield 19, 3) := by decide +kernel
theorem dX5_lay_4 : decode cX5_lay 4 = .ok (.aload_n 0, 1) := by decide +kernel
theorem dX5_lay_5 : decode cX5_lay 5 = .ok (.getfield 10, 3) := by decide +kernel
theorem dX5_lay_8 : decode cX5_lay 8 = .ok (.invokevirtual 66, 3) := by decide +kernel
theorem dX5_lay_11 : decode cX5_lay 11 = .ok (.bipush (-4), 2) := by decide +kernel
theorem dX5_lay_13 : decode cX5_lay 13 = .ok (.if_icmp .eq 6, 3) := by decide +kernel
theorem dX5_lay_16 : decode cX5_lay 16 = .ok (.bipush (-2), 2) := by decide +kernel
theorem dX5_lay_18 : decode cX5_lay 18 = .ok (.ireturn, 1) := by decide +kernel
theorem dX5_lay_19 : decode cX5_lay 19 = .ok (.aload_n 0, 1) := by decide +kernel
theorem dX5_lay_20 : decode cX5_lay 20 = .ok (.getfield 40, 3) := by decide +kernel
theorem dX5_lay_23 : decode cX5_lay 23 = .ok (.aload_n 0, 1) := by decide +kernel
theorem dX5_lay_24 : decode cX5_lay 24 = .ok (.getfield 19, 3) := by decide +kernel
theorem dX5_lay_27 : decode cX5_lay 27 = .ok (.getfield 70, 3) := by decide +kernel
theorem dX5_lay_30 : decode cX5_lay 30 = .ok (.invokevirtual 73, 3) := by decide +kernel
theorem dX5_lay_33 : decode cX5_lay 33 = .ok (.aload_n 0, 1) := by decide +kernel
theorem dX5_lay_34 : decode cX5_lay 34 = .ok (.getfield 33, 3) := by decide +kernel
theorem dX5_lay_37 : decode cX5_lay 37 = .ok (.aload_n 0, 1) := by decide +kernel
theorem dX5_lay_38 : decode cX5_lay 38 = .ok (.getfield 19, 3) := by decide +kernel
theorem dX5_lay_41 : decode cX5_lay 41 = .ok (.getfield 77, 3) := by decide +kernel
theorem dX5_lay_44 : decode cX5_lay 44 = .ok (.invokevirtual 78, 3) := by decide +kernel
theorem dX5_lay_47 : decode cX5_lay 47 = .ok (.aload_n 0, 1) := by decide +kernel
theorem dX5_lay_48 : decode cX5_lay 48 = .ok (.iconst 0, 1) := by decide +kernel
theorem dX5_lay_49 : decode cX5_lay 49 = .ok (.putfield 51, 3) := by decide +kernel
theorem dX5_lay_52 : decode cX5_lay 52 = .ok (.aload_n 0, 1) := by decide +kernel
theorem dX5_lay_53 : decode cX5_lay 53 = .ok (.getfield 40, 3) := by decide +kernel
theorem dX5_lay_56 : decode cX5_lay 56 = .ok (.getfield 81, 3) := by decide +kernel
theorem dX5_lay_59 : decode cX5_lay 59 = .ok (.invokestatic 84, 3) := by decide +kernel
theorem dX5_lay_62 : decode cX5_lay 62 = .ok (.ireturn, 1) := by decide +kernel
set_option maxRecDepth 20000 in
theorem ggX5_realm_X4_has : GoodIn wsX5_realm wsX4_has := goodIn_r _ [13, 14, 33, 34, 35, 36, 37, 38, 39, 40, 41, 42, 43, 44, 45, 46, 47, 48, 49] (by decide +kernel) (by decide +kernel)
set_option maxRecDepth 20000 in
theorem gX5_realm_X4_has : GoodIn wsX5_realm (wsV RX5 90 RX4 yX4_has wsX4_has) := goodIn_app (goodIn_of _ (by decide +kernel)) ggX5_realm_X4_has
set_option maxRecDepth 20000 in
theorem ggX5_realm_X4_mints : GoodIn wsX5_realm wsX4_mints := goodIn_r _ [18, 19, 33, 34, 35, 36, 37, 38, 39, 40, 41, 42, 43, 44, 45, 46, 47, 48, 49] (by decide +kernel) (by decide +kernel)
set_option maxRecDepth 20000 in
theorem gX5_realm_X4_mints : GoodIn wsX5_realm (wsV RX5 115 RX4 yX4_mints wsX4_mints) := goodIn_app (goodIn_of _ (by decide +kernel)) ggX5_realm_X4_mints
set_option maxRecDepth 20000 in
theorem ggX5_realm_X4_limps : GoodIn wsX5_realm wsX4_limps := goodIn_r _ [23, 24, 33, 34, 35, 36, 37, 38, 39, 40, 41, 42, 43, 44, 45, 46, 47, 48, 49] (by decide +kernel) (by decide +kernel)
set_option maxRecDepth 20000 in
theorem gX5_realm_X4_limps : GoodIn wsX5_realm (wsV RX5 118 RX4 yX4_limps wsX4_limps) := goodIn_app (goodIn_of _ (by decide +kernel)) ggX5_realm_X4_limps
theorem dX5_realm_0 : decode cX5_realm 0 = .ok (.aload_n 0, 1) := by decide +kernel
theorem dX5_realm_1 : decode cX5_realm 1 = .ok (.getfield 40, 3) := by decide +kernel
theorem dX5_realm_4 : decode cX5_realm 4 = .ok (.iload_n 1, 1) := by decide +kernel
theorem dX5_realm_5 : decode cX5_realm 5 = .ok (.invokevirtual 90, 3) := by decide +kernel
theorem dX5_realm_8 : decode cX5_realm 8 = .ok (.ifCond .ne 7, 3) := by decide +kernel
theorem dX5_realm_11 : decode cX5_realm 11 = .ok (.ldc2_w 93, 3) := by decide +kernel
theorem dX5_realm_14 : decode cX5_realm 14 = .ok (.lreturn, 1) := by decide +kernel
theorem dX5_realm_15 : decode cX5_realm 15 = .ok (.iload_n 2, 1) := by decide +kernel
theorem dX5_realm_16 : decode cX5_realm 16 = .ok (.tableswitch 146 0 7 #[48, 59, 70, 81, 91, 101, 112, 129], 48) := by decide +kernel
theorem dX5_realm_64 : decode cX5_realm 64 = .ok (.aload_n 0, 1) := by decide +kernel
theorem dX5_realm_65 : decode cX5_realm 65 = .ok (.getfield 40, 3) := by decide +kernel
theorem dX5_realm_68 : decode cX5_realm 68 = .ok (.getfield 95, 3) := by decide +kernel
theorem dX5_realm_71 : decode cX5_realm 71 = .ok (.iload_n 1, 1) := by decide +kernel
theorem dX5_realm_72 : decode cX5_realm 72 = .ok (.iaload, 1) := by decide +kernel
theorem dX5_realm_73 : decode cX5_realm 73 = .ok (.i2l, 1) := by decide +kernel
theorem dX5_realm_74 : decode cX5_realm 74 = .ok (.lreturn, 1) := by decide +kernel
theorem dX5_realm_75 : decode cX5_realm 75 = .ok (.aload_n 0, 1) := by decide +kernel
theorem dX5_realm_76 : decode cX5_realm 76 = .ok (.getfield 40, 3) := by decide +kernel
theorem dX5_realm_79 : decode cX5_realm 79 = .ok (.getfield 99, 3) := by decide +kernel
theorem dX5_realm_82 : decode cX5_realm 82 = .ok (.iload_n 1, 1) := by decide +kernel
theorem dX5_realm_83 : decode cX5_realm 83 = .ok (.iaload, 1) := by decide +kernel
theorem dX5_realm_84 : decode cX5_realm 84 = .ok (.i2l, 1) := by decide +kernel
theorem dX5_realm_85 : decode cX5_realm 85 = .ok (.lreturn, 1) := by decide +kernel
theorem dX5_realm_86 : decode cX5_realm 86 = .ok (.aload_n 0, 1) := by decide +kernel
theorem dX5_realm_87 : decode cX5_realm 87 = .ok (.getfield 40, 3) := by decide +kernel
theorem dX5_realm_90 : decode cX5_realm 90 = .ok (.getfield 102, 3) := by decide +kernel
theorem dX5_realm_93 : decode cX5_realm 93 = .ok (.iload_n 1, 1) := by decide +kernel
theorem dX5_realm_94 : decode cX5_realm 94 = .ok (.iaload, 1) := by decide +kernel
theorem dX5_realm_95 : decode cX5_realm 95 = .ok (.i2l, 1) := by decide +kernel
theorem dX5_realm_96 : decode cX5_realm 96 = .ok (.lreturn, 1) := by decide +kernel
theorem dX5_realm_97 : decode cX5_realm 97 = .ok (.aload_n 0, 1) := by decide +kernel
theorem dX5_realm_98 : decode cX5_realm 98 = .ok (.getfield 40, 3) := by decide +kernel
theorem dX5_realm_101 : decode cX5_realm 101 = .ok (.getfield 105, 3) := by decide +kernel
theorem dX5_realm_104 : decode cX5_realm 104 = .ok (.iload_n 1, 1) := by decide +kernel
theorem dX5_realm_105 : decode cX5_realm 105 = .ok (.laload, 1) := by decide +kernel
theorem dX5_realm_106 : decode cX5_realm 106 = .ok (.lreturn, 1) := by decide +kernel
theorem dX5_realm_107 : decode cX5_realm 107 = .ok (.aload_n 0, 1) := by decide +kernel
theorem dX5_realm_108 : decode cX5_realm 108 = .ok (.getfield 40, 3) := by decide +kernel
theorem dX5_realm_111 : decode cX5_realm 111 = .ok (.getfield 109, 3) := by decide +kernel
theorem dX5_realm_114 : decode cX5_realm 114 = .ok (.iload_n 1, 1) := by decide +kernel
theorem dX5_realm_115 : decode cX5_realm 115 = .ok (.laload, 1) := by decide +kernel
theorem dX5_realm_116 : decode cX5_realm 116 = .ok (.lreturn, 1) := by decide +kernel
theorem dX5_realm_117 : decode cX5_realm 117 = .ok (.aload_n 0, 1) := by decide +kernel
theorem dX5_realm_118 : decode cX5_realm 118 = .ok (.getfield 40, 3) := by decide +kernel
theorem dX5_realm_121 : decode cX5_realm 121 = .ok (.getfield 112, 3) := by decide +kernel
theorem dX5_realm_124 : decode cX5_realm 124 = .ok (.iload_n 1, 1) := by decide +kernel
theorem dX5_realm_125 : decode cX5_realm 125 = .ok (.iaload, 1) := by decide +kernel
theorem dX5_realm_126 : decode cX5_realm 126 = .ok (.i2l, 1) := by decide +kernel
theorem dX5_realm_127 : decode cX5_realm 127 = .ok (.lreturn, 1) := by decide +kernel
theorem dX5_realm_128 : decode cX5_realm 128 = .ok (.aload_n 0, 1) := by decide +kernel
theorem dX5_realm_129 : decode cX5_realm 129 = .ok (.getfield 40, 3) := by decide +kernel
theorem dX5_realm_132 : decode cX5_realm 132 = .ok (.iload_n 1, 1) := by decide +kernel
theorem dX5_realm_133 : decode cX5_realm 133 = .ok (.invokevirtual 115, 3) := by decide +kernel
theorem dX5_realm_136 : decode cX5_realm 136 = .ok (.ifCond .eq 7, 3) := by decide +kernel
theorem dX5_realm_139 : decode cX5_realm 139 = .ok (.lconst 1, 1) := by decide +kernel
theorem dX5_realm_140 : decode cX5_realm 140 = .ok (.goto 4, 3) := by decide +kernel
theorem dX5_realm_143 : decode cX5_realm 143 = .ok (.lconst 0, 1) := by decide +kernel
theorem dX5_realm_144 : decode cX5_realm 144 = .ok (.lreturn, 1) := by decide +kernel
theorem dX5_realm_145 : decode cX5_realm 145 = .ok (.aload_n 0, 1) := by decide +kernel
theorem dX5_realm_146 : decode cX5_realm 146 = .ok (.getfield 40, 3) := by decide +kernel
theorem dX5_realm_149 : decode cX5_realm 149 = .ok (.iload_n 1, 1) := by decide +kernel
theorem dX5_realm_150 : decode cX5_realm 150 = .ok (.invokevirtual 118, 3) := by decide +kernel
theorem dX5_realm_153 : decode cX5_realm 153 = .ok (.ifCond .eq 7, 3) := by decide +kernel
theorem dX5_realm_156 : decode cX5_realm 156 = .ok (.lconst 1, 1) := by decide +kernel
theorem dX5_realm_157 : decode cX5_realm 157 = .ok (.goto 4, 3) := by decide +kernel
theorem dX5_realm_160 : decode cX5_realm 160 = .ok (.lconst 0, 1) := by decide +kernel
theorem dX5_realm_161 : decode cX5_realm 161 = .ok (.lreturn, 1) := by decide +kernel
theorem dX5_realm_162 : decode cX5_realm 162 = .ok (.ldc2_w 93, 3) := by decide +kernel
theorem dX5_realm_165 : decode cX5_realm 165 = .ok (.lreturn, 1) := by decide +kernel
theorem dX5_market_0 : decode cX5_market 0 = .ok (.iload_n 1, 1) := by decide +kernel
theorem dX5_market_1 : decode cX5_market 1 = .ok (.tableswitch 65 0 3 #[31, 39, 47, 56], 31) := by decide +kernel
theorem dX5_market_32 : decode cX5_market 32 = .ok (.aload_n 0, 1) := by decide +kernel
