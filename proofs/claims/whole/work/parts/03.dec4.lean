theorem dX6_movesOf_29 : decode cX6_movesOf 29 = .ok (.getfield 13, 3) := by decide +kernel
theorem dX6_movesOf_32 : decode cX6_movesOf 32 = .ok (.iload_n 2, 1) := by decide +kernel
theorem dX6_movesOf_33 : decode cX6_movesOf 33 = .ok (.bipush 7, 2) := by decide +kernel
theorem dX6_movesOf_35 : decode cX6_movesOf 35 = .ok (.iadd, 1) := by decide +kernel
theorem dX6_movesOf_36 : decode cX6_movesOf 36 = .ok (.laload, 1) := by decide +kernel
theorem dX6_movesOf_37 : decode cX6_movesOf 37 = .ok (.lconst 0, 1) := by decide +kernel
theorem dX6_movesOf_38 : decode cX6_movesOf 38 = .ok (.lcmp, 1) := by decide +kernel
theorem dX6_movesOf_39 : decode cX6_movesOf 39 = .ok (.ifCond .ne 73, 3) := by decide +kernel
theorem dX6_movesOf_42 : decode cX6_movesOf 42 = .ok (.aload_n 0, 1) := by decide +kernel
theorem dX6_movesOf_43 : decode cX6_movesOf 43 = .ok (.getfield 13, 3) := by decide +kernel
theorem dX6_movesOf_46 : decode cX6_movesOf 46 = .ok (.iload_n 2, 1) := by decide +kernel
theorem dX6_movesOf_47 : decode cX6_movesOf 47 = .ok (.iconst 3, 1) := by decide +kernel
theorem dX6_movesOf_48 : decode cX6_movesOf 48 = .ok (.iadd, 1) := by decide +kernel
theorem dX6_movesOf_49 : decode cX6_movesOf 49 = .ok (.laload, 1) := by decide +kernel
theorem dX6_movesOf_50 : decode cX6_movesOf 50 = .ok (.lconst 0, 1) := by decide +kernel
theorem dX6_movesOf_51 : decode cX6_movesOf 51 = .ok (.lcmp, 1) := by decide +kernel
theorem dX6_movesOf_52 : decode cX6_movesOf 52 = .ok (.ifCond .le 60, 3) := by decide +kernel
theorem dX6_movesOf_55 : decode cX6_movesOf 55 = .ok (.aload_n 0, 1) := by decide +kernel
theorem dX6_movesOf_56 : decode cX6_movesOf 56 = .ok (.getfield 17, 3) := by decide +kernel
theorem dX6_movesOf_59 : decode cX6_movesOf 59 = .ok (.iconst 1, 1) := by decide +kernel
theorem dX6_movesOf_60 : decode cX6_movesOf 60 = .ok (.laload, 1) := by decide +kernel
theorem dX6_movesOf_61 : decode cX6_movesOf 61 = .ok (.aload_n 0, 1) := by decide +kernel
theorem dX6_movesOf_62 : decode cX6_movesOf 62 = .ok (.getfield 13, 3) := by decide +kernel
theorem dX6_movesOf_65 : decode cX6_movesOf 65 = .ok (.iload_n 2, 1) := by decide +kernel
theorem dX6_movesOf_66 : decode cX6_movesOf 66 = .ok (.laload, 1) := by decide +kernel
theorem dX6_movesOf_67 : decode cX6_movesOf 67 = .ok (.lcmp, 1) := by decide +kernel
theorem dX6_movesOf_68 : decode cX6_movesOf 68 = .ok (.ifCond .lt 44, 3) := by decide +kernel
theorem dX6_movesOf_71 : decode cX6_movesOf 71 = .ok (.lload_n 3, 1) := by decide +kernel
theorem dX6_movesOf_72 : decode cX6_movesOf 72 = .ok (.ldc2_w 73, 3) := by decide +kernel
theorem dX6_movesOf_75 : decode cX6_movesOf 75 = .ok (.aload_n 0, 1) := by decide +kernel
theorem dX6_movesOf_76 : decode cX6_movesOf 76 = .ok (.getfield 13, 3) := by decide +kernel
theorem dX6_movesOf_79 : decode cX6_movesOf 79 = .ok (.iload_n 2, 1) := by decide +kernel
theorem dX6_movesOf_80 : decode cX6_movesOf 80 = .ok (.iconst 2, 1) := by decide +kernel
theorem dX6_movesOf_81 : decode cX6_movesOf 81 = .ok (.iadd, 1) := by decide +kernel
theorem dX6_movesOf_82 : decode cX6_movesOf 82 = .ok (.laload, 1) := by decide +kernel
theorem dX6_movesOf_83 : decode cX6_movesOf 83 = .ok (.lsub, 1) := by decide +kernel
theorem dX6_movesOf_84 : decode cX6_movesOf 84 = .ok (.lmul, 1) := by decide +kernel
theorem dX6_movesOf_85 : decode cX6_movesOf 85 = .ok (.ldc2_w 73, 3) := by decide +kernel
theorem dX6_movesOf_88 : decode cX6_movesOf 88 = .ok (.aload_n 0, 1) := by decide +kernel
theorem dX6_movesOf_89 : decode cX6_movesOf 89 = .ok (.getfield 13, 3) := by decide +kernel
theorem dX6_movesOf_92 : decode cX6_movesOf 92 = .ok (.iload_n 2, 1) := by decide +kernel
theorem dX6_movesOf_93 : decode cX6_movesOf 93 = .ok (.laload, 1) := by decide +kernel
theorem dX6_movesOf_94 : decode cX6_movesOf 94 = .ok (.aload_n 0, 1) := by decide +kernel
theorem dX6_movesOf_95 : decode cX6_movesOf 95 = .ok (.getfield 13, 3) := by decide +kernel
theorem dX6_movesOf_98 : decode cX6_movesOf 98 = .ok (.iload_n 2, 1) := by decide +kernel
theorem dX6_movesOf_99 : decode cX6_movesOf 99 = .ok (.iconst 1, 1) := by decide +kernel
theorem dX6_movesOf_100 : decode cX6_movesOf 100 = .ok (.iadd, 1) := by decide +kernel
theorem dX6_movesOf_101 : decode cX6_movesOf 101 = .ok (.laload, 1) := by decide +kernel
theorem dX6_movesOf_102 : decode cX6_movesOf 102 = .ok (.ladd, 1) := by decide +kernel
theorem dX6_movesOf_103 : decode cX6_movesOf 103 = .ok (.lmul, 1) := by decide +kernel
theorem dX6_movesOf_104 : decode cX6_movesOf 104 = .ok (.lcmp, 1) := by decide +kernel
theorem dX6_movesOf_105 : decode cX6_movesOf 105 = .ok (.ifCond .le 7, 3) := by decide +kernel
theorem dX6_movesOf_108 : decode cX6_movesOf 108 = .ok (.iconst 1, 1) := by decide +kernel
theorem dX6_movesOf_109 : decode cX6_movesOf 109 = .ok (.goto 4, 3) := by decide +kernel
theorem dX6_movesOf_112 : decode cX6_movesOf 112 = .ok (.iconst 0, 1) := by decide +kernel
theorem dX6_movesOf_113 : decode cX6_movesOf 113 = .ok (.istore 5, 2) := by decide +kernel
theorem dX6_movesOf_115 : decode cX6_movesOf 115 = .ok (.aload_n 0, 1) := by decide +kernel
theorem dX6_movesOf_116 : decode cX6_movesOf 116 = .ok (.getfield 17, 3) := by decide +kernel
theorem dX6_movesOf_119 : decode cX6_movesOf 119 = .ok (.iconst 0, 1) := by decide +kernel
theorem dX6_movesOf_120 : decode cX6_movesOf 120 = .ok (.laload, 1) := by decide +kernel
theorem dX6_movesOf_121 : decode cX6_movesOf 121 = .ok (.lconst 0, 1) := by decide +kernel
theorem dX6_movesOf_122 : decode cX6_movesOf 122 = .ok (.lcmp, 1) := by decide +kernel
theorem dX6_movesOf_123 : decode cX6_movesOf 123 = .ok (.ifCond .le 65, 3) := by decide +kernel
theorem dX6_movesOf_126 : decode cX6_movesOf 126 = .ok (.aload_n 0, 1) := by decide +kernel
theorem dX6_movesOf_127 : decode cX6_movesOf 127 = .ok (.getfield 13, 3) := by decide +kernel
theorem dX6_movesOf_130 : decode cX6_movesOf 130 = .ok (.iload_n 2, 1) := by decide +kernel
theorem dX6_movesOf_131 : decode cX6_movesOf 131 = .ok (.iconst 4, 1) := by decide +kernel
theorem dX6_movesOf_132 : decode cX6_movesOf 132 = .ok (.iadd, 1) := by decide +kernel
theorem dX6_movesOf_133 : decode cX6_movesOf 133 = .ok (.laload, 1) := by decide +kernel
theorem dX6_movesOf_134 : decode cX6_movesOf 134 = .ok (.aload_n 0, 1) := by decide +kernel
theorem dX6_movesOf_135 : decode cX6_movesOf 135 = .ok (.getfield 13, 3) := by decide +kernel
theorem dX6_movesOf_138 : decode cX6_movesOf 138 = .ok (.iload_n 2, 1) := by decide +kernel
theorem dX6_movesOf_139 : decode cX6_movesOf 139 = .ok (.laload, 1) := by decide +kernel
theorem dX6_movesOf_140 : decode cX6_movesOf 140 = .ok (.lcmp, 1) := by decide +kernel
theorem dX6_movesOf_141 : decode cX6_movesOf 141 = .ok (.ifCond .lt 47, 3) := by decide +kernel
theorem dX6_movesOf_144 : decode cX6_movesOf 144 = .ok (.lload_n 3, 1) := by decide +kernel
theorem dX6_movesOf_145 : decode cX6_movesOf 145 = .ok (.ldc2_w 73, 3) := by decide +kernel
theorem dX6_movesOf_148 : decode cX6_movesOf 148 = .ok (.aload_n 0, 1) := by decide +kernel
theorem dX6_movesOf_149 : decode cX6_movesOf 149 = .ok (.getfield 13, 3) := by decide +kernel
theorem dX6_movesOf_152 : decode cX6_movesOf 152 = .ok (.iload_n 2, 1) := by decide +kernel
theorem dX6_movesOf_153 : decode cX6_movesOf 153 = .ok (.iconst 2, 1) := by decide +kernel
theorem dX6_movesOf_154 : decode cX6_movesOf 154 = .ok (.iadd, 1) := by decide +kernel
theorem dX6_movesOf_155 : decode cX6_movesOf 155 = .ok (.laload, 1) := by decide +kernel
theorem dX6_movesOf_156 : decode cX6_movesOf 156 = .ok (.ladd, 1) := by decide +kernel
theorem dX6_movesOf_157 : decode cX6_movesOf 157 = .ok (.lmul, 1) := by decide +kernel
theorem dX6_movesOf_158 : decode cX6_movesOf 158 = .ok (.ldc2_w 73, 3) := by decide +kernel
theorem dX6_movesOf_161 : decode cX6_movesOf 161 = .ok (.aload_n 0, 1) := by decide +kernel
theorem dX6_movesOf_162 : decode cX6_movesOf 162 = .ok (.getfield 13, 3) := by decide +kernel
theorem dX6_movesOf_165 : decode cX6_movesOf 165 = .ok (.iload_n 2, 1) := by decide +kernel
theorem dX6_movesOf_166 : decode cX6_movesOf 166 = .ok (.laload, 1) := by decide +kernel
theorem dX6_movesOf_167 : decode cX6_movesOf 167 = .ok (.aload_n 0, 1) := by decide +kernel
theorem dX6_movesOf_168 : decode cX6_movesOf 168 = .ok (.getfield 13, 3) := by decide +kernel
theorem dX6_movesOf_171 : decode cX6_movesOf 171 = .ok (.iload_n 2, 1) := by decide +kernel
theorem dX6_movesOf_172 : decode cX6_movesOf 172 = .ok (.iconst 1, 1) := by decide +kernel
theorem dX6_movesOf_173 : decode cX6_movesOf 173 = .ok (.iadd, 1) := by decide +kernel
theorem dX6_movesOf_174 : decode cX6_movesOf 174 = .ok (.laload, 1) := by decide +kernel
theorem dX6_movesOf_175 : decode cX6_movesOf 175 = .ok (.lsub, 1) := by decide +kernel
theorem dX6_movesOf_176 : decode cX6_movesOf 176 = .ok (.invokestatic 115, 3) := by decide +kernel
theorem dX6_movesOf_179 : decode cX6_movesOf 179 = .ok (.lmul, 1) := by decide +kernel
theorem dX6_movesOf_180 : decode cX6_movesOf 180 = .ok (.lcmp, 1) := by decide +kernel
theorem dX6_movesOf_181 : decode cX6_movesOf 181 = .ok (.ifCond .ge 7, 3) := by decide +kernel
theorem dX6_movesOf_184 : decode cX6_movesOf 184 = .ok (.iconst 1, 1) := by decide +kernel
theorem dX6_movesOf_185 : decode cX6_movesOf 185 = .ok (.goto 4, 3) := by decide +kernel
theorem dX6_movesOf_188 : decode cX6_movesOf 188 = .ok (.iconst 0, 1) := by decide +kernel
theorem dX6_movesOf_189 : decode cX6_movesOf 189 = .ok (.istore 6, 2) := by decide +kernel
theorem dX6_movesOf_191 : decode cX6_movesOf 191 = .ok (.iload 5, 2) := by decide +kernel
theorem dX6_movesOf_193 : decode cX6_movesOf 193 = .ok (.ifCond .eq 7, 3) := by decide +kernel
theorem dX6_movesOf_196 : decode cX6_movesOf 196 = .ok (.iconst 1, 1) := by decide +kernel
theorem dX6_movesOf_197 : decode cX6_movesOf 197 = .ok (.goto 13, 3) := by decide +kernel
theorem dX6_movesOf_200 : decode cX6_movesOf 200 = .ok (.iload 6, 2) := by decide +kernel
theorem dX6_movesOf_202 : decode cX6_movesOf 202 = .ok (.ifCond .eq 7, 3) := by decide +kernel
theorem dX6_movesOf_205 : decode cX6_movesOf 205 = .ok (.iconst 2, 1) := by decide +kernel
theorem dX6_movesOf_206 : decode cX6_movesOf 206 = .ok (.goto 4, 3) := by decide +kernel
theorem dX6_movesOf_209 : decode cX6_movesOf 209 = .ok (.iconst 0, 1) := by decide +kernel
theorem dX6_movesOf_210 : decode cX6_movesOf 210 = .ok (.ireturn, 1) := by decide +kernel
set_option maxRecDepth 20000 in
theorem ggX6_moves_X6_isRealm : GoodIn wsX6_moves wsX6_isRealm := goodIn_r _ [5, 6, 7, 8, 9, 4, 10, 30, 31, 32, 33, 34, 35, 36, 37, 38, 39, 40] (by decide +kernel) (by decide +kernel)
set_option maxRecDepth 20000 in
theorem gX6_moves_X6_isRealm : GoodIn wsX6_moves (wsV RX6 91 RX6 yX6_isRealm wsX6_isRealm) := goodIn_app (goodIn_of _ (by decide +kernel)) ggX6_moves_X6_isRealm
set_option maxRecDepth 20000 in
theorem ggX6_moves_X6_movesOf : GoodIn wsX6_moves wsX6_movesOf := goodIn_r _ [14, 7, 15, 16, 1, 2, 3, 4, 5, 6, 8, 9, 10, 17, 18, 19, 20, 21, 22, 23, 24, 25, 26, 27, 28, 29, 30, 31, 32, 33, 34, 35, 36, 37, 38, 39, 40] (by decide +kernel) (by decide +kernel)
set_option maxRecDepth 20000 in
theorem gX6_moves_X6_movesOf : GoodIn wsX6_moves (wsV RX6 119 RX6 yX6_movesOf wsX6_movesOf) := goodIn_app (goodIn_of _ (by decide +kernel)) ggX6_moves_X6_movesOf
theorem dX6_moves_0 : decode cX6_moves 0 = .ok (.aload_n 0, 1) := by decide +kernel
theorem dX6_moves_1 : decode cX6_moves 1 = .ok (.iload_n 1, 1) := by decide +kernel
theorem dX6_moves_2 : decode cX6_moves 2 = .ok (.invokevirtual 91, 3) := by decide +kernel
theorem dX6_moves_5 : decode cX6_moves 5 = .ok (.ifCond .eq 11, 3) := by decide +kernel
theorem dX6_moves_8 : decode cX6_moves 8 = .ok (.aload_n 0, 1) := by decide +kernel
theorem dX6_moves_9 : decode cX6_moves 9 = .ok (.iload_n 1, 1) := by decide +kernel
theorem dX6_moves_10 : decode cX6_moves 10 = .ok (.invokevirtual 119, 3) := by decide +kernel
theorem dX6_moves_13 : decode cX6_moves 13 = .ok (.goto 4, 3) := by decide +kernel
theorem dX6_moves_16 : decode cX6_moves 16 = .ok (.iconst (-1), 1) := by decide +kernel
theorem dX6_moves_17 : decode cX6_moves 17 = .ok (.ireturn, 1) := by decide +kernel
set_option maxRecDepth 20000 in
theorem ggX6_endOf_X6_above : GoodIn wsX6_endOf wsX6_above := goodIn_r _ [8] (by decide +kernel) (by decide +kernel)
set_option maxRecDepth 20000 in
theorem gX6_endOf_X6_above : GoodIn wsX6_endOf (va_wsS RX6 115 yX6_above wsX6_above) := goodIn_app (goodIn_of _ (by decide +kernel)) ggX6_endOf_X6_above
theorem dX6_endOf_0 : decode cX6_endOf 0 = .ok (.aload_n 0, 1) := by decide +kernel
theorem dX6_endOf_1 : decode cX6_endOf 1 = .ok (.getfield 13, 3) := by decide +kernel
theorem dX6_endOf_4 : decode cX6_endOf 4 = .ok (.bipush 9, 2) := by decide +kernel
theorem dX6_endOf_6 : decode cX6_endOf 6 = .ok (.iload_n 1, 1) := by decide +kernel
theorem dX6_endOf_7 : decode cX6_endOf 7 = .ok (.imul, 1) := by decide +kernel
theorem dX6_endOf_8 : decode cX6_endOf 8 = .ok (.laload, 1) := by decide +kernel
theorem dX6_endOf_9 : decode cX6_endOf 9 = .ok (.lstore_n 3, 1) := by decide +kernel
theorem dX6_endOf_10 : decode cX6_endOf 10 = .ok (.aload_n 0, 1) := by decide +kernel
theorem dX6_endOf_11 : decode cX6_endOf 11 = .ok (.getfield 13, 3) := by decide +kernel
theorem dX6_endOf_14 : decode cX6_endOf 14 = .ok (.bipush 9, 2) := by decide +kernel
theorem dX6_endOf_16 : decode cX6_endOf 16 = .ok (.iload_n 1, 1) := by decide +kernel
theorem dX6_endOf_17 : decode cX6_endOf 17 = .ok (.imul, 1) := by decide +kernel
theorem dX6_endOf_18 : decode cX6_endOf 18 = .ok (.iconst 1, 1) := by decide +kernel
theorem dX6_endOf_19 : decode cX6_endOf 19 = .ok (.iadd, 1) := by decide +kernel
theorem dX6_endOf_20 : decode cX6_endOf 20 = .ok (.laload, 1) := by decide +kernel
theorem dX6_endOf_21 : decode cX6_endOf 21 = .ok (.lstore 5, 2) := by decide +kernel
theorem dX6_endOf_23 : decode cX6_endOf 23 = .ok (.aload_n 0, 1) := by decide +kernel
theorem dX6_endOf_24 : decode cX6_endOf 24 = .ok (.getfield 13, 3) := by decide +kernel
theorem dX6_endOf_27 : decode cX6_endOf 27 = .ok (.bipush 9, 2) := by decide +kernel
theorem dX6_endOf_29 : decode cX6_endOf 29 = .ok (.iload_n 1, 1) := by decide +kernel
theorem dX6_endOf_30 : decode cX6_endOf 30 = .ok (.imul, 1) := by decide +kernel
theorem dX6_endOf_31 : decode cX6_endOf 31 = .ok (.iconst 2, 1) := by decide +kernel
theorem dX6_endOf_32 : decode cX6_endOf 32 = .ok (.iadd, 1) := by decide +kernel
theorem dX6_endOf_33 : decode cX6_endOf 33 = .ok (.laload, 1) := by decide +kernel
theorem dX6_endOf_34 : decode cX6_endOf 34 = .ok (.lstore 7, 2) := by decide +kernel
theorem dX6_endOf_36 : decode cX6_endOf 36 = .ok (.iload_n 2, 1) := by decide +kernel
theorem dX6_endOf_37 : decode cX6_endOf 37 = .ok (.ifCond .eq 38, 3) := by decide +kernel
theorem dX6_endOf_40 : decode cX6_endOf 40 = .ok (.ldc2_w 73, 3) := by decide +kernel
theorem dX6_endOf_43 : decode cX6_endOf 43 = .ok (.lload_n 3, 1) := by decide +kernel
theorem dX6_endOf_44 : decode cX6_endOf 44 = .ok (.lload 5, 2) := by decide +kernel
theorem dX6_endOf_46 : decode cX6_endOf 46 = .ok (.ladd, 1) := by decide +kernel
theorem dX6_endOf_47 : decode cX6_endOf 47 = .ok (.lmul, 1) := by decide +kernel
theorem dX6_endOf_48 : decode cX6_endOf 48 = .ok (.ldc2_w 73, 3) := by decide +kernel
theorem dX6_endOf_51 : decode cX6_endOf 51 = .ok (.lload 7, 2) := by decide +kernel
theorem dX6_endOf_53 : decode cX6_endOf 53 = .ok (.lsub, 1) := by decide +kernel
theorem dX6_endOf_54 : decode cX6_endOf 54 = .ok (.ldiv, 1) := by decide +kernel
theorem dX6_endOf_55 : decode cX6_endOf 55 = .ok (.lstore 9, 2) := by decide +kernel
theorem dX6_endOf_57 : decode cX6_endOf 57 = .ok (.lload 9, 2) := by decide +kernel
theorem dX6_endOf_59 : decode cX6_endOf 59 = .ok (.ldc2_w 109, 3) := by decide +kernel
theorem dX6_endOf_62 : decode cX6_endOf 62 = .ok (.lcmp, 1) := by decide +kernel
theorem dX6_endOf_63 : decode cX6_endOf 63 = .ok (.ifCond .le 9, 3) := by decide +kernel
theorem dX6_endOf_66 : decode cX6_endOf 66 = .ok (.ldc2_w 109, 3) := by decide +kernel
theorem dX6_endOf_69 : decode cX6_endOf 69 = .ok (.goto 5, 3) := by decide +kernel
theorem dX6_endOf_72 : decode cX6_endOf 72 = .ok (.lload 9, 2) := by decide +kernel
theorem dX6_endOf_74 : decode cX6_endOf 74 = .ok (.lreturn, 1) := by decide +kernel
theorem dX6_endOf_75 : decode cX6_endOf 75 = .ok (.ldc2_w 73, 3) := by decide +kernel
theorem dX6_endOf_78 : decode cX6_endOf 78 = .ok (.lload_n 3, 1) := by decide +kernel
theorem dX6_endOf_79 : decode cX6_endOf 79 = .ok (.lload 5, 2) := by decide +kernel
theorem dX6_endOf_81 : decode cX6_endOf 81 = .ok (.lsub, 1) := by decide +kernel
theorem dX6_endOf_82 : decode cX6_endOf 82 = .ok (.invokestatic 115, 3) := by decide +kernel
theorem dX6_endOf_85 : decode cX6_endOf 85 = .ok (.lmul, 1) := by decide +kernel
theorem dX6_endOf_86 : decode cX6_endOf 86 = .ok (.ldc2_w 122, 3) := by decide +kernel
theorem dX6_endOf_89 : decode cX6_endOf 89 = .ok (.ladd, 1) := by decide +kernel
theorem dX6_endOf_90 : decode cX6_endOf 90 = .ok (.lload 7, 2) := by decide +kernel
theorem dX6_endOf_92 : decode cX6_endOf 92 = .ok (.ladd, 1) := by decide +kernel
theorem dX6_endOf_93 : decode cX6_endOf 93 = .ok (.ldc2_w 73, 3) := by decide +kernel
theorem dX6_endOf_96 : decode cX6_endOf 96 = .ok (.lload 7, 2) := by decide +kernel
theorem dX6_endOf_98 : decode cX6_endOf 98 = .ok (.ladd, 1) := by decide +kernel
theorem dX6_endOf_99 : decode cX6_endOf 99 = .ok (.ldiv, 1) := by decide +kernel
theorem dX6_endOf_100 : decode cX6_endOf 100 = .ok (.lreturn, 1) := by decide +kernel
set_option maxRecDepth 20000 in
theorem ggX6_ends_X6_isRealm : GoodIn wsX6_ends wsX6_isRealm := goodIn_r _ [5, 6, 7, 8, 9, 4, 10, 21, 22, 23, 24, 25, 26, 27, 28, 29, 30, 31] (by decide +kernel) (by decide +kernel)
set_option maxRecDepth 20000 in
theorem gX6_ends_X6_isRealm : GoodIn wsX6_ends (wsV RX6 91 RX6 yX6_isRealm wsX6_isRealm) := goodIn_app (goodIn_of _ (by decide +kernel)) ggX6_ends_X6_isRealm
set_option maxRecDepth 20000 in
theorem ggX6_ends_X6_in : GoodIn wsX6_ends wsX6_in := goodIn_r _ [10] (by decide +kernel) (by decide +kernel)
set_option maxRecDepth 20000 in
theorem gX6_ends_X6_in : GoodIn wsX6_ends (va_wsS RX6 43 yX6_in wsX6_in) := goodIn_app (goodIn_of _ (by decide +kernel)) ggX6_ends_X6_in
set_option maxRecDepth 20000 in
theorem ggX6_ends_X6_endOf : GoodIn wsX6_ends wsX6_endOf := goodIn_r _ [14, 7, 15, 16, 17, 18, 19, 4, 20, 21, 22, 23, 24, 25, 26, 27, 28, 29, 30, 31] (by decide +kernel) (by decide +kernel)
set_option maxRecDepth 20000 in
theorem gX6_ends_X6_endOf : GoodIn wsX6_ends (wsV RX6 124 RX6 yX6_endOf wsX6_endOf) := goodIn_app (goodIn_of _ (by decide +kernel)) ggX6_ends_X6_endOf
theorem dX6_ends_0 : decode cX6_ends 0 = .ok (.aload_n 0, 1) := by decide +kernel
theorem dX6_ends_1 : decode cX6_ends 1 = .ok (.iload_n 1, 1) := by decide +kernel
theorem dX6_ends_2 : decode cX6_ends 2 = .ok (.invokevirtual 91, 3) := by decide +kernel
theorem dX6_ends_5 : decode cX6_ends 5 = .ok (.ifCond .eq 32, 3) := by decide +kernel
theorem dX6_ends_8 : decode cX6_ends 8 = .ok (.iload_n 2, 1) := by decide +kernel
theorem dX6_ends_9 : decode cX6_ends 9 = .ok (.i2l, 1) := by decide +kernel
theorem dX6_ends_10 : decode cX6_ends 10 = .ok (.lconst 0, 1) := by decide +kernel
theorem dX6_ends_11 : decode cX6_ends 11 = .ok (.lconst 1, 1) := by decide +kernel
theorem dX6_ends_12 : decode cX6_ends 12 = .ok (.invokestatic 43, 3) := by decide +kernel
theorem dX6_ends_15 : decode cX6_ends 15 = .ok (.ifCond .eq 22, 3) := by decide +kernel
theorem dX6_ends_18 : decode cX6_ends 18 = .ok (.aload_n 0, 1) := by decide +kernel
theorem dX6_ends_19 : decode cX6_ends 19 = .ok (.iload_n 1, 1) := by decide +kernel
theorem dX6_ends_20 : decode cX6_ends 20 = .ok (.iload_n 2, 1) := by decide +kernel
theorem dX6_ends_21 : decode cX6_ends 21 = .ok (.iconst 1, 1) := by decide +kernel
theorem dX6_ends_22 : decode cX6_ends 22 = .ok (.if_icmp .ne 7, 3) := by decide +kernel
theorem dX6_ends_25 : decode cX6_ends 25 = .ok (.iconst 1, 1) := by decide +kernel
theorem dX6_ends_26 : decode cX6_ends 26 = .ok (.goto 4, 3) := by decide +kernel
theorem dX6_ends_29 : decode cX6_ends 29 = .ok (.iconst 0, 1) := by decide +kernel
theorem dX6_ends_30 : decode cX6_ends 30 = .ok (.invokevirtual 124, 3) := by decide +kernel
theorem dX6_ends_33 : decode cX6_ends 33 = .ok (.l2i, 1) := by decide +kernel
theorem dX6_ends_34 : decode cX6_ends 34 = .ok (.goto 4, 3) := by decide +kernel
theorem dX6_ends_37 : decode cX6_ends 37 = .ok (.iconst (-1), 1) := by decide +kernel
theorem dX6_ends_38 : decode cX6_ends 38 = .ok (.ireturn, 1) := by decide +kernel
set_option maxRecDepth 20000 in
theorem ggX6_holdsRatio_X6_ratio : GoodIn wsX6_holdsRatio wsX6_ratio := goodIn_r _ [6, 7, 8, 9, 10, 31, 32, 33, 34, 35, 36, 37, 38, 39, 40, 41] (by decide +kernel) (by decide +kernel)
set_option maxRecDepth 20000 in
theorem gX6_holdsRatio_X6_ratio : GoodIn wsX6_holdsRatio (wsV RX6 111 RX6 yX6_ratio wsX6_ratio) := goodIn_app (goodIn_of _ (by decide +kernel)) ggX6_holdsRatio_X6_ratio
set_option maxRecDepth 20000 in
theorem ggX6_holdsRatio_X6_isRealm : GoodIn wsX6_holdsRatio wsX6_isRealm := goodIn_r _ [14, 15, 1, 16, 17, 5, 18, 31, 32, 33, 34, 35, 36, 37, 38, 39, 40, 41] (by decide +kernel) (by decide +kernel)
set_option maxRecDepth 20000 in
theorem gX6_holdsRatio_X6_isRealm : GoodIn wsX6_holdsRatio (wsV RX6 91 RX6 yX6_isRealm wsX6_isRealm) := goodIn_app (goodIn_of _ (by decide +kernel)) ggX6_holdsRatio_X6_isRealm
set_option maxRecDepth 20000 in
theorem ggX6_holdsRatio_X6_mints : GoodIn wsX6_holdsRatio wsX6_mints := goodIn_r _ [22, 1, 31, 32, 33, 34, 35, 36, 37, 38, 39, 40, 41] (by decide +kernel) (by decide +kernel)
set_option maxRecDepth 20000 in
theorem gX6_holdsRatio_X6_mints : GoodIn wsX6_holdsRatio (wsV RX6 94 RX6 yX6_mints wsX6_mints) := goodIn_app (goodIn_of _ (by decide +kernel)) ggX6_holdsRatio_X6_mints
set_option maxRecDepth 20000 in
theorem ggX6_holdsRatio_X6_endOf : GoodIn wsX6_holdsRatio wsX6_endOf := goodIn_r _ [26, 1, 10, 8, 27, 28, 29, 5, 30, 31, 32, 33, 34, 35, 36, 37, 38, 39, 40, 41] (by decide +kernel) (by decide +kernel)
set_option maxRecDepth 20000 in
theorem gX6_holdsRatio_X6_endOf : GoodIn wsX6_holdsRatio (wsV RX6 124 RX6 yX6_endOf wsX6_endOf) := goodIn_app (goodIn_of _ (by decide +kernel)) ggX6_holdsRatio_X6_endOf
theorem dX6_holdsRatio_0 : decode cX6_holdsRatio 0 = .ok (.aload_n 0, 1) := by decide +kernel
theorem dX6_holdsRatio_1 : decode cX6_holdsRatio 1 = .ok (.invokevirtual 111, 3) := by decide +kernel
theorem dX6_holdsRatio_4 : decode cX6_holdsRatio 4 = .ok (.lstore_n 2, 1) := by decide +kernel
theorem dX6_holdsRatio_5 : decode cX6_holdsRatio 5 = .ok (.aload_n 0, 1) := by decide +kernel
theorem dX6_holdsRatio_6 : decode cX6_holdsRatio 6 = .ok (.iload_n 1, 1) := by decide +kernel
theorem dX6_holdsRatio_7 : decode cX6_holdsRatio 7 = .ok (.invokevirtual 91, 3) := by decide +kernel
theorem dX6_holdsRatio_10 : decode cX6_holdsRatio 10 = .ok (.ifCond .eq 77, 3) := by decide +kernel
theorem dX6_holdsRatio_13 : decode cX6_holdsRatio 13 = .ok (.aload_n 0, 1) := by decide +kernel
theorem dX6_holdsRatio_14 : decode cX6_holdsRatio 14 = .ok (.iload_n 1, 1) := by decide +kernel
theorem dX6_holdsRatio_15 : decode cX6_holdsRatio 15 = .ok (.invokevirtual 94, 3) := by decide +kernel
theorem dX6_holdsRatio_18 : decode cX6_holdsRatio 18 = .ok (.ifCond .eq 69, 3) := by decide +kernel
theorem dX6_holdsRatio_21 : decode cX6_holdsRatio 21 = .ok (.lload_n 2, 1) := by decide +kernel
theorem dX6_holdsRatio_22 : decode cX6_holdsRatio 22 = .ok (.aload_n 0, 1) := by decide +kernel
theorem dX6_holdsRatio_23 : decode cX6_holdsRatio 23 = .ok (.iload_n 1, 1) := by decide +kernel
theorem dX6_holdsRatio_24 : decode cX6_holdsRatio 24 = .ok (.iconst 0, 1) := by decide +kernel
theorem dX6_holdsRatio_25 : decode cX6_holdsRatio 25 = .ok (.invokevirtual 124, 3) := by decide +kernel
theorem dX6_holdsRatio_28 : decode cX6_holdsRatio 28 = .ok (.lcmp, 1) := by decide +kernel
theorem dX6_holdsRatio_29 : decode cX6_holdsRatio 29 = .ok (.ifCond .lt 58, 3) := by decide +kernel
theorem dX6_holdsRatio_32 : decode cX6_holdsRatio 32 = .ok (.lload_n 2, 1) := by decide +kernel
theorem dX6_holdsRatio_33 : decode cX6_holdsRatio 33 = .ok (.aload_n 0, 1) := by decide +kernel
theorem dX6_holdsRatio_34 : decode cX6_holdsRatio 34 = .ok (.iload_n 1, 1) := by decide +kernel
theorem dX6_holdsRatio_35 : decode cX6_holdsRatio 35 = .ok (.iconst 1, 1) := by decide +kernel
theorem dX6_holdsRatio_36 : decode cX6_holdsRatio 36 = .ok (.invokevirtual 124, 3) := by decide +kernel
theorem dX6_holdsRatio_39 : decode cX6_holdsRatio 39 = .ok (.lcmp, 1) := by decide +kernel
theorem dX6_holdsRatio_40 : decode cX6_holdsRatio 40 = .ok (.ifCond .gt 47, 3) := by decide +kernel
theorem dX6_holdsRatio_43 : decode cX6_holdsRatio 43 = .ok (.aload_n 0, 1) := by decide +kernel
theorem dX6_holdsRatio_44 : decode cX6_holdsRatio 44 = .ok (.getfield 13, 3) := by decide +kernel
theorem dX6_holdsRatio_47 : decode cX6_holdsRatio 47 = .ok (.bipush 9, 2) := by decide +kernel
theorem dX6_holdsRatio_49 : decode cX6_holdsRatio 49 = .ok (.iload_n 1, 1) := by decide +kernel
theorem dX6_holdsRatio_50 : decode cX6_holdsRatio 50 = .ok (.imul, 1) := by decide +kernel
theorem dX6_holdsRatio_51 : decode cX6_holdsRatio 51 = .ok (.iconst 3, 1) := by decide +kernel
theorem dX6_holdsRatio_52 : decode cX6_holdsRatio 52 = .ok (.iadd, 1) := by decide +kernel
theorem dX6_holdsRatio_53 : decode cX6_holdsRatio 53 = .ok (.laload, 1) := by decide +kernel
theorem dX6_holdsRatio_54 : decode cX6_holdsRatio 54 = .ok (.lconst 0, 1) := by decide +kernel
theorem dX6_holdsRatio_55 : decode cX6_holdsRatio 55 = .ok (.lcmp, 1) := by decide +kernel
theorem dX6_holdsRatio_56 : decode cX6_holdsRatio 56 = .ok (.ifCond .le 31, 3) := by decide +kernel
theorem dX6_holdsRatio_59 : decode cX6_holdsRatio 59 = .ok (.aload_n 0, 1) := by decide +kernel
theorem dX6_holdsRatio_60 : decode cX6_holdsRatio 60 = .ok (.getfield 13, 3) := by decide +kernel
theorem dX6_holdsRatio_63 : decode cX6_holdsRatio 63 = .ok (.bipush 9, 2) := by decide +kernel
theorem dX6_holdsRatio_65 : decode cX6_holdsRatio 65 = .ok (.iload_n 1, 1) := by decide +kernel
theorem dX6_holdsRatio_66 : decode cX6_holdsRatio 66 = .ok (.imul, 1) := by decide +kernel
theorem dX6_holdsRatio_67 : decode cX6_holdsRatio 67 = .ok (.iconst 4, 1) := by decide +kernel
theorem dX6_holdsRatio_68 : decode cX6_holdsRatio 68 = .ok (.iadd, 1) := by decide +kernel
theorem dX6_holdsRatio_69 : decode cX6_holdsRatio 69 = .ok (.laload, 1) := by decide +kernel
theorem dX6_holdsRatio_70 : decode cX6_holdsRatio 70 = .ok (.aload_n 0, 1) := by decide +kernel
theorem dX6_holdsRatio_71 : decode cX6_holdsRatio 71 = .ok (.getfield 13, 3) := by decide +kernel
theorem dX6_holdsRatio_74 : decode cX6_holdsRatio 74 = .ok (.bipush 9, 2) := by decide +kernel
theorem dX6_holdsRatio_76 : decode cX6_holdsRatio 76 = .ok (.iload_n 1, 1) := by decide +kernel
theorem dX6_holdsRatio_77 : decode cX6_holdsRatio 77 = .ok (.imul, 1) := by decide +kernel
theorem dX6_holdsRatio_78 : decode cX6_holdsRatio 78 = .ok (.laload, 1) := by decide +kernel
theorem dX6_holdsRatio_79 : decode cX6_holdsRatio 79 = .ok (.lcmp, 1) := by decide +kernel
theorem dX6_holdsRatio_80 : decode cX6_holdsRatio 80 = .ok (.ifCond .lt 7, 3) := by decide +kernel
theorem dX6_holdsRatio_83 : decode cX6_holdsRatio 83 = .ok (.iconst 1, 1) := by decide +kernel
theorem dX6_holdsRatio_84 : decode cX6_holdsRatio 84 = .ok (.goto 4, 3) := by decide +kernel
theorem dX6_holdsRatio_87 : decode cX6_holdsRatio 87 = .ok (.iconst 0, 1) := by decide +kernel
theorem dX6_holdsRatio_88 : decode cX6_holdsRatio 88 = .ok (.ireturn, 1) := by decide +kernel
set_option maxRecDepth 20000 in
theorem ggX6_held_X6_holdsRatio : GoodIn wsX6_held wsX6_holdsRatio := goodIn_r _ [5, 6, 7, 8, 9, 4, 10, 11, 12, 13, 14, 15, 16, 17, 18, 19, 20, 21, 22, 23, 24, 25, 26, 27, 28, 29, 30, 31, 32, 33, 34, 35, 36, 37, 38, 39, 40, 41, 42, 43, 44, 45] (by decide +kernel) (by decide +kernel)
set_option maxRecDepth 20000 in
theorem gX6_held_X6_holdsRatio : GoodIn wsX6_held (wsV RX6 128 RX6 yX6_holdsRatio wsX6_holdsRatio) := goodIn_app (goodIn_of _ (by decide +kernel)) ggX6_held_X6_holdsRatio
theorem dX6_held_0 : decode cX6_held 0 = .ok (.iconst 0, 1) := by decide +kernel
theorem dX6_held_1 : decode cX6_held 1 = .ok (.istore_n 1, 1) := by decide +kernel
theorem dX6_held_2 : decode cX6_held 2 = .ok (.iconst 0, 1) := by decide +kernel
theorem dX6_held_3 : decode cX6_held 3 = .ok (.istore_n 2, 1) := by decide +kernel
theorem dX6_held_4 : decode cX6_held 4 = .ok (.iload_n 2, 1) := by decide +kernel
theorem dX6_held_5 : decode cX6_held 5 = .ok (.bipush 8, 2) := by decide +kernel
theorem dX6_held_7 : decode cX6_held 7 = .ok (.if_icmp .ge 27, 3) := by decide +kernel
theorem dX6_held_10 : decode cX6_held 10 = .ok (.iload_n 1, 1) := by decide +kernel
theorem dX6_held_11 : decode cX6_held 11 = .ok (.aload_n 0, 1) := by decide +kernel
theorem dX6_held_12 : decode cX6_held 12 = .ok (.iload_n 2, 1) := by decide +kernel
theorem dX6_held_13 : decode cX6_held 13 = .ok (.invokevirtual 128, 3) := by decide +kernel
theorem dX6_held_16 : decode cX6_held 16 = .ok (.ifCond .eq 9, 3) := by decide +kernel
theorem dX6_held_19 : decode cX6_held 19 = .ok (.iconst 1, 1) := by decide +kernel
theorem dX6_held_20 : decode cX6_held 20 = .ok (.iload_n 2, 1) := by decide +kernel
theorem dX6_held_21 : decode cX6_held 21 = .ok (.ishl, 1) := by decide +kernel
theorem dX6_held_22 : decode cX6_held 22 = .ok (.goto 4, 3) := by decide +kernel
theorem dX6_held_25 : decode cX6_held 25 = .ok (.iconst 0, 1) := by decide +kernel
theorem dX6_held_26 : decode cX6_held 26 = .ok (.ior, 1) := by decide +kernel
theorem dX6_held_27 : decode cX6_held 27 = .ok (.istore_n 1, 1) := by decide +kernel
theorem dX6_held_28 : decode cX6_held 28 = .ok (.iinc 2 1, 3) := by decide +kernel
theorem dX6_held_31 : decode cX6_held 31 = .ok (.goto (-27), 3) := by decide +kernel
theorem dX6_held_34 : decode cX6_held 34 = .ok (.iload_n 1, 1) := by decide +kernel
theorem dX6_held_35 : decode cX6_held 35 = .ok (.ireturn, 1) := by decide +kernel
theorem dX6_moveSack_0 : decode cX6_moveSack 0 = .ok (.iload_n 2, 1) := by decide +kernel
theorem dX6_moveSack_1 : decode cX6_moveSack 1 = .ok (.iconst 1, 1) := by decide +kernel
theorem dX6_moveSack_2 : decode cX6_moveSack 2 = .ok (.if_icmp .ne 7, 3) := by decide +kernel
theorem dX6_moveSack_5 : decode cX6_moveSack 5 = .ok (.lconst 1, 1) := by decide +kernel
theorem dX6_moveSack_6 : decode cX6_moveSack 6 = .ok (.goto 6, 3) := by decide +kernel
theorem dX6_moveSack_9 : decode cX6_moveSack 9 = .ok (.ldc2_w 39, 3) := by decide +kernel
theorem dX6_moveSack_12 : decode cX6_moveSack 12 = .ok (.lstore_n 3, 1) := by decide +kernel
theorem dX6_moveSack_13 : decode cX6_moveSack 13 = .ok (.bipush 9, 2) := by decide +kernel
theorem dX6_moveSack_15 : decode cX6_moveSack 15 = .ok (.iload_n 1, 1) := by decide +kernel
theorem dX6_moveSack_16 : decode cX6_moveSack 16 = .ok (.imul, 1) := by decide +kernel
theorem dX6_moveSack_17 : decode cX6_moveSack 17 = .ok (.istore 5, 2) := by decide +kernel
theorem dX6_moveSack_19 : decode cX6_moveSack 19 = .ok (.aload_n 0, 1) := by decide +kernel
theorem dX6_moveSack_20 : decode cX6_moveSack 20 = .ok (.getfield 13, 3) := by decide +kernel
theorem dX6_moveSack_23 : decode cX6_moveSack 23 = .ok (.iload 5, 2) := by decide +kernel
theorem dX6_moveSack_25 : decode cX6_moveSack 25 = .ok (.iconst 3, 1) := by decide +kernel
theorem dX6_moveSack_26 : decode cX6_moveSack 26 = .ok (.iadd, 1) := by decide +kernel
theorem dX6_moveSack_27 : decode cX6_moveSack 27 = .ok (.dup2, 1) := by decide +kernel
theorem dX6_moveSack_28 : decode cX6_moveSack 28 = .ok (.laload, 1) := by decide +kernel
theorem dX6_moveSack_29 : decode cX6_moveSack 29 = .ok (.lload_n 3, 1) := by decide +kernel
theorem dX6_moveSack_30 : decode cX6_moveSack 30 = .ok (.lsub, 1) := by decide +kernel
theorem dX6_moveSack_31 : decode cX6_moveSack 31 = .ok (.lastore, 1) := by decide +kernel
theorem dX6_moveSack_32 : decode cX6_moveSack 32 = .ok (.aload_n 0, 1) := by decide +kernel
theorem dX6_moveSack_33 : decode cX6_moveSack 33 = .ok (.getfield 17, 3) := by decide +kernel
theorem dX6_moveSack_36 : decode cX6_moveSack 36 = .ok (.iconst 0, 1) := by decide +kernel
theorem dX6_moveSack_37 : decode cX6_moveSack 37 = .ok (.dup2, 1) := by decide +kernel
theorem dX6_moveSack_38 : decode cX6_moveSack 38 = .ok (.laload, 1) := by decide +kernel
theorem dX6_moveSack_39 : decode cX6_moveSack 39 = .ok (.lload_n 3, 1) := by decide +kernel
theorem dX6_moveSack_40 : decode cX6_moveSack 40 = .ok (.ladd, 1) := by decide +kernel
theorem dX6_moveSack_41 : decode cX6_moveSack 41 = .ok (.lastore, 1) := by decide +kernel
theorem dX6_moveSack_42 : decode cX6_moveSack 42 = .ok (.aload_n 0, 1) := by decide +kernel
theorem dX6_moveSack_43 : decode cX6_moveSack 43 = .ok (.getfield 13, 3) := by decide +kernel
theorem dX6_moveSack_46 : decode cX6_moveSack 46 = .ok (.iload 5, 2) := by decide +kernel
theorem dX6_moveSack_48 : decode cX6_moveSack 48 = .ok (.iconst 4, 1) := by decide +kernel
theorem dX6_moveSack_49 : decode cX6_moveSack 49 = .ok (.iadd, 1) := by decide +kernel
theorem dX6_moveSack_50 : decode cX6_moveSack 50 = .ok (.dup2, 1) := by decide +kernel
theorem dX6_moveSack_51 : decode cX6_moveSack 51 = .ok (.laload, 1) := by decide +kernel
theorem dX6_moveSack_52 : decode cX6_moveSack 52 = .ok (.lload_n 3, 1) := by decide +kernel
theorem dX6_moveSack_53 : decode cX6_moveSack 53 = .ok (.aload_n 0, 1) := by decide +kernel
theorem dX6_moveSack_54 : decode cX6_moveSack 54 = .ok (.getfield 13, 3) := by decide +kernel
theorem dX6_moveSack_57 : decode cX6_moveSack 57 = .ok (.iload 5, 2) := by decide +kernel
theorem dX6_moveSack_59 : decode cX6_moveSack 59 = .ok (.laload, 1) := by decide +kernel
theorem dX6_moveSack_60 : decode cX6_moveSack 60 = .ok (.lmul, 1) := by decide +kernel
theorem dX6_moveSack_61 : decode cX6_moveSack 61 = .ok (.ladd, 1) := by decide +kernel
theorem dX6_moveSack_62 : decode cX6_moveSack 62 = .ok (.lastore, 1) := by decide +kernel
theorem dX6_moveSack_63 : decode cX6_moveSack 63 = .ok (.aload_n 0, 1) := by decide +kernel
theorem dX6_moveSack_64 : decode cX6_moveSack 64 = .ok (.getfield 17, 3) := by decide +kernel
theorem dX6_moveSack_67 : decode cX6_moveSack 67 = .ok (.iconst 1, 1) := by decide +kernel
theorem dX6_moveSack_68 : decode cX6_moveSack 68 = .ok (.dup2, 1) := by decide +kernel
theorem dX6_moveSack_69 : decode cX6_moveSack 69 = .ok (.laload, 1) := by decide +kernel
theorem dX6_moveSack_70 : decode cX6_moveSack 70 = .ok (.lload_n 3, 1) := by decide +kernel
theorem dX6_moveSack_71 : decode cX6_moveSack 71 = .ok (.aload_n 0, 1) := by decide +kernel
theorem dX6_moveSack_72 : decode cX6_moveSack 72 = .ok (.getfield 13, 3) := by decide +kernel
theorem dX6_moveSack_75 : decode cX6_moveSack 75 = .ok (.iload 5, 2) := by decide +kernel
theorem dX6_moveSack_77 : decode cX6_moveSack 77 = .ok (.laload, 1) := by decide +kernel
theorem dX6_moveSack_78 : decode cX6_moveSack 78 = .ok (.lmul, 1) := by decide +kernel
theorem dX6_moveSack_79 : decode cX6_moveSack 79 = .ok (.lsub, 1) := by decide +kernel
theorem dX6_moveSack_80 : decode cX6_moveSack 80 = .ok (.lastore, 1) := by decide +kernel
theorem dX6_moveSack_81 : decode cX6_moveSack 81 = .ok (.return_, 1) := by decide +kernel
set_option maxRecDepth 20000 in
theorem ggX6_goYear_X6_isRealm : GoodIn wsX6_goYear wsX6_isRealm := goodIn_r _ [11, 12, 6, 13, 14, 10, 15, 38, 39, 40, 41, 42, 43, 44, 45, 46, 47, 48] (by decide +kernel) (by decide +kernel)
set_option maxRecDepth 20000 in
theorem gX6_goYear_X6_isRealm : GoodIn wsX6_goYear (wsV RX6 91 RX6 yX6_isRealm wsX6_isRealm) := goodIn_app (goodIn_of _ (by decide +kernel)) ggX6_goYear_X6_isRealm
set_option maxRecDepth 20000 in
theorem ggX6_goYear_X6_movesOf : GoodIn wsX6_goYear wsX6_movesOf := goodIn_r _ [19, 6, 3, 4, 7, 8, 9, 10, 11, 12, 13, 14, 15, 20, 21, 22, 23, 24, 25, 26, 27, 28, 29, 30, 31, 32, 38, 39, 40, 41, 42, 43, 44, 45, 46, 47, 48] (by decide +kernel) (by decide +kernel)
set_option maxRecDepth 20000 in
theorem gX6_goYear_X6_movesOf : GoodIn wsX6_goYear (wsV RX6 119 RX6 yX6_movesOf wsX6_movesOf) := goodIn_app (goodIn_of _ (by decide +kernel)) ggX6_goYear_X6_movesOf
set_option maxRecDepth 20000 in
theorem ggX6_goYear_X6_moveSack : GoodIn wsX6_goYear wsX6_moveSack := goodIn_r _ [36, 37, 6, 3, 38, 39, 40, 41, 42, 43, 44, 45, 46, 47, 48] (by decide +kernel) (by decide +kernel)
set_option maxRecDepth 20000 in
theorem gX6_goYear_X6_moveSack : GoodIn wsX6_goYear (wsV RX6 131 RX6 yX6_moveSack wsX6_moveSack) := goodIn_app (goodIn_of _ (by decide +kernel)) ggX6_goYear_X6_moveSack
theorem dX6_goYear_0 : decode cX6_goYear 0 = .ok (.bipush (-4), 2) := by decide +kernel
theorem dX6_goYear_2 : decode cX6_goYear 2 = .ok (.istore_n 1, 1) := by decide +kernel
theorem dX6_goYear_3 : decode cX6_goYear 3 = .ok (.iconst 0, 1) := by decide +kernel
theorem dX6_goYear_4 : decode cX6_goYear 4 = .ok (.istore_n 2, 1) := by decide +kernel
theorem dX6_goYear_5 : decode cX6_goYear 5 = .ok (.iload_n 2, 1) := by decide +kernel
theorem dX6_goYear_6 : decode cX6_goYear 6 = .ok (.aload_n 0, 1) := by decide +kernel
theorem dX6_goYear_7 : decode cX6_goYear 7 = .ok (.getfield 23, 3) := by decide +kernel
theorem dX6_goYear_10 : decode cX6_goYear 10 = .ok (.iconst 0, 1) := by decide +kernel
theorem dX6_goYear_11 : decode cX6_goYear 11 = .ok (.iaload, 1) := by decide +kernel
theorem dX6_goYear_12 : decode cX6_goYear 12 = .ok (.if_icmp .ge 59, 3) := by decide +kernel
theorem dX6_goYear_15 : decode cX6_goYear 15 = .ok (.aload_n 0, 1) := by decide +kernel
theorem dX6_goYear_16 : decode cX6_goYear 16 = .ok (.getfield 26, 3) := by decide +kernel
theorem dX6_goYear_19 : decode cX6_goYear 19 = .ok (.iconst 3, 1) := by decide +kernel
theorem dX6_goYear_20 : decode cX6_goYear 20 = .ok (.iload_n 2, 1) := by decide +kernel
theorem dX6_goYear_21 : decode cX6_goYear 21 = .ok (.imul, 1) := by decide +kernel
theorem dX6_goYear_22 : decode cX6_goYear 22 = .ok (.iaload, 1) := by decide +kernel
theorem dX6_goYear_23 : decode cX6_goYear 23 = .ok (.i2l, 1) := by decide +kernel
theorem dX6_goYear_24 : decode cX6_goYear 24 = .ok (.aload_n 0, 1) := by decide +kernel
theorem dX6_goYear_25 : decode cX6_goYear 25 = .ok (.getfield 17, 3) := by decide +kernel
theorem dX6_goYear_28 : decode cX6_goYear 28 = .ok (.iconst 2, 1) := by decide +kernel
theorem dX6_goYear_29 : decode cX6_goYear 29 = .ok (.laload, 1) := by decide +kernel
theorem dX6_goYear_30 : decode cX6_goYear 30 = .ok (.lcmp, 1) := by decide +kernel
theorem dX6_goYear_31 : decode cX6_goYear 31 = .ok (.ifCond .gt 32, 3) := by decide +kernel
theorem dX6_goYear_34 : decode cX6_goYear 34 = .ok (.iload_n 1, 1) := by decide +kernel
theorem dX6_goYear_35 : decode cX6_goYear 35 = .ok (.bipush (-4), 2) := by decide +kernel
theorem dX6_goYear_37 : decode cX6_goYear 37 = .ok (.if_icmp .eq 22, 3) := by decide +kernel
theorem dX6_goYear_40 : decode cX6_goYear 40 = .ok (.aload_n 0, 1) := by decide +kernel
theorem dX6_goYear_41 : decode cX6_goYear 41 = .ok (.getfield 26, 3) := by decide +kernel
theorem dX6_goYear_44 : decode cX6_goYear 44 = .ok (.iconst 3, 1) := by decide +kernel
theorem dX6_goYear_45 : decode cX6_goYear 45 = .ok (.iload_n 2, 1) := by decide +kernel
theorem dX6_goYear_46 : decode cX6_goYear 46 = .ok (.imul, 1) := by decide +kernel
theorem dX6_goYear_47 : decode cX6_goYear 47 = .ok (.iaload, 1) := by decide +kernel
theorem dX6_goYear_48 : decode cX6_goYear 48 = .ok (.aload_n 0, 1) := by decide +kernel
theorem dX6_goYear_49 : decode cX6_goYear 49 = .ok (.getfield 26, 3) := by decide +kernel
theorem dX6_goYear_52 : decode cX6_goYear 52 = .ok (.iconst 3, 1) := by decide +kernel
theorem dX6_goYear_53 : decode cX6_goYear 53 = .ok (.iload_n 1, 1) := by decide +kernel
theorem dX6_goYear_54 : decode cX6_goYear 54 = .ok (.imul, 1) := by decide +kernel
theorem dX6_goYear_55 : decode cX6_goYear 55 = .ok (.iaload, 1) := by decide +kernel
theorem dX6_goYear_56 : decode cX6_goYear 56 = .ok (.if_icmp .lt 7, 3) := by decide +kernel
theorem dX6_goYear_59 : decode cX6_goYear 59 = .ok (.iload_n 2, 1) := by decide +kernel
theorem dX6_goYear_60 : decode cX6_goYear 60 = .ok (.goto 4, 3) := by decide +kernel
theorem dX6_goYear_63 : decode cX6_goYear 63 = .ok (.iload_n 1, 1) := by decide +kernel
theorem dX6_goYear_64 : decode cX6_goYear 64 = .ok (.istore_n 1, 1) := by decide +kernel
theorem dX6_goYear_65 : decode cX6_goYear 65 = .ok (.iinc 2 1, 3) := by decide +kernel
theorem dX6_goYear_68 : decode cX6_goYear 68 = .ok (.goto (-63), 3) := by decide +kernel
theorem dX6_goYear_71 : decode cX6_goYear 71 = .ok (.iload_n 1, 1) := by decide +kernel
theorem dX6_goYear_72 : decode cX6_goYear 72 = .ok (.bipush (-4), 2) := by decide +kernel
theorem dX6_goYear_74 : decode cX6_goYear 74 = .ok (.if_icmp .eq 47, 3) := by decide +kernel
theorem dX6_goYear_77 : decode cX6_goYear 77 = .ok (.aload_n 0, 1) := by decide +kernel
theorem dX6_goYear_78 : decode cX6_goYear 78 = .ok (.getfield 17, 3) := by decide +kernel
theorem dX6_goYear_81 : decode cX6_goYear 81 = .ok (.iconst 0, 1) := by decide +kernel
theorem dX6_goYear_82 : decode cX6_goYear 82 = .ok (.dup2, 1) := by decide +kernel
theorem dX6_goYear_83 : decode cX6_goYear 83 = .ok (.laload, 1) := by decide +kernel
theorem dX6_goYear_84 : decode cX6_goYear 84 = .ok (.aload_n 0, 1) := by decide +kernel
theorem dX6_goYear_85 : decode cX6_goYear 85 = .ok (.getfield 26, 3) := by decide +kernel
theorem dX6_goYear_88 : decode cX6_goYear 88 = .ok (.iconst 3, 1) := by decide +kernel
theorem dX6_goYear_89 : decode cX6_goYear 89 = .ok (.iload_n 1, 1) := by decide +kernel
theorem dX6_goYear_90 : decode cX6_goYear 90 = .ok (.imul, 1) := by decide +kernel
theorem dX6_goYear_91 : decode cX6_goYear 91 = .ok (.iconst 1, 1) := by decide +kernel
theorem dX6_goYear_92 : decode cX6_goYear 92 = .ok (.iadd, 1) := by decide +kernel
theorem dX6_goYear_93 : decode cX6_goYear 93 = .ok (.iaload, 1) := by decide +kernel
theorem dX6_goYear_94 : decode cX6_goYear 94 = .ok (.i2l, 1) := by decide +kernel
theorem dX6_goYear_95 : decode cX6_goYear 95 = .ok (.ladd, 1) := by decide +kernel
theorem dX6_goYear_96 : decode cX6_goYear 96 = .ok (.lastore, 1) := by decide +kernel
theorem dX6_goYear_97 : decode cX6_goYear 97 = .ok (.aload_n 0, 1) := by decide +kernel
theorem dX6_goYear_98 : decode cX6_goYear 98 = .ok (.getfield 17, 3) := by decide +kernel
theorem dX6_goYear_101 : decode cX6_goYear 101 = .ok (.iconst 1, 1) := by decide +kernel
theorem dX6_goYear_102 : decode cX6_goYear 102 = .ok (.dup2, 1) := by decide +kernel
theorem dX6_goYear_103 : decode cX6_goYear 103 = .ok (.laload, 1) := by decide +kernel
theorem dX6_goYear_104 : decode cX6_goYear 104 = .ok (.ldc2_w 73, 3) := by decide +kernel
theorem dX6_goYear_107 : decode cX6_goYear 107 = .ok (.aload_n 0, 1) := by decide +kernel
theorem dX6_goYear_108 : decode cX6_goYear 108 = .ok (.getfield 26, 3) := by decide +kernel
theorem dX6_goYear_111 : decode cX6_goYear 111 = .ok (.iconst 3, 1) := by decide +kernel
theorem dX6_goYear_112 : decode cX6_goYear 112 = .ok (.iload_n 1, 1) := by decide +kernel
theorem dX6_goYear_113 : decode cX6_goYear 113 = .ok (.imul, 1) := by decide +kernel
theorem dX6_goYear_114 : decode cX6_goYear 114 = .ok (.iconst 2, 1) := by decide +kernel
theorem dX6_goYear_115 : decode cX6_goYear 115 = .ok (.iadd, 1) := by decide +kernel
theorem dX6_goYear_116 : decode cX6_goYear 116 = .ok (.iaload, 1) := by decide +kernel
theorem dX6_goYear_117 : decode cX6_goYear 117 = .ok (.i2l, 1) := by decide +kernel
theorem dX6_goYear_118 : decode cX6_goYear 118 = .ok (.lmul, 1) := by decide +kernel
theorem dX6_goYear_119 : decode cX6_goYear 119 = .ok (.ladd, 1) := by decide +kernel
theorem dX6_goYear_120 : decode cX6_goYear 120 = .ok (.lastore, 1) := by decide +kernel
theorem dX6_goYear_121 : decode cX6_goYear 121 = .ok (.iconst 0, 1) := by decide +kernel
theorem dX6_goYear_122 : decode cX6_goYear 122 = .ok (.istore_n 2, 1) := by decide +kernel
theorem dX6_goYear_123 : decode cX6_goYear 123 = .ok (.iload_n 2, 1) := by decide +kernel
theorem dX6_goYear_124 : decode cX6_goYear 124 = .ok (.bipush 8, 2) := by decide +kernel
theorem dX6_goYear_126 : decode cX6_goYear 126 = .ok (.if_icmp .ge 16, 3) := by decide +kernel
theorem dX6_goYear_129 : decode cX6_goYear 129 = .ok (.aload_n 0, 1) := by decide +kernel
theorem dX6_goYear_130 : decode cX6_goYear 130 = .ok (.getfield 32, 3) := by decide +kernel
theorem dX6_goYear_133 : decode cX6_goYear 133 = .ok (.iload_n 2, 1) := by decide +kernel
theorem dX6_goYear_134 : decode cX6_goYear 134 = .ok (.iconst 0, 1) := by decide +kernel
theorem dX6_goYear_135 : decode cX6_goYear 135 = .ok (.iastore, 1) := by decide +kernel
theorem dX6_goYear_136 : decode cX6_goYear 136 = .ok (.iinc 2 1, 3) := by decide +kernel
theorem dX6_goYear_139 : decode cX6_goYear 139 = .ok (.goto (-16), 3) := by decide +kernel
theorem dX6_goYear_142 : decode cX6_goYear 142 = .ok (.iconst 0, 1) := by decide +kernel
theorem dX6_goYear_143 : decode cX6_goYear 143 = .ok (.istore_n 2, 1) := by decide +kernel
theorem dX6_goYear_144 : decode cX6_goYear 144 = .ok (.iconst 1, 1) := by decide +kernel
theorem dX6_goYear_145 : decode cX6_goYear 145 = .ok (.istore_n 3, 1) := by decide +kernel
theorem dX6_goYear_146 : decode cX6_goYear 146 = .ok (.iload_n 3, 1) := by decide +kernel
theorem dX6_goYear_147 : decode cX6_goYear 147 = .ok (.ifCond .eq 98, 3) := by decide +kernel
theorem dX6_goYear_150 : decode cX6_goYear 150 = .ok (.iconst 0, 1) := by decide +kernel
theorem dX6_goYear_151 : decode cX6_goYear 151 = .ok (.istore_n 3, 1) := by decide +kernel
theorem dX6_goYear_152 : decode cX6_goYear 152 = .ok (.iconst 0, 1) := by decide +kernel
theorem dX6_goYear_153 : decode cX6_goYear 153 = .ok (.istore 4, 2) := by decide +kernel
theorem dX6_goYear_155 : decode cX6_goYear 155 = .ok (.iload 4, 2) := by decide +kernel
theorem dX6_goYear_157 : decode cX6_goYear 157 = .ok (.bipush 8, 2) := by decide +kernel
theorem dX6_goYear_159 : decode cX6_goYear 159 = .ok (.if_icmp .ge 83, 3) := by decide +kernel
theorem dX6_goYear_162 : decode cX6_goYear 162 = .ok (.aload_n 0, 1) := by decide +kernel
theorem dX6_goYear_163 : decode cX6_goYear 163 = .ok (.iload 4, 2) := by decide +kernel
theorem dX6_goYear_165 : decode cX6_goYear 165 = .ok (.invokevirtual 91, 3) := by decide +kernel
theorem dX6_goYear_168 : decode cX6_goYear 168 = .ok (.ifCond .eq 36, 3) := by decide +kernel
theorem dX6_goYear_171 : decode cX6_goYear 171 = .ok (.aload_n 0, 1) := by decide +kernel
theorem dX6_goYear_172 : decode cX6_goYear 172 = .ok (.getfield 32, 3) := by decide +kernel
theorem dX6_goYear_175 : decode cX6_goYear 175 = .ok (.iload 4, 2) := by decide +kernel
theorem dX6_goYear_177 : decode cX6_goYear 177 = .ok (.iaload, 1) := by decide +kernel
theorem dX6_goYear_178 : decode cX6_goYear 178 = .ok (.i2l, 1) := by decide +kernel
theorem dX6_goYear_179 : decode cX6_goYear 179 = .ok (.aload_n 0, 1) := by decide +kernel
theorem dX6_goYear_180 : decode cX6_goYear 180 = .ok (.getfield 13, 3) := by decide +kernel
theorem dX6_goYear_183 : decode cX6_goYear 183 = .ok (.bipush 9, 2) := by decide +kernel
theorem dX6_goYear_185 : decode cX6_goYear 185 = .ok (.iload 4, 2) := by decide +kernel
theorem dX6_goYear_187 : decode cX6_goYear 187 = .ok (.imul, 1) := by decide +kernel
theorem dX6_goYear_188 : decode cX6_goYear 188 = .ok (.iconst 5, 1) := by decide +kernel
theorem dX6_goYear_189 : decode cX6_goYear 189 = .ok (.iadd, 1) := by decide +kernel
theorem dX6_goYear_190 : decode cX6_goYear 190 = .ok (.laload, 1) := by decide +kernel
theorem dX6_goYear_191 : decode cX6_goYear 191 = .ok (.lcmp, 1) := by decide +kernel
theorem dX6_goYear_192 : decode cX6_goYear 192 = .ok (.ifCond .ge 12, 3) := by decide +kernel
theorem dX6_goYear_195 : decode cX6_goYear 195 = .ok (.aload_n 0, 1) := by decide +kernel
theorem dX6_goYear_196 : decode cX6_goYear 196 = .ok (.iload 4, 2) := by decide +kernel
theorem dX6_goYear_198 : decode cX6_goYear 198 = .ok (.invokevirtual 119, 3) := by decide +kernel
theorem dX6_goYear_201 : decode cX6_goYear 201 = .ok (.goto 4, 3) := by decide +kernel
theorem dX6_goYear_204 : decode cX6_goYear 204 = .ok (.iconst 0, 1) := by decide +kernel
theorem dX6_goYear_205 : decode cX6_goYear 205 = .ok (.istore 5, 2) := by decide +kernel
theorem dX6_goYear_207 : decode cX6_goYear 207 = .ok (.iload 5, 2) := by decide +kernel
theorem dX6_goYear_209 : decode cX6_goYear 209 = .ok (.ifCond .le 27, 3) := by decide +kernel
theorem dX6_goYear_212 : decode cX6_goYear 212 = .ok (.aload_n 0, 1) := by decide +kernel
theorem dX6_goYear_213 : decode cX6_goYear 213 = .ok (.iload 4, 2) := by decide +kernel
theorem dX6_goYear_215 : decode cX6_goYear 215 = .ok (.iload 5, 2) := by decide +kernel
theorem dX6_goYear_217 : decode cX6_goYear 217 = .ok (.invokevirtual 131, 3) := by decide +kernel
theorem dX6_goYear_220 : decode cX6_goYear 220 = .ok (.aload_n 0, 1) := by decide +kernel
theorem dX6_goYear_221 : decode cX6_goYear 221 = .ok (.getfield 32, 3) := by decide +kernel
theorem dX6_goYear_224 : decode cX6_goYear 224 = .ok (.iload 4, 2) := by decide +kernel
theorem dX6_goYear_226 : decode cX6_goYear 226 = .ok (.dup2, 1) := by decide +kernel
theorem dX6_goYear_227 : decode cX6_goYear 227 = .ok (.iaload, 1) := by decide +kernel
theorem dX6_goYear_228 : decode cX6_goYear 228 = .ok (.iconst 1, 1) := by decide +kernel
theorem dX6_goYear_229 : decode cX6_goYear 229 = .ok (.iadd, 1) := by decide +kernel
theorem dX6_goYear_230 : decode cX6_goYear 230 = .ok (.iastore, 1) := by decide +kernel
theorem dX6_goYear_231 : decode cX6_goYear 231 = .ok (.iinc 2 1, 3) := by decide +kernel
theorem dX6_goYear_234 : decode cX6_goYear 234 = .ok (.iconst 1, 1) := by decide +kernel
theorem dX6_goYear_235 : decode cX6_goYear 235 = .ok (.istore_n 3, 1) := by decide +kernel
theorem dX6_goYear_236 : decode cX6_goYear 236 = .ok (.iinc 4 1, 3) := by decide +kernel
theorem dX6_goYear_239 : decode cX6_goYear 239 = .ok (.goto (-84), 3) := by decide +kernel
theorem dX6_goYear_242 : decode cX6_goYear 242 = .ok (.goto (-96), 3) := by decide +kernel
theorem dX6_goYear_245 : decode cX6_goYear 245 = .ok (.iconst 0, 1) := by decide +kernel
theorem dX6_goYear_246 : decode cX6_goYear 246 = .ok (.istore 4, 2) := by decide +kernel
theorem dX6_goYear_248 : decode cX6_goYear 248 = .ok (.iload 4, 2) := by decide +kernel
theorem dX6_goYear_250 : decode cX6_goYear 250 = .ok (.bipush 8, 2) := by decide +kernel
theorem dX6_goYear_252 : decode cX6_goYear 252 = .ok (.if_icmp .ge 61, 3) := by decide +kernel
theorem dX6_goYear_255 : decode cX6_goYear 255 = .ok (.aload_n 0, 1) := by decide +kernel
theorem dX6_goYear_256 : decode cX6_goYear 256 = .ok (.iload 4, 2) := by decide +kernel
theorem dX6_goYear_258 : decode cX6_goYear 258 = .ok (.invokevirtual 91, 3) := by decide +kernel
theorem dX6_goYear_261 : decode cX6_goYear 261 = .ok (.ifCond .eq 46, 3) := by decide +kernel
theorem dX6_goYear_264 : decode cX6_goYear 264 = .ok (.aload_n 0, 1) := by decide +kernel
theorem dX6_goYear_265 : decode cX6_goYear 265 = .ok (.getfield 13, 3) := by decide +kernel
theorem dX6_goYear_268 : decode cX6_goYear 268 = .ok (.bipush 9, 2) := by decide +kernel
theorem dX6_goYear_270 : decode cX6_goYear 270 = .ok (.iload 4, 2) := by decide +kernel
theorem dX6_goYear_272 : decode cX6_goYear 272 = .ok (.imul, 1) := by decide +kernel
theorem dX6_goYear_273 : decode cX6_goYear 273 = .ok (.bipush 8, 2) := by decide +kernel
theorem dX6_goYear_275 : decode cX6_goYear 275 = .ok (.iadd, 1) := by decide +kernel
theorem dX6_goYear_276 : decode cX6_goYear 276 = .ok (.laload, 1) := by decide +kernel
theorem dX6_goYear_277 : decode cX6_goYear 277 = .ok (.aload_n 0, 1) := by decide +kernel
theorem dX6_goYear_278 : decode cX6_goYear 278 = .ok (.getfield 13, 3) := by decide +kernel
theorem dX6_goYear_281 : decode cX6_goYear 281 = .ok (.bipush 9, 2) := by decide +kernel
theorem dX6_goYear_283 : decode cX6_goYear 283 = .ok (.iload 4, 2) := by decide +kernel
theorem dX6_goYear_285 : decode cX6_goYear 285 = .ok (.imul, 1) := by decide +kernel
theorem dX6_goYear_286 : decode cX6_goYear 286 = .ok (.iconst 3, 1) := by decide +kernel
theorem dX6_goYear_287 : decode cX6_goYear 287 = .ok (.iadd, 1) := by decide +kernel
theorem dX6_goYear_288 : decode cX6_goYear 288 = .ok (.laload, 1) := by decide +kernel
theorem dX6_goYear_289 : decode cX6_goYear 289 = .ok (.lcmp, 1) := by decide +kernel
theorem dX6_goYear_290 : decode cX6_goYear 290 = .ok (.ifCond .lt 17, 3) := by decide +kernel
theorem dX6_goYear_293 : decode cX6_goYear 293 = .ok (.aload_n 0, 1) := by decide +kernel
theorem dX6_goYear_294 : decode cX6_goYear 294 = .ok (.getfield 13, 3) := by decide +kernel
theorem dX6_goYear_297 : decode cX6_goYear 297 = .ok (.bipush 9, 2) := by decide +kernel
theorem dX6_goYear_299 : decode cX6_goYear 299 = .ok (.iload 4, 2) := by decide +kernel
theorem dX6_goYear_301 : decode cX6_goYear 301 = .ok (.imul, 1) := by decide +kernel
theorem dX6_goYear_302 : decode cX6_goYear 302 = .ok (.bipush 6, 2) := by decide +kernel
theorem dX6_goYear_304 : decode cX6_goYear 304 = .ok (.iadd, 1) := by decide +kernel
theorem dX6_goYear_305 : decode cX6_goYear 305 = .ok (.lconst 0, 1) := by decide +kernel
theorem dX6_goYear_306 : decode cX6_goYear 306 = .ok (.lastore, 1) := by decide +kernel
theorem dX6_goYear_307 : decode cX6_goYear 307 = .ok (.iinc 4 1, 3) := by decide +kernel
theorem dX6_goYear_310 : decode cX6_goYear 310 = .ok (.goto (-62), 3) := by decide +kernel
theorem dX6_goYear_313 : decode cX6_goYear 313 = .ok (.aload_n 0, 1) := by decide +kernel
theorem dX6_goYear_314 : decode cX6_goYear 314 = .ok (.getfield 17, 3) := by decide +kernel
theorem dX6_goYear_317 : decode cX6_goYear 317 = .ok (.iconst 2, 1) := by decide +kernel
theorem dX6_goYear_318 : decode cX6_goYear 318 = .ok (.dup2, 1) := by decide +kernel
theorem dX6_goYear_319 : decode cX6_goYear 319 = .ok (.laload, 1) := by decide +kernel
theorem dX6_goYear_320 : decode cX6_goYear 320 = .ok (.lconst 1, 1) := by decide +kernel
theorem dX6_goYear_321 : decode cX6_goYear 321 = .ok (.ladd, 1) := by decide +kernel
theorem dX6_goYear_322 : decode cX6_goYear 322 = .ok (.lastore, 1) := by decide +kernel
theorem dX6_goYear_323 : decode cX6_goYear 323 = .ok (.iload_n 2, 1) := by decide +kernel
theorem dX6_goYear_324 : decode cX6_goYear 324 = .ok (.ireturn, 1) := by decide +kernel
set_option maxRecDepth 20000 in
theorem ggX6_year_X6_goYear : GoodIn wsX6_year wsX6_goYear := goodIn_r _ [5, 6, 7, 8, 9, 10, 11, 12, 13, 14, 4, 15, 16, 17, 18, 19, 20, 21, 22, 23, 24, 25, 26, 27, 28, 29, 30, 31, 32, 33, 34, 35, 36, 37, 38, 39, 40, 41, 42, 43, 44, 45, 46, 47, 48, 49, 50, 51, 52] (by decide +kernel) (by decide +kernel)
set_option maxRecDepth 20000 in
theorem gX6_year_X6_goYear : GoodIn wsX6_year (wsV RX6 134 RX6 yX6_goYear wsX6_goYear) := goodIn_app (goodIn_of _ (by decide +kernel)) ggX6_year_X6_goYear
theorem dX6_year_0 : decode cX6_year 0 = .ok (.aload_n 0, 1) := by decide +kernel
theorem dX6_year_1 : decode cX6_year 1 = .ok (.invokevirtual 134, 3) := by decide +kernel
theorem dX6_year_4 : decode cX6_year 4 = .ok (.ireturn, 1) := by decide +kernel
set_option maxRecDepth 20000 in
theorem ggX6_goRest_X6_movesOf : GoodIn wsX6_goRest wsX6_movesOf := goodIn_r _ [6, 7, 8, 9, 10, 11, 12, 5, 13, 14, 15, 16, 17, 18, 19, 20, 21, 22, 23, 24, 25, 26, 27, 28, 29, 30, 36, 37, 38, 39, 40, 41, 42, 43, 44, 45, 46] (by decide +kernel) (by decide +kernel)
set_option maxRecDepth 20000 in
theorem gX6_goRest_X6_movesOf : GoodIn wsX6_goRest (wsV RX6 119 RX6 yX6_movesOf wsX6_movesOf) := goodIn_app (goodIn_of _ (by decide +kernel)) ggX6_goRest_X6_movesOf
set_option maxRecDepth 20000 in
theorem ggX6_goRest_X6_moveSack : GoodIn wsX6_goRest wsX6_moveSack := goodIn_r _ [34, 35, 7, 8, 36, 37, 38, 39, 40, 41, 42, 43, 44, 45, 46] (by decide +kernel) (by decide +kernel)
set_option maxRecDepth 20000 in
theorem gX6_goRest_X6_moveSack : GoodIn wsX6_goRest (wsV RX6 131 RX6 yX6_moveSack wsX6_moveSack) := goodIn_app (goodIn_of _ (by decide +kernel)) ggX6_goRest_X6_moveSack
theorem dX6_goRest_0 : decode cX6_goRest 0 = .ok (.iconst 0, 1) := by decide +kernel
theorem dX6_goRest_1 : decode cX6_goRest 1 = .ok (.istore_n 1, 1) := by decide +kernel
theorem dX6_goRest_2 : decode cX6_goRest 2 = .ok (.iconst 1, 1) := by decide +kernel
theorem dX6_goRest_3 : decode cX6_goRest 3 = .ok (.istore_n 2, 1) := by decide +kernel
theorem dX6_goRest_4 : decode cX6_goRest 4 = .ok (.iload_n 2, 1) := by decide +kernel
theorem dX6_goRest_5 : decode cX6_goRest 5 = .ok (.ifCond .eq 55, 3) := by decide +kernel
theorem dX6_goRest_8 : decode cX6_goRest 8 = .ok (.iconst 0, 1) := by decide +kernel
theorem dX6_goRest_9 : decode cX6_goRest 9 = .ok (.istore_n 2, 1) := by decide +kernel
theorem dX6_goRest_10 : decode cX6_goRest 10 = .ok (.iconst 0, 1) := by decide +kernel
theorem dX6_goRest_11 : decode cX6_goRest 11 = .ok (.istore_n 3, 1) := by decide +kernel
theorem dX6_goRest_12 : decode cX6_goRest 12 = .ok (.iload_n 3, 1) := by decide +kernel
theorem dX6_goRest_13 : decode cX6_goRest 13 = .ok (.bipush 8, 2) := by decide +kernel
theorem dX6_goRest_15 : decode cX6_goRest 15 = .ok (.if_icmp .ge 42, 3) := by decide +kernel
theorem dX6_goRest_18 : decode cX6_goRest 18 = .ok (.aload_n 0, 1) := by decide +kernel
theorem dX6_goRest_19 : decode cX6_goRest 19 = .ok (.iload_n 3, 1) := by decide +kernel
theorem dX6_goRest_20 : decode cX6_goRest 20 = .ok (.invokevirtual 119, 3) := by decide +kernel
theorem dX6_goRest_23 : decode cX6_goRest 23 = .ok (.istore 4, 2) := by decide +kernel
theorem dX6_goRest_25 : decode cX6_goRest 25 = .ok (.iload 4, 2) := by decide +kernel
theorem dX6_goRest_27 : decode cX6_goRest 27 = .ok (.ifCond .le 24, 3) := by decide +kernel
theorem dX6_goRest_30 : decode cX6_goRest 30 = .ok (.iload_n 1, 1) := by decide +kernel
theorem dX6_goRest_31 : decode cX6_goRest 31 = .ok (.ldc 137, 2) := by decide +kernel
theorem dX6_goRest_33 : decode cX6_goRest 33 = .ok (.if_icmp .ne 6, 3) := by decide +kernel
theorem dX6_goRest_36 : decode cX6_goRest 36 = .ok (.bipush (-5), 2) := by decide +kernel
theorem dX6_goRest_38 : decode cX6_goRest 38 = .ok (.ireturn, 1) := by decide +kernel
theorem dX6_goRest_39 : decode cX6_goRest 39 = .ok (.aload_n 0, 1) := by decide +kernel
theorem dX6_goRest_40 : decode cX6_goRest 40 = .ok (.iload_n 3, 1) := by decide +kernel
theorem dX6_goRest_41 : decode cX6_goRest 41 = .ok (.iload 4, 2) := by decide +kernel
theorem dX6_goRest_43 : decode cX6_goRest 43 = .ok (.invokevirtual 131, 3) := by decide +kernel
theorem dX6_goRest_46 : decode cX6_goRest 46 = .ok (.iinc 1 1, 3) := by decide +kernel
theorem dX6_goRest_49 : decode cX6_goRest 49 = .ok (.iconst 1, 1) := by decide +kernel
theorem dX6_goRest_50 : decode cX6_goRest 50 = .ok (.istore_n 2, 1) := by decide +kernel
theorem dX6_goRest_51 : decode cX6_goRest 51 = .ok (.iinc 3 1, 3) := by decide +kernel
theorem dX6_goRest_54 : decode cX6_goRest 54 = .ok (.goto (-42), 3) := by decide +kernel
theorem dX6_goRest_57 : decode cX6_goRest 57 = .ok (.goto (-53), 3) := by decide +kernel
theorem dX6_goRest_60 : decode cX6_goRest 60 = .ok (.iload_n 1, 1) := by decide +kernel
theorem dX6_goRest_61 : decode cX6_goRest 61 = .ok (.ireturn, 1) := by decide +kernel
set_option maxRecDepth 20000 in
theorem ggX6_rest_X6_copy : GoodIn wsX6_rest wsX6_copy := goodIn_r _ [5, 6, 7, 44, 45, 46, 47, 48, 49, 50, 51, 52, 53, 54] (by decide +kernel) (by decide +kernel)
set_option maxRecDepth 20000 in
theorem gX6_rest_X6_copy : GoodIn wsX6_rest (wsV RX6 97 RX6 yX6_copy wsX6_copy) := goodIn_app (goodIn_of _ (by decide +kernel)) ggX6_rest_X6_copy
set_option maxRecDepth 20000 in
theorem ggX6_rest_X6_goRest : GoodIn wsX6_rest wsX6_goRest := goodIn_r _ [11, 12, 13, 14, 15, 4, 16, 6, 7, 17, 18, 19, 20, 21, 22, 23, 24, 25, 26, 27, 28, 29, 30, 31, 32, 33, 34, 35, 36, 37, 38, 39, 40, 41, 42, 43, 44, 45, 46, 47, 48, 49, 50, 51, 52, 53, 54] (by decide +kernel) (by decide +kernel)
set_option maxRecDepth 20000 in
theorem gX6_rest_X6_goRest : GoodIn wsX6_rest (wsV RX6 138 RX6 yX6_goRest wsX6_goRest) := goodIn_app (goodIn_of _ (by decide +kernel)) ggX6_rest_X6_goRest
theorem dX6_rest_0 : decode cX6_rest 0 = .ok (.aload_n 0, 1) := by decide +kernel
theorem dX6_rest_1 : decode cX6_rest 1 = .ok (.iconst 0, 1) := by decide +kernel
theorem dX6_rest_2 : decode cX6_rest 2 = .ok (.iconst 3, 1) := by decide +kernel
theorem dX6_rest_3 : decode cX6_rest 3 = .ok (.invokevirtual 97, 3) := by decide +kernel
theorem dX6_rest_6 : decode cX6_rest 6 = .ok (.aload_n 0, 1) := by decide +kernel
theorem dX6_rest_7 : decode cX6_rest 7 = .ok (.invokevirtual 138, 3) := by decide +kernel
theorem dX6_rest_10 : decode cX6_rest 10 = .ok (.istore_n 1, 1) := by decide +kernel
theorem dX6_rest_11 : decode cX6_rest 11 = .ok (.iload_n 1, 1) := by decide +kernel
theorem dX6_rest_12 : decode cX6_rest 12 = .ok (.bipush (-5), 2) := by decide +kernel
theorem dX6_rest_14 : decode cX6_rest 14 = .ok (.if_icmp .ne 9, 3) := by decide +kernel
theorem dX6_rest_17 : decode cX6_rest 17 = .ok (.aload_n 0, 1) := by decide +kernel
theorem dX6_rest_18 : decode cX6_rest 18 = .ok (.iconst 3, 1) := by decide +kernel
theorem dX6_rest_19 : decode cX6_rest 19 = .ok (.iconst 0, 1) := by decide +kernel
theorem dX6_rest_20 : decode cX6_rest 20 = .ok (.invokevirtual 97, 3) := by decide +kernel
theorem dX6_rest_23 : decode cX6_rest 23 = .ok (.iload_n 1, 1) := by decide +kernel
theorem dX6_rest_24 : decode cX6_rest 24 = .ok (.ireturn, 1) := by decide +kernel
set_option maxRecDepth 20000 in
theorem ggX6_areYears_X6_in : GoodIn wsX6_areYears wsX6_in := goodIn_r _ [5] (by decide +kernel) (by decide +kernel)
set_option maxRecDepth 20000 in
theorem gX6_areYears_X6_in : GoodIn wsX6_areYears (va_wsS RX6 43 yX6_in wsX6_in) := goodIn_app (goodIn_of _ (by decide +kernel)) ggX6_areYears_X6_in
theorem dX6_areYears_0 : decode cX6_areYears 0 = .ok (.iload_n 0, 1) := by decide +kernel
theorem dX6_areYears_1 : decode cX6_areYears 1 = .ok (.i2l, 1) := by decide +kernel
theorem dX6_areYears_2 : decode cX6_areYears 2 = .ok (.lconst 1, 1) := by decide +kernel
theorem dX6_areYears_3 : decode cX6_areYears 3 = .ok (.ldc2_w 141, 3) := by decide +kernel
theorem dX6_areYears_6 : decode cX6_areYears 6 = .ok (.invokestatic 43, 3) := by decide +kernel
theorem dX6_areYears_9 : decode cX6_areYears 9 = .ok (.ireturn, 1) := by decide +kernel
set_option maxRecDepth 20000 in
theorem ggX6_gone_X6_isRealm : GoodIn wsX6_gone wsX6_isRealm := goodIn_r _ [6, 7, 1, 8, 9, 5, 10, 50, 51, 52, 53, 54, 55, 56, 57, 58, 59, 60] (by decide +kernel) (by decide +kernel)
set_option maxRecDepth 20000 in
theorem gX6_gone_X6_isRealm : GoodIn wsX6_gone (wsV RX6 91 RX6 yX6_isRealm wsX6_isRealm) := goodIn_app (goodIn_of _ (by decide +kernel)) ggX6_gone_X6_isRealm
set_option maxRecDepth 20000 in
theorem ggX6_gone_X6_in : GoodIn wsX6_gone wsX6_in := goodIn_r _ [10] (by decide +kernel) (by decide +kernel)
set_option maxRecDepth 20000 in
theorem gX6_gone_X6_in : GoodIn wsX6_gone (va_wsS RX6 43 yX6_in wsX6_in) := goodIn_app (goodIn_of _ (by decide +kernel)) ggX6_gone_X6_in
set_option maxRecDepth 20000 in
theorem ggX6_gone_X6_areYears : GoodIn wsX6_gone wsX6_areYears := goodIn_r _ [13, 14, 8, 9, 5, 10] (by decide +kernel) (by decide +kernel)
set_option maxRecDepth 20000 in
theorem gX6_gone_X6_areYears : GoodIn wsX6_gone (va_wsS RX6 143 yX6_areYears wsX6_areYears) := goodIn_app (goodIn_of _ (by decide +kernel)) ggX6_gone_X6_areYears
set_option maxRecDepth 20000 in
theorem ggX6_gone_X6_copy : GoodIn wsX6_gone wsX6_copy := goodIn_r _ [18, 1, 19, 50, 51, 52, 53, 54, 55, 56, 57, 58, 59, 60] (by decide +kernel) (by decide +kernel)
set_option maxRecDepth 20000 in
theorem gX6_gone_X6_copy : GoodIn wsX6_gone (wsV RX6 97 RX6 yX6_copy wsX6_copy) := goodIn_app (goodIn_of _ (by decide +kernel)) ggX6_gone_X6_copy
set_option maxRecDepth 20000 in
theorem ggX6_gone_X6_goYear : GoodIn wsX6_gone wsX6_goYear := goodIn_r _ [23, 24, 25, 19, 26, 27, 1, 2, 3, 4, 5, 6, 7, 8, 9, 10, 28, 29, 30, 31, 32, 33, 34, 35, 36, 37, 38, 39, 40, 41, 42, 43, 44, 45, 46, 47, 48, 49, 50, 51, 52, 53, 54, 55, 56, 57, 58, 59, 60] (by decide +kernel) (by decide +kernel)
set_option maxRecDepth 20000 in
theorem gX6_gone_X6_goYear : GoodIn wsX6_gone (wsV RX6 134 RX6 yX6_goYear wsX6_goYear) := goodIn_app (goodIn_of _ (by decide +kernel)) ggX6_gone_X6_goYear
theorem dX6_gone_0 : decode cX6_gone 0 = .ok (.aload_n 0, 1) := by decide +kernel
theorem dX6_gone_1 : decode cX6_gone 1 = .ok (.iload_n 1, 1) := by decide +kernel
theorem dX6_gone_2 : decode cX6_gone 2 = .ok (.invokevirtual 91, 3) := by decide +kernel
theorem dX6_gone_5 : decode cX6_gone 5 = .ok (.ifCond .eq 20, 3) := by decide +kernel
theorem dX6_gone_8 : decode cX6_gone 8 = .ok (.iload_n 2, 1) := by decide +kernel
theorem dX6_gone_9 : decode cX6_gone 9 = .ok (.i2l, 1) := by decide +kernel
theorem dX6_gone_10 : decode cX6_gone 10 = .ok (.lconst 0, 1) := by decide +kernel
theorem dX6_gone_11 : decode cX6_gone 11 = .ok (.lconst 1, 1) := by decide +kernel
theorem dX6_gone_12 : decode cX6_gone 12 = .ok (.invokestatic 43, 3) := by decide +kernel
theorem dX6_gone_15 : decode cX6_gone 15 = .ok (.ifCond .eq 10, 3) := by decide +kernel
theorem dX6_gone_18 : decode cX6_gone 18 = .ok (.iload_n 3, 1) := by decide +kernel
theorem dX6_gone_19 : decode cX6_gone 19 = .ok (.invokestatic 143, 3) := by decide +kernel
theorem dX6_gone_22 : decode cX6_gone 22 = .ok (.ifCond .ne 5, 3) := by decide +kernel
theorem dX6_gone_25 : decode cX6_gone 25 = .ok (.iconst (-1), 1) := by decide +kernel
theorem dX6_gone_26 : decode cX6_gone 26 = .ok (.ireturn, 1) := by decide +kernel
theorem dX6_gone_27 : decode cX6_gone 27 = .ok (.aload_n 0, 1) := by decide +kernel
theorem dX6_gone_28 : decode cX6_gone 28 = .ok (.iconst 0, 1) := by decide +kernel
theorem dX6_gone_29 : decode cX6_gone 29 = .ok (.iconst 3, 1) := by decide +kernel
theorem dX6_gone_30 : decode cX6_gone 30 = .ok (.invokevirtual 97, 3) := by decide +kernel
theorem dX6_gone_33 : decode cX6_gone 33 = .ok (.bipush (-4), 2) := by decide +kernel
theorem dX6_gone_35 : decode cX6_gone 35 = .ok (.istore 4, 2) := by decide +kernel
theorem dX6_gone_37 : decode cX6_gone 37 = .ok (.iconst 1, 1) := by decide +kernel
theorem dX6_gone_38 : decode cX6_gone 38 = .ok (.istore 5, 2) := by decide +kernel
theorem dX6_gone_40 : decode cX6_gone 40 = .ok (.iload 5, 2) := by decide +kernel
theorem dX6_gone_42 : decode cX6_gone 42 = .ok (.iload_n 3, 1) := by decide +kernel
theorem dX6_gone_43 : decode cX6_gone 43 = .ok (.if_icmp .gt 94, 3) := by decide +kernel
theorem dX6_gone_46 : decode cX6_gone 46 = .ok (.iload 4, 2) := by decide +kernel
theorem dX6_gone_48 : decode cX6_gone 48 = .ok (.bipush (-4), 2) := by decide +kernel
theorem dX6_gone_50 : decode cX6_gone 50 = .ok (.if_icmp .ne 87, 3) := by decide +kernel
theorem dX6_gone_53 : decode cX6_gone 53 = .ok (.aload_n 0, 1) := by decide +kernel
theorem dX6_gone_54 : decode cX6_gone 54 = .ok (.invokevirtual 134, 3) := by decide +kernel
theorem dX6_gone_57 : decode cX6_gone 57 = .ok (.pop, 1) := by decide +kernel
theorem dX6_gone_58 : decode cX6_gone 58 = .ok (.iload_n 2, 1) := by decide +kernel
theorem dX6_gone_59 : decode cX6_gone 59 = .ok (.ifCond .ne 27, 3) := by decide +kernel
theorem dX6_gone_62 : decode cX6_gone 62 = .ok (.aload_n 0, 1) := by decide +kernel
theorem dX6_gone_63 : decode cX6_gone 63 = .ok (.getfield 13, 3) := by decide +kernel
theorem dX6_gone_66 : decode cX6_gone 66 = .ok (.bipush 9, 2) := by decide +kernel
theorem dX6_gone_68 : decode cX6_gone 68 = .ok (.iload_n 1, 1) := by decide +kernel
theorem dX6_gone_69 : decode cX6_gone 69 = .ok (.imul, 1) := by decide +kernel
theorem dX6_gone_70 : decode cX6_gone 70 = .ok (.iconst 3, 1) := by decide +kernel
theorem dX6_gone_71 : decode cX6_gone 71 = .ok (.iadd, 1) := by decide +kernel
theorem dX6_gone_72 : decode cX6_gone 72 = .ok (.laload, 1) := by decide +kernel
theorem dX6_gone_73 : decode cX6_gone 73 = .ok (.lconst 0, 1) := by decide +kernel
theorem dX6_gone_74 : decode cX6_gone 74 = .ok (.lcmp, 1) := by decide +kernel
theorem dX6_gone_75 : decode cX6_gone 75 = .ok (.ifCond .ne 7, 3) := by decide +kernel
theorem dX6_gone_78 : decode cX6_gone 78 = .ok (.iconst 1, 1) := by decide +kernel
theorem dX6_gone_79 : decode cX6_gone 79 = .ok (.goto 36, 3) := by decide +kernel
theorem dX6_gone_82 : decode cX6_gone 82 = .ok (.iconst 0, 1) := by decide +kernel
theorem dX6_gone_83 : decode cX6_gone 83 = .ok (.goto 32, 3) := by decide +kernel
theorem dX6_gone_86 : decode cX6_gone 86 = .ok (.aload_n 0, 1) := by decide +kernel
theorem dX6_gone_87 : decode cX6_gone 87 = .ok (.getfield 13, 3) := by decide +kernel
theorem dX6_gone_90 : decode cX6_gone 90 = .ok (.bipush 9, 2) := by decide +kernel
theorem dX6_gone_92 : decode cX6_gone 92 = .ok (.iload_n 1, 1) := by decide +kernel
theorem dX6_gone_93 : decode cX6_gone 93 = .ok (.imul, 1) := by decide +kernel
theorem dX6_gone_94 : decode cX6_gone 94 = .ok (.iconst 4, 1) := by decide +kernel
theorem dX6_gone_95 : decode cX6_gone 95 = .ok (.iadd, 1) := by decide +kernel
theorem dX6_gone_96 : decode cX6_gone 96 = .ok (.laload, 1) := by decide +kernel
theorem dX6_gone_97 : decode cX6_gone 97 = .ok (.aload_n 0, 1) := by decide +kernel
theorem dX6_gone_98 : decode cX6_gone 98 = .ok (.getfield 13, 3) := by decide +kernel
theorem dX6_gone_101 : decode cX6_gone 101 = .ok (.bipush 9, 2) := by decide +kernel
theorem dX6_gone_103 : decode cX6_gone 103 = .ok (.iload_n 1, 1) := by decide +kernel
theorem dX6_gone_104 : decode cX6_gone 104 = .ok (.imul, 1) := by decide +kernel
theorem dX6_gone_105 : decode cX6_gone 105 = .ok (.laload, 1) := by decide +kernel
theorem dX6_gone_106 : decode cX6_gone 106 = .ok (.lcmp, 1) := by decide +kernel
theorem dX6_gone_107 : decode cX6_gone 107 = .ok (.ifCond .ge 7, 3) := by decide +kernel
theorem dX6_gone_110 : decode cX6_gone 110 = .ok (.iconst 1, 1) := by decide +kernel
theorem dX6_gone_111 : decode cX6_gone 111 = .ok (.goto 4, 3) := by decide +kernel
theorem dX6_gone_114 : decode cX6_gone 114 = .ok (.iconst 0, 1) := by decide +kernel
theorem dX6_gone_115 : decode cX6_gone 115 = .ok (.istore 6, 2) := by decide +kernel
theorem dX6_gone_117 : decode cX6_gone 117 = .ok (.iload 6, 2) := by decide +kernel
theorem dX6_gone_119 : decode cX6_gone 119 = .ok (.ifCond .eq 8, 3) := by decide +kernel
theorem dX6_gone_122 : decode cX6_gone 122 = .ok (.iload 5, 2) := by decide +kernel
theorem dX6_gone_124 : decode cX6_gone 124 = .ok (.goto 5, 3) := by decide +kernel
theorem dX6_gone_127 : decode cX6_gone 127 = .ok (.iload 4, 2) := by decide +kernel
theorem dX6_gone_129 : decode cX6_gone 129 = .ok (.istore 4, 2) := by decide +kernel
theorem dX6_gone_131 : decode cX6_gone 131 = .ok (.iinc 5 1, 3) := by decide +kernel
theorem dX6_gone_134 : decode cX6_gone 134 = .ok (.goto (-94), 3) := by decide +kernel
theorem dX6_gone_137 : decode cX6_gone 137 = .ok (.aload_n 0, 1) := by decide +kernel
theorem dX6_gone_138 : decode cX6_gone 138 = .ok (.iconst 3, 1) := by decide +kernel
theorem dX6_gone_139 : decode cX6_gone 139 = .ok (.iconst 0, 1) := by decide +kernel
theorem dX6_gone_140 : decode cX6_gone 140 = .ok (.invokevirtual 97, 3) := by decide +kernel
theorem dX6_gone_143 : decode cX6_gone 143 = .ok (.iload 4, 2) := by decide +kernel
theorem dX6_gone_145 : decode cX6_gone 145 = .ok (.ireturn, 1) := by decide +kernel
set_option maxRecDepth 20000 in
theorem ggX6_stopped_X6_isRealm : GoodIn wsX6_stopped wsX6_isRealm := goodIn_r _ [5, 6, 7, 8, 9, 4, 10, 50, 51, 52, 53, 54, 55, 56, 57, 58, 59, 60] (by decide +kernel) (by decide +kernel)
set_option maxRecDepth 20000 in
theorem gX6_stopped_X6_isRealm : GoodIn wsX6_stopped (wsV RX6 91 RX6 yX6_isRealm wsX6_isRealm) := goodIn_app (goodIn_of _ (by decide +kernel)) ggX6_stopped_X6_isRealm
set_option maxRecDepth 20000 in
theorem ggX6_stopped_X6_areYears : GoodIn wsX6_stopped wsX6_areYears := goodIn_r _ [13, 14, 8, 9, 4, 10] (by decide +kernel) (by decide +kernel)
set_option maxRecDepth 20000 in
theorem gX6_stopped_X6_areYears : GoodIn wsX6_stopped (va_wsS RX6 143 yX6_areYears wsX6_areYears) := goodIn_app (goodIn_of _ (by decide +kernel)) ggX6_stopped_X6_areYears
set_option maxRecDepth 20000 in
theorem ggX6_stopped_X6_mints : GoodIn wsX6_stopped wsX6_mints := goodIn_r _ [18, 7, 50, 51, 52, 53, 54, 55, 56, 57, 58, 59, 60] (by decide +kernel) (by decide +kernel)
set_option maxRecDepth 20000 in
theorem gX6_stopped_X6_mints : GoodIn wsX6_stopped (wsV RX6 94 RX6 yX6_mints wsX6_mints) := goodIn_app (goodIn_of _ (by decide +kernel)) ggX6_stopped_X6_mints
set_option maxRecDepth 20000 in
theorem ggX6_stopped_X6_copy : GoodIn wsX6_stopped wsX6_copy := goodIn_r _ [22, 7, 23, 50, 51, 52, 53, 54, 55, 56, 57, 58, 59, 60] (by decide +kernel) (by decide +kernel)
set_option maxRecDepth 20000 in
theorem gX6_stopped_X6_copy : GoodIn wsX6_stopped (wsV RX6 97 RX6 yX6_copy wsX6_copy) := goodIn_app (goodIn_of _ (by decide +kernel)) ggX6_stopped_X6_copy
set_option maxRecDepth 20000 in
theorem ggX6_stopped_X6_goYear : GoodIn wsX6_stopped wsX6_goYear := goodIn_r _ [27, 28, 29, 23, 30, 31, 7, 1, 2, 3, 4, 5, 6, 8, 9, 10, 32, 33, 34, 35, 15, 16, 17, 18, 36, 37, 38, 39, 40, 41, 42, 43, 44, 45, 46, 47, 48, 49, 50, 51, 52, 53, 54, 55, 56, 57, 58, 59, 60] (by decide +kernel) (by decide +kernel)
set_option maxRecDepth 20000 in
theorem gX6_stopped_X6_goYear : GoodIn wsX6_stopped (wsV RX6 134 RX6 yX6_goYear wsX6_goYear) := goodIn_app (goodIn_of _ (by decide +kernel)) ggX6_stopped_X6_goYear
theorem dX6_stopped_0 : decode cX6_stopped 0 = .ok (.aload_n 0, 1) := by decide +kernel
theorem dX6_stopped_1 : decode cX6_stopped 1 = .ok (.iload_n 1, 1) := by decide +kernel
theorem dX6_stopped_2 : decode cX6_stopped 2 = .ok (.invokevirtual 91, 3) := by decide +kernel
theorem dX6_stopped_5 : decode cX6_stopped 5 = .ok (.ifCond .eq 10, 3) := by decide +kernel
theorem dX6_stopped_8 : decode cX6_stopped 8 = .ok (.iload_n 2, 1) := by decide +kernel
theorem dX6_stopped_9 : decode cX6_stopped 9 = .ok (.invokestatic 143, 3) := by decide +kernel
theorem dX6_stopped_12 : decode cX6_stopped 12 = .ok (.ifCond .ne 5, 3) := by decide +kernel
theorem dX6_stopped_15 : decode cX6_stopped 15 = .ok (.iconst (-1), 1) := by decide +kernel
theorem dX6_stopped_16 : decode cX6_stopped 16 = .ok (.ireturn, 1) := by decide +kernel
theorem dX6_stopped_17 : decode cX6_stopped 17 = .ok (.aload_n 0, 1) := by decide +kernel
theorem dX6_stopped_18 : decode cX6_stopped 18 = .ok (.iload_n 1, 1) := by decide +kernel
theorem dX6_stopped_19 : decode cX6_stopped 19 = .ok (.invokevirtual 94, 3) := by decide +kernel
theorem dX6_stopped_22 : decode cX6_stopped 22 = .ok (.ifCond .ne 6, 3) := by decide +kernel
theorem dX6_stopped_25 : decode cX6_stopped 25 = .ok (.bipush (-2), 2) := by decide +kernel
theorem dX6_stopped_27 : decode cX6_stopped 27 = .ok (.ireturn, 1) := by decide +kernel
theorem dX6_stopped_28 : decode cX6_stopped 28 = .ok (.aload_n 0, 1) := by decide +kernel
theorem dX6_stopped_29 : decode cX6_stopped 29 = .ok (.iconst 0, 1) := by decide +kernel
theorem dX6_stopped_30 : decode cX6_stopped 30 = .ok (.iconst 3, 1) := by decide +kernel
theorem dX6_stopped_31 : decode cX6_stopped 31 = .ok (.invokevirtual 97, 3) := by decide +kernel
theorem dX6_stopped_34 : decode cX6_stopped 34 = .ok (.bipush (-4), 2) := by decide +kernel
theorem dX6_stopped_36 : decode cX6_stopped 36 = .ok (.istore_n 3, 1) := by decide +kernel
theorem dX6_stopped_37 : decode cX6_stopped 37 = .ok (.iconst 1, 1) := by decide +kernel
theorem dX6_stopped_38 : decode cX6_stopped 38 = .ok (.istore 4, 2) := by decide +kernel
theorem dX6_stopped_40 : decode cX6_stopped 40 = .ok (.iload 4, 2) := by decide +kernel
theorem dX6_stopped_42 : decode cX6_stopped 42 = .ok (.iload_n 2, 1) := by decide +kernel
theorem dX6_stopped_43 : decode cX6_stopped 43 = .ok (.if_icmp .gt 35, 3) := by decide +kernel
theorem dX6_stopped_46 : decode cX6_stopped 46 = .ok (.iload_n 3, 1) := by decide +kernel
theorem dX6_stopped_47 : decode cX6_stopped 47 = .ok (.bipush (-4), 2) := by decide +kernel
theorem dX6_stopped_49 : decode cX6_stopped 49 = .ok (.if_icmp .ne 29, 3) := by decide +kernel
theorem dX6_stopped_52 : decode cX6_stopped 52 = .ok (.aload_n 0, 1) := by decide +kernel
theorem dX6_stopped_53 : decode cX6_stopped 53 = .ok (.invokevirtual 134, 3) := by decide +kernel
theorem dX6_stopped_56 : decode cX6_stopped 56 = .ok (.pop, 1) := by decide +kernel
theorem dX6_stopped_57 : decode cX6_stopped 57 = .ok (.aload_n 0, 1) := by decide +kernel
theorem dX6_stopped_58 : decode cX6_stopped 58 = .ok (.iload_n 1, 1) := by decide +kernel
theorem dX6_stopped_59 : decode cX6_stopped 59 = .ok (.invokevirtual 94, 3) := by decide +kernel
theorem dX6_stopped_62 : decode cX6_stopped 62 = .ok (.ifCond .eq 7, 3) := by decide +kernel
theorem dX6_stopped_65 : decode cX6_stopped 65 = .ok (.iload_n 3, 1) := by decide +kernel
theorem dX6_stopped_66 : decode cX6_stopped 66 = .ok (.goto 5, 3) := by decide +kernel
theorem dX6_stopped_69 : decode cX6_stopped 69 = .ok (.iload 4, 2) := by decide +kernel
theorem dX6_stopped_71 : decode cX6_stopped 71 = .ok (.istore_n 3, 1) := by decide +kernel
theorem dX6_stopped_72 : decode cX6_stopped 72 = .ok (.iinc 4 1, 3) := by decide +kernel
theorem dX6_stopped_75 : decode cX6_stopped 75 = .ok (.goto (-35), 3) := by decide +kernel
theorem dX6_stopped_78 : decode cX6_stopped 78 = .ok (.aload_n 0, 1) := by decide +kernel
theorem dX6_stopped_79 : decode cX6_stopped 79 = .ok (.iconst 3, 1) := by decide +kernel
theorem dX6_stopped_80 : decode cX6_stopped 80 = .ok (.iconst 0, 1) := by decide +kernel
theorem dX6_stopped_81 : decode cX6_stopped 81 = .ok (.invokevirtual 97, 3) := by decide +kernel
theorem dX6_stopped_84 : decode cX6_stopped 84 = .ok (.iload_n 3, 1) := by decide +kernel
theorem dX6_stopped_85 : decode cX6_stopped 85 = .ok (.ireturn, 1) := by decide +kernel
set_option maxRecDepth 20000 in
theorem ggX6_free_X6_areYears : GoodIn wsX6_free wsX6_areYears := goodIn_r _ [4, 5, 6, 7, 3, 8] (by decide +kernel) (by decide +kernel)
set_option maxRecDepth 20000 in
theorem gX6_free_X6_areYears : GoodIn wsX6_free (va_wsS RX6 143 yX6_areYears wsX6_areYears) := goodIn_app (goodIn_of _ (by decide +kernel)) ggX6_free_X6_areYears
set_option maxRecDepth 20000 in
theorem ggX6_free_X6_copy : GoodIn wsX6_free wsX6_copy := goodIn_r _ [12, 13, 14, 63, 64, 65, 66, 67, 68, 69, 70, 71, 72, 73] (by decide +kernel) (by decide +kernel)
set_option maxRecDepth 20000 in
theorem gX6_free_X6_copy : GoodIn wsX6_free (wsV RX6 97 RX6 yX6_copy wsX6_copy) := goodIn_app (goodIn_of _ (by decide +kernel)) ggX6_free_X6_copy
set_option maxRecDepth 20000 in
theorem ggX6_free_X6_goYear : GoodIn wsX6_free wsX6_goYear := goodIn_r _ [18, 19, 20, 14, 21, 22, 13, 23, 24, 25, 3, 26, 27, 6, 7, 8, 28, 29, 30, 31, 32, 33, 34, 35, 36, 37, 38, 39, 40, 41, 42, 43, 44, 45, 46, 47, 48, 49, 63, 64, 65, 66, 67, 68, 69, 70, 71, 72, 73] (by decide +kernel) (by decide +kernel)
set_option maxRecDepth 20000 in
theorem gX6_free_X6_goYear : GoodIn wsX6_free (wsV RX6 134 RX6 yX6_goYear wsX6_goYear) := goodIn_app (goodIn_of _ (by decide +kernel)) ggX6_free_X6_goYear
set_option maxRecDepth 20000 in
theorem ggX6_free_X6_held : GoodIn wsX6_free wsX6_held := goodIn_r _ [53, 54, 55, 56, 3, 57, 13, 36, 37, 38, 39, 14, 40, 41, 21, 23, 24, 25, 26, 27, 6, 7, 8, 32, 33, 34, 35, 58, 59, 60, 61, 62, 42, 43, 44, 63, 64, 65, 66, 67, 68, 69, 70, 71, 72, 73] (by decide +kernel) (by decide +kernel)
set_option maxRecDepth 20000 in
theorem gX6_free_X6_held : GoodIn wsX6_free (wsV RX6 146 RX6 yX6_held wsX6_held) := goodIn_app (goodIn_of _ (by decide +kernel)) ggX6_free_X6_held
theorem dX6_free_0 : decode cX6_free 0 = .ok (.iload_n 1, 1) := by decide +kernel
theorem dX6_free_1 : decode cX6_free 1 = .ok (.invokestatic 143, 3) := by decide +kernel
theorem dX6_free_4 : decode cX6_free 4 = .ok (.ifCond .ne 5, 3) := by decide +kernel
theorem dX6_free_7 : decode cX6_free 7 = .ok (.iconst (-1), 1) := by decide +kernel
theorem dX6_free_8 : decode cX6_free 8 = .ok (.ireturn, 1) := by decide +kernel
theorem dX6_free_9 : decode cX6_free 9 = .ok (.aload_n 0, 1) := by decide +kernel
theorem dX6_free_10 : decode cX6_free 10 = .ok (.iconst 0, 1) := by decide +kernel
theorem dX6_free_11 : decode cX6_free 11 = .ok (.iconst 3, 1) := by decide +kernel
theorem dX6_free_12 : decode cX6_free 12 = .ok (.invokevirtual 97, 3) := by decide +kernel
theorem dX6_free_15 : decode cX6_free 15 = .ok (.bipush (-4), 2) := by decide +kernel
theorem dX6_free_17 : decode cX6_free 17 = .ok (.istore_n 2, 1) := by decide +kernel
theorem dX6_free_18 : decode cX6_free 18 = .ok (.iconst 1, 1) := by decide +kernel
theorem dX6_free_19 : decode cX6_free 19 = .ok (.istore_n 3, 1) := by decide +kernel
theorem dX6_free_20 : decode cX6_free 20 = .ok (.iload_n 3, 1) := by decide +kernel
theorem dX6_free_21 : decode cX6_free 21 = .ok (.iload_n 1, 1) := by decide +kernel
theorem dX6_free_22 : decode cX6_free 22 = .ok (.if_icmp .gt 33, 3) := by decide +kernel
theorem dX6_free_25 : decode cX6_free 25 = .ok (.iload_n 2, 1) := by decide +kernel
theorem dX6_free_26 : decode cX6_free 26 = .ok (.bipush (-4), 2) := by decide +kernel
theorem dX6_free_28 : decode cX6_free 28 = .ok (.if_icmp .ne 27, 3) := by decide +kernel
theorem dX6_free_31 : decode cX6_free 31 = .ok (.aload_n 0, 1) := by decide +kernel
theorem dX6_free_32 : decode cX6_free 32 = .ok (.invokevirtual 134, 3) := by decide +kernel
theorem dX6_free_35 : decode cX6_free 35 = .ok (.pop, 1) := by decide +kernel
theorem dX6_free_36 : decode cX6_free 36 = .ok (.aload_n 0, 1) := by decide +kernel
theorem dX6_free_37 : decode cX6_free 37 = .ok (.invokevirtual 146, 3) := by decide +kernel
theorem dX6_free_40 : decode cX6_free 40 = .ok (.ifCond .ne 7, 3) := by decide +kernel
theorem dX6_free_43 : decode cX6_free 43 = .ok (.iload_n 3, 1) := by decide +kernel
theorem dX6_free_44 : decode cX6_free 44 = .ok (.goto 4, 3) := by decide +kernel
theorem dX6_free_47 : decode cX6_free 47 = .ok (.iload_n 2, 1) := by decide +kernel
theorem dX6_free_48 : decode cX6_free 48 = .ok (.istore_n 2, 1) := by decide +kernel
theorem dX6_free_49 : decode cX6_free 49 = .ok (.iinc 3 1, 3) := by decide +kernel
theorem dX6_free_52 : decode cX6_free 52 = .ok (.goto (-32), 3) := by decide +kernel
theorem dX6_free_55 : decode cX6_free 55 = .ok (.aload_n 0, 1) := by decide +kernel
theorem dX6_free_56 : decode cX6_free 56 = .ok (.iconst 3, 1) := by decide +kernel
theorem dX6_free_57 : decode cX6_free 57 = .ok (.iconst 0, 1) := by decide +kernel
theorem dX6_free_58 : decode cX6_free 58 = .ok (.invokevirtual 97, 3) := by decide +kernel
theorem dX6_free_61 : decode cX6_free 61 = .ok (.iload_n 2, 1) := by decide +kernel
theorem dX6_free_62 : decode cX6_free 62 = .ok (.ireturn, 1) := by decide +kernel
set_option maxRecDepth 20000 in
theorem ggX6_ahead_X6_areYears : GoodIn wsX6_ahead wsX6_areYears := goodIn_r _ [4, 5, 6, 7, 3, 8] (by decide +kernel) (by decide +kernel)
set_option maxRecDepth 20000 in
theorem gX6_ahead_X6_areYears : GoodIn wsX6_ahead (va_wsS RX6 143 yX6_areYears wsX6_areYears) := goodIn_app (goodIn_of _ (by decide +kernel)) ggX6_ahead_X6_areYears
set_option maxRecDepth 20000 in
theorem ggX6_ahead_X6_copy : GoodIn wsX6_ahead wsX6_copy := goodIn_r _ [12, 13, 14, 50, 51, 52, 53, 54, 55, 56, 57, 58, 59, 60] (by decide +kernel) (by decide +kernel)
set_option maxRecDepth 20000 in
theorem gX6_ahead_X6_copy : GoodIn wsX6_ahead (wsV RX6 97 RX6 yX6_copy wsX6_copy) := goodIn_app (goodIn_of _ (by decide +kernel)) ggX6_ahead_X6_copy
set_option maxRecDepth 20000 in
theorem ggX6_ahead_X6_goYear : GoodIn wsX6_ahead wsX6_goYear := goodIn_r _ [18, 19, 20, 14, 21, 22, 13, 23, 24, 25, 3, 26, 27, 6, 7, 8, 28, 29, 30, 31, 32, 33, 34, 35, 36, 37, 38, 39, 40, 41, 42, 43, 44, 45, 46, 47, 48, 49, 50, 51, 52, 53, 54, 55, 56, 57, 58, 59, 60] (by decide +kernel) (by decide +kernel)
set_option maxRecDepth 20000 in
theorem gX6_ahead_X6_goYear : GoodIn wsX6_ahead (wsV RX6 134 RX6 yX6_goYear wsX6_goYear) := goodIn_app (goodIn_of _ (by decide +kernel)) ggX6_ahead_X6_goYear
set_option maxRecDepth 20000 in
theorem ggX6_ahead_X6_ratio : GoodIn wsX6_ahead wsX6_ratio := goodIn_r _ [39, 14, 40, 41, 21, 50, 51, 52, 53, 54, 55, 56, 57, 58, 59, 60] (by decide +kernel) (by decide +kernel)
set_option maxRecDepth 20000 in
theorem gX6_ahead_X6_ratio : GoodIn wsX6_ahead (wsV RX6 111 RX6 yX6_ratio wsX6_ratio) := goodIn_app (goodIn_of _ (by decide +kernel)) ggX6_ahead_X6_ratio
theorem dX6_ahead_0 : decode cX6_ahead 0 = .ok (.iload_n 1, 1) := by decide +kernel
theorem dX6_ahead_1 : decode cX6_ahead 1 = .ok (.invokestatic 143, 3) := by decide +kernel
theorem dX6_ahead_4 : decode cX6_ahead 4 = .ok (.ifCond .ne 5, 3) := by decide +kernel
theorem dX6_ahead_7 : decode cX6_ahead 7 = .ok (.iconst (-1), 1) := by decide +kernel
theorem dX6_ahead_8 : decode cX6_ahead 8 = .ok (.ireturn, 1) := by decide +kernel
theorem dX6_ahead_9 : decode cX6_ahead 9 = .ok (.aload_n 0, 1) := by decide +kernel
theorem dX6_ahead_10 : decode cX6_ahead 10 = .ok (.iconst 0, 1) := by decide +kernel
theorem dX6_ahead_11 : decode cX6_ahead 11 = .ok (.iconst 3, 1) := by decide +kernel
theorem dX6_ahead_12 : decode cX6_ahead 12 = .ok (.invokevirtual 97, 3) := by decide +kernel
theorem dX6_ahead_15 : decode cX6_ahead 15 = .ok (.iconst 0, 1) := by decide +kernel
theorem dX6_ahead_16 : decode cX6_ahead 16 = .ok (.istore_n 2, 1) := by decide +kernel
theorem dX6_ahead_17 : decode cX6_ahead 17 = .ok (.iload_n 2, 1) := by decide +kernel
theorem dX6_ahead_18 : decode cX6_ahead 18 = .ok (.iload_n 1, 1) := by decide +kernel
theorem dX6_ahead_19 : decode cX6_ahead 19 = .ok (.if_icmp .ge 14, 3) := by decide +kernel
theorem dX6_ahead_22 : decode cX6_ahead 22 = .ok (.aload_n 0, 1) := by decide +kernel
theorem dX6_ahead_23 : decode cX6_ahead 23 = .ok (.invokevirtual 134, 3) := by decide +kernel
theorem dX6_ahead_26 : decode cX6_ahead 26 = .ok (.pop, 1) := by decide +kernel
theorem dX6_ahead_27 : decode cX6_ahead 27 = .ok (.iinc 2 1, 3) := by decide +kernel
theorem dX6_ahead_30 : decode cX6_ahead 30 = .ok (.goto (-13), 3) := by decide +kernel
theorem dX6_ahead_33 : decode cX6_ahead 33 = .ok (.aload_n 0, 1) := by decide +kernel
theorem dX6_ahead_34 : decode cX6_ahead 34 = .ok (.invokevirtual 111, 3) := by decide +kernel
theorem dX6_ahead_37 : decode cX6_ahead 37 = .ok (.l2i, 1) := by decide +kernel
theorem dX6_ahead_38 : decode cX6_ahead 38 = .ok (.istore_n 2, 1) := by decide +kernel
theorem dX6_ahead_39 : decode cX6_ahead 39 = .ok (.aload_n 0, 1) := by decide +kernel
theorem dX6_ahead_40 : decode cX6_ahead 40 = .ok (.iconst 3, 1) := by decide +kernel
theorem dX6_ahead_41 : decode cX6_ahead 41 = .ok (.iconst 0, 1) := by decide +kernel
theorem dX6_ahead_42 : decode cX6_ahead 42 = .ok (.invokevirtual 97, 3) := by decide +kernel
theorem dX6_ahead_45 : decode cX6_ahead 45 = .ok (.iload_n 2, 1) := by decide +kernel
theorem dX6_ahead_46 : decode cX6_ahead 46 = .ok (.ireturn, 1) := by decide +kernel
set_option maxRecDepth 20000 in
theorem ggX6_debt_X6_isRealm : GoodIn wsX6_debt wsX6_isRealm := goodIn_r _ [7, 8, 2, 9, 10, 6, 11, 24, 25, 26, 27, 28, 29, 30, 31, 32, 33, 34] (by decide +kernel) (by decide +kernel)
set_option maxRecDepth 20000 in
theorem gX6_debt_X6_isRealm : GoodIn wsX6_debt (wsV RX6 91 RX6 yX6_isRealm wsX6_isRealm) := goodIn_app (goodIn_of _ (by decide +kernel)) ggX6_debt_X6_isRealm
set_option maxRecDepth 20000 in
theorem ggX6_debt_X6_in : GoodIn wsX6_debt wsX6_in := goodIn_r _ [11] (by decide +kernel) (by decide +kernel)
set_option maxRecDepth 20000 in
theorem gX6_debt_X6_in : GoodIn wsX6_debt (va_wsS RX6 43 yX6_in wsX6_in) := goodIn_app (goodIn_of _ (by decide +kernel)) ggX6_debt_X6_in
set_option maxRecDepth 20000 in
theorem ggX6_debt_X6_mints : GoodIn wsX6_debt wsX6_mints := goodIn_r _ [15, 2, 24, 25, 26, 27, 28, 29, 30, 31, 32, 33, 34] (by decide +kernel) (by decide +kernel)
set_option maxRecDepth 20000 in
theorem gX6_debt_X6_mints : GoodIn wsX6_debt (wsV RX6 94 RX6 yX6_mints wsX6_mints) := goodIn_app (goodIn_of _ (by decide +kernel)) ggX6_debt_X6_mints
set_option maxRecDepth 20000 in
theorem ggX6_debt_X6_ratio : GoodIn wsX6_debt wsX6_ratio := goodIn_r _ [19, 20, 21, 22, 23, 24, 25, 26, 27, 28, 29, 30, 31, 32, 33, 34] (by decide +kernel) (by decide +kernel)
set_option maxRecDepth 20000 in
theorem gX6_debt_X6_ratio : GoodIn wsX6_debt (wsV RX6 111 RX6 yX6_ratio wsX6_ratio) := goodIn_app (goodIn_of _ (by decide +kernel)) ggX6_debt_X6_ratio
theorem dX6_debt_0 : decode cX6_debt 0 = .ok (.aload_n 0, 1) := by decide +kernel
theorem dX6_debt_1 : decode cX6_debt 1 = .ok (.iload_n 1, 1) := by decide +kernel
theorem dX6_debt_2 : decode cX6_debt 2 = .ok (.invokevirtual 91, 3) := by decide +kernel
theorem dX6_debt_5 : decode cX6_debt 5 = .ok (.ifCond .eq 25, 3) := by decide +kernel
theorem dX6_debt_8 : decode cX6_debt 8 = .ok (.iload_n 2, 1) := by decide +kernel
theorem dX6_debt_9 : decode cX6_debt 9 = .ok (.i2l, 1) := by decide +kernel
theorem dX6_debt_10 : decode cX6_debt 10 = .ok (.lconst 1, 1) := by decide +kernel
theorem dX6_debt_11 : decode cX6_debt 11 = .ok (.ldc2_w 149, 3) := by decide +kernel
theorem dX6_debt_14 : decode cX6_debt 14 = .ok (.invokestatic 43, 3) := by decide +kernel
theorem dX6_debt_17 : decode cX6_debt 17 = .ok (.ifCond .eq 13, 3) := by decide +kernel
theorem dX6_debt_20 : decode cX6_debt 20 = .ok (.iload_n 3, 1) := by decide +kernel
theorem dX6_debt_21 : decode cX6_debt 21 = .ok (.i2l, 1) := by decide +kernel
theorem dX6_debt_22 : decode cX6_debt 22 = .ok (.lconst 0, 1) := by decide +kernel
