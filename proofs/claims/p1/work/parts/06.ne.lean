theorem dX10_init_0 : decode cX10_init 0 = .ok (.aload_n 0, 1) := by decide +kernel
theorem dX10_init_1 : decode cX10_init 1 = .ok (.invokespecial 1, 3) := by decide +kernel
theorem dX10_init_4 : decode cX10_init 4 = .ok (.aload_n 0, 1) := by decide +kernel
theorem dX10_init_5 : decode cX10_init 5 = .ok (.bipush 6, 2) := by decide +kernel
theorem dX10_init_7 : decode cX10_init 7 = .ok (.newarray .int, 2) := by decide +kernel
theorem dX10_init_9 : decode cX10_init 9 = .ok (.putfield 7, 3) := by decide +kernel
theorem dX10_init_12 : decode cX10_init 12 = .ok (.aload_n 0, 1) := by decide +kernel
theorem dX10_init_13 : decode cX10_init 13 = .ok (.sipush 300, 3) := by decide +kernel
theorem dX10_init_16 : decode cX10_init 16 = .ok (.newarray .int, 2) := by decide +kernel
theorem dX10_init_18 : decode cX10_init 18 = .ok (.putfield 13, 3) := by decide +kernel
theorem dX10_init_21 : decode cX10_init 21 = .ok (.aload_n 0, 1) := by decide +kernel
theorem dX10_init_22 : decode cX10_init 22 = .ok (.sipush 480, 3) := by decide +kernel
theorem dX10_init_25 : decode cX10_init 25 = .ok (.newarray .int, 2) := by decide +kernel
theorem dX10_init_27 : decode cX10_init 27 = .ok (.putfield 16, 3) := by decide +kernel
theorem dX10_init_30 : decode cX10_init 30 = .ok (.aload_n 0, 1) := by decide +kernel
theorem dX10_init_31 : decode cX10_init 31 = .ok (.sipush 600, 3) := by decide +kernel
theorem dX10_init_34 : decode cX10_init 34 = .ok (.newarray .int, 2) := by decide +kernel
theorem dX10_init_36 : decode cX10_init 36 = .ok (.putfield 19, 3) := by decide +kernel
theorem dX10_init_39 : decode cX10_init 39 = .ok (.aload_n 0, 1) := by decide +kernel
theorem dX10_init_40 : decode cX10_init 40 = .ok (.bipush 80, 2) := by decide +kernel
theorem dX10_init_42 : decode cX10_init 42 = .ok (.newarray .int, 2) := by decide +kernel
theorem dX10_init_44 : decode cX10_init 44 = .ok (.putfield 22, 3) := by decide +kernel
theorem dX10_init_47 : decode cX10_init 47 = .ok (.aload_n 0, 1) := by decide +kernel
theorem dX10_init_48 : decode cX10_init 48 = .ok (.bipush 80, 2) := by decide +kernel
theorem dX10_init_50 : decode cX10_init 50 = .ok (.newarray .int, 2) := by decide +kernel
theorem dX10_init_52 : decode cX10_init 52 = .ok (.putfield 25, 3) := by decide +kernel
theorem dX10_init_55 : decode cX10_init 55 = .ok (.aload_n 0, 1) := by decide +kernel
theorem dX10_init_56 : decode cX10_init 56 = .ok (.bipush 8, 2) := by decide +kernel
theorem dX10_init_58 : decode cX10_init 58 = .ok (.newarray .int, 2) := by decide +kernel
theorem dX10_init_60 : decode cX10_init 60 = .ok (.putfield 28, 3) := by decide +kernel
theorem dX10_init_63 : decode cX10_init 63 = .ok (.aload_n 0, 1) := by decide +kernel
theorem dX10_init_64 : decode cX10_init 64 = .ok (.bipush 8, 2) := by decide +kernel
theorem dX10_init_66 : decode cX10_init 66 = .ok (.newarray .int, 2) := by decide +kernel
theorem dX10_init_68 : decode cX10_init 68 = .ok (.putfield 31, 3) := by decide +kernel
theorem dX10_init_71 : decode cX10_init 71 = .ok (.aload_n 0, 1) := by decide +kernel
theorem dX10_init_72 : decode cX10_init 72 = .ok (.bipush 8, 2) := by decide +kernel
theorem dX10_init_74 : decode cX10_init 74 = .ok (.newarray .int, 2) := by decide +kernel
theorem dX10_init_76 : decode cX10_init 76 = .ok (.putfield 34, 3) := by decide +kernel
theorem dX10_init_79 : decode cX10_init 79 = .ok (.aload_n 0, 1) := by decide +kernel
theorem dX10_init_80 : decode cX10_init 80 = .ok (.bipush 8, 2) := by decide +kernel
theorem dX10_init_82 : decode cX10_init 82 = .ok (.newarray .int, 2) := by decide +kernel
theorem dX10_init_84 : decode cX10_init 84 = .ok (.putfield 37, 3) := by decide +kernel
theorem dX10_init_87 : decode cX10_init 87 = .ok (.aload_n 0, 1) := by decide +kernel
theorem dX10_init_88 : decode cX10_init 88 = .ok (.bipush 8, 2) := by decide +kernel
theorem dX10_init_90 : decode cX10_init 90 = .ok (.newarray .int, 2) := by decide +kernel
theorem dX10_init_92 : decode cX10_init 92 = .ok (.putfield 40, 3) := by decide +kernel
theorem dX10_init_95 : decode cX10_init 95 = .ok (.aload_n 0, 1) := by decide +kernel
theorem dX10_init_96 : decode cX10_init 96 = .ok (.bipush 6, 2) := by decide +kernel
theorem dX10_init_98 : decode cX10_init 98 = .ok (.newarray .int, 2) := by decide +kernel
theorem dX10_init_100 : decode cX10_init 100 = .ok (.putfield 43, 3) := by decide +kernel
theorem dX10_init_103 : decode cX10_init 103 = .ok (.aload_n 0, 1) := by decide +kernel
theorem dX10_init_104 : decode cX10_init 104 = .ok (.bipush 20, 2) := by decide +kernel
theorem dX10_init_106 : decode cX10_init 106 = .ok (.newarray .int, 2) := by decide +kernel
theorem dX10_init_108 : decode cX10_init 108 = .ok (.putfield 46, 3) := by decide +kernel
theorem dX10_init_111 : decode cX10_init 111 = .ok (.aload_n 0, 1) := by decide +kernel
theorem dX10_init_112 : decode cX10_init 112 = .ok (.bipush 20, 2) := by decide +kernel
theorem dX10_init_114 : decode cX10_init 114 = .ok (.newarray .int, 2) := by decide +kernel
theorem dX10_init_116 : decode cX10_init 116 = .ok (.putfield 49, 3) := by decide +kernel
theorem dX10_init_119 : decode cX10_init 119 = .ok (.aload_n 0, 1) := by decide +kernel
theorem dX10_init_120 : decode cX10_init 120 = .ok (.bipush 20, 2) := by decide +kernel
theorem dX10_init_122 : decode cX10_init 122 = .ok (.newarray .int, 2) := by decide +kernel
theorem dX10_init_124 : decode cX10_init 124 = .ok (.putfield 52, 3) := by decide +kernel
theorem dX10_init_127 : decode cX10_init 127 = .ok (.aload_n 0, 1) := by decide +kernel
theorem dX10_init_128 : decode cX10_init 128 = .ok (.bipush 20, 2) := by decide +kernel
theorem dX10_init_130 : decode cX10_init 130 = .ok (.newarray .int, 2) := by decide +kernel
theorem dX10_init_132 : decode cX10_init 132 = .ok (.putfield 55, 3) := by decide +kernel
theorem dX10_init_135 : decode cX10_init 135 = .ok (.aload_n 0, 1) := by decide +kernel
theorem dX10_init_136 : decode cX10_init 136 = .ok (.sipush 24576, 3) := by decide +kernel
theorem dX10_init_139 : decode cX10_init 139 = .ok (.newarray .long, 2) := by decide +kernel
theorem dX10_init_141 : decode cX10_init 141 = .ok (.putfield 58, 3) := by decide +kernel
theorem dX10_init_144 : decode cX10_init 144 = .ok (.aload_n 0, 1) := by decide +kernel
theorem dX10_init_145 : decode cX10_init 145 = .ok (.sipush 4096, 3) := by decide +kernel
theorem dX10_init_148 : decode cX10_init 148 = .ok (.newarray .int, 2) := by decide +kernel
theorem dX10_init_150 : decode cX10_init 150 = .ok (.putfield 62, 3) := by decide +kernel
theorem dX10_init_153 : decode cX10_init 153 = .ok (.aload_n 0, 1) := by decide +kernel
theorem dX10_init_154 : decode cX10_init 154 = .ok (.sipush 4096, 3) := by decide +kernel
theorem dX10_init_157 : decode cX10_init 157 = .ok (.newarray .int, 2) := by decide +kernel
theorem dX10_init_159 : decode cX10_init 159 = .ok (.putfield 65, 3) := by decide +kernel
theorem dX10_init_162 : decode cX10_init 162 = .ok (.aload_n 0, 1) := by decide +kernel
theorem dX10_init_163 : decode cX10_init 163 = .ok (.sipush 8192, 3) := by decide +kernel
theorem dX10_init_166 : decode cX10_init 166 = .ok (.newarray .int, 2) := by decide +kernel
theorem dX10_init_168 : decode cX10_init 168 = .ok (.putfield 68, 3) := by decide +kernel
theorem dX10_init_171 : decode cX10_init 171 = .ok (.aload_n 0, 1) := by decide +kernel
theorem dX10_init_172 : decode cX10_init 172 = .ok (.sipush 4096, 3) := by decide +kernel
theorem dX10_init_175 : decode cX10_init 175 = .ok (.newarray .int, 2) := by decide +kernel
theorem dX10_init_177 : decode cX10_init 177 = .ok (.putfield 71, 3) := by decide +kernel
theorem dX10_init_180 : decode cX10_init 180 = .ok (.aload_n 0, 1) := by decide +kernel
theorem dX10_init_181 : decode cX10_init 181 = .ok (.bipush 6, 2) := by decide +kernel
theorem dX10_init_183 : decode cX10_init 183 = .ok (.newarray .long, 2) := by decide +kernel
theorem dX10_init_185 : decode cX10_init 185 = .ok (.putfield 74, 3) := by decide +kernel
theorem dX10_init_188 : decode cX10_init 188 = .ok (.aload_n 0, 1) := by decide +kernel
theorem dX10_init_189 : decode cX10_init 189 = .ok (.bipush 6, 2) := by decide +kernel
theorem dX10_init_191 : decode cX10_init 191 = .ok (.newarray .int, 2) := by decide +kernel
theorem dX10_init_193 : decode cX10_init 193 = .ok (.putfield 77, 3) := by decide +kernel
theorem dX10_init_196 : decode cX10_init 196 = .ok (.return_, 1) := by decide +kernel
theorem dX10_in_0 : decode cX10_in 0 = .ok (.iload_n 0, 1) := by decide +kernel
theorem dX10_in_1 : decode cX10_in 1 = .ok (.iload_n 1, 1) := by decide +kernel
theorem dX10_in_2 : decode cX10_in 2 = .ok (.if_icmp .lt 12, 3) := by decide +kernel
theorem dX10_in_5 : decode cX10_in 5 = .ok (.iload_n 0, 1) := by decide +kernel
theorem dX10_in_6 : decode cX10_in 6 = .ok (.iload_n 2, 1) := by decide +kernel
theorem dX10_in_7 : decode cX10_in 7 = .ok (.if_icmp .gt 7, 3) := by decide +kernel
theorem dX10_in_10 : decode cX10_in 10 = .ok (.iconst 1, 1) := by decide +kernel
theorem dX10_in_11 : decode cX10_in 11 = .ok (.goto 4, 3) := by decide +kernel
theorem dX10_in_14 : decode cX10_in 14 = .ok (.iconst 0, 1) := by decide +kernel
theorem dX10_in_15 : decode cX10_in 15 = .ok (.ireturn, 1) := by decide +kernel
theorem dX10_isWithin_0 : decode cX10_isWithin 0 = .ok (.iload_n 0, 1) := by decide +kernel
theorem dX10_isWithin_1 : decode cX10_isWithin 1 = .ok (.iload_n 1, 1) := by decide +kernel
theorem dX10_isWithin_2 : decode cX10_isWithin 2 = .ok (.iconst (-1), 1) := by decide +kernel
theorem dX10_isWithin_3 : decode cX10_isWithin 3 = .ok (.ixor, 1) := by decide +kernel
theorem dX10_isWithin_4 : decode cX10_isWithin 4 = .ok (.iand, 1) := by decide +kernel
theorem dX10_isWithin_5 : decode cX10_isWithin 5 = .ok (.ifCond .ne 7, 3) := by decide +kernel
theorem dX10_isWithin_8 : decode cX10_isWithin 8 = .ok (.iconst 1, 1) := by decide +kernel
theorem dX10_isWithin_9 : decode cX10_isWithin 9 = .ok (.goto 4, 3) := by decide +kernel
theorem dX10_isWithin_13 : decode cX10_isWithin 13 = .ok (.ireturn, 1) := by decide +kernel
set_option maxRecDepth 20000 in
theorem ggX10_level_X10_in : GoodIn wsX10_level wsX10_in := goodIn_r _ [6] rfl (by decide +kernel)
set_option maxRecDepth 20000 in
theorem gX10_level_X10_in : GoodIn wsX10_level (va_wsS RX10 84 yX10_in wsX10_in) := goodIn_app (goodIn_of _ (by decide +kernel)) ggX10_level_X10_in
theorem dX10_level_0 : decode cX10_level 0 = .ok (.aload_n 0, 1) := by decide +kernel
theorem dX10_level_1 : decode cX10_level 1 = .ok (.iconst 0, 1) := by decide +kernel
theorem dX10_level_2 : decode cX10_level 2 = .ok (.putfield 80, 3) := by decide +kernel
theorem dX10_level_5 : decode cX10_level 5 = .ok (.iload_n 1, 1) := by decide +kernel
theorem dX10_level_6 : decode cX10_level 6 = .ok (.iconst 0, 1) := by decide +kernel
theorem dX10_level_7 : decode cX10_level 7 = .ok (.iconst 5, 1) := by decide +kernel
theorem dX10_level_8 : decode cX10_level 8 = .ok (.invokestatic 84, 3) := by decide +kernel
theorem dX10_level_11 : decode cX10_level 11 = .ok (.ifCond .eq 12, 3) := by decide +kernel
theorem dX10_level_14 : decode cX10_level 14 = .ok (.iload_n 2, 1) := by decide +kernel
theorem dX10_level_15 : decode cX10_level 15 = .ok (.iconst 0, 1) := by decide +kernel
theorem dX10_level_16 : decode cX10_level 16 = .ok (.iconst 3, 1) := by decide +kernel
theorem dX10_level_17 : decode cX10_level 17 = .ok (.invokestatic 84, 3) := by decide +kernel
theorem dX10_level_20 : decode cX10_level 20 = .ok (.ifCond .ne 5, 3) := by decide +kernel
theorem dX10_level_23 : decode cX10_level 23 = .ok (.iconst (-1), 1) := by decide +kernel
theorem dX10_level_24 : decode cX10_level 24 = .ok (.ireturn, 1) := by decide +kernel
theorem dX10_level_25 : decode cX10_level 25 = .ok (.aload_n 0, 1) := by decide +kernel
theorem dX10_level_26 : decode cX10_level 26 = .ok (.getfield 7, 3) := by decide +kernel
theorem dX10_level_29 : decode cX10_level 29 = .ok (.iload_n 1, 1) := by decide +kernel
theorem dX10_level_30 : decode cX10_level 30 = .ok (.iaload, 1) := by decide +kernel
theorem dX10_level_31 : decode cX10_level 31 = .ok (.istore_n 3, 1) := by decide +kernel
theorem dX10_level_32 : decode cX10_level 32 = .ok (.aload_n 0, 1) := by decide +kernel
theorem dX10_level_33 : decode cX10_level 33 = .ok (.getfield 7, 3) := by decide +kernel
theorem dX10_level_36 : decode cX10_level 36 = .ok (.iload_n 1, 1) := by decide +kernel
theorem dX10_level_37 : decode cX10_level 37 = .ok (.iload_n 2, 1) := by decide +kernel
theorem dX10_level_38 : decode cX10_level 38 = .ok (.iastore, 1) := by decide +kernel
theorem dX10_level_39 : decode cX10_level 39 = .ok (.iload_n 3, 1) := by decide +kernel
theorem dX10_level_40 : decode cX10_level 40 = .ok (.ireturn, 1) := by decide +kernel
set_option maxRecDepth 20000 in
theorem ggX10_type_X10_in : GoodIn wsX10_type wsX10_in := goodIn_r _ [8] rfl (by decide +kernel)
set_option maxRecDepth 20000 in
theorem gX10_type_X10_in : GoodIn wsX10_type (va_wsS RX10 84 yX10_in wsX10_in) := goodIn_app (goodIn_of _ (by decide +kernel)) ggX10_type_X10_in
theorem dX10_type_0 : decode cX10_type 0 = .ok (.aload_n 0, 1) := by decide +kernel
theorem dX10_type_1 : decode cX10_type 1 = .ok (.iconst 0, 1) := by decide +kernel
theorem dX10_type_2 : decode cX10_type 2 = .ok (.putfield 80, 3) := by decide +kernel
theorem dX10_type_5 : decode cX10_type 5 = .ok (.iload_n 3, 1) := by decide +kernel
theorem dX10_type_6 : decode cX10_type 6 = .ok (.iconst 1, 1) := by decide +kernel
theorem dX10_type_7 : decode cX10_type 7 = .ok (.bipush 8, 2) := by decide +kernel
theorem dX10_type_9 : decode cX10_type 9 = .ok (.invokestatic 84, 3) := by decide +kernel
theorem dX10_type_12 : decode cX10_type 12 = .ok (.ifCond .ne 5, 3) := by decide +kernel
theorem dX10_type_15 : decode cX10_type 15 = .ok (.iconst (-1), 1) := by decide +kernel
theorem dX10_type_16 : decode cX10_type 16 = .ok (.ireturn, 1) := by decide +kernel
theorem dX10_type_17 : decode cX10_type 17 = .ok (.aload_n 0, 1) := by decide +kernel
theorem dX10_type_18 : decode cX10_type 18 = .ok (.getfield 88, 3) := by decide +kernel
theorem dX10_type_21 : decode cX10_type 21 = .ok (.iload_n 3, 1) := by decide +kernel
theorem dX10_type_22 : decode cX10_type 22 = .ok (.iadd, 1) := by decide +kernel
theorem dX10_type_23 : decode cX10_type 23 = .ok (.sipush 300, 3) := by decide +kernel
theorem dX10_type_26 : decode cX10_type 26 = .ok (.if_icmp .le 6, 3) := by decide +kernel
theorem dX10_type_32 : decode cX10_type 32 = .ok (.iload_n 3, 1) := by decide +kernel
theorem dX10_type_33 : decode cX10_type 33 = .ok (.iconst 1, 1) := by decide +kernel
theorem dX10_type_34 : decode cX10_type 34 = .ok (.isub, 1) := by decide +kernel
theorem dX10_type_35 : decode cX10_type 35 = .ok (.istore 4, 2) := by decide +kernel
theorem dX10_type_37 : decode cX10_type 37 = .ok (.iload 4, 2) := by decide +kernel
theorem dX10_type_39 : decode cX10_type 39 = .ok (.ifCond .lt 40, 3) := by decide +kernel
theorem dX10_type_42 : decode cX10_type 42 = .ok (.aload_n 0, 1) := by decide +kernel
theorem dX10_type_43 : decode cX10_type 43 = .ok (.getfield 13, 3) := by decide +kernel
theorem dX10_type_46 : decode cX10_type 46 = .ok (.aload_n 0, 1) := by decide +kernel
theorem dX10_type_47 : decode cX10_type 47 = .ok (.getfield 88, 3) := by decide +kernel
theorem dX10_type_50 : decode cX10_type 50 = .ok (.lload_n 1, 1) := by decide +kernel
theorem dX10_type_51 : decode cX10_type 51 = .ok (.bipush 8, 2) := by decide +kernel
theorem dX10_type_53 : decode cX10_type 53 = .ok (.iload 4, 2) := by decide +kernel
theorem dX10_type_55 : decode cX10_type 55 = .ok (.imul, 1) := by decide +kernel
theorem dX10_type_56 : decode cX10_type 56 = .ok (.lshr, 1) := by decide +kernel
theorem dX10_type_57 : decode cX10_type 57 = .ok (.ldc2_w 91, 3) := by decide +kernel
theorem dX10_type_60 : decode cX10_type 60 = .ok (.land, 1) := by decide +kernel
theorem dX10_type_61 : decode cX10_type 61 = .ok (.l2i, 1) := by decide +kernel
theorem dX10_type_62 : decode cX10_type 62 = .ok (.iastore, 1) := by decide +kernel
theorem dX10_type_63 : decode cX10_type 63 = .ok (.aload_n 0, 1) := by decide +kernel
theorem dX10_type_64 : decode cX10_type 64 = .ok (.dup, 1) := by decide +kernel
theorem dX10_type_65 : decode cX10_type 65 = .ok (.getfield 88, 3) := by decide +kernel
theorem dX10_type_68 : decode cX10_type 68 = .ok (.iconst 1, 1) := by decide +kernel
theorem dX10_type_69 : decode cX10_type 69 = .ok (.iadd, 1) := by decide +kernel
theorem dX10_type_70 : decode cX10_type 70 = .ok (.putfield 88, 3) := by decide +kernel
theorem dX10_type_73 : decode cX10_type 73 = .ok (.iinc 4 (-1), 3) := by decide +kernel
theorem dX10_type_76 : decode cX10_type 76 = .ok (.goto (-39), 3) := by decide +kernel
theorem dX10_type_79 : decode cX10_type 79 = .ok (.aload_n 0, 1) := by decide +kernel
theorem dX10_type_80 : decode cX10_type 80 = .ok (.getfield 88, 3) := by decide +kernel
theorem dX10_type_83 : decode cX10_type 83 = .ok (.ireturn, 1) := by decide +kernel
theorem dX10_clear_0 : decode cX10_clear 0 = .ok (.aload_n 0, 1) := by decide +kernel
theorem dX10_clear_1 : decode cX10_clear 1 = .ok (.iconst 0, 1) := by decide +kernel
theorem dX10_clear_2 : decode cX10_clear 2 = .ok (.putfield 80, 3) := by decide +kernel
theorem dX10_clear_5 : decode cX10_clear 5 = .ok (.aload_n 0, 1) := by decide +kernel
theorem dX10_clear_6 : decode cX10_clear 6 = .ok (.getfield 88, 3) := by decide +kernel
theorem dX10_clear_9 : decode cX10_clear 9 = .ok (.istore_n 1, 1) := by decide +kernel
theorem dX10_clear_10 : decode cX10_clear 10 = .ok (.aload_n 0, 1) := by decide +kernel
theorem dX10_clear_11 : decode cX10_clear 11 = .ok (.iconst 0, 1) := by decide +kernel
theorem dX10_clear_12 : decode cX10_clear 12 = .ok (.putfield 88, 3) := by decide +kernel
theorem dX10_clear_15 : decode cX10_clear 15 = .ok (.iload_n 1, 1) := by decide +kernel
theorem dX10_clear_16 : decode cX10_clear 16 = .ok (.ireturn, 1) := by decide +kernel
theorem dX10_byteAt_0 : decode cX10_byteAt 0 = .ok (.iload_n 1, 1) := by decide +kernel
theorem dX10_byteAt_1 : decode cX10_byteAt 1 = .ok (.aload_n 0, 1) := by decide +kernel
theorem dX10_byteAt_2 : decode cX10_byteAt 2 = .ok (.getfield 88, 3) := by decide +kernel
theorem dX10_byteAt_5 : decode cX10_byteAt 5 = .ok (.if_icmp .ge 12, 3) := by decide +kernel
theorem dX10_byteAt_17 : decode cX10_byteAt 17 = .ok (.iconst (-1), 1) := by decide +kernel
theorem dX10_byteAt_18 : decode cX10_byteAt 18 = .ok (.ireturn, 1) := by decide +kernel
set_option maxRecDepth 20000 in
theorem ggX10_advances_X10_byteAt : GoodIn wsX10_advances wsX10_byteAt := goodIn_r _ [9, 10, 11, 22, 23, 24, 25, 26, 27, 28, 29, 30, 31, 32, 33, 34, 35, 36, 37, 38, 39, 40, 41, 42, 43, 44, 45, 46, 47, 48, 49, 50, 51, 52, 53, 54, 55, 56, 57, 58, 59, 60, 61] rfl (by decide +kernel)
set_option maxRecDepth 20000 in
theorem gX10_advances_X10_byteAt : GoodIn wsX10_advances (wsV RX10 102 RX10 yX10_byteAt wsX10_byteAt) := goodIn_app (goodIn_of _ (by decide +kernel)) ggX10_advances_X10_byteAt
theorem dX10_advances_0 : decode cX10_advances 0 = .ok (.aload_n 0, 1) := by decide +kernel
theorem dX10_advances_1 : decode cX10_advances 1 = .ok (.aload_n 0, 1) := by decide +kernel
theorem dX10_advances_2 : decode cX10_advances 2 = .ok (.getfield 99, 3) := by decide +kernel
theorem dX10_advances_5 : decode cX10_advances 5 = .ok (.invokevirtual 102, 3) := by decide +kernel
theorem dX10_advances_8 : decode cX10_advances 8 = .ok (.bipush 32, 2) := by decide +kernel
theorem dX10_advances_10 : decode cX10_advances 10 = .ok (.if_icmp .ne 16, 3) := by decide +kernel
theorem dX10_advances_26 : decode cX10_advances 26 = .ok (.aload_n 0, 1) := by decide +kernel
theorem dX10_advances_27 : decode cX10_advances 27 = .ok (.aload_n 0, 1) := by decide +kernel
theorem dX10_advances_28 : decode cX10_advances 28 = .ok (.getfield 99, 3) := by decide +kernel
theorem dX10_advances_31 : decode cX10_advances 31 = .ok (.putfield 106, 3) := by decide +kernel
theorem dX10_advances_34 : decode cX10_advances 34 = .ok (.aload_n 0, 1) := by decide +kernel
theorem dX10_advances_35 : decode cX10_advances 35 = .ok (.aload_n 0, 1) := by decide +kernel
theorem dX10_advances_36 : decode cX10_advances 36 = .ok (.getfield 99, 3) := by decide +kernel
theorem dX10_advances_39 : decode cX10_advances 39 = .ok (.invokevirtual 102, 3) := by decide +kernel
theorem dX10_advances_42 : decode cX10_advances 42 = .ok (.istore_n 1, 1) := by decide +kernel
theorem dX10_advances_43 : decode cX10_advances 43 = .ok (.iload_n 1, 1) := by decide +kernel
theorem dX10_advances_44 : decode cX10_advances 44 = .ok (.ifCond .ge 11, 3) := by decide +kernel
theorem dX10_advances_47 : decode cX10_advances 47 = .ok (.aload_n 0, 1) := by decide +kernel
theorem dX10_advances_48 : decode cX10_advances 48 = .ok (.iconst 0, 1) := by decide +kernel
theorem dX10_advances_49 : decode cX10_advances 49 = .ok (.putfield 109, 3) := by decide +kernel
theorem dX10_advances_52 : decode cX10_advances 52 = .ok (.goto 379, 3) := by decide +kernel
theorem dX10_advances_431 : decode cX10_advances 431 = .ok (.return_, 1) := by decide +kernel
theorem dX10_isWell_0 : decode cX10_isWell 0 = .ok (.aload_n 0, 1) := by decide +kernel
theorem dX10_isWell_1 : decode cX10_isWell 1 = .ok (.getfield 119, 3) := by decide +kernel
theorem dX10_isWell_4 : decode cX10_isWell 4 = .ok (.ifCond .ge 7, 3) := by decide +kernel
theorem dX10_isWell_7 : decode cX10_isWell 7 = .ok (.iconst 1, 1) := by decide +kernel
theorem dX10_isWell_8 : decode cX10_isWell 8 = .ok (.goto 4, 3) := by decide +kernel
theorem dX10_isWell_12 : decode cX10_isWell 12 = .ok (.ireturn, 1) := by decide +kernel
set_option maxRecDepth 20000 in
theorem ggX10_read_X10_advances : GoodIn wsX10_read wsX10_advances := goodIn_r _ [18, 3, 19, 6, 7, 20, 21, 22, 17, 23, 13, 24, 25, 26, 27, 28, 29, 30, 31, 32, 33, 34, 79, 80, 81, 82, 83, 84, 85, 86, 87, 88, 89, 90, 91, 92, 93, 94, 95, 96, 97, 98, 99, 100, 101, 102, 103, 104, 105, 106, 107, 108, 109, 110, 111, 112, 113, 114, 115, 116, 117, 118] rfl (by decide +kernel)
set_option maxRecDepth 20000 in
theorem gX10_read_X10_advances : GoodIn wsX10_read (wsV RX10 130 RX10 yX10_advances wsX10_advances) := goodIn_app (goodIn_of _ (by decide +kernel)) ggX10_read_X10_advances
set_option maxRecDepth 20000 in
theorem ggX10_read_X10_isWell : GoodIn wsX10_read wsX10_isWell := goodIn_r _ [38, 2, 79, 80, 81, 82, 83, 84, 85, 86, 87, 88, 89, 90, 91, 92, 93, 94, 95, 96, 97, 98, 99, 100, 101, 102, 103, 104, 105, 106, 107, 108, 109, 110, 111, 112, 113, 114, 115, 116, 117, 118] rfl (by decide +kernel)
set_option maxRecDepth 20000 in
theorem gX10_read_X10_isWell : GoodIn wsX10_read (wsV RX10 122 RX10 yX10_isWell wsX10_isWell) := goodIn_app (goodIn_of _ (by decide +kernel)) ggX10_read_X10_isWell
theorem dX10_read_0 : decode cX10_read 0 = .ok (.aload_n 0, 1) := by decide +kernel
theorem dX10_read_1 : decode cX10_read 1 = .ok (.iconst 0, 1) := by decide +kernel
theorem dX10_read_2 : decode cX10_read 2 = .ok (.putfield 80, 3) := by decide +kernel
theorem dX10_read_5 : decode cX10_read 5 = .ok (.aload_n 0, 1) := by decide +kernel
theorem dX10_read_6 : decode cX10_read 6 = .ok (.iconst (-1), 1) := by decide +kernel
theorem dX10_read_7 : decode cX10_read 7 = .ok (.putfield 119, 3) := by decide +kernel
theorem dX10_read_10 : decode cX10_read 10 = .ok (.aload_n 0, 1) := by decide +kernel
theorem dX10_read_11 : decode cX10_read 11 = .ok (.iconst 0, 1) := by decide +kernel
theorem dX10_read_12 : decode cX10_read 12 = .ok (.putfield 99, 3) := by decide +kernel
theorem dX10_read_15 : decode cX10_read 15 = .ok (.aload_n 0, 1) := by decide +kernel
theorem dX10_read_16 : decode cX10_read 16 = .ok (.iconst 0, 1) := by decide +kernel
theorem dX10_read_17 : decode cX10_read 17 = .ok (.putfield 152, 3) := by decide +kernel
theorem dX10_read_20 : decode cX10_read 20 = .ok (.aload_n 0, 1) := by decide +kernel
theorem dX10_read_21 : decode cX10_read 21 = .ok (.iconst 0, 1) := by decide +kernel
theorem dX10_read_22 : decode cX10_read 22 = .ok (.putfield 136, 3) := by decide +kernel
theorem dX10_read_25 : decode cX10_read 25 = .ok (.iconst 0, 1) := by decide +kernel
theorem dX10_read_26 : decode cX10_read 26 = .ok (.istore_n 1, 1) := by decide +kernel
theorem dX10_read_27 : decode cX10_read 27 = .ok (.aload_n 0, 1) := by decide +kernel
theorem dX10_read_28 : decode cX10_read 28 = .ok (.invokevirtual 130, 3) := by decide +kernel
theorem dX10_read_31 : decode cX10_read 31 = .ok (.aload_n 0, 1) := by decide +kernel
theorem dX10_read_32 : decode cX10_read 32 = .ok (.invokevirtual 122, 3) := by decide +kernel
theorem dX10_read_35 : decode cX10_read 35 = .ok (.ifCond .eq 406, 3) := by decide +kernel
theorem dX10_read_38 : decode cX10_read 38 = .ok (.aload_n 0, 1) := by decide +kernel
theorem dX10_read_39 : decode cX10_read 39 = .ok (.getfield 109, 3) := by decide +kernel
theorem dX10_read_42 : decode cX10_read 42 = .ok (.ifCond .ne 7, 3) := by decide +kernel
theorem dX10_read_45 : decode cX10_read 45 = .ok (.iload_n 1, 1) := by decide +kernel
theorem dX10_read_46 : decode cX10_read 46 = .ok (.ifCond .le 395, 3) := by decide +kernel
theorem dX10_read_441 : decode cX10_read 441 = .ok (.aload_n 0, 1) := by decide +kernel
theorem dX10_read_442 : decode cX10_read 442 = .ok (.invokevirtual 122, 3) := by decide +kernel
theorem dX10_read_445 : decode cX10_read 445 = .ok (.ifCond .ne 11, 3) := by decide +kernel
theorem dX10_read_456 : decode cX10_read 456 = .ok (.iconst 0, 1) := by decide +kernel
theorem dX10_read_457 : decode cX10_read 457 = .ok (.istore_n 2, 1) := by decide +kernel
theorem dX10_read_458 : decode cX10_read 458 = .ok (.iload_n 2, 1) := by decide +kernel
theorem dX10_read_459 : decode cX10_read 459 = .ok (.sipush 240, 3) := by decide +kernel
theorem dX10_read_462 : decode cX10_read 462 = .ok (.if_icmp .ge 25, 3) := by decide +kernel
theorem dX10_read_465 : decode cX10_read 465 = .ok (.aload_n 0, 1) := by decide +kernel
theorem dX10_read_466 : decode cX10_read 466 = .ok (.getfield 16, 3) := by decide +kernel
theorem dX10_read_469 : decode cX10_read 469 = .ok (.iload_n 2, 1) := by decide +kernel
theorem dX10_read_470 : decode cX10_read 470 = .ok (.aload_n 0, 1) := by decide +kernel
theorem dX10_read_471 : decode cX10_read 471 = .ok (.getfield 16, 3) := by decide +kernel
theorem dX10_read_474 : decode cX10_read 474 = .ok (.sipush 240, 3) := by decide +kernel
theorem dX10_read_477 : decode cX10_read 477 = .ok (.iload_n 2, 1) := by decide +kernel
theorem dX10_read_478 : decode cX10_read 478 = .ok (.iadd, 1) := by decide +kernel
theorem dX10_read_479 : decode cX10_read 479 = .ok (.iaload, 1) := by decide +kernel
theorem dX10_read_480 : decode cX10_read 480 = .ok (.iastore, 1) := by decide +kernel
theorem dX10_read_481 : decode cX10_read 481 = .ok (.iinc 2 1, 3) := by decide +kernel
theorem dX10_read_484 : decode cX10_read 484 = .ok (.goto (-26), 3) := by decide +kernel
theorem dX10_read_487 : decode cX10_read 487 = .ok (.iconst 0, 1) := by decide +kernel
theorem dX10_read_488 : decode cX10_read 488 = .ok (.istore_n 2, 1) := by decide +kernel
theorem dX10_read_489 : decode cX10_read 489 = .ok (.iload_n 2, 1) := by decide +kernel
theorem dX10_read_490 : decode cX10_read 490 = .ok (.sipush 300, 3) := by decide +kernel
theorem dX10_read_493 : decode cX10_read 493 = .ok (.if_icmp .ge 25, 3) := by decide +kernel
theorem dX10_read_496 : decode cX10_read 496 = .ok (.aload_n 0, 1) := by decide +kernel
theorem dX10_read_497 : decode cX10_read 497 = .ok (.getfield 19, 3) := by decide +kernel
theorem dX10_read_500 : decode cX10_read 500 = .ok (.iload_n 2, 1) := by decide +kernel
theorem dX10_read_501 : decode cX10_read 501 = .ok (.aload_n 0, 1) := by decide +kernel
theorem dX10_read_502 : decode cX10_read 502 = .ok (.getfield 19, 3) := by decide +kernel
theorem dX10_read_505 : decode cX10_read 505 = .ok (.sipush 300, 3) := by decide +kernel
theorem dX10_read_508 : decode cX10_read 508 = .ok (.iload_n 2, 1) := by decide +kernel
theorem dX10_read_509 : decode cX10_read 509 = .ok (.iadd, 1) := by decide +kernel
theorem dX10_read_510 : decode cX10_read 510 = .ok (.iaload, 1) := by decide +kernel
theorem dX10_read_511 : decode cX10_read 511 = .ok (.iastore, 1) := by decide +kernel
theorem dX10_read_512 : decode cX10_read 512 = .ok (.iinc 2 1, 3) := by decide +kernel
theorem dX10_read_515 : decode cX10_read 515 = .ok (.goto (-26), 3) := by decide +kernel
theorem dX10_read_518 : decode cX10_read 518 = .ok (.aload_n 0, 1) := by decide +kernel
theorem dX10_read_519 : decode cX10_read 519 = .ok (.aload_n 0, 1) := by decide +kernel
theorem dX10_read_520 : decode cX10_read 520 = .ok (.getfield 152, 3) := by decide +kernel
theorem dX10_read_523 : decode cX10_read 523 = .ok (.putfield 168, 3) := by decide +kernel
theorem dX10_read_526 : decode cX10_read 526 = .ok (.aload_n 0, 1) := by decide +kernel
theorem dX10_read_527 : decode cX10_read 527 = .ok (.iconst 0, 1) := by decide +kernel
theorem dX10_read_528 : decode cX10_read 528 = .ok (.putfield 88, 3) := by decide +kernel
theorem dX10_read_531 : decode cX10_read 531 = .ok (.aload_n 0, 1) := by decide +kernel
theorem dX10_read_532 : decode cX10_read 532 = .ok (.getfield 168, 3) := by decide +kernel
theorem dX10_read_535 : decode cX10_read 535 = .ok (.ireturn, 1) := by decide +kernel
theorem dX10_runs_0 : decode cX10_runs 0 = .ok (.aload_n 0, 1) := by decide +kernel
theorem dX10_runs_1 : decode cX10_runs 1 = .ok (.iconst 0, 1) := by decide +kernel
theorem dX10_runs_2 : decode cX10_runs 2 = .ok (.putfield 171, 3) := by decide +kernel
theorem dX10_runs_5 : decode cX10_runs 5 = .ok (.aload_n 0, 1) := by decide +kernel
theorem dX10_runs_6 : decode cX10_runs 6 = .ok (.iconst 0, 1) := by decide +kernel
theorem dX10_runs_7 : decode cX10_runs 7 = .ok (.putfield 174, 3) := by decide +kernel
theorem dX10_runs_10 : decode cX10_runs 10 = .ok (.iconst 0, 1) := by decide +kernel
theorem dX10_runs_11 : decode cX10_runs 11 = .ok (.istore_n 1, 1) := by decide +kernel
theorem dX10_runs_12 : decode cX10_runs 12 = .ok (.iconst 0, 1) := by decide +kernel
theorem dX10_runs_13 : decode cX10_runs 13 = .ok (.istore_n 2, 1) := by decide +kernel
theorem dX10_runs_14 : decode cX10_runs 14 = .ok (.iconst 1, 1) := by decide +kernel
theorem dX10_runs_15 : decode cX10_runs 15 = .ok (.istore_n 3, 1) := by decide +kernel
theorem dX10_runs_16 : decode cX10_runs 16 = .ok (.iload_n 3, 1) := by decide +kernel
theorem dX10_runs_17 : decode cX10_runs 17 = .ok (.ifCond .eq 437, 3) := by decide +kernel
theorem dX10_runs_20 : decode cX10_runs 20 = .ok (.iload_n 1, 1) := by decide +kernel
theorem dX10_runs_21 : decode cX10_runs 21 = .ok (.ifCond .le 113, 3) := by decide +kernel
theorem dX10_runs_134 : decode cX10_runs 134 = .ok (.iload_n 2, 1) := by decide +kernel
theorem dX10_runs_135 : decode cX10_runs 135 = .ok (.aload_n 0, 1) := by decide +kernel
theorem dX10_runs_136 : decode cX10_runs 136 = .ok (.getfield 168, 3) := by decide +kernel
theorem dX10_runs_139 : decode cX10_runs 139 = .ok (.if_icmp .ge 17, 3) := by decide +kernel
theorem dX10_runs_156 : decode cX10_runs 156 = .ok (.iconst 0, 1) := by decide +kernel
theorem dX10_runs_157 : decode cX10_runs 157 = .ok (.istore_n 3, 1) := by decide +kernel
theorem dX10_runs_158 : decode cX10_runs 158 = .ok (.iload_n 3, 1) := by decide +kernel
theorem dX10_runs_159 : decode cX10_runs 159 = .ok (.ifCond .eq (-143), 3) := by decide +kernel
theorem dX10_runs_454 : decode cX10_runs 454 = .ok (.return_, 1) := by decide +kernel
set_option maxRecDepth 20000 in
theorem ggX10_run_X10_in : GoodIn wsX10_run wsX10_in := goodIn_r _ [15] rfl (by decide +kernel)
set_option maxRecDepth 20000 in
theorem gX10_run_X10_in : GoodIn wsX10_run (va_wsS RX10 84 yX10_in wsX10_in) := goodIn_app (goodIn_of _ (by decide +kernel)) ggX10_run_X10_in
set_option maxRecDepth 20000 in
theorem ggX10_run_X10_runs : GoodIn wsX10_run wsX10_runs := goodIn_r _ [19, 4, 6, 20, 21, 22, 23, 24, 3, 2, 9, 11, 25, 26, 27, 14, 28, 29, 30, 31, 32, 33, 34, 35, 36, 37, 38, 39, 40, 41, 42, 43, 44, 45, 46, 47, 48, 49, 50, 51, 52, 53, 54, 55, 56, 57, 58, 59, 60, 61, 62, 63, 64, 65, 66, 67, 68, 69, 70, 71, 72, 73, 74] rfl (by decide +kernel)
set_option maxRecDepth 20000 in
theorem gX10_run_X10_runs : GoodIn wsX10_run (wsV RX10 186 RX10 yX10_runs wsX10_runs) := goodIn_app (goodIn_of _ (by decide +kernel)) ggX10_run_X10_runs
theorem dX10_run_0 : decode cX10_run 0 = .ok (.aload_n 0, 1) := by decide +kernel
theorem dX10_run_1 : decode cX10_run 1 = .ok (.iconst 0, 1) := by decide +kernel
theorem dX10_run_2 : decode cX10_run 2 = .ok (.putfield 80, 3) := by decide +kernel
theorem dX10_run_5 : decode cX10_run 5 = .ok (.iload_n 1, 1) := by decide +kernel
theorem dX10_run_6 : decode cX10_run 6 = .ok (.iconst 0, 1) := by decide +kernel
theorem dX10_run_7 : decode cX10_run 7 = .ok (.sipush 4095, 3) := by decide +kernel
theorem dX10_run_10 : decode cX10_run 10 = .ok (.invokestatic 84, 3) := by decide +kernel
theorem dX10_run_13 : decode cX10_run 13 = .ok (.ifCond .ne 5, 3) := by decide +kernel
theorem dX10_run_16 : decode cX10_run 16 = .ok (.iconst (-1), 1) := by decide +kernel
theorem dX10_run_17 : decode cX10_run 17 = .ok (.ireturn, 1) := by decide +kernel
theorem dX10_run_18 : decode cX10_run 18 = .ok (.iconst 0, 1) := by decide +kernel
theorem dX10_run_19 : decode cX10_run 19 = .ok (.istore_n 2, 1) := by decide +kernel
theorem dX10_run_20 : decode cX10_run 20 = .ok (.iload_n 2, 1) := by decide +kernel
theorem dX10_run_21 : decode cX10_run 21 = .ok (.bipush 6, 2) := by decide +kernel
theorem dX10_run_23 : decode cX10_run 23 = .ok (.if_icmp .ge 22, 3) := by decide +kernel
theorem dX10_run_26 : decode cX10_run 26 = .ok (.aload_n 0, 1) := by decide +kernel
theorem dX10_run_27 : decode cX10_run 27 = .ok (.getfield 43, 3) := by decide +kernel
theorem dX10_run_30 : decode cX10_run 30 = .ok (.iload_n 2, 1) := by decide +kernel
theorem dX10_run_31 : decode cX10_run 31 = .ok (.iload_n 1, 1) := by decide +kernel
theorem dX10_run_32 : decode cX10_run 32 = .ok (.iconst 2, 1) := by decide +kernel
theorem dX10_run_33 : decode cX10_run 33 = .ok (.iload_n 2, 1) := by decide +kernel
theorem dX10_run_34 : decode cX10_run 34 = .ok (.imul, 1) := by decide +kernel
theorem dX10_run_35 : decode cX10_run 35 = .ok (.ishr, 1) := by decide +kernel
theorem dX10_run_36 : decode cX10_run 36 = .ok (.iconst 3, 1) := by decide +kernel
theorem dX10_run_37 : decode cX10_run 37 = .ok (.iand, 1) := by decide +kernel
theorem dX10_run_38 : decode cX10_run 38 = .ok (.iastore, 1) := by decide +kernel
theorem dX10_run_39 : decode cX10_run 39 = .ok (.iinc 2 1, 3) := by decide +kernel
theorem dX10_run_42 : decode cX10_run 42 = .ok (.goto (-22), 3) := by decide +kernel
theorem dX10_run_45 : decode cX10_run 45 = .ok (.aload_n 0, 1) := by decide +kernel
theorem dX10_run_46 : decode cX10_run 46 = .ok (.iconst 0, 1) := by decide +kernel
theorem dX10_run_47 : decode cX10_run 47 = .ok (.putfield 177, 3) := by decide +kernel
theorem dX10_run_50 : decode cX10_run 50 = .ok (.aload_n 0, 1) := by decide +kernel
theorem dX10_run_51 : decode cX10_run 51 = .ok (.invokevirtual 186, 3) := by decide +kernel
theorem dX10_run_54 : decode cX10_run 54 = .ok (.aload_n 0, 1) := by decide +kernel
theorem dX10_run_55 : decode cX10_run 55 = .ok (.aload_n 0, 1) := by decide +kernel
theorem dX10_run_56 : decode cX10_run 56 = .ok (.getfield 171, 3) := by decide +kernel
theorem dX10_run_59 : decode cX10_run 59 = .ok (.putfield 189, 3) := by decide +kernel
theorem dX10_run_62 : decode cX10_run 62 = .ok (.aload_n 0, 1) := by decide +kernel
theorem dX10_run_63 : decode cX10_run 63 = .ok (.aload_n 0, 1) := by decide +kernel
theorem dX10_run_64 : decode cX10_run 64 = .ok (.getfield 174, 3) := by decide +kernel
theorem dX10_run_67 : decode cX10_run 67 = .ok (.putfield 192, 3) := by decide +kernel
theorem dX10_run_70 : decode cX10_run 70 = .ok (.iconst 0, 1) := by decide +kernel
theorem dX10_run_71 : decode cX10_run 71 = .ok (.istore_n 2, 1) := by decide +kernel
theorem dX10_run_72 : decode cX10_run 72 = .ok (.iload_n 2, 1) := by decide +kernel
theorem dX10_run_73 : decode cX10_run 73 = .ok (.bipush 20, 2) := by decide +kernel
theorem dX10_run_75 : decode cX10_run 75 = .ok (.if_icmp .ge 33, 3) := by decide +kernel
theorem dX10_run_78 : decode cX10_run 78 = .ok (.aload_n 0, 1) := by decide +kernel
theorem dX10_run_79 : decode cX10_run 79 = .ok (.getfield 52, 3) := by decide +kernel
theorem dX10_run_82 : decode cX10_run 82 = .ok (.iload_n 2, 1) := by decide +kernel
theorem dX10_run_83 : decode cX10_run 83 = .ok (.aload_n 0, 1) := by decide +kernel
theorem dX10_run_84 : decode cX10_run 84 = .ok (.getfield 46, 3) := by decide +kernel
theorem dX10_run_87 : decode cX10_run 87 = .ok (.iload_n 2, 1) := by decide +kernel
theorem dX10_run_88 : decode cX10_run 88 = .ok (.iaload, 1) := by decide +kernel
theorem dX10_run_89 : decode cX10_run 89 = .ok (.iastore, 1) := by decide +kernel
theorem dX10_run_90 : decode cX10_run 90 = .ok (.aload_n 0, 1) := by decide +kernel
theorem dX10_run_91 : decode cX10_run 91 = .ok (.getfield 55, 3) := by decide +kernel
theorem dX10_run_94 : decode cX10_run 94 = .ok (.iload_n 2, 1) := by decide +kernel
theorem dX10_run_95 : decode cX10_run 95 = .ok (.aload_n 0, 1) := by decide +kernel
theorem dX10_run_96 : decode cX10_run 96 = .ok (.getfield 49, 3) := by decide +kernel
theorem dX10_run_99 : decode cX10_run 99 = .ok (.iload_n 2, 1) := by decide +kernel
theorem dX10_run_100 : decode cX10_run 100 = .ok (.iaload, 1) := by decide +kernel
theorem dX10_run_101 : decode cX10_run 101 = .ok (.iastore, 1) := by decide +kernel
theorem dX10_run_102 : decode cX10_run 102 = .ok (.iinc 2 1, 3) := by decide +kernel
theorem dX10_run_105 : decode cX10_run 105 = .ok (.goto (-33), 3) := by decide +kernel
theorem dX10_run_108 : decode cX10_run 108 = .ok (.iconst 0, 1) := by decide +kernel
theorem dX10_run_109 : decode cX10_run 109 = .ok (.istore_n 2, 1) := by decide +kernel
theorem dX10_run_110 : decode cX10_run 110 = .ok (.iconst 0, 1) := by decide +kernel
theorem dX10_run_111 : decode cX10_run 111 = .ok (.istore_n 3, 1) := by decide +kernel
theorem dX10_run_112 : decode cX10_run 112 = .ok (.iload_n 3, 1) := by decide +kernel
theorem dX10_run_113 : decode cX10_run 113 = .ok (.bipush 6, 2) := by decide +kernel
theorem dX10_run_115 : decode cX10_run 115 = .ok (.if_icmp .ge 22, 3) := by decide +kernel
theorem dX10_run_118 : decode cX10_run 118 = .ok (.iload_n 2, 1) := by decide +kernel
theorem dX10_run_119 : decode cX10_run 119 = .ok (.aload_n 0, 1) := by decide +kernel
theorem dX10_run_120 : decode cX10_run 120 = .ok (.getfield 43, 3) := by decide +kernel
theorem dX10_run_123 : decode cX10_run 123 = .ok (.iload_n 3, 1) := by decide +kernel
theorem dX10_run_124 : decode cX10_run 124 = .ok (.iaload, 1) := by decide +kernel
theorem dX10_run_125 : decode cX10_run 125 = .ok (.iconst 2, 1) := by decide +kernel
theorem dX10_run_126 : decode cX10_run 126 = .ok (.iload_n 3, 1) := by decide +kernel
theorem dX10_run_127 : decode cX10_run 127 = .ok (.imul, 1) := by decide +kernel
theorem dX10_run_128 : decode cX10_run 128 = .ok (.ishl, 1) := by decide +kernel
theorem dX10_run_129 : decode cX10_run 129 = .ok (.ior, 1) := by decide +kernel
theorem dX10_run_130 : decode cX10_run 130 = .ok (.istore_n 2, 1) := by decide +kernel
theorem dX10_run_131 : decode cX10_run 131 = .ok (.iinc 3 1, 3) := by decide +kernel
theorem dX10_run_134 : decode cX10_run 134 = .ok (.goto (-22), 3) := by decide +kernel
theorem dX10_run_137 : decode cX10_run 137 = .ok (.iload_n 2, 1) := by decide +kernel
theorem dX10_run_138 : decode cX10_run 138 = .ok (.ireturn, 1) := by decide +kernel
theorem dX10_least_0 : decode cX10_least 0 = .ok (.iload_n 0, 1) := by decide +kernel
theorem dX10_least_1 : decode cX10_least 1 = .ok (.iload_n 1, 1) := by decide +kernel
theorem dX10_least_2 : decode cX10_least 2 = .ok (.if_icmp .ge 7, 3) := by decide +kernel
theorem dX10_least_5 : decode cX10_least 5 = .ok (.iload_n 0, 1) := by decide +kernel
theorem dX10_least_6 : decode cX10_least 6 = .ok (.goto 4, 3) := by decide +kernel
theorem dX10_least_10 : decode cX10_least 10 = .ok (.ireturn, 1) := by decide +kernel
set_option maxRecDepth 20000 in
theorem ggX10_ran_X10_least : GoodIn wsX10_ran wsX10_least := goodIn_r _ [7] rfl (by decide +kernel)
set_option maxRecDepth 20000 in
theorem gX10_ran_X10_least : GoodIn wsX10_ran (va_wsS RX10 195 yX10_least wsX10_least) := goodIn_app (goodIn_of _ (by decide +kernel)) ggX10_ran_X10_least
theorem dX10_ran_0 : decode cX10_ran 0 = .ok (.aload_n 0, 1) := by decide +kernel
theorem dX10_ran_1 : decode cX10_ran 1 = .ok (.iconst 0, 1) := by decide +kernel
theorem dX10_ran_2 : decode cX10_ran 2 = .ok (.putfield 80, 3) := by decide +kernel
theorem dX10_ran_5 : decode cX10_ran 5 = .ok (.iload_n 1, 1) := by decide +kernel
theorem dX10_ran_6 : decode cX10_ran 6 = .ok (.ifCond .ne 10, 3) := by decide +kernel
theorem dX10_ran_9 : decode cX10_ran 9 = .ok (.aload_n 0, 1) := by decide +kernel
theorem dX10_ran_10 : decode cX10_ran 10 = .ok (.getfield 189, 3) := by decide +kernel
theorem dX10_ran_13 : decode cX10_ran 13 = .ok (.goto 33, 3) := by decide +kernel
theorem dX10_ran_16 : decode cX10_ran 16 = .ok (.iload_n 1, 1) := by decide +kernel
theorem dX10_ran_17 : decode cX10_ran 17 = .ok (.iconst 1, 1) := by decide +kernel
theorem dX10_ran_18 : decode cX10_ran 18 = .ok (.if_icmp .ne 10, 3) := by decide +kernel
theorem dX10_ran_21 : decode cX10_ran 21 = .ok (.aload_n 0, 1) := by decide +kernel
theorem dX10_ran_22 : decode cX10_ran 22 = .ok (.getfield 192, 3) := by decide +kernel
theorem dX10_ran_25 : decode cX10_ran 25 = .ok (.goto 21, 3) := by decide +kernel
theorem dX10_ran_28 : decode cX10_ran 28 = .ok (.iload_n 1, 1) := by decide +kernel
theorem dX10_ran_29 : decode cX10_ran 29 = .ok (.iconst 2, 1) := by decide +kernel
theorem dX10_ran_30 : decode cX10_ran 30 = .ok (.if_icmp .ne 15, 3) := by decide +kernel
theorem dX10_ran_33 : decode cX10_ran 33 = .ok (.aload_n 0, 1) := by decide +kernel
theorem dX10_ran_34 : decode cX10_ran 34 = .ok (.getfield 192, 3) := by decide +kernel
theorem dX10_ran_37 : decode cX10_ran 37 = .ok (.bipush 20, 2) := by decide +kernel
theorem dX10_ran_39 : decode cX10_ran 39 = .ok (.invokestatic 195, 3) := by decide +kernel
theorem dX10_ran_42 : decode cX10_ran 42 = .ok (.goto 4, 3) := by decide +kernel
theorem dX10_ran_45 : decode cX10_ran 45 = .ok (.iconst (-1), 1) := by decide +kernel
theorem dX10_ran_46 : decode cX10_ran 46 = .ok (.ireturn, 1) := by decide +kernel
set_option maxRecDepth 20000 in
theorem ggX10_tape_X10_least : GoodIn wsX10_tape wsX10_least := goodIn_r _ [8] rfl (by decide +kernel)
set_option maxRecDepth 20000 in
theorem gX10_tape_X10_least : GoodIn wsX10_tape (va_wsS RX10 195 yX10_least wsX10_least) := goodIn_app (goodIn_of _ (by decide +kernel)) ggX10_tape_X10_least
set_option maxRecDepth 20000 in
theorem ggX10_tape_X10_in : GoodIn wsX10_tape wsX10_in := goodIn_r _ [11] rfl (by decide +kernel)
set_option maxRecDepth 20000 in
theorem gX10_tape_X10_in : GoodIn wsX10_tape (va_wsS RX10 84 yX10_in wsX10_in) := goodIn_app (goodIn_of _ (by decide +kernel)) ggX10_tape_X10_in
theorem dX10_tape_0 : decode cX10_tape 0 = .ok (.aload_n 0, 1) := by decide +kernel
theorem dX10_tape_1 : decode cX10_tape 1 = .ok (.iconst 0, 1) := by decide +kernel
theorem dX10_tape_2 : decode cX10_tape 2 = .ok (.putfield 80, 3) := by decide +kernel
theorem dX10_tape_5 : decode cX10_tape 5 = .ok (.iload_n 1, 1) := by decide +kernel
theorem dX10_tape_6 : decode cX10_tape 6 = .ok (.iconst 0, 1) := by decide +kernel
theorem dX10_tape_7 : decode cX10_tape 7 = .ok (.aload_n 0, 1) := by decide +kernel
theorem dX10_tape_8 : decode cX10_tape 8 = .ok (.getfield 192, 3) := by decide +kernel
theorem dX10_tape_11 : decode cX10_tape 11 = .ok (.bipush 20, 2) := by decide +kernel
theorem dX10_tape_13 : decode cX10_tape 13 = .ok (.invokestatic 195, 3) := by decide +kernel
theorem dX10_tape_16 : decode cX10_tape 16 = .ok (.iconst 1, 1) := by decide +kernel
theorem dX10_tape_17 : decode cX10_tape 17 = .ok (.isub, 1) := by decide +kernel
theorem dX10_tape_18 : decode cX10_tape 18 = .ok (.invokestatic 84, 3) := by decide +kernel
theorem dX10_tape_21 : decode cX10_tape 21 = .ok (.ifCond .eq 12, 3) := by decide +kernel
theorem dX10_tape_33 : decode cX10_tape 33 = .ok (.iconst (-1), 1) := by decide +kernel
theorem dX10_tape_34 : decode cX10_tape 34 = .ok (.goto 22, 3) := by decide +kernel
theorem dX10_tape_56 : decode cX10_tape 56 = .ok (.ireturn, 1) := by decide +kernel
set_option maxRecDepth 20000 in
theorem ggX10_cells_X10_isWithin : GoodIn wsX10_cells wsX10_isWithin := goodIn_r _ [5] rfl (by decide +kernel)
set_option maxRecDepth 20000 in
theorem gX10_cells_X10_isWithin : GoodIn wsX10_cells (va_wsS RX10 198 yX10_isWithin wsX10_isWithin) := goodIn_app (goodIn_of _ (by decide +kernel)) ggX10_cells_X10_isWithin
theorem dX10_cells_0 : decode cX10_cells 0 = .ok (.iconst 0, 1) := by decide +kernel
theorem dX10_cells_1 : decode cX10_cells 1 = .ok (.istore_n 3, 1) := by decide +kernel
theorem dX10_cells_2 : decode cX10_cells 2 = .ok (.iconst 0, 1) := by decide +kernel
theorem dX10_cells_3 : decode cX10_cells 3 = .ok (.istore 4, 2) := by decide +kernel
theorem dX10_cells_5 : decode cX10_cells 5 = .ok (.iload 4, 2) := by decide +kernel
theorem dX10_cells_7 : decode cX10_cells 7 = .ok (.bipush 6, 2) := by decide +kernel
theorem dX10_cells_9 : decode cX10_cells 9 = .ok (.if_icmp .ge 32, 3) := by decide +kernel
theorem dX10_cells_12 : decode cX10_cells 12 = .ok (.iload_n 3, 1) := by decide +kernel
theorem dX10_cells_13 : decode cX10_cells 13 = .ok (.aload_n 0, 1) := by decide +kernel
theorem dX10_cells_14 : decode cX10_cells 14 = .ok (.getfield 7, 3) := by decide +kernel
theorem dX10_cells_17 : decode cX10_cells 17 = .ok (.iload 4, 2) := by decide +kernel
theorem dX10_cells_19 : decode cX10_cells 19 = .ok (.iaload, 1) := by decide +kernel
theorem dX10_cells_20 : decode cX10_cells 20 = .ok (.iload_n 1, 1) := by decide +kernel
theorem dX10_cells_21 : decode cX10_cells 21 = .ok (.invokestatic 198, 3) := by decide +kernel
theorem dX10_cells_24 : decode cX10_cells 24 = .ok (.iload_n 2, 1) := by decide +kernel
theorem dX10_cells_25 : decode cX10_cells 25 = .ok (.if_icmp .ne 7, 3) := by decide +kernel
theorem dX10_cells_28 : decode cX10_cells 28 = .ok (.iconst 1, 1) := by decide +kernel
theorem dX10_cells_29 : decode cX10_cells 29 = .ok (.goto 4, 3) := by decide +kernel
theorem dX10_cells_32 : decode cX10_cells 32 = .ok (.iconst 0, 1) := by decide +kernel
theorem dX10_cells_33 : decode cX10_cells 33 = .ok (.iadd, 1) := by decide +kernel
theorem dX10_cells_34 : decode cX10_cells 34 = .ok (.istore_n 3, 1) := by decide +kernel
theorem dX10_cells_35 : decode cX10_cells 35 = .ok (.iinc 4 1, 3) := by decide +kernel
theorem dX10_cells_38 : decode cX10_cells 38 = .ok (.goto (-33), 3) := by decide +kernel
theorem dX10_cells_41 : decode cX10_cells 41 = .ok (.iload_n 3, 1) := by decide +kernel
theorem dX10_cells_42 : decode cX10_cells 42 = .ok (.ireturn, 1) := by decide +kernel
set_option maxRecDepth 20000 in
theorem ggX10_tells_X10_isWithin : GoodIn wsX10_tells wsX10_isWithin := goodIn_r _ [6] rfl (by decide +kernel)
set_option maxRecDepth 20000 in
theorem gX10_tells_X10_isWithin : GoodIn wsX10_tells (va_wsS RX10 198 yX10_isWithin wsX10_isWithin) := goodIn_app (goodIn_of _ (by decide +kernel)) ggX10_tells_X10_isWithin
theorem dX10_tells_0 : decode cX10_tells 0 = .ok (.iload_n 3, 1) := by decide +kernel
theorem dX10_tells_1 : decode cX10_tells 1 = .ok (.istore 4, 2) := by decide +kernel
theorem dX10_tells_3 : decode cX10_tells 3 = .ok (.iconst 0, 1) := by decide +kernel
theorem dX10_tells_4 : decode cX10_tells 4 = .ok (.istore 5, 2) := by decide +kernel
theorem dX10_tells_6 : decode cX10_tells 6 = .ok (.iload 5, 2) := by decide +kernel
theorem dX10_tells_8 : decode cX10_tells 8 = .ok (.bipush 6, 2) := by decide +kernel
theorem dX10_tells_10 : decode cX10_tells 10 = .ok (.if_icmp .ge 41, 3) := by decide +kernel
theorem dX10_tells_13 : decode cX10_tells 13 = .ok (.aload_n 0, 1) := by decide +kernel
theorem dX10_tells_14 : decode cX10_tells 14 = .ok (.getfield 7, 3) := by decide +kernel
theorem dX10_tells_17 : decode cX10_tells 17 = .ok (.iload 5, 2) := by decide +kernel
theorem dX10_tells_19 : decode cX10_tells 19 = .ok (.iaload, 1) := by decide +kernel
theorem dX10_tells_20 : decode cX10_tells 20 = .ok (.iload_n 1, 1) := by decide +kernel
theorem dX10_tells_21 : decode cX10_tells 21 = .ok (.invokestatic 198, 3) := by decide +kernel
theorem dX10_tells_24 : decode cX10_tells 24 = .ok (.iload_n 2, 1) := by decide +kernel
theorem dX10_tells_25 : decode cX10_tells 25 = .ok (.if_icmp .ne 20, 3) := by decide +kernel
theorem dX10_tells_28 : decode cX10_tells 28 = .ok (.aload_n 0, 1) := by decide +kernel
theorem dX10_tells_29 : decode cX10_tells 29 = .ok (.getfield 43, 3) := by decide +kernel
theorem dX10_tells_32 : decode cX10_tells 32 = .ok (.iload 5, 2) := by decide +kernel
theorem dX10_tells_34 : decode cX10_tells 34 = .ok (.iload 4, 2) := by decide +kernel
theorem dX10_tells_36 : decode cX10_tells 36 = .ok (.iconst 3, 1) := by decide +kernel
theorem dX10_tells_37 : decode cX10_tells 37 = .ok (.iand, 1) := by decide +kernel
theorem dX10_tells_38 : decode cX10_tells 38 = .ok (.iastore, 1) := by decide +kernel
theorem dX10_tells_39 : decode cX10_tells 39 = .ok (.iload 4, 2) := by decide +kernel
theorem dX10_tells_41 : decode cX10_tells 41 = .ok (.iconst 2, 1) := by decide +kernel
theorem dX10_tells_42 : decode cX10_tells 42 = .ok (.ishr, 1) := by decide +kernel
theorem dX10_tells_43 : decode cX10_tells 43 = .ok (.istore 4, 2) := by decide +kernel
theorem dX10_tells_45 : decode cX10_tells 45 = .ok (.iinc 5 1, 3) := by decide +kernel
theorem dX10_tells_48 : decode cX10_tells 48 = .ok (.goto (-42), 3) := by decide +kernel
theorem dX10_tells_51 : decode cX10_tells 51 = .ok (.return_, 1) := by decide +kernel
set_option maxRecDepth 20000 in
theorem ggX10_sees_X10_isWithin : GoodIn wsX10_sees wsX10_isWithin := goodIn_r _ [12] rfl (by decide +kernel)
set_option maxRecDepth 20000 in
theorem gX10_sees_X10_isWithin : GoodIn wsX10_sees (va_wsS RX10 198 yX10_isWithin wsX10_isWithin) := goodIn_app (goodIn_of _ (by decide +kernel)) ggX10_sees_X10_isWithin
set_option maxRecDepth 20000 in
theorem ggX10_sees_X10_least : GoodIn wsX10_sees wsX10_least := goodIn_r _ [15] rfl (by decide +kernel)
set_option maxRecDepth 20000 in
theorem gX10_sees_X10_least : GoodIn wsX10_sees (va_wsS RX10 195 yX10_least wsX10_least) := goodIn_app (goodIn_of _ (by decide +kernel)) ggX10_sees_X10_least
