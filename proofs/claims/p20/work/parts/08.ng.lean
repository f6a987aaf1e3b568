theorem dX10_pair_0 : decode cX10_pair 0 = .ok (.aload_n 0, 1) := by decide +kernel
theorem dX10_pair_1 : decode cX10_pair 1 = .ok (.iconst 0, 1) := by decide +kernel
theorem dX10_pair_2 : decode cX10_pair 2 = .ok (.putfield 80, 3) := by decide +kernel
theorem dX10_pair_5 : decode cX10_pair 5 = .ok (.aload_n 0, 1) := by decide +kernel
theorem dX10_pair_6 : decode cX10_pair 6 = .ok (.iload_n 1, 1) := by decide +kernel
theorem dX10_pair_7 : decode cX10_pair 7 = .ok (.iload_n 2, 1) := by decide +kernel
theorem dX10_pair_8 : decode cX10_pair 8 = .ok (.invokevirtual 239, 3) := by decide +kernel
theorem dX10_pair_11 : decode cX10_pair 11 = .ok (.ifCond .eq 12, 3) := by decide +kernel
theorem dX10_pair_14 : decode cX10_pair 14 = .ok (.iload_n 3, 1) := by decide +kernel
theorem dX10_pair_15 : decode cX10_pair 15 = .ok (.iconst 0, 1) := by decide +kernel
theorem dX10_pair_16 : decode cX10_pair 16 = .ok (.iconst 1, 1) := by decide +kernel
theorem dX10_pair_17 : decode cX10_pair 17 = .ok (.invokestatic 84, 3) := by decide +kernel
theorem dX10_pair_20 : decode cX10_pair 20 = .ok (.ifCond .ne 5, 3) := by decide +kernel
theorem dX10_pair_23 : decode cX10_pair 23 = .ok (.iconst (-1), 1) := by decide +kernel
theorem dX10_pair_24 : decode cX10_pair 24 = .ok (.ireturn, 1) := by decide +kernel
theorem dX10_pair_25 : decode cX10_pair 25 = .ok (.aload_n 0, 1) := by decide +kernel
theorem dX10_pair_26 : decode cX10_pair 26 = .ok (.iconst 0, 1) := by decide +kernel
theorem dX10_pair_27 : decode cX10_pair 27 = .ok (.putfield 177, 3) := by decide +kernel
theorem dX10_pair_30 : decode cX10_pair 30 = .ok (.aload_n 0, 1) := by decide +kernel
theorem dX10_pair_31 : decode cX10_pair 31 = .ok (.iload_n 1, 1) := by decide +kernel
theorem dX10_pair_32 : decode cX10_pair 32 = .ok (.iload_n 2, 1) := by decide +kernel
theorem dX10_pair_33 : decode cX10_pair 33 = .ok (.invokevirtual 249, 3) := by decide +kernel
theorem dX10_pair_36 : decode cX10_pair 36 = .ok (.istore 4, 2) := by decide +kernel
theorem dX10_pair_38 : decode cX10_pair 38 = .ok (.iload_n 3, 1) := by decide +kernel
theorem dX10_pair_39 : decode cX10_pair 39 = .ok (.ifCond .eq 10, 3) := by decide +kernel
theorem dX10_pair_42 : decode cX10_pair 42 = .ok (.iload 4, 2) := by decide +kernel
theorem dX10_pair_44 : decode cX10_pair 44 = .ok (.bipush (-9), 2) := by decide +kernel
theorem dX10_pair_46 : decode cX10_pair 46 = .ok (.if_icmp .ne 6, 3) := by decide +kernel
theorem dX10_pair_49 : decode cX10_pair 49 = .ok (.iload 4, 2) := by decide +kernel
theorem dX10_pair_51 : decode cX10_pair 51 = .ok (.ireturn, 1) := by decide +kernel
theorem dX10_pair_52 : decode cX10_pair 52 = .ok (.iconst 0, 1) := by decide +kernel
theorem dX10_pair_53 : decode cX10_pair 53 = .ok (.istore 5, 2) := by decide +kernel
theorem dX10_pair_55 : decode cX10_pair 55 = .ok (.aload_n 0, 1) := by decide +kernel
theorem dX10_pair_56 : decode cX10_pair 56 = .ok (.getfield 62, 3) := by decide +kernel
theorem dX10_pair_59 : decode cX10_pair 59 = .ok (.iload 5, 2) := by decide +kernel
theorem dX10_pair_61 : decode cX10_pair 61 = .ok (.iaload, 1) := by decide +kernel
theorem dX10_pair_62 : decode cX10_pair 62 = .ok (.ifCond .ne 9, 3) := by decide +kernel
theorem dX10_pair_65 : decode cX10_pair 65 = .ok (.iinc 5 1, 3) := by decide +kernel
theorem dX10_pair_68 : decode cX10_pair 68 = .ok (.goto (-13), 3) := by decide +kernel
theorem dX10_pair_71 : decode cX10_pair 71 = .ok (.iload 5, 2) := by decide +kernel
theorem dX10_pair_73 : decode cX10_pair 73 = .ok (.ireturn, 1) := by decide +kernel
set_option maxRecDepth 20000 in
theorem ggX10_most_X10_isAsked : GoodIn wsX10_most wsX10_isAsked := goodIn_r _ [8, 9, 10, 7, 11] rfl (by decide +kernel)
set_option maxRecDepth 20000 in
theorem gX10_most_X10_isAsked : GoodIn wsX10_most (wsV RX10 239 RX10 yX10_isAsked wsX10_isAsked) := goodIn_app (goodIn_r _ [4, 5, 6, 7] rfl (by decide +kernel)) ggX10_most_X10_isAsked
set_option maxRecDepth 20000 in
theorem ggX10_most_X10_in : GoodIn wsX10_most wsX10_in := goodIn_r _ [11] rfl (by decide +kernel)
set_option maxRecDepth 20000 in
theorem gX10_most_X10_in : GoodIn wsX10_most (va_wsS RX10 84 yX10_in wsX10_in) := goodIn_app (goodIn_r _ [9, 10, 7] rfl (by decide +kernel)) ggX10_most_X10_in
set_option maxRecDepth 20000 in
theorem ggX10_most_X10_cells : GoodIn wsX10_most wsX10_cells := goodIn_r _ [15, 16, 17, 18, 7, 19, 83, 84, 85, 86, 87, 88, 89, 90, 91, 92, 93, 94, 95, 96, 97, 98, 99, 100, 101, 102, 103, 104, 105, 106, 107, 108, 109, 110, 111, 112, 113, 114, 115, 116, 117, 118, 119, 120, 121, 122] rfl (by decide +kernel)
set_option maxRecDepth 20000 in
theorem gX10_most_X10_cells : GoodIn wsX10_most (wsV RX10 219 RX10 yX10_cells wsX10_cells) := goodIn_app (goodIn_r _ [12, 13, 14, 7] rfl (by decide +kernel)) ggX10_most_X10_cells
set_option maxRecDepth 20000 in
theorem ggX10_most_X10_learns : GoodIn wsX10_most wsX10_learns := goodIn_r _ [23, 24, 25, 26, 27, 12, 13, 14, 7, 15, 16, 17, 18, 19, 28, 29, 30, 31, 3, 32, 33, 34, 35, 36, 37, 38, 39, 40, 41, 42, 43, 44, 45, 46, 47, 2, 48, 49, 50, 51, 52, 53, 54, 55, 56, 57, 58, 59, 60, 61, 62, 63, 64, 65, 66, 67, 68, 69, 70, 71, 72, 73, 74, 75, 76, 77, 78, 79, 80, 81, 82, 83, 84, 85, 86, 87, 88, 89, 90, 91, 92, 93, 94, 95, 96, 97, 98, 99, 100, 101, 102, 103, 104, 105, 106, 107, 108, 109, 110, 111, 112, 113, 114, 115, 116, 117, 118, 119, 120, 121, 122] rfl (by decide +kernel)
set_option maxRecDepth 20000 in
theorem gX10_most_X10_learns : GoodIn wsX10_most (wsV RX10 245 RX10 yX10_learns wsX10_learns) := goodIn_app (goodIn_r _ [20, 21, 22, 7] rfl (by decide +kernel)) ggX10_most_X10_learns
theorem dX10_most_0 : decode cX10_most 0 = .ok (.aload_n 0, 1) := by decide +kernel
theorem dX10_most_1 : decode cX10_most 1 = .ok (.iconst 0, 1) := by decide +kernel
theorem dX10_most_2 : decode cX10_most 2 = .ok (.putfield 80, 3) := by decide +kernel
theorem dX10_most_5 : decode cX10_most 5 = .ok (.aload_n 0, 1) := by decide +kernel
theorem dX10_most_6 : decode cX10_most 6 = .ok (.iload_n 1, 1) := by decide +kernel
theorem dX10_most_7 : decode cX10_most 7 = .ok (.iload_n 2, 1) := by decide +kernel
theorem dX10_most_8 : decode cX10_most 8 = .ok (.invokevirtual 239, 3) := by decide +kernel
theorem dX10_most_11 : decode cX10_most 11 = .ok (.ifCond .eq 12, 3) := by decide +kernel
theorem dX10_most_14 : decode cX10_most 14 = .ok (.iload_n 3, 1) := by decide +kernel
theorem dX10_most_15 : decode cX10_most 15 = .ok (.iconst 0, 1) := by decide +kernel
theorem dX10_most_16 : decode cX10_most 16 = .ok (.iconst 1, 1) := by decide +kernel
theorem dX10_most_17 : decode cX10_most 17 = .ok (.invokestatic 84, 3) := by decide +kernel
theorem dX10_most_20 : decode cX10_most 20 = .ok (.ifCond .ne 5, 3) := by decide +kernel
theorem dX10_most_23 : decode cX10_most 23 = .ok (.iconst (-1), 1) := by decide +kernel
theorem dX10_most_24 : decode cX10_most 24 = .ok (.ireturn, 1) := by decide +kernel
theorem dX10_most_25 : decode cX10_most 25 = .ok (.aload_n 0, 1) := by decide +kernel
theorem dX10_most_26 : decode cX10_most 26 = .ok (.iconst 0, 1) := by decide +kernel
theorem dX10_most_27 : decode cX10_most 27 = .ok (.putfield 177, 3) := by decide +kernel
theorem dX10_most_30 : decode cX10_most 30 = .ok (.iconst 0, 1) := by decide +kernel
theorem dX10_most_31 : decode cX10_most 31 = .ok (.istore 4, 2) := by decide +kernel
theorem dX10_most_33 : decode cX10_most 33 = .ok (.iconst 0, 1) := by decide +kernel
theorem dX10_most_34 : decode cX10_most 34 = .ok (.istore 5, 2) := by decide +kernel
theorem dX10_most_36 : decode cX10_most 36 = .ok (.iconst 1, 1) := by decide +kernel
theorem dX10_most_37 : decode cX10_most 37 = .ok (.iconst 2, 1) := by decide +kernel
theorem dX10_most_38 : decode cX10_most 38 = .ok (.aload_n 0, 1) := by decide +kernel
theorem dX10_most_39 : decode cX10_most 39 = .ok (.iload_n 1, 1) := by decide +kernel
theorem dX10_most_40 : decode cX10_most 40 = .ok (.iconst 1, 1) := by decide +kernel
theorem dX10_most_41 : decode cX10_most 41 = .ok (.invokevirtual 219, 3) := by decide +kernel
theorem dX10_most_44 : decode cX10_most 44 = .ok (.imul, 1) := by decide +kernel
theorem dX10_most_45 : decode cX10_most 45 = .ok (.ishl, 1) := by decide +kernel
theorem dX10_most_46 : decode cX10_most 46 = .ok (.istore 6, 2) := by decide +kernel
theorem dX10_most_48 : decode cX10_most 48 = .ok (.iconst 0, 1) := by decide +kernel
theorem dX10_most_49 : decode cX10_most 49 = .ok (.istore 7, 2) := by decide +kernel
theorem dX10_most_51 : decode cX10_most 51 = .ok (.iload 7, 2) := by decide +kernel
theorem dX10_most_53 : decode cX10_most 53 = .ok (.iload 6, 2) := by decide +kernel
theorem dX10_most_55 : decode cX10_most 55 = .ok (.if_icmp .ge 56, 3) := by decide +kernel
theorem dX10_most_58 : decode cX10_most 58 = .ok (.aload_n 0, 1) := by decide +kernel
theorem dX10_most_59 : decode cX10_most 59 = .ok (.iload_n 1, 1) := by decide +kernel
theorem dX10_most_60 : decode cX10_most 60 = .ok (.iload_n 2, 1) := by decide +kernel
theorem dX10_most_61 : decode cX10_most 61 = .ok (.iload 7, 2) := by decide +kernel
theorem dX10_most_63 : decode cX10_most 63 = .ok (.iconst (-1), 1) := by decide +kernel
theorem dX10_most_64 : decode cX10_most 64 = .ok (.invokevirtual 245, 3) := by decide +kernel
theorem dX10_most_67 : decode cX10_most 67 = .ok (.aload_n 0, 1) := by decide +kernel
theorem dX10_most_68 : decode cX10_most 68 = .ok (.getfield 216, 3) := by decide +kernel
theorem dX10_most_71 : decode cX10_most 71 = .ok (.iload 5, 2) := by decide +kernel
theorem dX10_most_73 : decode cX10_most 73 = .ok (.if_icmp .le 8, 3) := by decide +kernel
theorem dX10_most_76 : decode cX10_most 76 = .ok (.iload 7, 2) := by decide +kernel
theorem dX10_most_78 : decode cX10_most 78 = .ok (.goto 5, 3) := by decide +kernel
theorem dX10_most_81 : decode cX10_most 81 = .ok (.iload 4, 2) := by decide +kernel
theorem dX10_most_83 : decode cX10_most 83 = .ok (.istore 4, 2) := by decide +kernel
theorem dX10_most_85 : decode cX10_most 85 = .ok (.aload_n 0, 1) := by decide +kernel
theorem dX10_most_86 : decode cX10_most 86 = .ok (.getfield 216, 3) := by decide +kernel
theorem dX10_most_89 : decode cX10_most 89 = .ok (.iload 5, 2) := by decide +kernel
theorem dX10_most_91 : decode cX10_most 91 = .ok (.if_icmp .le 10, 3) := by decide +kernel
theorem dX10_most_94 : decode cX10_most 94 = .ok (.aload_n 0, 1) := by decide +kernel
theorem dX10_most_95 : decode cX10_most 95 = .ok (.getfield 216, 3) := by decide +kernel
theorem dX10_most_98 : decode cX10_most 98 = .ok (.goto 5, 3) := by decide +kernel
theorem dX10_most_101 : decode cX10_most 101 = .ok (.iload 5, 2) := by decide +kernel
theorem dX10_most_103 : decode cX10_most 103 = .ok (.istore 5, 2) := by decide +kernel
theorem dX10_most_105 : decode cX10_most 105 = .ok (.iinc 7 1, 3) := by decide +kernel
theorem dX10_most_108 : decode cX10_most 108 = .ok (.goto (-57), 3) := by decide +kernel
theorem dX10_most_111 : decode cX10_most 111 = .ok (.iload_n 3, 1) := by decide +kernel
theorem dX10_most_112 : decode cX10_most 112 = .ok (.ifCond .ne 8, 3) := by decide +kernel
theorem dX10_most_115 : decode cX10_most 115 = .ok (.iload 4, 2) := by decide +kernel
theorem dX10_most_117 : decode cX10_most 117 = .ok (.goto 5, 3) := by decide +kernel
theorem dX10_most_120 : decode cX10_most 120 = .ok (.iload 5, 2) := by decide +kernel
theorem dX10_most_122 : decode cX10_most 122 = .ok (.ireturn, 1) := by decide +kernel
set_option maxRecDepth 20000 in
theorem ggX10_together_X10_isAsked : GoodIn wsX10_together wsX10_isAsked := goodIn_r _ [8, 9, 10, 7, 11] rfl (by decide +kernel)
set_option maxRecDepth 20000 in
theorem gX10_together_X10_isAsked : GoodIn wsX10_together (wsV RX10 239 RX10 yX10_isAsked wsX10_isAsked) := goodIn_app (goodIn_r _ [4, 5, 6, 7] rfl (by decide +kernel)) ggX10_together_X10_isAsked
set_option maxRecDepth 20000 in
theorem ggX10_together_X10_isOpen : GoodIn wsX10_together wsX10_isOpen := goodIn_r _ [15, 16, 17, 18, 7, 19, 20, 21, 22, 23, 9, 10, 11, 87, 88, 89, 90, 91, 92, 93, 94, 95, 96, 97, 98, 99, 100, 101, 102, 103, 104, 105, 106, 107, 108, 109, 110, 111, 112, 113, 114, 115, 116, 117, 118, 119, 120, 121, 122, 123, 124, 125, 126] rfl (by decide +kernel)
set_option maxRecDepth 20000 in
theorem gX10_together_X10_isOpen : GoodIn wsX10_together (wsV RX10 242 RX10 yX10_isOpen wsX10_isOpen) := goodIn_app (goodIn_r _ [12, 13, 14, 7] rfl (by decide +kernel)) ggX10_together_X10_isOpen
set_option maxRecDepth 20000 in
theorem ggX10_together_X10_learns : GoodIn wsX10_together wsX10_learns := goodIn_r _ [27, 28, 29, 30, 31, 16, 17, 18, 7, 19, 20, 21, 22, 23, 32, 33, 34, 35, 3, 36, 37, 38, 39, 40, 41, 42, 43, 44, 45, 46, 47, 48, 49, 50, 51, 2, 52, 53, 54, 55, 56, 57, 58, 59, 60, 61, 62, 63, 64, 65, 66, 67, 68, 69, 70, 71, 72, 73, 74, 75, 76, 77, 78, 79, 80, 81, 82, 83, 84, 85, 86, 87, 88, 89, 90, 91, 92, 93, 94, 95, 96, 97, 98, 99, 100, 101, 102, 103, 104, 105, 106, 107, 108, 109, 110, 111, 112, 113, 114, 115, 116, 117, 118, 119, 120, 121, 122, 123, 124, 125, 126] rfl (by decide +kernel)
set_option maxRecDepth 20000 in
theorem gX10_together_X10_learns : GoodIn wsX10_together (wsV RX10 245 RX10 yX10_learns wsX10_learns) := goodIn_app (goodIn_r _ [24, 25, 26, 7] rfl (by decide +kernel)) ggX10_together_X10_learns
theorem dX10_together_0 : decode cX10_together 0 = .ok (.aload_n 0, 1) := by decide +kernel
theorem dX10_together_1 : decode cX10_together 1 = .ok (.iconst 0, 1) := by decide +kernel
theorem dX10_together_2 : decode cX10_together 2 = .ok (.putfield 80, 3) := by decide +kernel
theorem dX10_together_5 : decode cX10_together 5 = .ok (.aload_n 0, 1) := by decide +kernel
theorem dX10_together_6 : decode cX10_together 6 = .ok (.iload_n 1, 1) := by decide +kernel
theorem dX10_together_7 : decode cX10_together 7 = .ok (.iload_n 2, 1) := by decide +kernel
theorem dX10_together_8 : decode cX10_together 8 = .ok (.invokevirtual 239, 3) := by decide +kernel
theorem dX10_together_11 : decode cX10_together 11 = .ok (.ifCond .eq 22, 3) := by decide +kernel
theorem dX10_together_14 : decode cX10_together 14 = .ok (.aload_n 0, 1) := by decide +kernel
theorem dX10_together_15 : decode cX10_together 15 = .ok (.iload_n 1, 1) := by decide +kernel
theorem dX10_together_16 : decode cX10_together 16 = .ok (.iload_n 3, 1) := by decide +kernel
theorem dX10_together_17 : decode cX10_together 17 = .ok (.invokevirtual 242, 3) := by decide +kernel
theorem dX10_together_20 : decode cX10_together 20 = .ok (.ifCond .eq 13, 3) := by decide +kernel
theorem dX10_together_23 : decode cX10_together 23 = .ok (.aload_n 0, 1) := by decide +kernel
theorem dX10_together_24 : decode cX10_together 24 = .ok (.iload_n 1, 1) := by decide +kernel
theorem dX10_together_25 : decode cX10_together 25 = .ok (.iload 4, 2) := by decide +kernel
theorem dX10_together_27 : decode cX10_together 27 = .ok (.invokevirtual 242, 3) := by decide +kernel
theorem dX10_together_30 : decode cX10_together 30 = .ok (.ifCond .ne 5, 3) := by decide +kernel
theorem dX10_together_33 : decode cX10_together 33 = .ok (.iconst (-1), 1) := by decide +kernel
theorem dX10_together_34 : decode cX10_together 34 = .ok (.ireturn, 1) := by decide +kernel
theorem dX10_together_35 : decode cX10_together 35 = .ok (.aload_n 0, 1) := by decide +kernel
theorem dX10_together_36 : decode cX10_together 36 = .ok (.iconst 0, 1) := by decide +kernel
theorem dX10_together_37 : decode cX10_together 37 = .ok (.putfield 177, 3) := by decide +kernel
theorem dX10_together_40 : decode cX10_together 40 = .ok (.aload_n 0, 1) := by decide +kernel
theorem dX10_together_41 : decode cX10_together 41 = .ok (.iload_n 1, 1) := by decide +kernel
theorem dX10_together_42 : decode cX10_together 42 = .ok (.iload_n 2, 1) := by decide +kernel
theorem dX10_together_43 : decode cX10_together 43 = .ok (.iload_n 3, 1) := by decide +kernel
theorem dX10_together_44 : decode cX10_together 44 = .ok (.iload 4, 2) := by decide +kernel
theorem dX10_together_46 : decode cX10_together 46 = .ok (.invokevirtual 245, 3) := by decide +kernel
theorem dX10_together_49 : decode cX10_together 49 = .ok (.aload_n 0, 1) := by decide +kernel
theorem dX10_together_50 : decode cX10_together 50 = .ok (.getfield 216, 3) := by decide +kernel
theorem dX10_together_53 : decode cX10_together 53 = .ok (.ireturn, 1) := by decide +kernel
set_option maxRecDepth 20000 in
theorem ggX10_both_X10_in : GoodIn wsX10_both wsX10_in := goodIn_r _ [15] rfl (by decide +kernel)
set_option maxRecDepth 20000 in
theorem gX10_both_X10_in : GoodIn wsX10_both (va_wsS RX10 84 yX10_in wsX10_in) := goodIn_app (goodIn_r _ [12, 13, 14] rfl (by decide +kernel)) ggX10_both_X10_in
set_option maxRecDepth 20000 in
theorem ggX10_both_X10_isOpen : GoodIn wsX10_both wsX10_isOpen := goodIn_r _ [19, 20, 21, 22, 14, 23, 5, 24, 25, 26, 12, 13, 15, 80, 81, 82, 83, 84, 85, 86, 87, 88, 89, 90, 91, 92, 93, 94, 95, 96, 97, 98, 99, 100, 101, 102, 103, 104, 105, 106, 107, 108, 109, 110, 111, 112, 113, 114, 115, 116, 117, 118, 119] rfl (by decide +kernel)
set_option maxRecDepth 20000 in
theorem gX10_both_X10_isOpen : GoodIn wsX10_both (wsV RX10 242 RX10 yX10_isOpen wsX10_isOpen) := goodIn_app (goodIn_r _ [16, 17, 18, 14] rfl (by decide +kernel)) ggX10_both_X10_isOpen
set_option maxRecDepth 20000 in
theorem ggX10_both_X10_cells : GoodIn wsX10_both wsX10_cells := goodIn_r _ [23, 5, 24, 25, 14, 26, 80, 81, 82, 83, 84, 85, 86, 87, 88, 89, 90, 91, 92, 93, 94, 95, 96, 97, 98, 99, 100, 101, 102, 103, 104, 105, 106, 107, 108, 109, 110, 111, 112, 113, 114, 115, 116, 117, 118, 119] rfl (by decide +kernel)
set_option maxRecDepth 20000 in
theorem gX10_both_X10_cells : GoodIn wsX10_both (wsV RX10 219 RX10 yX10_cells wsX10_cells) := goodIn_app (goodIn_r _ [20, 21, 22, 14] rfl (by decide +kernel)) ggX10_both_X10_cells
set_option maxRecDepth 20000 in
theorem ggX10_both_X10_clears : GoodIn wsX10_both wsX10_clears := goodIn_r _ [30, 3, 11, 31, 7, 80, 81, 82, 83, 84, 85, 86, 87, 88, 89, 90, 91, 92, 93, 94, 95, 96, 97, 98, 99, 100, 101, 102, 103, 104, 105, 106, 107, 108, 109, 110, 111, 112, 113, 114, 115, 116, 117, 118, 119] rfl (by decide +kernel)
set_option maxRecDepth 20000 in
theorem gX10_both_X10_clears : GoodIn wsX10_both (wsV RX10 223 RX10 yX10_clears wsX10_clears) := goodIn_app (goodIn_r _ [27, 28, 29, 14] rfl (by decide +kernel)) ggX10_both_X10_clears
set_option maxRecDepth 20000 in
theorem ggX10_both_X10_tells : GoodIn wsX10_both wsX10_tells := goodIn_r _ [35, 5, 6, 24, 25, 14, 26, 80, 81, 82, 83, 84, 85, 86, 87, 88, 89, 90, 91, 92, 93, 94, 95, 96, 97, 98, 99, 100, 101, 102, 103, 104, 105, 106, 107, 108, 109, 110, 111, 112, 113, 114, 115, 116, 117, 118, 119] rfl (by decide +kernel)
set_option maxRecDepth 20000 in
theorem gX10_both_X10_tells : GoodIn wsX10_both (wsV RX10 226 RX10 yX10_tells wsX10_tells) := goodIn_app (goodIn_r _ [32, 33, 34, 14] rfl (by decide +kernel)) ggX10_both_X10_tells
set_option maxRecDepth 20000 in
theorem ggX10_both_X10_runs : GoodIn wsX10_both wsX10_runs := goodIn_r _ [39, 10, 40, 41, 42, 43, 44, 45, 2, 6, 46, 47, 48, 49, 50, 14, 51, 52, 53, 54, 55, 56, 57, 80, 81, 82, 83, 84, 85, 86, 87, 88, 89, 90, 91, 92, 93, 94, 95, 96, 97, 98, 99, 100, 101, 102, 103, 104, 105, 106, 107, 108, 109, 110, 111, 112, 113, 114, 115, 116, 117, 118, 119] rfl (by decide +kernel)
set_option maxRecDepth 20000 in
theorem gX10_both_X10_runs : GoodIn wsX10_both (wsV RX10 186 RX10 yX10_runs wsX10_runs) := goodIn_app (goodIn_r _ [36, 37, 38, 14] rfl (by decide +kernel)) ggX10_both_X10_runs
set_option maxRecDepth 20000 in
theorem ggX10_both_X10_sees : GoodIn wsX10_both wsX10_sees := goodIn_r _ [61, 5, 4, 6, 40, 47, 62, 46, 7, 24, 25, 14, 26, 63, 64, 65, 80, 81, 82, 83, 84, 85, 86, 87, 88, 89, 90, 91, 92, 93, 94, 95, 96, 97, 98, 99, 100, 101, 102, 103, 104, 105, 106, 107, 108, 109, 110, 111, 112, 113, 114, 115, 116, 117, 118, 119] rfl (by decide +kernel)
set_option maxRecDepth 20000 in
theorem gX10_both_X10_sees : GoodIn wsX10_both (wsV RX10 230 RX10 yX10_sees wsX10_sees) := goodIn_app (goodIn_r _ [58, 59, 60, 14] rfl (by decide +kernel)) ggX10_both_X10_sees
set_option maxRecDepth 20000 in
theorem ggX10_both_X10_takes : GoodIn wsX10_both wsX10_takes := goodIn_r _ [69, 70, 7, 71, 72, 3, 31, 73, 74, 75, 11, 76, 77, 78, 14, 79, 80, 81, 82, 83, 84, 85, 86, 87, 88, 89, 90, 91, 92, 93, 94, 95, 96, 97, 98, 99, 100, 101, 102, 103, 104, 105, 106, 107, 108, 109, 110, 111, 112, 113, 114, 115, 116, 117, 118, 119] rfl (by decide +kernel)
set_option maxRecDepth 20000 in
theorem gX10_both_X10_takes : GoodIn wsX10_both (wsV RX10 236 RX10 yX10_takes wsX10_takes) := goodIn_app (goodIn_r _ [66, 67, 68, 14] rfl (by decide +kernel)) ggX10_both_X10_takes
theorem dX10_both_0 : decode cX10_both 0 = .ok (.aload_n 0, 1) := by decide +kernel
theorem dX10_both_1 : decode cX10_both 1 = .ok (.iconst 0, 1) := by decide +kernel
theorem dX10_both_2 : decode cX10_both 2 = .ok (.putfield 80, 3) := by decide +kernel
theorem dX10_both_5 : decode cX10_both 5 = .ok (.iload_n 1, 1) := by decide +kernel
theorem dX10_both_6 : decode cX10_both 6 = .ok (.iconst 0, 1) := by decide +kernel
theorem dX10_both_7 : decode cX10_both 7 = .ok (.iconst 1, 1) := by decide +kernel
theorem dX10_both_8 : decode cX10_both 8 = .ok (.invokestatic 84, 3) := by decide +kernel
theorem dX10_both_11 : decode cX10_both 11 = .ok (.ifCond .eq 12, 3) := by decide +kernel
theorem dX10_both_14 : decode cX10_both 14 = .ok (.aload_n 0, 1) := by decide +kernel
theorem dX10_both_15 : decode cX10_both 15 = .ok (.iconst 0, 1) := by decide +kernel
theorem dX10_both_16 : decode cX10_both 16 = .ok (.iload_n 2, 1) := by decide +kernel
theorem dX10_both_17 : decode cX10_both 17 = .ok (.invokevirtual 242, 3) := by decide +kernel
theorem dX10_both_20 : decode cX10_both 20 = .ok (.ifCond .ne 5, 3) := by decide +kernel
theorem dX10_both_23 : decode cX10_both 23 = .ok (.iconst (-1), 1) := by decide +kernel
theorem dX10_both_24 : decode cX10_both 24 = .ok (.ireturn, 1) := by decide +kernel
theorem dX10_both_25 : decode cX10_both 25 = .ok (.aload_n 0, 1) := by decide +kernel
theorem dX10_both_26 : decode cX10_both 26 = .ok (.iconst 0, 1) := by decide +kernel
theorem dX10_both_27 : decode cX10_both 27 = .ok (.putfield 177, 3) := by decide +kernel
theorem dX10_both_30 : decode cX10_both 30 = .ok (.aload_n 0, 1) := by decide +kernel
theorem dX10_both_31 : decode cX10_both 31 = .ok (.iconst 1, 1) := by decide +kernel
theorem dX10_both_32 : decode cX10_both 32 = .ok (.iconst 2, 1) := by decide +kernel
theorem dX10_both_33 : decode cX10_both 33 = .ok (.aload_n 0, 1) := by decide +kernel
theorem dX10_both_34 : decode cX10_both 34 = .ok (.iconst 0, 1) := by decide +kernel
theorem dX10_both_35 : decode cX10_both 35 = .ok (.iconst 0, 1) := by decide +kernel
theorem dX10_both_36 : decode cX10_both 36 = .ok (.invokevirtual 219, 3) := by decide +kernel
theorem dX10_both_39 : decode cX10_both 39 = .ok (.imul, 1) := by decide +kernel
theorem dX10_both_40 : decode cX10_both 40 = .ok (.ishl, 1) := by decide +kernel
theorem dX10_both_41 : decode cX10_both 41 = .ok (.invokevirtual 223, 3) := by decide +kernel
theorem dX10_both_44 : decode cX10_both 44 = .ok (.iconst 0, 1) := by decide +kernel
theorem dX10_both_45 : decode cX10_both 45 = .ok (.istore_n 3, 1) := by decide +kernel
theorem dX10_both_46 : decode cX10_both 46 = .ok (.iload_n 3, 1) := by decide +kernel
theorem dX10_both_47 : decode cX10_both 47 = .ok (.aload_n 0, 1) := by decide +kernel
theorem dX10_both_48 : decode cX10_both 48 = .ok (.getfield 210, 3) := by decide +kernel
theorem dX10_both_51 : decode cX10_both 51 = .ok (.if_icmp .ge 144, 3) := by decide +kernel
theorem dX10_both_54 : decode cX10_both 54 = .ok (.aload_n 0, 1) := by decide +kernel
theorem dX10_both_55 : decode cX10_both 55 = .ok (.iconst 0, 1) := by decide +kernel
theorem dX10_both_56 : decode cX10_both 56 = .ok (.iconst 1, 1) := by decide +kernel
theorem dX10_both_57 : decode cX10_both 57 = .ok (.iload_n 2, 1) := by decide +kernel
theorem dX10_both_58 : decode cX10_both 58 = .ok (.invokevirtual 226, 3) := by decide +kernel
theorem dX10_both_61 : decode cX10_both 61 = .ok (.aload_n 0, 1) := by decide +kernel
theorem dX10_both_62 : decode cX10_both 62 = .ok (.iconst 0, 1) := by decide +kernel
theorem dX10_both_63 : decode cX10_both 63 = .ok (.iconst 0, 1) := by decide +kernel
theorem dX10_both_64 : decode cX10_both 64 = .ok (.iload_n 3, 1) := by decide +kernel
theorem dX10_both_65 : decode cX10_both 65 = .ok (.invokevirtual 226, 3) := by decide +kernel
theorem dX10_both_68 : decode cX10_both 68 = .ok (.lconst 0, 1) := by decide +kernel
theorem dX10_both_69 : decode cX10_both 69 = .ok (.lstore 4, 2) := by decide +kernel
theorem dX10_both_71 : decode cX10_both 71 = .ok (.iconst 0, 1) := by decide +kernel
theorem dX10_both_72 : decode cX10_both 72 = .ok (.istore 6, 2) := by decide +kernel
theorem dX10_both_74 : decode cX10_both 74 = .ok (.iload 6, 2) := by decide +kernel
theorem dX10_both_76 : decode cX10_both 76 = .ok (.bipush 6, 2) := by decide +kernel
theorem dX10_both_78 : decode cX10_both 78 = .ok (.if_icmp .ge 52, 3) := by decide +kernel
theorem dX10_both_81 : decode cX10_both 81 = .ok (.ldc2_w 202, 3) := by decide +kernel
theorem dX10_both_84 : decode cX10_both 84 = .ok (.lload 4, 2) := by decide +kernel
theorem dX10_both_86 : decode cX10_both 86 = .ok (.lmul, 1) := by decide +kernel
theorem dX10_both_87 : decode cX10_both 87 = .ok (.aload_n 0, 1) := by decide +kernel
theorem dX10_both_88 : decode cX10_both 88 = .ok (.getfield 7, 3) := by decide +kernel
theorem dX10_both_91 : decode cX10_both 91 = .ok (.iload 6, 2) := by decide +kernel
theorem dX10_both_93 : decode cX10_both 93 = .ok (.iaload, 1) := by decide +kernel
theorem dX10_both_94 : decode cX10_both 94 = .ok (.iconst 1, 1) := by decide +kernel
theorem dX10_both_95 : decode cX10_both 95 = .ok (.if_icmp .eq 14, 3) := by decide +kernel
theorem dX10_both_98 : decode cX10_both 98 = .ok (.aload_n 0, 1) := by decide +kernel
theorem dX10_both_99 : decode cX10_both 99 = .ok (.getfield 7, 3) := by decide +kernel
theorem dX10_both_102 : decode cX10_both 102 = .ok (.iload 6, 2) := by decide +kernel
theorem dX10_both_104 : decode cX10_both 104 = .ok (.iaload, 1) := by decide +kernel
theorem dX10_both_105 : decode cX10_both 105 = .ok (.iconst 2, 1) := by decide +kernel
theorem dX10_both_106 : decode cX10_both 106 = .ok (.if_icmp .ne 13, 3) := by decide +kernel
theorem dX10_both_109 : decode cX10_both 109 = .ok (.aload_n 0, 1) := by decide +kernel
theorem dX10_both_110 : decode cX10_both 110 = .ok (.getfield 43, 3) := by decide +kernel
theorem dX10_both_113 : decode cX10_both 113 = .ok (.iload 6, 2) := by decide +kernel
theorem dX10_both_115 : decode cX10_both 115 = .ok (.iaload, 1) := by decide +kernel
theorem dX10_both_116 : decode cX10_both 116 = .ok (.goto 4, 3) := by decide +kernel
theorem dX10_both_119 : decode cX10_both 119 = .ok (.iconst 0, 1) := by decide +kernel
theorem dX10_both_120 : decode cX10_both 120 = .ok (.i2l, 1) := by decide +kernel
theorem dX10_both_121 : decode cX10_both 121 = .ok (.ladd, 1) := by decide +kernel
theorem dX10_both_122 : decode cX10_both 122 = .ok (.lstore 4, 2) := by decide +kernel
theorem dX10_both_124 : decode cX10_both 124 = .ok (.iinc 6 1, 3) := by decide +kernel
theorem dX10_both_127 : decode cX10_both 127 = .ok (.goto (-53), 3) := by decide +kernel
theorem dX10_both_130 : decode cX10_both 130 = .ok (.aload_n 0, 1) := by decide +kernel
theorem dX10_both_131 : decode cX10_both 131 = .ok (.invokevirtual 186, 3) := by decide +kernel
theorem dX10_both_134 : decode cX10_both 134 = .ok (.aload_n 0, 1) := by decide +kernel
theorem dX10_both_135 : decode cX10_both 135 = .ok (.iconst 1, 1) := by decide +kernel
theorem dX10_both_136 : decode cX10_both 136 = .ok (.iconst 0, 1) := by decide +kernel
theorem dX10_both_137 : decode cX10_both 137 = .ok (.invokevirtual 230, 3) := by decide +kernel
theorem dX10_both_140 : decode cX10_both 140 = .ok (.aload_n 0, 1) := by decide +kernel
theorem dX10_both_141 : decode cX10_both 141 = .ok (.iconst 2, 1) := by decide +kernel
theorem dX10_both_142 : decode cX10_both 142 = .ok (.iconst 3, 1) := by decide +kernel
theorem dX10_both_143 : decode cX10_both 143 = .ok (.invokevirtual 230, 3) := by decide +kernel
theorem dX10_both_146 : decode cX10_both 146 = .ok (.aload_n 0, 1) := by decide +kernel
theorem dX10_both_147 : decode cX10_both 147 = .ok (.getfield 74, 3) := by decide +kernel
theorem dX10_both_150 : decode cX10_both 150 = .ok (.iconst 0, 1) := by decide +kernel
theorem dX10_both_151 : decode cX10_both 151 = .ok (.ldc2_w 252, 3) := by decide +kernel
theorem dX10_both_154 : decode cX10_both 154 = .ok (.ldc2_w 254, 3) := by decide +kernel
theorem dX10_both_157 : decode cX10_both 157 = .ok (.aload_n 0, 1) := by decide +kernel
theorem dX10_both_158 : decode cX10_both 158 = .ok (.getfield 74, 3) := by decide +kernel
theorem dX10_both_161 : decode cX10_both 161 = .ok (.iconst 0, 1) := by decide +kernel
theorem dX10_both_162 : decode cX10_both 162 = .ok (.laload, 1) := by decide +kernel
theorem dX10_both_163 : decode cX10_both 163 = .ok (.lmul, 1) := by decide +kernel
theorem dX10_both_164 : decode cX10_both 164 = .ok (.lload 4, 2) := by decide +kernel
theorem dX10_both_166 : decode cX10_both 166 = .ok (.ladd, 1) := by decide +kernel
theorem dX10_both_167 : decode cX10_both 167 = .ok (.lmul, 1) := by decide +kernel
theorem dX10_both_168 : decode cX10_both 168 = .ok (.iload_n 1, 1) := by decide +kernel
theorem dX10_both_169 : decode cX10_both 169 = .ok (.iconst 1, 1) := by decide +kernel
theorem dX10_both_170 : decode cX10_both 170 = .ok (.if_icmp .ne 10, 3) := by decide +kernel
theorem dX10_both_173 : decode cX10_both 173 = .ok (.aload_n 0, 1) := by decide +kernel
theorem dX10_both_174 : decode cX10_both 174 = .ok (.getfield 171, 3) := by decide +kernel
theorem dX10_both_177 : decode cX10_both 177 = .ok (.goto 4, 3) := by decide +kernel
theorem dX10_both_180 : decode cX10_both 180 = .ok (.iconst 0, 1) := by decide +kernel
theorem dX10_both_181 : decode cX10_both 181 = .ok (.i2l, 1) := by decide +kernel
theorem dX10_both_182 : decode cX10_both 182 = .ok (.ladd, 1) := by decide +kernel
theorem dX10_both_183 : decode cX10_both 183 = .ok (.lastore, 1) := by decide +kernel
theorem dX10_both_184 : decode cX10_both 184 = .ok (.aload_n 0, 1) := by decide +kernel
theorem dX10_both_185 : decode cX10_both 185 = .ok (.iload_n 3, 1) := by decide +kernel
theorem dX10_both_186 : decode cX10_both 186 = .ok (.invokevirtual 236, 3) := by decide +kernel
theorem dX10_both_189 : decode cX10_both 189 = .ok (.iinc 3 1, 3) := by decide +kernel
theorem dX10_both_192 : decode cX10_both 192 = .ok (.goto (-146), 3) := by decide +kernel
theorem dX10_both_195 : decode cX10_both 195 = .ok (.aload_n 0, 1) := by decide +kernel
theorem dX10_both_196 : decode cX10_both 196 = .ok (.getfield 216, 3) := by decide +kernel
theorem dX10_both_199 : decode cX10_both 199 = .ok (.ireturn, 1) := by decide +kernel
set_option maxRecDepth 20000 in
theorem ggX10_sumLevel_X10_in : GoodIn wsX10_sumLevel wsX10_in := goodIn_r _ [8] rfl (by decide +kernel)
set_option maxRecDepth 20000 in
theorem gX10_sumLevel_X10_in : GoodIn wsX10_sumLevel (va_wsS RX10 84 yX10_in wsX10_in) := goodIn_app (goodIn_r _ [5, 6, 7] rfl (by decide +kernel)) ggX10_sumLevel_X10_in
theorem dX10_sumLevel_0 : decode cX10_sumLevel 0 = .ok (.iconst 0, 1) := by decide +kernel
theorem dX10_sumLevel_1 : decode cX10_sumLevel 1 = .ok (.istore_n 3, 1) := by decide +kernel
theorem dX10_sumLevel_2 : decode cX10_sumLevel 2 = .ok (.aload_n 0, 1) := by decide +kernel
theorem dX10_sumLevel_3 : decode cX10_sumLevel 3 = .ok (.getfield 16, 3) := by decide +kernel
theorem dX10_sumLevel_6 : decode cX10_sumLevel 6 = .ok (.bipush 8, 2) := by decide +kernel
theorem dX10_sumLevel_8 : decode cX10_sumLevel 8 = .ok (.iload_n 1, 1) := by decide +kernel
theorem dX10_sumLevel_9 : decode cX10_sumLevel 9 = .ok (.imul, 1) := by decide +kernel
theorem dX10_sumLevel_10 : decode cX10_sumLevel 10 = .ok (.iconst 2, 1) := by decide +kernel
theorem dX10_sumLevel_11 : decode cX10_sumLevel 11 = .ok (.iadd, 1) := by decide +kernel
theorem dX10_sumLevel_12 : decode cX10_sumLevel 12 = .ok (.iaload, 1) := by decide +kernel
theorem dX10_sumLevel_13 : decode cX10_sumLevel 13 = .ok (.istore 4, 2) := by decide +kernel
theorem dX10_sumLevel_15 : decode cX10_sumLevel 15 = .ok (.iload 4, 2) := by decide +kernel
theorem dX10_sumLevel_17 : decode cX10_sumLevel 17 = .ok (.istore 5, 2) := by decide +kernel
theorem dX10_sumLevel_19 : decode cX10_sumLevel 19 = .ok (.iload 5, 2) := by decide +kernel
theorem dX10_sumLevel_21 : decode cX10_sumLevel 21 = .ok (.iload 4, 2) := by decide +kernel
theorem dX10_sumLevel_23 : decode cX10_sumLevel 23 = .ok (.aload_n 0, 1) := by decide +kernel
theorem dX10_sumLevel_24 : decode cX10_sumLevel 24 = .ok (.getfield 16, 3) := by decide +kernel
theorem dX10_sumLevel_27 : decode cX10_sumLevel 27 = .ok (.bipush 8, 2) := by decide +kernel
theorem dX10_sumLevel_29 : decode cX10_sumLevel 29 = .ok (.iload_n 1, 1) := by decide +kernel
theorem dX10_sumLevel_30 : decode cX10_sumLevel 30 = .ok (.imul, 1) := by decide +kernel
theorem dX10_sumLevel_31 : decode cX10_sumLevel 31 = .ok (.iconst 3, 1) := by decide +kernel
theorem dX10_sumLevel_32 : decode cX10_sumLevel 32 = .ok (.iadd, 1) := by decide +kernel
theorem dX10_sumLevel_33 : decode cX10_sumLevel 33 = .ok (.iaload, 1) := by decide +kernel
theorem dX10_sumLevel_34 : decode cX10_sumLevel 34 = .ok (.iadd, 1) := by decide +kernel
theorem dX10_sumLevel_35 : decode cX10_sumLevel 35 = .ok (.if_icmp .ge 78, 3) := by decide +kernel
theorem dX10_sumLevel_38 : decode cX10_sumLevel 38 = .ok (.aload_n 0, 1) := by decide +kernel
theorem dX10_sumLevel_39 : decode cX10_sumLevel 39 = .ok (.getfield 19, 3) := by decide +kernel
theorem dX10_sumLevel_42 : decode cX10_sumLevel 42 = .ok (.iload 5, 2) := by decide +kernel
theorem dX10_sumLevel_44 : decode cX10_sumLevel 44 = .ok (.iaload, 1) := by decide +kernel
theorem dX10_sumLevel_45 : decode cX10_sumLevel 45 = .ok (.bipush 10, 2) := by decide +kernel
theorem dX10_sumLevel_47 : decode cX10_sumLevel 47 = .ok (.bipush 15, 2) := by decide +kernel
theorem dX10_sumLevel_49 : decode cX10_sumLevel 49 = .ok (.invokestatic 84, 3) := by decide +kernel
theorem dX10_sumLevel_52 : decode cX10_sumLevel 52 = .ok (.ifCond .eq 16, 3) := by decide +kernel
theorem dX10_sumLevel_55 : decode cX10_sumLevel 55 = .ok (.aload_n 0, 1) := by decide +kernel
theorem dX10_sumLevel_56 : decode cX10_sumLevel 56 = .ok (.getfield 19, 3) := by decide +kernel
theorem dX10_sumLevel_59 : decode cX10_sumLevel 59 = .ok (.iload 5, 2) := by decide +kernel
theorem dX10_sumLevel_61 : decode cX10_sumLevel 61 = .ok (.iaload, 1) := by decide +kernel
theorem dX10_sumLevel_62 : decode cX10_sumLevel 62 = .ok (.bipush 10, 2) := by decide +kernel
theorem dX10_sumLevel_64 : decode cX10_sumLevel 64 = .ok (.isub, 1) := by decide +kernel
theorem dX10_sumLevel_65 : decode cX10_sumLevel 65 = .ok (.goto 5, 3) := by decide +kernel
theorem dX10_sumLevel_68 : decode cX10_sumLevel 68 = .ok (.bipush (-9), 2) := by decide +kernel
theorem dX10_sumLevel_70 : decode cX10_sumLevel 70 = .ok (.istore 6, 2) := by decide +kernel
theorem dX10_sumLevel_72 : decode cX10_sumLevel 72 = .ok (.iload_n 3, 1) := by decide +kernel
theorem dX10_sumLevel_73 : decode cX10_sumLevel 73 = .ok (.iload 6, 2) := by decide +kernel
theorem dX10_sumLevel_75 : decode cX10_sumLevel 75 = .ok (.bipush (-9), 2) := by decide +kernel
theorem dX10_sumLevel_77 : decode cX10_sumLevel 77 = .ok (.if_icmp .ne 7, 3) := by decide +kernel
theorem dX10_sumLevel_80 : decode cX10_sumLevel 80 = .ok (.iconst 0, 1) := by decide +kernel
theorem dX10_sumLevel_81 : decode cX10_sumLevel 81 = .ok (.goto 24, 3) := by decide +kernel
theorem dX10_sumLevel_84 : decode cX10_sumLevel 84 = .ok (.iload_n 2, 1) := by decide +kernel
theorem dX10_sumLevel_85 : decode cX10_sumLevel 85 = .ok (.ifCond .eq 13, 3) := by decide +kernel
theorem dX10_sumLevel_88 : decode cX10_sumLevel 88 = .ok (.aload_n 0, 1) := by decide +kernel
theorem dX10_sumLevel_89 : decode cX10_sumLevel 89 = .ok (.getfield 77, 3) := by decide +kernel
theorem dX10_sumLevel_92 : decode cX10_sumLevel 92 = .ok (.iload 6, 2) := by decide +kernel
theorem dX10_sumLevel_94 : decode cX10_sumLevel 94 = .ok (.iaload, 1) := by decide +kernel
theorem dX10_sumLevel_95 : decode cX10_sumLevel 95 = .ok (.goto 10, 3) := by decide +kernel
theorem dX10_sumLevel_98 : decode cX10_sumLevel 98 = .ok (.aload_n 0, 1) := by decide +kernel
theorem dX10_sumLevel_99 : decode cX10_sumLevel 99 = .ok (.getfield 7, 3) := by decide +kernel
theorem dX10_sumLevel_102 : decode cX10_sumLevel 102 = .ok (.iload 6, 2) := by decide +kernel
theorem dX10_sumLevel_104 : decode cX10_sumLevel 104 = .ok (.iaload, 1) := by decide +kernel
theorem dX10_sumLevel_105 : decode cX10_sumLevel 105 = .ok (.ior, 1) := by decide +kernel
theorem dX10_sumLevel_106 : decode cX10_sumLevel 106 = .ok (.istore_n 3, 1) := by decide +kernel
theorem dX10_sumLevel_107 : decode cX10_sumLevel 107 = .ok (.iinc 5 1, 3) := by decide +kernel
theorem dX10_sumLevel_110 : decode cX10_sumLevel 110 = .ok (.goto (-91), 3) := by decide +kernel
theorem dX10_sumLevel_113 : decode cX10_sumLevel 113 = .ok (.iload_n 3, 1) := by decide +kernel
theorem dX10_sumLevel_114 : decode cX10_sumLevel 114 = .ok (.ireturn, 1) := by decide +kernel
set_option maxRecDepth 20000 in
theorem ggX10_heldTo_X10_sumLevel : GoodIn wsX10_heldTo wsX10_sumLevel := goodIn_r _ [6, 1, 7, 8, 9, 10, 11, 5, 12, 13, 14, 15, 16, 17, 18, 19, 20, 21, 22, 23, 24, 25, 26, 27, 28, 29, 30, 31, 32, 33, 34, 35, 36, 37, 38, 39, 40, 41, 42, 43, 44, 45, 46, 47, 48, 49, 50, 51, 52] rfl (by decide +kernel)
set_option maxRecDepth 20000 in
theorem gX10_heldTo_X10_sumLevel : GoodIn wsX10_heldTo (wsV RX10 256 RX10 yX10_sumLevel wsX10_sumLevel) := goodIn_app (goodIn_r _ [2, 3, 4, 5] rfl (by decide +kernel)) ggX10_heldTo_X10_sumLevel
theorem dX10_heldTo_0 : decode cX10_heldTo 0 = .ok (.iconst 0, 1) := by decide +kernel
theorem dX10_heldTo_1 : decode cX10_heldTo 1 = .ok (.istore_n 3, 1) := by decide +kernel
theorem dX10_heldTo_2 : decode cX10_heldTo 2 = .ok (.iconst 0, 1) := by decide +kernel
theorem dX10_heldTo_3 : decode cX10_heldTo 3 = .ok (.istore 4, 2) := by decide +kernel
theorem dX10_heldTo_5 : decode cX10_heldTo 5 = .ok (.iload 4, 2) := by decide +kernel
theorem dX10_heldTo_7 : decode cX10_heldTo 7 = .ok (.iload_n 1, 1) := by decide +kernel
theorem dX10_heldTo_8 : decode cX10_heldTo 8 = .ok (.if_icmp .ge 53, 3) := by decide +kernel
theorem dX10_heldTo_11 : decode cX10_heldTo 11 = .ok (.iload_n 3, 1) := by decide +kernel
theorem dX10_heldTo_12 : decode cX10_heldTo 12 = .ok (.aload_n 0, 1) := by decide +kernel
theorem dX10_heldTo_13 : decode cX10_heldTo 13 = .ok (.getfield 16, 3) := by decide +kernel
theorem dX10_heldTo_16 : decode cX10_heldTo 16 = .ok (.bipush 8, 2) := by decide +kernel
theorem dX10_heldTo_18 : decode cX10_heldTo 18 = .ok (.iload 4, 2) := by decide +kernel
theorem dX10_heldTo_20 : decode cX10_heldTo 20 = .ok (.imul, 1) := by decide +kernel
theorem dX10_heldTo_21 : decode cX10_heldTo 21 = .ok (.iaload, 1) := by decide +kernel
theorem dX10_heldTo_22 : decode cX10_heldTo 22 = .ok (.iconst 2, 1) := by decide +kernel
theorem dX10_heldTo_23 : decode cX10_heldTo 23 = .ok (.if_icmp .ne 29, 3) := by decide +kernel
theorem dX10_heldTo_26 : decode cX10_heldTo 26 = .ok (.iload_n 1, 1) := by decide +kernel
theorem dX10_heldTo_27 : decode cX10_heldTo 27 = .ok (.aload_n 0, 1) := by decide +kernel
theorem dX10_heldTo_28 : decode cX10_heldTo 28 = .ok (.getfield 16, 3) := by decide +kernel
theorem dX10_heldTo_31 : decode cX10_heldTo 31 = .ok (.bipush 8, 2) := by decide +kernel
theorem dX10_heldTo_33 : decode cX10_heldTo 33 = .ok (.iload 4, 2) := by decide +kernel
theorem dX10_heldTo_35 : decode cX10_heldTo 35 = .ok (.imul, 1) := by decide +kernel
theorem dX10_heldTo_36 : decode cX10_heldTo 36 = .ok (.iconst 5, 1) := by decide +kernel
theorem dX10_heldTo_37 : decode cX10_heldTo 37 = .ok (.iadd, 1) := by decide +kernel
theorem dX10_heldTo_38 : decode cX10_heldTo 38 = .ok (.iaload, 1) := by decide +kernel
theorem dX10_heldTo_39 : decode cX10_heldTo 39 = .ok (.if_icmp .ge 13, 3) := by decide +kernel
theorem dX10_heldTo_42 : decode cX10_heldTo 42 = .ok (.aload_n 0, 1) := by decide +kernel
theorem dX10_heldTo_43 : decode cX10_heldTo 43 = .ok (.iload 4, 2) := by decide +kernel
theorem dX10_heldTo_45 : decode cX10_heldTo 45 = .ok (.iload_n 2, 1) := by decide +kernel
theorem dX10_heldTo_46 : decode cX10_heldTo 46 = .ok (.invokevirtual 256, 3) := by decide +kernel
theorem dX10_heldTo_49 : decode cX10_heldTo 49 = .ok (.goto 4, 3) := by decide +kernel
theorem dX10_heldTo_52 : decode cX10_heldTo 52 = .ok (.iconst 0, 1) := by decide +kernel
theorem dX10_heldTo_53 : decode cX10_heldTo 53 = .ok (.ior, 1) := by decide +kernel
theorem dX10_heldTo_54 : decode cX10_heldTo 54 = .ok (.istore_n 3, 1) := by decide +kernel
theorem dX10_heldTo_55 : decode cX10_heldTo 55 = .ok (.iinc 4 1, 3) := by decide +kernel
theorem dX10_heldTo_58 : decode cX10_heldTo 58 = .ok (.goto (-53), 3) := by decide +kernel
theorem dX10_heldTo_61 : decode cX10_heldTo 61 = .ok (.iload_n 3, 1) := by decide +kernel
theorem dX10_heldTo_62 : decode cX10_heldTo 62 = .ok (.ireturn, 1) := by decide +kernel
set_option maxRecDepth 20000 in
theorem ggX10_leaks_X10_sumLevel : GoodIn wsX10_leaks wsX10_sumLevel := goodIn_r _ [7, 1, 8, 9, 2, 10, 11, 6, 12, 20, 21, 22, 23, 24, 25, 26, 27, 28, 29, 30, 31, 32, 33, 34, 35, 36, 37, 38, 39, 40, 41, 42, 43, 44, 45, 46, 47, 48, 49, 50, 51, 52, 53, 54, 55, 56, 57, 58, 59] rfl (by decide +kernel)
set_option maxRecDepth 20000 in
theorem gX10_leaks_X10_sumLevel : GoodIn wsX10_leaks (wsV RX10 256 RX10 yX10_sumLevel wsX10_sumLevel) := goodIn_app (goodIn_r _ [3, 4, 5, 6] rfl (by decide +kernel)) ggX10_leaks_X10_sumLevel
set_option maxRecDepth 20000 in
theorem ggX10_leaks_X10_heldTo : GoodIn wsX10_leaks wsX10_heldTo := goodIn_r _ [16, 1, 3, 4, 5, 6, 7, 8, 9, 2, 10, 11, 12, 20, 21, 22, 23, 24, 25, 26, 27, 28, 29, 30, 31, 32, 33, 34, 35, 36, 37, 38, 39, 40, 41, 42, 43, 44, 45, 46, 47, 48, 49, 50, 51, 52, 53, 54, 55, 56, 57, 58, 59] rfl (by decide +kernel)
set_option maxRecDepth 20000 in
theorem gX10_leaks_X10_heldTo : GoodIn wsX10_leaks (wsV RX10 259 RX10 yX10_heldTo wsX10_heldTo) := goodIn_app (goodIn_r _ [13, 14, 15, 6] rfl (by decide +kernel)) ggX10_leaks_X10_heldTo
set_option maxRecDepth 20000 in
theorem ggX10_leaks_X10_isWithin : GoodIn wsX10_leaks wsX10_isWithin := goodIn_r _ [19] rfl (by decide +kernel)
set_option maxRecDepth 20000 in
theorem gX10_leaks_X10_isWithin : GoodIn wsX10_leaks (va_wsS RX10 198 yX10_isWithin wsX10_isWithin) := goodIn_app (goodIn_r _ [17, 18, 6] rfl (by decide +kernel)) ggX10_leaks_X10_isWithin
theorem dX10_leaks_0 : decode cX10_leaks 0 = .ok (.bipush 8, 2) := by decide +kernel
theorem dX10_leaks_2 : decode cX10_leaks 2 = .ok (.iload_n 1, 1) := by decide +kernel
theorem dX10_leaks_3 : decode cX10_leaks 3 = .ok (.imul, 1) := by decide +kernel
theorem dX10_leaks_4 : decode cX10_leaks 4 = .ok (.istore_n 2, 1) := by decide +kernel
theorem dX10_leaks_5 : decode cX10_leaks 5 = .ok (.aload_n 0, 1) := by decide +kernel
theorem dX10_leaks_6 : decode cX10_leaks 6 = .ok (.getfield 16, 3) := by decide +kernel
theorem dX10_leaks_9 : decode cX10_leaks 9 = .ok (.iload_n 2, 1) := by decide +kernel
theorem dX10_leaks_10 : decode cX10_leaks 10 = .ok (.iaload, 1) := by decide +kernel
theorem dX10_leaks_11 : decode cX10_leaks 11 = .ok (.iconst 1, 1) := by decide +kernel
theorem dX10_leaks_12 : decode cX10_leaks 12 = .ok (.if_icmp .le 5, 3) := by decide +kernel
theorem dX10_leaks_15 : decode cX10_leaks 15 = .ok (.iconst 0, 1) := by decide +kernel
theorem dX10_leaks_16 : decode cX10_leaks 16 = .ok (.ireturn, 1) := by decide +kernel
theorem dX10_leaks_17 : decode cX10_leaks 17 = .ok (.aload_n 0, 1) := by decide +kernel
theorem dX10_leaks_18 : decode cX10_leaks 18 = .ok (.getfield 16, 3) := by decide +kernel
theorem dX10_leaks_21 : decode cX10_leaks 21 = .ok (.iload_n 2, 1) := by decide +kernel
theorem dX10_leaks_22 : decode cX10_leaks 22 = .ok (.iaload, 1) := by decide +kernel
theorem dX10_leaks_23 : decode cX10_leaks 23 = .ok (.ifCond .ne 19, 3) := by decide +kernel
theorem dX10_leaks_26 : decode cX10_leaks 26 = .ok (.aload_n 0, 1) := by decide +kernel
theorem dX10_leaks_27 : decode cX10_leaks 27 = .ok (.getfield 7, 3) := by decide +kernel
theorem dX10_leaks_30 : decode cX10_leaks 30 = .ok (.aload_n 0, 1) := by decide +kernel
theorem dX10_leaks_31 : decode cX10_leaks 31 = .ok (.getfield 16, 3) := by decide +kernel
theorem dX10_leaks_34 : decode cX10_leaks 34 = .ok (.iload_n 2, 1) := by decide +kernel
theorem dX10_leaks_35 : decode cX10_leaks 35 = .ok (.iconst 1, 1) := by decide +kernel
theorem dX10_leaks_36 : decode cX10_leaks 36 = .ok (.iadd, 1) := by decide +kernel
theorem dX10_leaks_37 : decode cX10_leaks 37 = .ok (.iaload, 1) := by decide +kernel
theorem dX10_leaks_38 : decode cX10_leaks 38 = .ok (.iaload, 1) := by decide +kernel
theorem dX10_leaks_39 : decode cX10_leaks 39 = .ok (.goto 11, 3) := by decide +kernel
theorem dX10_leaks_42 : decode cX10_leaks 42 = .ok (.aload_n 0, 1) := by decide +kernel
theorem dX10_leaks_43 : decode cX10_leaks 43 = .ok (.getfield 16, 3) := by decide +kernel
theorem dX10_leaks_46 : decode cX10_leaks 46 = .ok (.iload_n 2, 1) := by decide +kernel
theorem dX10_leaks_47 : decode cX10_leaks 47 = .ok (.iconst 1, 1) := by decide +kernel
theorem dX10_leaks_48 : decode cX10_leaks 48 = .ok (.iadd, 1) := by decide +kernel
theorem dX10_leaks_49 : decode cX10_leaks 49 = .ok (.iaload, 1) := by decide +kernel
theorem dX10_leaks_50 : decode cX10_leaks 50 = .ok (.istore_n 3, 1) := by decide +kernel
theorem dX10_leaks_51 : decode cX10_leaks 51 = .ok (.aload_n 0, 1) := by decide +kernel
theorem dX10_leaks_52 : decode cX10_leaks 52 = .ok (.iload_n 1, 1) := by decide +kernel
theorem dX10_leaks_53 : decode cX10_leaks 53 = .ok (.iconst 0, 1) := by decide +kernel
theorem dX10_leaks_54 : decode cX10_leaks 54 = .ok (.invokevirtual 256, 3) := by decide +kernel
theorem dX10_leaks_57 : decode cX10_leaks 57 = .ok (.aload_n 0, 1) := by decide +kernel
theorem dX10_leaks_58 : decode cX10_leaks 58 = .ok (.iload_n 1, 1) := by decide +kernel
theorem dX10_leaks_59 : decode cX10_leaks 59 = .ok (.iconst 0, 1) := by decide +kernel
theorem dX10_leaks_60 : decode cX10_leaks 60 = .ok (.invokevirtual 259, 3) := by decide +kernel
theorem dX10_leaks_63 : decode cX10_leaks 63 = .ok (.ior, 1) := by decide +kernel
theorem dX10_leaks_64 : decode cX10_leaks 64 = .ok (.iload_n 3, 1) := by decide +kernel
theorem dX10_leaks_65 : decode cX10_leaks 65 = .ok (.invokestatic 198, 3) := by decide +kernel
theorem dX10_leaks_68 : decode cX10_leaks 68 = .ok (.ifCond .ne 7, 3) := by decide +kernel
theorem dX10_leaks_71 : decode cX10_leaks 71 = .ok (.iconst 1, 1) := by decide +kernel
theorem dX10_leaks_72 : decode cX10_leaks 72 = .ok (.goto 4, 3) := by decide +kernel
theorem dX10_leaks_75 : decode cX10_leaks 75 = .ok (.iconst 0, 1) := by decide +kernel
theorem dX10_leaks_76 : decode cX10_leaks 76 = .ok (.ireturn, 1) := by decide +kernel
set_option maxRecDepth 20000 in
theorem ggX10_flows_X10_in : GoodIn wsX10_flows wsX10_in := goodIn_r _ [6] rfl (by decide +kernel)
set_option maxRecDepth 20000 in
theorem gX10_flows_X10_in : GoodIn wsX10_flows (va_wsS RX10 84 yX10_in wsX10_in) := goodIn_app (goodIn_r _ [3, 4, 5] rfl (by decide +kernel)) ggX10_flows_X10_in
set_option maxRecDepth 20000 in
theorem ggX10_flows_X10_leaks : GoodIn wsX10_flows wsX10_leaks := goodIn_r _ [10, 11, 12, 13, 14, 15, 5, 16, 17, 18, 3, 4, 6, 19, 20, 21, 22, 23, 24, 25, 26, 27, 28, 29, 30, 31, 32, 33, 34, 35, 36, 37, 38, 39, 40, 41, 42, 43, 44, 45, 46, 47, 48, 49, 50, 51, 52, 53, 54, 55, 56, 57, 58, 59, 60, 61, 62, 63, 64, 65] rfl (by decide +kernel)
set_option maxRecDepth 20000 in
theorem gX10_flows_X10_leaks : GoodIn wsX10_flows (wsV RX10 262 RX10 yX10_leaks wsX10_leaks) := goodIn_app (goodIn_r _ [7, 8, 9, 5] rfl (by decide +kernel)) ggX10_flows_X10_leaks
theorem dX10_flows_0 : decode cX10_flows 0 = .ok (.aload_n 0, 1) := by decide +kernel
theorem dX10_flows_1 : decode cX10_flows 1 = .ok (.iconst 0, 1) := by decide +kernel
theorem dX10_flows_2 : decode cX10_flows 2 = .ok (.putfield 80, 3) := by decide +kernel
theorem dX10_flows_5 : decode cX10_flows 5 = .ok (.iload_n 1, 1) := by decide +kernel
theorem dX10_flows_6 : decode cX10_flows 6 = .ok (.iconst 0, 1) := by decide +kernel
theorem dX10_flows_7 : decode cX10_flows 7 = .ok (.iconst 1, 1) := by decide +kernel
theorem dX10_flows_8 : decode cX10_flows 8 = .ok (.invokestatic 84, 3) := by decide +kernel
theorem dX10_flows_11 : decode cX10_flows 11 = .ok (.ifCond .ne 5, 3) := by decide +kernel
theorem dX10_flows_14 : decode cX10_flows 14 = .ok (.iconst (-1), 1) := by decide +kernel
theorem dX10_flows_15 : decode cX10_flows 15 = .ok (.ireturn, 1) := by decide +kernel
theorem dX10_flows_16 : decode cX10_flows 16 = .ok (.iconst 0, 1) := by decide +kernel
theorem dX10_flows_17 : decode cX10_flows 17 = .ok (.istore_n 2, 1) := by decide +kernel
theorem dX10_flows_18 : decode cX10_flows 18 = .ok (.bipush (-9), 2) := by decide +kernel
theorem dX10_flows_20 : decode cX10_flows 20 = .ok (.istore_n 3, 1) := by decide +kernel
theorem dX10_flows_21 : decode cX10_flows 21 = .ok (.iconst 0, 1) := by decide +kernel
theorem dX10_flows_22 : decode cX10_flows 22 = .ok (.istore 4, 2) := by decide +kernel
theorem dX10_flows_24 : decode cX10_flows 24 = .ok (.iload 4, 2) := by decide +kernel
theorem dX10_flows_26 : decode cX10_flows 26 = .ok (.aload_n 0, 1) := by decide +kernel
theorem dX10_flows_27 : decode cX10_flows 27 = .ok (.getfield 168, 3) := by decide +kernel
theorem dX10_flows_30 : decode cX10_flows 30 = .ok (.if_icmp .ge 34, 3) := by decide +kernel
theorem dX10_flows_33 : decode cX10_flows 33 = .ok (.aload_n 0, 1) := by decide +kernel
theorem dX10_flows_34 : decode cX10_flows 34 = .ok (.iload 4, 2) := by decide +kernel
theorem dX10_flows_36 : decode cX10_flows 36 = .ok (.invokevirtual 262, 3) := by decide +kernel
theorem dX10_flows_39 : decode cX10_flows 39 = .ok (.ifCond .eq 19, 3) := by decide +kernel
theorem dX10_flows_42 : decode cX10_flows 42 = .ok (.iinc 2 1, 3) := by decide +kernel
theorem dX10_flows_45 : decode cX10_flows 45 = .ok (.iload_n 3, 1) := by decide +kernel
theorem dX10_flows_46 : decode cX10_flows 46 = .ok (.bipush (-9), 2) := by decide +kernel
theorem dX10_flows_48 : decode cX10_flows 48 = .ok (.if_icmp .ne 8, 3) := by decide +kernel
theorem dX10_flows_51 : decode cX10_flows 51 = .ok (.iload 4, 2) := by decide +kernel
theorem dX10_flows_53 : decode cX10_flows 53 = .ok (.goto 4, 3) := by decide +kernel
theorem dX10_flows_56 : decode cX10_flows 56 = .ok (.iload_n 3, 1) := by decide +kernel
theorem dX10_flows_57 : decode cX10_flows 57 = .ok (.istore_n 3, 1) := by decide +kernel
theorem dX10_flows_58 : decode cX10_flows 58 = .ok (.iinc 4 1, 3) := by decide +kernel
theorem dX10_flows_61 : decode cX10_flows 61 = .ok (.goto (-37), 3) := by decide +kernel
theorem dX10_flows_64 : decode cX10_flows 64 = .ok (.iload_n 1, 1) := by decide +kernel
theorem dX10_flows_65 : decode cX10_flows 65 = .ok (.ifCond .ne 7, 3) := by decide +kernel
theorem dX10_flows_68 : decode cX10_flows 68 = .ok (.iload_n 2, 1) := by decide +kernel
theorem dX10_flows_69 : decode cX10_flows 69 = .ok (.goto 4, 3) := by decide +kernel
theorem dX10_flows_72 : decode cX10_flows 72 = .ok (.iload_n 3, 1) := by decide +kernel
theorem dX10_flows_73 : decode cX10_flows 73 = .ok (.ireturn, 1) := by decide +kernel
set_option maxRecDepth 20000 in
theorem ggX10_statement_X10_in : GoodIn wsX10_statement wsX10_in := goodIn_r _ [7] rfl (by decide +kernel)
set_option maxRecDepth 20000 in
theorem gX10_statement_X10_in : GoodIn wsX10_statement (va_wsS RX10 84 yX10_in wsX10_in) := goodIn_app (goodIn_r _ [4, 5, 6] rfl (by decide +kernel)) ggX10_statement_X10_in
set_option maxRecDepth 20000 in
theorem ggX10_statement_X10_heldTo : GoodIn wsX10_statement wsX10_heldTo := goodIn_r _ [11, 3, 12, 13, 14, 6, 15, 16, 17, 18, 4, 5, 7, 26, 27, 28, 29, 30, 31, 32, 33, 34, 35, 36, 37, 38, 39, 40, 41, 42, 43, 44, 45, 46, 47, 48, 49, 50, 51, 52, 53, 54, 55, 56, 57, 58, 59, 60, 61, 62, 63, 64, 65] rfl (by decide +kernel)
set_option maxRecDepth 20000 in
theorem gX10_statement_X10_heldTo : GoodIn wsX10_statement (wsV RX10 259 RX10 yX10_heldTo wsX10_heldTo) := goodIn_app (goodIn_r _ [8, 9, 10, 6] rfl (by decide +kernel)) ggX10_statement_X10_heldTo
set_option maxRecDepth 20000 in
theorem ggX10_statement_X10_sumLevel : GoodIn wsX10_statement wsX10_sumLevel := goodIn_r _ [15, 3, 16, 17, 18, 4, 5, 6, 7, 26, 27, 28, 29, 30, 31, 32, 33, 34, 35, 36, 37, 38, 39, 40, 41, 42, 43, 44, 45, 46, 47, 48, 49, 50, 51, 52, 53, 54, 55, 56, 57, 58, 59, 60, 61, 62, 63, 64, 65] rfl (by decide +kernel)
set_option maxRecDepth 20000 in
theorem gX10_statement_X10_sumLevel : GoodIn wsX10_statement (wsV RX10 256 RX10 yX10_sumLevel wsX10_sumLevel) := goodIn_app (goodIn_r _ [12, 13, 14, 6] rfl (by decide +kernel)) ggX10_statement_X10_sumLevel
set_option maxRecDepth 20000 in
theorem ggX10_statement_X10_leaks : GoodIn wsX10_statement wsX10_leaks := goodIn_r _ [22, 3, 18, 12, 13, 14, 6, 15, 16, 17, 4, 5, 7, 8, 9, 10, 11, 23, 24, 25, 26, 27, 28, 29, 30, 31, 32, 33, 34, 35, 36, 37, 38, 39, 40, 41, 42, 43, 44, 45, 46, 47, 48, 49, 50, 51, 52, 53, 54, 55, 56, 57, 58, 59, 60, 61, 62, 63, 64, 65] rfl (by decide +kernel)
set_option maxRecDepth 20000 in
theorem gX10_statement_X10_leaks : GoodIn wsX10_statement (wsV RX10 262 RX10 yX10_leaks wsX10_leaks) := goodIn_app (goodIn_r _ [19, 20, 21, 6] rfl (by decide +kernel)) ggX10_statement_X10_leaks
theorem dX10_statement_0 : decode cX10_statement 0 = .ok (.aload_n 0, 1) := by decide +kernel
theorem dX10_statement_1 : decode cX10_statement 1 = .ok (.iconst 0, 1) := by decide +kernel
theorem dX10_statement_2 : decode cX10_statement 2 = .ok (.putfield 80, 3) := by decide +kernel
theorem dX10_statement_5 : decode cX10_statement 5 = .ok (.iload_n 1, 1) := by decide +kernel
theorem dX10_statement_6 : decode cX10_statement 6 = .ok (.iconst 0, 1) := by decide +kernel
theorem dX10_statement_7 : decode cX10_statement 7 = .ok (.aload_n 0, 1) := by decide +kernel
theorem dX10_statement_8 : decode cX10_statement 8 = .ok (.getfield 168, 3) := by decide +kernel
theorem dX10_statement_11 : decode cX10_statement 11 = .ok (.iconst 1, 1) := by decide +kernel
theorem dX10_statement_12 : decode cX10_statement 12 = .ok (.isub, 1) := by decide +kernel
theorem dX10_statement_13 : decode cX10_statement 13 = .ok (.invokestatic 84, 3) := by decide +kernel
theorem dX10_statement_16 : decode cX10_statement 16 = .ok (.ifCond .eq 12, 3) := by decide +kernel
theorem dX10_statement_19 : decode cX10_statement 19 = .ok (.iload_n 2, 1) := by decide +kernel
theorem dX10_statement_20 : decode cX10_statement 20 = .ok (.iconst 0, 1) := by decide +kernel
theorem dX10_statement_21 : decode cX10_statement 21 = .ok (.iconst 3, 1) := by decide +kernel
theorem dX10_statement_22 : decode cX10_statement 22 = .ok (.invokestatic 84, 3) := by decide +kernel
theorem dX10_statement_25 : decode cX10_statement 25 = .ok (.ifCond .ne 5, 3) := by decide +kernel
theorem dX10_statement_28 : decode cX10_statement 28 = .ok (.iconst (-1), 1) := by decide +kernel
theorem dX10_statement_29 : decode cX10_statement 29 = .ok (.ireturn, 1) := by decide +kernel
theorem dX10_statement_30 : decode cX10_statement 30 = .ok (.iload_n 2, 1) := by decide +kernel
theorem dX10_statement_31 : decode cX10_statement 31 = .ok (.ifCond .ne 12, 3) := by decide +kernel
theorem dX10_statement_34 : decode cX10_statement 34 = .ok (.aload_n 0, 1) := by decide +kernel
theorem dX10_statement_35 : decode cX10_statement 35 = .ok (.iload_n 1, 1) := by decide +kernel
theorem dX10_statement_36 : decode cX10_statement 36 = .ok (.iconst 0, 1) := by decide +kernel
theorem dX10_statement_37 : decode cX10_statement 37 = .ok (.invokevirtual 259, 3) := by decide +kernel
theorem dX10_statement_40 : decode cX10_statement 40 = .ok (.goto 64, 3) := by decide +kernel
theorem dX10_statement_43 : decode cX10_statement 43 = .ok (.iload_n 2, 1) := by decide +kernel
theorem dX10_statement_44 : decode cX10_statement 44 = .ok (.iconst 1, 1) := by decide +kernel
theorem dX10_statement_45 : decode cX10_statement 45 = .ok (.if_icmp .ne 29, 3) := by decide +kernel
theorem dX10_statement_48 : decode cX10_statement 48 = .ok (.aload_n 0, 1) := by decide +kernel
theorem dX10_statement_49 : decode cX10_statement 49 = .ok (.getfield 16, 3) := by decide +kernel
theorem dX10_statement_52 : decode cX10_statement 52 = .ok (.bipush 8, 2) := by decide +kernel
theorem dX10_statement_54 : decode cX10_statement 54 = .ok (.iload_n 1, 1) := by decide +kernel
theorem dX10_statement_55 : decode cX10_statement 55 = .ok (.imul, 1) := by decide +kernel
theorem dX10_statement_56 : decode cX10_statement 56 = .ok (.iaload, 1) := by decide +kernel
theorem dX10_statement_57 : decode cX10_statement 57 = .ok (.iconst 3, 1) := by decide +kernel
theorem dX10_statement_58 : decode cX10_statement 58 = .ok (.if_icmp .ne 7, 3) := by decide +kernel
theorem dX10_statement_61 : decode cX10_statement 61 = .ok (.iconst 0, 1) := by decide +kernel
theorem dX10_statement_62 : decode cX10_statement 62 = .ok (.goto 42, 3) := by decide +kernel
theorem dX10_statement_65 : decode cX10_statement 65 = .ok (.aload_n 0, 1) := by decide +kernel
theorem dX10_statement_66 : decode cX10_statement 66 = .ok (.iload_n 1, 1) := by decide +kernel
theorem dX10_statement_67 : decode cX10_statement 67 = .ok (.iconst 0, 1) := by decide +kernel
theorem dX10_statement_68 : decode cX10_statement 68 = .ok (.invokevirtual 256, 3) := by decide +kernel
theorem dX10_statement_71 : decode cX10_statement 71 = .ok (.goto 33, 3) := by decide +kernel
theorem dX10_statement_74 : decode cX10_statement 74 = .ok (.iload_n 2, 1) := by decide +kernel
theorem dX10_statement_75 : decode cX10_statement 75 = .ok (.iconst 2, 1) := by decide +kernel
theorem dX10_statement_76 : decode cX10_statement 76 = .ok (.if_icmp .ne 19, 3) := by decide +kernel
theorem dX10_statement_79 : decode cX10_statement 79 = .ok (.aload_n 0, 1) := by decide +kernel
theorem dX10_statement_80 : decode cX10_statement 80 = .ok (.iload_n 1, 1) := by decide +kernel
theorem dX10_statement_81 : decode cX10_statement 81 = .ok (.invokevirtual 262, 3) := by decide +kernel
theorem dX10_statement_84 : decode cX10_statement 84 = .ok (.ifCond .eq 7, 3) := by decide +kernel
theorem dX10_statement_87 : decode cX10_statement 87 = .ok (.iconst 1, 1) := by decide +kernel
theorem dX10_statement_88 : decode cX10_statement 88 = .ok (.goto 16, 3) := by decide +kernel
theorem dX10_statement_91 : decode cX10_statement 91 = .ok (.iconst 0, 1) := by decide +kernel
theorem dX10_statement_92 : decode cX10_statement 92 = .ok (.goto 12, 3) := by decide +kernel
theorem dX10_statement_95 : decode cX10_statement 95 = .ok (.aload_n 0, 1) := by decide +kernel
theorem dX10_statement_96 : decode cX10_statement 96 = .ok (.getfield 16, 3) := by decide +kernel
theorem dX10_statement_99 : decode cX10_statement 99 = .ok (.bipush 8, 2) := by decide +kernel
theorem dX10_statement_101 : decode cX10_statement 101 = .ok (.iload_n 1, 1) := by decide +kernel
theorem dX10_statement_102 : decode cX10_statement 102 = .ok (.imul, 1) := by decide +kernel
theorem dX10_statement_103 : decode cX10_statement 103 = .ok (.iaload, 1) := by decide +kernel
theorem dX10_statement_104 : decode cX10_statement 104 = .ok (.ireturn, 1) := by decide +kernel
set_option maxRecDepth 20000 in
theorem ggX10_raised_X10_in : GoodIn wsX10_raised wsX10_in := goodIn_r _ [9] rfl (by decide +kernel)
set_option maxRecDepth 20000 in
theorem gX10_raised_X10_in : GoodIn wsX10_raised (va_wsS RX10 84 yX10_in wsX10_in) := goodIn_app (goodIn_r _ [6, 7, 8] rfl (by decide +kernel)) ggX10_raised_X10_in
set_option maxRecDepth 20000 in
theorem ggX10_raised_X10_sumLevel : GoodIn wsX10_raised wsX10_sumLevel := goodIn_r _ [13, 5, 14, 2, 3, 6, 7, 8, 9, 19, 20, 21, 22, 23, 24, 25, 26, 27, 28, 29, 30, 31, 32, 33, 34, 35, 36, 37, 38, 39, 40, 41, 42, 43, 44, 45, 46, 47, 48, 49, 50, 51, 52, 53, 54, 55, 56, 57, 58] rfl (by decide +kernel)
set_option maxRecDepth 20000 in
theorem gX10_raised_X10_sumLevel : GoodIn wsX10_raised (wsV RX10 256 RX10 yX10_sumLevel wsX10_sumLevel) := goodIn_app (goodIn_r _ [10, 11, 12, 8] rfl (by decide +kernel)) ggX10_raised_X10_sumLevel
set_option maxRecDepth 20000 in
theorem ggX10_raised_X10_heldTo : GoodIn wsX10_raised wsX10_heldTo := goodIn_r _ [18, 5, 10, 11, 12, 8, 13, 14, 2, 3, 6, 7, 9, 19, 20, 21, 22, 23, 24, 25, 26, 27, 28, 29, 30, 31, 32, 33, 34, 35, 36, 37, 38, 39, 40, 41, 42, 43, 44, 45, 46, 47, 48, 49, 50, 51, 52, 53, 54, 55, 56, 57, 58] rfl (by decide +kernel)
set_option maxRecDepth 20000 in
theorem gX10_raised_X10_heldTo : GoodIn wsX10_raised (wsV RX10 259 RX10 yX10_heldTo wsX10_heldTo) := goodIn_app (goodIn_r _ [15, 16, 17, 8] rfl (by decide +kernel)) ggX10_raised_X10_heldTo
theorem dX10_raised_0 : decode cX10_raised 0 = .ok (.aload_n 0, 1) := by decide +kernel
theorem dX10_raised_1 : decode cX10_raised 1 = .ok (.iconst 0, 1) := by decide +kernel
theorem dX10_raised_2 : decode cX10_raised 2 = .ok (.putfield 80, 3) := by decide +kernel
theorem dX10_raised_5 : decode cX10_raised 5 = .ok (.iload_n 1, 1) := by decide +kernel
theorem dX10_raised_6 : decode cX10_raised 6 = .ok (.iconst 0, 1) := by decide +kernel
theorem dX10_raised_7 : decode cX10_raised 7 = .ok (.iconst 5, 1) := by decide +kernel
theorem dX10_raised_8 : decode cX10_raised 8 = .ok (.invokestatic 84, 3) := by decide +kernel
theorem dX10_raised_11 : decode cX10_raised 11 = .ok (.ifCond .ne 5, 3) := by decide +kernel
theorem dX10_raised_14 : decode cX10_raised 14 = .ok (.iconst (-1), 1) := by decide +kernel
theorem dX10_raised_15 : decode cX10_raised 15 = .ok (.ireturn, 1) := by decide +kernel
theorem dX10_raised_16 : decode cX10_raised 16 = .ok (.iconst 0, 1) := by decide +kernel
theorem dX10_raised_17 : decode cX10_raised 17 = .ok (.istore_n 2, 1) := by decide +kernel
theorem dX10_raised_18 : decode cX10_raised 18 = .ok (.iload_n 2, 1) := by decide +kernel
theorem dX10_raised_19 : decode cX10_raised 19 = .ok (.bipush 6, 2) := by decide +kernel
theorem dX10_raised_21 : decode cX10_raised 21 = .ok (.if_icmp .ge 21, 3) := by decide +kernel
theorem dX10_raised_24 : decode cX10_raised 24 = .ok (.aload_n 0, 1) := by decide +kernel
theorem dX10_raised_25 : decode cX10_raised 25 = .ok (.getfield 77, 3) := by decide +kernel
theorem dX10_raised_28 : decode cX10_raised 28 = .ok (.iload_n 2, 1) := by decide +kernel
theorem dX10_raised_29 : decode cX10_raised 29 = .ok (.aload_n 0, 1) := by decide +kernel
theorem dX10_raised_30 : decode cX10_raised 30 = .ok (.getfield 7, 3) := by decide +kernel
theorem dX10_raised_33 : decode cX10_raised 33 = .ok (.iload_n 2, 1) := by decide +kernel
theorem dX10_raised_34 : decode cX10_raised 34 = .ok (.iaload, 1) := by decide +kernel
theorem dX10_raised_35 : decode cX10_raised 35 = .ok (.iastore, 1) := by decide +kernel
theorem dX10_raised_36 : decode cX10_raised 36 = .ok (.iinc 2 1, 3) := by decide +kernel
theorem dX10_raised_39 : decode cX10_raised 39 = .ok (.goto (-21), 3) := by decide +kernel
theorem dX10_raised_42 : decode cX10_raised 42 = .ok (.iconst 1, 1) := by decide +kernel
theorem dX10_raised_43 : decode cX10_raised 43 = .ok (.istore_n 2, 1) := by decide +kernel
theorem dX10_raised_44 : decode cX10_raised 44 = .ok (.iload_n 2, 1) := by decide +kernel
theorem dX10_raised_45 : decode cX10_raised 45 = .ok (.ifCond .eq 101, 3) := by decide +kernel
theorem dX10_raised_48 : decode cX10_raised 48 = .ok (.iconst 0, 1) := by decide +kernel
theorem dX10_raised_49 : decode cX10_raised 49 = .ok (.istore_n 2, 1) := by decide +kernel
theorem dX10_raised_50 : decode cX10_raised 50 = .ok (.iconst 0, 1) := by decide +kernel
theorem dX10_raised_51 : decode cX10_raised 51 = .ok (.istore_n 3, 1) := by decide +kernel
theorem dX10_raised_52 : decode cX10_raised 52 = .ok (.iload_n 3, 1) := by decide +kernel
theorem dX10_raised_53 : decode cX10_raised 53 = .ok (.aload_n 0, 1) := by decide +kernel
theorem dX10_raised_54 : decode cX10_raised 54 = .ok (.getfield 168, 3) := by decide +kernel
theorem dX10_raised_57 : decode cX10_raised 57 = .ok (.if_icmp .ge 86, 3) := by decide +kernel
theorem dX10_raised_60 : decode cX10_raised 60 = .ok (.aload_n 0, 1) := by decide +kernel
theorem dX10_raised_61 : decode cX10_raised 61 = .ok (.getfield 16, 3) := by decide +kernel
theorem dX10_raised_64 : decode cX10_raised 64 = .ok (.bipush 8, 2) := by decide +kernel
theorem dX10_raised_66 : decode cX10_raised 66 = .ok (.iload_n 3, 1) := by decide +kernel
theorem dX10_raised_67 : decode cX10_raised 67 = .ok (.imul, 1) := by decide +kernel
theorem dX10_raised_68 : decode cX10_raised 68 = .ok (.iaload, 1) := by decide +kernel
theorem dX10_raised_69 : decode cX10_raised 69 = .ok (.ifCond .ne 68, 3) := by decide +kernel
theorem dX10_raised_72 : decode cX10_raised 72 = .ok (.aload_n 0, 1) := by decide +kernel
theorem dX10_raised_73 : decode cX10_raised 73 = .ok (.getfield 16, 3) := by decide +kernel
theorem dX10_raised_76 : decode cX10_raised 76 = .ok (.bipush 8, 2) := by decide +kernel
theorem dX10_raised_78 : decode cX10_raised 78 = .ok (.iload_n 3, 1) := by decide +kernel
theorem dX10_raised_79 : decode cX10_raised 79 = .ok (.imul, 1) := by decide +kernel
theorem dX10_raised_80 : decode cX10_raised 80 = .ok (.iconst 1, 1) := by decide +kernel
theorem dX10_raised_81 : decode cX10_raised 81 = .ok (.iadd, 1) := by decide +kernel
theorem dX10_raised_82 : decode cX10_raised 82 = .ok (.iaload, 1) := by decide +kernel
theorem dX10_raised_83 : decode cX10_raised 83 = .ok (.istore 4, 2) := by decide +kernel
theorem dX10_raised_85 : decode cX10_raised 85 = .ok (.aload_n 0, 1) := by decide +kernel
theorem dX10_raised_86 : decode cX10_raised 86 = .ok (.getfield 77, 3) := by decide +kernel
theorem dX10_raised_89 : decode cX10_raised 89 = .ok (.iload 4, 2) := by decide +kernel
theorem dX10_raised_91 : decode cX10_raised 91 = .ok (.iaload, 1) := by decide +kernel
theorem dX10_raised_92 : decode cX10_raised 92 = .ok (.aload_n 0, 1) := by decide +kernel
theorem dX10_raised_93 : decode cX10_raised 93 = .ok (.iload_n 3, 1) := by decide +kernel
theorem dX10_raised_94 : decode cX10_raised 94 = .ok (.iconst 1, 1) := by decide +kernel
theorem dX10_raised_95 : decode cX10_raised 95 = .ok (.invokevirtual 256, 3) := by decide +kernel
theorem dX10_raised_98 : decode cX10_raised 98 = .ok (.ior, 1) := by decide +kernel
theorem dX10_raised_99 : decode cX10_raised 99 = .ok (.aload_n 0, 1) := by decide +kernel
theorem dX10_raised_100 : decode cX10_raised 100 = .ok (.iload_n 3, 1) := by decide +kernel
theorem dX10_raised_101 : decode cX10_raised 101 = .ok (.iconst 1, 1) := by decide +kernel
theorem dX10_raised_102 : decode cX10_raised 102 = .ok (.invokevirtual 259, 3) := by decide +kernel
theorem dX10_raised_105 : decode cX10_raised 105 = .ok (.ior, 1) := by decide +kernel
theorem dX10_raised_106 : decode cX10_raised 106 = .ok (.istore 5, 2) := by decide +kernel
theorem dX10_raised_108 : decode cX10_raised 108 = .ok (.iload_n 2, 1) := by decide +kernel
theorem dX10_raised_109 : decode cX10_raised 109 = .ok (.iload 5, 2) := by decide +kernel
theorem dX10_raised_111 : decode cX10_raised 111 = .ok (.aload_n 0, 1) := by decide +kernel
theorem dX10_raised_112 : decode cX10_raised 112 = .ok (.getfield 77, 3) := by decide +kernel
theorem dX10_raised_115 : decode cX10_raised 115 = .ok (.iload 4, 2) := by decide +kernel
theorem dX10_raised_117 : decode cX10_raised 117 = .ok (.iaload, 1) := by decide +kernel
theorem dX10_raised_118 : decode cX10_raised 118 = .ok (.if_icmp .eq 7, 3) := by decide +kernel
theorem dX10_raised_121 : decode cX10_raised 121 = .ok (.iconst 1, 1) := by decide +kernel
theorem dX10_raised_122 : decode cX10_raised 122 = .ok (.goto 4, 3) := by decide +kernel
theorem dX10_raised_125 : decode cX10_raised 125 = .ok (.iconst 0, 1) := by decide +kernel
theorem dX10_raised_126 : decode cX10_raised 126 = .ok (.ior, 1) := by decide +kernel
theorem dX10_raised_127 : decode cX10_raised 127 = .ok (.istore_n 2, 1) := by decide +kernel
theorem dX10_raised_128 : decode cX10_raised 128 = .ok (.aload_n 0, 1) := by decide +kernel
theorem dX10_raised_129 : decode cX10_raised 129 = .ok (.getfield 77, 3) := by decide +kernel
theorem dX10_raised_132 : decode cX10_raised 132 = .ok (.iload 4, 2) := by decide +kernel
theorem dX10_raised_134 : decode cX10_raised 134 = .ok (.iload 5, 2) := by decide +kernel
theorem dX10_raised_136 : decode cX10_raised 136 = .ok (.iastore, 1) := by decide +kernel
theorem dX10_raised_137 : decode cX10_raised 137 = .ok (.iinc 3 1, 3) := by decide +kernel
theorem dX10_raised_140 : decode cX10_raised 140 = .ok (.goto (-88), 3) := by decide +kernel
theorem dX10_raised_143 : decode cX10_raised 143 = .ok (.goto (-99), 3) := by decide +kernel
theorem dX10_raised_146 : decode cX10_raised 146 = .ok (.aload_n 0, 1) := by decide +kernel
theorem dX10_raised_147 : decode cX10_raised 147 = .ok (.getfield 77, 3) := by decide +kernel
theorem dX10_raised_150 : decode cX10_raised 150 = .ok (.iload_n 1, 1) := by decide +kernel
theorem dX10_raised_151 : decode cX10_raised 151 = .ok (.iaload, 1) := by decide +kernel
theorem dX10_raised_152 : decode cX10_raised 152 = .ok (.ireturn, 1) := by decide +kernel
theorem dX10_outs_0 : decode cX10_outs 0 = .ok (.iconst 0, 1) := by decide +kernel
theorem dX10_outs_1 : decode cX10_outs 1 = .ok (.istore_n 1, 1) := by decide +kernel
theorem dX10_outs_2 : decode cX10_outs 2 = .ok (.iconst 0, 1) := by decide +kernel
theorem dX10_outs_3 : decode cX10_outs 3 = .ok (.istore_n 2, 1) := by decide +kernel
theorem dX10_outs_4 : decode cX10_outs 4 = .ok (.iload_n 2, 1) := by decide +kernel
theorem dX10_outs_5 : decode cX10_outs 5 = .ok (.aload_n 0, 1) := by decide +kernel
theorem dX10_outs_6 : decode cX10_outs 6 = .ok (.getfield 168, 3) := by decide +kernel
theorem dX10_outs_9 : decode cX10_outs 9 = .ok (.if_icmp .ge 30, 3) := by decide +kernel
theorem dX10_outs_12 : decode cX10_outs 12 = .ok (.iload_n 1, 1) := by decide +kernel
theorem dX10_outs_13 : decode cX10_outs 13 = .ok (.aload_n 0, 1) := by decide +kernel
theorem dX10_outs_14 : decode cX10_outs 14 = .ok (.getfield 16, 3) := by decide +kernel
theorem dX10_outs_17 : decode cX10_outs 17 = .ok (.bipush 8, 2) := by decide +kernel
theorem dX10_outs_19 : decode cX10_outs 19 = .ok (.iload_n 2, 1) := by decide +kernel
theorem dX10_outs_20 : decode cX10_outs 20 = .ok (.imul, 1) := by decide +kernel
theorem dX10_outs_21 : decode cX10_outs 21 = .ok (.iaload, 1) := by decide +kernel
theorem dX10_outs_22 : decode cX10_outs 22 = .ok (.iconst 1, 1) := by decide +kernel
theorem dX10_outs_23 : decode cX10_outs 23 = .ok (.if_icmp .ne 7, 3) := by decide +kernel
theorem dX10_outs_26 : decode cX10_outs 26 = .ok (.iconst 1, 1) := by decide +kernel
theorem dX10_outs_27 : decode cX10_outs 27 = .ok (.goto 4, 3) := by decide +kernel
theorem dX10_outs_30 : decode cX10_outs 30 = .ok (.iconst 0, 1) := by decide +kernel
theorem dX10_outs_31 : decode cX10_outs 31 = .ok (.iadd, 1) := by decide +kernel
theorem dX10_outs_32 : decode cX10_outs 32 = .ok (.istore_n 1, 1) := by decide +kernel
theorem dX10_outs_33 : decode cX10_outs 33 = .ok (.iinc 2 1, 3) := by decide +kernel
theorem dX10_outs_36 : decode cX10_outs 36 = .ok (.goto (-32), 3) := by decide +kernel
theorem dX10_outs_39 : decode cX10_outs 39 = .ok (.iload_n 1, 1) := by decide +kernel
theorem dX10_outs_40 : decode cX10_outs 40 = .ok (.ireturn, 1) := by decide +kernel
theorem dX10_ones_0 : decode cX10_ones 0 = .ok (.iconst 0, 1) := by decide +kernel
theorem dX10_ones_1 : decode cX10_ones 1 = .ok (.istore_n 1, 1) := by decide +kernel
theorem dX10_ones_2 : decode cX10_ones 2 = .ok (.iconst 0, 1) := by decide +kernel
theorem dX10_ones_3 : decode cX10_ones 3 = .ok (.istore_n 2, 1) := by decide +kernel
theorem dX10_ones_4 : decode cX10_ones 4 = .ok (.iload_n 2, 1) := by decide +kernel
theorem dX10_ones_5 : decode cX10_ones 5 = .ok (.bipush 8, 2) := by decide +kernel
theorem dX10_ones_7 : decode cX10_ones 7 = .ok (.if_icmp .ge 17, 3) := by decide +kernel
theorem dX10_ones_10 : decode cX10_ones 10 = .ok (.iload_n 1, 1) := by decide +kernel
theorem dX10_ones_11 : decode cX10_ones 11 = .ok (.iload_n 0, 1) := by decide +kernel
theorem dX10_ones_12 : decode cX10_ones 12 = .ok (.iload_n 2, 1) := by decide +kernel
theorem dX10_ones_13 : decode cX10_ones 13 = .ok (.ishr, 1) := by decide +kernel
theorem dX10_ones_14 : decode cX10_ones 14 = .ok (.iconst 1, 1) := by decide +kernel
theorem dX10_ones_15 : decode cX10_ones 15 = .ok (.iand, 1) := by decide +kernel
theorem dX10_ones_16 : decode cX10_ones 16 = .ok (.iadd, 1) := by decide +kernel
theorem dX10_ones_17 : decode cX10_ones 17 = .ok (.istore_n 1, 1) := by decide +kernel
theorem dX10_ones_18 : decode cX10_ones 18 = .ok (.iinc 2 1, 3) := by decide +kernel
theorem dX10_ones_21 : decode cX10_ones 21 = .ok (.goto (-17), 3) := by decide +kernel
theorem dX10_ones_24 : decode cX10_ones 24 = .ok (.iload_n 1, 1) := by decide +kernel
theorem dX10_ones_25 : decode cX10_ones 25 = .ok (.ireturn, 1) := by decide +kernel
set_option maxRecDepth 20000 in
theorem ggX10_stop_X10_isAsked : GoodIn wsX10_stop wsX10_isAsked := goodIn_r _ [7, 8, 9, 6, 10] rfl (by decide +kernel)
set_option maxRecDepth 20000 in
theorem gX10_stop_X10_isAsked : GoodIn wsX10_stop (wsV RX10 239 RX10 yX10_isAsked wsX10_isAsked) := goodIn_app (goodIn_r _ [3, 4, 5, 6] rfl (by decide +kernel)) ggX10_stop_X10_isAsked
set_option maxRecDepth 20000 in
theorem ggX10_stop_X10_in : GoodIn wsX10_stop wsX10_in := goodIn_r _ [10] rfl (by decide +kernel)
set_option maxRecDepth 20000 in
theorem gX10_stop_X10_in : GoodIn wsX10_stop (va_wsS RX10 84 yX10_in wsX10_in) := goodIn_app (goodIn_r _ [8, 9, 6] rfl (by decide +kernel)) ggX10_stop_X10_in
set_option maxRecDepth 20000 in
theorem ggX10_stop_X10_outs : GoodIn wsX10_stop wsX10_outs := goodIn_r _ [14, 15, 16, 94, 95, 96, 97, 98, 99, 100, 101, 102, 103, 104, 105, 106, 107, 108, 109, 110, 111, 112, 113, 114, 115, 116, 117, 118, 119, 120, 121, 122, 123, 124, 125, 126, 127, 128, 129, 130, 131, 132, 133] rfl (by decide +kernel)
set_option maxRecDepth 20000 in
theorem gX10_stop_X10_outs : GoodIn wsX10_stop (wsV RX10 265 RX10 yX10_outs wsX10_outs) := goodIn_app (goodIn_r _ [11, 12, 13, 6] rfl (by decide +kernel)) ggX10_stop_X10_outs
set_option maxRecDepth 20000 in
theorem ggX10_stop_X10_ones : GoodIn wsX10_stop wsX10_ones := goodIn_r _ [19] rfl (by decide +kernel)
set_option maxRecDepth 20000 in
theorem gX10_stop_X10_ones : GoodIn wsX10_stop (va_wsS RX10 269 yX10_ones wsX10_ones) := goodIn_app (goodIn_r _ [17, 18, 6] rfl (by decide +kernel)) ggX10_stop_X10_ones
set_option maxRecDepth 20000 in
theorem ggX10_stop_X10_pairOf : GoodIn wsX10_stop wsX10_pairOf := goodIn_r _ [23, 24, 25, 26, 27, 6, 28, 29, 30, 31, 32, 33, 34, 35, 36, 37, 38, 39, 40, 41, 42, 43, 44, 45, 46, 47, 48, 49, 50, 51, 52, 53, 54, 55, 56, 57, 58, 16, 15, 2, 59, 60, 61, 62, 63, 64, 65, 66, 67, 68, 69, 70, 71, 72, 73, 74, 75, 76, 77, 78, 79, 80, 81, 82, 83, 84, 85, 86, 87, 88, 89, 90, 91, 92, 93, 94, 95, 96, 97, 98, 99, 100, 101, 102, 103, 104, 105, 106, 107, 108, 109, 110, 111, 112, 113, 114, 115, 116, 117, 118, 119, 120, 121, 122, 123, 124, 125, 126, 127, 128, 129, 130, 131, 132, 133] rfl (by decide +kernel)
set_option maxRecDepth 20000 in
theorem gX10_stop_X10_pairOf : GoodIn wsX10_stop (wsV RX10 249 RX10 yX10_pairOf wsX10_pairOf) := goodIn_app (goodIn_r _ [20, 21, 22, 6] rfl (by decide +kernel)) ggX10_stop_X10_pairOf
theorem dX10_stop_0 : decode cX10_stop 0 = .ok (.aload_n 0, 1) := by decide +kernel
theorem dX10_stop_1 : decode cX10_stop 1 = .ok (.iconst 0, 1) := by decide +kernel
theorem dX10_stop_2 : decode cX10_stop 2 = .ok (.putfield 80, 3) := by decide +kernel
theorem dX10_stop_5 : decode cX10_stop 5 = .ok (.aload_n 0, 1) := by decide +kernel
theorem dX10_stop_6 : decode cX10_stop 6 = .ok (.iload_n 1, 1) := by decide +kernel
theorem dX10_stop_7 : decode cX10_stop 7 = .ok (.iload_n 2, 1) := by decide +kernel
theorem dX10_stop_8 : decode cX10_stop 8 = .ok (.invokevirtual 239, 3) := by decide +kernel
theorem dX10_stop_11 : decode cX10_stop 11 = .ok (.ifCond .eq 12, 3) := by decide +kernel
theorem dX10_stop_14 : decode cX10_stop 14 = .ok (.iload_n 3, 1) := by decide +kernel
theorem dX10_stop_15 : decode cX10_stop 15 = .ok (.iconst 0, 1) := by decide +kernel
theorem dX10_stop_16 : decode cX10_stop 16 = .ok (.iconst 1, 1) := by decide +kernel
theorem dX10_stop_17 : decode cX10_stop 17 = .ok (.invokestatic 84, 3) := by decide +kernel
theorem dX10_stop_20 : decode cX10_stop 20 = .ok (.ifCond .ne 5, 3) := by decide +kernel
theorem dX10_stop_23 : decode cX10_stop 23 = .ok (.iconst (-1), 1) := by decide +kernel
theorem dX10_stop_24 : decode cX10_stop 24 = .ok (.ireturn, 1) := by decide +kernel
theorem dX10_stop_25 : decode cX10_stop 25 = .ok (.aload_n 0, 1) := by decide +kernel
theorem dX10_stop_26 : decode cX10_stop 26 = .ok (.invokevirtual 265, 3) := by decide +kernel
theorem dX10_stop_29 : decode cX10_stop 29 = .ok (.istore 4, 2) := by decide +kernel
theorem dX10_stop_31 : decode cX10_stop 31 = .ok (.iload 4, 2) := by decide +kernel
theorem dX10_stop_33 : decode cX10_stop 33 = .ok (.bipush 8, 2) := by decide +kernel
theorem dX10_stop_35 : decode cX10_stop 35 = .ok (.if_icmp .le 6, 3) := by decide +kernel
theorem dX10_stop_38 : decode cX10_stop 38 = .ok (.bipush (-2), 2) := by decide +kernel
theorem dX10_stop_40 : decode cX10_stop 40 = .ok (.ireturn, 1) := by decide +kernel
theorem dX10_stop_41 : decode cX10_stop 41 = .ok (.bipush (-9), 2) := by decide +kernel
theorem dX10_stop_43 : decode cX10_stop 43 = .ok (.istore 5, 2) := by decide +kernel
theorem dX10_stop_45 : decode cX10_stop 45 = .ok (.iconst 1, 1) := by decide +kernel
theorem dX10_stop_46 : decode cX10_stop 46 = .ok (.iload 4, 2) := by decide +kernel
theorem dX10_stop_48 : decode cX10_stop 48 = .ok (.ishl, 1) := by decide +kernel
theorem dX10_stop_49 : decode cX10_stop 49 = .ok (.iconst 1, 1) := by decide +kernel
theorem dX10_stop_50 : decode cX10_stop 50 = .ok (.isub, 1) := by decide +kernel
theorem dX10_stop_51 : decode cX10_stop 51 = .ok (.istore 6, 2) := by decide +kernel
theorem dX10_stop_53 : decode cX10_stop 53 = .ok (.iload 6, 2) := by decide +kernel
theorem dX10_stop_55 : decode cX10_stop 55 = .ok (.ifCond .lt 55, 3) := by decide +kernel
theorem dX10_stop_58 : decode cX10_stop 58 = .ok (.iload 5, 2) := by decide +kernel
theorem dX10_stop_60 : decode cX10_stop 60 = .ok (.bipush (-9), 2) := by decide +kernel
theorem dX10_stop_62 : decode cX10_stop 62 = .ok (.if_icmp .eq 16, 3) := by decide +kernel
theorem dX10_stop_65 : decode cX10_stop 65 = .ok (.iload 6, 2) := by decide +kernel
theorem dX10_stop_67 : decode cX10_stop 67 = .ok (.invokestatic 269, 3) := by decide +kernel
theorem dX10_stop_70 : decode cX10_stop 70 = .ok (.iload 5, 2) := by decide +kernel
theorem dX10_stop_72 : decode cX10_stop 72 = .ok (.invokestatic 269, 3) := by decide +kernel
theorem dX10_stop_75 : decode cX10_stop 75 = .ok (.if_icmp .gt 29, 3) := by decide +kernel
theorem dX10_stop_78 : decode cX10_stop 78 = .ok (.aload_n 0, 1) := by decide +kernel
theorem dX10_stop_79 : decode cX10_stop 79 = .ok (.iload 6, 2) := by decide +kernel
theorem dX10_stop_81 : decode cX10_stop 81 = .ok (.putfield 177, 3) := by decide +kernel
theorem dX10_stop_84 : decode cX10_stop 84 = .ok (.aload_n 0, 1) := by decide +kernel
theorem dX10_stop_85 : decode cX10_stop 85 = .ok (.iload_n 1, 1) := by decide +kernel
theorem dX10_stop_86 : decode cX10_stop 86 = .ok (.iload_n 2, 1) := by decide +kernel
theorem dX10_stop_87 : decode cX10_stop 87 = .ok (.invokevirtual 249, 3) := by decide +kernel
theorem dX10_stop_90 : decode cX10_stop 90 = .ok (.bipush (-9), 2) := by decide +kernel
theorem dX10_stop_92 : decode cX10_stop 92 = .ok (.if_icmp .ne 8, 3) := by decide +kernel
theorem dX10_stop_95 : decode cX10_stop 95 = .ok (.iload 6, 2) := by decide +kernel
theorem dX10_stop_97 : decode cX10_stop 97 = .ok (.goto 5, 3) := by decide +kernel
theorem dX10_stop_100 : decode cX10_stop 100 = .ok (.iload 5, 2) := by decide +kernel
theorem dX10_stop_102 : decode cX10_stop 102 = .ok (.istore 5, 2) := by decide +kernel
theorem dX10_stop_104 : decode cX10_stop 104 = .ok (.iinc 6 (-1), 3) := by decide +kernel
theorem dX10_stop_107 : decode cX10_stop 107 = .ok (.goto (-54), 3) := by decide +kernel
theorem dX10_stop_110 : decode cX10_stop 110 = .ok (.aload_n 0, 1) := by decide +kernel
theorem dX10_stop_111 : decode cX10_stop 111 = .ok (.iconst 0, 1) := by decide +kernel
theorem dX10_stop_112 : decode cX10_stop 112 = .ok (.putfield 177, 3) := by decide +kernel
theorem dX10_stop_115 : decode cX10_stop 115 = .ok (.iload 5, 2) := by decide +kernel
theorem dX10_stop_117 : decode cX10_stop 117 = .ok (.bipush (-9), 2) := by decide +kernel
theorem dX10_stop_119 : decode cX10_stop 119 = .ok (.if_icmp .ne 8, 3) := by decide +kernel
theorem dX10_stop_122 : decode cX10_stop 122 = .ok (.bipush (-9), 2) := by decide +kernel
theorem dX10_stop_124 : decode cX10_stop 124 = .ok (.goto 17, 3) := by decide +kernel
theorem dX10_stop_127 : decode cX10_stop 127 = .ok (.iload_n 3, 1) := by decide +kernel
theorem dX10_stop_128 : decode cX10_stop 128 = .ok (.ifCond .ne 11, 3) := by decide +kernel
theorem dX10_stop_131 : decode cX10_stop 131 = .ok (.iload 5, 2) := by decide +kernel
theorem dX10_stop_133 : decode cX10_stop 133 = .ok (.invokestatic 269, 3) := by decide +kernel
theorem dX10_stop_136 : decode cX10_stop 136 = .ok (.goto 5, 3) := by decide +kernel
theorem dX10_stop_139 : decode cX10_stop 139 = .ok (.iload 5, 2) := by decide +kernel
theorem dX10_stop_141 : decode cX10_stop 141 = .ok (.ireturn, 1) := by decide +kernel
set_option maxRecDepth 20000 in
theorem ggX10_tooMuch_X10_leaks : GoodIn wsX10_tooMuch wsX10_leaks := goodIn_r _ [8, 9, 10, 11, 12, 13, 7, 14, 15, 16, 17, 18, 19, 20, 21, 22, 23, 24, 25, 26, 96, 97, 98, 99, 100, 101, 102, 103, 104, 105, 106, 107, 108, 109, 110, 111, 112, 113, 114, 115, 116, 117, 118, 119, 120, 121, 122, 123, 124, 125, 126, 127, 128, 129, 130, 131, 132, 133, 134, 135] rfl (by decide +kernel)
set_option maxRecDepth 20000 in
theorem gX10_tooMuch_X10_leaks : GoodIn wsX10_tooMuch (wsV RX10 262 RX10 yX10_leaks wsX10_leaks) := goodIn_app (goodIn_r _ [4, 5, 6, 7] rfl (by decide +kernel)) ggX10_tooMuch_X10_leaks
set_option maxRecDepth 20000 in
theorem ggX10_tooMuch_X10_pairOf : GoodIn wsX10_tooMuch wsX10_pairOf := goodIn_r _ [30, 31, 32, 33, 34, 7, 35, 10, 24, 25, 26, 36, 37, 38, 39, 40, 41, 42, 43, 44, 45, 46, 47, 48, 49, 50, 51, 52, 53, 54, 55, 56, 57, 58, 59, 60, 61, 9, 2, 3, 62, 63, 64, 65, 66, 67, 68, 69, 70, 71, 15, 72, 73, 74, 75, 76, 77, 78, 79, 80, 81, 82, 83, 84, 85, 86, 87, 88, 89, 90, 91, 92, 93, 94, 95, 96, 97, 98, 99, 100, 101, 102, 103, 104, 105, 106, 107, 108, 109, 110, 111, 112, 113, 114, 115, 116, 117, 118, 119, 120, 121, 122, 123, 124, 125, 126, 127, 128, 129, 130, 131, 132, 133, 134, 135] rfl (by decide +kernel)
set_option maxRecDepth 20000 in
theorem gX10_tooMuch_X10_pairOf : GoodIn wsX10_tooMuch (wsV RX10 249 RX10 yX10_pairOf wsX10_pairOf) := goodIn_app (goodIn_r _ [27, 28, 29, 7] rfl (by decide +kernel)) ggX10_tooMuch_X10_pairOf
theorem dX10_tooMuch_0 : decode cX10_tooMuch 0 = .ok (.aload_n 0, 1) := by decide +kernel
theorem dX10_tooMuch_1 : decode cX10_tooMuch 1 = .ok (.iconst 0, 1) := by decide +kernel
theorem dX10_tooMuch_2 : decode cX10_tooMuch 2 = .ok (.putfield 80, 3) := by decide +kernel
theorem dX10_tooMuch_5 : decode cX10_tooMuch 5 = .ok (.iconst 0, 1) := by decide +kernel
theorem dX10_tooMuch_6 : decode cX10_tooMuch 6 = .ok (.istore_n 1, 1) := by decide +kernel
theorem dX10_tooMuch_7 : decode cX10_tooMuch 7 = .ok (.iconst 0, 1) := by decide +kernel
theorem dX10_tooMuch_8 : decode cX10_tooMuch 8 = .ok (.istore_n 2, 1) := by decide +kernel
theorem dX10_tooMuch_9 : decode cX10_tooMuch 9 = .ok (.iload_n 2, 1) := by decide +kernel
theorem dX10_tooMuch_10 : decode cX10_tooMuch 10 = .ok (.aload_n 0, 1) := by decide +kernel
theorem dX10_tooMuch_11 : decode cX10_tooMuch 11 = .ok (.getfield 168, 3) := by decide +kernel
theorem dX10_tooMuch_14 : decode cX10_tooMuch 14 = .ok (.if_icmp .ge 17, 3) := by decide +kernel
theorem dX10_tooMuch_17 : decode cX10_tooMuch 17 = .ok (.iload_n 1, 1) := by decide +kernel
theorem dX10_tooMuch_18 : decode cX10_tooMuch 18 = .ok (.aload_n 0, 1) := by decide +kernel
theorem dX10_tooMuch_19 : decode cX10_tooMuch 19 = .ok (.iload_n 2, 1) := by decide +kernel
theorem dX10_tooMuch_20 : decode cX10_tooMuch 20 = .ok (.invokevirtual 262, 3) := by decide +kernel
theorem dX10_tooMuch_23 : decode cX10_tooMuch 23 = .ok (.ior, 1) := by decide +kernel
theorem dX10_tooMuch_24 : decode cX10_tooMuch 24 = .ok (.istore_n 1, 1) := by decide +kernel
theorem dX10_tooMuch_25 : decode cX10_tooMuch 25 = .ok (.iinc 2 1, 3) := by decide +kernel
theorem dX10_tooMuch_28 : decode cX10_tooMuch 28 = .ok (.goto (-19), 3) := by decide +kernel
theorem dX10_tooMuch_31 : decode cX10_tooMuch 31 = .ok (.aload_n 0, 1) := by decide +kernel
theorem dX10_tooMuch_32 : decode cX10_tooMuch 32 = .ok (.iconst 0, 1) := by decide +kernel
theorem dX10_tooMuch_33 : decode cX10_tooMuch 33 = .ok (.putfield 177, 3) := by decide +kernel
theorem dX10_tooMuch_36 : decode cX10_tooMuch 36 = .ok (.iconst 0, 1) := by decide +kernel
theorem dX10_tooMuch_37 : decode cX10_tooMuch 37 = .ok (.istore_n 2, 1) := by decide +kernel
theorem dX10_tooMuch_38 : decode cX10_tooMuch 38 = .ok (.iload_n 2, 1) := by decide +kernel
theorem dX10_tooMuch_39 : decode cX10_tooMuch 39 = .ok (.iconst 3, 1) := by decide +kernel
theorem dX10_tooMuch_40 : decode cX10_tooMuch 40 = .ok (.if_icmp .ge 30, 3) := by decide +kernel
theorem dX10_tooMuch_43 : decode cX10_tooMuch 43 = .ok (.iload_n 1, 1) := by decide +kernel
theorem dX10_tooMuch_44 : decode cX10_tooMuch 44 = .ok (.ifCond .eq 26, 3) := by decide +kernel
theorem dX10_tooMuch_47 : decode cX10_tooMuch 47 = .ok (.aload_n 0, 1) := by decide +kernel
theorem dX10_tooMuch_48 : decode cX10_tooMuch 48 = .ok (.iload_n 2, 1) := by decide +kernel
theorem dX10_tooMuch_49 : decode cX10_tooMuch 49 = .ok (.iconst 0, 1) := by decide +kernel
theorem dX10_tooMuch_50 : decode cX10_tooMuch 50 = .ok (.invokevirtual 249, 3) := by decide +kernel
theorem dX10_tooMuch_53 : decode cX10_tooMuch 53 = .ok (.bipush (-9), 2) := by decide +kernel
theorem dX10_tooMuch_55 : decode cX10_tooMuch 55 = .ok (.if_icmp .ne 7, 3) := by decide +kernel
theorem dX10_tooMuch_58 : decode cX10_tooMuch 58 = .ok (.iconst 1, 1) := by decide +kernel
theorem dX10_tooMuch_59 : decode cX10_tooMuch 59 = .ok (.goto 4, 3) := by decide +kernel
theorem dX10_tooMuch_62 : decode cX10_tooMuch 62 = .ok (.iconst 0, 1) := by decide +kernel
theorem dX10_tooMuch_63 : decode cX10_tooMuch 63 = .ok (.istore_n 1, 1) := by decide +kernel
theorem dX10_tooMuch_64 : decode cX10_tooMuch 64 = .ok (.iinc 2 1, 3) := by decide +kernel
theorem dX10_tooMuch_67 : decode cX10_tooMuch 67 = .ok (.goto (-29), 3) := by decide +kernel
theorem dX10_tooMuch_70 : decode cX10_tooMuch 70 = .ok (.iload_n 1, 1) := by decide +kernel
theorem dX10_tooMuch_71 : decode cX10_tooMuch 71 = .ok (.ifCond .eq 7, 3) := by decide +kernel
theorem dX10_tooMuch_74 : decode cX10_tooMuch 74 = .ok (.iconst 1, 1) := by decide +kernel
theorem dX10_tooMuch_75 : decode cX10_tooMuch 75 = .ok (.goto 4, 3) := by decide +kernel
theorem dX10_tooMuch_78 : decode cX10_tooMuch 78 = .ok (.iconst 0, 1) := by decide +kernel
theorem dX10_tooMuch_79 : decode cX10_tooMuch 79 = .ok (.ireturn, 1) := by decide +kernel
set_option maxRecDepth 20000 in
theorem ggX10_count_X10_outs : GoodIn wsX10_count wsX10_outs := goodIn_r _ [9, 3, 10, 14, 15, 16, 17, 18, 19, 20, 21, 22, 23, 24, 25, 26, 27, 28, 29, 30, 31, 32, 33, 34, 35, 36, 37, 38, 39, 40, 41, 42, 43, 44, 45, 46, 47, 48, 49, 50, 51, 52, 53] rfl (by decide +kernel)
set_option maxRecDepth 20000 in
theorem gX10_count_X10_outs : GoodIn wsX10_count (wsV RX10 265 RX10 yX10_outs wsX10_outs) := goodIn_app (goodIn_r _ [5, 6, 7, 8] rfl (by decide +kernel)) ggX10_count_X10_outs
set_option maxRecDepth 20000 in
theorem ggX10_count_X10_in : GoodIn wsX10_count wsX10_in := goodIn_r _ [13] rfl (by decide +kernel)
set_option maxRecDepth 20000 in
theorem gX10_count_X10_in : GoodIn wsX10_count (va_wsS RX10 84 yX10_in wsX10_in) := goodIn_app (goodIn_r _ [11, 12, 8] rfl (by decide +kernel)) ggX10_count_X10_in
theorem dX10_count_0 : decode cX10_count 0 = .ok (.aload_n 0, 1) := by decide +kernel
theorem dX10_count_1 : decode cX10_count 1 = .ok (.iconst 0, 1) := by decide +kernel
theorem dX10_count_2 : decode cX10_count 2 = .ok (.putfield 80, 3) := by decide +kernel
theorem dX10_count_5 : decode cX10_count 5 = .ok (.iconst 0, 1) := by decide +kernel
theorem dX10_count_6 : decode cX10_count 6 = .ok (.istore_n 2, 1) := by decide +kernel
theorem dX10_count_7 : decode cX10_count 7 = .ok (.iconst 0, 1) := by decide +kernel
theorem dX10_count_8 : decode cX10_count 8 = .ok (.istore_n 3, 1) := by decide +kernel
theorem dX10_count_9 : decode cX10_count 9 = .ok (.iload_n 3, 1) := by decide +kernel
theorem dX10_count_10 : decode cX10_count 10 = .ok (.bipush 6, 2) := by decide +kernel
theorem dX10_count_12 : decode cX10_count 12 = .ok (.if_icmp .ge 29, 3) := by decide +kernel
theorem dX10_count_15 : decode cX10_count 15 = .ok (.iload_n 2, 1) := by decide +kernel
theorem dX10_count_16 : decode cX10_count 16 = .ok (.aload_n 0, 1) := by decide +kernel
theorem dX10_count_17 : decode cX10_count 17 = .ok (.getfield 7, 3) := by decide +kernel
theorem dX10_count_20 : decode cX10_count 20 = .ok (.iload_n 3, 1) := by decide +kernel
theorem dX10_count_21 : decode cX10_count 21 = .ok (.iaload, 1) := by decide +kernel
theorem dX10_count_22 : decode cX10_count 22 = .ok (.iload_n 1, 1) := by decide +kernel
theorem dX10_count_23 : decode cX10_count 23 = .ok (.iconst 3, 1) := by decide +kernel
theorem dX10_count_24 : decode cX10_count 24 = .ok (.isub, 1) := by decide +kernel
theorem dX10_count_25 : decode cX10_count 25 = .ok (.if_icmp .ne 7, 3) := by decide +kernel
theorem dX10_count_28 : decode cX10_count 28 = .ok (.iconst 1, 1) := by decide +kernel
theorem dX10_count_29 : decode cX10_count 29 = .ok (.goto 4, 3) := by decide +kernel
theorem dX10_count_32 : decode cX10_count 32 = .ok (.iconst 0, 1) := by decide +kernel
theorem dX10_count_33 : decode cX10_count 33 = .ok (.iadd, 1) := by decide +kernel
theorem dX10_count_34 : decode cX10_count 34 = .ok (.istore_n 2, 1) := by decide +kernel
theorem dX10_count_35 : decode cX10_count 35 = .ok (.iinc 3 1, 3) := by decide +kernel
theorem dX10_count_38 : decode cX10_count 38 = .ok (.goto (-29), 3) := by decide +kernel
theorem dX10_count_41 : decode cX10_count 41 = .ok (.iload_n 1, 1) := by decide +kernel
theorem dX10_count_42 : decode cX10_count 42 = .ok (.ifCond .ne 10, 3) := by decide +kernel
theorem dX10_count_45 : decode cX10_count 45 = .ok (.aload_n 0, 1) := by decide +kernel
theorem dX10_count_46 : decode cX10_count 46 = .ok (.getfield 168, 3) := by decide +kernel
theorem dX10_count_49 : decode cX10_count 49 = .ok (.goto 42, 3) := by decide +kernel
theorem dX10_count_52 : decode cX10_count 52 = .ok (.iload_n 1, 1) := by decide +kernel
theorem dX10_count_53 : decode cX10_count 53 = .ok (.iconst 1, 1) := by decide +kernel
theorem dX10_count_54 : decode cX10_count 54 = .ok (.if_icmp .ne 10, 3) := by decide +kernel
theorem dX10_count_57 : decode cX10_count 57 = .ok (.aload_n 0, 1) := by decide +kernel
theorem dX10_count_58 : decode cX10_count 58 = .ok (.invokevirtual 265, 3) := by decide +kernel
theorem dX10_count_61 : decode cX10_count 61 = .ok (.goto 30, 3) := by decide +kernel
theorem dX10_count_64 : decode cX10_count 64 = .ok (.iload_n 1, 1) := by decide +kernel
theorem dX10_count_65 : decode cX10_count 65 = .ok (.iconst 2, 1) := by decide +kernel
theorem dX10_count_66 : decode cX10_count 66 = .ok (.if_icmp .ne 10, 3) := by decide +kernel
theorem dX10_count_69 : decode cX10_count 69 = .ok (.aload_n 0, 1) := by decide +kernel
theorem dX10_count_70 : decode cX10_count 70 = .ok (.getfield 88, 3) := by decide +kernel
theorem dX10_count_73 : decode cX10_count 73 = .ok (.goto 18, 3) := by decide +kernel
theorem dX10_count_76 : decode cX10_count 76 = .ok (.iload_n 1, 1) := by decide +kernel
theorem dX10_count_77 : decode cX10_count 77 = .ok (.iconst 3, 1) := by decide +kernel
theorem dX10_count_78 : decode cX10_count 78 = .ok (.bipush 6, 2) := by decide +kernel
theorem dX10_count_80 : decode cX10_count 80 = .ok (.invokestatic 84, 3) := by decide +kernel
theorem dX10_count_83 : decode cX10_count 83 = .ok (.ifCond .eq 7, 3) := by decide +kernel
theorem dX10_count_86 : decode cX10_count 86 = .ok (.iload_n 2, 1) := by decide +kernel
theorem dX10_count_87 : decode cX10_count 87 = .ok (.goto 4, 3) := by decide +kernel
theorem dX10_count_90 : decode cX10_count 90 = .ok (.iconst (-1), 1) := by decide +kernel
theorem dX10_count_91 : decode cX10_count 91 = .ok (.ireturn, 1) := by decide +kernel
theorem dJ11_isValidCodePoint_9a6ad_0 : decode cJ11_isValidCodePoint_9a6ad 0 = .ok (.iload_n 0, 1) := by decide +kernel
theorem dJ11_isValidCodePoint_9a6ad_1 : decode cJ11_isValidCodePoint_9a6ad 1 = .ok (.bipush 16, 2) := by decide +kernel
theorem dJ11_isValidCodePoint_9a6ad_3 : decode cJ11_isValidCodePoint_9a6ad 3 = .ok (.iushr, 1) := by decide +kernel
theorem dJ11_isValidCodePoint_9a6ad_4 : decode cJ11_isValidCodePoint_9a6ad 4 = .ok (.istore_n 1, 1) := by decide +kernel
theorem dJ11_isValidCodePoint_9a6ad_5 : decode cJ11_isValidCodePoint_9a6ad 5 = .ok (.iload_n 1, 1) := by decide +kernel
theorem dJ11_isValidCodePoint_9a6ad_6 : decode cJ11_isValidCodePoint_9a6ad 6 = .ok (.bipush 17, 2) := by decide +kernel
theorem dJ11_isValidCodePoint_9a6ad_8 : decode cJ11_isValidCodePoint_9a6ad 8 = .ok (.if_icmp .ge 7, 3) := by decide +kernel
theorem dJ11_isValidCodePoint_9a6ad_11 : decode cJ11_isValidCodePoint_9a6ad 11 = .ok (.iconst 1, 1) := by decide +kernel
theorem dJ11_isValidCodePoint_9a6ad_12 : decode cJ11_isValidCodePoint_9a6ad 12 = .ok (.goto 4, 3) := by decide +kernel
theorem dJ11_isValidCodePoint_9a6ad_15 : decode cJ11_isValidCodePoint_9a6ad 15 = .ok (.iconst 0, 1) := by decide +kernel
theorem dJ11_isValidCodePoint_9a6ad_16 : decode cJ11_isValidCodePoint_9a6ad 16 = .ok (.ireturn, 1) := by decide +kernel
theorem dJ11_highSurrogate_5068e_0 : decode cJ11_highSurrogate_5068e 0 = .ok (.iload_n 0, 1) := by decide +kernel
theorem dJ11_highSurrogate_5068e_1 : decode cJ11_highSurrogate_5068e 1 = .ok (.bipush 10, 2) := by decide +kernel
theorem dJ11_highSurrogate_5068e_3 : decode cJ11_highSurrogate_5068e 3 = .ok (.iushr, 1) := by decide +kernel
theorem dJ11_highSurrogate_5068e_4 : decode cJ11_highSurrogate_5068e 4 = .ok (.ldc 110, 2) := by decide +kernel
theorem dJ11_highSurrogate_5068e_6 : decode cJ11_highSurrogate_5068e 6 = .ok (.iadd, 1) := by decide +kernel
theorem dJ11_highSurrogate_5068e_7 : decode cJ11_highSurrogate_5068e 7 = .ok (.i2c, 1) := by decide +kernel
theorem dJ11_highSurrogate_5068e_8 : decode cJ11_highSurrogate_5068e 8 = .ok (.ireturn, 1) := by decide +kernel
theorem dJ11_lowSurrogate_5068e_0 : decode cJ11_lowSurrogate_5068e 0 = .ok (.iload_n 0, 1) := by decide +kernel
theorem dJ11_lowSurrogate_5068e_1 : decode cJ11_lowSurrogate_5068e 1 = .ok (.sipush 1023, 3) := by decide +kernel
theorem dJ11_lowSurrogate_5068e_4 : decode cJ11_lowSurrogate_5068e 4 = .ok (.iand, 1) := by decide +kernel
theorem dJ11_lowSurrogate_5068e_5 : decode cJ11_lowSurrogate_5068e 5 = .ok (.ldc 76, 2) := by decide +kernel
theorem dJ11_lowSurrogate_5068e_7 : decode cJ11_lowSurrogate_5068e 7 = .ok (.iadd, 1) := by decide +kernel
theorem dJ11_lowSurrogate_5068e_8 : decode cJ11_lowSurrogate_5068e 8 = .ok (.i2c, 1) := by decide +kernel
theorem dJ11_lowSurrogate_5068e_9 : decode cJ11_lowSurrogate_5068e 9 = .ok (.ireturn, 1) := by decide +kernel
theorem dJ6_bitCount_0f7a4_0 : decode cJ6_bitCount_0f7a4 0 = .ok (.iload_n 0, 1) := by decide +kernel
theorem dJ6_bitCount_0f7a4_1 : decode cJ6_bitCount_0f7a4 1 = .ok (.iload_n 0, 1) := by decide +kernel
theorem dJ6_bitCount_0f7a4_2 : decode cJ6_bitCount_0f7a4 2 = .ok (.iconst 1, 1) := by decide +kernel
theorem dJ6_bitCount_0f7a4_3 : decode cJ6_bitCount_0f7a4 3 = .ok (.iushr, 1) := by decide +kernel
theorem dJ6_bitCount_0f7a4_4 : decode cJ6_bitCount_0f7a4 4 = .ok (.ldc_w 265, 3) := by decide +kernel
theorem dJ6_bitCount_0f7a4_7 : decode cJ6_bitCount_0f7a4 7 = .ok (.iand, 1) := by decide +kernel
theorem dJ6_bitCount_0f7a4_8 : decode cJ6_bitCount_0f7a4 8 = .ok (.isub, 1) := by decide +kernel
theorem dJ6_bitCount_0f7a4_9 : decode cJ6_bitCount_0f7a4 9 = .ok (.istore_n 0, 1) := by decide +kernel
theorem dJ6_bitCount_0f7a4_10 : decode cJ6_bitCount_0f7a4 10 = .ok (.iload_n 0, 1) := by decide +kernel
theorem dJ6_bitCount_0f7a4_11 : decode cJ6_bitCount_0f7a4 11 = .ok (.ldc_w 266, 3) := by decide +kernel
theorem dJ6_bitCount_0f7a4_14 : decode cJ6_bitCount_0f7a4 14 = .ok (.iand, 1) := by decide +kernel
theorem dJ6_bitCount_0f7a4_15 : decode cJ6_bitCount_0f7a4 15 = .ok (.iload_n 0, 1) := by decide +kernel
theorem dJ6_bitCount_0f7a4_16 : decode cJ6_bitCount_0f7a4 16 = .ok (.iconst 2, 1) := by decide +kernel
theorem dJ6_bitCount_0f7a4_17 : decode cJ6_bitCount_0f7a4 17 = .ok (.iushr, 1) := by decide +kernel
theorem dJ6_bitCount_0f7a4_18 : decode cJ6_bitCount_0f7a4 18 = .ok (.ldc_w 266, 3) := by decide +kernel
theorem dJ6_bitCount_0f7a4_21 : decode cJ6_bitCount_0f7a4 21 = .ok (.iand, 1) := by decide +kernel
theorem dJ6_bitCount_0f7a4_22 : decode cJ6_bitCount_0f7a4 22 = .ok (.iadd, 1) := by decide +kernel
theorem dJ6_bitCount_0f7a4_23 : decode cJ6_bitCount_0f7a4 23 = .ok (.istore_n 0, 1) := by decide +kernel
theorem dJ6_bitCount_0f7a4_24 : decode cJ6_bitCount_0f7a4 24 = .ok (.iload_n 0, 1) := by decide +kernel
theorem dJ6_bitCount_0f7a4_25 : decode cJ6_bitCount_0f7a4 25 = .ok (.iload_n 0, 1) := by decide +kernel
theorem dJ6_bitCount_0f7a4_26 : decode cJ6_bitCount_0f7a4 26 = .ok (.iconst 4, 1) := by decide +kernel
theorem dJ6_bitCount_0f7a4_27 : decode cJ6_bitCount_0f7a4 27 = .ok (.iushr, 1) := by decide +kernel
theorem dJ6_bitCount_0f7a4_28 : decode cJ6_bitCount_0f7a4 28 = .ok (.iadd, 1) := by decide +kernel
theorem dJ6_bitCount_0f7a4_29 : decode cJ6_bitCount_0f7a4 29 = .ok (.ldc_w 267, 3) := by decide +kernel
theorem dJ6_bitCount_0f7a4_32 : decode cJ6_bitCount_0f7a4 32 = .ok (.iand, 1) := by decide +kernel
theorem dJ6_bitCount_0f7a4_33 : decode cJ6_bitCount_0f7a4 33 = .ok (.istore_n 0, 1) := by decide +kernel
theorem dJ6_bitCount_0f7a4_34 : decode cJ6_bitCount_0f7a4 34 = .ok (.iload_n 0, 1) := by decide +kernel
theorem dJ6_bitCount_0f7a4_35 : decode cJ6_bitCount_0f7a4 35 = .ok (.iload_n 0, 1) := by decide +kernel
theorem dJ6_bitCount_0f7a4_36 : decode cJ6_bitCount_0f7a4 36 = .ok (.bipush 8, 2) := by decide +kernel
theorem dJ6_bitCount_0f7a4_38 : decode cJ6_bitCount_0f7a4 38 = .ok (.iushr, 1) := by decide +kernel
theorem dJ6_bitCount_0f7a4_39 : decode cJ6_bitCount_0f7a4 39 = .ok (.iadd, 1) := by decide +kernel
theorem dJ6_bitCount_0f7a4_40 : decode cJ6_bitCount_0f7a4 40 = .ok (.istore_n 0, 1) := by decide +kernel
theorem dJ6_bitCount_0f7a4_41 : decode cJ6_bitCount_0f7a4 41 = .ok (.iload_n 0, 1) := by decide +kernel
theorem dJ6_bitCount_0f7a4_42 : decode cJ6_bitCount_0f7a4 42 = .ok (.iload_n 0, 1) := by decide +kernel
theorem dJ6_bitCount_0f7a4_43 : decode cJ6_bitCount_0f7a4 43 = .ok (.bipush 16, 2) := by decide +kernel
theorem dJ6_bitCount_0f7a4_45 : decode cJ6_bitCount_0f7a4 45 = .ok (.iushr, 1) := by decide +kernel
theorem dJ6_bitCount_0f7a4_46 : decode cJ6_bitCount_0f7a4 46 = .ok (.iadd, 1) := by decide +kernel
theorem dJ6_bitCount_0f7a4_47 : decode cJ6_bitCount_0f7a4 47 = .ok (.istore_n 0, 1) := by decide +kernel
theorem dJ6_bitCount_0f7a4_48 : decode cJ6_bitCount_0f7a4 48 = .ok (.iload_n 0, 1) := by decide +kernel
theorem dJ6_bitCount_0f7a4_49 : decode cJ6_bitCount_0f7a4 49 = .ok (.bipush 63, 2) := by decide +kernel
theorem dJ6_bitCount_0f7a4_51 : decode cJ6_bitCount_0f7a4 51 = .ok (.iand, 1) := by decide +kernel
theorem dJ6_bitCount_0f7a4_52 : decode cJ6_bitCount_0f7a4 52 = .ok (.ireturn, 1) := by decide +kernel
theorem dJ9_max_7cf53_0 : decode cJ9_max_7cf53 0 = .ok (.iload_n 0, 1) := by decide +kernel
theorem dJ9_max_7cf53_1 : decode cJ9_max_7cf53 1 = .ok (.iload_n 1, 1) := by decide +kernel
theorem dJ9_max_7cf53_2 : decode cJ9_max_7cf53 2 = .ok (.if_icmp .lt 7, 3) := by decide +kernel
theorem dJ9_max_7cf53_5 : decode cJ9_max_7cf53 5 = .ok (.iload_n 0, 1) := by decide +kernel
theorem dJ9_max_7cf53_6 : decode cJ9_max_7cf53 6 = .ok (.goto 4, 3) := by decide +kernel
theorem dJ9_max_7cf53_9 : decode cJ9_max_7cf53 9 = .ok (.iload_n 1, 1) := by decide +kernel
theorem dJ9_max_7cf53_10 : decode cJ9_max_7cf53 10 = .ok (.ireturn, 1) := by decide +kernel
theorem dJ9_min_7cf53_0 : decode cJ9_min_7cf53 0 = .ok (.iload_n 0, 1) := by decide +kernel
theorem dJ9_min_7cf53_1 : decode cJ9_min_7cf53 1 = .ok (.iload_n 1, 1) := by decide +kernel
theorem dJ9_min_7cf53_2 : decode cJ9_min_7cf53 2 = .ok (.if_icmp .gt 7, 3) := by decide +kernel
theorem dJ9_min_7cf53_5 : decode cJ9_min_7cf53 5 = .ok (.iload_n 0, 1) := by decide +kernel
theorem dJ9_min_7cf53_6 : decode cJ9_min_7cf53 6 = .ok (.goto 4, 3) := by decide +kernel
theorem dJ9_min_7cf53_9 : decode cJ9_min_7cf53 9 = .ok (.iload_n 1, 1) := by decide +kernel
theorem dJ9_min_7cf53_10 : decode cJ9_min_7cf53 10 = .ok (.ireturn, 1) := by decide +kernel
set_option maxRecDepth 20000 in
theorem ggJ0_length_8abf5_J0_coder_7d493 : GoodIn wsJ0_length_8abf5 wsJ0_coder_7d493 := goodIn_r _ [6, 7, 8] rfl (by decide +kernel)
set_option maxRecDepth 20000 in
theorem gJ0_length_8abf5_J0_coder_7d493 : GoodIn wsJ0_length_8abf5 (wsV RJ0 335 RJ0 yJ0_coder_7d493 wsJ0_coder_7d493) := goodIn_app (goodIn_r _ [2, 3, 4, 5] rfl (by decide +kernel)) ggJ0_length_8abf5_J0_coder_7d493
theorem dJ0_length_8abf5_0 : decode cJ0_length_8abf5 0 = .ok (.aload_n 0, 1) := by decide +kernel
theorem dJ0_length_8abf5_1 : decode cJ0_length_8abf5 1 = .ok (.getfield 9, 3) := by decide +kernel
theorem dJ0_length_8abf5_4 : decode cJ0_length_8abf5 4 = .ok (.arraylength, 1) := by decide +kernel
theorem dJ0_length_8abf5_5 : decode cJ0_length_8abf5 5 = .ok (.aload_n 0, 1) := by decide +kernel
theorem dJ0_length_8abf5_6 : decode cJ0_length_8abf5 6 = .ok (.invokevirtual 335, 3) := by decide +kernel
theorem dJ0_length_8abf5_9 : decode cJ0_length_8abf5 9 = .ok (.ishr, 1) := by decide +kernel
theorem dJ0_length_8abf5_10 : decode cJ0_length_8abf5 10 = .ok (.ireturn, 1) := by decide +kernel
set_option maxRecDepth 20000 in
theorem ggJ0_indexOf_0f7a4_J0_indexOf_7cf53 : GoodIn wsJ0_indexOf_0f7a4 wsJ0_indexOf_7cf53 := goodIn_r _ [5, 6, 7, 8, 9, 4, 10, 11, 12, 13, 14, 15, 16, 17, 18, 19, 20, 21, 22, 23, 24, 25, 26, 27, 28, 29, 30, 31, 32, 33, 34, 35, 36, 37, 38, 39, 40, 41, 42, 43, 44, 45, 46, 47, 48, 49, 50, 51, 52, 53, 54, 55, 56, 57, 58, 59, 60, 61, 62, 63, 64, 65, 66, 67, 68, 69, 70, 71, 72, 73, 74, 75, 76, 77, 78, 79, 80, 81, 82, 83, 84, 85] rfl (by decide +kernel)
set_option maxRecDepth 20000 in
theorem gJ0_indexOf_0f7a4_J0_indexOf_7cf53 : GoodIn wsJ0_indexOf_0f7a4 (wsV RJ0 633 RJ0 yJ0_indexOf_7cf53 wsJ0_indexOf_7cf53) := goodIn_app (goodIn_r _ [1, 2, 3, 4] rfl (by decide +kernel)) ggJ0_indexOf_0f7a4_J0_indexOf_7cf53
theorem dJ0_indexOf_0f7a4_0 : decode cJ0_indexOf_0f7a4 0 = .ok (.aload_n 0, 1) := by decide +kernel
theorem dJ0_indexOf_0f7a4_1 : decode cJ0_indexOf_0f7a4 1 = .ok (.iload_n 1, 1) := by decide +kernel
theorem dJ0_indexOf_0f7a4_2 : decode cJ0_indexOf_0f7a4 2 = .ok (.iconst 0, 1) := by decide +kernel
theorem dJ0_indexOf_0f7a4_3 : decode cJ0_indexOf_0f7a4 3 = .ok (.invokevirtual 633, 3) := by decide +kernel
theorem dJ0_indexOf_0f7a4_6 : decode cJ0_indexOf_0f7a4 6 = .ok (.ireturn, 1) := by decide +kernel
set_option maxRecDepth 20000 in
theorem ggJ0_indexOf_7cf53_J0_isLatin1_aae02 : GoodIn wsJ0_indexOf_7cf53 wsJ0_isLatin1_aae02 := goodIn_r _ [6, 7, 8] rfl (by decide +kernel)
set_option maxRecDepth 20000 in
theorem gJ0_indexOf_7cf53_J0_isLatin1_aae02 : GoodIn wsJ0_indexOf_7cf53 (wsV RJ0 492 RJ0 yJ0_isLatin1_aae02 wsJ0_isLatin1_aae02) := goodIn_app (goodIn_r _ [2, 3, 4, 5] rfl (by decide +kernel)) ggJ0_indexOf_7cf53_J0_isLatin1_aae02
set_option maxRecDepth 20000 in
theorem ggJ0_indexOf_7cf53_J0_length_8abf5 : GoodIn wsJ0_indexOf_7cf53 wsJ0_length_8abf5 := goodIn_r _ [12, 1, 13, 14, 15, 5, 16, 7, 8] rfl (by decide +kernel)
set_option maxRecDepth 20000 in
theorem gJ0_indexOf_7cf53_J0_length_8abf5 : GoodIn wsJ0_indexOf_7cf53 (wsV RJ0 505 RJ0 yJ0_length_8abf5 wsJ0_length_8abf5) := goodIn_app (goodIn_r _ [9, 10, 11, 5] rfl (by decide +kernel)) ggJ0_indexOf_7cf53_J0_length_8abf5
set_option maxRecDepth 20000 in
theorem ggJ0_indexOf_7cf53_J1_indexOf_4cfef : GoodIn wsJ0_indexOf_7cf53 wsJ1_indexOf_4cfef := goodIn_r _ [20, 21, 22, 23, 24, 25, 26, 27, 28, 29, 19, 30, 31, 32, 33] rfl (by decide +kernel)
set_option maxRecDepth 20000 in
theorem gJ0_indexOf_7cf53_J1_indexOf_4cfef : GoodIn wsJ0_indexOf_7cf53 (va_wsS RJ0 637 yJ1_indexOf_4cfef wsJ1_indexOf_4cfef) := goodIn_app (goodIn_r _ [17, 18, 19] rfl (by decide +kernel)) ggJ0_indexOf_7cf53_J1_indexOf_4cfef
set_option maxRecDepth 20000 in
theorem ggJ0_indexOf_7cf53_J2_indexOf_4cfef : GoodIn wsJ0_indexOf_7cf53 wsJ2_indexOf_4cfef := goodIn_r _ [37, 38, 22, 23, 24, 39, 26, 27, 40, 41, 42, 36, 43, 44, 45, 46, 47, 48, 49, 50, 51, 5, 52, 53, 54, 55, 56, 57, 58, 59, 60, 61, 62, 63, 64, 65, 66, 67, 68, 69, 70, 71, 72, 73, 74, 75, 76, 77, 78, 79, 80, 81] rfl (by decide +kernel)
set_option maxRecDepth 20000 in
theorem gJ0_indexOf_7cf53_J2_indexOf_4cfef : GoodIn wsJ0_indexOf_7cf53 (va_wsS RJ0 640 yJ2_indexOf_4cfef wsJ2_indexOf_4cfef) := goodIn_app (goodIn_r _ [34, 35, 36] rfl (by decide +kernel)) ggJ0_indexOf_7cf53_J2_indexOf_4cfef
theorem dJ0_indexOf_7cf53_0 : decode cJ0_indexOf_7cf53 0 = .ok (.aload_n 0, 1) := by decide +kernel
theorem dJ0_indexOf_7cf53_1 : decode cJ0_indexOf_7cf53 1 = .ok (.invokevirtual 492, 3) := by decide +kernel
theorem dJ0_indexOf_7cf53_4 : decode cJ0_indexOf_7cf53 4 = .ok (.ifCond .eq 19, 3) := by decide +kernel
theorem dJ0_indexOf_7cf53_7 : decode cJ0_indexOf_7cf53 7 = .ok (.aload_n 0, 1) := by decide +kernel
theorem dJ0_indexOf_7cf53_8 : decode cJ0_indexOf_7cf53 8 = .ok (.getfield 9, 3) := by decide +kernel
theorem dJ0_indexOf_7cf53_11 : decode cJ0_indexOf_7cf53 11 = .ok (.iload_n 1, 1) := by decide +kernel
theorem dJ0_indexOf_7cf53_12 : decode cJ0_indexOf_7cf53 12 = .ok (.iload_n 2, 1) := by decide +kernel
theorem dJ0_indexOf_7cf53_13 : decode cJ0_indexOf_7cf53 13 = .ok (.aload_n 0, 1) := by decide +kernel
theorem dJ0_indexOf_7cf53_14 : decode cJ0_indexOf_7cf53 14 = .ok (.invokevirtual 505, 3) := by decide +kernel
theorem dJ0_indexOf_7cf53_17 : decode cJ0_indexOf_7cf53 17 = .ok (.invokestatic 637, 3) := by decide +kernel
theorem dJ0_indexOf_7cf53_20 : decode cJ0_indexOf_7cf53 20 = .ok (.goto 16, 3) := by decide +kernel
theorem dJ0_indexOf_7cf53_23 : decode cJ0_indexOf_7cf53 23 = .ok (.aload_n 0, 1) := by decide +kernel
theorem dJ0_indexOf_7cf53_24 : decode cJ0_indexOf_7cf53 24 = .ok (.getfield 9, 3) := by decide +kernel
theorem dJ0_indexOf_7cf53_27 : decode cJ0_indexOf_7cf53 27 = .ok (.iload_n 1, 1) := by decide +kernel
theorem dJ0_indexOf_7cf53_28 : decode cJ0_indexOf_7cf53 28 = .ok (.iload_n 2, 1) := by decide +kernel
theorem dJ0_indexOf_7cf53_29 : decode cJ0_indexOf_7cf53 29 = .ok (.aload_n 0, 1) := by decide +kernel
theorem dJ0_indexOf_7cf53_30 : decode cJ0_indexOf_7cf53 30 = .ok (.invokevirtual 505, 3) := by decide +kernel
theorem dJ0_indexOf_7cf53_33 : decode cJ0_indexOf_7cf53 33 = .ok (.invokestatic 640, 3) := by decide +kernel
theorem dJ0_indexOf_7cf53_36 : decode cJ0_indexOf_7cf53 36 = .ok (.ireturn, 1) := by decide +kernel
theorem dJ0_coder_7d493_0 : decode cJ0_coder_7d493 0 = .ok (.getstatic 38, 3) := by decide +kernel
theorem dJ0_coder_7d493_3 : decode cJ0_coder_7d493 3 = .ok (.ifCond .eq 10, 3) := by decide +kernel
theorem dJ0_coder_7d493_6 : decode cJ0_coder_7d493 6 = .ok (.aload_n 0, 1) := by decide +kernel
theorem dJ0_coder_7d493_7 : decode cJ0_coder_7d493 7 = .ok (.getfield 15, 3) := by decide +kernel
theorem dJ0_coder_7d493_10 : decode cJ0_coder_7d493 10 = .ok (.goto 4, 3) := by decide +kernel
theorem dJ0_coder_7d493_13 : decode cJ0_coder_7d493 13 = .ok (.iconst 1, 1) := by decide +kernel
theorem dJ0_coder_7d493_14 : decode cJ0_coder_7d493 14 = .ok (.ireturn, 1) := by decide +kernel
theorem dJ0_isLatin1_aae02_0 : decode cJ0_isLatin1_aae02 0 = .ok (.getstatic 38, 3) := by decide +kernel
theorem dJ0_isLatin1_aae02_3 : decode cJ0_isLatin1_aae02 3 = .ok (.ifCond .eq 14, 3) := by decide +kernel
theorem dJ0_isLatin1_aae02_6 : decode cJ0_isLatin1_aae02 6 = .ok (.aload_n 0, 1) := by decide +kernel
theorem dJ0_isLatin1_aae02_7 : decode cJ0_isLatin1_aae02 7 = .ok (.getfield 15, 3) := by decide +kernel
theorem dJ0_isLatin1_aae02_10 : decode cJ0_isLatin1_aae02 10 = .ok (.ifCond .ne 7, 3) := by decide +kernel
theorem dJ0_isLatin1_aae02_13 : decode cJ0_isLatin1_aae02 13 = .ok (.iconst 1, 1) := by decide +kernel
theorem dJ0_isLatin1_aae02_14 : decode cJ0_isLatin1_aae02 14 = .ok (.goto 4, 3) := by decide +kernel
theorem dJ0_isLatin1_aae02_17 : decode cJ0_isLatin1_aae02 17 = .ok (.iconst 0, 1) := by decide +kernel
theorem dJ0_isLatin1_aae02_18 : decode cJ0_isLatin1_aae02 18 = .ok (.ireturn, 1) := by decide +kernel
set_option maxRecDepth 20000 in
theorem ggJ0_checkBoundsBeginEnd_23922_J3_checkFromToIndex_8c36e : GoodIn wsJ0_checkBoundsBeginEnd_23922 wsJ3_checkFromToIndex_8c36e := goodIn_r _ [5] rfl (by decide +kernel)
set_option maxRecDepth 20000 in
theorem gJ0_checkBoundsBeginEnd_23922_J3_checkFromToIndex_8c36e : GoodIn wsJ0_checkBoundsBeginEnd_23922 (va_wsS RJ0 1062 yJ3_checkFromToIndex_8c36e wsJ3_checkFromToIndex_8c36e) := goodIn_app (goodIn_r _ [2, 3, 4] rfl (by decide +kernel)) ggJ0_checkBoundsBeginEnd_23922_J3_checkFromToIndex_8c36e
theorem dJ0_checkBoundsBeginEnd_23922_0 : decode cJ0_checkBoundsBeginEnd_23922 0 = .ok (.iload_n 0, 1) := by decide +kernel
theorem dJ0_checkBoundsBeginEnd_23922_1 : decode cJ0_checkBoundsBeginEnd_23922 1 = .ok (.iload_n 1, 1) := by decide +kernel
theorem dJ0_checkBoundsBeginEnd_23922_2 : decode cJ0_checkBoundsBeginEnd_23922 2 = .ok (.iload_n 2, 1) := by decide +kernel
theorem dJ0_checkBoundsBeginEnd_23922_3 : decode cJ0_checkBoundsBeginEnd_23922 3 = .ok (.getstatic 1053, 3) := by decide +kernel
theorem dJ0_checkBoundsBeginEnd_23922_6 : decode cJ0_checkBoundsBeginEnd_23922 6 = .ok (.invokestatic 1062, 3) := by decide +kernel
theorem dJ0_checkBoundsBeginEnd_23922_9 : decode cJ0_checkBoundsBeginEnd_23922 9 = .ok (.pop, 1) := by decide +kernel
theorem dJ0_checkBoundsBeginEnd_23922_10 : decode cJ0_checkBoundsBeginEnd_23922 10 = .ok (.return_, 1) := by decide +kernel
theorem dJ1_canEncode_9a6ad_0 : decode cJ1_canEncode_9a6ad 0 = .ok (.iload_n 0, 1) := by decide +kernel
theorem dJ1_canEncode_9a6ad_1 : decode cJ1_canEncode_9a6ad 1 = .ok (.ifCond .lt 14, 3) := by decide +kernel
theorem dJ1_canEncode_9a6ad_4 : decode cJ1_canEncode_9a6ad 4 = .ok (.iload_n 0, 1) := by decide +kernel
theorem dJ1_canEncode_9a6ad_5 : decode cJ1_canEncode_9a6ad 5 = .ok (.sipush 255, 3) := by decide +kernel
theorem dJ1_canEncode_9a6ad_8 : decode cJ1_canEncode_9a6ad 8 = .ok (.if_icmp .gt 7, 3) := by decide +kernel
theorem dJ1_canEncode_9a6ad_11 : decode cJ1_canEncode_9a6ad 11 = .ok (.iconst 1, 1) := by decide +kernel
theorem dJ1_canEncode_9a6ad_12 : decode cJ1_canEncode_9a6ad 12 = .ok (.goto 4, 3) := by decide +kernel
theorem dJ1_canEncode_9a6ad_15 : decode cJ1_canEncode_9a6ad 15 = .ok (.iconst 0, 1) := by decide +kernel
theorem dJ1_canEncode_9a6ad_16 : decode cJ1_canEncode_9a6ad 16 = .ok (.ireturn, 1) := by decide +kernel
set_option maxRecDepth 20000 in
theorem ggJ1_indexOf_4cfef_J1_canEncode_9a6ad : GoodIn wsJ1_indexOf_4cfef wsJ1_canEncode_9a6ad := goodIn_r _ [11] rfl (by decide +kernel)
set_option maxRecDepth 20000 in
theorem gJ1_indexOf_4cfef_J1_canEncode_9a6ad : GoodIn wsJ1_indexOf_4cfef (va_wsS RJ1 88 yJ1_canEncode_9a6ad wsJ1_canEncode_9a6ad) := goodIn_app (goodIn_r _ [8, 9, 10] rfl (by decide +kernel)) ggJ1_indexOf_4cfef_J1_canEncode_9a6ad
set_option maxRecDepth 20000 in
theorem ggJ1_indexOf_4cfef_J1_indexOfChar_4cfef : GoodIn wsJ1_indexOf_4cfef wsJ1_indexOfChar_4cfef := goodIn_r _ [14] rfl (by decide +kernel)
set_option maxRecDepth 20000 in
theorem gJ1_indexOf_4cfef_J1_indexOfChar_4cfef : GoodIn wsJ1_indexOf_4cfef (va_wsS RJ1 95 yJ1_indexOfChar_4cfef wsJ1_indexOfChar_4cfef) := goodIn_app (goodIn_r _ [12, 13, 10] rfl (by decide +kernel)) ggJ1_indexOf_4cfef_J1_indexOfChar_4cfef
theorem dJ1_indexOf_4cfef_0 : decode cJ1_indexOf_4cfef 0 = .ok (.iload_n 1, 1) := by decide +kernel
theorem dJ1_indexOf_4cfef_1 : decode cJ1_indexOf_4cfef 1 = .ok (.invokestatic 88, 3) := by decide +kernel
theorem dJ1_indexOf_4cfef_4 : decode cJ1_indexOf_4cfef 4 = .ok (.ifCond .ne 5, 3) := by decide +kernel
theorem dJ1_indexOf_4cfef_7 : decode cJ1_indexOf_4cfef 7 = .ok (.iconst (-1), 1) := by decide +kernel
theorem dJ1_indexOf_4cfef_8 : decode cJ1_indexOf_4cfef 8 = .ok (.ireturn, 1) := by decide +kernel
theorem dJ1_indexOf_4cfef_9 : decode cJ1_indexOf_4cfef 9 = .ok (.iload_n 2, 1) := by decide +kernel
theorem dJ1_indexOf_4cfef_10 : decode cJ1_indexOf_4cfef 10 = .ok (.iconst 0, 1) := by decide +kernel
theorem dJ1_indexOf_4cfef_11 : decode cJ1_indexOf_4cfef 11 = .ok (.invokestatic 92, 3) := by decide +kernel
theorem dJ1_indexOf_4cfef_14 : decode cJ1_indexOf_4cfef 14 = .ok (.istore_n 2, 1) := by decide +kernel
theorem dJ1_indexOf_4cfef_15 : decode cJ1_indexOf_4cfef 15 = .ok (.iload_n 3, 1) := by decide +kernel
theorem dJ1_indexOf_4cfef_16 : decode cJ1_indexOf_4cfef 16 = .ok (.aload_n 0, 1) := by decide +kernel
theorem dJ1_indexOf_4cfef_17 : decode cJ1_indexOf_4cfef 17 = .ok (.arraylength, 1) := by decide +kernel
theorem dJ1_indexOf_4cfef_18 : decode cJ1_indexOf_4cfef 18 = .ok (.invokestatic 38, 3) := by decide +kernel
theorem dJ1_indexOf_4cfef_21 : decode cJ1_indexOf_4cfef 21 = .ok (.istore_n 3, 1) := by decide +kernel
theorem dJ1_indexOf_4cfef_22 : decode cJ1_indexOf_4cfef 22 = .ok (.iload_n 2, 1) := by decide +kernel
theorem dJ1_indexOf_4cfef_23 : decode cJ1_indexOf_4cfef 23 = .ok (.iload_n 3, 1) := by decide +kernel
theorem dJ1_indexOf_4cfef_24 : decode cJ1_indexOf_4cfef 24 = .ok (.if_icmp .lt 5, 3) := by decide +kernel
theorem dJ1_indexOf_4cfef_27 : decode cJ1_indexOf_4cfef 27 = .ok (.iconst (-1), 1) := by decide +kernel
theorem dJ1_indexOf_4cfef_28 : decode cJ1_indexOf_4cfef 28 = .ok (.ireturn, 1) := by decide +kernel
theorem dJ1_indexOf_4cfef_29 : decode cJ1_indexOf_4cfef 29 = .ok (.aload_n 0, 1) := by decide +kernel
theorem dJ1_indexOf_4cfef_30 : decode cJ1_indexOf_4cfef 30 = .ok (.iload_n 1, 1) := by decide +kernel
theorem dJ1_indexOf_4cfef_31 : decode cJ1_indexOf_4cfef 31 = .ok (.iload_n 2, 1) := by decide +kernel
theorem dJ1_indexOf_4cfef_32 : decode cJ1_indexOf_4cfef 32 = .ok (.iload_n 3, 1) := by decide +kernel
theorem dJ1_indexOf_4cfef_33 : decode cJ1_indexOf_4cfef 33 = .ok (.invokestatic 95, 3) := by decide +kernel
theorem dJ1_indexOf_4cfef_36 : decode cJ1_indexOf_4cfef 36 = .ok (.ireturn, 1) := by decide +kernel
theorem dJ1_indexOfChar_4cfef_0 : decode cJ1_indexOfChar_4cfef 0 = .ok (.iload_n 1, 1) := by decide +kernel
theorem dJ1_indexOfChar_4cfef_1 : decode cJ1_indexOfChar_4cfef 1 = .ok (.i2b, 1) := by decide +kernel
theorem dJ1_indexOfChar_4cfef_2 : decode cJ1_indexOfChar_4cfef 2 = .ok (.istore 4, 2) := by decide +kernel
theorem dJ1_indexOfChar_4cfef_4 : decode cJ1_indexOfChar_4cfef 4 = .ok (.iload_n 2, 1) := by decide +kernel
theorem dJ1_indexOfChar_4cfef_5 : decode cJ1_indexOfChar_4cfef 5 = .ok (.istore 5, 2) := by decide +kernel
theorem dJ1_indexOfChar_4cfef_7 : decode cJ1_indexOfChar_4cfef 7 = .ok (.iload 5, 2) := by decide +kernel
theorem dJ1_indexOfChar_4cfef_9 : decode cJ1_indexOfChar_4cfef 9 = .ok (.iload_n 3, 1) := by decide +kernel
theorem dJ1_indexOfChar_4cfef_10 : decode cJ1_indexOfChar_4cfef 10 = .ok (.if_icmp .ge 21, 3) := by decide +kernel
theorem dJ1_indexOfChar_4cfef_13 : decode cJ1_indexOfChar_4cfef 13 = .ok (.aload_n 0, 1) := by decide +kernel
theorem dJ1_indexOfChar_4cfef_14 : decode cJ1_indexOfChar_4cfef 14 = .ok (.iload 5, 2) := by decide +kernel
theorem dJ1_indexOfChar_4cfef_16 : decode cJ1_indexOfChar_4cfef 16 = .ok (.baload, 1) := by decide +kernel
theorem dJ1_indexOfChar_4cfef_17 : decode cJ1_indexOfChar_4cfef 17 = .ok (.iload 4, 2) := by decide +kernel
theorem dJ1_indexOfChar_4cfef_19 : decode cJ1_indexOfChar_4cfef 19 = .ok (.if_icmp .ne 6, 3) := by decide +kernel
theorem dJ1_indexOfChar_4cfef_22 : decode cJ1_indexOfChar_4cfef 22 = .ok (.iload 5, 2) := by decide +kernel
theorem dJ1_indexOfChar_4cfef_24 : decode cJ1_indexOfChar_4cfef 24 = .ok (.ireturn, 1) := by decide +kernel
theorem dJ1_indexOfChar_4cfef_25 : decode cJ1_indexOfChar_4cfef 25 = .ok (.iinc 5 1, 3) := by decide +kernel
theorem dJ1_indexOfChar_4cfef_28 : decode cJ1_indexOfChar_4cfef 28 = .ok (.goto (-21), 3) := by decide +kernel
theorem dJ1_indexOfChar_4cfef_31 : decode cJ1_indexOfChar_4cfef 31 = .ok (.iconst (-1), 1) := by decide +kernel
theorem dJ1_indexOfChar_4cfef_32 : decode cJ1_indexOfChar_4cfef 32 = .ok (.ireturn, 1) := by decide +kernel
set_option maxRecDepth 20000 in
theorem ggJ2_getChar_3b067_J2_length_9d52b : GoodIn wsJ2_getChar_3b067 wsJ2_length_9d52b := goodIn_r _ [7] rfl (by decide +kernel)
set_option maxRecDepth 20000 in
theorem gJ2_getChar_3b067_J2_length_9d52b : GoodIn wsJ2_getChar_3b067 (va_wsS RJ2 48 yJ2_length_9d52b wsJ2_length_9d52b) := goodIn_app (goodIn_r _ [4, 5, 6] rfl (by decide +kernel)) ggJ2_getChar_3b067_J2_length_9d52b
theorem dJ2_getChar_3b067_0 : decode cJ2_getChar_3b067 0 = .ok (.getstatic 44, 3) := by decide +kernel
theorem dJ2_getChar_3b067_3 : decode cJ2_getChar_3b067 3 = .ok (.ifCond .ne 25, 3) := by decide +kernel
theorem dJ2_getChar_3b067_6 : decode cJ2_getChar_3b067 6 = .ok (.iload_n 1, 1) := by decide +kernel
theorem dJ2_getChar_3b067_7 : decode cJ2_getChar_3b067 7 = .ok (.ifCond .lt 11, 3) := by decide +kernel
theorem dJ2_getChar_3b067_10 : decode cJ2_getChar_3b067 10 = .ok (.iload_n 1, 1) := by decide +kernel
theorem dJ2_getChar_3b067_11 : decode cJ2_getChar_3b067 11 = .ok (.aload_n 0, 1) := by decide +kernel
theorem dJ2_getChar_3b067_12 : decode cJ2_getChar_3b067 12 = .ok (.invokestatic 48, 3) := by decide +kernel
theorem dJ2_getChar_3b067_15 : decode cJ2_getChar_3b067 15 = .ok (.if_icmp .lt 13, 3) := by decide +kernel
theorem dJ2_getChar_3b067_18 : decode cJ2_getChar_3b067 18 = .ok (.new 52, 3) := by decide +kernel
theorem dJ2_getChar_3b067_21 : decode cJ2_getChar_3b067 21 = .ok (.dup, 1) := by decide +kernel
theorem dJ2_getChar_3b067_22 : decode cJ2_getChar_3b067 22 = .ok (.ldc 54, 2) := by decide +kernel
theorem dJ2_getChar_3b067_24 : decode cJ2_getChar_3b067 24 = .ok (.invokespecial 56, 3) := by decide +kernel
theorem dJ2_getChar_3b067_27 : decode cJ2_getChar_3b067 27 = .ok (.athrow, 1) := by decide +kernel
theorem dJ2_getChar_3b067_28 : decode cJ2_getChar_3b067 28 = .ok (.iload_n 1, 1) := by decide +kernel
theorem dJ2_getChar_3b067_29 : decode cJ2_getChar_3b067 29 = .ok (.iconst 1, 1) := by decide +kernel
theorem dJ2_getChar_3b067_30 : decode cJ2_getChar_3b067 30 = .ok (.ishl, 1) := by decide +kernel
theorem dJ2_getChar_3b067_31 : decode cJ2_getChar_3b067 31 = .ok (.istore_n 1, 1) := by decide +kernel
theorem dJ2_getChar_3b067_32 : decode cJ2_getChar_3b067 32 = .ok (.aload_n 0, 1) := by decide +kernel
theorem dJ2_getChar_3b067_33 : decode cJ2_getChar_3b067 33 = .ok (.iload_n 1, 1) := by decide +kernel
theorem dJ2_getChar_3b067_34 : decode cJ2_getChar_3b067 34 = .ok (.iinc 1 1, 3) := by decide +kernel
theorem dJ2_getChar_3b067_37 : decode cJ2_getChar_3b067 37 = .ok (.baload, 1) := by decide +kernel
theorem dJ2_getChar_3b067_38 : decode cJ2_getChar_3b067 38 = .ok (.sipush 255, 3) := by decide +kernel
theorem dJ2_getChar_3b067_41 : decode cJ2_getChar_3b067 41 = .ok (.iand, 1) := by decide +kernel
theorem dJ2_getChar_3b067_42 : decode cJ2_getChar_3b067 42 = .ok (.getstatic 59, 3) := by decide +kernel
theorem dJ2_getChar_3b067_45 : decode cJ2_getChar_3b067 45 = .ok (.ishl, 1) := by decide +kernel
theorem dJ2_getChar_3b067_46 : decode cJ2_getChar_3b067 46 = .ok (.aload_n 0, 1) := by decide +kernel
theorem dJ2_getChar_3b067_47 : decode cJ2_getChar_3b067 47 = .ok (.iload_n 1, 1) := by decide +kernel
theorem dJ2_getChar_3b067_48 : decode cJ2_getChar_3b067 48 = .ok (.baload, 1) := by decide +kernel
theorem dJ2_getChar_3b067_49 : decode cJ2_getChar_3b067 49 = .ok (.sipush 255, 3) := by decide +kernel
theorem dJ2_getChar_3b067_52 : decode cJ2_getChar_3b067 52 = .ok (.iand, 1) := by decide +kernel
theorem dJ2_getChar_3b067_53 : decode cJ2_getChar_3b067 53 = .ok (.getstatic 63, 3) := by decide +kernel
theorem dJ2_getChar_3b067_56 : decode cJ2_getChar_3b067 56 = .ok (.ishl, 1) := by decide +kernel
theorem dJ2_getChar_3b067_57 : decode cJ2_getChar_3b067 57 = .ok (.ior, 1) := by decide +kernel
theorem dJ2_getChar_3b067_58 : decode cJ2_getChar_3b067 58 = .ok (.i2c, 1) := by decide +kernel
theorem dJ2_getChar_3b067_59 : decode cJ2_getChar_3b067 59 = .ok (.ireturn, 1) := by decide +kernel
theorem dJ2_length_9d52b_0 : decode cJ2_length_9d52b 0 = .ok (.aload_n 0, 1) := by decide +kernel
theorem dJ2_length_9d52b_1 : decode cJ2_length_9d52b 1 = .ok (.arraylength, 1) := by decide +kernel
theorem dJ2_length_9d52b_2 : decode cJ2_length_9d52b 2 = .ok (.iconst 1, 1) := by decide +kernel
theorem dJ2_length_9d52b_3 : decode cJ2_length_9d52b 3 = .ok (.ishr, 1) := by decide +kernel
theorem dJ2_length_9d52b_4 : decode cJ2_length_9d52b 4 = .ok (.ireturn, 1) := by decide +kernel
set_option maxRecDepth 20000 in
theorem ggJ2_indexOf_4cfef_J2_indexOfChar_4cfef : GoodIn wsJ2_indexOf_4cfef wsJ2_indexOfChar_4cfef := goodIn_r _ [12, 13, 14, 11, 15, 16, 17, 18, 19, 20, 21, 22, 23, 24, 25, 26, 27, 28, 29, 30, 31, 32, 33, 34, 35, 36] rfl (by decide +kernel)
set_option maxRecDepth 20000 in
theorem gJ2_indexOf_4cfef_J2_indexOfChar_4cfef : GoodIn wsJ2_indexOf_4cfef (va_wsS RJ2 228 yJ2_indexOfChar_4cfef wsJ2_indexOfChar_4cfef) := goodIn_app (goodIn_r _ [9, 10, 11] rfl (by decide +kernel)) ggJ2_indexOf_4cfef_J2_indexOfChar_4cfef
set_option maxRecDepth 20000 in
theorem ggJ2_indexOf_4cfef_J2_indexOfSupplementary_4cfef : GoodIn wsJ2_indexOf_4cfef wsJ2_indexOfSupplementary_4cfef := goodIn_r _ [39, 40, 41, 42, 43, 44, 45, 46, 47, 48, 49, 50, 51, 13, 14, 11, 15, 16, 17, 18, 19, 20, 21, 22, 23, 24, 25, 26, 27, 31, 32, 33, 34, 35, 36] rfl (by decide +kernel)
set_option maxRecDepth 20000 in
theorem gJ2_indexOf_4cfef_J2_indexOfSupplementary_4cfef : GoodIn wsJ2_indexOf_4cfef (va_wsS RJ2 232 yJ2_indexOfSupplementary_4cfef wsJ2_indexOfSupplementary_4cfef) := goodIn_app (goodIn_r _ [37, 38, 11] rfl (by decide +kernel)) ggJ2_indexOf_4cfef_J2_indexOfSupplementary_4cfef
theorem dJ2_indexOf_4cfef_0 : decode cJ2_indexOf_4cfef 0 = .ok (.iload_n 2, 1) := by decide +kernel
theorem dJ2_indexOf_4cfef_1 : decode cJ2_indexOf_4cfef 1 = .ok (.iconst 0, 1) := by decide +kernel
theorem dJ2_indexOf_4cfef_2 : decode cJ2_indexOf_4cfef 2 = .ok (.invokestatic 224, 3) := by decide +kernel
theorem dJ2_indexOf_4cfef_5 : decode cJ2_indexOf_4cfef 5 = .ok (.istore_n 2, 1) := by decide +kernel
theorem dJ2_indexOf_4cfef_6 : decode cJ2_indexOf_4cfef 6 = .ok (.iload_n 3, 1) := by decide +kernel
theorem dJ2_indexOf_4cfef_7 : decode cJ2_indexOf_4cfef 7 = .ok (.aload_n 0, 1) := by decide +kernel
theorem dJ2_indexOf_4cfef_8 : decode cJ2_indexOf_4cfef 8 = .ok (.arraylength, 1) := by decide +kernel
theorem dJ2_indexOf_4cfef_9 : decode cJ2_indexOf_4cfef 9 = .ok (.iconst 1, 1) := by decide +kernel
theorem dJ2_indexOf_4cfef_10 : decode cJ2_indexOf_4cfef 10 = .ok (.ishr, 1) := by decide +kernel
theorem dJ2_indexOf_4cfef_11 : decode cJ2_indexOf_4cfef 11 = .ok (.invokestatic 183, 3) := by decide +kernel
theorem dJ2_indexOf_4cfef_14 : decode cJ2_indexOf_4cfef 14 = .ok (.istore_n 3, 1) := by decide +kernel
theorem dJ2_indexOf_4cfef_15 : decode cJ2_indexOf_4cfef 15 = .ok (.iload_n 2, 1) := by decide +kernel
theorem dJ2_indexOf_4cfef_16 : decode cJ2_indexOf_4cfef 16 = .ok (.iload_n 3, 1) := by decide +kernel
theorem dJ2_indexOf_4cfef_17 : decode cJ2_indexOf_4cfef 17 = .ok (.if_icmp .lt 5, 3) := by decide +kernel
theorem dJ2_indexOf_4cfef_20 : decode cJ2_indexOf_4cfef 20 = .ok (.iconst (-1), 1) := by decide +kernel
theorem dJ2_indexOf_4cfef_21 : decode cJ2_indexOf_4cfef 21 = .ok (.ireturn, 1) := by decide +kernel
theorem dJ2_indexOf_4cfef_22 : decode cJ2_indexOf_4cfef 22 = .ok (.iload_n 1, 1) := by decide +kernel
theorem dJ2_indexOf_4cfef_23 : decode cJ2_indexOf_4cfef 23 = .ok (.ldc 227, 2) := by decide +kernel
theorem dJ2_indexOf_4cfef_25 : decode cJ2_indexOf_4cfef 25 = .ok (.if_icmp .ge 11, 3) := by decide +kernel
theorem dJ2_indexOf_4cfef_28 : decode cJ2_indexOf_4cfef 28 = .ok (.aload_n 0, 1) := by decide +kernel
theorem dJ2_indexOf_4cfef_29 : decode cJ2_indexOf_4cfef 29 = .ok (.iload_n 1, 1) := by decide +kernel
theorem dJ2_indexOf_4cfef_30 : decode cJ2_indexOf_4cfef 30 = .ok (.iload_n 2, 1) := by decide +kernel
theorem dJ2_indexOf_4cfef_31 : decode cJ2_indexOf_4cfef 31 = .ok (.iload_n 3, 1) := by decide +kernel
theorem dJ2_indexOf_4cfef_32 : decode cJ2_indexOf_4cfef 32 = .ok (.invokestatic 228, 3) := by decide +kernel
theorem dJ2_indexOf_4cfef_35 : decode cJ2_indexOf_4cfef 35 = .ok (.ireturn, 1) := by decide +kernel
theorem dJ2_indexOf_4cfef_36 : decode cJ2_indexOf_4cfef 36 = .ok (.aload_n 0, 1) := by decide +kernel
theorem dJ2_indexOf_4cfef_37 : decode cJ2_indexOf_4cfef 37 = .ok (.iload_n 1, 1) := by decide +kernel
theorem dJ2_indexOf_4cfef_38 : decode cJ2_indexOf_4cfef 38 = .ok (.iload_n 2, 1) := by decide +kernel
theorem dJ2_indexOf_4cfef_39 : decode cJ2_indexOf_4cfef 39 = .ok (.iload_n 3, 1) := by decide +kernel
theorem dJ2_indexOf_4cfef_40 : decode cJ2_indexOf_4cfef 40 = .ok (.invokestatic 232, 3) := by decide +kernel
theorem dJ2_indexOf_4cfef_43 : decode cJ2_indexOf_4cfef 43 = .ok (.ireturn, 1) := by decide +kernel
set_option maxRecDepth 20000 in
theorem ggJ2_indexOfChar_4cfef_J2_checkBoundsBeginEnd_d044e : GoodIn wsJ2_indexOfChar_4cfef wsJ2_checkBoundsBeginEnd_d044e := goodIn_r _ [4, 5, 6, 3, 7, 8, 9, 10, 11, 12, 13, 14, 15, 16] rfl (by decide +kernel)
set_option maxRecDepth 20000 in
theorem gJ2_indexOfChar_4cfef_J2_checkBoundsBeginEnd_d044e : GoodIn wsJ2_indexOfChar_4cfef (va_wsS RJ2 96 yJ2_checkBoundsBeginEnd_d044e wsJ2_checkBoundsBeginEnd_d044e) := goodIn_app (goodIn_r _ [1, 2, 3] rfl (by decide +kernel)) ggJ2_indexOfChar_4cfef_J2_checkBoundsBeginEnd_d044e
set_option maxRecDepth 20000 in
theorem ggJ2_indexOfChar_4cfef_J2_indexOfCharUnsafe_4cfef : GoodIn wsJ2_indexOfChar_4cfef wsJ2_indexOfCharUnsafe_4cfef := goodIn_r _ [19, 20, 21, 3, 22, 23, 24, 25, 5, 6, 7] rfl (by decide +kernel)
set_option maxRecDepth 20000 in
theorem gJ2_indexOfChar_4cfef_J2_indexOfCharUnsafe_4cfef : GoodIn wsJ2_indexOfChar_4cfef (va_wsS RJ2 244 yJ2_indexOfCharUnsafe_4cfef wsJ2_indexOfCharUnsafe_4cfef) := goodIn_app (goodIn_r _ [17, 18, 3] rfl (by decide +kernel)) ggJ2_indexOfChar_4cfef_J2_indexOfCharUnsafe_4cfef
theorem dJ2_indexOfChar_4cfef_0 : decode cJ2_indexOfChar_4cfef 0 = .ok (.iload_n 2, 1) := by decide +kernel
theorem dJ2_indexOfChar_4cfef_1 : decode cJ2_indexOfChar_4cfef 1 = .ok (.iload_n 3, 1) := by decide +kernel
theorem dJ2_indexOfChar_4cfef_2 : decode cJ2_indexOfChar_4cfef 2 = .ok (.aload_n 0, 1) := by decide +kernel
theorem dJ2_indexOfChar_4cfef_3 : decode cJ2_indexOfChar_4cfef 3 = .ok (.invokestatic 96, 3) := by decide +kernel
theorem dJ2_indexOfChar_4cfef_6 : decode cJ2_indexOfChar_4cfef 6 = .ok (.aload_n 0, 1) := by decide +kernel
theorem dJ2_indexOfChar_4cfef_7 : decode cJ2_indexOfChar_4cfef 7 = .ok (.iload_n 1, 1) := by decide +kernel
theorem dJ2_indexOfChar_4cfef_8 : decode cJ2_indexOfChar_4cfef 8 = .ok (.iload_n 2, 1) := by decide +kernel
theorem dJ2_indexOfChar_4cfef_9 : decode cJ2_indexOfChar_4cfef 9 = .ok (.iload_n 3, 1) := by decide +kernel
theorem dJ2_indexOfChar_4cfef_10 : decode cJ2_indexOfChar_4cfef 10 = .ok (.invokestatic 244, 3) := by decide +kernel
theorem dJ2_indexOfChar_4cfef_13 : decode cJ2_indexOfChar_4cfef 13 = .ok (.ireturn, 1) := by decide +kernel
set_option maxRecDepth 20000 in
theorem ggJ2_indexOfCharUnsafe_4cfef_J2_getChar_3b067 : GoodIn wsJ2_indexOfCharUnsafe_4cfef wsJ2_getChar_3b067 := goodIn_r _ [4, 5, 6, 7, 8, 9, 3, 10] rfl (by decide +kernel)
set_option maxRecDepth 20000 in
theorem gJ2_indexOfCharUnsafe_4cfef_J2_getChar_3b067 : GoodIn wsJ2_indexOfCharUnsafe_4cfef (va_wsS RJ2 71 yJ2_getChar_3b067 wsJ2_getChar_3b067) := goodIn_app (goodIn_r _ [1, 2, 3] rfl (by decide +kernel)) ggJ2_indexOfCharUnsafe_4cfef_J2_getChar_3b067
theorem dJ2_indexOfCharUnsafe_4cfef_0 : decode cJ2_indexOfCharUnsafe_4cfef 0 = .ok (.iload_n 2, 1) := by decide +kernel
theorem dJ2_indexOfCharUnsafe_4cfef_1 : decode cJ2_indexOfCharUnsafe_4cfef 1 = .ok (.istore 4, 2) := by decide +kernel
theorem dJ2_indexOfCharUnsafe_4cfef_3 : decode cJ2_indexOfCharUnsafe_4cfef 3 = .ok (.iload 4, 2) := by decide +kernel
theorem dJ2_indexOfCharUnsafe_4cfef_5 : decode cJ2_indexOfCharUnsafe_4cfef 5 = .ok (.iload_n 3, 1) := by decide +kernel
theorem dJ2_indexOfCharUnsafe_4cfef_6 : decode cJ2_indexOfCharUnsafe_4cfef 6 = .ok (.if_icmp .ge 22, 3) := by decide +kernel
theorem dJ2_indexOfCharUnsafe_4cfef_9 : decode cJ2_indexOfCharUnsafe_4cfef 9 = .ok (.aload_n 0, 1) := by decide +kernel
theorem dJ2_indexOfCharUnsafe_4cfef_10 : decode cJ2_indexOfCharUnsafe_4cfef 10 = .ok (.iload 4, 2) := by decide +kernel
theorem dJ2_indexOfCharUnsafe_4cfef_12 : decode cJ2_indexOfCharUnsafe_4cfef 12 = .ok (.invokestatic 71, 3) := by decide +kernel
theorem dJ2_indexOfCharUnsafe_4cfef_15 : decode cJ2_indexOfCharUnsafe_4cfef 15 = .ok (.iload_n 1, 1) := by decide +kernel
theorem dJ2_indexOfCharUnsafe_4cfef_16 : decode cJ2_indexOfCharUnsafe_4cfef 16 = .ok (.if_icmp .ne 6, 3) := by decide +kernel
theorem dJ2_indexOfCharUnsafe_4cfef_19 : decode cJ2_indexOfCharUnsafe_4cfef 19 = .ok (.iload 4, 2) := by decide +kernel
theorem dJ2_indexOfCharUnsafe_4cfef_21 : decode cJ2_indexOfCharUnsafe_4cfef 21 = .ok (.ireturn, 1) := by decide +kernel
theorem dJ2_indexOfCharUnsafe_4cfef_22 : decode cJ2_indexOfCharUnsafe_4cfef 22 = .ok (.iinc 4 1, 3) := by decide +kernel
theorem dJ2_indexOfCharUnsafe_4cfef_25 : decode cJ2_indexOfCharUnsafe_4cfef 25 = .ok (.goto (-22), 3) := by decide +kernel
theorem dJ2_indexOfCharUnsafe_4cfef_28 : decode cJ2_indexOfCharUnsafe_4cfef 28 = .ok (.iconst (-1), 1) := by decide +kernel
theorem dJ2_indexOfCharUnsafe_4cfef_29 : decode cJ2_indexOfCharUnsafe_4cfef 29 = .ok (.ireturn, 1) := by decide +kernel
set_option maxRecDepth 20000 in
theorem ggJ2_indexOfSupplementary_4cfef_J11_isValidCodePoint_9a6ad : GoodIn wsJ2_indexOfSupplementary_4cfef wsJ11_isValidCodePoint_9a6ad := goodIn_r _ [4] rfl (by decide +kernel)
set_option maxRecDepth 20000 in
theorem gJ2_indexOfSupplementary_4cfef_J11_isValidCodePoint_9a6ad : GoodIn wsJ2_indexOfSupplementary_4cfef (va_wsS RJ2 164 yJ11_isValidCodePoint_9a6ad wsJ11_isValidCodePoint_9a6ad) := goodIn_app (goodIn_r _ [1, 2, 3] rfl (by decide +kernel)) ggJ2_indexOfSupplementary_4cfef_J11_isValidCodePoint_9a6ad
set_option maxRecDepth 20000 in
theorem ggJ2_indexOfSupplementary_4cfef_J11_highSurrogate_5068e : GoodIn wsJ2_indexOfSupplementary_4cfef wsJ11_highSurrogate_5068e := goodIn_r _ [7, 8] rfl (by decide +kernel)
set_option maxRecDepth 20000 in
theorem gJ2_indexOfSupplementary_4cfef_J11_highSurrogate_5068e : GoodIn wsJ2_indexOfSupplementary_4cfef (va_wsS RJ2 157 yJ11_highSurrogate_5068e wsJ11_highSurrogate_5068e) := goodIn_app (goodIn_r _ [5, 6, 3] rfl (by decide +kernel)) ggJ2_indexOfSupplementary_4cfef_J11_highSurrogate_5068e
set_option maxRecDepth 20000 in
theorem ggJ2_indexOfSupplementary_4cfef_J11_lowSurrogate_5068e : GoodIn wsJ2_indexOfSupplementary_4cfef wsJ11_lowSurrogate_5068e := goodIn_r _ [11, 12] rfl (by decide +kernel)
set_option maxRecDepth 20000 in
theorem gJ2_indexOfSupplementary_4cfef_J11_lowSurrogate_5068e : GoodIn wsJ2_indexOfSupplementary_4cfef (va_wsS RJ2 161 yJ11_lowSurrogate_5068e wsJ11_lowSurrogate_5068e) := goodIn_app (goodIn_r _ [9, 10, 3] rfl (by decide +kernel)) ggJ2_indexOfSupplementary_4cfef_J11_lowSurrogate_5068e
set_option maxRecDepth 20000 in
theorem ggJ2_indexOfSupplementary_4cfef_J2_checkBoundsBeginEnd_d044e : GoodIn wsJ2_indexOfSupplementary_4cfef wsJ2_checkBoundsBeginEnd_d044e := goodIn_r _ [16, 17, 18, 15, 19, 20, 21, 22, 23, 24, 25, 26, 27, 28] rfl (by decide +kernel)
set_option maxRecDepth 20000 in
theorem gJ2_indexOfSupplementary_4cfef_J2_checkBoundsBeginEnd_d044e : GoodIn wsJ2_indexOfSupplementary_4cfef (va_wsS RJ2 96 yJ2_checkBoundsBeginEnd_d044e wsJ2_checkBoundsBeginEnd_d044e) := goodIn_app (goodIn_r _ [13, 14, 15] rfl (by decide +kernel)) ggJ2_indexOfSupplementary_4cfef_J2_checkBoundsBeginEnd_d044e
set_option maxRecDepth 20000 in
theorem ggJ2_indexOfSupplementary_4cfef_J2_getChar_3b067 : GoodIn wsJ2_indexOfSupplementary_4cfef wsJ2_getChar_3b067 := goodIn_r _ [31, 32, 33, 34, 17, 18, 15, 19] rfl (by decide +kernel)
set_option maxRecDepth 20000 in
theorem gJ2_indexOfSupplementary_4cfef_J2_getChar_3b067 : GoodIn wsJ2_indexOfSupplementary_4cfef (va_wsS RJ2 71 yJ2_getChar_3b067 wsJ2_getChar_3b067) := goodIn_app (goodIn_r _ [29, 30, 15] rfl (by decide +kernel)) ggJ2_indexOfSupplementary_4cfef_J2_getChar_3b067
theorem dJ2_indexOfSupplementary_4cfef_0 : decode cJ2_indexOfSupplementary_4cfef 0 = .ok (.iload_n 1, 1) := by decide +kernel
theorem dJ2_indexOfSupplementary_4cfef_1 : decode cJ2_indexOfSupplementary_4cfef 1 = .ok (.invokestatic 164, 3) := by decide +kernel
theorem dJ2_indexOfSupplementary_4cfef_4 : decode cJ2_indexOfSupplementary_4cfef 4 = .ok (.ifCond .eq 65, 3) := by decide +kernel
theorem dJ2_indexOfSupplementary_4cfef_7 : decode cJ2_indexOfSupplementary_4cfef 7 = .ok (.iload_n 1, 1) := by decide +kernel
theorem dJ2_indexOfSupplementary_4cfef_8 : decode cJ2_indexOfSupplementary_4cfef 8 = .ok (.invokestatic 157, 3) := by decide +kernel
theorem dJ2_indexOfSupplementary_4cfef_11 : decode cJ2_indexOfSupplementary_4cfef 11 = .ok (.istore 4, 2) := by decide +kernel
theorem dJ2_indexOfSupplementary_4cfef_13 : decode cJ2_indexOfSupplementary_4cfef 13 = .ok (.iload_n 1, 1) := by decide +kernel
theorem dJ2_indexOfSupplementary_4cfef_14 : decode cJ2_indexOfSupplementary_4cfef 14 = .ok (.invokestatic 161, 3) := by decide +kernel
theorem dJ2_indexOfSupplementary_4cfef_17 : decode cJ2_indexOfSupplementary_4cfef 17 = .ok (.istore 5, 2) := by decide +kernel
theorem dJ2_indexOfSupplementary_4cfef_19 : decode cJ2_indexOfSupplementary_4cfef 19 = .ok (.iload_n 2, 1) := by decide +kernel
theorem dJ2_indexOfSupplementary_4cfef_20 : decode cJ2_indexOfSupplementary_4cfef 20 = .ok (.iload_n 3, 1) := by decide +kernel
theorem dJ2_indexOfSupplementary_4cfef_21 : decode cJ2_indexOfSupplementary_4cfef 21 = .ok (.aload_n 0, 1) := by decide +kernel
theorem dJ2_indexOfSupplementary_4cfef_22 : decode cJ2_indexOfSupplementary_4cfef 22 = .ok (.invokestatic 96, 3) := by decide +kernel
theorem dJ2_indexOfSupplementary_4cfef_25 : decode cJ2_indexOfSupplementary_4cfef 25 = .ok (.iload_n 2, 1) := by decide +kernel
theorem dJ2_indexOfSupplementary_4cfef_26 : decode cJ2_indexOfSupplementary_4cfef 26 = .ok (.istore 6, 2) := by decide +kernel
theorem dJ2_indexOfSupplementary_4cfef_28 : decode cJ2_indexOfSupplementary_4cfef 28 = .ok (.iload 6, 2) := by decide +kernel
theorem dJ2_indexOfSupplementary_4cfef_30 : decode cJ2_indexOfSupplementary_4cfef 30 = .ok (.iload_n 3, 1) := by decide +kernel
theorem dJ2_indexOfSupplementary_4cfef_31 : decode cJ2_indexOfSupplementary_4cfef 31 = .ok (.iconst 1, 1) := by decide +kernel
theorem dJ2_indexOfSupplementary_4cfef_32 : decode cJ2_indexOfSupplementary_4cfef 32 = .ok (.isub, 1) := by decide +kernel
theorem dJ2_indexOfSupplementary_4cfef_33 : decode cJ2_indexOfSupplementary_4cfef 33 = .ok (.if_icmp .ge 36, 3) := by decide +kernel
theorem dJ2_indexOfSupplementary_4cfef_36 : decode cJ2_indexOfSupplementary_4cfef 36 = .ok (.aload_n 0, 1) := by decide +kernel
theorem dJ2_indexOfSupplementary_4cfef_37 : decode cJ2_indexOfSupplementary_4cfef 37 = .ok (.iload 6, 2) := by decide +kernel
theorem dJ2_indexOfSupplementary_4cfef_39 : decode cJ2_indexOfSupplementary_4cfef 39 = .ok (.invokestatic 71, 3) := by decide +kernel
theorem dJ2_indexOfSupplementary_4cfef_42 : decode cJ2_indexOfSupplementary_4cfef 42 = .ok (.iload 4, 2) := by decide +kernel
theorem dJ2_indexOfSupplementary_4cfef_44 : decode cJ2_indexOfSupplementary_4cfef 44 = .ok (.if_icmp .ne 19, 3) := by decide +kernel
theorem dJ2_indexOfSupplementary_4cfef_47 : decode cJ2_indexOfSupplementary_4cfef 47 = .ok (.aload_n 0, 1) := by decide +kernel
theorem dJ2_indexOfSupplementary_4cfef_48 : decode cJ2_indexOfSupplementary_4cfef 48 = .ok (.iload 6, 2) := by decide +kernel
theorem dJ2_indexOfSupplementary_4cfef_50 : decode cJ2_indexOfSupplementary_4cfef 50 = .ok (.iconst 1, 1) := by decide +kernel
theorem dJ2_indexOfSupplementary_4cfef_51 : decode cJ2_indexOfSupplementary_4cfef 51 = .ok (.iadd, 1) := by decide +kernel
theorem dJ2_indexOfSupplementary_4cfef_52 : decode cJ2_indexOfSupplementary_4cfef 52 = .ok (.invokestatic 71, 3) := by decide +kernel
theorem dJ2_indexOfSupplementary_4cfef_55 : decode cJ2_indexOfSupplementary_4cfef 55 = .ok (.iload 5, 2) := by decide +kernel
theorem dJ2_indexOfSupplementary_4cfef_57 : decode cJ2_indexOfSupplementary_4cfef 57 = .ok (.if_icmp .ne 6, 3) := by decide +kernel
theorem dJ2_indexOfSupplementary_4cfef_60 : decode cJ2_indexOfSupplementary_4cfef 60 = .ok (.iload 6, 2) := by decide +kernel
theorem dJ2_indexOfSupplementary_4cfef_62 : decode cJ2_indexOfSupplementary_4cfef 62 = .ok (.ireturn, 1) := by decide +kernel
theorem dJ2_indexOfSupplementary_4cfef_63 : decode cJ2_indexOfSupplementary_4cfef 63 = .ok (.iinc 6 1, 3) := by decide +kernel
theorem dJ2_indexOfSupplementary_4cfef_66 : decode cJ2_indexOfSupplementary_4cfef 66 = .ok (.goto (-38), 3) := by decide +kernel
theorem dJ2_indexOfSupplementary_4cfef_69 : decode cJ2_indexOfSupplementary_4cfef 69 = .ok (.iconst (-1), 1) := by decide +kernel
theorem dJ2_indexOfSupplementary_4cfef_70 : decode cJ2_indexOfSupplementary_4cfef 70 = .ok (.ireturn, 1) := by decide +kernel
set_option maxRecDepth 20000 in
theorem ggJ2_checkBoundsBeginEnd_d044e_J2_length_9d52b : GoodIn wsJ2_checkBoundsBeginEnd_d044e wsJ2_length_9d52b := goodIn_r _ [4] rfl (by decide +kernel)
set_option maxRecDepth 20000 in
theorem gJ2_checkBoundsBeginEnd_d044e_J2_length_9d52b : GoodIn wsJ2_checkBoundsBeginEnd_d044e (va_wsS RJ2 48 yJ2_length_9d52b wsJ2_length_9d52b) := goodIn_app (goodIn_r _ [1, 2, 3] rfl (by decide +kernel)) ggJ2_checkBoundsBeginEnd_d044e_J2_length_9d52b
set_option maxRecDepth 20000 in
theorem ggJ2_checkBoundsBeginEnd_d044e_J0_checkBoundsBeginEnd_23922 : GoodIn wsJ2_checkBoundsBeginEnd_d044e wsJ0_checkBoundsBeginEnd_23922 := goodIn_r _ [8, 9, 10, 11, 12, 13] rfl (by decide +kernel)
set_option maxRecDepth 20000 in
theorem gJ2_checkBoundsBeginEnd_d044e_J0_checkBoundsBeginEnd_23922 : GoodIn wsJ2_checkBoundsBeginEnd_d044e (va_wsS RJ2 241 yJ0_checkBoundsBeginEnd_23922 wsJ0_checkBoundsBeginEnd_23922) := goodIn_app (goodIn_r _ [5, 6, 7] rfl (by decide +kernel)) ggJ2_checkBoundsBeginEnd_d044e_J0_checkBoundsBeginEnd_23922
theorem dJ2_checkBoundsBeginEnd_d044e_0 : decode cJ2_checkBoundsBeginEnd_d044e 0 = .ok (.iload_n 0, 1) := by decide +kernel
theorem dJ2_checkBoundsBeginEnd_d044e_1 : decode cJ2_checkBoundsBeginEnd_d044e 1 = .ok (.iload_n 1, 1) := by decide +kernel
theorem dJ2_checkBoundsBeginEnd_d044e_2 : decode cJ2_checkBoundsBeginEnd_d044e 2 = .ok (.aload_n 2, 1) := by decide +kernel
theorem dJ2_checkBoundsBeginEnd_d044e_3 : decode cJ2_checkBoundsBeginEnd_d044e 3 = .ok (.invokestatic 48, 3) := by decide +kernel
theorem dJ2_checkBoundsBeginEnd_d044e_6 : decode cJ2_checkBoundsBeginEnd_d044e 6 = .ok (.invokestatic 241, 3) := by decide +kernel
theorem dJ2_checkBoundsBeginEnd_d044e_9 : decode cJ2_checkBoundsBeginEnd_d044e 9 = .ok (.return_, 1) := by decide +kernel
theorem dJ3_checkFromToIndex_8c36e_0 : decode cJ3_checkFromToIndex_8c36e 0 = .ok (.iload_n 0, 1) := by decide +kernel
theorem dJ3_checkFromToIndex_8c36e_1 : decode cJ3_checkFromToIndex_8c36e 1 = .ok (.ifCond .lt 13, 3) := by decide +kernel
theorem dJ3_checkFromToIndex_8c36e_4 : decode cJ3_checkFromToIndex_8c36e 4 = .ok (.iload_n 0, 1) := by decide +kernel
theorem dJ3_checkFromToIndex_8c36e_5 : decode cJ3_checkFromToIndex_8c36e 5 = .ok (.iload_n 1, 1) := by decide +kernel
theorem dJ3_checkFromToIndex_8c36e_6 : decode cJ3_checkFromToIndex_8c36e 6 = .ok (.if_icmp .gt 8, 3) := by decide +kernel
theorem dJ3_checkFromToIndex_8c36e_9 : decode cJ3_checkFromToIndex_8c36e 9 = .ok (.iload_n 1, 1) := by decide +kernel
theorem dJ3_checkFromToIndex_8c36e_10 : decode cJ3_checkFromToIndex_8c36e 10 = .ok (.iload_n 2, 1) := by decide +kernel
theorem dJ3_checkFromToIndex_8c36e_11 : decode cJ3_checkFromToIndex_8c36e 11 = .ok (.if_icmp .le 11, 3) := by decide +kernel
theorem dJ3_checkFromToIndex_8c36e_14 : decode cJ3_checkFromToIndex_8c36e 14 = .ok (.aload_n 3, 1) := by decide +kernel
theorem dJ3_checkFromToIndex_8c36e_15 : decode cJ3_checkFromToIndex_8c36e 15 = .ok (.iload_n 0, 1) := by decide +kernel
theorem dJ3_checkFromToIndex_8c36e_16 : decode cJ3_checkFromToIndex_8c36e 16 = .ok (.iload_n 1, 1) := by decide +kernel
theorem dJ3_checkFromToIndex_8c36e_17 : decode cJ3_checkFromToIndex_8c36e 17 = .ok (.iload_n 2, 1) := by decide +kernel
theorem dJ3_checkFromToIndex_8c36e_18 : decode cJ3_checkFromToIndex_8c36e 18 = .ok (.invokestatic 99, 3) := by decide +kernel
theorem dJ3_checkFromToIndex_8c36e_21 : decode cJ3_checkFromToIndex_8c36e 21 = .ok (.athrow, 1) := by decide +kernel
theorem dJ3_checkFromToIndex_8c36e_22 : decode cJ3_checkFromToIndex_8c36e 22 = .ok (.iload_n 0, 1) := by decide +kernel
theorem dJ3_checkFromToIndex_8c36e_23 : decode cJ3_checkFromToIndex_8c36e 23 = .ok (.ireturn, 1) := by decide +kernel
/-! the law's words by chunk and place -/
theorem chLi_0 : ∀ w ∈ wsL_law_r1, w ∈ wsL_law := fun _ h => (List.mem_append_left _ (List.mem_append_left _ (List.mem_append_left _ (List.mem_append_left _ (List.mem_append_left _ (List.mem_append_left _ (List.mem_append_left _ (List.mem_append_left _ (List.mem_append_left _ (List.mem_append_left _ (List.mem_append_left _ (List.mem_append_left _ (List.mem_append_left _ h)))))))))))))
theorem chLi_1 : ∀ w ∈ wsL_law_r2, w ∈ wsL_law := fun _ h => (List.mem_append_left _ (List.mem_append_left _ (List.mem_append_left _ (List.mem_append_left _ (List.mem_append_left _ (List.mem_append_left _ (List.mem_append_left _ (List.mem_append_left _ (List.mem_append_left _ (List.mem_append_left _ (List.mem_append_left _ (List.mem_append_left _ (List.mem_append_right _ (List.mem_append_left _ h))))))))))))))
theorem chLi_2 : ∀ w ∈ wsL_law_r3, w ∈ wsL_law := fun _ h => (List.mem_append_left _ (List.mem_append_left _ (List.mem_append_left _ (List.mem_append_left _ (List.mem_append_left _ (List.mem_append_left _ (List.mem_append_left _ (List.mem_append_left _ (List.mem_append_left _ (List.mem_append_left _ (List.mem_append_left _ (List.mem_append_left _ (List.mem_append_right _ (List.mem_append_right _ (List.mem_append_left _ h)))))))))))))))
theorem chLi_3 : ∀ w ∈ wsL_law_r4, w ∈ wsL_law := fun _ h => (List.mem_append_left _ (List.mem_append_left _ (List.mem_append_left _ (List.mem_append_left _ (List.mem_append_left _ (List.mem_append_left _ (List.mem_append_left _ (List.mem_append_left _ (List.mem_append_left _ (List.mem_append_left _ (List.mem_append_left _ (List.mem_append_left _ (List.mem_append_right _ (List.mem_append_right _ (List.mem_append_right _ (List.mem_append_left _ h))))))))))))))))
theorem chLi_4 : ∀ w ∈ wsL_law_r5, w ∈ wsL_law := fun _ h => (List.mem_append_left _ (List.mem_append_left _ (List.mem_append_left _ (List.mem_append_left _ (List.mem_append_left _ (List.mem_append_left _ (List.mem_append_left _ (List.mem_append_left _ (List.mem_append_left _ (List.mem_append_left _ (List.mem_append_left _ (List.mem_append_left _ (List.mem_append_right _ (List.mem_append_right _ (List.mem_append_right _ (List.mem_append_right _ (List.mem_append_left _ h)))))))))))))))))
theorem chLi_5 : ∀ w ∈ wsL_law_r6, w ∈ wsL_law := fun _ h => (List.mem_append_left _ (List.mem_append_left _ (List.mem_append_left _ (List.mem_append_left _ (List.mem_append_left _ (List.mem_append_left _ (List.mem_append_left _ (List.mem_append_left _ (List.mem_append_left _ (List.mem_append_left _ (List.mem_append_left _ (List.mem_append_left _ (List.mem_append_right _ (List.mem_append_right _ (List.mem_append_right _ (List.mem_append_right _ (List.mem_append_right _ (List.mem_append_left _ h))))))))))))))))))
theorem chLi_6 : ∀ w ∈ wsL_law_r7, w ∈ wsL_law := fun _ h => (List.mem_append_left _ (List.mem_append_left _ (List.mem_append_left _ (List.mem_append_left _ (List.mem_append_left _ (List.mem_append_left _ (List.mem_append_left _ (List.mem_append_left _ (List.mem_append_left _ (List.mem_append_left _ (List.mem_append_left _ (List.mem_append_left _ (List.mem_append_right _ (List.mem_append_right _ (List.mem_append_right _ (List.mem_append_right _ (List.mem_append_right _ (List.mem_append_right _ (List.mem_append_left _ h)))))))))))))))))))
theorem chLi_7 : ∀ w ∈ wsL_law_r8, w ∈ wsL_law := fun _ h => (List.mem_append_left _ (List.mem_append_left _ (List.mem_append_left _ (List.mem_append_left _ (List.mem_append_left _ (List.mem_append_left _ (List.mem_append_left _ (List.mem_append_left _ (List.mem_append_left _ (List.mem_append_left _ (List.mem_append_left _ (List.mem_append_left _ (List.mem_append_right _ (List.mem_append_right _ (List.mem_append_right _ (List.mem_append_right _ (List.mem_append_right _ (List.mem_append_right _ (List.mem_append_right _ (List.mem_append_left _ h))))))))))))))))))))
theorem chLi_8 : ∀ w ∈ wsL_law_r9, w ∈ wsL_law := fun _ h => (List.mem_append_left _ (List.mem_append_left _ (List.mem_append_left _ (List.mem_append_left _ (List.mem_append_left _ (List.mem_append_left _ (List.mem_append_left _ (List.mem_append_left _ (List.mem_append_left _ (List.mem_append_left _ (List.mem_append_left _ (List.mem_append_left _ (List.mem_append_right _ (List.mem_append_right _ (List.mem_append_right _ (List.mem_append_right _ (List.mem_append_right _ (List.mem_append_right _ (List.mem_append_right _ (List.mem_append_right _ (List.mem_append_left _ h)))))))))))))))))))))
theorem chLi_9 : ∀ w ∈ wsL_law_r10, w ∈ wsL_law := fun _ h => (List.mem_append_left _ (List.mem_append_left _ (List.mem_append_left _ (List.mem_append_left _ (List.mem_append_left _ (List.mem_append_left _ (List.mem_append_left _ (List.mem_append_left _ (List.mem_append_left _ (List.mem_append_left _ (List.mem_append_left _ (List.mem_append_left _ (List.mem_append_right _ (List.mem_append_right _ (List.mem_append_right _ (List.mem_append_right _ (List.mem_append_right _ (List.mem_append_right _ (List.mem_append_right _ (List.mem_append_right _ (List.mem_append_right _ (List.mem_append_left _ h))))))))))))))))))))))
theorem chLi_10 : ∀ w ∈ wsL_law_r11, w ∈ wsL_law := fun _ h => (List.mem_append_left _ (List.mem_append_left _ (List.mem_append_left _ (List.mem_append_left _ (List.mem_append_left _ (List.mem_append_left _ (List.mem_append_left _ (List.mem_append_left _ (List.mem_append_left _ (List.mem_append_left _ (List.mem_append_left _ (List.mem_append_left _ (List.mem_append_right _ (List.mem_append_right _ (List.mem_append_right _ (List.mem_append_right _ (List.mem_append_right _ (List.mem_append_right _ (List.mem_append_right _ (List.mem_append_right _ (List.mem_append_right _ (List.mem_append_right _ (List.mem_append_left _ h)))))))))))))))))))))))
theorem chLi_11 : ∀ w ∈ wsL_law_r12, w ∈ wsL_law := fun _ h => (List.mem_append_left _ (List.mem_append_left _ (List.mem_append_left _ (List.mem_append_left _ (List.mem_append_left _ (List.mem_append_left _ (List.mem_append_left _ (List.mem_append_left _ (List.mem_append_left _ (List.mem_append_left _ (List.mem_append_left _ (List.mem_append_left _ (List.mem_append_right _ (List.mem_append_right _ (List.mem_append_right _ (List.mem_append_right _ (List.mem_append_right _ (List.mem_append_right _ (List.mem_append_right _ (List.mem_append_right _ (List.mem_append_right _ (List.mem_append_right _ (List.mem_append_right _ (List.mem_append_left _ h))))))))))))))))))))))))
theorem chLi_12 : ∀ w ∈ wsL_law_r13, w ∈ wsL_law := fun _ h => (List.mem_append_left _ (List.mem_append_left _ (List.mem_append_left _ (List.mem_append_left _ (List.mem_append_left _ (List.mem_append_left _ (List.mem_append_left _ (List.mem_append_left _ (List.mem_append_left _ (List.mem_append_left _ (List.mem_append_left _ (List.mem_append_left _ (List.mem_append_right _ (List.mem_append_right _ (List.mem_append_right _ (List.mem_append_right _ (List.mem_append_right _ (List.mem_append_right _ (List.mem_append_right _ (List.mem_append_right _ (List.mem_append_right _ (List.mem_append_right _ (List.mem_append_right _ (List.mem_append_right _ (List.mem_append_left _ h)))))))))))))))))))))))))
theorem chLi_13 : ∀ w ∈ wsL_law_r14, w ∈ wsL_law := fun _ h => (List.mem_append_left _ (List.mem_append_left _ (List.mem_append_left _ (List.mem_append_left _ (List.mem_append_left _ (List.mem_append_left _ (List.mem_append_left _ (List.mem_append_left _ (List.mem_append_left _ (List.mem_append_left _ (List.mem_append_left _ (List.mem_append_left _ (List.mem_append_right _ (List.mem_append_right _ (List.mem_append_right _ (List.mem_append_right _ (List.mem_append_right _ (List.mem_append_right _ (List.mem_append_right _ (List.mem_append_right _ (List.mem_append_right _ (List.mem_append_right _ (List.mem_append_right _ (List.mem_append_right _ (List.mem_append_right _ (List.mem_append_left _ h))))))))))))))))))))))))))
theorem chLi_14 : ∀ w ∈ wsL_law_r15, w ∈ wsL_law := fun _ h => (List.mem_append_left _ (List.mem_append_left _ (List.mem_append_left _ (List.mem_append_left _ (List.mem_append_left _ (List.mem_append_left _ (List.mem_append_left _ (List.mem_append_left _ (List.mem_append_left _ (List.mem_append_left _ (List.mem_append_left _ (List.mem_append_left _ (List.mem_append_right _ (List.mem_append_right _ (List.mem_append_right _ (List.mem_append_right _ (List.mem_append_right _ (List.mem_append_right _ (List.mem_append_right _ (List.mem_append_right _ (List.mem_append_right _ (List.mem_append_right _ (List.mem_append_right _ (List.mem_append_right _ (List.mem_append_right _ (List.mem_append_right _ (List.mem_append_left _ h)))))))))))))))))))))))))))
theorem chLi_15 : ∀ w ∈ wsL_law_r16, w ∈ wsL_law := fun _ h => (List.mem_append_left _ (List.mem_append_left _ (List.mem_append_left _ (List.mem_append_left _ (List.mem_append_left _ (List.mem_append_left _ (List.mem_append_left _ (List.mem_append_left _ (List.mem_append_left _ (List.mem_append_left _ (List.mem_append_left _ (List.mem_append_left _ (List.mem_append_right _ (List.mem_append_right _ (List.mem_append_right _ (List.mem_append_right _ (List.mem_append_right _ (List.mem_append_right _ (List.mem_append_right _ (List.mem_append_right _ (List.mem_append_right _ (List.mem_append_right _ (List.mem_append_right _ (List.mem_append_right _ (List.mem_append_right _ (List.mem_append_right _ (List.mem_append_right _ (List.mem_append_left _ h))))))))))))))))))))))))))))
theorem chLi_16 : ∀ w ∈ wsL_law_r17, w ∈ wsL_law := fun _ h => (List.mem_append_left _ (List.mem_append_left _ (List.mem_append_left _ (List.mem_append_left _ (List.mem_append_left _ (List.mem_append_left _ (List.mem_append_left _ (List.mem_append_left _ (List.mem_append_left _ (List.mem_append_left _ (List.mem_append_left _ (List.mem_append_left _ (List.mem_append_right _ (List.mem_append_right _ (List.mem_append_right _ (List.mem_append_right _ (List.mem_append_right _ (List.mem_append_right _ (List.mem_append_right _ (List.mem_append_right _ (List.mem_append_right _ (List.mem_append_right _ (List.mem_append_right _ (List.mem_append_right _ (List.mem_append_right _ (List.mem_append_right _ (List.mem_append_right _ (List.mem_append_right _ (List.mem_append_left _ h)))))))))))))))))))))))))))))
theorem chLi_17 : ∀ w ∈ wsL_law_r18, w ∈ wsL_law := fun _ h => (List.mem_append_left _ (List.mem_append_left _ (List.mem_append_left _ (List.mem_append_left _ (List.mem_append_left _ (List.mem_append_left _ (List.mem_append_left _ (List.mem_append_left _ (List.mem_append_left _ (List.mem_append_left _ (List.mem_append_left _ (List.mem_append_left _ (List.mem_append_right _ (List.mem_append_right _ (List.mem_append_right _ (List.mem_append_right _ (List.mem_append_right _ (List.mem_append_right _ (List.mem_append_right _ (List.mem_append_right _ (List.mem_append_right _ (List.mem_append_right _ (List.mem_append_right _ (List.mem_append_right _ (List.mem_append_right _ (List.mem_append_right _ (List.mem_append_right _ (List.mem_append_right _ (List.mem_append_right _ (List.mem_append_left _ h))))))))))))))))))))))))))))))
theorem chLi_18 : ∀ w ∈ wsL_law_r19, w ∈ wsL_law := fun _ h => (List.mem_append_left _ (List.mem_append_left _ (List.mem_append_left _ (List.mem_append_left _ (List.mem_append_left _ (List.mem_append_left _ (List.mem_append_left _ (List.mem_append_left _ (List.mem_append_left _ (List.mem_append_left _ (List.mem_append_left _ (List.mem_append_left _ (List.mem_append_right _ (List.mem_append_right _ (List.mem_append_right _ (List.mem_append_right _ (List.mem_append_right _ (List.mem_append_right _ (List.mem_append_right _ (List.mem_append_right _ (List.mem_append_right _ (List.mem_append_right _ (List.mem_append_right _ (List.mem_append_right _ (List.mem_append_right _ (List.mem_append_right _ (List.mem_append_right _ (List.mem_append_right _ (List.mem_append_right _ (List.mem_append_right _ (List.mem_append_left _ h)))))))))))))))))))))))))))))))
theorem chLi_19 : ∀ w ∈ wsL_law_r20, w ∈ wsL_law := fun _ h => (List.mem_append_left _ (List.mem_append_left _ (List.mem_append_left _ (List.mem_append_left _ (List.mem_append_left _ (List.mem_append_left _ (List.mem_append_left _ (List.mem_append_left _ (List.mem_append_left _ (List.mem_append_left _ (List.mem_append_left _ (List.mem_append_left _ (List.mem_append_right _ (List.mem_append_right _ (List.mem_append_right _ (List.mem_append_right _ (List.mem_append_right _ (List.mem_append_right _ (List.mem_append_right _ (List.mem_append_right _ (List.mem_append_right _ (List.mem_append_right _ (List.mem_append_right _ (List.mem_append_right _ (List.mem_append_right _ (List.mem_append_right _ (List.mem_append_right _ (List.mem_append_right _ (List.mem_append_right _ (List.mem_append_right _ (List.mem_append_right _ (List.mem_append_left _ h))))))))))))))))))))))))))))))))
theorem chLi_20 : ∀ w ∈ wsL_law_r21, w ∈ wsL_law := fun _ h => (List.mem_append_left _ (List.mem_append_left _ (List.mem_append_left _ (List.mem_append_left _ (List.mem_append_left _ (List.mem_append_left _ (List.mem_append_left _ (List.mem_append_left _ (List.mem_append_left _ (List.mem_append_left _ (List.mem_append_left _ (List.mem_append_left _ (List.mem_append_right _ (List.mem_append_right _ (List.mem_append_right _ (List.mem_append_right _ (List.mem_append_right _ (List.mem_append_right _ (List.mem_append_right _ (List.mem_append_right _ (List.mem_append_right _ (List.mem_append_right _ (List.mem_append_right _ (List.mem_append_right _ (List.mem_append_right _ (List.mem_append_right _ (List.mem_append_right _ (List.mem_append_right _ (List.mem_append_right _ (List.mem_append_right _ (List.mem_append_right _ (List.mem_append_right _ (List.mem_append_left _ h)))))))))))))))))))))))))))))))))
theorem chLi_21 : ∀ w ∈ wsL_law_r22, w ∈ wsL_law := fun _ h => (List.mem_append_left _ (List.mem_append_left _ (List.mem_append_left _ (List.mem_append_left _ (List.mem_append_left _ (List.mem_append_left _ (List.mem_append_left _ (List.mem_append_left _ (List.mem_append_left _ (List.mem_append_left _ (List.mem_append_left _ (List.mem_append_left _ (List.mem_append_right _ (List.mem_append_right _ (List.mem_append_right _ (List.mem_append_right _ (List.mem_append_right _ (List.mem_append_right _ (List.mem_append_right _ (List.mem_append_right _ (List.mem_append_right _ (List.mem_append_right _ (List.mem_append_right _ (List.mem_append_right _ (List.mem_append_right _ (List.mem_append_right _ (List.mem_append_right _ (List.mem_append_right _ (List.mem_append_right _ (List.mem_append_right _ (List.mem_append_right _ (List.mem_append_right _ (List.mem_append_right _ (List.mem_append_left _ h))))))))))))))))))))))))))))))))))
theorem chLi_22 : ∀ w ∈ wsL_law_r23, w ∈ wsL_law := fun _ h => (List.mem_append_left _ (List.mem_append_left _ (List.mem_append_left _ (List.mem_append_left _ (List.mem_append_left _ (List.mem_append_left _ (List.mem_append_left _ (List.mem_append_left _ (List.mem_append_left _ (List.mem_append_left _ (List.mem_append_left _ (List.mem_append_left _ (List.mem_append_right _ (List.mem_append_right _ (List.mem_append_right _ (List.mem_append_right _ (List.mem_append_right _ (List.mem_append_right _ (List.mem_append_right _ (List.mem_append_right _ (List.mem_append_right _ (List.mem_append_right _ (List.mem_append_right _ (List.mem_append_right _ (List.mem_append_right _ (List.mem_append_right _ (List.mem_append_right _ (List.mem_append_right _ (List.mem_append_right _ (List.mem_append_right _ (List.mem_append_right _ (List.mem_append_right _ (List.mem_append_right _ (List.mem_append_right _ (List.mem_append_left _ h)))))))))))))))))))))))))))))))))))
theorem chLi_23 : ∀ w ∈ wsL_law_r24, w ∈ wsL_law := fun _ h => (List.mem_append_left _ (List.mem_append_left _ (List.mem_append_left _ (List.mem_append_left _ (List.mem_append_left _ (List.mem_append_left _ (List.mem_append_left _ (List.mem_append_left _ (List.mem_append_left _ (List.mem_append_left _ (List.mem_append_left _ (List.mem_append_left _ (List.mem_append_right _ (List.mem_append_right _ (List.mem_append_right _ (List.mem_append_right _ (List.mem_append_right _ (List.mem_append_right _ (List.mem_append_right _ (List.mem_append_right _ (List.mem_append_right _ (List.mem_append_right _ (List.mem_append_right _ (List.mem_append_right _ (List.mem_append_right _ (List.mem_append_right _ (List.mem_append_right _ (List.mem_append_right _ (List.mem_append_right _ (List.mem_append_right _ (List.mem_append_right _ (List.mem_append_right _ (List.mem_append_right _ (List.mem_append_right _ (List.mem_append_right _ (List.mem_append_left _ h))))))))))))))))))))))))))))))))))))
theorem chLi_24 : ∀ w ∈ wsL_law_r25, w ∈ wsL_law := fun _ h => (List.mem_append_left _ (List.mem_append_left _ (List.mem_append_left _ (List.mem_append_left _ (List.mem_append_left _ (List.mem_append_left _ (List.mem_append_left _ (List.mem_append_left _ (List.mem_append_left _ (List.mem_append_left _ (List.mem_append_left _ (List.mem_append_left _ (List.mem_append_right _ (List.mem_append_right _ (List.mem_append_right _ (List.mem_append_right _ (List.mem_append_right _ (List.mem_append_right _ (List.mem_append_right _ (List.mem_append_right _ (List.mem_append_right _ (List.mem_append_right _ (List.mem_append_right _ (List.mem_append_right _ (List.mem_append_right _ (List.mem_append_right _ (List.mem_append_right _ (List.mem_append_right _ (List.mem_append_right _ (List.mem_append_right _ (List.mem_append_right _ (List.mem_append_right _ (List.mem_append_right _ (List.mem_append_right _ (List.mem_append_right _ (List.mem_append_right _ (List.mem_append_left _ h)))))))))))))))))))))))))))))))))))))
theorem chLi_25 : ∀ w ∈ wsL_law_r26, w ∈ wsL_law := fun _ h => (List.mem_append_left _ (List.mem_append_left _ (List.mem_append_left _ (List.mem_append_left _ (List.mem_append_left _ (List.mem_append_left _ (List.mem_append_left _ (List.mem_append_left _ (List.mem_append_left _ (List.mem_append_left _ (List.mem_append_left _ (List.mem_append_left _ (List.mem_append_right _ (List.mem_append_right _ (List.mem_append_right _ (List.mem_append_right _ (List.mem_append_right _ (List.mem_append_right _ (List.mem_append_right _ (List.mem_append_right _ (List.mem_append_right _ (List.mem_append_right _ (List.mem_append_right _ (List.mem_append_right _ (List.mem_append_right _ (List.mem_append_right _ (List.mem_append_right _ (List.mem_append_right _ (List.mem_append_right _ (List.mem_append_right _ (List.mem_append_right _ (List.mem_append_right _ (List.mem_append_right _ (List.mem_append_right _ (List.mem_append_right _ (List.mem_append_right _ (List.mem_append_right _ (List.mem_append_left _ h))))))))))))))))))))))))))))))))))))))
theorem chLi_26 : ∀ w ∈ wsL_law_r27, w ∈ wsL_law := fun _ h => (List.mem_append_left _ (List.mem_append_left _ (List.mem_append_left _ (List.mem_append_left _ (List.mem_append_left _ (List.mem_append_left _ (List.mem_append_left _ (List.mem_append_left _ (List.mem_append_left _ (List.mem_append_left _ (List.mem_append_left _ (List.mem_append_left _ (List.mem_append_right _ (List.mem_append_right _ (List.mem_append_right _ (List.mem_append_right _ (List.mem_append_right _ (List.mem_append_right _ (List.mem_append_right _ (List.mem_append_right _ (List.mem_append_right _ (List.mem_append_right _ (List.mem_append_right _ (List.mem_append_right _ (List.mem_append_right _ (List.mem_append_right _ (List.mem_append_right _ (List.mem_append_right _ (List.mem_append_right _ (List.mem_append_right _ (List.mem_append_right _ (List.mem_append_right _ (List.mem_append_right _ (List.mem_append_right _ (List.mem_append_right _ (List.mem_append_right _ (List.mem_append_right _ (List.mem_append_right _ (List.mem_append_left _ h)))))))))))))))))))))))))))))))))))))))
theorem chLi_27 : ∀ w ∈ wsL_law_r28, w ∈ wsL_law := fun _ h => (List.mem_append_left _ (List.mem_append_left _ (List.mem_append_left _ (List.mem_append_left _ (List.mem_append_left _ (List.mem_append_left _ (List.mem_append_left _ (List.mem_append_left _ (List.mem_append_left _ (List.mem_append_left _ (List.mem_append_left _ (List.mem_append_left _ (List.mem_append_right _ (List.mem_append_right _ (List.mem_append_right _ (List.mem_append_right _ (List.mem_append_right _ (List.mem_append_right _ (List.mem_append_right _ (List.mem_append_right _ (List.mem_append_right _ (List.mem_append_right _ (List.mem_append_right _ (List.mem_append_right _ (List.mem_append_right _ (List.mem_append_right _ (List.mem_append_right _ (List.mem_append_right _ (List.mem_append_right _ (List.mem_append_right _ (List.mem_append_right _ (List.mem_append_right _ (List.mem_append_right _ (List.mem_append_right _ (List.mem_append_right _ (List.mem_append_right _ (List.mem_append_right _ (List.mem_append_right _ (List.mem_append_right _ (List.mem_append_left _ h))))))))))))))))))))))))))))))))))))))))
theorem chLi_28 : ∀ w ∈ wsL_law_r29, w ∈ wsL_law := fun _ h => (List.mem_append_left _ (List.mem_append_left _ (List.mem_append_left _ (List.mem_append_left _ (List.mem_append_left _ (List.mem_append_left _ (List.mem_append_left _ (List.mem_append_left _ (List.mem_append_left _ (List.mem_append_left _ (List.mem_append_left _ (List.mem_append_left _ (List.mem_append_right _ (List.mem_append_right _ (List.mem_append_right _ (List.mem_append_right _ (List.mem_append_right _ (List.mem_append_right _ (List.mem_append_right _ (List.mem_append_right _ (List.mem_append_right _ (List.mem_append_right _ (List.mem_append_right _ (List.mem_append_right _ (List.mem_append_right _ (List.mem_append_right _ (List.mem_append_right _ (List.mem_append_right _ (List.mem_append_right _ (List.mem_append_right _ (List.mem_append_right _ (List.mem_append_right _ (List.mem_append_right _ (List.mem_append_right _ (List.mem_append_right _ (List.mem_append_right _ (List.mem_append_right _ (List.mem_append_right _ (List.mem_append_right _ (List.mem_append_right _ (List.mem_append_left _ h)))))))))))))))))))))))))))))))))))))))))
theorem chLi_29 : ∀ w ∈ wsL_law_r30, w ∈ wsL_law := fun _ h => (List.mem_append_left _ (List.mem_append_left _ (List.mem_append_left _ (List.mem_append_left _ (List.mem_append_left _ (List.mem_append_left _ (List.mem_append_left _ (List.mem_append_left _ (List.mem_append_left _ (List.mem_append_left _ (List.mem_append_left _ (List.mem_append_left _ (List.mem_append_right _ (List.mem_append_right _ (List.mem_append_right _ (List.mem_append_right _ (List.mem_append_right _ (List.mem_append_right _ (List.mem_append_right _ (List.mem_append_right _ (List.mem_append_right _ (List.mem_append_right _ (List.mem_append_right _ (List.mem_append_right _ (List.mem_append_right _ (List.mem_append_right _ (List.mem_append_right _ (List.mem_append_right _ (List.mem_append_right _ (List.mem_append_right _ (List.mem_append_right _ (List.mem_append_right _ (List.mem_append_right _ (List.mem_append_right _ (List.mem_append_right _ (List.mem_append_right _ (List.mem_append_right _ (List.mem_append_right _ (List.mem_append_right _ (List.mem_append_right _ (List.mem_append_right _ (List.mem_append_left _ h))))))))))))))))))))))))))))))))))))))))))
theorem chLi_30 : ∀ w ∈ wsL_law_r31, w ∈ wsL_law := fun _ h => (List.mem_append_left _ (List.mem_append_left _ (List.mem_append_left _ (List.mem_append_left _ (List.mem_append_left _ (List.mem_append_left _ (List.mem_append_left _ (List.mem_append_left _ (List.mem_append_left _ (List.mem_append_left _ (List.mem_append_left _ (List.mem_append_left _ (List.mem_append_right _ (List.mem_append_right _ (List.mem_append_right _ (List.mem_append_right _ (List.mem_append_right _ (List.mem_append_right _ (List.mem_append_right _ (List.mem_append_right _ (List.mem_append_right _ (List.mem_append_right _ (List.mem_append_right _ (List.mem_append_right _ (List.mem_append_right _ (List.mem_append_right _ (List.mem_append_right _ (List.mem_append_right _ (List.mem_append_right _ (List.mem_append_right _ (List.mem_append_right _ (List.mem_append_right _ (List.mem_append_right _ (List.mem_append_right _ (List.mem_append_right _ (List.mem_append_right _ (List.mem_append_right _ (List.mem_append_right _ (List.mem_append_right _ (List.mem_append_right _ (List.mem_append_right _ (List.mem_append_right _ (List.mem_append_left _ h)))))))))))))))))))))))))))))))))))))))))))
theorem chLi_31 : ∀ w ∈ wsL_law_r32, w ∈ wsL_law := fun _ h => (List.mem_append_left _ (List.mem_append_left _ (List.mem_append_left _ (List.mem_append_left _ (List.mem_append_left _ (List.mem_append_left _ (List.mem_append_left _ (List.mem_append_left _ (List.mem_append_left _ (List.mem_append_left _ (List.mem_append_left _ (List.mem_append_left _ (List.mem_append_right _ (List.mem_append_right _ (List.mem_append_right _ (List.mem_append_right _ (List.mem_append_right _ (List.mem_append_right _ (List.mem_append_right _ (List.mem_append_right _ (List.mem_append_right _ (List.mem_append_right _ (List.mem_append_right _ (List.mem_append_right _ (List.mem_append_right _ (List.mem_append_right _ (List.mem_append_right _ (List.mem_append_right _ (List.mem_append_right _ (List.mem_append_right _ (List.mem_append_right _ (List.mem_append_right _ (List.mem_append_right _ (List.mem_append_right _ (List.mem_append_right _ (List.mem_append_right _ (List.mem_append_right _ (List.mem_append_right _ (List.mem_append_right _ (List.mem_append_right _ (List.mem_append_right _ (List.mem_append_right _ (List.mem_append_right _ (List.mem_append_left _ h))))))))))))))))))))))))))))))))))))))))))))
theorem chLi_32 : ∀ w ∈ wsL_law_r33, w ∈ wsL_law := fun _ h => (List.mem_append_left _ (List.mem_append_left _ (List.mem_append_left _ (List.mem_append_left _ (List.mem_append_left _ (List.mem_append_left _ (List.mem_append_left _ (List.mem_append_left _ (List.mem_append_left _ (List.mem_append_left _ (List.mem_append_left _ (List.mem_append_left _ (List.mem_append_right _ (List.mem_append_right _ (List.mem_append_right _ (List.mem_append_right _ (List.mem_append_right _ (List.mem_append_right _ (List.mem_append_right _ (List.mem_append_right _ (List.mem_append_right _ (List.mem_append_right _ (List.mem_append_right _ (List.mem_append_right _ (List.mem_append_right _ (List.mem_append_right _ (List.mem_append_right _ (List.mem_append_right _ (List.mem_append_right _ (List.mem_append_right _ (List.mem_append_right _ (List.mem_append_right _ (List.mem_append_right _ (List.mem_append_right _ (List.mem_append_right _ (List.mem_append_right _ (List.mem_append_right _ (List.mem_append_right _ (List.mem_append_right _ (List.mem_append_right _ (List.mem_append_right _ (List.mem_append_right _ (List.mem_append_right _ (List.mem_append_right _ (List.mem_append_left _ h)))))))))))))))))))))))))))))))))))))))))))))
theorem chLi_33 : ∀ w ∈ wsL_law_r34, w ∈ wsL_law := fun _ h => (List.mem_append_left _ (List.mem_append_left _ (List.mem_append_left _ (List.mem_append_left _ (List.mem_append_left _ (List.mem_append_left _ (List.mem_append_left _ (List.mem_append_left _ (List.mem_append_left _ (List.mem_append_left _ (List.mem_append_left _ (List.mem_append_left _ (List.mem_append_right _ (List.mem_append_right _ (List.mem_append_right _ (List.mem_append_right _ (List.mem_append_right _ (List.mem_append_right _ (List.mem_append_right _ (List.mem_append_right _ (List.mem_append_right _ (List.mem_append_right _ (List.mem_append_right _ (List.mem_append_right _ (List.mem_append_right _ (List.mem_append_right _ (List.mem_append_right _ (List.mem_append_right _ (List.mem_append_right _ (List.mem_append_right _ (List.mem_append_right _ (List.mem_append_right _ (List.mem_append_right _ (List.mem_append_right _ (List.mem_append_right _ (List.mem_append_right _ (List.mem_append_right _ (List.mem_append_right _ (List.mem_append_right _ (List.mem_append_right _ (List.mem_append_right _ (List.mem_append_right _ (List.mem_append_right _ (List.mem_append_right _ (List.mem_append_right _ (List.mem_append_left _ h))))))))))))))))))))))))))))))))))))))))))))))
theorem chLi_34 : ∀ w ∈ wsL_law_r35, w ∈ wsL_law := fun _ h => (List.mem_append_left _ (List.mem_append_left _ (List.mem_append_left _ (List.mem_append_left _ (List.mem_append_left _ (List.mem_append_left _ (List.mem_append_left _ (List.mem_append_left _ (List.mem_append_left _ (List.mem_append_left _ (List.mem_append_left _ (List.mem_append_left _ (List.mem_append_right _ (List.mem_append_right _ (List.mem_append_right _ (List.mem_append_right _ (List.mem_append_right _ (List.mem_append_right _ (List.mem_append_right _ (List.mem_append_right _ (List.mem_append_right _ (List.mem_append_right _ (List.mem_append_right _ (List.mem_append_right _ (List.mem_append_right _ (List.mem_append_right _ (List.mem_append_right _ (List.mem_append_right _ (List.mem_append_right _ (List.mem_append_right _ (List.mem_append_right _ (List.mem_append_right _ (List.mem_append_right _ (List.mem_append_right _ (List.mem_append_right _ (List.mem_append_right _ (List.mem_append_right _ (List.mem_append_right _ (List.mem_append_right _ (List.mem_append_right _ (List.mem_append_right _ (List.mem_append_right _ (List.mem_append_right _ (List.mem_append_right _ (List.mem_append_right _ (List.mem_append_right _ (List.mem_append_left _ h)))))))))))))))))))))))))))))))))))))))))))))))
theorem chLi_35 : ∀ w ∈ wsL_law_r36, w ∈ wsL_law := fun _ h => (List.mem_append_left _ (List.mem_append_left _ (List.mem_append_left _ (List.mem_append_left _ (List.mem_append_left _ (List.mem_append_left _ (List.mem_append_left _ (List.mem_append_left _ (List.mem_append_left _ (List.mem_append_left _ (List.mem_append_left _ (List.mem_append_left _ (List.mem_append_right _ (List.mem_append_right _ (List.mem_append_right _ (List.mem_append_right _ (List.mem_append_right _ (List.mem_append_right _ (List.mem_append_right _ (List.mem_append_right _ (List.mem_append_right _ (List.mem_append_right _ (List.mem_append_right _ (List.mem_append_right _ (List.mem_append_right _ (List.mem_append_right _ (List.mem_append_right _ (List.mem_append_right _ (List.mem_append_right _ (List.mem_append_right _ (List.mem_append_right _ (List.mem_append_right _ (List.mem_append_right _ (List.mem_append_right _ (List.mem_append_right _ (List.mem_append_right _ (List.mem_append_right _ (List.mem_append_right _ (List.mem_append_right _ (List.mem_append_right _ (List.mem_append_right _ (List.mem_append_right _ (List.mem_append_right _ (List.mem_append_right _ (List.mem_append_right _ (List.mem_append_right _ (List.mem_append_right _ (List.mem_append_left _ h))))))))))))))))))))))))))))))))))))))))))))))))
theorem chLi_36 : ∀ w ∈ wsL_law_r37, w ∈ wsL_law := fun _ h => (List.mem_append_left _ (List.mem_append_left _ (List.mem_append_left _ (List.mem_append_left _ (List.mem_append_left _ (List.mem_append_left _ (List.mem_append_left _ (List.mem_append_left _ (List.mem_append_left _ (List.mem_append_left _ (List.mem_append_left _ (List.mem_append_left _ (List.mem_append_right _ (List.mem_append_right _ (List.mem_append_right _ (List.mem_append_right _ (List.mem_append_right _ (List.mem_append_right _ (List.mem_append_right _ (List.mem_append_right _ (List.mem_append_right _ (List.mem_append_right _ (List.mem_append_right _ (List.mem_append_right _ (List.mem_append_right _ (List.mem_append_right _ (List.mem_append_right _ (List.mem_append_right _ (List.mem_append_right _ (List.mem_append_right _ (List.mem_append_right _ (List.mem_append_right _ (List.mem_append_right _ (List.mem_append_right _ (List.mem_append_right _ (List.mem_append_right _ (List.mem_append_right _ (List.mem_append_right _ (List.mem_append_right _ (List.mem_append_right _ (List.mem_append_right _ (List.mem_append_right _ (List.mem_append_right _ (List.mem_append_right _ (List.mem_append_right _ (List.mem_append_right _ (List.mem_append_right _ (List.mem_append_right _ (List.mem_append_left _ h)))))))))))))))))))))))))))))))))))))))))))))))))
theorem chLi_37 : ∀ w ∈ wsL_law_r38, w ∈ wsL_law := fun _ h => (List.mem_append_left _ (List.mem_append_left _ (List.mem_append_left _ (List.mem_append_left _ (List.mem_append_left _ (List.mem_append_left _ (List.mem_append_left _ (List.mem_append_left _ (List.mem_append_left _ (List.mem_append_left _ (List.mem_append_left _ (List.mem_append_left _ (List.mem_append_right _ (List.mem_append_right _ (List.mem_append_right _ (List.mem_append_right _ (List.mem_append_right _ (List.mem_append_right _ (List.mem_append_right _ (List.mem_append_right _ (List.mem_append_right _ (List.mem_append_right _ (List.mem_append_right _ (List.mem_append_right _ (List.mem_append_right _ (List.mem_append_right _ (List.mem_append_right _ (List.mem_append_right _ (List.mem_append_right _ (List.mem_append_right _ (List.mem_append_right _ (List.mem_append_right _ (List.mem_append_right _ (List.mem_append_right _ (List.mem_append_right _ (List.mem_append_right _ (List.mem_append_right _ (List.mem_append_right _ (List.mem_append_right _ (List.mem_append_right _ (List.mem_append_right _ (List.mem_append_right _ (List.mem_append_right _ (List.mem_append_right _ (List.mem_append_right _ (List.mem_append_right _ (List.mem_append_right _ (List.mem_append_right _ (List.mem_append_right _ (List.mem_append_left _ h))))))))))))))))))))))))))))))))))))))))))))))))))
theorem chLi_38 : ∀ w ∈ wsL_law_r39, w ∈ wsL_law := fun _ h => (List.mem_append_left _ (List.mem_append_left _ (List.mem_append_left _ (List.mem_append_left _ (List.mem_append_left _ (List.mem_append_left _ (List.mem_append_left _ (List.mem_append_left _ (List.mem_append_left _ (List.mem_append_left _ (List.mem_append_left _ (List.mem_append_left _ (List.mem_append_right _ (List.mem_append_right _ (List.mem_append_right _ (List.mem_append_right _ (List.mem_append_right _ (List.mem_append_right _ (List.mem_append_right _ (List.mem_append_right _ (List.mem_append_right _ (List.mem_append_right _ (List.mem_append_right _ (List.mem_append_right _ (List.mem_append_right _ (List.mem_append_right _ (List.mem_append_right _ (List.mem_append_right _ (List.mem_append_right _ (List.mem_append_right _ (List.mem_append_right _ (List.mem_append_right _ (List.mem_append_right _ (List.mem_append_right _ (List.mem_append_right _ (List.mem_append_right _ (List.mem_append_right _ (List.mem_append_right _ (List.mem_append_right _ (List.mem_append_right _ (List.mem_append_right _ (List.mem_append_right _ (List.mem_append_right _ (List.mem_append_right _ (List.mem_append_right _ (List.mem_append_right _ (List.mem_append_right _ (List.mem_append_right _ (List.mem_append_right _ (List.mem_append_right _ (List.mem_append_left _ h)))))))))))))))))))))))))))))))))))))))))))))))))))
theorem chLi_39 : ∀ w ∈ wsL_law_r40, w ∈ wsL_law := fun _ h => (List.mem_append_left _ (List.mem_append_left _ (List.mem_append_left _ (List.mem_append_left _ (List.mem_append_left _ (List.mem_append_left _ (List.mem_append_left _ (List.mem_append_left _ (List.mem_append_left _ (List.mem_append_left _ (List.mem_append_left _ (List.mem_append_left _ (List.mem_append_right _ (List.mem_append_right _ (List.mem_append_right _ (List.mem_append_right _ (List.mem_append_right _ (List.mem_append_right _ (List.mem_append_right _ (List.mem_append_right _ (List.mem_append_right _ (List.mem_append_right _ (List.mem_append_right _ (List.mem_append_right _ (List.mem_append_right _ (List.mem_append_right _ (List.mem_append_right _ (List.mem_append_right _ (List.mem_append_right _ (List.mem_append_right _ (List.mem_append_right _ (List.mem_append_right _ (List.mem_append_right _ (List.mem_append_right _ (List.mem_append_right _ (List.mem_append_right _ (List.mem_append_right _ (List.mem_append_right _ (List.mem_append_right _ (List.mem_append_right _ (List.mem_append_right _ (List.mem_append_right _ (List.mem_append_right _ (List.mem_append_right _ (List.mem_append_right _ (List.mem_append_right _ (List.mem_append_right _ (List.mem_append_right _ (List.mem_append_right _ (List.mem_append_right _ (List.mem_append_right _ (List.mem_append_left _ h))))))))))))))))))))))))))))))))))))))))))))))))))))
theorem chLi_40 : ∀ w ∈ wsL_law_r41, w ∈ wsL_law := fun _ h => (List.mem_append_left _ (List.mem_append_left _ (List.mem_append_left _ (List.mem_append_left _ (List.mem_append_left _ (List.mem_append_left _ (List.mem_append_left _ (List.mem_append_left _ (List.mem_append_left _ (List.mem_append_left _ (List.mem_append_left _ (List.mem_append_left _ (List.mem_append_right _ (List.mem_append_right _ (List.mem_append_right _ (List.mem_append_right _ (List.mem_append_right _ (List.mem_append_right _ (List.mem_append_right _ (List.mem_append_right _ (List.mem_append_right _ (List.mem_append_right _ (List.mem_append_right _ (List.mem_append_right _ (List.mem_append_right _ (List.mem_append_right _ (List.mem_append_right _ (List.mem_append_right _ (List.mem_append_right _ (List.mem_append_right _ (List.mem_append_right _ (List.mem_append_right _ (List.mem_append_right _ (List.mem_append_right _ (List.mem_append_right _ (List.mem_append_right _ (List.mem_append_right _ (List.mem_append_right _ (List.mem_append_right _ (List.mem_append_right _ (List.mem_append_right _ (List.mem_append_right _ (List.mem_append_right _ (List.mem_append_right _ (List.mem_append_right _ (List.mem_append_right _ (List.mem_append_right _ (List.mem_append_right _ (List.mem_append_right _ (List.mem_append_right _ (List.mem_append_right _ (List.mem_append_right _ h))))))))))))))))))))))))))))))))))))))))))))))))))))
theorem chLi_41 : ∀ w ∈ wsX90, w ∈ wsL_law := fun _ h => (List.mem_append_left _ (List.mem_append_left _ (List.mem_append_left _ (List.mem_append_left _ (List.mem_append_left _ (List.mem_append_left _ (List.mem_append_left _ (List.mem_append_left _ (List.mem_append_left _ (List.mem_append_left _ (List.mem_append_left _ (List.mem_append_right _ h))))))))))))
theorem chLi_42 : ∀ w ∈ wsX100, w ∈ wsL_law := fun _ h => (List.mem_append_left _ (List.mem_append_left _ (List.mem_append_left _ (List.mem_append_left _ (List.mem_append_left _ (List.mem_append_left _ (List.mem_append_left _ (List.mem_append_left _ (List.mem_append_left _ (List.mem_append_left _ (List.mem_append_right _ h)))))))))))
theorem chLi_43 : ∀ w ∈ wsX60, w ∈ wsL_law := fun _ h => (List.mem_append_left _ (List.mem_append_left _ (List.mem_append_left _ (List.mem_append_left _ (List.mem_append_left _ (List.mem_append_left _ (List.mem_append_left _ (List.mem_append_left _ (List.mem_append_left _ (List.mem_append_right _ h))))))))))
theorem chLi_44 : ∀ w ∈ wsX30, w ∈ wsL_law := fun _ h => (List.mem_append_left _ (List.mem_append_left _ (List.mem_append_left _ (List.mem_append_left _ (List.mem_append_left _ (List.mem_append_left _ (List.mem_append_left _ (List.mem_append_left _ (List.mem_append_right _ h)))))))))
theorem chLi_45 : ∀ w ∈ wsX20, w ∈ wsL_law := fun _ h => (List.mem_append_left _ (List.mem_append_left _ (List.mem_append_left _ (List.mem_append_left _ (List.mem_append_left _ (List.mem_append_left _ (List.mem_append_left _ (List.mem_append_right _ h))))))))
theorem chLi_46 : ∀ w ∈ wsX80, w ∈ wsL_law := fun _ h => (List.mem_append_left _ (List.mem_append_left _ (List.mem_append_left _ (List.mem_append_left _ (List.mem_append_left _ (List.mem_append_left _ (List.mem_append_right _ h)))))))
theorem chLi_47 : ∀ w ∈ wsX00, w ∈ wsL_law := fun _ h => (List.mem_append_left _ (List.mem_append_left _ (List.mem_append_left _ (List.mem_append_left _ (List.mem_append_left _ (List.mem_append_right _ h))))))
theorem chLi_48 : ∀ w ∈ wsX40, w ∈ wsL_law := fun _ h => (List.mem_append_left _ (List.mem_append_left _ (List.mem_append_left _ (List.mem_append_left _ (List.mem_append_right _ h)))))
theorem chLi_49 : ∀ w ∈ wsX70, w ∈ wsL_law := fun _ h => (List.mem_append_left _ (List.mem_append_left _ (List.mem_append_left _ (List.mem_append_right _ h))))
theorem chLi_50 : ∀ w ∈ wsX50, w ∈ wsL_law := fun _ h => (List.mem_append_left _ (List.mem_append_left _ (List.mem_append_right _ h)))
theorem chLi_51 : ∀ w ∈ wsX10, w ∈ wsL_law := fun _ h => (List.mem_append_left _ (List.mem_append_right _ h))
def chL : Nat → List Cond
  | 0 => wsL_law_r1
  | 1 => wsL_law_r2
  | 2 => wsL_law_r3
  | 3 => wsL_law_r4
  | 4 => wsL_law_r5
  | 5 => wsL_law_r6
  | 6 => wsL_law_r7
  | 7 => wsL_law_r8
  | 8 => wsL_law_r9
  | 9 => wsL_law_r10
  | 10 => wsL_law_r11
  | 11 => wsL_law_r12
  | 12 => wsL_law_r13
  | 13 => wsL_law_r14
  | 14 => wsL_law_r15
  | 15 => wsL_law_r16
  | 16 => wsL_law_r17
  | 17 => wsL_law_r18
  | 18 => wsL_law_r19
  | 19 => wsL_law_r20
  | 20 => wsL_law_r21
  | 21 => wsL_law_r22
  | 22 => wsL_law_r23
  | 23 => wsL_law_r24
  | 24 => wsL_law_r25
  | 25 => wsL_law_r26
  | 26 => wsL_law_r27
  | 27 => wsL_law_r28
  | 28 => wsL_law_r29
  | 29 => wsL_law_r30
  | 30 => wsL_law_r31
  | 31 => wsL_law_r32
  | 32 => wsL_law_r33
  | 33 => wsL_law_r34
  | 34 => wsL_law_r35
  | 35 => wsL_law_r36
  | 36 => wsL_law_r37
  | 37 => wsL_law_r38
  | 38 => wsL_law_r39
  | 39 => wsL_law_r40
  | 40 => wsL_law_r41
  | 41 => wsX90
  | 42 => wsX100
  | 43 => wsX60
  | 44 => wsX30
  | 45 => wsX20
  | 46 => wsX80
  | 47 => wsX00
  | 48 => wsX40
  | 49 => wsX70
  | 50 => wsX50
  | 51 => wsX10
  | _ => []
theorem chL_in : ∀ (j : Nat) (w : Cond), w ∈ chL j → w ∈ wsL_law
  | 0, w, h => chLi_0 w h
  | 1, w, h => chLi_1 w h
  | 2, w, h => chLi_2 w h
  | 3, w, h => chLi_3 w h
  | 4, w, h => chLi_4 w h
  | 5, w, h => chLi_5 w h
  | 6, w, h => chLi_6 w h
  | 7, w, h => chLi_7 w h
  | 8, w, h => chLi_8 w h
  | 9, w, h => chLi_9 w h
  | 10, w, h => chLi_10 w h
  | 11, w, h => chLi_11 w h
  | 12, w, h => chLi_12 w h
  | 13, w, h => chLi_13 w h
  | 14, w, h => chLi_14 w h
  | 15, w, h => chLi_15 w h
  | 16, w, h => chLi_16 w h
  | 17, w, h => chLi_17 w h
  | 18, w, h => chLi_18 w h
  | 19, w, h => chLi_19 w h
  | 20, w, h => chLi_20 w h
  | 21, w, h => chLi_21 w h
  | 22, w, h => chLi_22 w h
  | 23, w, h => chLi_23 w h
  | 24, w, h => chLi_24 w h
  | 25, w, h => chLi_25 w h
  | 26, w, h => chLi_26 w h
  | 27, w, h => chLi_27 w h
  | 28, w, h => chLi_28 w h
  | 29, w, h => chLi_29 w h
  | 30, w, h => chLi_30 w h
  | 31, w, h => chLi_31 w h
  | 32, w, h => chLi_32 w h
  | 33, w, h => chLi_33 w h
  | 34, w, h => chLi_34 w h
  | 35, w, h => chLi_35 w h
  | 36, w, h => chLi_36 w h
  | 37, w, h => chLi_37 w h
  | 38, w, h => chLi_38 w h
  | 39, w, h => chLi_39 w h
  | 40, w, h => chLi_40 w h
  | 41, w, h => chLi_41 w h
  | 42, w, h => chLi_42 w h
  | 43, w, h => chLi_43 w h
  | 44, w, h => chLi_44 w h
  | 45, w, h => chLi_45 w h
  | 46, w, h => chLi_46 w h
  | 47, w, h => chLi_47 w h
  | 48, w, h => chLi_48 w h
  | 49, w, h => chLi_49 w h
  | 50, w, h => chLi_50 w h
  | 51, w, h => chLi_51 w h
  | _ + 52, _, h => absurd h List.not_mem_nil
set_option maxRecDepth 20000 in
theorem ggL_law_X9_init : GoodIn wsL_law wsX9_init := goodIn_r2 chL chL_in _ [(0, 9), (0, 10), (0, 11), (0, 12), (0, 13), (0, 14), (0, 15), (0, 16), (0, 17), (0, 18), (0, 19), (0, 20), (0, 21), (0, 22), (0, 23), (1, 0), (1, 1), (1, 2), (1, 3), (1, 4), (1, 5), (1, 6), (1, 7), (1, 8), (1, 9), (1, 10), (1, 11), (1, 12), (1, 13), (1, 14), (1, 15), (1, 16), (1, 17), (1, 18), (1, 19), (1, 20), (1, 21), (1, 22), (1, 23), (2, 0), (2, 1), (2, 2), (2, 3), (2, 4), (2, 5), (2, 6), (2, 7), (2, 8), (2, 9), (2, 10), (2, 11), (2, 12), (2, 13), (2, 14), (2, 15), (2, 16), (2, 17), (2, 18), (2, 19), (2, 20), (2, 21), (2, 22), (2, 23), (3, 0), (3, 1), (3, 2), (3, 3), (3, 4), (3, 5), (3, 6), (3, 7), (3, 8), (3, 9), (3, 10), (3, 11), (3, 12), (3, 13), (3, 14), (3, 15), (3, 16), (3, 17), (3, 18), (3, 19), (3, 20), (3, 21), (3, 22), (3, 23), (4, 0), (4, 1), (4, 2), (4, 3), (4, 4), (4, 5), (4, 6), (4, 7), (4, 8), (4, 9), (4, 10), (41, 0), (41, 1), (41, 2), (41, 3), (41, 4), (41, 5), (41, 6), (43, 0), (43, 1), (44, 0), (44, 1), (44, 2), (44, 3), (45, 0), (45, 1), (45, 2), (45, 3), (45, 4), (46, 0), (46, 1), (46, 2), (46, 3), (46, 4), (46, 5), (46, 6), (46, 7), (46, 8), (46, 9), (46, 10), (46, 11), (46, 12), (46, 13), (46, 14), (46, 15), (46, 16), (47, 0), (47, 1), (47, 2), (48, 0), (48, 1), (48, 2), (48, 3), (48, 4), (48, 5), (49, 0), (49, 1), (49, 2), (49, 3), (49, 4), (49, 5), (49, 6), (49, 7), (50, 0), (50, 1), (50, 2), (50, 3), (50, 4), (50, 5), (50, 6), (50, 7), (50, 8), (51, 0), (51, 1), (51, 2), (51, 3), (51, 4), (51, 5), (51, 6)] rfl (by decide +kernel)
set_option maxRecDepth 20000 in
theorem gL_law_X9_init : GoodIn wsL_law (wsX9_init) := ggL_law_X9_init
set_option maxRecDepth 20000 in
theorem ggL_law_X10_init : GoodIn wsL_law wsX10_init := goodIn_r2 chL chL_in _ [(4, 13), (4, 14), (0, 11), (0, 12), (0, 13), (4, 15), (4, 16), (4, 17), (4, 18), (4, 19), (4, 20), (4, 21), (4, 22), (4, 23), (5, 0), (5, 1), (5, 2), (5, 3), (5, 4), (5, 5), (5, 6), (3, 12), (5, 7), (5, 8), (5, 9), (5, 10), (5, 11), (5, 12), (5, 13), (42, 0), (42, 1), (42, 2), (42, 3), (42, 4), (42, 5), (42, 6), (42, 7), (42, 8), (42, 9), (42, 10), (42, 11), (42, 12), (42, 13), (42, 14), (42, 15), (42, 16), (42, 17), (42, 18), (42, 19), (42, 20), (42, 21), (42, 22), (42, 23), (42, 24), (42, 25), (42, 26), (42, 27), (42, 28), (42, 29), (42, 30), (42, 31), (42, 32), (42, 33), (42, 34), (42, 35), (42, 36), (42, 37), (42, 38), (42, 39)] rfl (by decide +kernel)
set_option maxRecDepth 20000 in
theorem gL_law_X10_init : GoodIn wsL_law (wsX10_init) := ggL_law_X10_init
set_option maxRecDepth 20000 in
theorem ggL_law_X9_level : GoodIn wsL_law wsX9_level := goodIn_r2 chL chL_in _ [(5, 17), (0, 14), (5, 18), (5, 19), (0, 2), (5, 20), (5, 21), (5, 22), (5, 23), (41, 0), (41, 1), (41, 2), (41, 3), (41, 4), (41, 5), (41, 6)] rfl (by decide +kernel)
set_option maxRecDepth 20000 in
theorem gL_law_X9_level : GoodIn wsL_law (wsV RL 13 RX9 yX9_level wsX9_level) := goodIn_app (goodIn_r2 chL chL_in _ [(5, 14), (5, 15), (5, 16), (0, 2)] rfl (by decide +kernel)) ggL_law_X9_level
set_option maxRecDepth 20000 in
theorem ggL_law_X10_level : GoodIn wsL_law wsX10_level := goodIn_r2 chL chL_in _ [(6, 3), (6, 4), (4, 15), (6, 5), (6, 6), (0, 5), (6, 7), (42, 0), (42, 1), (42, 2), (42, 3), (42, 4), (42, 5), (42, 6), (42, 7), (42, 8), (42, 9), (42, 10), (42, 11), (42, 12), (42, 13), (42, 14), (42, 15), (42, 16), (42, 17), (42, 18), (42, 19), (42, 20), (42, 21), (42, 22), (42, 23), (42, 24), (42, 25), (42, 26), (42, 27), (42, 28), (42, 29), (42, 30), (42, 31), (42, 32), (42, 33), (42, 34), (42, 35), (42, 36), (42, 37), (42, 38), (42, 39)] rfl (by decide +kernel)
set_option maxRecDepth 20000 in
theorem gL_law_X10_level : GoodIn wsL_law (wsV RL 17 RX10 yX10_level wsX10_level) := goodIn_app (goodIn_r2 chL chL_in _ [(6, 0), (6, 1), (6, 2), (0, 5)] rfl (by decide +kernel)) ggL_law_X10_level
set_option maxRecDepth 20000 in
theorem ggL_law_X9_type : GoodIn wsL_law wsX9_type := goodIn_r2 chL chL_in _ [(6, 11), (0, 18), (6, 12), (6, 13), (6, 14), (6, 15), (0, 17), (6, 16), (6, 17), (1, 18), (41, 0), (41, 1), (41, 2), (41, 3), (41, 4), (41, 5), (41, 6), (43, 0), (43, 1)] rfl (by decide +kernel)
set_option maxRecDepth 20000 in
theorem gL_law_X9_type : GoodIn wsL_law (wsV RL 20 RX9 yX9_type wsX9_type) := goodIn_app (goodIn_r2 chL chL_in _ [(6, 8), (6, 9), (6, 10), (0, 2)] rfl (by decide +kernel)) ggL_law_X9_type
set_option maxRecDepth 20000 in
theorem ggL_law_X10_type : GoodIn wsL_law wsX10_type := goodIn_r2 chL chL_in _ [(6, 21), (6, 4), (6, 22), (4, 16), (6, 23), (6, 5), (6, 6), (0, 5), (6, 7), (42, 0), (42, 1), (42, 2), (42, 3), (42, 4), (42, 5), (42, 6), (42, 7), (42, 8), (42, 9), (42, 10), (42, 11), (42, 12), (42, 13), (42, 14), (42, 15), (42, 16), (42, 17), (42, 18), (42, 19), (42, 20), (42, 21), (42, 22), (42, 23), (42, 24), (42, 25), (42, 26), (42, 27), (42, 28), (42, 29), (42, 30), (42, 31), (42, 32), (42, 33), (42, 34), (42, 35), (42, 36), (42, 37), (42, 38), (42, 39)] rfl (by decide +kernel)
set_option maxRecDepth 20000 in
theorem gL_law_X10_type : GoodIn wsL_law (wsV RL 24 RX10 yX10_type wsX10_type) := goodIn_app (goodIn_r2 chL chL_in _ [(6, 18), (6, 19), (6, 20), (0, 5)] rfl (by decide +kernel)) ggL_law_X10_type
set_option maxRecDepth 20000 in
theorem ggL_law_X9_clear : GoodIn wsL_law wsX9_clear := goodIn_r2 chL chL_in _ [(7, 3), (0, 18), (6, 12), (41, 0), (41, 1), (41, 2), (41, 3), (41, 4), (41, 5), (41, 6), (43, 0), (43, 1)] rfl (by decide +kernel)
set_option maxRecDepth 20000 in
theorem gL_law_X9_clear : GoodIn wsL_law (wsV RL 25 RX9 yX9_clear wsX9_clear) := goodIn_app (goodIn_r2 chL chL_in _ [(7, 0), (7, 1), (7, 2), (0, 2)] rfl (by decide +kernel)) ggL_law_X9_clear
set_option maxRecDepth 20000 in
theorem ggL_law_X10_clear : GoodIn wsL_law wsX10_clear := goodIn_r2 chL chL_in _ [(7, 7), (6, 4), (6, 22), (42, 0), (42, 1), (42, 2), (42, 3), (42, 4), (42, 5), (42, 6), (42, 7), (42, 8), (42, 9), (42, 10), (42, 11), (42, 12), (42, 13), (42, 14), (42, 15), (42, 16), (42, 17), (42, 18), (42, 19), (42, 20), (42, 21), (42, 22), (42, 23), (42, 24), (42, 25), (42, 26), (42, 27), (42, 28), (42, 29), (42, 30), (42, 31), (42, 32), (42, 33), (42, 34), (42, 35), (42, 36), (42, 37), (42, 38), (42, 39)] rfl (by decide +kernel)
set_option maxRecDepth 20000 in
theorem gL_law_X10_clear : GoodIn wsL_law (wsV RL 29 RX10 yX10_clear wsX10_clear) := goodIn_app (goodIn_r2 chL chL_in _ [(7, 4), (7, 5), (7, 6), (0, 5)] rfl (by decide +kernel)) ggL_law_X10_clear
set_option maxRecDepth 20000 in
theorem ggL_law_X9_read : GoodIn wsL_law wsX9_read := goodIn_r2 chL chL_in _ [(7, 11), (0, 22), (0, 18), (1, 14), (6, 12), (1, 6), (7, 12), (7, 13), (7, 14), (7, 15), (0, 21), (7, 16), (2, 3), (2, 1), (7, 17), (7, 18), (7, 19), (7, 20), (7, 21), (1, 13), (7, 22), (7, 23), (8, 0), (8, 1), (8, 2), (8, 3), (8, 4), (8, 5), (2, 0), (8, 6), (8, 7), (8, 8), (8, 9), (8, 10), (8, 11), (8, 12), (8, 13), (8, 14), (8, 15), (8, 16), (0, 17), (8, 17), (6, 17), (1, 18), (8, 18), (8, 19), (8, 20), (8, 21), (8, 22), (8, 23), (9, 0), (9, 1), (9, 2), (9, 3), (9, 4), (2, 7), (2, 8), (2, 9), (9, 5), (9, 6), (9, 7), (9, 8), (9, 9), (9, 10), (9, 11), (9, 12), (9, 13), (9, 14), (9, 15), (9, 16), (9, 17), (9, 18), (9, 19), (9, 20), (9, 21), (9, 22), (9, 23), (10, 0), (10, 1), (10, 2), (10, 3), (10, 4), (10, 5), (10, 6), (10, 7), (10, 8), (10, 9), (10, 10), (10, 11), (10, 12), (10, 13), (10, 14), (10, 15), (10, 16), (10, 17), (10, 18), (10, 19), (10, 20), (10, 21), (10, 22), (10, 23), (11, 0), (11, 1), (11, 2), (11, 3), (11, 4), (11, 5), (11, 6), (11, 7), (11, 8), (11, 9), (11, 10), (11, 11), (11, 12), (11, 13), (11, 14), (11, 15), (11, 16), (11, 17), (11, 18), (11, 19), (11, 20), (11, 21), (11, 22), (11, 23), (12, 0), (12, 1), (12, 2), (12, 3), (12, 4), (12, 5), (12, 6), (12, 7), (12, 8), (12, 9), (12, 10), (12, 11), (12, 12), (12, 13), (12, 14), (12, 15), (12, 16), (12, 17), (12, 18), (12, 19), (12, 20), (12, 21), (12, 22), (12, 23), (13, 0), (13, 1), (13, 2), (13, 3), (13, 4), (13, 5), (13, 6), (13, 7), (13, 8), (13, 9), (13, 10), (13, 11), (13, 12), (13, 13), (13, 14), (13, 15), (13, 16), (13, 17), (13, 18), (13, 19), (13, 20), (13, 21), (13, 22), (13, 23), (14, 0), (14, 1), (14, 2), (14, 3), (14, 4), (14, 5), (14, 6), (14, 7), (14, 8), (14, 9), (14, 10), (14, 11), (14, 12), (14, 13), (14, 14), (14, 15), (14, 16), (14, 17), (14, 18), (14, 19), (14, 20), (14, 21), (14, 22), (14, 23), (15, 0), (15, 1), (15, 2), (15, 3), (15, 4), (15, 5), (15, 6), (15, 7), (15, 8), (15, 9), (2, 16), (15, 10), (15, 11), (15, 12), (15, 13), (15, 14), (15, 15), (15, 16), (15, 17), (15, 18), (15, 19), (15, 20), (15, 21), (15, 22), (15, 23), (16, 0), (16, 1), (16, 2), (16, 3), (16, 4), (16, 5), (16, 6), (16, 7), (16, 8), (16, 9), (16, 10), (16, 11), (16, 12), (16, 13), (16, 14), (16, 15), (16, 16), (2, 15), (16, 17), (16, 18), (16, 19), (2, 18), (16, 20), (16, 21), (16, 22), (16, 23), (17, 0), (17, 1), (17, 2), (17, 3), (17, 4), (17, 5), (17, 6), (17, 7), (17, 8), (17, 9), (17, 10), (17, 11), (17, 12), (17, 13), (17, 14), (17, 15), (17, 16), (17, 17), (17, 18), (17, 19), (17, 20), (17, 21), (17, 22), (17, 23), (18, 0), (18, 1), (18, 2), (18, 3), (18, 4), (1, 5), (18, 5), (3, 15), (41, 0), (41, 1), (41, 2), (41, 3), (41, 4), (41, 5), (41, 6), (43, 0), (43, 1), (48, 0), (48, 1), (48, 2), (48, 3), (48, 4), (48, 5), (44, 0), (44, 1), (44, 2), (44, 3), (49, 0), (49, 1), (49, 2), (49, 3), (49, 4), (49, 5), (49, 6), (49, 7), (50, 0), (50, 1), (50, 2), (50, 3), (50, 4), (50, 5), (50, 6), (50, 7), (50, 8), (46, 0), (46, 1), (46, 2), (46, 3), (46, 4), (46, 5), (46, 6), (46, 7), (46, 8), (46, 9), (46, 10), (46, 11), (46, 12), (46, 13), (46, 14), (46, 15), (46, 16)] rfl (by decide +kernel)
set_option maxRecDepth 20000 in
theorem gL_law_X9_read : GoodIn wsL_law (wsV RL 30 RX9 yX9_read wsX9_read) := goodIn_app (goodIn_r2 chL chL_in _ [(7, 8), (7, 9), (7, 10), (0, 2)] rfl (by decide +kernel)) ggL_law_X9_read
set_option maxRecDepth 20000 in
theorem ggL_law_X10_read : GoodIn wsL_law wsX10_read := goodIn_r2 chL chL_in _ [(18, 9), (6, 4), (18, 10), (18, 11), (18, 12), (18, 13), (18, 14), (18, 15), (4, 21), (4, 22), (4, 17), (4, 18), (18, 16), (6, 22), (18, 17), (18, 18), (18, 19), (0, 5), (18, 20), (18, 21), (18, 22), (18, 23), (19, 0), (19, 1), (4, 16), (6, 5), (6, 6), (6, 7), (19, 2), (19, 3), (19, 4), (19, 5), (19, 6), (19, 7), (19, 8), (19, 9), (19, 10), (19, 11), (19, 12), (19, 13), (19, 14), (19, 15), (19, 16), (19, 17), (19, 18), (19, 19), (19, 20), (19, 21), (19, 22), (19, 23), (20, 0), (20, 1), (20, 2), (20, 3), (20, 4), (20, 5), (20, 6), (20, 7), (20, 8), (4, 19), (20, 9), (20, 10), (20, 11), (20, 12), (20, 13), (20, 14), (20, 15), (20, 16), (20, 17), (20, 18), (20, 19), (20, 20), (20, 21), (20, 22), (20, 23), (21, 0), (21, 1), (21, 2), (21, 3), (42, 0), (42, 1), (42, 2), (42, 3), (42, 4), (42, 5), (42, 6), (42, 7), (42, 8), (42, 9), (42, 10), (42, 11), (42, 12), (42, 13), (42, 14), (42, 15), (42, 16), (42, 17), (42, 18), (42, 19), (42, 20), (42, 21), (42, 22), (42, 23), (42, 24), (42, 25), (42, 26), (42, 27), (42, 28), (42, 29), (42, 30), (42, 31), (42, 32), (42, 33), (42, 34), (42, 35), (42, 36), (42, 37), (42, 38), (42, 39)] rfl (by decide +kernel)
set_option maxRecDepth 20000 in
theorem gL_law_X10_read : GoodIn wsL_law (wsV RL 33 RX10 yX10_read wsX10_read) := goodIn_app (goodIn_r2 chL chL_in _ [(18, 6), (18, 7), (18, 8), (0, 5)] rfl (by decide +kernel)) ggL_law_X10_read
set_option maxRecDepth 20000 in
theorem ggL_law_X9_run : GoodIn wsL_law wsX9_run := goodIn_r2 chL chL_in _ [(21, 7), (1, 2), (1, 14), (21, 8), (21, 9), (21, 10), (21, 11), (1, 1), (21, 12), (21, 13), (21, 14), (21, 15), (21, 16), (21, 17), (21, 18), (21, 19), (21, 20), (21, 21), (21, 22), (21, 23), (22, 0), (22, 1), (22, 2), (22, 3), (8, 10), (8, 11), (8, 12), (22, 4), (22, 5), (22, 6), (22, 7), (22, 8), (22, 9), (22, 10), (22, 11), (22, 12), (22, 13), (22, 14), (22, 15), (22, 16), (22, 17), (22, 18), (22, 19), (22, 20), (3, 1), (3, 2), (41, 0), (41, 1), (41, 2), (41, 3), (41, 4), (41, 5), (41, 6), (45, 0), (45, 1), (45, 2), (45, 3), (45, 4), (48, 0), (48, 1), (48, 2), (48, 3), (48, 4), (48, 5), (50, 0), (50, 1), (50, 2), (50, 3), (50, 4), (50, 5), (50, 6), (50, 7), (50, 8)] rfl (by decide +kernel)
set_option maxRecDepth 20000 in
theorem gL_law_X9_run : GoodIn wsL_law (wsV RL 34 RX9 yX9_run wsX9_run) := goodIn_app (goodIn_r2 chL chL_in _ [(21, 4), (21, 5), (21, 6), (0, 2)] rfl (by decide +kernel)) ggL_law_X9_run
set_option maxRecDepth 20000 in
theorem ggL_law_X10_run : GoodIn wsL_law wsX10_run := goodIn_r2 chL chL_in _ [(23, 0), (6, 4), (5, 2), (23, 1), (23, 2), (23, 3), (23, 4), (23, 5), (5, 5), (5, 3), (5, 6), (5, 4), (6, 5), (6, 6), (0, 5), (6, 7), (23, 6), (23, 7), (23, 8), (23, 9), (4, 23), (5, 0), (5, 1), (4, 17), (18, 16), (23, 10), (23, 11), (23, 12), (23, 13), (23, 14), (23, 15), (23, 16), (23, 17), (4, 18), (4, 20), (42, 0), (42, 1), (42, 2), (42, 3), (42, 4), (42, 5), (42, 6), (42, 7), (42, 8), (42, 9), (42, 10), (42, 11), (42, 12), (42, 13), (42, 14), (42, 15), (42, 16), (42, 17), (42, 18), (42, 19), (42, 20), (42, 21), (42, 22), (42, 23), (42, 24), (42, 25), (42, 26), (42, 27), (42, 28), (42, 29), (42, 30), (42, 31), (42, 32), (42, 33), (42, 34), (42, 35), (42, 36), (42, 37), (42, 38), (42, 39)] rfl (by decide +kernel)
set_option maxRecDepth 20000 in
theorem gL_law_X10_run : GoodIn wsL_law (wsV RL 38 RX10 yX10_run wsX10_run) := goodIn_app (goodIn_r2 chL chL_in _ [(22, 21), (22, 22), (22, 23), (0, 5)] rfl (by decide +kernel)) ggL_law_X10_run
set_option maxRecDepth 20000 in
theorem ggL_law_X9_ran : GoodIn wsL_law wsX9_ran := goodIn_r2 chL chL_in _ [(23, 21), (1, 2), (23, 22), (23, 23), (24, 0), (24, 1), (24, 2), (1, 1), (24, 3), (21, 15), (24, 4), (10, 21), (8, 11), (10, 22), (41, 0), (41, 1), (41, 2), (41, 3), (41, 4), (41, 5), (41, 6), (45, 0), (45, 1), (45, 2), (45, 3), (45, 4)] rfl (by decide +kernel)
set_option maxRecDepth 20000 in
theorem gL_law_X9_ran : GoodIn wsL_law (wsV RL 39 RX9 yX9_ran wsX9_ran) := goodIn_app (goodIn_r2 chL chL_in _ [(23, 18), (23, 19), (23, 20), (0, 2)] rfl (by decide +kernel)) ggL_law_X9_ran
set_option maxRecDepth 20000 in
theorem ggL_law_X10_ran : GoodIn wsL_law wsX10_ran := goodIn_r2 chL chL_in _ [(24, 8), (6, 4), (23, 3), (23, 5), (24, 9), (24, 10), (0, 5), (24, 11), (42, 0), (42, 1), (42, 2), (42, 3), (42, 4), (42, 5), (42, 6), (42, 7), (42, 8), (42, 9), (42, 10), (42, 11), (42, 12), (42, 13), (42, 14), (42, 15), (42, 16), (42, 17), (42, 18), (42, 19), (42, 20), (42, 21), (42, 22), (42, 23), (42, 24), (42, 25), (42, 26), (42, 27), (42, 28), (42, 29), (42, 30), (42, 31), (42, 32), (42, 33), (42, 34), (42, 35), (42, 36), (42, 37), (42, 38), (42, 39)] rfl (by decide +kernel)
set_option maxRecDepth 20000 in
theorem gL_law_X10_ran : GoodIn wsL_law (wsV RL 42 RX10 yX10_ran wsX10_ran) := goodIn_app (goodIn_r2 chL chL_in _ [(24, 5), (24, 6), (24, 7), (0, 5)] rfl (by decide +kernel)) ggL_law_X10_ran
set_option maxRecDepth 20000 in
theorem ggL_law_X9_tape : GoodIn wsL_law wsX9_tape := goodIn_r2 chL chL_in _ [(24, 15), (1, 2), (24, 16), (24, 17), (24, 0), (24, 1), (24, 2), (1, 1), (24, 3), (21, 15), (24, 4), (10, 21), (8, 11), (10, 22), (24, 18), (24, 19), (0, 2), (24, 20), (41, 0), (41, 1), (41, 2), (41, 3), (41, 4), (41, 5), (41, 6), (45, 0), (45, 1), (45, 2), (45, 3), (45, 4)] rfl (by decide +kernel)
set_option maxRecDepth 20000 in
theorem gL_law_X9_tape : GoodIn wsL_law (wsV RL 43 RX9 yX9_tape wsX9_tape) := goodIn_app (goodIn_r2 chL chL_in _ [(24, 12), (24, 13), (24, 14), (0, 2)] rfl (by decide +kernel)) ggL_law_X9_tape
set_option maxRecDepth 20000 in
theorem ggL_law_X10_tape : GoodIn wsL_law wsX10_tape := goodIn_r2 chL chL_in _ [(25, 0), (6, 4), (23, 5), (5, 5), (5, 6), (24, 9), (24, 10), (0, 5), (24, 11), (6, 5), (6, 6), (6, 7), (42, 0), (42, 1), (42, 2), (42, 3), (42, 4), (42, 5), (42, 6), (42, 7), (42, 8), (42, 9), (42, 10), (42, 11), (42, 12), (42, 13), (42, 14), (42, 15), (42, 16), (42, 17), (42, 18), (42, 19), (42, 20), (42, 21), (42, 22), (42, 23), (42, 24), (42, 25), (42, 26), (42, 27), (42, 28), (42, 29), (42, 30), (42, 31), (42, 32), (42, 33), (42, 34), (42, 35), (42, 36), (42, 37), (42, 38), (42, 39)] rfl (by decide +kernel)
set_option maxRecDepth 20000 in
theorem gL_law_X10_tape : GoodIn wsL_law (wsV RL 46 RX10 yX10_tape wsX10_tape) := goodIn_app (goodIn_r2 chL chL_in _ [(24, 21), (24, 22), (24, 23), (0, 5)] rfl (by decide +kernel)) ggL_law_X10_tape
set_option maxRecDepth 20000 in
theorem ggL_law_X9_heaps : GoodIn wsL_law wsX9_heaps := goodIn_r2 chL chL_in _ [(25, 4), (1, 6), (1, 14), (25, 5), (25, 6), (0, 2), (25, 7), (5, 21), (5, 22), (5, 23), (24, 18), (24, 19), (24, 20), (25, 8), (25, 9), (25, 10), (25, 11), (0, 14), (25, 12), (25, 13), (25, 14), (25, 15), (25, 16), (25, 17), (25, 18), (25, 19), (25, 20), (25, 21), (25, 22), (25, 23), (26, 0), (26, 1), (26, 2), (26, 3), (26, 4), (26, 5), (26, 6), (1, 5), (26, 7), (3, 19), (26, 8), (26, 9), (26, 10), (26, 11), (26, 12), (26, 13), (26, 14), (26, 15), (26, 16), (26, 17), (26, 18), (26, 19), (26, 20), (26, 21), (26, 22), (26, 23), (27, 0), (3, 11), (27, 1), (27, 2), (27, 3), (27, 4), (3, 10), (27, 5), (4, 2), (27, 6), (10, 21), (8, 11), (10, 22), (27, 7), (27, 8), (27, 9), (27, 10), (27, 11), (27, 12), (27, 13), (3, 7), (3, 14), (3, 15), (3, 13), (27, 14), (21, 10), (21, 11), (1, 1), (21, 12), (21, 13), (21, 14), (21, 15), (21, 16), (21, 17), (21, 18), (21, 19), (21, 20), (21, 21), (21, 22), (21, 23), (22, 0), (22, 1), (22, 2), (22, 3), (8, 10), (8, 12), (22, 4), (22, 5), (22, 6), (22, 7), (22, 8), (22, 9), (22, 10), (22, 11), (22, 12), (22, 13), (22, 14), (22, 15), (22, 16), (22, 17), (22, 18), (22, 19), (22, 20), (3, 1), (3, 2), (27, 15), (27, 16), (27, 17), (27, 18), (27, 19), (27, 20), (27, 21), (27, 22), (27, 23), (24, 1), (24, 2), (24, 3), (24, 4), (28, 0), (28, 1), (28, 2), (28, 3), (28, 4), (28, 5), (3, 23), (4, 0), (28, 6), (28, 7), (28, 8), (28, 9), (4, 1), (28, 10), (28, 11), (28, 12), (28, 13), (28, 14), (28, 15), (28, 16), (28, 17), (28, 18), (28, 19), (28, 20), (28, 21), (28, 22), (28, 23), (29, 0), (29, 1), (41, 0), (41, 1), (41, 2), (41, 3), (41, 4), (41, 5), (41, 6), (46, 0), (46, 1), (46, 2), (46, 3), (46, 4), (46, 5), (46, 6), (46, 7), (46, 8), (46, 9), (46, 10), (46, 11), (46, 12), (46, 13), (46, 14), (46, 15), (46, 16), (48, 0), (48, 1), (48, 2), (48, 3), (48, 4), (48, 5), (51, 0), (51, 1), (51, 2), (51, 3), (51, 4), (51, 5), (51, 6), (45, 0), (45, 1), (45, 2), (45, 3), (45, 4), (50, 0), (50, 1), (50, 2), (50, 3), (50, 4), (50, 5), (50, 6), (50, 7), (50, 8)] rfl (by decide +kernel)
set_option maxRecDepth 20000 in
theorem gL_law_X9_heaps : GoodIn wsL_law (wsV RL 47 RX9 yX9_heaps wsX9_heaps) := goodIn_app (goodIn_r2 chL chL_in _ [(25, 1), (25, 2), (25, 3), (0, 2)] rfl (by decide +kernel)) ggL_law_X9_heaps
set_option maxRecDepth 20000 in
theorem ggL_law_X10_heaps : GoodIn wsL_law wsX10_heaps := goodIn_r2 chL chL_in _ [(29, 5), (6, 4), (23, 1), (29, 6), (29, 7), (5, 8), (5, 9), (29, 8), (29, 9), (29, 10), (0, 5), (29, 11), (6, 5), (6, 6), (6, 7), (29, 12), (29, 13), (29, 14), (29, 15), (29, 16), (29, 17), (29, 18), (29, 19), (4, 15), (29, 20), (29, 21), (29, 22), (29, 23), (30, 0), (30, 1), (30, 2), (23, 2), (5, 12), (30, 3), (30, 4), (30, 5), (30, 6), (30, 7), (5, 10), (30, 8), (30, 9), (30, 10), (30, 11), (5, 2), (23, 6), (23, 7), (23, 8), (23, 9), (23, 4), (4, 23), (5, 0), (5, 1), (4, 17), (18, 16), (5, 3), (5, 4), (23, 10), (23, 11), (23, 12), (23, 13), (23, 14), (23, 15), (23, 16), (23, 17), (4, 18), (4, 20), (30, 12), (30, 13), (30, 14), (30, 15), (30, 16), (30, 17), (24, 9), (24, 10), (24, 11), (30, 18), (30, 19), (30, 20), (30, 21), (5, 7), (30, 22), (30, 23), (5, 11), (31, 0), (31, 1), (31, 2), (31, 3), (42, 0), (42, 1), (42, 2), (42, 3), (42, 4), (42, 5), (42, 6), (42, 7), (42, 8), (42, 9), (42, 10), (42, 11), (42, 12), (42, 13), (42, 14), (42, 15), (42, 16), (42, 17), (42, 18), (42, 19), (42, 20), (42, 21), (42, 22), (42, 23), (42, 24), (42, 25), (42, 26), (42, 27), (42, 28), (42, 29), (42, 30), (42, 31), (42, 32), (42, 33), (42, 34), (42, 35), (42, 36), (42, 37), (42, 38), (42, 39)] rfl (by decide +kernel)
set_option maxRecDepth 20000 in
theorem gL_law_X10_heaps : GoodIn wsL_law (wsV RL 51 RX10 yX10_heaps wsX10_heaps) := goodIn_app (goodIn_r2 chL chL_in _ [(29, 2), (29, 3), (29, 4), (0, 5)] rfl (by decide +kernel)) ggL_law_X10_heaps
set_option maxRecDepth 20000 in
theorem ggL_law_X9_heap : GoodIn wsL_law wsX9_heap := goodIn_r2 chL chL_in _ [(31, 7), (1, 6), (1, 14), (25, 5), (25, 6), (0, 2), (25, 7), (5, 21), (5, 22), (5, 23), (24, 18), (24, 19), (24, 20), (25, 8), (25, 9), (25, 10), (25, 11), (0, 14), (25, 12), (25, 13), (25, 14), (25, 15), (25, 16), (25, 17), (25, 18), (25, 19), (25, 20), (25, 21), (25, 22), (25, 23), (26, 0), (26, 1), (26, 2), (26, 3), (26, 4), (26, 5), (26, 6), (1, 5), (26, 7), (3, 19), (26, 8), (26, 9), (26, 10), (26, 11), (26, 12), (26, 13), (26, 14), (26, 15), (26, 16), (26, 17), (26, 18), (26, 19), (31, 8), (31, 9), (31, 10), (31, 11), (27, 0), (31, 12), (27, 10), (27, 11), (27, 12), (27, 13), (3, 7), (3, 14), (3, 15), (3, 13), (27, 14), (21, 10), (21, 11), (1, 1), (21, 12), (21, 13), (21, 14), (21, 15), (21, 16), (21, 17), (21, 18), (21, 19), (21, 20), (21, 21), (21, 22), (21, 23), (22, 0), (22, 1), (22, 2), (22, 3), (8, 10), (8, 11), (8, 12), (22, 4), (22, 5), (22, 6), (22, 7), (22, 8), (22, 9), (22, 10), (22, 11), (22, 12), (22, 13), (22, 14), (22, 15), (22, 16), (22, 17), (22, 18), (22, 19), (22, 20), (3, 1), (3, 2), (27, 15), (27, 16), (27, 17), (27, 18), (27, 19), (27, 20), (27, 21), (27, 22), (27, 23), (24, 1), (24, 2), (24, 3), (24, 4), (10, 21), (10, 22), (28, 15), (28, 16), (31, 13), (31, 14), (31, 15), (31, 16), (28, 22), (28, 23), (29, 0), (29, 1), (31, 17), (31, 18), (31, 19), (41, 0), (41, 1), (41, 2), (41, 3), (41, 4), (41, 5), (41, 6), (46, 0), (46, 1), (46, 2), (46, 3), (46, 4), (46, 5), (46, 6), (46, 7), (46, 8), (46, 9), (46, 10), (46, 11), (46, 12), (46, 13), (46, 14), (46, 15), (46, 16), (48, 0), (48, 1), (48, 2), (48, 3), (48, 4), (48, 5), (45, 0), (45, 1), (45, 2), (45, 3), (45, 4), (50, 0), (50, 1), (50, 2), (50, 3), (50, 4), (50, 5), (50, 6), (50, 7), (50, 8)] rfl (by decide +kernel)
set_option maxRecDepth 20000 in
theorem gL_law_X9_heap : GoodIn wsL_law (wsV RL 52 RX9 yX9_heap wsX9_heap) := goodIn_app (goodIn_r2 chL chL_in _ [(31, 4), (31, 5), (31, 6), (0, 2)] rfl (by decide +kernel)) ggL_law_X9_heap
set_option maxRecDepth 20000 in
theorem ggL_law_X10_heap : GoodIn wsL_law wsX10_heap := goodIn_r2 chL chL_in _ [(31, 23), (6, 4), (23, 1), (5, 9), (5, 8), (29, 8), (29, 9), (29, 10), (0, 5), (29, 11), (6, 5), (6, 6), (6, 7), (29, 12), (29, 13), (29, 14), (29, 15), (29, 16), (29, 17), (29, 18), (29, 19), (4, 15), (29, 20), (29, 21), (29, 22), (29, 23), (30, 0), (30, 1), (30, 2), (29, 7), (23, 2), (5, 12), (30, 3), (30, 4), (30, 5), (30, 6), (30, 7), (29, 6), (5, 10), (30, 8), (30, 9), (30, 10), (30, 11), (5, 2), (23, 6), (23, 7), (23, 8), (23, 9), (23, 4), (4, 23), (5, 0), (5, 1), (4, 17), (18, 16), (5, 3), (5, 4), (23, 10), (23, 11), (23, 12), (23, 13), (23, 14), (23, 15), (23, 16), (23, 17), (4, 18), (4, 20), (30, 12), (30, 13), (30, 14), (30, 15), (30, 16), (30, 17), (24, 9), (24, 10), (24, 11), (30, 18), (30, 19), (30, 20), (30, 21), (5, 7), (30, 22), (30, 23), (5, 11), (31, 0), (31, 1), (31, 2), (31, 3), (42, 0), (42, 1), (42, 2), (42, 3), (42, 4), (42, 5), (42, 6), (42, 7), (42, 8), (42, 9), (42, 10), (42, 11), (42, 12), (42, 13), (42, 14), (42, 15), (42, 16), (42, 17), (42, 18), (42, 19), (42, 20), (42, 21), (42, 22), (42, 23), (42, 24), (42, 25), (42, 26), (42, 27), (42, 28), (42, 29), (42, 30), (42, 31), (42, 32), (42, 33), (42, 34), (42, 35), (42, 36), (42, 37), (42, 38), (42, 39)] rfl (by decide +kernel)
set_option maxRecDepth 20000 in
theorem gL_law_X10_heap : GoodIn wsL_law (wsV RL 56 RX10 yX10_heap wsX10_heap) := goodIn_app (goodIn_r2 chL chL_in _ [(31, 20), (31, 21), (31, 22), (0, 5)] rfl (by decide +kernel)) ggL_law_X10_heap
set_option maxRecDepth 20000 in
theorem ggL_law_X9_safe : GoodIn wsL_law wsX9_safe := goodIn_r2 chL chL_in _ [(32, 3), (25, 5), (25, 6), (0, 2), (25, 7), (5, 21), (5, 22), (5, 23), (24, 18), (24, 19), (24, 20), (32, 4), (32, 5), (32, 6), (32, 7), (1, 6), (1, 14), (25, 8), (25, 9), (25, 10), (25, 11), (0, 14), (25, 12), (25, 13), (25, 14), (26, 4), (26, 5), (26, 6), (1, 5), (26, 7), (3, 19), (26, 8), (26, 9), (26, 10), (26, 11), (26, 12), (26, 13), (26, 14), (26, 15), (26, 16), (32, 8), (32, 9), (32, 10), (32, 11), (27, 0), (32, 12), (32, 13), (25, 19), (25, 20), (25, 21), (25, 22), (25, 23), (26, 0), (26, 1), (26, 2), (26, 3), (27, 10), (27, 11), (27, 12), (27, 13), (3, 7), (3, 14), (3, 15), (3, 13), (27, 14), (21, 10), (21, 11), (1, 1), (21, 12), (21, 13), (21, 14), (21, 15), (21, 16), (21, 17), (21, 18), (21, 19), (21, 20), (21, 21), (21, 22), (21, 23), (22, 0), (22, 1), (22, 2), (22, 3), (8, 10), (8, 11), (8, 12), (22, 4), (22, 5), (22, 6), (22, 7), (22, 8), (22, 9), (22, 10), (22, 11), (22, 12), (22, 13), (22, 14), (22, 15), (22, 16), (22, 17), (22, 18), (22, 19), (22, 20), (3, 1), (3, 2), (27, 15), (27, 16), (27, 17), (27, 18), (27, 19), (27, 20), (27, 21), (27, 22), (27, 23), (24, 1), (24, 2), (24, 3), (24, 4), (10, 21), (10, 22), (28, 15), (28, 16), (41, 0), (41, 1), (41, 2), (41, 3), (41, 4), (41, 5), (41, 6), (46, 0), (46, 1), (46, 2), (46, 3), (46, 4), (46, 5), (46, 6), (46, 7), (46, 8), (46, 9), (46, 10), (46, 11), (46, 12), (46, 13), (46, 14), (46, 15), (46, 16), (48, 0), (48, 1), (48, 2), (48, 3), (48, 4), (48, 5), (45, 0), (45, 1), (45, 2), (45, 3), (45, 4), (50, 0), (50, 1), (50, 2), (50, 3), (50, 4), (50, 5), (50, 6), (50, 7), (50, 8)] rfl (by decide +kernel)
set_option maxRecDepth 20000 in
theorem gL_law_X9_safe : GoodIn wsL_law (wsV RL 57 RX9 yX9_safe wsX9_safe) := goodIn_app (goodIn_r2 chL chL_in _ [(32, 0), (32, 1), (32, 2), (0, 2)] rfl (by decide +kernel)) ggL_law_X9_safe
set_option maxRecDepth 20000 in
theorem ggL_law_X10_safe : GoodIn wsL_law wsX10_safe := goodIn_r2 chL chL_in _ [(32, 17), (6, 4), (23, 1), (29, 8), (29, 9), (29, 10), (0, 5), (29, 11), (6, 5), (6, 6), (6, 7), (32, 18), (32, 19), (32, 20), (32, 21), (29, 6), (29, 16), (29, 17), (29, 18), (29, 19), (4, 15), (29, 20), (29, 21), (29, 22), (29, 23), (30, 0), (30, 1), (30, 2), (29, 7), (23, 2), (5, 12), (30, 3), (30, 4), (30, 5), (30, 6), (30, 7), (5, 10), (30, 8), (30, 9), (30, 10), (30, 11), (5, 2), (23, 6), (23, 7), (23, 8), (23, 9), (23, 4), (4, 23), (5, 0), (5, 1), (4, 17), (18, 16), (5, 3), (5, 4), (23, 10), (23, 11), (23, 12), (23, 13), (23, 14), (23, 15), (23, 16), (23, 17), (4, 18), (4, 20), (30, 12), (30, 13), (30, 14), (30, 15), (30, 16), (30, 17), (24, 9), (24, 10), (24, 11), (30, 18), (30, 19), (30, 20), (30, 21), (5, 7), (30, 22), (30, 23), (5, 11), (5, 8), (5, 9), (31, 0), (31, 1), (31, 2), (31, 3), (42, 0), (42, 1), (42, 2), (42, 3), (42, 4), (42, 5), (42, 6), (42, 7), (42, 8), (42, 9), (42, 10), (42, 11), (42, 12), (42, 13), (42, 14), (42, 15), (42, 16), (42, 17), (42, 18), (42, 19), (42, 20), (42, 21), (42, 22), (42, 23), (42, 24), (42, 25), (42, 26), (42, 27), (42, 28), (42, 29), (42, 30), (42, 31), (42, 32), (42, 33), (42, 34), (42, 35), (42, 36), (42, 37), (42, 38), (42, 39)] rfl (by decide +kernel)
set_option maxRecDepth 20000 in
theorem gL_law_X10_safe : GoodIn wsL_law (wsV RL 60 RX10 yX10_safe wsX10_safe) := goodIn_app (goodIn_r2 chL chL_in _ [(32, 14), (32, 15), (32, 16), (0, 5)] rfl (by decide +kernel)) ggL_law_X10_safe
set_option maxRecDepth 20000 in
theorem ggL_law_X9_pair : GoodIn wsL_law wsX9_pair := goodIn_r2 chL chL_in _ [(33, 1), (1, 6), (33, 2), (33, 3), (25, 5), (25, 6), (0, 2), (25, 7), (5, 21), (5, 22), (5, 23), (24, 18), (24, 19), (24, 20), (32, 4), (32, 5), (32, 6), (32, 7), (1, 14), (25, 8), (25, 9), (25, 10), (25, 11), (0, 14), (25, 12), (25, 13), (25, 14), (26, 4), (26, 5), (26, 6), (1, 5), (26, 7), (3, 19), (26, 8), (26, 9), (26, 10), (26, 11), (26, 12), (26, 13), (26, 14), (26, 15), (26, 16), (32, 8), (32, 9), (32, 10), (32, 11), (27, 0), (32, 12), (32, 13), (25, 19), (25, 20), (25, 21), (25, 22), (25, 23), (26, 0), (26, 1), (26, 2), (26, 3), (27, 10), (27, 11), (27, 12), (27, 13), (3, 7), (3, 14), (3, 15), (3, 13), (27, 14), (21, 10), (21, 11), (1, 1), (21, 12), (21, 13), (21, 14), (21, 15), (21, 16), (21, 17), (21, 18), (21, 19), (21, 20), (21, 21), (21, 22), (21, 23), (22, 0), (22, 1), (22, 2), (22, 3), (8, 10), (8, 11), (8, 12), (22, 4), (22, 5), (22, 6), (22, 7), (22, 8), (22, 9), (22, 10), (22, 11), (22, 12), (22, 13), (22, 14), (22, 15), (22, 16), (22, 17), (22, 18), (22, 19), (22, 20), (3, 1), (3, 2), (27, 15), (27, 16), (27, 17), (27, 18), (27, 19), (27, 20), (27, 21), (27, 22), (27, 23), (24, 1), (24, 2), (24, 3), (24, 4), (10, 21), (10, 22), (28, 15), (28, 16), (31, 17), (31, 18), (31, 19), (41, 0), (41, 1), (41, 2), (41, 3), (41, 4), (41, 5), (41, 6), (46, 0), (46, 1), (46, 2), (46, 3), (46, 4), (46, 5), (46, 6), (46, 7), (46, 8), (46, 9), (46, 10), (46, 11), (46, 12), (46, 13), (46, 14), (46, 15), (46, 16), (48, 0), (48, 1), (48, 2), (48, 3), (48, 4), (48, 5), (45, 0), (45, 1), (45, 2), (45, 3), (45, 4), (50, 0), (50, 1), (50, 2), (50, 3), (50, 4), (50, 5), (50, 6), (50, 7), (50, 8)] rfl (by decide +kernel)
set_option maxRecDepth 20000 in
theorem gL_law_X9_pair : GoodIn wsL_law (wsV RL 61 RX9 yX9_pair wsX9_pair) := goodIn_app (goodIn_r2 chL chL_in _ [(32, 22), (32, 23), (33, 0), (0, 2)] rfl (by decide +kernel)) ggL_law_X9_pair
set_option maxRecDepth 20000 in
theorem ggL_law_X10_pair : GoodIn wsL_law wsX10_pair := goodIn_r2 chL chL_in _ [(33, 7), (6, 4), (23, 1), (5, 8), (29, 8), (29, 9), (29, 10), (0, 5), (29, 11), (6, 5), (6, 6), (6, 7), (32, 18), (32, 19), (32, 20), (32, 21), (29, 6), (29, 16), (29, 17), (29, 18), (29, 19), (4, 15), (29, 20), (29, 21), (29, 22), (29, 23), (30, 0), (30, 1), (30, 2), (29, 7), (23, 2), (5, 12), (30, 3), (30, 4), (30, 5), (30, 6), (30, 7), (5, 10), (30, 8), (30, 9), (30, 10), (30, 11), (5, 2), (23, 6), (23, 7), (23, 8), (23, 9), (23, 4), (4, 23), (5, 0), (5, 1), (4, 17), (18, 16), (5, 3), (5, 4), (23, 10), (23, 11), (23, 12), (23, 13), (23, 14), (23, 15), (23, 16), (23, 17), (4, 18), (4, 20), (30, 12), (30, 13), (30, 14), (30, 15), (30, 16), (30, 17), (24, 9), (24, 10), (24, 11), (30, 18), (30, 19), (30, 20), (30, 21), (5, 7), (30, 22), (30, 23), (5, 11), (5, 9), (31, 0), (31, 1), (31, 2), (31, 3), (42, 0), (42, 1), (42, 2), (42, 3), (42, 4), (42, 5), (42, 6), (42, 7), (42, 8), (42, 9), (42, 10), (42, 11), (42, 12), (42, 13), (42, 14), (42, 15), (42, 16), (42, 17), (42, 18), (42, 19), (42, 20), (42, 21), (42, 22), (42, 23), (42, 24), (42, 25), (42, 26), (42, 27), (42, 28), (42, 29), (42, 30), (42, 31), (42, 32), (42, 33), (42, 34), (42, 35), (42, 36), (42, 37), (42, 38), (42, 39)] rfl (by decide +kernel)
set_option maxRecDepth 20000 in
theorem gL_law_X10_pair : GoodIn wsL_law (wsV RL 65 RX10 yX10_pair wsX10_pair) := goodIn_app (goodIn_r2 chL chL_in _ [(33, 4), (33, 5), (33, 6), (0, 5)] rfl (by decide +kernel)) ggL_law_X10_pair
set_option maxRecDepth 20000 in
theorem ggL_law_X9_most : GoodIn wsL_law wsX9_most := goodIn_r2 chL chL_in _ [(33, 11), (1, 6), (1, 14), (33, 12), (25, 5), (25, 6), (0, 2), (25, 7), (5, 21), (5, 22), (5, 23), (24, 18), (24, 19), (24, 20), (25, 8), (25, 9), (25, 10), (25, 11), (0, 14), (25, 12), (25, 13), (25, 14), (26, 4), (26, 5), (26, 6), (1, 5), (26, 7), (3, 19), (26, 8), (26, 9), (26, 10), (26, 11), (26, 12), (26, 13), (26, 14), (26, 15), (26, 16), (33, 13), (33, 14), (33, 15), (33, 16), (27, 0), (33, 17), (25, 19), (25, 20), (25, 21), (25, 22), (25, 23), (26, 0), (26, 1), (26, 2), (26, 3), (33, 18), (26, 21), (26, 22), (26, 23), (3, 11), (27, 1), (27, 2), (27, 3), (27, 4), (3, 10), (27, 5), (4, 2), (27, 6), (10, 21), (8, 11), (10, 22), (27, 7), (27, 8), (27, 9), (27, 10), (27, 11), (27, 12), (27, 13), (3, 7), (3, 14), (3, 15), (3, 13), (27, 14), (21, 10), (21, 11), (1, 1), (21, 12), (21, 13), (21, 14), (21, 15), (21, 16), (21, 17), (21, 18), (21, 19), (21, 20), (21, 21), (21, 22), (21, 23), (22, 0), (22, 1), (22, 2), (22, 3), (8, 10), (8, 12), (22, 4), (22, 5), (22, 6), (22, 7), (22, 8), (22, 9), (22, 10), (22, 11), (22, 12), (22, 13), (22, 14), (22, 15), (22, 16), (22, 17), (22, 18), (22, 19), (22, 20), (3, 1), (3, 2), (27, 15), (27, 16), (27, 17), (27, 18), (27, 19), (27, 20), (27, 21), (27, 22), (27, 23), (24, 1), (24, 2), (24, 3), (24, 4), (28, 0), (28, 1), (28, 2), (28, 3), (28, 4), (28, 5), (3, 23), (4, 0), (28, 6), (28, 7), (28, 8), (28, 9), (4, 1), (28, 10), (28, 11), (28, 12), (28, 13), (28, 14), (28, 15), (28, 16), (31, 17), (31, 18), (31, 19), (41, 0), (41, 1), (41, 2), (41, 3), (41, 4), (41, 5), (41, 6), (46, 0), (46, 1), (46, 2), (46, 3), (46, 4), (46, 5), (46, 6), (46, 7), (46, 8), (46, 9), (46, 10), (46, 11), (46, 12), (46, 13), (46, 14), (46, 15), (46, 16), (48, 0), (48, 1), (48, 2), (48, 3), (48, 4), (48, 5), (51, 0), (51, 1), (51, 2), (51, 3), (51, 4), (51, 5), (51, 6), (45, 0), (45, 1), (45, 2), (45, 3), (45, 4), (50, 0), (50, 1), (50, 2), (50, 3), (50, 4), (50, 5), (50, 6), (50, 7), (50, 8)] rfl (by decide +kernel)
set_option maxRecDepth 20000 in
theorem gL_law_X9_most : GoodIn wsL_law (wsV RL 66 RX9 yX9_most wsX9_most) := goodIn_app (goodIn_r2 chL chL_in _ [(33, 8), (33, 9), (33, 10), (0, 2)] rfl (by decide +kernel)) ggL_law_X9_most
set_option maxRecDepth 20000 in
theorem ggL_law_X10_most : GoodIn wsL_law wsX10_most := goodIn_r2 chL chL_in _ [(33, 22), (6, 4), (23, 1), (29, 6), (29, 8), (29, 9), (29, 10), (0, 5), (29, 11), (6, 5), (6, 6), (6, 7), (29, 16), (29, 17), (29, 18), (29, 19), (4, 15), (29, 20), (29, 21), (29, 22), (29, 23), (30, 0), (30, 1), (30, 2), (29, 7), (23, 2), (5, 12), (30, 3), (30, 4), (30, 5), (30, 6), (30, 7), (5, 10), (30, 8), (30, 9), (30, 10), (30, 11), (5, 2), (23, 6), (23, 7), (23, 8), (23, 9), (23, 4), (4, 23), (5, 0), (5, 1), (4, 17), (18, 16), (5, 3), (5, 4), (23, 10), (23, 11), (23, 12), (23, 13), (23, 14), (23, 15), (23, 16), (23, 17), (4, 18), (4, 20), (30, 12), (30, 13), (30, 14), (30, 15), (30, 16), (30, 17), (24, 9), (24, 10), (24, 11), (30, 18), (30, 19), (30, 20), (30, 21), (5, 7), (30, 22), (30, 23), (5, 11), (5, 8), (5, 9), (31, 0), (31, 1), (31, 2), (31, 3), (42, 0), (42, 1), (42, 2), (42, 3), (42, 4), (42, 5), (42, 6), (42, 7), (42, 8), (42, 9), (42, 10), (42, 11), (42, 12), (42, 13), (42, 14), (42, 15), (42, 16), (42, 17), (42, 18), (42, 19), (42, 20), (42, 21), (42, 22), (42, 23), (42, 24), (42, 25), (42, 26), (42, 27), (42, 28), (42, 29), (42, 30), (42, 31), (42, 32), (42, 33), (42, 34), (42, 35), (42, 36), (42, 37), (42, 38), (42, 39)] rfl (by decide +kernel)
set_option maxRecDepth 20000 in
theorem gL_law_X10_most : GoodIn wsL_law (wsV RL 69 RX10 yX10_most wsX10_most) := goodIn_app (goodIn_r2 chL chL_in _ [(33, 19), (33, 20), (33, 21), (0, 5)] rfl (by decide +kernel)) ggL_law_X10_most
set_option maxRecDepth 20000 in
theorem ggL_law_X9_together : GoodIn wsL_law wsX9_together := goodIn_r2 chL chL_in _ [(34, 2), (1, 6), (1, 14), (25, 5), (25, 6), (0, 2), (25, 7), (5, 21), (5, 22), (5, 23), (24, 18), (24, 19), (24, 20), (25, 8), (25, 9), (25, 10), (25, 11), (0, 14), (25, 12), (25, 13), (25, 14), (25, 15), (25, 16), (25, 17), (25, 18), (25, 19), (25, 20), (25, 21), (25, 22), (25, 23), (26, 0), (26, 1), (26, 2), (26, 3), (26, 4), (26, 5), (26, 6), (1, 5), (26, 7), (3, 19), (26, 8), (26, 9), (26, 10), (26, 11), (26, 12), (26, 13), (26, 14), (26, 15), (26, 16), (26, 17), (26, 18), (26, 19), (34, 3), (34, 4), (34, 5), (34, 6), (27, 0), (3, 11), (27, 1), (27, 2), (27, 3), (27, 4), (3, 10), (27, 5), (4, 2), (27, 6), (10, 21), (8, 11), (10, 22), (27, 7), (27, 8), (27, 9), (27, 10), (27, 11), (27, 12), (27, 13), (3, 7), (3, 14), (3, 15), (3, 13), (27, 14), (21, 10), (21, 11), (1, 1), (21, 12), (21, 13), (21, 14), (21, 15), (21, 16), (21, 17), (21, 18), (21, 19), (21, 20), (21, 21), (21, 22), (21, 23), (22, 0), (22, 1), (22, 2), (22, 3), (8, 10), (8, 12), (22, 4), (22, 5), (22, 6), (22, 7), (22, 8), (22, 9), (22, 10), (22, 11), (22, 12), (22, 13), (22, 14), (22, 15), (22, 16), (22, 17), (22, 18), (22, 19), (22, 20), (3, 1), (3, 2), (27, 15), (27, 16), (27, 17), (27, 18), (27, 19), (27, 20), (27, 21), (27, 22), (27, 23), (24, 1), (24, 2), (24, 3), (24, 4), (28, 0), (28, 1), (28, 2), (28, 3), (28, 4), (28, 5), (3, 23), (4, 0), (28, 6), (28, 7), (28, 8), (28, 9), (4, 1), (28, 10), (28, 11), (28, 12), (28, 13), (28, 14), (28, 15), (28, 16), (41, 0), (41, 1), (41, 2), (41, 3), (41, 4), (41, 5), (41, 6), (46, 0), (46, 1), (46, 2), (46, 3), (46, 4), (46, 5), (46, 6), (46, 7), (46, 8), (46, 9), (46, 10), (46, 11), (46, 12), (46, 13), (46, 14), (46, 15), (46, 16), (48, 0), (48, 1), (48, 2), (48, 3), (48, 4), (48, 5), (51, 0), (51, 1), (51, 2), (51, 3), (51, 4), (51, 5), (51, 6), (45, 0), (45, 1), (45, 2), (45, 3), (45, 4), (50, 0), (50, 1), (50, 2), (50, 3), (50, 4), (50, 5), (50, 6), (50, 7), (50, 8)] rfl (by decide +kernel)
set_option maxRecDepth 20000 in
theorem gL_law_X9_together : GoodIn wsL_law (wsV RL 70 RX9 yX9_together wsX9_together) := goodIn_app (goodIn_r2 chL chL_in _ [(33, 23), (34, 0), (34, 1), (0, 2)] rfl (by decide +kernel)) ggL_law_X9_together
set_option maxRecDepth 20000 in
theorem ggL_law_X10_together : GoodIn wsL_law wsX10_together := goodIn_r2 chL chL_in _ [(34, 10), (6, 4), (23, 1), (29, 6), (29, 8), (29, 9), (29, 10), (0, 5), (29, 11), (6, 5), (6, 6), (6, 7), (29, 12), (29, 13), (29, 14), (29, 15), (29, 16), (29, 17), (29, 18), (29, 19), (4, 15), (29, 20), (29, 21), (29, 22), (29, 23), (30, 0), (30, 1), (30, 2), (29, 7), (23, 2), (5, 12), (30, 3), (30, 4), (30, 5), (30, 6), (30, 7), (5, 10), (30, 8), (30, 9), (30, 10), (30, 11), (5, 2), (23, 6), (23, 7), (23, 8), (23, 9), (23, 4), (4, 23), (5, 0), (5, 1), (4, 17), (18, 16), (5, 3), (5, 4), (23, 10), (23, 11), (23, 12), (23, 13), (23, 14), (23, 15), (23, 16), (23, 17), (4, 18), (4, 20), (30, 12), (30, 13), (30, 14), (30, 15), (30, 16), (30, 17), (24, 9), (24, 10), (24, 11), (30, 18), (30, 19), (30, 20), (30, 21), (5, 7), (30, 22), (30, 23), (5, 11), (5, 8), (5, 9), (31, 0), (31, 1), (31, 2), (31, 3), (42, 0), (42, 1), (42, 2), (42, 3), (42, 4), (42, 5), (42, 6), (42, 7), (42, 8), (42, 9), (42, 10), (42, 11), (42, 12), (42, 13), (42, 14), (42, 15), (42, 16), (42, 17), (42, 18), (42, 19), (42, 20), (42, 21), (42, 22), (42, 23), (42, 24), (42, 25), (42, 26), (42, 27), (42, 28), (42, 29), (42, 30), (42, 31), (42, 32), (42, 33), (42, 34), (42, 35), (42, 36), (42, 37), (42, 38), (42, 39)] rfl (by decide +kernel)
set_option maxRecDepth 20000 in
theorem gL_law_X10_together : GoodIn wsL_law (wsV RL 73 RX10 yX10_together wsX10_together) := goodIn_app (goodIn_r2 chL chL_in _ [(34, 7), (34, 8), (34, 9), (0, 5)] rfl (by decide +kernel)) ggL_law_X10_together
set_option maxRecDepth 20000 in
theorem ggL_law_X9_both : GoodIn wsL_law wsX9_both := goodIn_r2 chL chL_in _ [(34, 14), (1, 6), (1, 14), (24, 18), (24, 19), (0, 2), (24, 20), (25, 8), (25, 9), (25, 10), (25, 11), (0, 14), (25, 12), (25, 13), (25, 14), (25, 15), (25, 16), (25, 17), (25, 18), (25, 19), (25, 20), (25, 21), (25, 22), (25, 23), (26, 0), (26, 1), (26, 2), (26, 3), (26, 4), (26, 5), (26, 6), (1, 5), (26, 7), (3, 19), (26, 8), (26, 9), (26, 10), (26, 11), (26, 12), (26, 13), (26, 14), (26, 15), (26, 16), (26, 17), (26, 18), (26, 19), (34, 15), (34, 16), (34, 17), (34, 18), (27, 0), (34, 19), (34, 20), (34, 21), (34, 22), (3, 11), (27, 1), (27, 2), (27, 3), (27, 4), (3, 10), (27, 5), (4, 2), (27, 6), (10, 21), (8, 11), (10, 22), (27, 7), (27, 8), (27, 9), (27, 10), (27, 11), (27, 12), (27, 13), (3, 7), (3, 14), (3, 15), (3, 13), (27, 14), (21, 10), (21, 11), (1, 1), (21, 12), (21, 13), (21, 14), (21, 15), (21, 16), (21, 17), (21, 18), (21, 19), (21, 20), (21, 21), (21, 22), (21, 23), (22, 0), (22, 1), (22, 2), (22, 3), (8, 10), (8, 12), (22, 4), (22, 5), (22, 6), (22, 7), (22, 8), (22, 9), (22, 10), (22, 11), (22, 12), (22, 13), (22, 14), (22, 15), (22, 16), (22, 17), (22, 18), (22, 19), (22, 20), (3, 1), (3, 2), (27, 15), (27, 16), (27, 17), (27, 18), (27, 19), (27, 20), (27, 21), (27, 22), (27, 23), (24, 1), (24, 2), (24, 3), (24, 4), (28, 0), (28, 1), (28, 2), (28, 3), (28, 4), (28, 5), (3, 23), (4, 0), (28, 6), (28, 7), (28, 8), (28, 9), (4, 1), (28, 10), (28, 11), (28, 12), (28, 13), (28, 14), (28, 15), (28, 16), (41, 0), (41, 1), (41, 2), (41, 3), (41, 4), (41, 5), (41, 6), (46, 0), (46, 1), (46, 2), (46, 3), (46, 4), (46, 5), (46, 6), (46, 7), (46, 8), (46, 9), (46, 10), (46, 11), (46, 12), (46, 13), (46, 14), (46, 15), (46, 16), (48, 0), (48, 1), (48, 2), (48, 3), (48, 4), (48, 5), (51, 0), (51, 1), (51, 2), (51, 3), (51, 4), (51, 5), (51, 6), (45, 0), (45, 1), (45, 2), (45, 3), (45, 4), (50, 0), (50, 1), (50, 2), (50, 3), (50, 4), (50, 5), (50, 6), (50, 7), (50, 8)] rfl (by decide +kernel)
set_option maxRecDepth 20000 in
theorem gL_law_X9_both : GoodIn wsL_law (wsV RL 74 RX9 yX9_both wsX9_both) := goodIn_app (goodIn_r2 chL chL_in _ [(34, 11), (34, 12), (34, 13), (0, 2)] rfl (by decide +kernel)) ggL_law_X9_both
set_option maxRecDepth 20000 in
theorem ggL_law_X10_both : GoodIn wsL_law wsX10_both := goodIn_r2 chL chL_in _ [(35, 2), (6, 4), (23, 1), (29, 7), (30, 16), (4, 15), (5, 2), (5, 12), (35, 3), (35, 4), (23, 2), (29, 6), (6, 5), (6, 6), (0, 5), (6, 7), (29, 12), (29, 13), (29, 14), (29, 15), (29, 16), (29, 17), (29, 18), (29, 19), (29, 20), (29, 21), (29, 22), (30, 4), (30, 5), (30, 6), (30, 7), (5, 10), (30, 8), (30, 9), (30, 10), (30, 11), (23, 6), (23, 7), (23, 8), (23, 9), (23, 4), (4, 23), (5, 0), (5, 1), (4, 17), (18, 16), (5, 3), (5, 4), (23, 10), (23, 11), (23, 12), (23, 13), (23, 14), (23, 15), (23, 16), (23, 17), (4, 18), (4, 20), (30, 12), (30, 13), (30, 14), (30, 15), (30, 17), (24, 9), (24, 10), (24, 11), (30, 18), (30, 19), (30, 20), (30, 21), (5, 7), (30, 22), (30, 23), (5, 11), (5, 8), (5, 9), (31, 0), (31, 1), (31, 2), (31, 3), (42, 0), (42, 1), (42, 2), (42, 3), (42, 4), (42, 5), (42, 6), (42, 7), (42, 8), (42, 9), (42, 10), (42, 11), (42, 12), (42, 13), (42, 14), (42, 15), (42, 16), (42, 17), (42, 18), (42, 19), (42, 20), (42, 21), (42, 22), (42, 23), (42, 24), (42, 25), (42, 26), (42, 27), (42, 28), (42, 29), (42, 30), (42, 31), (42, 32), (42, 33), (42, 34), (42, 35), (42, 36), (42, 37), (42, 38), (42, 39)] rfl (by decide +kernel)
set_option maxRecDepth 20000 in
theorem gL_law_X10_both : GoodIn wsL_law (wsV RL 77 RX10 yX10_both wsX10_both) := goodIn_app (goodIn_r2 chL chL_in _ [(34, 23), (35, 0), (35, 1), (0, 5)] rfl (by decide +kernel)) ggL_law_X10_both
set_option maxRecDepth 20000 in
theorem ggL_law_X9_flows : GoodIn wsL_law wsX9_flows := goodIn_r2 chL chL_in _ [(35, 8), (1, 10), (1, 14), (0, 14), (24, 18), (24, 19), (0, 2), (24, 20), (35, 9), (35, 10), (35, 11), (1, 9), (35, 12), (35, 13), (35, 14), (4, 8), (35, 15), (4, 7), (35, 16), (35, 17), (35, 18), (35, 19), (35, 20), (35, 21), (35, 22), (35, 23), (36, 0), (36, 1), (36, 2), (36, 3), (36, 4), (36, 5), (25, 13), (25, 14), (36, 6), (36, 7), (36, 8), (36, 9), (41, 0), (41, 1), (41, 2), (41, 3), (41, 4), (41, 5), (41, 6), (48, 0), (48, 1), (48, 2), (48, 3), (48, 4), (48, 5), (47, 0), (47, 1), (47, 2), (50, 0), (50, 1), (50, 2), (50, 3), (50, 4), (50, 5), (50, 6), (50, 7), (50, 8)] rfl (by decide +kernel)
set_option maxRecDepth 20000 in
theorem gL_law_X9_flows : GoodIn wsL_law (wsV RL 78 RX9 yX9_flows wsX9_flows) := goodIn_app (goodIn_r2 chL chL_in _ [(35, 5), (35, 6), (35, 7), (0, 2)] rfl (by decide +kernel)) ggL_law_X9_flows
set_option maxRecDepth 20000 in
theorem ggL_law_X10_flows : GoodIn wsL_law wsX10_flows := goodIn_r2 chL chL_in _ [(36, 13), (6, 4), (18, 16), (6, 5), (6, 6), (0, 5), (6, 7), (36, 14), (36, 15), (36, 16), (36, 17), (4, 17), (4, 15), (36, 18), (36, 19), (36, 20), (36, 21), (4, 18), (5, 13), (36, 22), (36, 23), (37, 0), (37, 1), (29, 20), (29, 21), (29, 22), (42, 0), (42, 1), (42, 2), (42, 3), (42, 4), (42, 5), (42, 6), (42, 7), (42, 8), (42, 9), (42, 10), (42, 11), (42, 12), (42, 13), (42, 14), (42, 15), (42, 16), (42, 17), (42, 18), (42, 19), (42, 20), (42, 21), (42, 22), (42, 23), (42, 24), (42, 25), (42, 26), (42, 27), (42, 28), (42, 29), (42, 30), (42, 31), (42, 32), (42, 33), (42, 34), (42, 35), (42, 36), (42, 37), (42, 38), (42, 39)] rfl (by decide +kernel)
set_option maxRecDepth 20000 in
theorem gL_law_X10_flows : GoodIn wsL_law (wsV RL 81 RX10 yX10_flows wsX10_flows) := goodIn_app (goodIn_r2 chL chL_in _ [(36, 10), (36, 11), (36, 12), (0, 5)] rfl (by decide +kernel)) ggL_law_X10_flows
set_option maxRecDepth 20000 in
theorem ggL_law_X9_statement : GoodIn wsL_law wsX9_statement := goodIn_r2 chL chL_in _ [(37, 5), (1, 14), (7, 12), (1, 10), (0, 14), (37, 6), (37, 7), (37, 8), (37, 9), (35, 9), (35, 10), (35, 11), (1, 9), (35, 12), (35, 13), (35, 14), (4, 8), (35, 15), (4, 7), (35, 16), (35, 17), (35, 18), (35, 19), (37, 10), (36, 1), (36, 2), (36, 3), (36, 4), (36, 5), (25, 13), (0, 2), (25, 14), (41, 0), (41, 1), (41, 2), (41, 3), (41, 4), (41, 5), (41, 6), (48, 0), (48, 1), (48, 2), (48, 3), (48, 4), (48, 5), (47, 0), (47, 1), (47, 2), (50, 0), (50, 1), (50, 2), (50, 3), (50, 4), (50, 5), (50, 6), (50, 7), (50, 8)] rfl (by decide +kernel)
set_option maxRecDepth 20000 in
theorem gL_law_X9_statement : GoodIn wsL_law (wsV RL 82 RX9 yX9_statement wsX9_statement) := goodIn_app (goodIn_r2 chL chL_in _ [(37, 2), (37, 3), (37, 4), (0, 2)] rfl (by decide +kernel)) ggL_law_X9_statement
set_option maxRecDepth 20000 in
theorem ggL_law_X10_statement : GoodIn wsL_law wsX10_statement := goodIn_r2 chL chL_in _ [(37, 14), (6, 4), (18, 16), (4, 17), (6, 5), (6, 6), (0, 5), (6, 7), (36, 22), (36, 23), (37, 0), (37, 1), (36, 18), (36, 19), (36, 20), (36, 21), (4, 18), (5, 13), (4, 15), (36, 14), (36, 15), (36, 16), (36, 17), (29, 20), (29, 21), (29, 22), (42, 0), (42, 1), (42, 2), (42, 3), (42, 4), (42, 5), (42, 6), (42, 7), (42, 8), (42, 9), (42, 10), (42, 11), (42, 12), (42, 13), (42, 14), (42, 15), (42, 16), (42, 17), (42, 18), (42, 19), (42, 20), (42, 21), (42, 22), (42, 23), (42, 24), (42, 25), (42, 26), (42, 27), (42, 28), (42, 29), (42, 30), (42, 31), (42, 32), (42, 33), (42, 34), (42, 35), (42, 36), (42, 37), (42, 38), (42, 39)] rfl (by decide +kernel)
set_option maxRecDepth 20000 in
theorem gL_law_X10_statement : GoodIn wsL_law (wsV RL 85 RX10 yX10_statement wsX10_statement) := goodIn_app (goodIn_r2 chL chL_in _ [(37, 11), (37, 12), (37, 13), (0, 5)] rfl (by decide +kernel)) ggL_law_X10_statement
set_option maxRecDepth 20000 in
theorem ggL_law_X9_raised : GoodIn wsL_law wsX9_raised := goodIn_r2 chL chL_in _ [(37, 18), (1, 10), (1, 14), (0, 14), (5, 18), (5, 19), (0, 2), (5, 20), (37, 19), (37, 20), (37, 21), (1, 9), (37, 22), (4, 9), (37, 23), (35, 10), (35, 11), (35, 12), (35, 13), (35, 14), (4, 8), (35, 15), (4, 7), (35, 16), (35, 17), (35, 18), (35, 19), (38, 0), (38, 1), (38, 2), (38, 3), (36, 4), (36, 5), (36, 0), (36, 1), (36, 2), (36, 3), (25, 13), (25, 14), (41, 0), (41, 1), (41, 2), (41, 3), (41, 4), (41, 5), (41, 6), (47, 0), (47, 1), (47, 2), (48, 0), (48, 1), (48, 2), (48, 3), (48, 4), (48, 5), (50, 0), (50, 1), (50, 2), (50, 3), (50, 4), (50, 5), (50, 6), (50, 7), (50, 8)] rfl (by decide +kernel)
set_option maxRecDepth 20000 in
theorem gL_law_X9_raised : GoodIn wsL_law (wsV RL 86 RX9 yX9_raised wsX9_raised) := goodIn_app (goodIn_r2 chL chL_in _ [(37, 15), (37, 16), (37, 17), (0, 2)] rfl (by decide +kernel)) ggL_law_X9_raised
set_option maxRecDepth 20000 in
theorem ggL_law_X10_raised : GoodIn wsL_law wsX10_raised := goodIn_r2 chL chL_in _ [(38, 7), (6, 4), (5, 13), (4, 15), (18, 16), (4, 17), (6, 5), (6, 6), (0, 5), (6, 7), (36, 18), (36, 19), (36, 20), (36, 21), (4, 18), (36, 22), (36, 23), (37, 0), (37, 1), (42, 0), (42, 1), (42, 2), (42, 3), (42, 4), (42, 5), (42, 6), (42, 7), (42, 8), (42, 9), (42, 10), (42, 11), (42, 12), (42, 13), (42, 14), (42, 15), (42, 16), (42, 17), (42, 18), (42, 19), (42, 20), (42, 21), (42, 22), (42, 23), (42, 24), (42, 25), (42, 26), (42, 27), (42, 28), (42, 29), (42, 30), (42, 31), (42, 32), (42, 33), (42, 34), (42, 35), (42, 36), (42, 37), (42, 38), (42, 39)] rfl (by decide +kernel)
set_option maxRecDepth 20000 in
theorem gL_law_X10_raised : GoodIn wsL_law (wsV RL 89 RX10 yX10_raised wsX10_raised) := goodIn_app (goodIn_r2 chL chL_in _ [(38, 4), (38, 5), (38, 6), (0, 5)] rfl (by decide +kernel)) ggL_law_X10_raised
set_option maxRecDepth 20000 in
theorem ggL_law_X9_stop : GoodIn wsL_law wsX9_stop := goodIn_r2 chL chL_in _ [(38, 11), (1, 14), (38, 12), (1, 6), (25, 5), (25, 6), (0, 2), (25, 7), (5, 21), (5, 22), (5, 23), (24, 18), (24, 19), (24, 20), (25, 8), (25, 9), (25, 10), (25, 11), (0, 14), (25, 12), (25, 13), (25, 14), (26, 4), (26, 5), (26, 6), (1, 5), (26, 7), (3, 19), (26, 8), (26, 9), (26, 10), (26, 11), (26, 12), (26, 13), (26, 14), (26, 15), (26, 16), (38, 13), (38, 14), (38, 15), (38, 16), (38, 17), (38, 18), (10, 21), (8, 11), (10, 22), (38, 19), (38, 20), (25, 22), (25, 23), (26, 0), (26, 1), (26, 2), (26, 3), (38, 21), (38, 22), (38, 23), (39, 0), (3, 16), (3, 17), (32, 12), (32, 13), (27, 10), (27, 11), (27, 12), (27, 13), (27, 0), (3, 7), (3, 14), (3, 15), (3, 13), (27, 14), (21, 10), (21, 11), (1, 1), (21, 12), (21, 13), (21, 14), (21, 15), (21, 16), (21, 17), (21, 18), (21, 19), (21, 20), (21, 21), (21, 22), (21, 23), (22, 0), (22, 1), (22, 2), (22, 3), (8, 10), (8, 12), (22, 4), (22, 5), (22, 6), (22, 7), (22, 8), (22, 9), (22, 10), (22, 11), (22, 12), (22, 13), (22, 14), (22, 15), (22, 16), (22, 17), (22, 18), (22, 19), (22, 20), (3, 1), (3, 2), (27, 15), (27, 16), (27, 17), (27, 18), (27, 19), (27, 20), (27, 21), (27, 22), (27, 23), (24, 1), (24, 2), (24, 3), (24, 4), (39, 1), (32, 9), (32, 10), (32, 11), (25, 19), (25, 20), (25, 21), (28, 15), (28, 16), (41, 0), (41, 1), (41, 2), (41, 3), (41, 4), (41, 5), (41, 6), (48, 0), (48, 1), (48, 2), (48, 3), (48, 4), (48, 5), (46, 0), (46, 1), (46, 2), (46, 3), (46, 4), (46, 5), (46, 6), (46, 7), (46, 8), (46, 9), (46, 10), (46, 11), (46, 12), (46, 13), (46, 14), (46, 15), (46, 16), (45, 0), (45, 1), (45, 2), (45, 3), (45, 4), (50, 0), (50, 1), (50, 2), (50, 3), (50, 4), (50, 5), (50, 6), (50, 7), (50, 8)] rfl (by decide +kernel)
set_option maxRecDepth 20000 in
theorem gL_law_X9_stop : GoodIn wsL_law (wsV RL 90 RX9 yX9_stop wsX9_stop) := goodIn_app (goodIn_r2 chL chL_in _ [(38, 8), (38, 9), (38, 10), (0, 2)] rfl (by decide +kernel)) ggL_law_X9_stop
set_option maxRecDepth 20000 in
theorem ggL_law_X10_stop : GoodIn wsL_law wsX10_stop := goodIn_r2 chL chL_in _ [(39, 5), (6, 4), (23, 1), (29, 8), (29, 9), (29, 10), (0, 5), (29, 11), (6, 5), (6, 6), (6, 7), (39, 6), (39, 7), (39, 8), (39, 9), (18, 16), (4, 17), (39, 10), (39, 11), (39, 12), (32, 18), (32, 19), (32, 20), (32, 21), (29, 6), (29, 16), (29, 17), (29, 18), (29, 19), (4, 15), (29, 20), (29, 21), (29, 22), (29, 23), (30, 0), (30, 1), (30, 2), (29, 7), (23, 2), (5, 12), (30, 3), (30, 4), (30, 5), (30, 6), (30, 7), (5, 10), (30, 8), (30, 9), (30, 10), (30, 11), (5, 2), (23, 6), (23, 7), (23, 8), (23, 9), (23, 4), (4, 23), (5, 0), (5, 1), (5, 3), (5, 4), (23, 10), (23, 11), (23, 12), (23, 13), (23, 14), (23, 15), (23, 16), (23, 17), (4, 18), (4, 20), (30, 12), (30, 13), (30, 14), (30, 15), (30, 16), (30, 17), (24, 9), (24, 10), (24, 11), (30, 18), (30, 19), (30, 20), (30, 21), (5, 7), (30, 22), (30, 23), (5, 11), (5, 8), (5, 9), (31, 0), (31, 1), (31, 2), (31, 3), (42, 0), (42, 1), (42, 2), (42, 3), (42, 4), (42, 5), (42, 6), (42, 7), (42, 8), (42, 9), (42, 10), (42, 11), (42, 12), (42, 13), (42, 14), (42, 15), (42, 16), (42, 17), (42, 18), (42, 19), (42, 20), (42, 21), (42, 22), (42, 23), (42, 24), (42, 25), (42, 26), (42, 27), (42, 28), (42, 29), (42, 30), (42, 31), (42, 32), (42, 33), (42, 34), (42, 35), (42, 36), (42, 37), (42, 38), (42, 39)] rfl (by decide +kernel)
set_option maxRecDepth 20000 in
theorem gL_law_X10_stop : GoodIn wsL_law (wsV RL 93 RX10 yX10_stop wsX10_stop) := goodIn_app (goodIn_r2 chL chL_in _ [(39, 2), (39, 3), (39, 4), (0, 5)] rfl (by decide +kernel)) ggL_law_X10_stop
set_option maxRecDepth 20000 in
theorem ggL_law_X9_tooMuch : GoodIn wsL_law wsX9_tooMuch := goodIn_r2 chL chL_in _ [(39, 16), (1, 10), (1, 14), (0, 14), (35, 9), (35, 10), (35, 11), (1, 9), (35, 12), (35, 13), (35, 14), (4, 8), (35, 15), (4, 7), (35, 16), (35, 17), (35, 18), (35, 19), (35, 20), (35, 21), (35, 22), (35, 23), (36, 0), (36, 1), (36, 2), (36, 3), (36, 4), (36, 5), (25, 13), (0, 2), (25, 14), (32, 4), (32, 5), (32, 6), (32, 7), (1, 6), (25, 8), (25, 9), (25, 10), (25, 11), (25, 12), (26, 4), (26, 5), (26, 6), (1, 5), (26, 7), (3, 19), (26, 8), (26, 9), (26, 10), (26, 11), (26, 12), (26, 13), (26, 14), (26, 15), (26, 16), (32, 8), (32, 9), (32, 10), (32, 11), (27, 0), (32, 12), (32, 13), (25, 19), (25, 20), (25, 21), (25, 22), (25, 23), (26, 0), (26, 1), (26, 2), (26, 3), (27, 10), (27, 11), (27, 12), (27, 13), (3, 7), (3, 14), (3, 15), (3, 13), (27, 14), (21, 10), (21, 11), (1, 1), (21, 12), (21, 13), (21, 14), (21, 15), (21, 16), (21, 17), (21, 18), (21, 19), (21, 20), (21, 21), (21, 22), (21, 23), (22, 0), (22, 1), (22, 2), (22, 3), (8, 10), (8, 11), (8, 12), (22, 4), (22, 5), (22, 6), (22, 7), (22, 8), (22, 9), (22, 10), (22, 11), (22, 12), (22, 13), (22, 14), (22, 15), (22, 16), (22, 17), (22, 18), (22, 19), (22, 20), (3, 1), (3, 2), (27, 15), (27, 16), (27, 17), (27, 18), (27, 19), (27, 20), (27, 21), (27, 22), (27, 23), (24, 1), (24, 2), (24, 3), (24, 4), (10, 21), (10, 22), (28, 15), (28, 16), (41, 0), (41, 1), (41, 2), (41, 3), (41, 4), (41, 5), (41, 6), (48, 0), (48, 1), (48, 2), (48, 3), (48, 4), (48, 5), (47, 0), (47, 1), (47, 2), (50, 0), (50, 1), (50, 2), (50, 3), (50, 4), (50, 5), (50, 6), (50, 7), (50, 8), (46, 0), (46, 1), (46, 2), (46, 3), (46, 4), (46, 5), (46, 6), (46, 7), (46, 8), (46, 9), (46, 10), (46, 11), (46, 12), (46, 13), (46, 14), (46, 15), (46, 16), (45, 0), (45, 1), (45, 2), (45, 3), (45, 4)] rfl (by decide +kernel)
set_option maxRecDepth 20000 in
theorem gL_law_X9_tooMuch : GoodIn wsL_law (wsV RL 94 RX9 yX9_tooMuch wsX9_tooMuch) := goodIn_app (goodIn_r2 chL chL_in _ [(39, 13), (39, 14), (39, 15), (0, 2)] rfl (by decide +kernel)) ggL_law_X9_tooMuch
set_option maxRecDepth 20000 in
theorem ggL_law_X10_tooMuch : GoodIn wsL_law wsX10_tooMuch := goodIn_r2 chL chL_in _ [(39, 20), (6, 4), (18, 16), (23, 1), (36, 14), (36, 15), (36, 16), (0, 5), (36, 17), (4, 17), (4, 15), (36, 18), (36, 19), (36, 20), (36, 21), (4, 18), (5, 13), (6, 5), (6, 6), (6, 7), (36, 22), (36, 23), (37, 0), (37, 1), (29, 20), (29, 21), (29, 22), (32, 18), (32, 19), (32, 20), (32, 21), (29, 6), (29, 16), (29, 17), (29, 18), (29, 19), (29, 23), (30, 0), (30, 1), (30, 2), (29, 7), (23, 2), (5, 12), (30, 3), (30, 4), (30, 5), (30, 6), (30, 7), (5, 10), (30, 8), (30, 9), (30, 10), (30, 11), (5, 2), (23, 6), (23, 7), (23, 8), (23, 9), (23, 4), (4, 23), (5, 0), (5, 1), (5, 3), (5, 4), (23, 10), (23, 11), (23, 12), (23, 13), (23, 14), (23, 15), (23, 16), (23, 17), (4, 20), (30, 12), (30, 13), (30, 14), (30, 15), (30, 16), (30, 17), (24, 9), (24, 10), (24, 11), (30, 18), (30, 19), (30, 20), (30, 21), (5, 7), (30, 22), (30, 23), (5, 11), (5, 8), (5, 9), (31, 0), (31, 1), (31, 2), (31, 3), (42, 0), (42, 1), (42, 2), (42, 3), (42, 4), (42, 5), (42, 6), (42, 7), (42, 8), (42, 9), (42, 10), (42, 11), (42, 12), (42, 13), (42, 14), (42, 15), (42, 16), (42, 17), (42, 18), (42, 19), (42, 20), (42, 21), (42, 22), (42, 23), (42, 24), (42, 25), (42, 26), (42, 27), (42, 28), (42, 29), (42, 30), (42, 31), (42, 32), (42, 33), (42, 34), (42, 35), (42, 36), (42, 37), (42, 38), (42, 39)] rfl (by decide +kernel)
set_option maxRecDepth 20000 in
theorem gL_law_X10_tooMuch : GoodIn wsL_law (wsV RL 97 RX10 yX10_tooMuch wsX10_tooMuch) := goodIn_app (goodIn_r2 chL chL_in _ [(39, 17), (39, 18), (39, 19), (0, 5)] rfl (by decide +kernel)) ggL_law_X10_tooMuch
set_option maxRecDepth 20000 in
theorem ggL_law_X9_count : GoodIn wsL_law wsX9_count := goodIn_r2 chL chL_in _ [(40, 0), (1, 14), (7, 12), (38, 12), (0, 18), (6, 12), (40, 1), (40, 2), (40, 3), (0, 2), (40, 4), (0, 14), (41, 0), (41, 1), (41, 2), (41, 3), (41, 4), (41, 5), (41, 6), (48, 0), (48, 1), (48, 2), (48, 3), (48, 4), (48, 5), (43, 0), (43, 1)] rfl (by decide +kernel)
set_option maxRecDepth 20000 in
theorem gL_law_X9_count : GoodIn wsL_law (wsV RL 98 RX9 yX9_count wsX9_count) := goodIn_app (goodIn_r2 chL chL_in _ [(39, 21), (39, 22), (39, 23), (0, 2)] rfl (by decide +kernel)) ggL_law_X9_count
set_option maxRecDepth 20000 in
theorem ggL_law_X10_count : GoodIn wsL_law wsX10_count := goodIn_r2 chL chL_in _ [(40, 8), (6, 4), (4, 15), (18, 16), (6, 22), (39, 6), (39, 7), (39, 8), (0, 5), (39, 9), (4, 17), (6, 5), (6, 6), (6, 7), (42, 0), (42, 1), (42, 2), (42, 3), (42, 4), (42, 5), (42, 6), (42, 7), (42, 8), (42, 9), (42, 10), (42, 11), (42, 12), (42, 13), (42, 14), (42, 15), (42, 16), (42, 17), (42, 18), (42, 19), (42, 20), (42, 21), (42, 22), (42, 23), (42, 24), (42, 25), (42, 26), (42, 27), (42, 28), (42, 29), (42, 30), (42, 31), (42, 32), (42, 33), (42, 34), (42, 35), (42, 36), (42, 37), (42, 38), (42, 39)] rfl (by decide +kernel)
set_option maxRecDepth 20000 in
theorem gL_law_X10_count : GoodIn wsL_law (wsV RL 101 RX10 yX10_count wsX10_count) := goodIn_app (goodIn_r2 chL chL_in _ [(40, 5), (40, 6), (40, 7), (0, 5)] rfl (by decide +kernel)) ggL_law_X10_count
