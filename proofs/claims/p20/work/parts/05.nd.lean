theorem dX7_advance_0 : decode cX7_advance 0 = .ok (.aload_n 0, 1) := by decide +kernel
theorem dX7_advance_1 : decode cX7_advance 1 = .ok (.getfield 65, 3) := by decide +kernel
theorem dX7_advance_4 : decode cX7_advance 4 = .ok (.iconst 1, 1) := by decide +kernel
theorem dX7_advance_5 : decode cX7_advance 5 = .ok (.iadd, 1) := by decide +kernel
theorem dX7_advance_6 : decode cX7_advance 6 = .ok (.aload_n 0, 1) := by decide +kernel
theorem dX7_advance_7 : decode cX7_advance 7 = .ok (.getfield 21, 3) := by decide +kernel
theorem dX7_advance_10 : decode cX7_advance 10 = .ok (.if_icmp .lt 4, 3) := by decide +kernel
theorem dX7_advance_13 : decode cX7_advance 13 = .ok (.return_, 1) := by decide +kernel
theorem dX7_advance_14 : decode cX7_advance 14 = .ok (.aload_n 0, 1) := by decide +kernel
theorem dX7_advance_15 : decode cX7_advance 15 = .ok (.dup, 1) := by decide +kernel
theorem dX7_advance_16 : decode cX7_advance 16 = .ok (.getfield 65, 3) := by decide +kernel
theorem dX7_advance_19 : decode cX7_advance 19 = .ok (.iconst 1, 1) := by decide +kernel
theorem dX7_advance_20 : decode cX7_advance 20 = .ok (.iadd, 1) := by decide +kernel
theorem dX7_advance_21 : decode cX7_advance 21 = .ok (.putfield 65, 3) := by decide +kernel
theorem dX7_advance_24 : decode cX7_advance 24 = .ok (.aload_n 0, 1) := by decide +kernel
theorem dX7_advance_25 : decode cX7_advance 25 = .ok (.aload_n 0, 1) := by decide +kernel
theorem dX7_advance_26 : decode cX7_advance 26 = .ok (.getfield 9, 3) := by decide +kernel
theorem dX7_advance_29 : decode cX7_advance 29 = .ok (.aload_n 0, 1) := by decide +kernel
theorem dX7_advance_30 : decode cX7_advance 30 = .ok (.getfield 65, 3) := by decide +kernel
theorem dX7_advance_33 : decode cX7_advance 33 = .ok (.iaload, 1) := by decide +kernel
theorem dX7_advance_34 : decode cX7_advance 34 = .ok (.putfield 70, 3) := by decide +kernel
theorem dX7_advance_37 : decode cX7_advance 37 = .ok (.aload_n 0, 1) := by decide +kernel
theorem dX7_advance_38 : decode cX7_advance 38 = .ok (.aload_n 0, 1) := by decide +kernel
theorem dX7_advance_39 : decode cX7_advance 39 = .ok (.getfield 15, 3) := by decide +kernel
theorem dX7_advance_42 : decode cX7_advance 42 = .ok (.aload_n 0, 1) := by decide +kernel
theorem dX7_advance_43 : decode cX7_advance 43 = .ok (.getfield 65, 3) := by decide +kernel
theorem dX7_advance_46 : decode cX7_advance 46 = .ok (.iaload, 1) := by decide +kernel
theorem dX7_advance_47 : decode cX7_advance 47 = .ok (.putfield 73, 3) := by decide +kernel
theorem dX7_advance_50 : decode cX7_advance 50 = .ok (.aload_n 0, 1) := by decide +kernel
theorem dX7_advance_51 : decode cX7_advance 51 = .ok (.aload_n 0, 1) := by decide +kernel
theorem dX7_advance_52 : decode cX7_advance 52 = .ok (.getfield 18, 3) := by decide +kernel
theorem dX7_advance_55 : decode cX7_advance 55 = .ok (.aload_n 0, 1) := by decide +kernel
theorem dX7_advance_56 : decode cX7_advance 56 = .ok (.getfield 65, 3) := by decide +kernel
theorem dX7_advance_59 : decode cX7_advance 59 = .ok (.iaload, 1) := by decide +kernel
theorem dX7_advance_60 : decode cX7_advance 60 = .ok (.putfield 76, 3) := by decide +kernel
theorem dX7_advance_63 : decode cX7_advance 63 = .ok (.return_, 1) := by decide +kernel
theorem dX7_add_0 : decode cX7_add 0 = .ok (.aload_n 0, 1) := by decide +kernel
theorem dX7_add_1 : decode cX7_add 1 = .ok (.getfield 21, 3) := by decide +kernel
theorem dX7_add_4 : decode cX7_add 4 = .ok (.aload_n 0, 1) := by decide +kernel
theorem dX7_add_5 : decode cX7_add 5 = .ok (.getfield 9, 3) := by decide +kernel
theorem dX7_add_8 : decode cX7_add 8 = .ok (.arraylength, 1) := by decide +kernel
theorem dX7_add_9 : decode cX7_add 9 = .ok (.if_icmp .lt 4, 3) := by decide +kernel
theorem dX7_add_12 : decode cX7_add 12 = .ok (.return_, 1) := by decide +kernel
theorem dX7_add_13 : decode cX7_add 13 = .ok (.aload_n 0, 1) := by decide +kernel
theorem dX7_add_14 : decode cX7_add 14 = .ok (.getfield 9, 3) := by decide +kernel
theorem dX7_add_17 : decode cX7_add 17 = .ok (.aload_n 0, 1) := by decide +kernel
theorem dX7_add_18 : decode cX7_add 18 = .ok (.getfield 21, 3) := by decide +kernel
theorem dX7_add_21 : decode cX7_add 21 = .ok (.iload_n 1, 1) := by decide +kernel
theorem dX7_add_22 : decode cX7_add 22 = .ok (.iastore, 1) := by decide +kernel
theorem dX7_add_23 : decode cX7_add 23 = .ok (.aload_n 0, 1) := by decide +kernel
theorem dX7_add_24 : decode cX7_add 24 = .ok (.getfield 15, 3) := by decide +kernel
theorem dX7_add_27 : decode cX7_add 27 = .ok (.aload_n 0, 1) := by decide +kernel
theorem dX7_add_28 : decode cX7_add 28 = .ok (.getfield 21, 3) := by decide +kernel
theorem dX7_add_31 : decode cX7_add 31 = .ok (.iload_n 2, 1) := by decide +kernel
theorem dX7_add_32 : decode cX7_add 32 = .ok (.iastore, 1) := by decide +kernel
theorem dX7_add_33 : decode cX7_add 33 = .ok (.aload_n 0, 1) := by decide +kernel
theorem dX7_add_34 : decode cX7_add 34 = .ok (.getfield 18, 3) := by decide +kernel
theorem dX7_add_37 : decode cX7_add 37 = .ok (.aload_n 0, 1) := by decide +kernel
theorem dX7_add_38 : decode cX7_add 38 = .ok (.getfield 21, 3) := by decide +kernel
theorem dX7_add_41 : decode cX7_add 41 = .ok (.iload_n 3, 1) := by decide +kernel
theorem dX7_add_42 : decode cX7_add 42 = .ok (.iastore, 1) := by decide +kernel
theorem dX7_add_43 : decode cX7_add 43 = .ok (.aload_n 0, 1) := by decide +kernel
theorem dX7_add_44 : decode cX7_add 44 = .ok (.dup, 1) := by decide +kernel
theorem dX7_add_45 : decode cX7_add 45 = .ok (.getfield 21, 3) := by decide +kernel
theorem dX7_add_48 : decode cX7_add 48 = .ok (.iconst 1, 1) := by decide +kernel
theorem dX7_add_49 : decode cX7_add 49 = .ok (.iadd, 1) := by decide +kernel
theorem dX7_add_50 : decode cX7_add 50 = .ok (.putfield 21, 3) := by decide +kernel
theorem dX7_add_53 : decode cX7_add 53 = .ok (.return_, 1) := by decide +kernel
set_option maxRecDepth 20000 in
theorem ggX7_takeWord_X6_at : GoodIn wsX7_takeWord wsX6_at := goodIn_r _ [6, 7, 8, 24, 25] rfl (by decide +kernel)
set_option maxRecDepth 20000 in
theorem gX7_takeWord_X6_at : GoodIn wsX7_takeWord (wsV RX7 30 RX6 yX6_at wsX6_at) := goodIn_app (goodIn_r _ [2, 3, 4, 5] rfl (by decide +kernel)) ggX7_takeWord_X6_at
set_option maxRecDepth 20000 in
theorem ggX7_takeWord_X7_isLetter : GoodIn wsX7_takeWord wsX7_isLetter := goodIn_r _ [12] rfl (by decide +kernel)
set_option maxRecDepth 20000 in
theorem gX7_takeWord_X7_isLetter : GoodIn wsX7_takeWord (va_wsS RX7 34 yX7_isLetter wsX7_isLetter) := goodIn_app (goodIn_r _ [9, 10, 11] rfl (by decide +kernel)) ggX7_takeWord_X7_isLetter
set_option maxRecDepth 20000 in
theorem ggX7_takeWord_X7_add : GoodIn wsX7_takeWord wsX7_add := goodIn_r _ [16, 17, 18, 19, 20, 26, 27, 28, 29, 30, 31, 32, 33] rfl (by decide +kernel)
set_option maxRecDepth 20000 in
theorem gX7_takeWord_X7_add : GoodIn wsX7_takeWord (wsV RX7 55 RX7 yX7_add wsX7_add) := goodIn_app (goodIn_r _ [13, 14, 15, 11] rfl (by decide +kernel)) ggX7_takeWord_X7_add
set_option maxRecDepth 20000 in
theorem ggX7_takeWord_X7_wordKind : GoodIn wsX7_takeWord wsX7_wordKind := goodIn_r _ [23] rfl (by decide +kernel)
set_option maxRecDepth 20000 in
theorem gX7_takeWord_X7_wordKind : GoodIn wsX7_takeWord (va_wsS RX7 79 yX7_wordKind wsX7_wordKind) := goodIn_app (goodIn_r _ [21, 22, 11] rfl (by decide +kernel)) ggX7_takeWord_X7_wordKind
theorem dX7_takeWord_0 : decode cX7_takeWord 0 = .ok (.iload_n 2, 1) := by decide +kernel
theorem dX7_takeWord_1 : decode cX7_takeWord 1 = .ok (.istore_n 3, 1) := by decide +kernel
theorem dX7_takeWord_2 : decode cX7_takeWord 2 = .ok (.iconst 0, 1) := by decide +kernel
theorem dX7_takeWord_3 : decode cX7_takeWord 3 = .ok (.istore 4, 2) := by decide +kernel
theorem dX7_takeWord_5 : decode cX7_takeWord 5 = .ok (.iload_n 3, 1) := by decide +kernel
theorem dX7_takeWord_6 : decode cX7_takeWord 6 = .ok (.aload_n 1, 1) := by decide +kernel
theorem dX7_takeWord_7 : decode cX7_takeWord 7 = .ok (.getfield 25, 3) := by decide +kernel
theorem dX7_takeWord_10 : decode cX7_takeWord 10 = .ok (.if_icmp .ge 33, 3) := by decide +kernel
theorem dX7_takeWord_13 : decode cX7_takeWord 13 = .ok (.aload_n 1, 1) := by decide +kernel
theorem dX7_takeWord_14 : decode cX7_takeWord 14 = .ok (.iload_n 3, 1) := by decide +kernel
theorem dX7_takeWord_15 : decode cX7_takeWord 15 = .ok (.invokevirtual 30, 3) := by decide +kernel
theorem dX7_takeWord_18 : decode cX7_takeWord 18 = .ok (.invokestatic 34, 3) := by decide +kernel
theorem dX7_takeWord_21 : decode cX7_takeWord 21 = .ok (.ifCond .eq 22, 3) := by decide +kernel
theorem dX7_takeWord_24 : decode cX7_takeWord 24 = .ok (.iload 4, 2) := by decide +kernel
theorem dX7_takeWord_26 : decode cX7_takeWord 26 = .ok (.bipush 8, 2) := by decide +kernel
theorem dX7_takeWord_28 : decode cX7_takeWord 28 = .ok (.ishl, 1) := by decide +kernel
theorem dX7_takeWord_29 : decode cX7_takeWord 29 = .ok (.aload_n 1, 1) := by decide +kernel
theorem dX7_takeWord_30 : decode cX7_takeWord 30 = .ok (.iload_n 3, 1) := by decide +kernel
theorem dX7_takeWord_31 : decode cX7_takeWord 31 = .ok (.invokevirtual 30, 3) := by decide +kernel
theorem dX7_takeWord_34 : decode cX7_takeWord 34 = .ok (.ior, 1) := by decide +kernel
theorem dX7_takeWord_35 : decode cX7_takeWord 35 = .ok (.istore 4, 2) := by decide +kernel
theorem dX7_takeWord_37 : decode cX7_takeWord 37 = .ok (.iinc 3 1, 3) := by decide +kernel
theorem dX7_takeWord_40 : decode cX7_takeWord 40 = .ok (.goto (-35), 3) := by decide +kernel
theorem dX7_takeWord_43 : decode cX7_takeWord 43 = .ok (.iload_n 3, 1) := by decide +kernel
theorem dX7_takeWord_44 : decode cX7_takeWord 44 = .ok (.iload_n 2, 1) := by decide +kernel
theorem dX7_takeWord_45 : decode cX7_takeWord 45 = .ok (.iconst 1, 1) := by decide +kernel
theorem dX7_takeWord_46 : decode cX7_takeWord 46 = .ok (.iadd, 1) := by decide +kernel
theorem dX7_takeWord_47 : decode cX7_takeWord 47 = .ok (.if_icmp .ne 31, 3) := by decide +kernel
theorem dX7_takeWord_50 : decode cX7_takeWord 50 = .ok (.iload 4, 2) := by decide +kernel
theorem dX7_takeWord_52 : decode cX7_takeWord 52 = .ok (.bipush 97, 2) := by decide +kernel
theorem dX7_takeWord_54 : decode cX7_takeWord 54 = .ok (.if_icmp .lt 24, 3) := by decide +kernel
theorem dX7_takeWord_57 : decode cX7_takeWord 57 = .ok (.iload 4, 2) := by decide +kernel
theorem dX7_takeWord_59 : decode cX7_takeWord 59 = .ok (.bipush 103, 2) := by decide +kernel
theorem dX7_takeWord_61 : decode cX7_takeWord 61 = .ok (.if_icmp .ge 17, 3) := by decide +kernel
theorem dX7_takeWord_64 : decode cX7_takeWord 64 = .ok (.aload_n 0, 1) := by decide +kernel
theorem dX7_takeWord_65 : decode cX7_takeWord 65 = .ok (.iconst 2, 1) := by decide +kernel
theorem dX7_takeWord_66 : decode cX7_takeWord 66 = .ok (.iload 4, 2) := by decide +kernel
theorem dX7_takeWord_68 : decode cX7_takeWord 68 = .ok (.bipush 97, 2) := by decide +kernel
theorem dX7_takeWord_70 : decode cX7_takeWord 70 = .ok (.isub, 1) := by decide +kernel
theorem dX7_takeWord_71 : decode cX7_takeWord 71 = .ok (.iload_n 2, 1) := by decide +kernel
theorem dX7_takeWord_72 : decode cX7_takeWord 72 = .ok (.invokevirtual 55, 3) := by decide +kernel
theorem dX7_takeWord_75 : decode cX7_takeWord 75 = .ok (.goto 25, 3) := by decide +kernel
theorem dX7_takeWord_78 : decode cX7_takeWord 78 = .ok (.aload_n 0, 1) := by decide +kernel
theorem dX7_takeWord_79 : decode cX7_takeWord 79 = .ok (.iload_n 3, 1) := by decide +kernel
theorem dX7_takeWord_80 : decode cX7_takeWord 80 = .ok (.iload_n 2, 1) := by decide +kernel
theorem dX7_takeWord_81 : decode cX7_takeWord 81 = .ok (.isub, 1) := by decide +kernel
theorem dX7_takeWord_82 : decode cX7_takeWord 82 = .ok (.iconst 4, 1) := by decide +kernel
theorem dX7_takeWord_83 : decode cX7_takeWord 83 = .ok (.if_icmp .le 7, 3) := by decide +kernel
theorem dX7_takeWord_86 : decode cX7_takeWord 86 = .ok (.iconst 1, 1) := by decide +kernel
theorem dX7_takeWord_87 : decode cX7_takeWord 87 = .ok (.goto 8, 3) := by decide +kernel
theorem dX7_takeWord_90 : decode cX7_takeWord 90 = .ok (.iload 4, 2) := by decide +kernel
theorem dX7_takeWord_92 : decode cX7_takeWord 92 = .ok (.invokestatic 79, 3) := by decide +kernel
theorem dX7_takeWord_95 : decode cX7_takeWord 95 = .ok (.iconst 0, 1) := by decide +kernel
theorem dX7_takeWord_96 : decode cX7_takeWord 96 = .ok (.iload_n 2, 1) := by decide +kernel
theorem dX7_takeWord_97 : decode cX7_takeWord 97 = .ok (.invokevirtual 55, 3) := by decide +kernel
theorem dX7_takeWord_100 : decode cX7_takeWord 100 = .ok (.iload_n 3, 1) := by decide +kernel
theorem dX7_takeWord_101 : decode cX7_takeWord 101 = .ok (.ireturn, 1) := by decide +kernel
theorem dX7_wordKind_0 : decode cX7_wordKind 0 = .ok (.iload_n 0, 1) := by decide +kernel
theorem dX7_wordKind_1 : decode cX7_wordKind 1 = .ok (.lookupswitch 53 #[(26982, 45), (7304564, 43), (1701606245, 47), (1819242352, 50)], 43) := by decide +kernel
theorem dX7_wordKind_44 : decode cX7_wordKind 44 = .ok (.iconst 4, 1) := by decide +kernel
theorem dX7_wordKind_45 : decode cX7_wordKind 45 = .ok (.ireturn, 1) := by decide +kernel
theorem dX7_wordKind_46 : decode cX7_wordKind 46 = .ok (.iconst 5, 1) := by decide +kernel
theorem dX7_wordKind_47 : decode cX7_wordKind 47 = .ok (.ireturn, 1) := by decide +kernel
theorem dX7_wordKind_48 : decode cX7_wordKind 48 = .ok (.bipush 6, 2) := by decide +kernel
theorem dX7_wordKind_50 : decode cX7_wordKind 50 = .ok (.ireturn, 1) := by decide +kernel
theorem dX7_wordKind_51 : decode cX7_wordKind 51 = .ok (.bipush 7, 2) := by decide +kernel
theorem dX7_wordKind_53 : decode cX7_wordKind 53 = .ok (.ireturn, 1) := by decide +kernel
theorem dX7_wordKind_54 : decode cX7_wordKind 54 = .ok (.iconst 1, 1) := by decide +kernel
theorem dX7_wordKind_55 : decode cX7_wordKind 55 = .ok (.ireturn, 1) := by decide +kernel
set_option maxRecDepth 20000 in
theorem ggX7_takeNumber_X6_at : GoodIn wsX7_takeNumber wsX6_at := goodIn_r _ [6, 7, 8, 21, 22] rfl (by decide +kernel)
set_option maxRecDepth 20000 in
theorem gX7_takeNumber_X6_at : GoodIn wsX7_takeNumber (wsV RX7 30 RX6 yX6_at wsX6_at) := goodIn_app (goodIn_r _ [2, 3, 4, 5] rfl (by decide +kernel)) ggX7_takeNumber_X6_at
set_option maxRecDepth 20000 in
theorem ggX7_takeNumber_X7_isFigure : GoodIn wsX7_takeNumber wsX7_isFigure := goodIn_r _ [12] rfl (by decide +kernel)
set_option maxRecDepth 20000 in
theorem gX7_takeNumber_X7_isFigure : GoodIn wsX7_takeNumber (va_wsS RX7 42 yX7_isFigure wsX7_isFigure) := goodIn_app (goodIn_r _ [9, 10, 11] rfl (by decide +kernel)) ggX7_takeNumber_X7_isFigure
set_option maxRecDepth 20000 in
theorem ggX7_takeNumber_X7_add : GoodIn wsX7_takeNumber wsX7_add := goodIn_r _ [16, 17, 18, 19, 20, 23, 24, 25, 26, 27, 28, 29, 30] rfl (by decide +kernel)
set_option maxRecDepth 20000 in
theorem gX7_takeNumber_X7_add : GoodIn wsX7_takeNumber (wsV RX7 55 RX7 yX7_add wsX7_add) := goodIn_app (goodIn_r _ [13, 14, 15, 11] rfl (by decide +kernel)) ggX7_takeNumber_X7_add
theorem dX7_takeNumber_0 : decode cX7_takeNumber 0 = .ok (.iload_n 2, 1) := by decide +kernel
theorem dX7_takeNumber_1 : decode cX7_takeNumber 1 = .ok (.istore_n 3, 1) := by decide +kernel
theorem dX7_takeNumber_2 : decode cX7_takeNumber 2 = .ok (.iload_n 3, 1) := by decide +kernel
theorem dX7_takeNumber_3 : decode cX7_takeNumber 3 = .ok (.aload_n 1, 1) := by decide +kernel
theorem dX7_takeNumber_4 : decode cX7_takeNumber 4 = .ok (.getfield 25, 3) := by decide +kernel
theorem dX7_takeNumber_7 : decode cX7_takeNumber 7 = .ok (.if_icmp .ge 20, 3) := by decide +kernel
theorem dX7_takeNumber_10 : decode cX7_takeNumber 10 = .ok (.aload_n 1, 1) := by decide +kernel
theorem dX7_takeNumber_11 : decode cX7_takeNumber 11 = .ok (.iload_n 3, 1) := by decide +kernel
theorem dX7_takeNumber_12 : decode cX7_takeNumber 12 = .ok (.invokevirtual 30, 3) := by decide +kernel
theorem dX7_takeNumber_15 : decode cX7_takeNumber 15 = .ok (.invokestatic 42, 3) := by decide +kernel
theorem dX7_takeNumber_18 : decode cX7_takeNumber 18 = .ok (.ifCond .eq 9, 3) := by decide +kernel
theorem dX7_takeNumber_21 : decode cX7_takeNumber 21 = .ok (.iinc 3 1, 3) := by decide +kernel
theorem dX7_takeNumber_24 : decode cX7_takeNumber 24 = .ok (.goto (-22), 3) := by decide +kernel
theorem dX7_takeNumber_27 : decode cX7_takeNumber 27 = .ok (.aload_n 0, 1) := by decide +kernel
theorem dX7_takeNumber_28 : decode cX7_takeNumber 28 = .ok (.iload_n 3, 1) := by decide +kernel
theorem dX7_takeNumber_29 : decode cX7_takeNumber 29 = .ok (.iload_n 2, 1) := by decide +kernel
theorem dX7_takeNumber_30 : decode cX7_takeNumber 30 = .ok (.iconst 1, 1) := by decide +kernel
theorem dX7_takeNumber_31 : decode cX7_takeNumber 31 = .ok (.iadd, 1) := by decide +kernel
theorem dX7_takeNumber_32 : decode cX7_takeNumber 32 = .ok (.if_icmp .ne 7, 3) := by decide +kernel
theorem dX7_takeNumber_35 : decode cX7_takeNumber 35 = .ok (.iconst 3, 1) := by decide +kernel
theorem dX7_takeNumber_36 : decode cX7_takeNumber 36 = .ok (.goto 4, 3) := by decide +kernel
theorem dX7_takeNumber_39 : decode cX7_takeNumber 39 = .ok (.iconst 1, 1) := by decide +kernel
theorem dX7_takeNumber_40 : decode cX7_takeNumber 40 = .ok (.aload_n 1, 1) := by decide +kernel
theorem dX7_takeNumber_41 : decode cX7_takeNumber 41 = .ok (.iload_n 2, 1) := by decide +kernel
theorem dX7_takeNumber_42 : decode cX7_takeNumber 42 = .ok (.invokevirtual 30, 3) := by decide +kernel
theorem dX7_takeNumber_45 : decode cX7_takeNumber 45 = .ok (.bipush 48, 2) := by decide +kernel
theorem dX7_takeNumber_47 : decode cX7_takeNumber 47 = .ok (.isub, 1) := by decide +kernel
theorem dX7_takeNumber_48 : decode cX7_takeNumber 48 = .ok (.iload_n 2, 1) := by decide +kernel
theorem dX7_takeNumber_49 : decode cX7_takeNumber 49 = .ok (.invokevirtual 55, 3) := by decide +kernel
theorem dX7_takeNumber_52 : decode cX7_takeNumber 52 = .ok (.iload_n 3, 1) := by decide +kernel
theorem dX7_takeNumber_53 : decode cX7_takeNumber 53 = .ok (.ireturn, 1) := by decide +kernel
theorem dX7_isLetter_0 : decode cX7_isLetter 0 = .ok (.iload_n 0, 1) := by decide +kernel
theorem dX7_isLetter_1 : decode cX7_isLetter 1 = .ok (.bipush 97, 2) := by decide +kernel
theorem dX7_isLetter_3 : decode cX7_isLetter 3 = .ok (.if_icmp .lt 9, 3) := by decide +kernel
theorem dX7_isLetter_6 : decode cX7_isLetter 6 = .ok (.iload_n 0, 1) := by decide +kernel
theorem dX7_isLetter_7 : decode cX7_isLetter 7 = .ok (.bipush 122, 2) := by decide +kernel
theorem dX7_isLetter_9 : decode cX7_isLetter 9 = .ok (.if_icmp .le 15, 3) := by decide +kernel
theorem dX7_isLetter_12 : decode cX7_isLetter 12 = .ok (.iload_n 0, 1) := by decide +kernel
theorem dX7_isLetter_13 : decode cX7_isLetter 13 = .ok (.bipush 65, 2) := by decide +kernel
theorem dX7_isLetter_15 : decode cX7_isLetter 15 = .ok (.if_icmp .lt 13, 3) := by decide +kernel
theorem dX7_isLetter_18 : decode cX7_isLetter 18 = .ok (.iload_n 0, 1) := by decide +kernel
theorem dX7_isLetter_19 : decode cX7_isLetter 19 = .ok (.bipush 90, 2) := by decide +kernel
theorem dX7_isLetter_21 : decode cX7_isLetter 21 = .ok (.if_icmp .gt 7, 3) := by decide +kernel
theorem dX7_isLetter_24 : decode cX7_isLetter 24 = .ok (.iconst 1, 1) := by decide +kernel
theorem dX7_isLetter_25 : decode cX7_isLetter 25 = .ok (.goto 4, 3) := by decide +kernel
theorem dX7_isLetter_28 : decode cX7_isLetter 28 = .ok (.iconst 0, 1) := by decide +kernel
theorem dX7_isLetter_29 : decode cX7_isLetter 29 = .ok (.ireturn, 1) := by decide +kernel
theorem dX7_isFigure_0 : decode cX7_isFigure 0 = .ok (.iload_n 0, 1) := by decide +kernel
theorem dX7_isFigure_1 : decode cX7_isFigure 1 = .ok (.bipush 48, 2) := by decide +kernel
theorem dX7_isFigure_3 : decode cX7_isFigure 3 = .ok (.if_icmp .lt 13, 3) := by decide +kernel
theorem dX7_isFigure_6 : decode cX7_isFigure 6 = .ok (.iload_n 0, 1) := by decide +kernel
theorem dX7_isFigure_7 : decode cX7_isFigure 7 = .ok (.bipush 57, 2) := by decide +kernel
theorem dX7_isFigure_9 : decode cX7_isFigure 9 = .ok (.if_icmp .gt 7, 3) := by decide +kernel
theorem dX7_isFigure_12 : decode cX7_isFigure 12 = .ok (.iconst 1, 1) := by decide +kernel
theorem dX7_isFigure_13 : decode cX7_isFigure 13 = .ok (.goto 4, 3) := by decide +kernel
theorem dX7_isFigure_16 : decode cX7_isFigure 16 = .ok (.iconst 0, 1) := by decide +kernel
theorem dX7_isFigure_17 : decode cX7_isFigure 17 = .ok (.ireturn, 1) := by decide +kernel
theorem chIwsX8_init_0 : ∀ w ∈ ([.code yX8_init cX8_init 1 none] : List Cond), w ∈ wsX8_init := fun _ h => (List.mem_cons.mpr (Or.inl (List.mem_singleton.mp h)))
theorem chIwsX8_init_1 : ∀ w ∈ (wsX8_init_r1 : List Cond), w ∈ wsX8_init := fun _ h => (List.mem_cons_of_mem _ (List.mem_append_left _ (List.mem_append_left _ (List.mem_append_left _ (List.mem_append_left _ (List.mem_append_left _ (List.mem_append_left _ h)))))))
theorem chIwsX8_init_2 : ∀ w ∈ (wsX8_init_r2 : List Cond), w ∈ wsX8_init := fun _ h => (List.mem_cons_of_mem _ (List.mem_append_left _ (List.mem_append_left _ (List.mem_append_left _ (List.mem_append_left _ (List.mem_append_left _ (List.mem_append_right _ h)))))))
theorem chIwsX8_init_3 : ∀ w ∈ (wsX20 : List Cond), w ∈ wsX8_init := fun _ h => (List.mem_cons_of_mem _ (List.mem_append_left _ (List.mem_append_left _ (List.mem_append_left _ (List.mem_append_left _ (List.mem_append_right _ h))))))
theorem chIwsX8_init_4 : ∀ w ∈ (wsX80 : List Cond), w ∈ wsX8_init := fun _ h => (List.mem_cons_of_mem _ (List.mem_append_left _ (List.mem_append_left _ (List.mem_append_left _ (List.mem_append_right _ h)))))
theorem chIwsX8_init_5 : ∀ w ∈ (wsX10 : List Cond), w ∈ wsX8_init := fun _ h => (List.mem_cons_of_mem _ (List.mem_append_left _ (List.mem_append_left _ (List.mem_append_right _ h))))
theorem chIwsX8_init_6 : ∀ w ∈ (wsX40 : List Cond), w ∈ wsX8_init := fun _ h => (List.mem_cons_of_mem _ (List.mem_append_left _ (List.mem_append_right _ h)))
theorem chIwsX8_init_7 : ∀ w ∈ (wsX50 : List Cond), w ∈ wsX8_init := fun _ h => (List.mem_cons_of_mem _ (List.mem_append_right _ h))
def chwsX8_init : Nat → List Cond
  | 0 => [.code yX8_init cX8_init 1 none]
  | 1 => wsX8_init_r1
  | 2 => wsX8_init_r2
  | 3 => wsX20
  | 4 => wsX80
  | 5 => wsX10
  | 6 => wsX40
  | 7 => wsX50
  | _ => []
theorem chwsX8_init_in : ∀ (j : Nat) (w : Cond), w ∈ chwsX8_init j → w ∈ wsX8_init
  | 0, w, h => chIwsX8_init_0 w h
  | 1, w, h => chIwsX8_init_1 w h
  | 2, w, h => chIwsX8_init_2 w h
  | 3, w, h => chIwsX8_init_3 w h
  | 4, w, h => chIwsX8_init_4 w h
  | 5, w, h => chIwsX8_init_5 w h
  | 6, w, h => chIwsX8_init_6 w h
  | 7, w, h => chIwsX8_init_7 w h
  | _ + 8, _, h => absurd h List.not_mem_nil
set_option maxRecDepth 20000 in
theorem ggX8_init_X2_init : GoodIn wsX8_init wsX2_init := goodIn_r2 chwsX8_init chwsX8_init_in _ [(1, 23), (2, 0), (1, 1), (1, 2), (1, 13), (2, 1), (2, 2), (3, 0), (3, 1), (3, 2), (3, 3), (3, 4)] rfl (by decide +kernel)
set_option maxRecDepth 20000 in
theorem gX8_init_X2_init_n13 : GoodIn wsX8_init (wsX2_init) := ggX8_init_X2_init
set_option maxRecDepth 20000 in
theorem ggX8_init_X1_init : GoodIn wsX8_init wsX1_init := goodIn_r2 chwsX8_init chwsX8_init_in _ [(2, 4), (2, 5), (1, 1), (1, 2), (1, 11), (2, 6), (2, 7), (1, 13), (2, 8), (2, 9), (5, 0), (5, 1), (5, 2), (5, 3), (5, 4), (5, 5), (5, 6)] rfl (by decide +kernel)
set_option maxRecDepth 20000 in
theorem gX8_init_X1_init_n20 : GoodIn wsX8_init (wsX1_init) := ggX8_init_X1_init
set_option maxRecDepth 20000 in
theorem ggX8_init_X4_init : GoodIn wsX8_init wsX4_init := goodIn_r2 chwsX8_init chwsX8_init_in _ [(2, 12), (2, 13), (1, 1), (1, 2), (2, 14), (2, 15), (1, 13), (2, 16), (2, 17), (2, 18), (2, 19), (2, 20), (2, 21), (6, 0), (6, 1), (6, 2), (6, 3), (6, 4), (6, 5), (7, 0), (7, 1), (7, 2), (7, 3), (7, 4), (7, 5), (7, 6), (7, 7), (7, 8)] rfl (by decide +kernel)
set_option maxRecDepth 20000 in
theorem gX8_init_X4_init : GoodIn wsX8_init (wsX4_init) := ggX8_init_X4_init
theorem dX8_init_0 : decode cX8_init 0 = .ok (.aload_n 0, 1) := by decide +kernel
theorem dX8_init_1 : decode cX8_init 1 = .ok (.invokespecial 5, 3) := by decide +kernel
theorem dX8_init_4 : decode cX8_init 4 = .ok (.aload_n 0, 1) := by decide +kernel
theorem dX8_init_5 : decode cX8_init 5 = .ok (.new 11, 3) := by decide +kernel
theorem dX8_init_8 : decode cX8_init 8 = .ok (.dup, 1) := by decide +kernel
theorem dX8_init_9 : decode cX8_init 9 = .ok (.invokespecial 13, 3) := by decide +kernel
theorem dX8_init_12 : decode cX8_init 12 = .ok (.putfield 14, 3) := by decide +kernel
theorem dX8_init_15 : decode cX8_init 15 = .ok (.aload_n 0, 1) := by decide +kernel
theorem dX8_init_16 : decode cX8_init 16 = .ok (.new 18, 3) := by decide +kernel
theorem dX8_init_19 : decode cX8_init 19 = .ok (.dup, 1) := by decide +kernel
theorem dX8_init_20 : decode cX8_init 20 = .ok (.invokespecial 20, 3) := by decide +kernel
theorem dX8_init_23 : decode cX8_init 23 = .ok (.putfield 21, 3) := by decide +kernel
theorem dX8_init_26 : decode cX8_init 26 = .ok (.aload_n 0, 1) := by decide +kernel
theorem dX8_init_27 : decode cX8_init 27 = .ok (.sipush 16384, 3) := by decide +kernel
theorem dX8_init_30 : decode cX8_init 30 = .ok (.newarray .long, 2) := by decide +kernel
theorem dX8_init_32 : decode cX8_init 32 = .ok (.putfield 25, 3) := by decide +kernel
theorem dX8_init_35 : decode cX8_init 35 = .ok (.aload_n 0, 1) := by decide +kernel
theorem dX8_init_36 : decode cX8_init 36 = .ok (.sipush 4096, 3) := by decide +kernel
theorem dX8_init_39 : decode cX8_init 39 = .ok (.newarray .int, 2) := by decide +kernel
theorem dX8_init_41 : decode cX8_init 41 = .ok (.putfield 29, 3) := by decide +kernel
theorem dX8_init_44 : decode cX8_init 44 = .ok (.aload_n 0, 1) := by decide +kernel
theorem dX8_init_45 : decode cX8_init 45 = .ok (.iconst 1, 1) := by decide +kernel
theorem dX8_init_46 : decode cX8_init 46 = .ok (.putfield 33, 3) := by decide +kernel
theorem dX8_init_49 : decode cX8_init 49 = .ok (.aload_n 0, 1) := by decide +kernel
theorem dX8_init_50 : decode cX8_init 50 = .ok (.sipush 256, 3) := by decide +kernel
theorem dX8_init_53 : decode cX8_init 53 = .ok (.newarray .int, 2) := by decide +kernel
theorem dX8_init_55 : decode cX8_init 55 = .ok (.putfield 37, 3) := by decide +kernel
theorem dX8_init_58 : decode cX8_init 58 = .ok (.aload_n 0, 1) := by decide +kernel
theorem dX8_init_59 : decode cX8_init 59 = .ok (.sipush 256, 3) := by decide +kernel
theorem dX8_init_62 : decode cX8_init 62 = .ok (.newarray .int, 2) := by decide +kernel
theorem dX8_init_64 : decode cX8_init 64 = .ok (.putfield 40, 3) := by decide +kernel
theorem dX8_init_67 : decode cX8_init 67 = .ok (.aload_n 0, 1) := by decide +kernel
theorem dX8_init_68 : decode cX8_init 68 = .ok (.new 43, 3) := by decide +kernel
theorem dX8_init_71 : decode cX8_init 71 = .ok (.dup, 1) := by decide +kernel
theorem dX8_init_72 : decode cX8_init 72 = .ok (.invokespecial 45, 3) := by decide +kernel
theorem dX8_init_75 : decode cX8_init 75 = .ok (.putfield 46, 3) := by decide +kernel
theorem dX8_init_78 : decode cX8_init 78 = .ok (.return_, 1) := by decide +kernel
theorem dX8_forget_0 : decode cX8_forget 0 = .ok (.aload_n 0, 1) := by decide +kernel
theorem dX8_forget_1 : decode cX8_forget 1 = .ok (.dup, 1) := by decide +kernel
theorem dX8_forget_2 : decode cX8_forget 2 = .ok (.getfield 33, 3) := by decide +kernel
theorem dX8_forget_5 : decode cX8_forget 5 = .ok (.iconst 1, 1) := by decide +kernel
theorem dX8_forget_6 : decode cX8_forget 6 = .ok (.iadd, 1) := by decide +kernel
theorem dX8_forget_7 : decode cX8_forget 7 = .ok (.putfield 33, 3) := by decide +kernel
theorem dX8_forget_10 : decode cX8_forget 10 = .ok (.return_, 1) := by decide +kernel
set_option maxRecDepth 20000 in
theorem ggX8_aim_X8_lensOf : GoodIn wsX8_aim wsX8_lensOf := goodIn_r _ [10, 11] rfl (by decide +kernel)
set_option maxRecDepth 20000 in
theorem gX8_aim_X8_lensOf : GoodIn wsX8_aim (va_wsS RX8 61 yX8_lensOf wsX8_lensOf) := goodIn_app (goodIn_r _ [7, 8, 9] rfl (by decide +kernel)) ggX8_aim_X8_lensOf
theorem dX8_aim_0 : decode cX8_aim 0 = .ok (.aload_n 0, 1) := by decide +kernel
theorem dX8_aim_1 : decode cX8_aim 1 = .ok (.aload_n 1, 1) := by decide +kernel
theorem dX8_aim_2 : decode cX8_aim 2 = .ok (.putfield 46, 3) := by decide +kernel
theorem dX8_aim_5 : decode cX8_aim 5 = .ok (.aload_n 0, 1) := by decide +kernel
theorem dX8_aim_6 : decode cX8_aim 6 = .ok (.iload_n 2, 1) := by decide +kernel
theorem dX8_aim_7 : decode cX8_aim 7 = .ok (.iconst 3, 1) := by decide +kernel
theorem dX8_aim_8 : decode cX8_aim 8 = .ok (.iand, 1) := by decide +kernel
theorem dX8_aim_9 : decode cX8_aim 9 = .ok (.putfield 50, 3) := by decide +kernel
theorem dX8_aim_12 : decode cX8_aim 12 = .ok (.aload_n 0, 1) := by decide +kernel
theorem dX8_aim_13 : decode cX8_aim 13 = .ok (.iload_n 3, 1) := by decide +kernel
theorem dX8_aim_14 : decode cX8_aim 14 = .ok (.putfield 53, 3) := by decide +kernel
theorem dX8_aim_17 : decode cX8_aim 17 = .ok (.aload_n 0, 1) := by decide +kernel
theorem dX8_aim_18 : decode cX8_aim 18 = .ok (.sipush 4095, 3) := by decide +kernel
theorem dX8_aim_21 : decode cX8_aim 21 = .ok (.iload_n 3, 1) := by decide +kernel
theorem dX8_aim_22 : decode cX8_aim 22 = .ok (.iconst (-1), 1) := by decide +kernel
theorem dX8_aim_23 : decode cX8_aim 23 = .ok (.ixor, 1) := by decide +kernel
theorem dX8_aim_24 : decode cX8_aim 24 = .ok (.iand, 1) := by decide +kernel
theorem dX8_aim_25 : decode cX8_aim 25 = .ok (.putfield 56, 3) := by decide +kernel
theorem dX8_aim_28 : decode cX8_aim 28 = .ok (.aload_n 0, 1) := by decide +kernel
theorem dX8_aim_29 : decode cX8_aim 29 = .ok (.iload_n 3, 1) := by decide +kernel
theorem dX8_aim_30 : decode cX8_aim 30 = .ok (.iload 4, 2) := by decide +kernel
theorem dX8_aim_32 : decode cX8_aim 32 = .ok (.iconst 1, 1) := by decide +kernel
theorem dX8_aim_33 : decode cX8_aim 33 = .ok (.if_icmp .ne 9, 3) := by decide +kernel
theorem dX8_aim_36 : decode cX8_aim 36 = .ok (.ldc2_w 59, 3) := by decide +kernel
theorem dX8_aim_39 : decode cX8_aim 39 = .ok (.goto 4, 3) := by decide +kernel
theorem dX8_aim_42 : decode cX8_aim 42 = .ok (.lconst 0, 1) := by decide +kernel
theorem dX8_aim_43 : decode cX8_aim 43 = .ok (.invokestatic 61, 3) := by decide +kernel
theorem dX8_aim_46 : decode cX8_aim 46 = .ok (.putfield 65, 3) := by decide +kernel
theorem dX8_aim_49 : decode cX8_aim 49 = .ok (.return_, 1) := by decide +kernel
theorem chIwsX8_countHeaps_0 : ∀ w ∈ ([.code yX8_countHeaps cX8_countHeaps 6 (some .int)] : List Cond), w ∈ wsX8_countHeaps := fun _ h => (List.mem_cons.mpr (Or.inl (List.mem_singleton.mp h)))
theorem chIwsX8_countHeaps_1 : ∀ w ∈ (wsX8_countHeaps_r1 : List Cond), w ∈ wsX8_countHeaps := fun _ h => (List.mem_cons_of_mem _ (List.mem_append_left _ (List.mem_append_left _ (List.mem_append_left _ (List.mem_append_left _ (List.mem_append_left _ (List.mem_append_left _ h)))))))
theorem chIwsX8_countHeaps_2 : ∀ w ∈ (wsX8_countHeaps_r2 : List Cond), w ∈ wsX8_countHeaps := fun _ h => (List.mem_cons_of_mem _ (List.mem_append_left _ (List.mem_append_left _ (List.mem_append_left _ (List.mem_append_left _ (List.mem_append_left _ (List.mem_append_right _ (List.mem_append_left _ h))))))))
theorem chIwsX8_countHeaps_3 : ∀ w ∈ (wsX8_countHeaps_r3 : List Cond), w ∈ wsX8_countHeaps := fun _ h => (List.mem_cons_of_mem _ (List.mem_append_left _ (List.mem_append_left _ (List.mem_append_left _ (List.mem_append_left _ (List.mem_append_left _ (List.mem_append_right _ (List.mem_append_right _ (List.mem_append_left _ h)))))))))
theorem chIwsX8_countHeaps_4 : ∀ w ∈ (wsX8_countHeaps_r4 : List Cond), w ∈ wsX8_countHeaps := fun _ h => (List.mem_cons_of_mem _ (List.mem_append_left _ (List.mem_append_left _ (List.mem_append_left _ (List.mem_append_left _ (List.mem_append_left _ (List.mem_append_right _ (List.mem_append_right _ (List.mem_append_right _ (List.mem_append_left _ h))))))))))
theorem chIwsX8_countHeaps_5 : ∀ w ∈ (wsX8_countHeaps_r5 : List Cond), w ∈ wsX8_countHeaps := fun _ h => (List.mem_cons_of_mem _ (List.mem_append_left _ (List.mem_append_left _ (List.mem_append_left _ (List.mem_append_left _ (List.mem_append_left _ (List.mem_append_right _ (List.mem_append_right _ (List.mem_append_right _ (List.mem_append_right _ h))))))))))
theorem chIwsX8_countHeaps_6 : ∀ w ∈ (wsX80 : List Cond), w ∈ wsX8_countHeaps := fun _ h => (List.mem_cons_of_mem _ (List.mem_append_left _ (List.mem_append_left _ (List.mem_append_left _ (List.mem_append_left _ (List.mem_append_right _ h))))))
theorem chIwsX8_countHeaps_7 : ∀ w ∈ (wsX40 : List Cond), w ∈ wsX8_countHeaps := fun _ h => (List.mem_cons_of_mem _ (List.mem_append_left _ (List.mem_append_left _ (List.mem_append_left _ (List.mem_append_right _ h)))))
theorem chIwsX8_countHeaps_8 : ∀ w ∈ (wsX10 : List Cond), w ∈ wsX8_countHeaps := fun _ h => (List.mem_cons_of_mem _ (List.mem_append_left _ (List.mem_append_left _ (List.mem_append_right _ h))))
theorem chIwsX8_countHeaps_9 : ∀ w ∈ (wsX20 : List Cond), w ∈ wsX8_countHeaps := fun _ h => (List.mem_cons_of_mem _ (List.mem_append_left _ (List.mem_append_right _ h)))
theorem chIwsX8_countHeaps_10 : ∀ w ∈ (wsX50 : List Cond), w ∈ wsX8_countHeaps := fun _ h => (List.mem_cons_of_mem _ (List.mem_append_right _ h))
def chwsX8_countHeaps : Nat → List Cond
  | 0 => [.code yX8_countHeaps cX8_countHeaps 6 (some .int)]
  | 1 => wsX8_countHeaps_r1
  | 2 => wsX8_countHeaps_r2
  | 3 => wsX8_countHeaps_r3
  | 4 => wsX8_countHeaps_r4
  | 5 => wsX8_countHeaps_r5
  | 6 => wsX80
  | 7 => wsX40
  | 8 => wsX10
  | 9 => wsX20
  | 10 => wsX50
  | _ => []
theorem chwsX8_countHeaps_in : ∀ (j : Nat) (w : Cond), w ∈ chwsX8_countHeaps j → w ∈ wsX8_countHeaps
  | 0, w, h => chIwsX8_countHeaps_0 w h
  | 1, w, h => chIwsX8_countHeaps_1 w h
  | 2, w, h => chIwsX8_countHeaps_2 w h
  | 3, w, h => chIwsX8_countHeaps_3 w h
  | 4, w, h => chIwsX8_countHeaps_4 w h
  | 5, w, h => chIwsX8_countHeaps_5 w h
  | 6, w, h => chIwsX8_countHeaps_6 w h
  | 7, w, h => chIwsX8_countHeaps_7 w h
  | 8, w, h => chIwsX8_countHeaps_8 w h
  | 9, w, h => chIwsX8_countHeaps_9 w h
  | 10, w, h => chIwsX8_countHeaps_10 w h
  | _ + 11, _, h => absurd h List.not_mem_nil
set_option maxRecDepth 20000 in
theorem ggX8_countHeaps_X9_numbersOf : GoodIn wsX8_countHeaps wsX9_numbersOf := goodIn_r2 chwsX8_countHeaps chwsX8_countHeaps_in _ [(1, 9), (1, 10), (1, 11), (1, 12), (1, 13), (1, 14), (1, 15), (1, 16)] rfl (by decide +kernel)
set_option maxRecDepth 20000 in
theorem gX8_countHeaps_X9_numbersOf_n72 : GoodIn wsX8_countHeaps (wsX9_numbersOf) := ggX8_countHeaps_X9_numbersOf
set_option maxRecDepth 20000 in
theorem ggX8_countHeaps_X1_begin : GoodIn wsX8_countHeaps wsX1_begin := goodIn_r2 chwsX8_countHeaps chwsX8_countHeaps_in _ [(1, 21), (1, 22), (1, 23), (2, 0), (2, 1), (2, 2), (2, 3), (2, 4), (2, 5), (8, 0), (8, 1), (8, 2), (8, 3), (8, 4), (8, 5), (8, 6)] rfl (by decide +kernel)
set_option maxRecDepth 20000 in
theorem gX8_countHeaps_X1_begin : GoodIn wsX8_countHeaps (wsV RX8 76 RX1 yX1_begin wsX1_begin) := goodIn_app (goodIn_r2 chwsX8_countHeaps chwsX8_countHeaps_in _ [(1, 17), (1, 18), (1, 19), (1, 20)] rfl (by decide +kernel)) ggX8_countHeaps_X1_begin
set_option maxRecDepth 20000 in
theorem ggX8_countHeaps_X8_look : GoodIn wsX8_countHeaps wsX8_look := goodIn_r2 chwsX8_countHeaps chwsX8_countHeaps_in _ [(2, 10), (1, 1), (1, 2), (2, 11), (2, 12), (2, 13), (2, 14), (2, 15), (2, 16), (2, 17), (2, 18), (2, 19), (2, 20), (2, 21), (2, 22), (2, 23), (3, 0), (3, 1), (3, 2), (3, 3), (3, 4), (3, 5), (3, 6), (3, 7), (3, 8), (3, 9), (3, 10), (3, 11), (2, 1), (3, 12), (3, 13), (3, 14), (3, 15), (3, 16), (3, 17), (3, 18), (3, 19), (3, 20), (3, 21), (3, 22), (3, 23), (4, 0), (4, 1), (4, 2), (4, 3), (4, 4), (4, 5), (4, 6), (4, 7), (4, 8), (4, 9), (4, 10), (2, 9), (4, 11), (4, 12), (4, 13), (4, 14), (4, 15), (4, 16), (4, 17), (4, 18), (4, 19), (4, 20), (2, 0), (2, 2), (4, 21), (1, 8), (4, 22), (6, 0), (6, 1), (6, 2), (6, 3), (6, 4), (6, 5), (6, 6), (6, 7), (6, 8), (6, 9), (6, 10), (6, 11), (6, 12), (6, 13), (6, 14), (6, 15), (6, 16), (7, 0), (7, 1), (7, 2), (7, 3), (7, 4), (7, 5), (9, 0), (9, 1), (9, 2), (9, 3), (9, 4), (10, 0), (10, 1), (10, 2), (10, 3), (10, 4), (10, 5), (10, 6), (10, 7), (10, 8)] rfl (by decide +kernel)
set_option maxRecDepth 20000 in
theorem gX8_countHeaps_X8_look : GoodIn wsX8_countHeaps (wsV RX8 80 RX8 yX8_look wsX8_look) := goodIn_app (goodIn_r2 chwsX8_countHeaps chwsX8_countHeaps_in _ [(2, 6), (2, 7), (2, 8), (2, 9)] rfl (by decide +kernel)) ggX8_countHeaps_X8_look
set_option maxRecDepth 20000 in
theorem ggX8_countHeaps_X1_put : GoodIn wsX8_countHeaps wsX1_put := goodIn_r2 chwsX8_countHeaps chwsX8_countHeaps_in _ [(5, 2), (5, 3), (5, 4), (2, 3), (1, 22), (5, 5), (5, 6), (5, 7), (5, 8), (5, 9), (1, 20), (5, 10), (2, 4), (1, 23), (2, 0), (2, 1), (2, 2), (5, 11), (5, 12), (5, 13), (5, 14), (5, 15), (2, 5), (5, 16), (3, 11), (3, 12), (8, 0), (8, 1), (8, 2), (8, 3), (8, 4), (8, 5), (8, 6)] rfl (by decide +kernel)
set_option maxRecDepth 20000 in
theorem gX8_countHeaps_X1_put : GoodIn wsX8_countHeaps (wsV RX8 84 RX1 yX1_put wsX1_put) := goodIn_app (goodIn_r2 chwsX8_countHeaps chwsX8_countHeaps_in _ [(4, 23), (5, 0), (5, 1), (1, 20)] rfl (by decide +kernel)) ggX8_countHeaps_X1_put
set_option maxRecDepth 20000 in
theorem ggX8_countHeaps_X9_following : GoodIn wsX8_countHeaps wsX9_following := goodIn_r2 chwsX8_countHeaps chwsX8_countHeaps_in _ [(5, 18)] rfl (by decide +kernel)
set_option maxRecDepth 20000 in
theorem gX8_countHeaps_X9_following_n88 : GoodIn wsX8_countHeaps (wsX9_following) := ggX8_countHeaps_X9_following
theorem dX8_countHeaps_0 : decode cX8_countHeaps 0 = .ok (.aload_n 0, 1) := by decide +kernel
theorem dX8_countHeaps_1 : decode cX8_countHeaps 1 = .ok (.getfield 56, 3) := by decide +kernel
theorem dX8_countHeaps_4 : decode cX8_countHeaps 4 = .ok (.aload_n 0, 1) := by decide +kernel
theorem dX8_countHeaps_5 : decode cX8_countHeaps 5 = .ok (.getfield 46, 3) := by decide +kernel
theorem dX8_countHeaps_8 : decode cX8_countHeaps 8 = .ok (.getfield 69, 3) := by decide +kernel
theorem dX8_countHeaps_11 : decode cX8_countHeaps 11 = .ok (.iand, 1) := by decide +kernel
theorem dX8_countHeaps_12 : decode cX8_countHeaps 12 = .ok (.istore_n 2, 1) := by decide +kernel
theorem dX8_countHeaps_13 : decode cX8_countHeaps 13 = .ok (.iload_n 2, 1) := by decide +kernel
theorem dX8_countHeaps_14 : decode cX8_countHeaps 14 = .ok (.invokestatic 72, 3) := by decide +kernel
theorem dX8_countHeaps_17 : decode cX8_countHeaps 17 = .ok (.istore_n 3, 1) := by decide +kernel
theorem dX8_countHeaps_18 : decode cX8_countHeaps 18 = .ok (.aload_n 0, 1) := by decide +kernel
theorem dX8_countHeaps_19 : decode cX8_countHeaps 19 = .ok (.getfield 21, 3) := by decide +kernel
theorem dX8_countHeaps_22 : decode cX8_countHeaps 22 = .ok (.iload_n 3, 1) := by decide +kernel
theorem dX8_countHeaps_23 : decode cX8_countHeaps 23 = .ok (.invokevirtual 76, 3) := by decide +kernel
theorem dX8_countHeaps_26 : decode cX8_countHeaps 26 = .ok (.iconst 0, 1) := by decide +kernel
theorem dX8_countHeaps_27 : decode cX8_countHeaps 27 = .ok (.istore 4, 2) := by decide +kernel
theorem dX8_countHeaps_29 : decode cX8_countHeaps 29 = .ok (.iconst 0, 1) := by decide +kernel
theorem dX8_countHeaps_30 : decode cX8_countHeaps 30 = .ok (.istore 5, 2) := by decide +kernel
theorem dX8_countHeaps_32 : decode cX8_countHeaps 32 = .ok (.iload 5, 2) := by decide +kernel
theorem dX8_countHeaps_34 : decode cX8_countHeaps 34 = .ok (.iload_n 3, 1) := by decide +kernel
theorem dX8_countHeaps_35 : decode cX8_countHeaps 35 = .ok (.if_icmp .ge 43, 3) := by decide +kernel
theorem dX8_countHeaps_38 : decode cX8_countHeaps 38 = .ok (.aload_n 0, 1) := by decide +kernel
theorem dX8_countHeaps_39 : decode cX8_countHeaps 39 = .ok (.getfield 21, 3) := by decide +kernel
theorem dX8_countHeaps_42 : decode cX8_countHeaps 42 = .ok (.aload_n 0, 1) := by decide +kernel
theorem dX8_countHeaps_43 : decode cX8_countHeaps 43 = .ok (.iload_n 1, 1) := by decide +kernel
theorem dX8_countHeaps_44 : decode cX8_countHeaps 44 = .ok (.iload 4, 2) := by decide +kernel
theorem dX8_countHeaps_46 : decode cX8_countHeaps 46 = .ok (.ior, 1) := by decide +kernel
theorem dX8_countHeaps_47 : decode cX8_countHeaps 47 = .ok (.aload_n 0, 1) := by decide +kernel
theorem dX8_countHeaps_48 : decode cX8_countHeaps 48 = .ok (.getfield 50, 3) := by decide +kernel
theorem dX8_countHeaps_51 : decode cX8_countHeaps 51 = .ok (.iconst 0, 1) := by decide +kernel
theorem dX8_countHeaps_52 : decode cX8_countHeaps 52 = .ok (.invokevirtual 80, 3) := by decide +kernel
theorem dX8_countHeaps_55 : decode cX8_countHeaps 55 = .ok (.aload_n 0, 1) := by decide +kernel
theorem dX8_countHeaps_56 : decode cX8_countHeaps 56 = .ok (.getfield 65, 3) := by decide +kernel
theorem dX8_countHeaps_59 : decode cX8_countHeaps 59 = .ok (.land, 1) := by decide +kernel
theorem dX8_countHeaps_60 : decode cX8_countHeaps 60 = .ok (.lconst 0, 1) := by decide +kernel
theorem dX8_countHeaps_61 : decode cX8_countHeaps 61 = .ok (.invokevirtual 84, 3) := by decide +kernel
theorem dX8_countHeaps_64 : decode cX8_countHeaps 64 = .ok (.iload 4, 2) := by decide +kernel
theorem dX8_countHeaps_66 : decode cX8_countHeaps 66 = .ok (.iload_n 2, 1) := by decide +kernel
theorem dX8_countHeaps_67 : decode cX8_countHeaps 67 = .ok (.invokestatic 88, 3) := by decide +kernel
theorem dX8_countHeaps_70 : decode cX8_countHeaps 70 = .ok (.istore 4, 2) := by decide +kernel
theorem dX8_countHeaps_72 : decode cX8_countHeaps 72 = .ok (.iinc 5 1, 3) := by decide +kernel
theorem dX8_countHeaps_75 : decode cX8_countHeaps 75 = .ok (.goto (-43), 3) := by decide +kernel
theorem dX8_countHeaps_78 : decode cX8_countHeaps 78 = .ok (.aload_n 0, 1) := by decide +kernel
theorem dX8_countHeaps_79 : decode cX8_countHeaps 79 = .ok (.getfield 21, 3) := by decide +kernel
theorem dX8_countHeaps_82 : decode cX8_countHeaps 82 = .ok (.getfield 92, 3) := by decide +kernel
theorem dX8_countHeaps_85 : decode cX8_countHeaps 85 = .ok (.ireturn, 1) := by decide +kernel
theorem chIwsX8_greatestHeap_0 : ∀ w ∈ ([.code yX8_greatestHeap cX8_greatestHeap 1 (some .int)] : List Cond), w ∈ wsX8_greatestHeap := fun _ h => (List.mem_cons.mpr (Or.inl (List.mem_singleton.mp h)))
theorem chIwsX8_greatestHeap_1 : ∀ w ∈ ([.fieldLink RX8 21 "WatchedPrograms$Watch" "table" "LWatchedPrograms$HeapTable;", .fieldLink RX8 95 "WatchedPrograms$HeapTable" "greatest" "I", .methodLink RX8 98 yX8_untriedSecrets, .instanceMethod yX8_untriedSecrets, .selects RX8 yX8_untriedSecrets yX8_untriedSecrets, .initialized RX8, .code yX8_untriedSecrets cX8_untriedSecrets 1 (some .int), .fieldLink RX8 56 "WatchedPrograms$Watch" "secretCells" "I", .fieldLink RX8 46 "WatchedPrograms$Watch" "program" "LWatchedPrograms$Program;", .fieldLink RX8 69 "WatchedPrograms$Program" "used" "I", .static yX9_numbersOf, .initialized RX9, .code yX9_numbersOf cX9_numbersOf 1 (some .int), .methodLink RX9 207 yJ6_bitCount_0f7a4, .static yJ6_bitCount_0f7a4, .initialized RJ6, .code yJ6_bitCount_0f7a4 cJ6_bitCount_0f7a4 1 (some .int), .constant RJ6 265 (1431655765), .constant RJ6 266 (858993459), .constant RJ6 267 (252645135)] : List Cond), w ∈ wsX8_greatestHeap := fun _ h => (List.mem_cons_of_mem _ (List.mem_append_left _ (List.mem_append_left _ (List.mem_append_left _ h))))
theorem chIwsX8_greatestHeap_2 : ∀ w ∈ (wsX80 : List Cond), w ∈ wsX8_greatestHeap := fun _ h => (List.mem_cons_of_mem _ (List.mem_append_left _ (List.mem_append_left _ (List.mem_append_right _ h))))
theorem chIwsX8_greatestHeap_3 : ∀ w ∈ (wsX10 : List Cond), w ∈ wsX8_greatestHeap := fun _ h => (List.mem_cons_of_mem _ (List.mem_append_left _ (List.mem_append_right _ h)))
theorem chIwsX8_greatestHeap_4 : ∀ w ∈ (wsX40 : List Cond), w ∈ wsX8_greatestHeap := fun _ h => (List.mem_cons_of_mem _ (List.mem_append_right _ h))
def chwsX8_greatestHeap : Nat → List Cond
  | 0 => [.code yX8_greatestHeap cX8_greatestHeap 1 (some .int)]
  | 1 => [.fieldLink RX8 21 "WatchedPrograms$Watch" "table" "LWatchedPrograms$HeapTable;", .fieldLink RX8 95 "WatchedPrograms$HeapTable" "greatest" "I", .methodLink RX8 98 yX8_untriedSecrets, .instanceMethod yX8_untriedSecrets, .selects RX8 yX8_untriedSecrets yX8_untriedSecrets, .initialized RX8, .code yX8_untriedSecrets cX8_untriedSecrets 1 (some .int), .fieldLink RX8 56 "WatchedPrograms$Watch" "secretCells" "I", .fieldLink RX8 46 "WatchedPrograms$Watch" "program" "LWatchedPrograms$Program;", .fieldLink RX8 69 "WatchedPrograms$Program" "used" "I", .static yX9_numbersOf, .initialized RX9, .code yX9_numbersOf cX9_numbersOf 1 (some .int), .methodLink RX9 207 yJ6_bitCount_0f7a4, .static yJ6_bitCount_0f7a4, .initialized RJ6, .code yJ6_bitCount_0f7a4 cJ6_bitCount_0f7a4 1 (some .int), .constant RJ6 265 (1431655765), .constant RJ6 266 (858993459), .constant RJ6 267 (252645135)]
  | 2 => wsX80
  | 3 => wsX10
  | 4 => wsX40
  | _ => []
theorem chwsX8_greatestHeap_in : ∀ (j : Nat) (w : Cond), w ∈ chwsX8_greatestHeap j → w ∈ wsX8_greatestHeap
  | 0, w, h => chIwsX8_greatestHeap_0 w h
  | 1, w, h => chIwsX8_greatestHeap_1 w h
  | 2, w, h => chIwsX8_greatestHeap_2 w h
  | 3, w, h => chIwsX8_greatestHeap_3 w h
  | 4, w, h => chIwsX8_greatestHeap_4 w h
  | _ + 5, _, h => absurd h List.not_mem_nil
set_option maxRecDepth 20000 in
theorem ggX8_greatestHeap_X8_untriedSecrets : GoodIn wsX8_greatestHeap wsX8_untriedSecrets := goodIn_r2 chwsX8_greatestHeap chwsX8_greatestHeap_in _ [(1, 6), (1, 7), (1, 8), (1, 9), (1, 10), (1, 11), (1, 12), (1, 13), (1, 14), (1, 15), (1, 16), (1, 17), (1, 18), (1, 19), (2, 0), (2, 1), (2, 2), (2, 3), (2, 4), (2, 5), (2, 6), (2, 7), (2, 8), (2, 9), (2, 10), (2, 11), (2, 12), (2, 13), (2, 14), (2, 15), (2, 16), (4, 0), (4, 1), (4, 2), (4, 3), (4, 4), (4, 5)] rfl (by decide +kernel)
set_option maxRecDepth 20000 in
theorem gX8_greatestHeap_X8_untriedSecrets : GoodIn wsX8_greatestHeap (wsV RX8 98 RX8 yX8_untriedSecrets wsX8_untriedSecrets) := goodIn_app (goodIn_r2 chwsX8_greatestHeap chwsX8_greatestHeap_in _ [(1, 2), (1, 3), (1, 4), (1, 5)] rfl (by decide +kernel)) ggX8_greatestHeap_X8_untriedSecrets
theorem dX8_greatestHeap_0 : decode cX8_greatestHeap 0 = .ok (.aload_n 0, 1) := by decide +kernel
theorem dX8_greatestHeap_1 : decode cX8_greatestHeap 1 = .ok (.getfield 21, 3) := by decide +kernel
theorem dX8_greatestHeap_4 : decode cX8_greatestHeap 4 = .ok (.getfield 95, 3) := by decide +kernel
theorem dX8_greatestHeap_7 : decode cX8_greatestHeap 7 = .ok (.aload_n 0, 1) := by decide +kernel
theorem dX8_greatestHeap_8 : decode cX8_greatestHeap 8 = .ok (.invokevirtual 98, 3) := by decide +kernel
theorem dX8_greatestHeap_11 : decode cX8_greatestHeap 11 = .ok (.imul, 1) := by decide +kernel
theorem dX8_greatestHeap_12 : decode cX8_greatestHeap 12 = .ok (.ireturn, 1) := by decide +kernel
theorem chIwsX8_findHeap_0 : ∀ w ∈ ([.code yX8_findHeap cX8_findHeap 10 (some .int)] : List Cond), w ∈ wsX8_findHeap := fun _ h => (List.mem_cons.mpr (Or.inl (List.mem_singleton.mp h)))
theorem chIwsX8_findHeap_1 : ∀ w ∈ (wsX8_findHeap_r1 : List Cond), w ∈ wsX8_findHeap := fun _ h => (List.mem_cons_of_mem _ (List.mem_append_left _ (List.mem_append_left _ (List.mem_append_left _ (List.mem_append_left _ (List.mem_append_left _ h))))))
theorem chIwsX8_findHeap_2 : ∀ w ∈ (wsX8_findHeap_r2 : List Cond), w ∈ wsX8_findHeap := fun _ h => (List.mem_cons_of_mem _ (List.mem_append_left _ (List.mem_append_left _ (List.mem_append_left _ (List.mem_append_left _ (List.mem_append_right _ (List.mem_append_left _ h)))))))
theorem chIwsX8_findHeap_3 : ∀ w ∈ (wsX8_findHeap_r3 : List Cond), w ∈ wsX8_findHeap := fun _ h => (List.mem_cons_of_mem _ (List.mem_append_left _ (List.mem_append_left _ (List.mem_append_left _ (List.mem_append_left _ (List.mem_append_right _ (List.mem_append_right _ (List.mem_append_left _ h))))))))
theorem chIwsX8_findHeap_4 : ∀ w ∈ (wsX8_findHeap_r4 : List Cond), w ∈ wsX8_findHeap := fun _ h => (List.mem_cons_of_mem _ (List.mem_append_left _ (List.mem_append_left _ (List.mem_append_left _ (List.mem_append_left _ (List.mem_append_right _ (List.mem_append_right _ (List.mem_append_right _ h))))))))
theorem chIwsX8_findHeap_5 : ∀ w ∈ (wsX80 : List Cond), w ∈ wsX8_findHeap := fun _ h => (List.mem_cons_of_mem _ (List.mem_append_left _ (List.mem_append_left _ (List.mem_append_left _ (List.mem_append_right _ h)))))
theorem chIwsX8_findHeap_6 : ∀ w ∈ (wsX40 : List Cond), w ∈ wsX8_findHeap := fun _ h => (List.mem_cons_of_mem _ (List.mem_append_left _ (List.mem_append_left _ (List.mem_append_right _ h))))
theorem chIwsX8_findHeap_7 : ∀ w ∈ (wsX20 : List Cond), w ∈ wsX8_findHeap := fun _ h => (List.mem_cons_of_mem _ (List.mem_append_left _ (List.mem_append_right _ h)))
theorem chIwsX8_findHeap_8 : ∀ w ∈ (wsX50 : List Cond), w ∈ wsX8_findHeap := fun _ h => (List.mem_cons_of_mem _ (List.mem_append_right _ h))
def chwsX8_findHeap : Nat → List Cond
  | 0 => [.code yX8_findHeap cX8_findHeap 10 (some .int)]
  | 1 => wsX8_findHeap_r1
  | 2 => wsX8_findHeap_r2
  | 3 => wsX8_findHeap_r3
  | 4 => wsX8_findHeap_r4
  | 5 => wsX80
  | 6 => wsX40
  | 7 => wsX20
  | 8 => wsX50
  | _ => []
theorem chwsX8_findHeap_in : ∀ (j : Nat) (w : Cond), w ∈ chwsX8_findHeap j → w ∈ wsX8_findHeap
  | 0, w, h => chIwsX8_findHeap_0 w h
  | 1, w, h => chIwsX8_findHeap_1 w h
  | 2, w, h => chIwsX8_findHeap_2 w h
  | 3, w, h => chIwsX8_findHeap_3 w h
  | 4, w, h => chIwsX8_findHeap_4 w h
  | 5, w, h => chIwsX8_findHeap_5 w h
  | 6, w, h => chIwsX8_findHeap_6 w h
  | 7, w, h => chIwsX8_findHeap_7 w h
  | 8, w, h => chIwsX8_findHeap_8 w h
  | _ + 9, _, h => absurd h List.not_mem_nil
set_option maxRecDepth 20000 in
theorem ggX8_findHeap_X9_numbersOf : GoodIn wsX8_findHeap wsX9_numbersOf := goodIn_r2 chwsX8_findHeap chwsX8_findHeap_in _ [(1, 8), (1, 9), (1, 10), (1, 11), (1, 12), (1, 13), (1, 14), (1, 15)] rfl (by decide +kernel)
set_option maxRecDepth 20000 in
theorem gX8_findHeap_X9_numbersOf_n72 : GoodIn wsX8_findHeap (wsX9_numbersOf) := ggX8_findHeap_X9_numbersOf
set_option maxRecDepth 20000 in
theorem ggX8_findHeap_X8_look : GoodIn wsX8_findHeap wsX8_look := goodIn_r2 chwsX8_findHeap chwsX8_findHeap_in _ [(1, 20), (1, 1), (1, 2), (1, 21), (1, 22), (1, 23), (2, 0), (2, 1), (2, 2), (2, 3), (2, 4), (2, 5), (2, 6), (2, 7), (2, 8), (2, 9), (2, 10), (2, 11), (2, 12), (2, 13), (2, 14), (2, 15), (2, 16), (2, 17), (2, 18), (2, 19), (2, 20), (2, 21), (2, 22), (2, 23), (3, 0), (3, 1), (3, 2), (3, 3), (3, 4), (3, 5), (3, 6), (3, 7), (3, 8), (3, 9), (3, 10), (3, 11), (3, 12), (3, 13), (3, 14), (3, 15), (3, 16), (3, 17), (3, 18), (3, 19), (3, 20), (3, 21), (1, 19), (3, 22), (3, 23), (4, 0), (4, 1), (4, 2), (4, 3), (4, 4), (4, 5), (4, 6), (4, 7), (4, 8), (4, 9), (4, 10), (1, 7), (4, 11), (5, 0), (5, 1), (5, 2), (5, 3), (5, 4), (5, 5), (5, 6), (5, 7), (5, 8), (5, 9), (5, 10), (5, 11), (5, 12), (5, 13), (5, 14), (5, 15), (5, 16), (6, 0), (6, 1), (6, 2), (6, 3), (6, 4), (6, 5), (7, 0), (7, 1), (7, 2), (7, 3), (7, 4), (8, 0), (8, 1), (8, 2), (8, 3), (8, 4), (8, 5), (8, 6), (8, 7), (8, 8)] rfl (by decide +kernel)
set_option maxRecDepth 20000 in
theorem gX8_findHeap_X8_look : GoodIn wsX8_findHeap (wsV RX8 80 RX8 yX8_look wsX8_look) := goodIn_app (goodIn_r2 chwsX8_findHeap chwsX8_findHeap_in _ [(1, 16), (1, 17), (1, 18), (1, 19)] rfl (by decide +kernel)) ggX8_findHeap_X8_look
set_option maxRecDepth 20000 in
theorem ggX8_findHeap_X9_following : GoodIn wsX8_findHeap wsX9_following := goodIn_r2 chwsX8_findHeap chwsX8_findHeap_in _ [(4, 13)] rfl (by decide +kernel)
set_option maxRecDepth 20000 in
theorem gX8_findHeap_X9_following_n88 : GoodIn wsX8_findHeap (wsX9_following) := ggX8_findHeap_X9_following
theorem dX8_findHeap_0 : decode cX8_findHeap 0 = .ok (.aload_n 0, 1) := by decide +kernel
theorem dX8_findHeap_1 : decode cX8_findHeap 1 = .ok (.getfield 56, 3) := by decide +kernel
theorem dX8_findHeap_4 : decode cX8_findHeap 4 = .ok (.aload_n 0, 1) := by decide +kernel
theorem dX8_findHeap_5 : decode cX8_findHeap 5 = .ok (.getfield 46, 3) := by decide +kernel
theorem dX8_findHeap_8 : decode cX8_findHeap 8 = .ok (.getfield 69, 3) := by decide +kernel
theorem dX8_findHeap_11 : decode cX8_findHeap 11 = .ok (.iand, 1) := by decide +kernel
theorem dX8_findHeap_12 : decode cX8_findHeap 12 = .ok (.istore_n 3, 1) := by decide +kernel
theorem dX8_findHeap_13 : decode cX8_findHeap 13 = .ok (.iload_n 3, 1) := by decide +kernel
theorem dX8_findHeap_14 : decode cX8_findHeap 14 = .ok (.invokestatic 72, 3) := by decide +kernel
theorem dX8_findHeap_17 : decode cX8_findHeap 17 = .ok (.istore 4, 2) := by decide +kernel
theorem dX8_findHeap_19 : decode cX8_findHeap 19 = .ok (.aload_n 0, 1) := by decide +kernel
theorem dX8_findHeap_20 : decode cX8_findHeap 20 = .ok (.iload_n 1, 1) := by decide +kernel
theorem dX8_findHeap_21 : decode cX8_findHeap 21 = .ok (.iload_n 2, 1) := by decide +kernel
theorem dX8_findHeap_22 : decode cX8_findHeap 22 = .ok (.ior, 1) := by decide +kernel
theorem dX8_findHeap_23 : decode cX8_findHeap 23 = .ok (.aload_n 0, 1) := by decide +kernel
theorem dX8_findHeap_24 : decode cX8_findHeap 24 = .ok (.getfield 50, 3) := by decide +kernel
theorem dX8_findHeap_27 : decode cX8_findHeap 27 = .ok (.iconst 0, 1) := by decide +kernel
theorem dX8_findHeap_28 : decode cX8_findHeap 28 = .ok (.invokevirtual 80, 3) := by decide +kernel
theorem dX8_findHeap_31 : decode cX8_findHeap 31 = .ok (.aload_n 0, 1) := by decide +kernel
theorem dX8_findHeap_32 : decode cX8_findHeap 32 = .ok (.getfield 65, 3) := by decide +kernel
theorem dX8_findHeap_35 : decode cX8_findHeap 35 = .ok (.land, 1) := by decide +kernel
theorem dX8_findHeap_36 : decode cX8_findHeap 36 = .ok (.lstore 5, 2) := by decide +kernel
theorem dX8_findHeap_38 : decode cX8_findHeap 38 = .ok (.iconst (-1), 1) := by decide +kernel
theorem dX8_findHeap_39 : decode cX8_findHeap 39 = .ok (.istore 7, 2) := by decide +kernel
theorem dX8_findHeap_41 : decode cX8_findHeap 41 = .ok (.iconst 0, 1) := by decide +kernel
theorem dX8_findHeap_42 : decode cX8_findHeap 42 = .ok (.istore 8, 2) := by decide +kernel
theorem dX8_findHeap_44 : decode cX8_findHeap 44 = .ok (.aload_n 0, 1) := by decide +kernel
theorem dX8_findHeap_45 : decode cX8_findHeap 45 = .ok (.iconst 0, 1) := by decide +kernel
theorem dX8_findHeap_46 : decode cX8_findHeap 46 = .ok (.putfield 102, 3) := by decide +kernel
theorem dX8_findHeap_49 : decode cX8_findHeap 49 = .ok (.iconst 0, 1) := by decide +kernel
theorem dX8_findHeap_50 : decode cX8_findHeap 50 = .ok (.istore 9, 2) := by decide +kernel
theorem dX8_findHeap_52 : decode cX8_findHeap 52 = .ok (.iload 9, 2) := by decide +kernel
theorem dX8_findHeap_54 : decode cX8_findHeap 54 = .ok (.iload 4, 2) := by decide +kernel
theorem dX8_findHeap_56 : decode cX8_findHeap 56 = .ok (.if_icmp .ge 60, 3) := by decide +kernel
theorem dX8_findHeap_59 : decode cX8_findHeap 59 = .ok (.aload_n 0, 1) := by decide +kernel
theorem dX8_findHeap_60 : decode cX8_findHeap 60 = .ok (.iload_n 1, 1) := by decide +kernel
theorem dX8_findHeap_61 : decode cX8_findHeap 61 = .ok (.iload 8, 2) := by decide +kernel
theorem dX8_findHeap_63 : decode cX8_findHeap 63 = .ok (.ior, 1) := by decide +kernel
theorem dX8_findHeap_64 : decode cX8_findHeap 64 = .ok (.aload_n 0, 1) := by decide +kernel
theorem dX8_findHeap_65 : decode cX8_findHeap 65 = .ok (.getfield 50, 3) := by decide +kernel
theorem dX8_findHeap_68 : decode cX8_findHeap 68 = .ok (.iconst 0, 1) := by decide +kernel
theorem dX8_findHeap_69 : decode cX8_findHeap 69 = .ok (.invokevirtual 80, 3) := by decide +kernel
theorem dX8_findHeap_72 : decode cX8_findHeap 72 = .ok (.aload_n 0, 1) := by decide +kernel
theorem dX8_findHeap_73 : decode cX8_findHeap 73 = .ok (.getfield 65, 3) := by decide +kernel
theorem dX8_findHeap_76 : decode cX8_findHeap 76 = .ok (.land, 1) := by decide +kernel
theorem dX8_findHeap_77 : decode cX8_findHeap 77 = .ok (.lload 5, 2) := by decide +kernel
theorem dX8_findHeap_79 : decode cX8_findHeap 79 = .ok (.lcmp, 1) := by decide +kernel
theorem dX8_findHeap_80 : decode cX8_findHeap 80 = .ok (.ifCond .ne 22, 3) := by decide +kernel
theorem dX8_findHeap_83 : decode cX8_findHeap 83 = .ok (.iload 7, 2) := by decide +kernel
theorem dX8_findHeap_85 : decode cX8_findHeap 85 = .ok (.ifCond .ge 7, 3) := by decide +kernel
theorem dX8_findHeap_88 : decode cX8_findHeap 88 = .ok (.iload 8, 2) := by decide +kernel
theorem dX8_findHeap_90 : decode cX8_findHeap 90 = .ok (.istore 7, 2) := by decide +kernel
theorem dX8_findHeap_92 : decode cX8_findHeap 92 = .ok (.aload_n 0, 1) := by decide +kernel
theorem dX8_findHeap_93 : decode cX8_findHeap 93 = .ok (.dup, 1) := by decide +kernel
theorem dX8_findHeap_94 : decode cX8_findHeap 94 = .ok (.getfield 102, 3) := by decide +kernel
theorem dX8_findHeap_97 : decode cX8_findHeap 97 = .ok (.iconst 1, 1) := by decide +kernel
theorem dX8_findHeap_98 : decode cX8_findHeap 98 = .ok (.iadd, 1) := by decide +kernel
theorem dX8_findHeap_99 : decode cX8_findHeap 99 = .ok (.putfield 102, 3) := by decide +kernel
theorem dX8_findHeap_102 : decode cX8_findHeap 102 = .ok (.iload 8, 2) := by decide +kernel
theorem dX8_findHeap_104 : decode cX8_findHeap 104 = .ok (.iload_n 3, 1) := by decide +kernel
theorem dX8_findHeap_105 : decode cX8_findHeap 105 = .ok (.invokestatic 88, 3) := by decide +kernel
theorem dX8_findHeap_108 : decode cX8_findHeap 108 = .ok (.istore 8, 2) := by decide +kernel
theorem dX8_findHeap_110 : decode cX8_findHeap 110 = .ok (.iinc 9 1, 3) := by decide +kernel
theorem dX8_findHeap_113 : decode cX8_findHeap 113 = .ok (.goto (-61), 3) := by decide +kernel
theorem dX8_findHeap_116 : decode cX8_findHeap 116 = .ok (.iload 7, 2) := by decide +kernel
theorem dX8_findHeap_118 : decode cX8_findHeap 118 = .ok (.ireturn, 1) := by decide +kernel
theorem chIwsX8_foundSize_0 : ∀ w ∈ ([.code yX8_foundSize cX8_foundSize 1 (some .int)] : List Cond), w ∈ wsX8_foundSize := fun _ h => (List.mem_cons.mpr (Or.inl (List.mem_singleton.mp h)))
theorem chIwsX8_foundSize_1 : ∀ w ∈ ([.fieldLink RX8 102 "WatchedPrograms$Watch" "foundSecrets" "I", .methodLink RX8 98 yX8_untriedSecrets, .instanceMethod yX8_untriedSecrets, .selects RX8 yX8_untriedSecrets yX8_untriedSecrets, .initialized RX8, .code yX8_untriedSecrets cX8_untriedSecrets 1 (some .int), .fieldLink RX8 56 "WatchedPrograms$Watch" "secretCells" "I", .fieldLink RX8 46 "WatchedPrograms$Watch" "program" "LWatchedPrograms$Program;", .fieldLink RX8 69 "WatchedPrograms$Program" "used" "I", .static yX9_numbersOf, .initialized RX9, .code yX9_numbersOf cX9_numbersOf 1 (some .int), .methodLink RX9 207 yJ6_bitCount_0f7a4, .static yJ6_bitCount_0f7a4, .initialized RJ6, .code yJ6_bitCount_0f7a4 cJ6_bitCount_0f7a4 1 (some .int), .constant RJ6 265 (1431655765), .constant RJ6 266 (858993459), .constant RJ6 267 (252645135)] : List Cond), w ∈ wsX8_foundSize := fun _ h => (List.mem_cons_of_mem _ (List.mem_append_left _ (List.mem_append_left _ h)))
theorem chIwsX8_foundSize_2 : ∀ w ∈ (wsX80 : List Cond), w ∈ wsX8_foundSize := fun _ h => (List.mem_cons_of_mem _ (List.mem_append_left _ (List.mem_append_right _ h)))
theorem chIwsX8_foundSize_3 : ∀ w ∈ (wsX40 : List Cond), w ∈ wsX8_foundSize := fun _ h => (List.mem_cons_of_mem _ (List.mem_append_right _ h))
def chwsX8_foundSize : Nat → List Cond
  | 0 => [.code yX8_foundSize cX8_foundSize 1 (some .int)]
  | 1 => [.fieldLink RX8 102 "WatchedPrograms$Watch" "foundSecrets" "I", .methodLink RX8 98 yX8_untriedSecrets, .instanceMethod yX8_untriedSecrets, .selects RX8 yX8_untriedSecrets yX8_untriedSecrets, .initialized RX8, .code yX8_untriedSecrets cX8_untriedSecrets 1 (some .int), .fieldLink RX8 56 "WatchedPrograms$Watch" "secretCells" "I", .fieldLink RX8 46 "WatchedPrograms$Watch" "program" "LWatchedPrograms$Program;", .fieldLink RX8 69 "WatchedPrograms$Program" "used" "I", .static yX9_numbersOf, .initialized RX9, .code yX9_numbersOf cX9_numbersOf 1 (some .int), .methodLink RX9 207 yJ6_bitCount_0f7a4, .static yJ6_bitCount_0f7a4, .initialized RJ6, .code yJ6_bitCount_0f7a4 cJ6_bitCount_0f7a4 1 (some .int), .constant RJ6 265 (1431655765), .constant RJ6 266 (858993459), .constant RJ6 267 (252645135)]
  | 2 => wsX80
  | 3 => wsX40
  | _ => []
theorem chwsX8_foundSize_in : ∀ (j : Nat) (w : Cond), w ∈ chwsX8_foundSize j → w ∈ wsX8_foundSize
  | 0, w, h => chIwsX8_foundSize_0 w h
  | 1, w, h => chIwsX8_foundSize_1 w h
  | 2, w, h => chIwsX8_foundSize_2 w h
  | 3, w, h => chIwsX8_foundSize_3 w h
  | _ + 4, _, h => absurd h List.not_mem_nil
set_option maxRecDepth 20000 in
theorem ggX8_foundSize_X8_untriedSecrets : GoodIn wsX8_foundSize wsX8_untriedSecrets := goodIn_r2 chwsX8_foundSize chwsX8_foundSize_in _ [(1, 5), (1, 6), (1, 7), (1, 8), (1, 9), (1, 10), (1, 11), (1, 12), (1, 13), (1, 14), (1, 15), (1, 16), (1, 17), (1, 18), (2, 0), (2, 1), (2, 2), (2, 3), (2, 4), (2, 5), (2, 6), (2, 7), (2, 8), (2, 9), (2, 10), (2, 11), (2, 12), (2, 13), (2, 14), (2, 15), (2, 16), (3, 0), (3, 1), (3, 2), (3, 3), (3, 4), (3, 5)] rfl (by decide +kernel)
set_option maxRecDepth 20000 in
theorem gX8_foundSize_X8_untriedSecrets : GoodIn wsX8_foundSize (wsV RX8 98 RX8 yX8_untriedSecrets wsX8_untriedSecrets) := goodIn_app (goodIn_r2 chwsX8_foundSize chwsX8_foundSize_in _ [(1, 1), (1, 2), (1, 3), (1, 4)] rfl (by decide +kernel)) ggX8_foundSize_X8_untriedSecrets
theorem dX8_foundSize_0 : decode cX8_foundSize 0 = .ok (.aload_n 0, 1) := by decide +kernel
theorem dX8_foundSize_1 : decode cX8_foundSize 1 = .ok (.getfield 102, 3) := by decide +kernel
theorem dX8_foundSize_4 : decode cX8_foundSize 4 = .ok (.aload_n 0, 1) := by decide +kernel
theorem dX8_foundSize_5 : decode cX8_foundSize 5 = .ok (.invokevirtual 98, 3) := by decide +kernel
theorem dX8_foundSize_8 : decode cX8_foundSize 8 = .ok (.imul, 1) := by decide +kernel
theorem dX8_foundSize_9 : decode cX8_foundSize 9 = .ok (.ireturn, 1) := by decide +kernel
theorem chIwsX8_findPair_0 : ∀ w ∈ ([.code yX8_findPair cX8_findPair 10 (some .boolean)] : List Cond), w ∈ wsX8_findPair := fun _ h => (List.mem_cons.mpr (Or.inl (List.mem_singleton.mp h)))
theorem chIwsX8_findPair_1 : ∀ w ∈ (wsX8_findPair_r1 : List Cond), w ∈ wsX8_findPair := fun _ h => (List.mem_cons_of_mem _ (List.mem_append_left _ (List.mem_append_left _ (List.mem_append_left _ (List.mem_append_left _ (List.mem_append_left _ h))))))
theorem chIwsX8_findPair_2 : ∀ w ∈ (wsX8_findPair_r2 : List Cond), w ∈ wsX8_findPair := fun _ h => (List.mem_cons_of_mem _ (List.mem_append_left _ (List.mem_append_left _ (List.mem_append_left _ (List.mem_append_left _ (List.mem_append_right _ (List.mem_append_left _ h)))))))
theorem chIwsX8_findPair_3 : ∀ w ∈ (wsX8_findPair_r3 : List Cond), w ∈ wsX8_findPair := fun _ h => (List.mem_cons_of_mem _ (List.mem_append_left _ (List.mem_append_left _ (List.mem_append_left _ (List.mem_append_left _ (List.mem_append_right _ (List.mem_append_right _ (List.mem_append_left _ h))))))))
theorem chIwsX8_findPair_4 : ∀ w ∈ (wsX8_findPair_r4 : List Cond), w ∈ wsX8_findPair := fun _ h => (List.mem_cons_of_mem _ (List.mem_append_left _ (List.mem_append_left _ (List.mem_append_left _ (List.mem_append_left _ (List.mem_append_right _ (List.mem_append_right _ (List.mem_append_right _ h))))))))
theorem chIwsX8_findPair_5 : ∀ w ∈ (wsX80 : List Cond), w ∈ wsX8_findPair := fun _ h => (List.mem_cons_of_mem _ (List.mem_append_left _ (List.mem_append_left _ (List.mem_append_left _ (List.mem_append_right _ h)))))
theorem chIwsX8_findPair_6 : ∀ w ∈ (wsX40 : List Cond), w ∈ wsX8_findPair := fun _ h => (List.mem_cons_of_mem _ (List.mem_append_left _ (List.mem_append_left _ (List.mem_append_right _ h))))
theorem chIwsX8_findPair_7 : ∀ w ∈ (wsX20 : List Cond), w ∈ wsX8_findPair := fun _ h => (List.mem_cons_of_mem _ (List.mem_append_left _ (List.mem_append_right _ h)))
theorem chIwsX8_findPair_8 : ∀ w ∈ (wsX50 : List Cond), w ∈ wsX8_findPair := fun _ h => (List.mem_cons_of_mem _ (List.mem_append_right _ h))
def chwsX8_findPair : Nat → List Cond
  | 0 => [.code yX8_findPair cX8_findPair 10 (some .boolean)]
  | 1 => wsX8_findPair_r1
  | 2 => wsX8_findPair_r2
  | 3 => wsX8_findPair_r3
  | 4 => wsX8_findPair_r4
  | 5 => wsX80
  | 6 => wsX40
  | 7 => wsX20
  | 8 => wsX50
  | _ => []
theorem chwsX8_findPair_in : ∀ (j : Nat) (w : Cond), w ∈ chwsX8_findPair j → w ∈ wsX8_findPair
  | 0, w, h => chIwsX8_findPair_0 w h
  | 1, w, h => chIwsX8_findPair_1 w h
  | 2, w, h => chIwsX8_findPair_2 w h
  | 3, w, h => chIwsX8_findPair_3 w h
  | 4, w, h => chIwsX8_findPair_4 w h
  | 5, w, h => chIwsX8_findPair_5 w h
  | 6, w, h => chIwsX8_findPair_6 w h
  | 7, w, h => chIwsX8_findPair_7 w h
  | 8, w, h => chIwsX8_findPair_8 w h
  | _ + 9, _, h => absurd h List.not_mem_nil
set_option maxRecDepth 20000 in
theorem ggX8_findPair_X9_numbersOf : GoodIn wsX8_findPair wsX9_numbersOf := goodIn_r2 chwsX8_findPair chwsX8_findPair_in _ [(1, 10), (1, 11), (1, 12), (1, 13), (1, 14), (1, 15), (1, 16), (1, 17)] rfl (by decide +kernel)
set_option maxRecDepth 20000 in
theorem gX8_findPair_X9_numbersOf_n72 : GoodIn wsX8_findPair (wsX9_numbersOf) := ggX8_findPair_X9_numbersOf
set_option maxRecDepth 20000 in
theorem ggX8_findPair_X8_look : GoodIn wsX8_findPair wsX8_look := goodIn_r2 chwsX8_findPair chwsX8_findPair_in _ [(1, 22), (1, 1), (1, 2), (1, 23), (2, 0), (2, 1), (2, 2), (2, 3), (2, 4), (2, 5), (2, 6), (2, 7), (2, 8), (2, 9), (2, 10), (2, 11), (2, 12), (2, 13), (2, 14), (2, 15), (2, 16), (2, 17), (2, 18), (2, 19), (2, 20), (2, 21), (2, 22), (2, 23), (3, 0), (3, 1), (3, 2), (3, 3), (3, 4), (3, 5), (3, 6), (3, 7), (3, 8), (3, 9), (3, 10), (3, 11), (3, 12), (3, 13), (3, 14), (3, 15), (3, 16), (3, 17), (3, 18), (3, 19), (3, 20), (3, 21), (3, 22), (3, 23), (1, 21), (4, 0), (4, 1), (4, 2), (4, 3), (4, 4), (4, 5), (4, 6), (4, 7), (4, 8), (4, 9), (4, 10), (4, 11), (4, 12), (1, 9), (4, 13), (5, 0), (5, 1), (5, 2), (5, 3), (5, 4), (5, 5), (5, 6), (5, 7), (5, 8), (5, 9), (5, 10), (5, 11), (5, 12), (5, 13), (5, 14), (5, 15), (5, 16), (6, 0), (6, 1), (6, 2), (6, 3), (6, 4), (6, 5), (7, 0), (7, 1), (7, 2), (7, 3), (7, 4), (8, 0), (8, 1), (8, 2), (8, 3), (8, 4), (8, 5), (8, 6), (8, 7), (8, 8)] rfl (by decide +kernel)
set_option maxRecDepth 20000 in
theorem gX8_findPair_X8_look : GoodIn wsX8_findPair (wsV RX8 80 RX8 yX8_look wsX8_look) := goodIn_app (goodIn_r2 chwsX8_findPair chwsX8_findPair_in _ [(1, 18), (1, 19), (1, 20), (1, 21)] rfl (by decide +kernel)) ggX8_findPair_X8_look
set_option maxRecDepth 20000 in
theorem ggX8_findPair_X9_following : GoodIn wsX8_findPair wsX9_following := goodIn_r2 chwsX8_findPair chwsX8_findPair_in _ [(4, 15)] rfl (by decide +kernel)
set_option maxRecDepth 20000 in
theorem gX8_findPair_X9_following_n88 : GoodIn wsX8_findPair (wsX9_following) := ggX8_findPair_X9_following
theorem dX8_findPair_0 : decode cX8_findPair 0 = .ok (.aload_n 0, 1) := by decide +kernel
theorem dX8_findPair_1 : decode cX8_findPair 1 = .ok (.getfield 53, 3) := by decide +kernel
theorem dX8_findPair_4 : decode cX8_findPair 4 = .ok (.aload_n 0, 1) := by decide +kernel
theorem dX8_findPair_5 : decode cX8_findPair 5 = .ok (.getfield 46, 3) := by decide +kernel
theorem dX8_findPair_8 : decode cX8_findPair 8 = .ok (.getfield 69, 3) := by decide +kernel
theorem dX8_findPair_11 : decode cX8_findPair 11 = .ok (.iand, 1) := by decide +kernel
theorem dX8_findPair_12 : decode cX8_findPair 12 = .ok (.istore_n 2, 1) := by decide +kernel
theorem dX8_findPair_13 : decode cX8_findPair 13 = .ok (.aload_n 0, 1) := by decide +kernel
theorem dX8_findPair_14 : decode cX8_findPair 14 = .ok (.getfield 56, 3) := by decide +kernel
theorem dX8_findPair_17 : decode cX8_findPair 17 = .ok (.aload_n 0, 1) := by decide +kernel
theorem dX8_findPair_18 : decode cX8_findPair 18 = .ok (.getfield 46, 3) := by decide +kernel
theorem dX8_findPair_21 : decode cX8_findPair 21 = .ok (.getfield 69, 3) := by decide +kernel
theorem dX8_findPair_24 : decode cX8_findPair 24 = .ok (.iand, 1) := by decide +kernel
theorem dX8_findPair_25 : decode cX8_findPair 25 = .ok (.istore_n 3, 1) := by decide +kernel
theorem dX8_findPair_26 : decode cX8_findPair 26 = .ok (.iload_n 2, 1) := by decide +kernel
theorem dX8_findPair_27 : decode cX8_findPair 27 = .ok (.invokestatic 72, 3) := by decide +kernel
theorem dX8_findPair_30 : decode cX8_findPair 30 = .ok (.istore 4, 2) := by decide +kernel
theorem dX8_findPair_32 : decode cX8_findPair 32 = .ok (.iload_n 3, 1) := by decide +kernel
theorem dX8_findPair_33 : decode cX8_findPair 33 = .ok (.invokestatic 72, 3) := by decide +kernel
theorem dX8_findPair_36 : decode cX8_findPair 36 = .ok (.istore 5, 2) := by decide +kernel
theorem dX8_findPair_38 : decode cX8_findPair 38 = .ok (.iload 5, 2) := by decide +kernel
theorem dX8_findPair_40 : decode cX8_findPair 40 = .ok (.iconst 2, 1) := by decide +kernel
theorem dX8_findPair_41 : decode cX8_findPair 41 = .ok (.if_icmp .ge 5, 3) := by decide +kernel
theorem dX8_findPair_44 : decode cX8_findPair 44 = .ok (.iconst 0, 1) := by decide +kernel
theorem dX8_findPair_45 : decode cX8_findPair 45 = .ok (.ireturn, 1) := by decide +kernel
theorem dX8_findPair_46 : decode cX8_findPair 46 = .ok (.aload_n 0, 1) := by decide +kernel
theorem dX8_findPair_47 : decode cX8_findPair 47 = .ok (.iconst 0, 1) := by decide +kernel
theorem dX8_findPair_48 : decode cX8_findPair 48 = .ok (.putfield 105, 3) := by decide +kernel
theorem dX8_findPair_51 : decode cX8_findPair 51 = .ok (.iconst 0, 1) := by decide +kernel
theorem dX8_findPair_52 : decode cX8_findPair 52 = .ok (.istore 6, 2) := by decide +kernel
theorem dX8_findPair_54 : decode cX8_findPair 54 = .ok (.iload 6, 2) := by decide +kernel
theorem dX8_findPair_56 : decode cX8_findPair 56 = .ok (.iload 4, 2) := by decide +kernel
theorem dX8_findPair_58 : decode cX8_findPair 58 = .ok (.if_icmp .ge 105, 3) := by decide +kernel
theorem dX8_findPair_61 : decode cX8_findPair 61 = .ok (.aload_n 0, 1) := by decide +kernel
theorem dX8_findPair_62 : decode cX8_findPair 62 = .ok (.aload_n 0, 1) := by decide +kernel
theorem dX8_findPair_63 : decode cX8_findPair 63 = .ok (.getfield 105, 3) := by decide +kernel
theorem dX8_findPair_66 : decode cX8_findPair 66 = .ok (.aload_n 0, 1) := by decide +kernel
theorem dX8_findPair_67 : decode cX8_findPair 67 = .ok (.getfield 50, 3) := by decide +kernel
theorem dX8_findPair_70 : decode cX8_findPair 70 = .ok (.iload_n 1, 1) := by decide +kernel
theorem dX8_findPair_71 : decode cX8_findPair 71 = .ok (.invokevirtual 80, 3) := by decide +kernel
theorem dX8_findPair_74 : decode cX8_findPair 74 = .ok (.aload_n 0, 1) := by decide +kernel
theorem dX8_findPair_75 : decode cX8_findPair 75 = .ok (.getfield 65, 3) := by decide +kernel
theorem dX8_findPair_78 : decode cX8_findPair 78 = .ok (.land, 1) := by decide +kernel
theorem dX8_findPair_79 : decode cX8_findPair 79 = .ok (.lstore 7, 2) := by decide +kernel
theorem dX8_findPair_81 : decode cX8_findPair 81 = .ok (.aload_n 0, 1) := by decide +kernel
theorem dX8_findPair_82 : decode cX8_findPair 82 = .ok (.iconst 0, 1) := by decide +kernel
theorem dX8_findPair_83 : decode cX8_findPair 83 = .ok (.putfield 108, 3) := by decide +kernel
theorem dX8_findPair_86 : decode cX8_findPair 86 = .ok (.iconst 1, 1) := by decide +kernel
theorem dX8_findPair_87 : decode cX8_findPair 87 = .ok (.istore 9, 2) := by decide +kernel
theorem dX8_findPair_89 : decode cX8_findPair 89 = .ok (.iload 9, 2) := by decide +kernel
theorem dX8_findPair_91 : decode cX8_findPair 91 = .ok (.iload 5, 2) := by decide +kernel
theorem dX8_findPair_93 : decode cX8_findPair 93 = .ok (.if_icmp .ge 52, 3) := by decide +kernel
theorem dX8_findPair_96 : decode cX8_findPair 96 = .ok (.aload_n 0, 1) := by decide +kernel
theorem dX8_findPair_97 : decode cX8_findPair 97 = .ok (.aload_n 0, 1) := by decide +kernel
theorem dX8_findPair_98 : decode cX8_findPair 98 = .ok (.getfield 108, 3) := by decide +kernel
theorem dX8_findPair_101 : decode cX8_findPair 101 = .ok (.iload_n 3, 1) := by decide +kernel
theorem dX8_findPair_102 : decode cX8_findPair 102 = .ok (.invokestatic 88, 3) := by decide +kernel
theorem dX8_findPair_105 : decode cX8_findPair 105 = .ok (.putfield 108, 3) := by decide +kernel
theorem dX8_findPair_108 : decode cX8_findPair 108 = .ok (.aload_n 0, 1) := by decide +kernel
theorem dX8_findPair_109 : decode cX8_findPair 109 = .ok (.aload_n 0, 1) := by decide +kernel
theorem dX8_findPair_110 : decode cX8_findPair 110 = .ok (.getfield 105, 3) := by decide +kernel
theorem dX8_findPair_113 : decode cX8_findPair 113 = .ok (.aload_n 0, 1) := by decide +kernel
theorem dX8_findPair_114 : decode cX8_findPair 114 = .ok (.getfield 108, 3) := by decide +kernel
theorem dX8_findPair_117 : decode cX8_findPair 117 = .ok (.ior, 1) := by decide +kernel
theorem dX8_findPair_118 : decode cX8_findPair 118 = .ok (.aload_n 0, 1) := by decide +kernel
theorem dX8_findPair_119 : decode cX8_findPair 119 = .ok (.getfield 50, 3) := by decide +kernel
theorem dX8_findPair_122 : decode cX8_findPair 122 = .ok (.iload_n 1, 1) := by decide +kernel
theorem dX8_findPair_123 : decode cX8_findPair 123 = .ok (.invokevirtual 80, 3) := by decide +kernel
theorem dX8_findPair_126 : decode cX8_findPair 126 = .ok (.aload_n 0, 1) := by decide +kernel
theorem dX8_findPair_127 : decode cX8_findPair 127 = .ok (.getfield 65, 3) := by decide +kernel
theorem dX8_findPair_130 : decode cX8_findPair 130 = .ok (.land, 1) := by decide +kernel
theorem dX8_findPair_131 : decode cX8_findPair 131 = .ok (.lload 7, 2) := by decide +kernel
theorem dX8_findPair_133 : decode cX8_findPair 133 = .ok (.lcmp, 1) := by decide +kernel
theorem dX8_findPair_134 : decode cX8_findPair 134 = .ok (.ifCond .eq 5, 3) := by decide +kernel
theorem dX8_findPair_137 : decode cX8_findPair 137 = .ok (.iconst 1, 1) := by decide +kernel
theorem dX8_findPair_138 : decode cX8_findPair 138 = .ok (.ireturn, 1) := by decide +kernel
theorem dX8_findPair_139 : decode cX8_findPair 139 = .ok (.iinc 9 1, 3) := by decide +kernel
theorem dX8_findPair_142 : decode cX8_findPair 142 = .ok (.goto (-53), 3) := by decide +kernel
theorem dX8_findPair_145 : decode cX8_findPair 145 = .ok (.aload_n 0, 1) := by decide +kernel
theorem dX8_findPair_146 : decode cX8_findPair 146 = .ok (.aload_n 0, 1) := by decide +kernel
theorem dX8_findPair_147 : decode cX8_findPair 147 = .ok (.getfield 105, 3) := by decide +kernel
theorem dX8_findPair_150 : decode cX8_findPair 150 = .ok (.iload_n 2, 1) := by decide +kernel
theorem dX8_findPair_151 : decode cX8_findPair 151 = .ok (.invokestatic 88, 3) := by decide +kernel
theorem dX8_findPair_154 : decode cX8_findPair 154 = .ok (.putfield 105, 3) := by decide +kernel
theorem dX8_findPair_157 : decode cX8_findPair 157 = .ok (.iinc 6 1, 3) := by decide +kernel
theorem dX8_findPair_160 : decode cX8_findPair 160 = .ok (.goto (-106), 3) := by decide +kernel
theorem dX8_findPair_163 : decode cX8_findPair 163 = .ok (.iconst 0, 1) := by decide +kernel
theorem dX8_findPair_164 : decode cX8_findPair 164 = .ok (.ireturn, 1) := by decide +kernel
theorem chIwsX8_tellsMost_0 : ∀ w ∈ ([.code yX8_tellsMost cX8_tellsMost 8 (some .int)] : List Cond), w ∈ wsX8_tellsMost := fun _ h => (List.mem_cons.mpr (Or.inl (List.mem_singleton.mp h)))
theorem chIwsX8_tellsMost_1 : ∀ w ∈ (wsX8_tellsMost_r1 : List Cond), w ∈ wsX8_tellsMost := fun _ h => (List.mem_cons_of_mem _ (List.mem_append_left _ (List.mem_append_left _ (List.mem_append_left _ (List.mem_append_left _ (List.mem_append_left _ (List.mem_append_left _ h)))))))
theorem chIwsX8_tellsMost_2 : ∀ w ∈ (wsX8_tellsMost_r2 : List Cond), w ∈ wsX8_tellsMost := fun _ h => (List.mem_cons_of_mem _ (List.mem_append_left _ (List.mem_append_left _ (List.mem_append_left _ (List.mem_append_left _ (List.mem_append_left _ (List.mem_append_right _ (List.mem_append_left _ h))))))))
theorem chIwsX8_tellsMost_3 : ∀ w ∈ (wsX8_tellsMost_r3 : List Cond), w ∈ wsX8_tellsMost := fun _ h => (List.mem_cons_of_mem _ (List.mem_append_left _ (List.mem_append_left _ (List.mem_append_left _ (List.mem_append_left _ (List.mem_append_left _ (List.mem_append_right _ (List.mem_append_right _ (List.mem_append_left _ h)))))))))
theorem chIwsX8_tellsMost_4 : ∀ w ∈ (wsX8_tellsMost_r4 : List Cond), w ∈ wsX8_tellsMost := fun _ h => (List.mem_cons_of_mem _ (List.mem_append_left _ (List.mem_append_left _ (List.mem_append_left _ (List.mem_append_left _ (List.mem_append_left _ (List.mem_append_right _ (List.mem_append_right _ (List.mem_append_right _ (List.mem_append_left _ h))))))))))
theorem chIwsX8_tellsMost_5 : ∀ w ∈ (wsX8_tellsMost_r5 : List Cond), w ∈ wsX8_tellsMost := fun _ h => (List.mem_cons_of_mem _ (List.mem_append_left _ (List.mem_append_left _ (List.mem_append_left _ (List.mem_append_left _ (List.mem_append_left _ (List.mem_append_right _ (List.mem_append_right _ (List.mem_append_right _ (List.mem_append_right _ (List.mem_append_left _ h)))))))))))
theorem chIwsX8_tellsMost_6 : ∀ w ∈ (wsX8_tellsMost_r6 : List Cond), w ∈ wsX8_tellsMost := fun _ h => (List.mem_cons_of_mem _ (List.mem_append_left _ (List.mem_append_left _ (List.mem_append_left _ (List.mem_append_left _ (List.mem_append_left _ (List.mem_append_right _ (List.mem_append_right _ (List.mem_append_right _ (List.mem_append_right _ (List.mem_append_right _ h)))))))))))
theorem chIwsX8_tellsMost_7 : ∀ w ∈ (wsX80 : List Cond), w ∈ wsX8_tellsMost := fun _ h => (List.mem_cons_of_mem _ (List.mem_append_left _ (List.mem_append_left _ (List.mem_append_left _ (List.mem_append_left _ (List.mem_append_right _ h))))))
theorem chIwsX8_tellsMost_8 : ∀ w ∈ (wsX40 : List Cond), w ∈ wsX8_tellsMost := fun _ h => (List.mem_cons_of_mem _ (List.mem_append_left _ (List.mem_append_left _ (List.mem_append_left _ (List.mem_append_right _ h)))))
theorem chIwsX8_tellsMost_9 : ∀ w ∈ (wsX10 : List Cond), w ∈ wsX8_tellsMost := fun _ h => (List.mem_cons_of_mem _ (List.mem_append_left _ (List.mem_append_left _ (List.mem_append_right _ h))))
theorem chIwsX8_tellsMost_10 : ∀ w ∈ (wsX20 : List Cond), w ∈ wsX8_tellsMost := fun _ h => (List.mem_cons_of_mem _ (List.mem_append_left _ (List.mem_append_right _ h)))
theorem chIwsX8_tellsMost_11 : ∀ w ∈ (wsX50 : List Cond), w ∈ wsX8_tellsMost := fun _ h => (List.mem_cons_of_mem _ (List.mem_append_right _ h))
def chwsX8_tellsMost : Nat → List Cond
  | 0 => [.code yX8_tellsMost cX8_tellsMost 8 (some .int)]
  | 1 => wsX8_tellsMost_r1
  | 2 => wsX8_tellsMost_r2
  | 3 => wsX8_tellsMost_r3
  | 4 => wsX8_tellsMost_r4
  | 5 => wsX8_tellsMost_r5
  | 6 => wsX8_tellsMost_r6
  | 7 => wsX80
  | 8 => wsX40
  | 9 => wsX10
  | 10 => wsX20
  | 11 => wsX50
  | _ => []
theorem chwsX8_tellsMost_in : ∀ (j : Nat) (w : Cond), w ∈ chwsX8_tellsMost j → w ∈ wsX8_tellsMost
  | 0, w, h => chIwsX8_tellsMost_0 w h
  | 1, w, h => chIwsX8_tellsMost_1 w h
  | 2, w, h => chIwsX8_tellsMost_2 w h
  | 3, w, h => chIwsX8_tellsMost_3 w h
  | 4, w, h => chIwsX8_tellsMost_4 w h
  | 5, w, h => chIwsX8_tellsMost_5 w h
  | 6, w, h => chIwsX8_tellsMost_6 w h
  | 7, w, h => chIwsX8_tellsMost_7 w h
  | 8, w, h => chIwsX8_tellsMost_8 w h
  | 9, w, h => chIwsX8_tellsMost_9 w h
  | 10, w, h => chIwsX8_tellsMost_10 w h
  | 11, w, h => chIwsX8_tellsMost_11 w h
  | _ + 12, _, h => absurd h List.not_mem_nil
set_option maxRecDepth 20000 in
theorem ggX8_tellsMost_X9_numbersOf : GoodIn wsX8_tellsMost wsX9_numbersOf := goodIn_r2 chwsX8_tellsMost chwsX8_tellsMost_in _ [(1, 7), (1, 8), (1, 9), (1, 10), (1, 11), (1, 12), (1, 13), (1, 14)] rfl (by decide +kernel)
set_option maxRecDepth 20000 in
theorem gX8_tellsMost_X9_numbersOf_n72 : GoodIn wsX8_tellsMost (wsX9_numbersOf) := ggX8_tellsMost_X9_numbersOf
set_option maxRecDepth 20000 in
theorem ggX8_tellsMost_X8_countHeaps : GoodIn wsX8_tellsMost wsX8_countHeaps := goodIn_r2 chwsX8_tellsMost chwsX8_tellsMost_in _ [(1, 19), (1, 3), (1, 1), (1, 2), (1, 20), (1, 21), (1, 22), (1, 23), (1, 5), (1, 6), (1, 7), (1, 8), (1, 9), (1, 10), (1, 11), (1, 12), (1, 13), (1, 14), (2, 0), (2, 1), (2, 2), (2, 3), (2, 4), (2, 5), (2, 6), (2, 7), (2, 8), (2, 9), (2, 10), (2, 11), (2, 12), (2, 13), (2, 14), (2, 15), (1, 18), (2, 16), (2, 17), (2, 18), (2, 19), (2, 20), (2, 21), (2, 22), (2, 23), (3, 0), (3, 1), (3, 2), (3, 3), (3, 4), (3, 5), (3, 6), (3, 7), (3, 8), (3, 9), (3, 10), (3, 11), (3, 12), (3, 13), (3, 14), (3, 15), (3, 16), (3, 17), (3, 18), (3, 19), (3, 20), (3, 21), (3, 22), (3, 23), (4, 0), (4, 1), (4, 2), (4, 3), (4, 4), (4, 5), (4, 6), (4, 7), (4, 8), (4, 9), (4, 10), (4, 11), (4, 12), (4, 13), (4, 14), (4, 15), (4, 16), (4, 17), (4, 18), (4, 19), (4, 20), (4, 21), (4, 22), (4, 23), (5, 0), (5, 1), (5, 2), (5, 3), (5, 4), (5, 5), (5, 6), (5, 7), (5, 8), (5, 9), (5, 10), (5, 11), (5, 12), (5, 13), (5, 14), (5, 15), (5, 16), (5, 17), (5, 18), (5, 19), (5, 20), (5, 21), (5, 22), (5, 23), (6, 0), (7, 0), (7, 1), (7, 2), (7, 3), (7, 4), (7, 5), (7, 6), (7, 7), (7, 8), (7, 9), (7, 10), (7, 11), (7, 12), (7, 13), (7, 14), (7, 15), (7, 16), (8, 0), (8, 1), (8, 2), (8, 3), (8, 4), (8, 5), (9, 0), (9, 1), (9, 2), (9, 3), (9, 4), (9, 5), (9, 6), (10, 0), (10, 1), (10, 2), (10, 3), (10, 4), (11, 0), (11, 1), (11, 2), (11, 3), (11, 4), (11, 5), (11, 6), (11, 7), (11, 8)] rfl (by decide +kernel)
set_option maxRecDepth 20000 in
theorem gX8_tellsMost_X8_countHeaps : GoodIn wsX8_tellsMost (wsV RX8 114 RX8 yX8_countHeaps wsX8_countHeaps) := goodIn_app (goodIn_r2 chwsX8_tellsMost chwsX8_tellsMost_in _ [(1, 15), (1, 16), (1, 17), (1, 18)] rfl (by decide +kernel)) ggX8_tellsMost_X8_countHeaps
set_option maxRecDepth 20000 in
theorem ggX8_tellsMost_X9_following : GoodIn wsX8_tellsMost wsX9_following := goodIn_r2 chwsX8_tellsMost chwsX8_tellsMost_in _ [(6, 0)] rfl (by decide +kernel)
set_option maxRecDepth 20000 in
theorem gX8_tellsMost_X9_following_n88 : GoodIn wsX8_tellsMost (wsX9_following) := ggX8_tellsMost_X9_following
theorem dX8_tellsMost_0 : decode cX8_tellsMost 0 = .ok (.aload_n 0, 1) := by decide +kernel
theorem dX8_tellsMost_1 : decode cX8_tellsMost 1 = .ok (.getfield 53, 3) := by decide +kernel
theorem dX8_tellsMost_4 : decode cX8_tellsMost 4 = .ok (.aload_n 0, 1) := by decide +kernel
theorem dX8_tellsMost_5 : decode cX8_tellsMost 5 = .ok (.getfield 46, 3) := by decide +kernel
theorem dX8_tellsMost_8 : decode cX8_tellsMost 8 = .ok (.getfield 69, 3) := by decide +kernel
theorem dX8_tellsMost_11 : decode cX8_tellsMost 11 = .ok (.iand, 1) := by decide +kernel
theorem dX8_tellsMost_12 : decode cX8_tellsMost 12 = .ok (.istore_n 1, 1) := by decide +kernel
theorem dX8_tellsMost_13 : decode cX8_tellsMost 13 = .ok (.iload_n 1, 1) := by decide +kernel
theorem dX8_tellsMost_14 : decode cX8_tellsMost 14 = .ok (.invokestatic 72, 3) := by decide +kernel
theorem dX8_tellsMost_17 : decode cX8_tellsMost 17 = .ok (.istore_n 2, 1) := by decide +kernel
theorem dX8_tellsMost_18 : decode cX8_tellsMost 18 = .ok (.aload_n 0, 1) := by decide +kernel
theorem dX8_tellsMost_19 : decode cX8_tellsMost 19 = .ok (.getfield 56, 3) := by decide +kernel
theorem dX8_tellsMost_22 : decode cX8_tellsMost 22 = .ok (.aload_n 0, 1) := by decide +kernel
theorem dX8_tellsMost_23 : decode cX8_tellsMost 23 = .ok (.getfield 46, 3) := by decide +kernel
theorem dX8_tellsMost_26 : decode cX8_tellsMost 26 = .ok (.getfield 69, 3) := by decide +kernel
theorem dX8_tellsMost_29 : decode cX8_tellsMost 29 = .ok (.iand, 1) := by decide +kernel
theorem dX8_tellsMost_30 : decode cX8_tellsMost 30 = .ok (.invokestatic 72, 3) := by decide +kernel
theorem dX8_tellsMost_33 : decode cX8_tellsMost 33 = .ok (.istore_n 3, 1) := by decide +kernel
theorem dX8_tellsMost_34 : decode cX8_tellsMost 34 = .ok (.iconst 0, 1) := by decide +kernel
theorem dX8_tellsMost_35 : decode cX8_tellsMost 35 = .ok (.istore 4, 2) := by decide +kernel
theorem dX8_tellsMost_37 : decode cX8_tellsMost 37 = .ok (.iconst 0, 1) := by decide +kernel
theorem dX8_tellsMost_38 : decode cX8_tellsMost 38 = .ok (.istore 5, 2) := by decide +kernel
theorem dX8_tellsMost_40 : decode cX8_tellsMost 40 = .ok (.aload_n 0, 1) := by decide +kernel
theorem dX8_tellsMost_41 : decode cX8_tellsMost 41 = .ok (.iconst 0, 1) := by decide +kernel
theorem dX8_tellsMost_42 : decode cX8_tellsMost 42 = .ok (.putfield 111, 3) := by decide +kernel
theorem dX8_tellsMost_45 : decode cX8_tellsMost 45 = .ok (.iconst 0, 1) := by decide +kernel
theorem dX8_tellsMost_46 : decode cX8_tellsMost 46 = .ok (.istore 6, 2) := by decide +kernel
theorem dX8_tellsMost_48 : decode cX8_tellsMost 48 = .ok (.iload 6, 2) := by decide +kernel
theorem dX8_tellsMost_50 : decode cX8_tellsMost 50 = .ok (.iload_n 2, 1) := by decide +kernel
theorem dX8_tellsMost_51 : decode cX8_tellsMost 51 = .ok (.if_icmp .ge 52, 3) := by decide +kernel
theorem dX8_tellsMost_54 : decode cX8_tellsMost 54 = .ok (.aload_n 0, 1) := by decide +kernel
theorem dX8_tellsMost_55 : decode cX8_tellsMost 55 = .ok (.getfield 111, 3) := by decide +kernel
theorem dX8_tellsMost_58 : decode cX8_tellsMost 58 = .ok (.iload_n 3, 1) := by decide +kernel
theorem dX8_tellsMost_59 : decode cX8_tellsMost 59 = .ok (.if_icmp .ge 44, 3) := by decide +kernel
theorem dX8_tellsMost_62 : decode cX8_tellsMost 62 = .ok (.aload_n 0, 1) := by decide +kernel
theorem dX8_tellsMost_63 : decode cX8_tellsMost 63 = .ok (.iload 4, 2) := by decide +kernel
theorem dX8_tellsMost_65 : decode cX8_tellsMost 65 = .ok (.invokevirtual 114, 3) := by decide +kernel
theorem dX8_tellsMost_68 : decode cX8_tellsMost 68 = .ok (.istore 7, 2) := by decide +kernel
theorem dX8_tellsMost_70 : decode cX8_tellsMost 70 = .ok (.iload 7, 2) := by decide +kernel
theorem dX8_tellsMost_72 : decode cX8_tellsMost 72 = .ok (.aload_n 0, 1) := by decide +kernel
theorem dX8_tellsMost_73 : decode cX8_tellsMost 73 = .ok (.getfield 111, 3) := by decide +kernel
theorem dX8_tellsMost_76 : decode cX8_tellsMost 76 = .ok (.if_icmp .le 13, 3) := by decide +kernel
theorem dX8_tellsMost_79 : decode cX8_tellsMost 79 = .ok (.aload_n 0, 1) := by decide +kernel
theorem dX8_tellsMost_80 : decode cX8_tellsMost 80 = .ok (.iload 7, 2) := by decide +kernel
theorem dX8_tellsMost_82 : decode cX8_tellsMost 82 = .ok (.putfield 111, 3) := by decide +kernel
theorem dX8_tellsMost_85 : decode cX8_tellsMost 85 = .ok (.iload 4, 2) := by decide +kernel
theorem dX8_tellsMost_87 : decode cX8_tellsMost 87 = .ok (.istore 5, 2) := by decide +kernel
theorem dX8_tellsMost_89 : decode cX8_tellsMost 89 = .ok (.iload 4, 2) := by decide +kernel
theorem dX8_tellsMost_91 : decode cX8_tellsMost 91 = .ok (.iload_n 1, 1) := by decide +kernel
theorem dX8_tellsMost_92 : decode cX8_tellsMost 92 = .ok (.invokestatic 88, 3) := by decide +kernel
theorem dX8_tellsMost_95 : decode cX8_tellsMost 95 = .ok (.istore 4, 2) := by decide +kernel
theorem dX8_tellsMost_97 : decode cX8_tellsMost 97 = .ok (.iinc 6 1, 3) := by decide +kernel
theorem dX8_tellsMost_100 : decode cX8_tellsMost 100 = .ok (.goto (-52), 3) := by decide +kernel
theorem dX8_tellsMost_103 : decode cX8_tellsMost 103 = .ok (.iload 5, 2) := by decide +kernel
theorem dX8_tellsMost_105 : decode cX8_tellsMost 105 = .ok (.ireturn, 1) := by decide +kernel
theorem chIwsX8_countTogether_0 : ∀ w ∈ ([.code yX8_countTogether cX8_countTogether 7 (some .int)] : List Cond), w ∈ wsX8_countTogether := fun _ h => (List.mem_cons.mpr (Or.inl (List.mem_singleton.mp h)))
theorem chIwsX8_countTogether_1 : ∀ w ∈ (wsX8_countTogether_r1 : List Cond), w ∈ wsX8_countTogether := fun _ h => (List.mem_cons_of_mem _ (List.mem_append_left _ (List.mem_append_left _ (List.mem_append_left _ (List.mem_append_left _ (List.mem_append_left _ (List.mem_append_left _ h)))))))
theorem chIwsX8_countTogether_2 : ∀ w ∈ (wsX8_countTogether_r2 : List Cond), w ∈ wsX8_countTogether := fun _ h => (List.mem_cons_of_mem _ (List.mem_append_left _ (List.mem_append_left _ (List.mem_append_left _ (List.mem_append_left _ (List.mem_append_left _ (List.mem_append_right _ (List.mem_append_left _ h))))))))
theorem chIwsX8_countTogether_3 : ∀ w ∈ (wsX8_countTogether_r3 : List Cond), w ∈ wsX8_countTogether := fun _ h => (List.mem_cons_of_mem _ (List.mem_append_left _ (List.mem_append_left _ (List.mem_append_left _ (List.mem_append_left _ (List.mem_append_left _ (List.mem_append_right _ (List.mem_append_right _ (List.mem_append_left _ h)))))))))
theorem chIwsX8_countTogether_4 : ∀ w ∈ (wsX8_countTogether_r4 : List Cond), w ∈ wsX8_countTogether := fun _ h => (List.mem_cons_of_mem _ (List.mem_append_left _ (List.mem_append_left _ (List.mem_append_left _ (List.mem_append_left _ (List.mem_append_left _ (List.mem_append_right _ (List.mem_append_right _ (List.mem_append_right _ (List.mem_append_left _ h))))))))))
theorem chIwsX8_countTogether_5 : ∀ w ∈ (wsX8_countTogether_r5 : List Cond), w ∈ wsX8_countTogether := fun _ h => (List.mem_cons_of_mem _ (List.mem_append_left _ (List.mem_append_left _ (List.mem_append_left _ (List.mem_append_left _ (List.mem_append_left _ (List.mem_append_right _ (List.mem_append_right _ (List.mem_append_right _ (List.mem_append_right _ h))))))))))
theorem chIwsX8_countTogether_6 : ∀ w ∈ (wsX80 : List Cond), w ∈ wsX8_countTogether := fun _ h => (List.mem_cons_of_mem _ (List.mem_append_left _ (List.mem_append_left _ (List.mem_append_left _ (List.mem_append_left _ (List.mem_append_right _ h))))))
theorem chIwsX8_countTogether_7 : ∀ w ∈ (wsX40 : List Cond), w ∈ wsX8_countTogether := fun _ h => (List.mem_cons_of_mem _ (List.mem_append_left _ (List.mem_append_left _ (List.mem_append_left _ (List.mem_append_right _ h)))))
theorem chIwsX8_countTogether_8 : ∀ w ∈ (wsX10 : List Cond), w ∈ wsX8_countTogether := fun _ h => (List.mem_cons_of_mem _ (List.mem_append_left _ (List.mem_append_left _ (List.mem_append_right _ h))))
theorem chIwsX8_countTogether_9 : ∀ w ∈ (wsX20 : List Cond), w ∈ wsX8_countTogether := fun _ h => (List.mem_cons_of_mem _ (List.mem_append_left _ (List.mem_append_right _ h)))
theorem chIwsX8_countTogether_10 : ∀ w ∈ (wsX50 : List Cond), w ∈ wsX8_countTogether := fun _ h => (List.mem_cons_of_mem _ (List.mem_append_right _ h))
def chwsX8_countTogether : Nat → List Cond
  | 0 => [.code yX8_countTogether cX8_countTogether 7 (some .int)]
  | 1 => wsX8_countTogether_r1
  | 2 => wsX8_countTogether_r2
  | 3 => wsX8_countTogether_r3
  | 4 => wsX8_countTogether_r4
  | 5 => wsX8_countTogether_r5
  | 6 => wsX80
  | 7 => wsX40
  | 8 => wsX10
  | 9 => wsX20
  | 10 => wsX50
  | _ => []
theorem chwsX8_countTogether_in : ∀ (j : Nat) (w : Cond), w ∈ chwsX8_countTogether j → w ∈ wsX8_countTogether
  | 0, w, h => chIwsX8_countTogether_0 w h
  | 1, w, h => chIwsX8_countTogether_1 w h
  | 2, w, h => chIwsX8_countTogether_2 w h
  | 3, w, h => chIwsX8_countTogether_3 w h
  | 4, w, h => chIwsX8_countTogether_4 w h
  | 5, w, h => chIwsX8_countTogether_5 w h
  | 6, w, h => chIwsX8_countTogether_6 w h
  | 7, w, h => chIwsX8_countTogether_7 w h
  | 8, w, h => chIwsX8_countTogether_8 w h
  | 9, w, h => chIwsX8_countTogether_9 w h
  | 10, w, h => chIwsX8_countTogether_10 w h
  | _ + 11, _, h => absurd h List.not_mem_nil
set_option maxRecDepth 20000 in
theorem ggX8_countTogether_X9_numbersOf : GoodIn wsX8_countTogether wsX9_numbersOf := goodIn_r2 chwsX8_countTogether chwsX8_countTogether_in _ [(1, 9), (1, 10), (1, 11), (1, 12), (1, 13), (1, 14), (1, 15), (1, 16)] rfl (by decide +kernel)
set_option maxRecDepth 20000 in
theorem gX8_countTogether_X9_numbersOf_n72 : GoodIn wsX8_countTogether (wsX9_numbersOf) := ggX8_countTogether_X9_numbersOf
set_option maxRecDepth 20000 in
theorem ggX8_countTogether_X1_begin : GoodIn wsX8_countTogether wsX1_begin := goodIn_r2 chwsX8_countTogether chwsX8_countTogether_in _ [(1, 21), (1, 22), (1, 23), (2, 0), (2, 1), (2, 2), (2, 3), (2, 4), (2, 5), (8, 0), (8, 1), (8, 2), (8, 3), (8, 4), (8, 5), (8, 6)] rfl (by decide +kernel)
set_option maxRecDepth 20000 in
theorem gX8_countTogether_X1_begin : GoodIn wsX8_countTogether (wsV RX8 76 RX1 yX1_begin wsX1_begin) := goodIn_app (goodIn_r2 chwsX8_countTogether chwsX8_countTogether_in _ [(1, 17), (1, 18), (1, 19), (1, 20)] rfl (by decide +kernel)) ggX8_countTogether_X1_begin
set_option maxRecDepth 20000 in
theorem ggX8_countTogether_X8_look : GoodIn wsX8_countTogether wsX8_look := goodIn_r2 chwsX8_countTogether chwsX8_countTogether_in _ [(2, 10), (1, 1), (1, 2), (2, 11), (2, 12), (2, 13), (2, 14), (2, 15), (2, 16), (2, 17), (2, 18), (2, 19), (2, 20), (2, 21), (2, 22), (2, 23), (3, 0), (3, 1), (3, 2), (3, 3), (3, 4), (3, 5), (3, 6), (3, 7), (3, 8), (3, 9), (3, 10), (3, 11), (2, 1), (3, 12), (3, 13), (3, 14), (3, 15), (3, 16), (3, 17), (3, 18), (3, 19), (3, 20), (3, 21), (3, 22), (3, 23), (4, 0), (4, 1), (4, 2), (4, 3), (4, 4), (4, 5), (4, 6), (4, 7), (4, 8), (4, 9), (4, 10), (2, 9), (4, 11), (4, 12), (4, 13), (4, 14), (4, 15), (4, 16), (4, 17), (4, 18), (4, 19), (4, 20), (2, 0), (2, 2), (4, 21), (1, 8), (4, 22), (6, 0), (6, 1), (6, 2), (6, 3), (6, 4), (6, 5), (6, 6), (6, 7), (6, 8), (6, 9), (6, 10), (6, 11), (6, 12), (6, 13), (6, 14), (6, 15), (6, 16), (7, 0), (7, 1), (7, 2), (7, 3), (7, 4), (7, 5), (9, 0), (9, 1), (9, 2), (9, 3), (9, 4), (10, 0), (10, 1), (10, 2), (10, 3), (10, 4), (10, 5), (10, 6), (10, 7), (10, 8)] rfl (by decide +kernel)
set_option maxRecDepth 20000 in
theorem gX8_countTogether_X8_look : GoodIn wsX8_countTogether (wsV RX8 80 RX8 yX8_look wsX8_look) := goodIn_app (goodIn_r2 chwsX8_countTogether chwsX8_countTogether_in _ [(2, 6), (2, 7), (2, 8), (2, 9)] rfl (by decide +kernel)) ggX8_countTogether_X8_look
set_option maxRecDepth 20000 in
theorem ggX8_countTogether_X1_put : GoodIn wsX8_countTogether wsX1_put := goodIn_r2 chwsX8_countTogether chwsX8_countTogether_in _ [(5, 2), (5, 3), (5, 4), (2, 3), (1, 22), (5, 5), (5, 6), (5, 7), (5, 8), (5, 9), (1, 20), (5, 10), (2, 4), (1, 23), (2, 0), (2, 1), (2, 2), (5, 11), (5, 12), (5, 13), (5, 14), (5, 15), (2, 5), (5, 16), (3, 11), (3, 12), (8, 0), (8, 1), (8, 2), (8, 3), (8, 4), (8, 5), (8, 6)] rfl (by decide +kernel)
set_option maxRecDepth 20000 in
theorem gX8_countTogether_X1_put : GoodIn wsX8_countTogether (wsV RX8 84 RX1 yX1_put wsX1_put) := goodIn_app (goodIn_r2 chwsX8_countTogether chwsX8_countTogether_in _ [(4, 23), (5, 0), (5, 1), (1, 20)] rfl (by decide +kernel)) ggX8_countTogether_X1_put
set_option maxRecDepth 20000 in
theorem ggX8_countTogether_X9_following : GoodIn wsX8_countTogether wsX9_following := goodIn_r2 chwsX8_countTogether chwsX8_countTogether_in _ [(5, 18)] rfl (by decide +kernel)
set_option maxRecDepth 20000 in
theorem gX8_countTogether_X9_following_n88 : GoodIn wsX8_countTogether (wsX9_following) := ggX8_countTogether_X9_following
theorem dX8_countTogether_0 : decode cX8_countTogether 0 = .ok (.aload_n 0, 1) := by decide +kernel
theorem dX8_countTogether_1 : decode cX8_countTogether 1 = .ok (.getfield 56, 3) := by decide +kernel
theorem dX8_countTogether_4 : decode cX8_countTogether 4 = .ok (.aload_n 0, 1) := by decide +kernel
theorem dX8_countTogether_5 : decode cX8_countTogether 5 = .ok (.getfield 46, 3) := by decide +kernel
theorem dX8_countTogether_8 : decode cX8_countTogether 8 = .ok (.getfield 69, 3) := by decide +kernel
theorem dX8_countTogether_11 : decode cX8_countTogether 11 = .ok (.iand, 1) := by decide +kernel
theorem dX8_countTogether_12 : decode cX8_countTogether 12 = .ok (.istore_n 3, 1) := by decide +kernel
theorem dX8_countTogether_13 : decode cX8_countTogether 13 = .ok (.iload_n 3, 1) := by decide +kernel
theorem dX8_countTogether_14 : decode cX8_countTogether 14 = .ok (.invokestatic 72, 3) := by decide +kernel
theorem dX8_countTogether_17 : decode cX8_countTogether 17 = .ok (.istore 4, 2) := by decide +kernel
theorem dX8_countTogether_19 : decode cX8_countTogether 19 = .ok (.aload_n 0, 1) := by decide +kernel
theorem dX8_countTogether_20 : decode cX8_countTogether 20 = .ok (.getfield 21, 3) := by decide +kernel
theorem dX8_countTogether_23 : decode cX8_countTogether 23 = .ok (.iload 4, 2) := by decide +kernel
theorem dX8_countTogether_25 : decode cX8_countTogether 25 = .ok (.invokevirtual 76, 3) := by decide +kernel
theorem dX8_countTogether_28 : decode cX8_countTogether 28 = .ok (.iconst 0, 1) := by decide +kernel
theorem dX8_countTogether_29 : decode cX8_countTogether 29 = .ok (.istore 5, 2) := by decide +kernel
theorem dX8_countTogether_31 : decode cX8_countTogether 31 = .ok (.iconst 0, 1) := by decide +kernel
theorem dX8_countTogether_32 : decode cX8_countTogether 32 = .ok (.istore 6, 2) := by decide +kernel
theorem dX8_countTogether_34 : decode cX8_countTogether 34 = .ok (.iload 6, 2) := by decide +kernel
theorem dX8_countTogether_36 : decode cX8_countTogether 36 = .ok (.iload 4, 2) := by decide +kernel
theorem dX8_countTogether_38 : decode cX8_countTogether 38 = .ok (.if_icmp .ge 60, 3) := by decide +kernel
theorem dX8_countTogether_41 : decode cX8_countTogether 41 = .ok (.aload_n 0, 1) := by decide +kernel
theorem dX8_countTogether_42 : decode cX8_countTogether 42 = .ok (.getfield 21, 3) := by decide +kernel
theorem dX8_countTogether_45 : decode cX8_countTogether 45 = .ok (.aload_n 0, 1) := by decide +kernel
theorem dX8_countTogether_46 : decode cX8_countTogether 46 = .ok (.iload_n 1, 1) := by decide +kernel
theorem dX8_countTogether_47 : decode cX8_countTogether 47 = .ok (.iload 5, 2) := by decide +kernel
theorem dX8_countTogether_49 : decode cX8_countTogether 49 = .ok (.ior, 1) := by decide +kernel
theorem dX8_countTogether_50 : decode cX8_countTogether 50 = .ok (.aload_n 0, 1) := by decide +kernel
theorem dX8_countTogether_51 : decode cX8_countTogether 51 = .ok (.getfield 50, 3) := by decide +kernel
theorem dX8_countTogether_54 : decode cX8_countTogether 54 = .ok (.iconst 0, 1) := by decide +kernel
theorem dX8_countTogether_55 : decode cX8_countTogether 55 = .ok (.invokevirtual 80, 3) := by decide +kernel
theorem dX8_countTogether_58 : decode cX8_countTogether 58 = .ok (.aload_n 0, 1) := by decide +kernel
theorem dX8_countTogether_59 : decode cX8_countTogether 59 = .ok (.getfield 65, 3) := by decide +kernel
theorem dX8_countTogether_62 : decode cX8_countTogether 62 = .ok (.land, 1) := by decide +kernel
theorem dX8_countTogether_63 : decode cX8_countTogether 63 = .ok (.aload_n 0, 1) := by decide +kernel
theorem dX8_countTogether_64 : decode cX8_countTogether 64 = .ok (.iload_n 2, 1) := by decide +kernel
theorem dX8_countTogether_65 : decode cX8_countTogether 65 = .ok (.iload 5, 2) := by decide +kernel
theorem dX8_countTogether_67 : decode cX8_countTogether 67 = .ok (.ior, 1) := by decide +kernel
theorem dX8_countTogether_68 : decode cX8_countTogether 68 = .ok (.aload_n 0, 1) := by decide +kernel
theorem dX8_countTogether_69 : decode cX8_countTogether 69 = .ok (.getfield 50, 3) := by decide +kernel
theorem dX8_countTogether_72 : decode cX8_countTogether 72 = .ok (.iconst 0, 1) := by decide +kernel
theorem dX8_countTogether_73 : decode cX8_countTogether 73 = .ok (.invokevirtual 80, 3) := by decide +kernel
theorem dX8_countTogether_76 : decode cX8_countTogether 76 = .ok (.aload_n 0, 1) := by decide +kernel
theorem dX8_countTogether_77 : decode cX8_countTogether 77 = .ok (.getfield 65, 3) := by decide +kernel
theorem dX8_countTogether_80 : decode cX8_countTogether 80 = .ok (.land, 1) := by decide +kernel
theorem dX8_countTogether_81 : decode cX8_countTogether 81 = .ok (.invokevirtual 84, 3) := by decide +kernel
theorem dX8_countTogether_84 : decode cX8_countTogether 84 = .ok (.iload 5, 2) := by decide +kernel
theorem dX8_countTogether_86 : decode cX8_countTogether 86 = .ok (.iload_n 3, 1) := by decide +kernel
theorem dX8_countTogether_87 : decode cX8_countTogether 87 = .ok (.invokestatic 88, 3) := by decide +kernel
theorem dX8_countTogether_90 : decode cX8_countTogether 90 = .ok (.istore 5, 2) := by decide +kernel
theorem dX8_countTogether_92 : decode cX8_countTogether 92 = .ok (.iinc 6 1, 3) := by decide +kernel
theorem dX8_countTogether_95 : decode cX8_countTogether 95 = .ok (.goto (-61), 3) := by decide +kernel
theorem dX8_countTogether_98 : decode cX8_countTogether 98 = .ok (.aload_n 0, 1) := by decide +kernel
theorem dX8_countTogether_99 : decode cX8_countTogether 99 = .ok (.getfield 21, 3) := by decide +kernel
theorem dX8_countTogether_102 : decode cX8_countTogether 102 = .ok (.getfield 92, 3) := by decide +kernel
theorem dX8_countTogether_105 : decode cX8_countTogether 105 = .ok (.ireturn, 1) := by decide +kernel
theorem chIwsX8_countBoth_0 : ∀ w ∈ ([.code yX8_countBoth cX8_countBoth 10 (some .int)] : List Cond), w ∈ wsX8_countBoth := fun _ h => (List.mem_cons.mpr (Or.inl (List.mem_singleton.mp h)))
theorem chIwsX8_countBoth_1 : ∀ w ∈ (wsX8_countBoth_r1 : List Cond), w ∈ wsX8_countBoth := fun _ h => (List.mem_cons_of_mem _ (List.mem_append_left _ (List.mem_append_left _ (List.mem_append_left _ (List.mem_append_left _ (List.mem_append_left _ (List.mem_append_left _ h)))))))
theorem chIwsX8_countBoth_2 : ∀ w ∈ (wsX8_countBoth_r2 : List Cond), w ∈ wsX8_countBoth := fun _ h => (List.mem_cons_of_mem _ (List.mem_append_left _ (List.mem_append_left _ (List.mem_append_left _ (List.mem_append_left _ (List.mem_append_left _ (List.mem_append_right _ (List.mem_append_left _ h))))))))
theorem chIwsX8_countBoth_3 : ∀ w ∈ (wsX8_countBoth_r3 : List Cond), w ∈ wsX8_countBoth := fun _ h => (List.mem_cons_of_mem _ (List.mem_append_left _ (List.mem_append_left _ (List.mem_append_left _ (List.mem_append_left _ (List.mem_append_left _ (List.mem_append_right _ (List.mem_append_right _ (List.mem_append_left _ h)))))))))
theorem chIwsX8_countBoth_4 : ∀ w ∈ (wsX8_countBoth_r4 : List Cond), w ∈ wsX8_countBoth := fun _ h => (List.mem_cons_of_mem _ (List.mem_append_left _ (List.mem_append_left _ (List.mem_append_left _ (List.mem_append_left _ (List.mem_append_left _ (List.mem_append_right _ (List.mem_append_right _ (List.mem_append_right _ (List.mem_append_left _ h))))))))))
theorem chIwsX8_countBoth_5 : ∀ w ∈ (wsX8_countBoth_r5 : List Cond), w ∈ wsX8_countBoth := fun _ h => (List.mem_cons_of_mem _ (List.mem_append_left _ (List.mem_append_left _ (List.mem_append_left _ (List.mem_append_left _ (List.mem_append_left _ (List.mem_append_right _ (List.mem_append_right _ (List.mem_append_right _ (List.mem_append_right _ (List.mem_append_left _ h)))))))))))
theorem chIwsX8_countBoth_6 : ∀ w ∈ (wsX8_countBoth_r6 : List Cond), w ∈ wsX8_countBoth := fun _ h => (List.mem_cons_of_mem _ (List.mem_append_left _ (List.mem_append_left _ (List.mem_append_left _ (List.mem_append_left _ (List.mem_append_left _ (List.mem_append_right _ (List.mem_append_right _ (List.mem_append_right _ (List.mem_append_right _ (List.mem_append_right _ h)))))))))))
theorem chIwsX8_countBoth_7 : ∀ w ∈ (wsX80 : List Cond), w ∈ wsX8_countBoth := fun _ h => (List.mem_cons_of_mem _ (List.mem_append_left _ (List.mem_append_left _ (List.mem_append_left _ (List.mem_append_left _ (List.mem_append_right _ h))))))
theorem chIwsX8_countBoth_8 : ∀ w ∈ (wsX40 : List Cond), w ∈ wsX8_countBoth := fun _ h => (List.mem_cons_of_mem _ (List.mem_append_left _ (List.mem_append_left _ (List.mem_append_left _ (List.mem_append_right _ h)))))
theorem chIwsX8_countBoth_9 : ∀ w ∈ (wsX10 : List Cond), w ∈ wsX8_countBoth := fun _ h => (List.mem_cons_of_mem _ (List.mem_append_left _ (List.mem_append_left _ (List.mem_append_right _ h))))
theorem chIwsX8_countBoth_10 : ∀ w ∈ (wsX20 : List Cond), w ∈ wsX8_countBoth := fun _ h => (List.mem_cons_of_mem _ (List.mem_append_left _ (List.mem_append_right _ h)))
theorem chIwsX8_countBoth_11 : ∀ w ∈ (wsX50 : List Cond), w ∈ wsX8_countBoth := fun _ h => (List.mem_cons_of_mem _ (List.mem_append_right _ h))
def chwsX8_countBoth : Nat → List Cond
  | 0 => [.code yX8_countBoth cX8_countBoth 10 (some .int)]
  | 1 => wsX8_countBoth_r1
  | 2 => wsX8_countBoth_r2
  | 3 => wsX8_countBoth_r3
  | 4 => wsX8_countBoth_r4
  | 5 => wsX8_countBoth_r5
  | 6 => wsX8_countBoth_r6
  | 7 => wsX80
  | 8 => wsX40
  | 9 => wsX10
  | 10 => wsX20
  | 11 => wsX50
  | _ => []
theorem chwsX8_countBoth_in : ∀ (j : Nat) (w : Cond), w ∈ chwsX8_countBoth j → w ∈ wsX8_countBoth
  | 0, w, h => chIwsX8_countBoth_0 w h
  | 1, w, h => chIwsX8_countBoth_1 w h
  | 2, w, h => chIwsX8_countBoth_2 w h
  | 3, w, h => chIwsX8_countBoth_3 w h
  | 4, w, h => chIwsX8_countBoth_4 w h
  | 5, w, h => chIwsX8_countBoth_5 w h
  | 6, w, h => chIwsX8_countBoth_6 w h
  | 7, w, h => chIwsX8_countBoth_7 w h
  | 8, w, h => chIwsX8_countBoth_8 w h
  | 9, w, h => chIwsX8_countBoth_9 w h
  | 10, w, h => chIwsX8_countBoth_10 w h
  | 11, w, h => chIwsX8_countBoth_11 w h
  | _ + 12, _, h => absurd h List.not_mem_nil
set_option maxRecDepth 20000 in
theorem ggX8_countBoth_X9_numbersOf : GoodIn wsX8_countBoth wsX9_numbersOf := goodIn_r2 chwsX8_countBoth chwsX8_countBoth_in _ [(1, 5), (1, 6), (1, 7), (1, 8), (1, 9), (1, 10), (1, 11), (1, 12)] rfl (by decide +kernel)
set_option maxRecDepth 20000 in
theorem gX8_countBoth_X9_numbersOf_n72 : GoodIn wsX8_countBoth (wsX9_numbersOf) := ggX8_countBoth_X9_numbersOf
set_option maxRecDepth 20000 in
theorem ggX8_countBoth_X8_countUnshown : GoodIn wsX8_countBoth wsX8_countUnshown := goodIn_r2 chwsX8_countBoth chwsX8_countBoth_in _ [(1, 17), (1, 0), (1, 1), (1, 2), (1, 18), (1, 19), (1, 20), (1, 21), (1, 3), (1, 4), (1, 5), (1, 6), (1, 7), (1, 8), (1, 9), (1, 10), (1, 11), (1, 12), (1, 22), (1, 23), (1, 16), (2, 0), (2, 1), (2, 2), (2, 3), (2, 4), (2, 5), (2, 6), (2, 7), (2, 8), (2, 9), (2, 10), (2, 11), (2, 12), (2, 13), (2, 14), (2, 15), (2, 16), (2, 17), (2, 18), (2, 19), (2, 20), (2, 21), (2, 22), (2, 23), (3, 0), (3, 1), (3, 2), (3, 3), (3, 4), (3, 5), (3, 6), (3, 7), (3, 8), (3, 9), (3, 10), (3, 11), (3, 12), (3, 13), (3, 14), (3, 15), (3, 16), (3, 17), (3, 18), (3, 19), (3, 20), (3, 21), (3, 22), (3, 23), (4, 0), (4, 1), (4, 2), (4, 3), (4, 4), (4, 5), (4, 6), (4, 7), (4, 8), (4, 9), (4, 10), (4, 11), (4, 12), (4, 13), (4, 14), (4, 15), (4, 16), (4, 17), (4, 18), (4, 19), (4, 20), (4, 21), (4, 22), (4, 23), (5, 0), (5, 1), (5, 2), (5, 3), (5, 4), (5, 5), (5, 6), (5, 7), (5, 8), (5, 9), (5, 10), (5, 11), (5, 12), (5, 13), (5, 14), (5, 15), (5, 16), (5, 17), (5, 18), (5, 19), (5, 20), (5, 21), (5, 22), (5, 23), (6, 0), (6, 1), (6, 2), (7, 0), (7, 1), (7, 2), (7, 3), (7, 4), (7, 5), (7, 6), (7, 7), (7, 8), (7, 9), (7, 10), (7, 11), (7, 12), (7, 13), (7, 14), (7, 15), (7, 16), (8, 0), (8, 1), (8, 2), (8, 3), (8, 4), (8, 5), (9, 0), (9, 1), (9, 2), (9, 3), (9, 4), (9, 5), (9, 6), (10, 0), (10, 1), (10, 2), (10, 3), (10, 4), (11, 0), (11, 1), (11, 2), (11, 3), (11, 4), (11, 5), (11, 6), (11, 7), (11, 8)] rfl (by decide +kernel)
set_option maxRecDepth 20000 in
theorem gX8_countBoth_X8_countUnshown : GoodIn wsX8_countBoth (wsV RX8 117 RX8 yX8_countUnshown wsX8_countUnshown) := goodIn_app (goodIn_r2 chwsX8_countBoth chwsX8_countBoth_in _ [(1, 13), (1, 14), (1, 15), (1, 16)] rfl (by decide +kernel)) ggX8_countBoth_X8_countUnshown
set_option maxRecDepth 20000 in
theorem ggX8_countBoth_X9_following : GoodIn wsX8_countBoth wsX9_following := goodIn_r2 chwsX8_countBoth chwsX8_countBoth_in _ [(6, 2)] rfl (by decide +kernel)
set_option maxRecDepth 20000 in
theorem gX8_countBoth_X9_following_n88 : GoodIn wsX8_countBoth (wsX9_following) := ggX8_countBoth_X9_following
theorem dX8_countBoth_0 : decode cX8_countBoth 0 = .ok (.iload_n 2, 1) := by decide +kernel
theorem dX8_countBoth_1 : decode cX8_countBoth 1 = .ok (.iload_n 3, 1) := by decide +kernel
theorem dX8_countBoth_2 : decode cX8_countBoth 2 = .ok (.ior, 1) := by decide +kernel
theorem dX8_countBoth_3 : decode cX8_countBoth 3 = .ok (.aload_n 0, 1) := by decide +kernel
theorem dX8_countBoth_4 : decode cX8_countBoth 4 = .ok (.getfield 56, 3) := by decide +kernel
theorem dX8_countBoth_7 : decode cX8_countBoth 7 = .ok (.iand, 1) := by decide +kernel
theorem dX8_countBoth_8 : decode cX8_countBoth 8 = .ok (.istore 4, 2) := by decide +kernel
theorem dX8_countBoth_10 : decode cX8_countBoth 10 = .ok (.iload 4, 2) := by decide +kernel
theorem dX8_countBoth_12 : decode cX8_countBoth 12 = .ok (.aload_n 0, 1) := by decide +kernel
theorem dX8_countBoth_13 : decode cX8_countBoth 13 = .ok (.getfield 46, 3) := by decide +kernel
theorem dX8_countBoth_16 : decode cX8_countBoth 16 = .ok (.getfield 69, 3) := by decide +kernel
theorem dX8_countBoth_19 : decode cX8_countBoth 19 = .ok (.iand, 1) := by decide +kernel
theorem dX8_countBoth_20 : decode cX8_countBoth 20 = .ok (.istore 5, 2) := by decide +kernel
theorem dX8_countBoth_22 : decode cX8_countBoth 22 = .ok (.iload 5, 2) := by decide +kernel
theorem dX8_countBoth_24 : decode cX8_countBoth 24 = .ok (.invokestatic 72, 3) := by decide +kernel
theorem dX8_countBoth_27 : decode cX8_countBoth 27 = .ok (.istore 6, 2) := by decide +kernel
theorem dX8_countBoth_29 : decode cX8_countBoth 29 = .ok (.iconst 0, 1) := by decide +kernel
theorem dX8_countBoth_30 : decode cX8_countBoth 30 = .ok (.istore 7, 2) := by decide +kernel
theorem dX8_countBoth_32 : decode cX8_countBoth 32 = .ok (.iconst 0, 1) := by decide +kernel
theorem dX8_countBoth_33 : decode cX8_countBoth 33 = .ok (.istore 8, 2) := by decide +kernel
theorem dX8_countBoth_35 : decode cX8_countBoth 35 = .ok (.iconst 0, 1) := by decide +kernel
theorem dX8_countBoth_36 : decode cX8_countBoth 36 = .ok (.istore 9, 2) := by decide +kernel
theorem dX8_countBoth_38 : decode cX8_countBoth 38 = .ok (.iload 9, 2) := by decide +kernel
theorem dX8_countBoth_40 : decode cX8_countBoth 40 = .ok (.iload 6, 2) := by decide +kernel
theorem dX8_countBoth_42 : decode cX8_countBoth 42 = .ok (.if_icmp .ge 33, 3) := by decide +kernel
theorem dX8_countBoth_45 : decode cX8_countBoth 45 = .ok (.iload 8, 2) := by decide +kernel
theorem dX8_countBoth_47 : decode cX8_countBoth 47 = .ok (.aload_n 0, 1) := by decide +kernel
theorem dX8_countBoth_48 : decode cX8_countBoth 48 = .ok (.iload_n 1, 1) := by decide +kernel
theorem dX8_countBoth_49 : decode cX8_countBoth 49 = .ok (.iload 7, 2) := by decide +kernel
theorem dX8_countBoth_51 : decode cX8_countBoth 51 = .ok (.ior, 1) := by decide +kernel
theorem dX8_countBoth_52 : decode cX8_countBoth 52 = .ok (.iload_n 2, 1) := by decide +kernel
theorem dX8_countBoth_53 : decode cX8_countBoth 53 = .ok (.iload_n 3, 1) := by decide +kernel
theorem dX8_countBoth_54 : decode cX8_countBoth 54 = .ok (.invokevirtual 117, 3) := by decide +kernel
theorem dX8_countBoth_57 : decode cX8_countBoth 57 = .ok (.iadd, 1) := by decide +kernel
theorem dX8_countBoth_58 : decode cX8_countBoth 58 = .ok (.istore 8, 2) := by decide +kernel
theorem dX8_countBoth_60 : decode cX8_countBoth 60 = .ok (.iload 7, 2) := by decide +kernel
theorem dX8_countBoth_62 : decode cX8_countBoth 62 = .ok (.iload 5, 2) := by decide +kernel
theorem dX8_countBoth_64 : decode cX8_countBoth 64 = .ok (.invokestatic 88, 3) := by decide +kernel
theorem dX8_countBoth_67 : decode cX8_countBoth 67 = .ok (.istore 7, 2) := by decide +kernel
theorem dX8_countBoth_69 : decode cX8_countBoth 69 = .ok (.iinc 9 1, 3) := by decide +kernel
theorem dX8_countBoth_72 : decode cX8_countBoth 72 = .ok (.goto (-34), 3) := by decide +kernel
theorem dX8_countBoth_75 : decode cX8_countBoth 75 = .ok (.iload 8, 2) := by decide +kernel
theorem dX8_countBoth_77 : decode cX8_countBoth 77 = .ok (.iload 4, 2) := by decide +kernel
theorem dX8_countBoth_79 : decode cX8_countBoth 79 = .ok (.aload_n 0, 1) := by decide +kernel
theorem dX8_countBoth_80 : decode cX8_countBoth 80 = .ok (.getfield 46, 3) := by decide +kernel
theorem dX8_countBoth_83 : decode cX8_countBoth 83 = .ok (.getfield 69, 3) := by decide +kernel
theorem dX8_countBoth_86 : decode cX8_countBoth 86 = .ok (.iconst (-1), 1) := by decide +kernel
theorem dX8_countBoth_87 : decode cX8_countBoth 87 = .ok (.ixor, 1) := by decide +kernel
theorem dX8_countBoth_88 : decode cX8_countBoth 88 = .ok (.iand, 1) := by decide +kernel
theorem dX8_countBoth_89 : decode cX8_countBoth 89 = .ok (.invokestatic 72, 3) := by decide +kernel
theorem dX8_countBoth_92 : decode cX8_countBoth 92 = .ok (.imul, 1) := by decide +kernel
theorem dX8_countBoth_93 : decode cX8_countBoth 93 = .ok (.ireturn, 1) := by decide +kernel
theorem chIwsX8_countUnshown_0 : ∀ w ∈ ([.code yX8_countUnshown cX8_countUnshown 12 (some .int)] : List Cond), w ∈ wsX8_countUnshown := fun _ h => (List.mem_cons.mpr (Or.inl (List.mem_singleton.mp h)))
theorem chIwsX8_countUnshown_1 : ∀ w ∈ (wsX8_countUnshown_r1 : List Cond), w ∈ wsX8_countUnshown := fun _ h => (List.mem_cons_of_mem _ (List.mem_append_left _ (List.mem_append_left _ (List.mem_append_left _ (List.mem_append_left _ (List.mem_append_left _ (List.mem_append_left _ h)))))))
theorem chIwsX8_countUnshown_2 : ∀ w ∈ (wsX8_countUnshown_r2 : List Cond), w ∈ wsX8_countUnshown := fun _ h => (List.mem_cons_of_mem _ (List.mem_append_left _ (List.mem_append_left _ (List.mem_append_left _ (List.mem_append_left _ (List.mem_append_left _ (List.mem_append_right _ (List.mem_append_left _ h))))))))
theorem chIwsX8_countUnshown_3 : ∀ w ∈ (wsX8_countUnshown_r3 : List Cond), w ∈ wsX8_countUnshown := fun _ h => (List.mem_cons_of_mem _ (List.mem_append_left _ (List.mem_append_left _ (List.mem_append_left _ (List.mem_append_left _ (List.mem_append_left _ (List.mem_append_right _ (List.mem_append_right _ (List.mem_append_left _ h)))))))))
theorem chIwsX8_countUnshown_4 : ∀ w ∈ (wsX8_countUnshown_r4 : List Cond), w ∈ wsX8_countUnshown := fun _ h => (List.mem_cons_of_mem _ (List.mem_append_left _ (List.mem_append_left _ (List.mem_append_left _ (List.mem_append_left _ (List.mem_append_left _ (List.mem_append_right _ (List.mem_append_right _ (List.mem_append_right _ (List.mem_append_left _ h))))))))))
theorem chIwsX8_countUnshown_5 : ∀ w ∈ (wsX8_countUnshown_r5 : List Cond), w ∈ wsX8_countUnshown := fun _ h => (List.mem_cons_of_mem _ (List.mem_append_left _ (List.mem_append_left _ (List.mem_append_left _ (List.mem_append_left _ (List.mem_append_left _ (List.mem_append_right _ (List.mem_append_right _ (List.mem_append_right _ (List.mem_append_right _ h))))))))))
theorem chIwsX8_countUnshown_6 : ∀ w ∈ (wsX80 : List Cond), w ∈ wsX8_countUnshown := fun _ h => (List.mem_cons_of_mem _ (List.mem_append_left _ (List.mem_append_left _ (List.mem_append_left _ (List.mem_append_left _ (List.mem_append_right _ h))))))
theorem chIwsX8_countUnshown_7 : ∀ w ∈ (wsX40 : List Cond), w ∈ wsX8_countUnshown := fun _ h => (List.mem_cons_of_mem _ (List.mem_append_left _ (List.mem_append_left _ (List.mem_append_left _ (List.mem_append_right _ h)))))
theorem chIwsX8_countUnshown_8 : ∀ w ∈ (wsX10 : List Cond), w ∈ wsX8_countUnshown := fun _ h => (List.mem_cons_of_mem _ (List.mem_append_left _ (List.mem_append_left _ (List.mem_append_right _ h))))
theorem chIwsX8_countUnshown_9 : ∀ w ∈ (wsX20 : List Cond), w ∈ wsX8_countUnshown := fun _ h => (List.mem_cons_of_mem _ (List.mem_append_left _ (List.mem_append_right _ h)))
theorem chIwsX8_countUnshown_10 : ∀ w ∈ (wsX50 : List Cond), w ∈ wsX8_countUnshown := fun _ h => (List.mem_cons_of_mem _ (List.mem_append_right _ h))
def chwsX8_countUnshown : Nat → List Cond
  | 0 => [.code yX8_countUnshown cX8_countUnshown 12 (some .int)]
  | 1 => wsX8_countUnshown_r1
  | 2 => wsX8_countUnshown_r2
  | 3 => wsX8_countUnshown_r3
  | 4 => wsX8_countUnshown_r4
  | 5 => wsX8_countUnshown_r5
  | 6 => wsX80
  | 7 => wsX40
  | 8 => wsX10
  | 9 => wsX20
  | 10 => wsX50
  | _ => []
theorem chwsX8_countUnshown_in : ∀ (j : Nat) (w : Cond), w ∈ chwsX8_countUnshown j → w ∈ wsX8_countUnshown
  | 0, w, h => chIwsX8_countUnshown_0 w h
  | 1, w, h => chIwsX8_countUnshown_1 w h
  | 2, w, h => chIwsX8_countUnshown_2 w h
  | 3, w, h => chIwsX8_countUnshown_3 w h
  | 4, w, h => chIwsX8_countUnshown_4 w h
  | 5, w, h => chIwsX8_countUnshown_5 w h
  | 6, w, h => chIwsX8_countUnshown_6 w h
  | 7, w, h => chIwsX8_countUnshown_7 w h
  | 8, w, h => chIwsX8_countUnshown_8 w h
  | 9, w, h => chIwsX8_countUnshown_9 w h
  | 10, w, h => chIwsX8_countUnshown_10 w h
  | _ + 11, _, h => absurd h List.not_mem_nil
set_option maxRecDepth 20000 in
theorem ggX8_countUnshown_X9_numbersOf : GoodIn wsX8_countUnshown wsX9_numbersOf := goodIn_r2 chwsX8_countUnshown chwsX8_countUnshown_in _ [(1, 9), (1, 10), (1, 11), (1, 12), (1, 13), (1, 14), (1, 15), (1, 16)] rfl (by decide +kernel)
set_option maxRecDepth 20000 in
theorem gX8_countUnshown_X9_numbersOf_n72 : GoodIn wsX8_countUnshown (wsX9_numbersOf) := ggX8_countUnshown_X9_numbersOf
set_option maxRecDepth 20000 in
theorem ggX8_countUnshown_X8_lensOf : GoodIn wsX8_countUnshown wsX8_lensOf := goodIn_r2 chwsX8_countUnshown chwsX8_countUnshown_in _ [(1, 20), (1, 21)] rfl (by decide +kernel)
set_option maxRecDepth 20000 in
theorem gX8_countUnshown_X8_lensOf : GoodIn wsX8_countUnshown (va_wsS RX8 61 yX8_lensOf wsX8_lensOf) := goodIn_app (goodIn_r2 chwsX8_countUnshown chwsX8_countUnshown_in _ [(1, 17), (1, 18), (1, 19)] rfl (by decide +kernel)) ggX8_countUnshown_X8_lensOf
set_option maxRecDepth 20000 in
theorem ggX8_countUnshown_X1_begin : GoodIn wsX8_countUnshown wsX1_begin := goodIn_r2 chwsX8_countUnshown chwsX8_countUnshown_in _ [(2, 2), (2, 3), (2, 4), (2, 5), (2, 6), (2, 7), (2, 8), (2, 9), (2, 10), (8, 0), (8, 1), (8, 2), (8, 3), (8, 4), (8, 5), (8, 6)] rfl (by decide +kernel)
set_option maxRecDepth 20000 in
theorem gX8_countUnshown_X1_begin : GoodIn wsX8_countUnshown (wsV RX8 76 RX1 yX1_begin wsX1_begin) := goodIn_app (goodIn_r2 chwsX8_countUnshown chwsX8_countUnshown_in _ [(1, 22), (1, 23), (2, 0), (2, 1)] rfl (by decide +kernel)) ggX8_countUnshown_X1_begin
set_option maxRecDepth 20000 in
theorem ggX8_countUnshown_X8_look : GoodIn wsX8_countUnshown wsX8_look := goodIn_r2 chwsX8_countUnshown chwsX8_countUnshown_in _ [(2, 14), (1, 1), (1, 2), (2, 15), (2, 16), (2, 17), (2, 18), (2, 19), (2, 20), (2, 21), (2, 22), (2, 23), (3, 0), (3, 1), (3, 2), (3, 3), (3, 4), (3, 5), (3, 6), (3, 7), (3, 8), (3, 9), (3, 10), (3, 11), (3, 12), (3, 13), (3, 14), (3, 15), (2, 6), (3, 16), (3, 17), (3, 18), (3, 19), (3, 20), (3, 21), (3, 22), (3, 23), (4, 0), (4, 1), (4, 2), (4, 3), (4, 4), (4, 5), (4, 6), (4, 7), (4, 8), (4, 9), (4, 10), (4, 11), (4, 12), (4, 13), (4, 14), (1, 19), (4, 15), (4, 16), (4, 17), (4, 18), (4, 19), (4, 20), (4, 21), (4, 22), (4, 23), (5, 0), (2, 5), (2, 7), (5, 1), (1, 8), (5, 2), (6, 0), (6, 1), (6, 2), (6, 3), (6, 4), (6, 5), (6, 6), (6, 7), (6, 8), (6, 9), (6, 10), (6, 11), (6, 12), (6, 13), (6, 14), (6, 15), (6, 16), (7, 0), (7, 1), (7, 2), (7, 3), (7, 4), (7, 5), (9, 0), (9, 1), (9, 2), (9, 3), (9, 4), (10, 0), (10, 1), (10, 2), (10, 3), (10, 4), (10, 5), (10, 6), (10, 7), (10, 8)] rfl (by decide +kernel)
set_option maxRecDepth 20000 in
theorem gX8_countUnshown_X8_look : GoodIn wsX8_countUnshown (wsV RX8 80 RX8 yX8_look wsX8_look) := goodIn_app (goodIn_r2 chwsX8_countUnshown chwsX8_countUnshown_in _ [(2, 11), (2, 12), (2, 13), (1, 19)] rfl (by decide +kernel)) ggX8_countUnshown_X8_look
set_option maxRecDepth 20000 in
theorem ggX8_countUnshown_X1_put : GoodIn wsX8_countUnshown wsX1_put := goodIn_r2 chwsX8_countUnshown chwsX8_countUnshown_in _ [(5, 6), (5, 7), (5, 8), (2, 8), (2, 3), (5, 9), (5, 10), (5, 11), (5, 12), (5, 13), (2, 1), (5, 14), (2, 9), (2, 4), (2, 5), (2, 6), (2, 7), (5, 15), (5, 16), (5, 17), (5, 18), (5, 19), (2, 10), (5, 20), (3, 15), (3, 16), (8, 0), (8, 1), (8, 2), (8, 3), (8, 4), (8, 5), (8, 6)] rfl (by decide +kernel)
set_option maxRecDepth 20000 in
theorem gX8_countUnshown_X1_put : GoodIn wsX8_countUnshown (wsV RX8 84 RX1 yX1_put wsX1_put) := goodIn_app (goodIn_r2 chwsX8_countUnshown chwsX8_countUnshown_in _ [(5, 3), (5, 4), (5, 5), (2, 1)] rfl (by decide +kernel)) ggX8_countUnshown_X1_put
set_option maxRecDepth 20000 in
theorem ggX8_countUnshown_X9_following : GoodIn wsX8_countUnshown wsX9_following := goodIn_r2 chwsX8_countUnshown chwsX8_countUnshown_in _ [(5, 22)] rfl (by decide +kernel)
set_option maxRecDepth 20000 in
theorem gX8_countUnshown_X9_following_n88 : GoodIn wsX8_countUnshown (wsX9_following) := ggX8_countUnshown_X9_following
theorem dX8_countUnshown_0 : decode cX8_countUnshown 0 = .ok (.aload_n 0, 1) := by decide +kernel
theorem dX8_countUnshown_1 : decode cX8_countUnshown 1 = .ok (.getfield 56, 3) := by decide +kernel
theorem dX8_countUnshown_4 : decode cX8_countUnshown 4 = .ok (.aload_n 0, 1) := by decide +kernel
theorem dX8_countUnshown_5 : decode cX8_countUnshown 5 = .ok (.getfield 46, 3) := by decide +kernel
theorem dX8_countUnshown_8 : decode cX8_countUnshown 8 = .ok (.getfield 69, 3) := by decide +kernel
theorem dX8_countUnshown_11 : decode cX8_countUnshown 11 = .ok (.iand, 1) := by decide +kernel
theorem dX8_countUnshown_12 : decode cX8_countUnshown 12 = .ok (.iload_n 2, 1) := by decide +kernel
theorem dX8_countUnshown_13 : decode cX8_countUnshown 13 = .ok (.iload_n 3, 1) := by decide +kernel
theorem dX8_countUnshown_14 : decode cX8_countUnshown 14 = .ok (.ior, 1) := by decide +kernel
theorem dX8_countUnshown_15 : decode cX8_countUnshown 15 = .ok (.iconst (-1), 1) := by decide +kernel
theorem dX8_countUnshown_16 : decode cX8_countUnshown 16 = .ok (.ixor, 1) := by decide +kernel
theorem dX8_countUnshown_17 : decode cX8_countUnshown 17 = .ok (.iand, 1) := by decide +kernel
theorem dX8_countUnshown_18 : decode cX8_countUnshown 18 = .ok (.istore 4, 2) := by decide +kernel
theorem dX8_countUnshown_20 : decode cX8_countUnshown 20 = .ok (.iload 4, 2) := by decide +kernel
theorem dX8_countUnshown_22 : decode cX8_countUnshown 22 = .ok (.invokestatic 72, 3) := by decide +kernel
theorem dX8_countUnshown_25 : decode cX8_countUnshown 25 = .ok (.istore 5, 2) := by decide +kernel
theorem dX8_countUnshown_27 : decode cX8_countUnshown 27 = .ok (.iload_n 2, 1) := by decide +kernel
theorem dX8_countUnshown_28 : decode cX8_countUnshown 28 = .ok (.aload_n 0, 1) := by decide +kernel
theorem dX8_countUnshown_29 : decode cX8_countUnshown 29 = .ok (.getfield 65, 3) := by decide +kernel
theorem dX8_countUnshown_32 : decode cX8_countUnshown 32 = .ok (.ldc2_w 59, 3) := by decide +kernel
theorem dX8_countUnshown_35 : decode cX8_countUnshown 35 = .ok (.land, 1) := by decide +kernel
theorem dX8_countUnshown_36 : decode cX8_countUnshown 36 = .ok (.invokestatic 61, 3) := by decide +kernel
theorem dX8_countUnshown_39 : decode cX8_countUnshown 39 = .ok (.lstore 6, 2) := by decide +kernel
theorem dX8_countUnshown_41 : decode cX8_countUnshown 41 = .ok (.iload_n 3, 1) := by decide +kernel
theorem dX8_countUnshown_42 : decode cX8_countUnshown 42 = .ok (.aload_n 0, 1) := by decide +kernel
theorem dX8_countUnshown_43 : decode cX8_countUnshown 43 = .ok (.getfield 65, 3) := by decide +kernel
theorem dX8_countUnshown_46 : decode cX8_countUnshown 46 = .ok (.ldc2_w 59, 3) := by decide +kernel
theorem dX8_countUnshown_49 : decode cX8_countUnshown 49 = .ok (.land, 1) := by decide +kernel
theorem dX8_countUnshown_50 : decode cX8_countUnshown 50 = .ok (.invokestatic 61, 3) := by decide +kernel
theorem dX8_countUnshown_53 : decode cX8_countUnshown 53 = .ok (.lstore 8, 2) := by decide +kernel
theorem dX8_countUnshown_55 : decode cX8_countUnshown 55 = .ok (.aload_n 0, 1) := by decide +kernel
theorem dX8_countUnshown_56 : decode cX8_countUnshown 56 = .ok (.getfield 21, 3) := by decide +kernel
theorem dX8_countUnshown_59 : decode cX8_countUnshown 59 = .ok (.iload 5, 2) := by decide +kernel
theorem dX8_countUnshown_61 : decode cX8_countUnshown 61 = .ok (.invokevirtual 76, 3) := by decide +kernel
theorem dX8_countUnshown_64 : decode cX8_countUnshown 64 = .ok (.iconst 0, 1) := by decide +kernel
theorem dX8_countUnshown_65 : decode cX8_countUnshown 65 = .ok (.istore 10, 2) := by decide +kernel
theorem dX8_countUnshown_67 : decode cX8_countUnshown 67 = .ok (.iconst 0, 1) := by decide +kernel
theorem dX8_countUnshown_68 : decode cX8_countUnshown 68 = .ok (.istore 11, 2) := by decide +kernel
theorem dX8_countUnshown_70 : decode cX8_countUnshown 70 = .ok (.iload 11, 2) := by decide +kernel
theorem dX8_countUnshown_72 : decode cX8_countUnshown 72 = .ok (.iload 5, 2) := by decide +kernel
theorem dX8_countUnshown_74 : decode cX8_countUnshown 74 = .ok (.if_icmp .ge 51, 3) := by decide +kernel
theorem dX8_countUnshown_77 : decode cX8_countUnshown 77 = .ok (.aload_n 0, 1) := by decide +kernel
theorem dX8_countUnshown_78 : decode cX8_countUnshown 78 = .ok (.getfield 21, 3) := by decide +kernel
theorem dX8_countUnshown_81 : decode cX8_countUnshown 81 = .ok (.aload_n 0, 1) := by decide +kernel
theorem dX8_countUnshown_82 : decode cX8_countUnshown 82 = .ok (.iload_n 1, 1) := by decide +kernel
theorem dX8_countUnshown_83 : decode cX8_countUnshown 83 = .ok (.iload 10, 2) := by decide +kernel
theorem dX8_countUnshown_85 : decode cX8_countUnshown 85 = .ok (.ior, 1) := by decide +kernel
theorem dX8_countUnshown_86 : decode cX8_countUnshown 86 = .ok (.iconst 1, 1) := by decide +kernel
theorem dX8_countUnshown_87 : decode cX8_countUnshown 87 = .ok (.iconst 0, 1) := by decide +kernel
theorem dX8_countUnshown_88 : decode cX8_countUnshown 88 = .ok (.invokevirtual 80, 3) := by decide +kernel
theorem dX8_countUnshown_91 : decode cX8_countUnshown 91 = .ok (.lload 6, 2) := by decide +kernel
theorem dX8_countUnshown_93 : decode cX8_countUnshown 93 = .ok (.land, 1) := by decide +kernel
theorem dX8_countUnshown_94 : decode cX8_countUnshown 94 = .ok (.aload_n 0, 1) := by decide +kernel
theorem dX8_countUnshown_95 : decode cX8_countUnshown 95 = .ok (.iload_n 1, 1) := by decide +kernel
theorem dX8_countUnshown_96 : decode cX8_countUnshown 96 = .ok (.iload 10, 2) := by decide +kernel
theorem dX8_countUnshown_98 : decode cX8_countUnshown 98 = .ok (.ior, 1) := by decide +kernel
theorem dX8_countUnshown_99 : decode cX8_countUnshown 99 = .ok (.iconst 2, 1) := by decide +kernel
theorem dX8_countUnshown_100 : decode cX8_countUnshown 100 = .ok (.iconst 0, 1) := by decide +kernel
theorem dX8_countUnshown_101 : decode cX8_countUnshown 101 = .ok (.invokevirtual 80, 3) := by decide +kernel
theorem dX8_countUnshown_104 : decode cX8_countUnshown 104 = .ok (.lload 8, 2) := by decide +kernel
theorem dX8_countUnshown_106 : decode cX8_countUnshown 106 = .ok (.land, 1) := by decide +kernel
theorem dX8_countUnshown_107 : decode cX8_countUnshown 107 = .ok (.invokevirtual 84, 3) := by decide +kernel
theorem dX8_countUnshown_110 : decode cX8_countUnshown 110 = .ok (.iload 10, 2) := by decide +kernel
theorem dX8_countUnshown_112 : decode cX8_countUnshown 112 = .ok (.iload 4, 2) := by decide +kernel
theorem dX8_countUnshown_114 : decode cX8_countUnshown 114 = .ok (.invokestatic 88, 3) := by decide +kernel
theorem dX8_countUnshown_117 : decode cX8_countUnshown 117 = .ok (.istore 10, 2) := by decide +kernel
theorem dX8_countUnshown_119 : decode cX8_countUnshown 119 = .ok (.iinc 11 1, 3) := by decide +kernel
theorem dX8_countUnshown_122 : decode cX8_countUnshown 122 = .ok (.goto (-52), 3) := by decide +kernel
theorem dX8_countUnshown_125 : decode cX8_countUnshown 125 = .ok (.aload_n 0, 1) := by decide +kernel
theorem dX8_countUnshown_126 : decode cX8_countUnshown 126 = .ok (.getfield 21, 3) := by decide +kernel
theorem dX8_countUnshown_129 : decode cX8_countUnshown 129 = .ok (.getfield 92, 3) := by decide +kernel
theorem dX8_countUnshown_132 : decode cX8_countUnshown 132 = .ok (.ireturn, 1) := by decide +kernel
theorem chIwsX8_fewestStopped_0 : ∀ w ∈ ([.code yX8_fewestStopped cX8_fewestStopped 4 (some .int)] : List Cond), w ∈ wsX8_fewestStopped := fun _ h => (List.mem_cons.mpr (Or.inl (List.mem_singleton.mp h)))
theorem chIwsX8_fewestStopped_1 : ∀ w ∈ (wsX8_fewestStopped_r1 : List Cond), w ∈ wsX8_fewestStopped := fun _ h => (List.mem_cons_of_mem _ (List.mem_append_left _ (List.mem_append_left _ (List.mem_append_left _ (List.mem_append_left _ (List.mem_append_left _ h))))))
theorem chIwsX8_fewestStopped_2 : ∀ w ∈ (wsX8_fewestStopped_r2 : List Cond), w ∈ wsX8_fewestStopped := fun _ h => (List.mem_cons_of_mem _ (List.mem_append_left _ (List.mem_append_left _ (List.mem_append_left _ (List.mem_append_left _ (List.mem_append_right _ (List.mem_append_left _ h)))))))
theorem chIwsX8_fewestStopped_3 : ∀ w ∈ (wsX8_fewestStopped_r3 : List Cond), w ∈ wsX8_fewestStopped := fun _ h => (List.mem_cons_of_mem _ (List.mem_append_left _ (List.mem_append_left _ (List.mem_append_left _ (List.mem_append_left _ (List.mem_append_right _ (List.mem_append_right _ (List.mem_append_left _ h))))))))
theorem chIwsX8_fewestStopped_4 : ∀ w ∈ (wsX8_fewestStopped_r4 : List Cond), w ∈ wsX8_fewestStopped := fun _ h => (List.mem_cons_of_mem _ (List.mem_append_left _ (List.mem_append_left _ (List.mem_append_left _ (List.mem_append_left _ (List.mem_append_right _ (List.mem_append_right _ (List.mem_append_right _ (List.mem_append_left _ h)))))))))
theorem chIwsX8_fewestStopped_5 : ∀ w ∈ (wsX8_fewestStopped_r5 : List Cond), w ∈ wsX8_fewestStopped := fun _ h => (List.mem_cons_of_mem _ (List.mem_append_left _ (List.mem_append_left _ (List.mem_append_left _ (List.mem_append_left _ (List.mem_append_right _ (List.mem_append_right _ (List.mem_append_right _ (List.mem_append_right _ h)))))))))
theorem chIwsX8_fewestStopped_6 : ∀ w ∈ (wsX80 : List Cond), w ∈ wsX8_fewestStopped := fun _ h => (List.mem_cons_of_mem _ (List.mem_append_left _ (List.mem_append_left _ (List.mem_append_left _ (List.mem_append_right _ h)))))
theorem chIwsX8_fewestStopped_7 : ∀ w ∈ (wsX40 : List Cond), w ∈ wsX8_fewestStopped := fun _ h => (List.mem_cons_of_mem _ (List.mem_append_left _ (List.mem_append_left _ (List.mem_append_right _ h))))
theorem chIwsX8_fewestStopped_8 : ∀ w ∈ (wsX20 : List Cond), w ∈ wsX8_fewestStopped := fun _ h => (List.mem_cons_of_mem _ (List.mem_append_left _ (List.mem_append_right _ h)))
theorem chIwsX8_fewestStopped_9 : ∀ w ∈ (wsX50 : List Cond), w ∈ wsX8_fewestStopped := fun _ h => (List.mem_cons_of_mem _ (List.mem_append_right _ h))
def chwsX8_fewestStopped : Nat → List Cond
  | 0 => [.code yX8_fewestStopped cX8_fewestStopped 4 (some .int)]
  | 1 => wsX8_fewestStopped_r1
  | 2 => wsX8_fewestStopped_r2
  | 3 => wsX8_fewestStopped_r3
  | 4 => wsX8_fewestStopped_r4
  | 5 => wsX8_fewestStopped_r5
  | 6 => wsX80
  | 7 => wsX40
  | 8 => wsX20
  | 9 => wsX50
  | _ => []
theorem chwsX8_fewestStopped_in : ∀ (j : Nat) (w : Cond), w ∈ chwsX8_fewestStopped j → w ∈ wsX8_fewestStopped
  | 0, w, h => chIwsX8_fewestStopped_0 w h
  | 1, w, h => chIwsX8_fewestStopped_1 w h
  | 2, w, h => chIwsX8_fewestStopped_2 w h
  | 3, w, h => chIwsX8_fewestStopped_3 w h
  | 4, w, h => chIwsX8_fewestStopped_4 w h
  | 5, w, h => chIwsX8_fewestStopped_5 w h
  | 6, w, h => chIwsX8_fewestStopped_6 w h
  | 7, w, h => chIwsX8_fewestStopped_7 w h
  | 8, w, h => chIwsX8_fewestStopped_8 w h
  | 9, w, h => chIwsX8_fewestStopped_9 w h
  | _ + 10, _, h => absurd h List.not_mem_nil
set_option maxRecDepth 20000 in
theorem ggX8_fewestStopped_J6_bitCount_0f7a4 : GoodIn wsX8_fewestStopped wsJ6_bitCount_0f7a4 := goodIn_r2 chwsX8_fewestStopped chwsX8_fewestStopped_in _ [(1, 10), (1, 11), (1, 12), (1, 13)] rfl (by decide +kernel)
set_option maxRecDepth 20000 in
theorem gX8_fewestStopped_J6_bitCount_0f7a4 : GoodIn wsX8_fewestStopped (va_wsS RX8 132 yJ6_bitCount_0f7a4 wsJ6_bitCount_0f7a4) := goodIn_app (goodIn_r2 chwsX8_fewestStopped chwsX8_fewestStopped_in _ [(1, 7), (1, 8), (1, 9)] rfl (by decide +kernel)) ggX8_fewestStopped_J6_bitCount_0f7a4
set_option maxRecDepth 20000 in
theorem ggX8_fewestStopped_X8_isSafeWithout : GoodIn wsX8_fewestStopped wsX8_isSafeWithout := goodIn_r2 chwsX8_fewestStopped chwsX8_fewestStopped_in _ [(1, 18), (1, 6), (1, 19), (1, 20), (1, 21), (1, 22), (1, 23), (2, 0), (2, 1), (2, 2), (2, 3), (1, 17), (2, 4), (1, 0), (2, 5), (2, 6), (2, 7), (2, 8), (2, 9), (2, 10), (2, 11), (2, 12), (2, 13), (2, 14), (2, 15), (2, 16), (2, 17), (2, 18), (2, 19), (2, 20), (2, 21), (2, 22), (2, 23), (3, 0), (3, 1), (3, 2), (3, 3), (3, 4), (3, 5), (3, 6), (1, 4), (3, 7), (3, 8), (3, 9), (3, 10), (3, 11), (3, 12), (3, 13), (3, 14), (3, 15), (3, 16), (3, 17), (3, 18), (3, 19), (3, 20), (3, 21), (3, 22), (3, 23), (4, 0), (4, 1), (4, 2), (4, 3), (4, 4), (4, 5), (4, 6), (4, 7), (4, 8), (4, 9), (4, 10), (4, 11), (4, 12), (4, 13), (4, 14), (4, 15), (1, 3), (1, 5), (4, 16), (4, 17), (4, 18), (4, 19), (4, 20), (4, 21), (4, 22), (4, 23), (5, 0), (5, 1), (5, 2), (5, 3), (1, 8), (1, 9), (1, 10), (1, 11), (1, 12), (1, 13), (5, 4), (5, 5), (6, 0), (6, 1), (6, 2), (6, 3), (6, 4), (6, 5), (6, 6), (6, 7), (6, 8), (6, 9), (6, 10), (6, 11), (6, 12), (6, 13), (6, 14), (6, 15), (6, 16), (7, 0), (7, 1), (7, 2), (7, 3), (7, 4), (7, 5), (8, 0), (8, 1), (8, 2), (8, 3), (8, 4), (9, 0), (9, 1), (9, 2), (9, 3), (9, 4), (9, 5), (9, 6), (9, 7), (9, 8)] rfl (by decide +kernel)
set_option maxRecDepth 20000 in
theorem gX8_fewestStopped_X8_isSafeWithout : GoodIn wsX8_fewestStopped (wsV RX8 137 RX8 yX8_isSafeWithout wsX8_isSafeWithout) := goodIn_app (goodIn_r2 chwsX8_fewestStopped chwsX8_fewestStopped_in _ [(1, 14), (1, 15), (1, 16), (1, 17)] rfl (by decide +kernel)) ggX8_fewestStopped_X8_isSafeWithout
theorem dX8_fewestStopped_0 : decode cX8_fewestStopped 0 = .ok (.aload_n 0, 1) := by decide +kernel
theorem dX8_fewestStopped_1 : decode cX8_fewestStopped 1 = .ok (.getfield 46, 3) := by decide +kernel
theorem dX8_fewestStopped_4 : decode cX8_fewestStopped 4 = .ok (.getfield 121, 3) := by decide +kernel
theorem dX8_fewestStopped_7 : decode cX8_fewestStopped 7 = .ok (.bipush 8, 2) := by decide +kernel
theorem dX8_fewestStopped_9 : decode cX8_fewestStopped 9 = .ok (.invokestatic 124, 3) := by decide +kernel
theorem dX8_fewestStopped_12 : decode cX8_fewestStopped 12 = .ok (.istore_n 1, 1) := by decide +kernel
theorem dX8_fewestStopped_13 : decode cX8_fewestStopped 13 = .ok (.aload_n 0, 1) := by decide +kernel
theorem dX8_fewestStopped_14 : decode cX8_fewestStopped 14 = .ok (.iconst 0, 1) := by decide +kernel
theorem dX8_fewestStopped_15 : decode cX8_fewestStopped 15 = .ok (.putfield 129, 3) := by decide +kernel
theorem dX8_fewestStopped_18 : decode cX8_fewestStopped 18 = .ok (.iconst 0, 1) := by decide +kernel
theorem dX8_fewestStopped_19 : decode cX8_fewestStopped 19 = .ok (.istore_n 2, 1) := by decide +kernel
theorem dX8_fewestStopped_20 : decode cX8_fewestStopped 20 = .ok (.iload_n 2, 1) := by decide +kernel
theorem dX8_fewestStopped_21 : decode cX8_fewestStopped 21 = .ok (.iload_n 1, 1) := by decide +kernel
theorem dX8_fewestStopped_22 : decode cX8_fewestStopped 22 = .ok (.if_icmp .gt 42, 3) := by decide +kernel
theorem dX8_fewestStopped_25 : decode cX8_fewestStopped 25 = .ok (.iconst 0, 1) := by decide +kernel
theorem dX8_fewestStopped_26 : decode cX8_fewestStopped 26 = .ok (.istore_n 3, 1) := by decide +kernel
theorem dX8_fewestStopped_27 : decode cX8_fewestStopped 27 = .ok (.iload_n 3, 1) := by decide +kernel
theorem dX8_fewestStopped_28 : decode cX8_fewestStopped 28 = .ok (.iconst 1, 1) := by decide +kernel
theorem dX8_fewestStopped_29 : decode cX8_fewestStopped 29 = .ok (.iload_n 1, 1) := by decide +kernel
theorem dX8_fewestStopped_30 : decode cX8_fewestStopped 30 = .ok (.ishl, 1) := by decide +kernel
theorem dX8_fewestStopped_31 : decode cX8_fewestStopped 31 = .ok (.if_icmp .ge 27, 3) := by decide +kernel
theorem dX8_fewestStopped_34 : decode cX8_fewestStopped 34 = .ok (.iload_n 3, 1) := by decide +kernel
theorem dX8_fewestStopped_35 : decode cX8_fewestStopped 35 = .ok (.invokestatic 132, 3) := by decide +kernel
theorem dX8_fewestStopped_38 : decode cX8_fewestStopped 38 = .ok (.iload_n 2, 1) := by decide +kernel
theorem dX8_fewestStopped_39 : decode cX8_fewestStopped 39 = .ok (.if_icmp .ne 13, 3) := by decide +kernel
theorem dX8_fewestStopped_42 : decode cX8_fewestStopped 42 = .ok (.aload_n 0, 1) := by decide +kernel
theorem dX8_fewestStopped_43 : decode cX8_fewestStopped 43 = .ok (.iload_n 3, 1) := by decide +kernel
theorem dX8_fewestStopped_44 : decode cX8_fewestStopped 44 = .ok (.invokevirtual 137, 3) := by decide +kernel
theorem dX8_fewestStopped_47 : decode cX8_fewestStopped 47 = .ok (.ifCond .eq 5, 3) := by decide +kernel
theorem dX8_fewestStopped_50 : decode cX8_fewestStopped 50 = .ok (.iload_n 3, 1) := by decide +kernel
theorem dX8_fewestStopped_51 : decode cX8_fewestStopped 51 = .ok (.ireturn, 1) := by decide +kernel
theorem dX8_fewestStopped_52 : decode cX8_fewestStopped 52 = .ok (.iinc 3 1, 3) := by decide +kernel
theorem dX8_fewestStopped_55 : decode cX8_fewestStopped 55 = .ok (.goto (-28), 3) := by decide +kernel
theorem dX8_fewestStopped_58 : decode cX8_fewestStopped 58 = .ok (.iinc 2 1, 3) := by decide +kernel
theorem dX8_fewestStopped_61 : decode cX8_fewestStopped 61 = .ok (.goto (-41), 3) := by decide +kernel
theorem dX8_fewestStopped_64 : decode cX8_fewestStopped 64 = .ok (.iconst (-1), 1) := by decide +kernel
theorem dX8_fewestStopped_65 : decode cX8_fewestStopped 65 = .ok (.ireturn, 1) := by decide +kernel
theorem chIwsX8_isSafeWithout_0 : ∀ w ∈ ([.code yX8_isSafeWithout cX8_isSafeWithout 6 (some .boolean)] : List Cond), w ∈ wsX8_isSafeWithout := fun _ h => (List.mem_cons.mpr (Or.inl (List.mem_singleton.mp h)))
theorem chIwsX8_isSafeWithout_1 : ∀ w ∈ (wsX8_isSafeWithout_r1 : List Cond), w ∈ wsX8_isSafeWithout := fun _ h => (List.mem_cons_of_mem _ (List.mem_append_left _ (List.mem_append_left _ (List.mem_append_left _ (List.mem_append_left _ (List.mem_append_left _ h))))))
theorem chIwsX8_isSafeWithout_2 : ∀ w ∈ (wsX8_isSafeWithout_r2 : List Cond), w ∈ wsX8_isSafeWithout := fun _ h => (List.mem_cons_of_mem _ (List.mem_append_left _ (List.mem_append_left _ (List.mem_append_left _ (List.mem_append_left _ (List.mem_append_right _ (List.mem_append_left _ h)))))))
theorem chIwsX8_isSafeWithout_3 : ∀ w ∈ (wsX8_isSafeWithout_r3 : List Cond), w ∈ wsX8_isSafeWithout := fun _ h => (List.mem_cons_of_mem _ (List.mem_append_left _ (List.mem_append_left _ (List.mem_append_left _ (List.mem_append_left _ (List.mem_append_right _ (List.mem_append_right _ (List.mem_append_left _ h))))))))
theorem chIwsX8_isSafeWithout_4 : ∀ w ∈ (wsX8_isSafeWithout_r4 : List Cond), w ∈ wsX8_isSafeWithout := fun _ h => (List.mem_cons_of_mem _ (List.mem_append_left _ (List.mem_append_left _ (List.mem_append_left _ (List.mem_append_left _ (List.mem_append_right _ (List.mem_append_right _ (List.mem_append_right _ h))))))))
theorem chIwsX8_isSafeWithout_5 : ∀ w ∈ (wsX80 : List Cond), w ∈ wsX8_isSafeWithout := fun _ h => (List.mem_cons_of_mem _ (List.mem_append_left _ (List.mem_append_left _ (List.mem_append_left _ (List.mem_append_right _ h)))))
theorem chIwsX8_isSafeWithout_6 : ∀ w ∈ (wsX40 : List Cond), w ∈ wsX8_isSafeWithout := fun _ h => (List.mem_cons_of_mem _ (List.mem_append_left _ (List.mem_append_left _ (List.mem_append_right _ h))))
theorem chIwsX8_isSafeWithout_7 : ∀ w ∈ (wsX20 : List Cond), w ∈ wsX8_isSafeWithout := fun _ h => (List.mem_cons_of_mem _ (List.mem_append_left _ (List.mem_append_right _ h)))
theorem chIwsX8_isSafeWithout_8 : ∀ w ∈ (wsX50 : List Cond), w ∈ wsX8_isSafeWithout := fun _ h => (List.mem_cons_of_mem _ (List.mem_append_right _ h))
def chwsX8_isSafeWithout : Nat → List Cond
  | 0 => [.code yX8_isSafeWithout cX8_isSafeWithout 6 (some .boolean)]
  | 1 => wsX8_isSafeWithout_r1
  | 2 => wsX8_isSafeWithout_r2
  | 3 => wsX8_isSafeWithout_r3
  | 4 => wsX8_isSafeWithout_r4
  | 5 => wsX80
  | 6 => wsX40
  | 7 => wsX20
  | 8 => wsX50
  | _ => []
theorem chwsX8_isSafeWithout_in : ∀ (j : Nat) (w : Cond), w ∈ chwsX8_isSafeWithout j → w ∈ wsX8_isSafeWithout
  | 0, w, h => chIwsX8_isSafeWithout_0 w h
  | 1, w, h => chIwsX8_isSafeWithout_1 w h
  | 2, w, h => chIwsX8_isSafeWithout_2 w h
  | 3, w, h => chIwsX8_isSafeWithout_3 w h
  | 4, w, h => chIwsX8_isSafeWithout_4 w h
  | 5, w, h => chIwsX8_isSafeWithout_5 w h
  | 6, w, h => chIwsX8_isSafeWithout_6 w h
  | 7, w, h => chIwsX8_isSafeWithout_7 w h
  | 8, w, h => chIwsX8_isSafeWithout_8 w h
  | _ + 9, _, h => absurd h List.not_mem_nil
set_option maxRecDepth 20000 in
theorem ggX8_isSafeWithout_X8_look : GoodIn wsX8_isSafeWithout wsX8_look := goodIn_r2 chwsX8_isSafeWithout chwsX8_isSafeWithout_in _ [(1, 11), (1, 12), (1, 13), (1, 14), (1, 15), (1, 16), (1, 17), (1, 18), (1, 19), (1, 20), (1, 21), (1, 22), (1, 23), (2, 0), (2, 1), (2, 2), (2, 3), (2, 4), (2, 5), (2, 6), (2, 7), (2, 8), (2, 9), (2, 10), (2, 11), (2, 12), (2, 13), (2, 14), (2, 15), (2, 16), (2, 17), (2, 18), (2, 19), (2, 20), (2, 21), (2, 22), (2, 23), (3, 0), (3, 1), (3, 2), (3, 3), (3, 4), (3, 5), (3, 6), (3, 7), (3, 8), (3, 9), (3, 10), (3, 11), (3, 12), (3, 13), (3, 14), (1, 10), (3, 15), (3, 16), (3, 17), (3, 18), (3, 19), (3, 20), (3, 21), (3, 22), (3, 23), (4, 0), (4, 1), (4, 2), (4, 3), (4, 4), (4, 5), (5, 0), (5, 1), (5, 2), (5, 3), (5, 4), (5, 5), (5, 6), (5, 7), (5, 8), (5, 9), (5, 10), (5, 11), (5, 12), (5, 13), (5, 14), (5, 15), (5, 16), (6, 0), (6, 1), (6, 2), (6, 3), (6, 4), (6, 5), (7, 0), (7, 1), (7, 2), (7, 3), (7, 4), (8, 0), (8, 1), (8, 2), (8, 3), (8, 4), (8, 5), (8, 6), (8, 7), (8, 8)] rfl (by decide +kernel)
set_option maxRecDepth 20000 in
theorem gX8_isSafeWithout_X8_look : GoodIn wsX8_isSafeWithout (wsV RX8 80 RX8 yX8_look wsX8_look) := goodIn_app (goodIn_r2 chwsX8_isSafeWithout chwsX8_isSafeWithout_in _ [(1, 7), (1, 8), (1, 9), (1, 10)] rfl (by decide +kernel)) ggX8_isSafeWithout_X8_look
set_option maxRecDepth 20000 in
theorem ggX8_isSafeWithout_X8_findPair : GoodIn wsX8_isSafeWithout wsX8_findPair := goodIn_r2 chwsX8_isSafeWithout chwsX8_isSafeWithout_in _ [(4, 9), (4, 10), (1, 12), (1, 13), (4, 11), (1, 5), (1, 2), (1, 3), (1, 6), (4, 12), (4, 4), (4, 13), (4, 14), (4, 15), (4, 16), (4, 17), (4, 18), (4, 19), (4, 20), (1, 7), (1, 8), (1, 9), (1, 10), (1, 11), (1, 14), (1, 15), (1, 16), (1, 17), (1, 18), (1, 19), (1, 20), (1, 21), (1, 22), (1, 23), (2, 0), (2, 1), (2, 2), (2, 3), (2, 4), (2, 5), (2, 6), (2, 7), (2, 8), (2, 9), (2, 10), (2, 11), (2, 12), (2, 13), (2, 14), (2, 15), (2, 16), (2, 17), (2, 18), (2, 19), (2, 20), (2, 21), (2, 22), (2, 23), (3, 0), (3, 1), (3, 2), (3, 3), (3, 4), (3, 5), (3, 6), (3, 7), (3, 8), (3, 9), (3, 10), (3, 11), (3, 12), (3, 13), (3, 14), (3, 15), (3, 16), (3, 17), (3, 18), (3, 19), (3, 20), (3, 21), (3, 22), (3, 23), (4, 0), (4, 1), (4, 2), (4, 3), (4, 5), (4, 21), (4, 22), (5, 0), (5, 1), (5, 2), (5, 3), (5, 4), (5, 5), (5, 6), (5, 7), (5, 8), (5, 9), (5, 10), (5, 11), (5, 12), (5, 13), (5, 14), (5, 15), (5, 16), (6, 0), (6, 1), (6, 2), (6, 3), (6, 4), (6, 5), (7, 0), (7, 1), (7, 2), (7, 3), (7, 4), (8, 0), (8, 1), (8, 2), (8, 3), (8, 4), (8, 5), (8, 6), (8, 7), (8, 8)] rfl (by decide +kernel)
set_option maxRecDepth 20000 in
theorem gX8_isSafeWithout_X8_findPair : GoodIn wsX8_isSafeWithout (wsV RX8 141 RX8 yX8_findPair wsX8_findPair) := goodIn_app (goodIn_r2 chwsX8_isSafeWithout chwsX8_isSafeWithout_in _ [(4, 6), (4, 7), (4, 8), (1, 10)] rfl (by decide +kernel)) ggX8_isSafeWithout_X8_findPair
theorem dX8_isSafeWithout_0 : decode cX8_isSafeWithout 0 = .ok (.iconst 0, 1) := by decide +kernel
theorem dX8_isSafeWithout_1 : decode cX8_isSafeWithout 1 = .ok (.istore_n 2, 1) := by decide +kernel
theorem dX8_isSafeWithout_2 : decode cX8_isSafeWithout 2 = .ok (.iload_n 2, 1) := by decide +kernel
theorem dX8_isSafeWithout_3 : decode cX8_isSafeWithout 3 = .ok (.aload_n 0, 1) := by decide +kernel
theorem dX8_isSafeWithout_4 : decode cX8_isSafeWithout 4 = .ok (.getfield 129, 3) := by decide +kernel
theorem dX8_isSafeWithout_7 : decode cX8_isSafeWithout 7 = .ok (.if_icmp .ge 70, 3) := by decide +kernel
theorem dX8_isSafeWithout_10 : decode cX8_isSafeWithout 10 = .ok (.iload_n 2, 1) := by decide +kernel
theorem dX8_isSafeWithout_11 : decode cX8_isSafeWithout 11 = .ok (.sipush 256, 3) := by decide +kernel
theorem dX8_isSafeWithout_14 : decode cX8_isSafeWithout 14 = .ok (.if_icmp .ge 63, 3) := by decide +kernel
theorem dX8_isSafeWithout_17 : decode cX8_isSafeWithout 17 = .ok (.aload_n 0, 1) := by decide +kernel
theorem dX8_isSafeWithout_18 : decode cX8_isSafeWithout 18 = .ok (.getfield 37, 3) := by decide +kernel
theorem dX8_isSafeWithout_21 : decode cX8_isSafeWithout 21 = .ok (.iload_n 2, 1) := by decide +kernel
theorem dX8_isSafeWithout_22 : decode cX8_isSafeWithout 22 = .ok (.iaload, 1) := by decide +kernel
theorem dX8_isSafeWithout_23 : decode cX8_isSafeWithout 23 = .ok (.istore_n 3, 1) := by decide +kernel
theorem dX8_isSafeWithout_24 : decode cX8_isSafeWithout 24 = .ok (.aload_n 0, 1) := by decide +kernel
theorem dX8_isSafeWithout_25 : decode cX8_isSafeWithout 25 = .ok (.iload_n 3, 1) := by decide +kernel
theorem dX8_isSafeWithout_26 : decode cX8_isSafeWithout 26 = .ok (.aload_n 0, 1) := by decide +kernel
theorem dX8_isSafeWithout_27 : decode cX8_isSafeWithout 27 = .ok (.getfield 50, 3) := by decide +kernel
theorem dX8_isSafeWithout_30 : decode cX8_isSafeWithout 30 = .ok (.iload_n 1, 1) := by decide +kernel
theorem dX8_isSafeWithout_31 : decode cX8_isSafeWithout 31 = .ok (.invokevirtual 80, 3) := by decide +kernel
theorem dX8_isSafeWithout_34 : decode cX8_isSafeWithout 34 = .ok (.aload_n 0, 1) := by decide +kernel
theorem dX8_isSafeWithout_35 : decode cX8_isSafeWithout 35 = .ok (.getfield 65, 3) := by decide +kernel
theorem dX8_isSafeWithout_38 : decode cX8_isSafeWithout 38 = .ok (.land, 1) := by decide +kernel
theorem dX8_isSafeWithout_39 : decode cX8_isSafeWithout 39 = .ok (.lstore 4, 2) := by decide +kernel
theorem dX8_isSafeWithout_41 : decode cX8_isSafeWithout 41 = .ok (.aload_n 0, 1) := by decide +kernel
theorem dX8_isSafeWithout_42 : decode cX8_isSafeWithout 42 = .ok (.iload_n 3, 1) := by decide +kernel
theorem dX8_isSafeWithout_43 : decode cX8_isSafeWithout 43 = .ok (.aload_n 0, 1) := by decide +kernel
theorem dX8_isSafeWithout_44 : decode cX8_isSafeWithout 44 = .ok (.getfield 40, 3) := by decide +kernel
theorem dX8_isSafeWithout_47 : decode cX8_isSafeWithout 47 = .ok (.iload_n 2, 1) := by decide +kernel
theorem dX8_isSafeWithout_48 : decode cX8_isSafeWithout 48 = .ok (.iaload, 1) := by decide +kernel
theorem dX8_isSafeWithout_49 : decode cX8_isSafeWithout 49 = .ok (.ior, 1) := by decide +kernel
theorem dX8_isSafeWithout_50 : decode cX8_isSafeWithout 50 = .ok (.aload_n 0, 1) := by decide +kernel
theorem dX8_isSafeWithout_51 : decode cX8_isSafeWithout 51 = .ok (.getfield 50, 3) := by decide +kernel
theorem dX8_isSafeWithout_54 : decode cX8_isSafeWithout 54 = .ok (.iload_n 1, 1) := by decide +kernel
theorem dX8_isSafeWithout_55 : decode cX8_isSafeWithout 55 = .ok (.invokevirtual 80, 3) := by decide +kernel
theorem dX8_isSafeWithout_58 : decode cX8_isSafeWithout 58 = .ok (.aload_n 0, 1) := by decide +kernel
theorem dX8_isSafeWithout_59 : decode cX8_isSafeWithout 59 = .ok (.getfield 65, 3) := by decide +kernel
theorem dX8_isSafeWithout_62 : decode cX8_isSafeWithout 62 = .ok (.land, 1) := by decide +kernel
theorem dX8_isSafeWithout_63 : decode cX8_isSafeWithout 63 = .ok (.lload 4, 2) := by decide +kernel
theorem dX8_isSafeWithout_65 : decode cX8_isSafeWithout 65 = .ok (.lcmp, 1) := by decide +kernel
theorem dX8_isSafeWithout_66 : decode cX8_isSafeWithout 66 = .ok (.ifCond .eq 5, 3) := by decide +kernel
theorem dX8_isSafeWithout_69 : decode cX8_isSafeWithout 69 = .ok (.iconst 0, 1) := by decide +kernel
theorem dX8_isSafeWithout_70 : decode cX8_isSafeWithout 70 = .ok (.ireturn, 1) := by decide +kernel
theorem dX8_isSafeWithout_71 : decode cX8_isSafeWithout 71 = .ok (.iinc 2 1, 3) := by decide +kernel
theorem dX8_isSafeWithout_74 : decode cX8_isSafeWithout 74 = .ok (.goto (-72), 3) := by decide +kernel
theorem dX8_isSafeWithout_77 : decode cX8_isSafeWithout 77 = .ok (.aload_n 0, 1) := by decide +kernel
theorem dX8_isSafeWithout_78 : decode cX8_isSafeWithout 78 = .ok (.iload_n 1, 1) := by decide +kernel
theorem dX8_isSafeWithout_79 : decode cX8_isSafeWithout 79 = .ok (.invokevirtual 141, 3) := by decide +kernel
theorem dX8_isSafeWithout_82 : decode cX8_isSafeWithout 82 = .ok (.ifCond .ne 5, 3) := by decide +kernel
theorem dX8_isSafeWithout_85 : decode cX8_isSafeWithout 85 = .ok (.iconst 1, 1) := by decide +kernel
theorem dX8_isSafeWithout_86 : decode cX8_isSafeWithout 86 = .ok (.ireturn, 1) := by decide +kernel
theorem dX8_isSafeWithout_87 : decode cX8_isSafeWithout 87 = .ok (.aload_n 0, 1) := by decide +kernel
theorem dX8_isSafeWithout_88 : decode cX8_isSafeWithout 88 = .ok (.getfield 129, 3) := by decide +kernel
theorem dX8_isSafeWithout_91 : decode cX8_isSafeWithout 91 = .ok (.sipush 256, 3) := by decide +kernel
theorem dX8_isSafeWithout_94 : decode cX8_isSafeWithout 94 = .ok (.if_icmp .ge 39, 3) := by decide +kernel
theorem dX8_isSafeWithout_97 : decode cX8_isSafeWithout 97 = .ok (.aload_n 0, 1) := by decide +kernel
theorem dX8_isSafeWithout_98 : decode cX8_isSafeWithout 98 = .ok (.getfield 37, 3) := by decide +kernel
theorem dX8_isSafeWithout_101 : decode cX8_isSafeWithout 101 = .ok (.aload_n 0, 1) := by decide +kernel
theorem dX8_isSafeWithout_102 : decode cX8_isSafeWithout 102 = .ok (.getfield 129, 3) := by decide +kernel
theorem dX8_isSafeWithout_105 : decode cX8_isSafeWithout 105 = .ok (.aload_n 0, 1) := by decide +kernel
theorem dX8_isSafeWithout_106 : decode cX8_isSafeWithout 106 = .ok (.getfield 105, 3) := by decide +kernel
theorem dX8_isSafeWithout_109 : decode cX8_isSafeWithout 109 = .ok (.iastore, 1) := by decide +kernel
theorem dX8_isSafeWithout_110 : decode cX8_isSafeWithout 110 = .ok (.aload_n 0, 1) := by decide +kernel
theorem dX8_isSafeWithout_111 : decode cX8_isSafeWithout 111 = .ok (.getfield 40, 3) := by decide +kernel
theorem dX8_isSafeWithout_114 : decode cX8_isSafeWithout 114 = .ok (.aload_n 0, 1) := by decide +kernel
theorem dX8_isSafeWithout_115 : decode cX8_isSafeWithout 115 = .ok (.getfield 129, 3) := by decide +kernel
theorem dX8_isSafeWithout_118 : decode cX8_isSafeWithout 118 = .ok (.aload_n 0, 1) := by decide +kernel
theorem dX8_isSafeWithout_119 : decode cX8_isSafeWithout 119 = .ok (.getfield 108, 3) := by decide +kernel
theorem dX8_isSafeWithout_122 : decode cX8_isSafeWithout 122 = .ok (.iastore, 1) := by decide +kernel
theorem dX8_isSafeWithout_123 : decode cX8_isSafeWithout 123 = .ok (.aload_n 0, 1) := by decide +kernel
theorem dX8_isSafeWithout_124 : decode cX8_isSafeWithout 124 = .ok (.dup, 1) := by decide +kernel
theorem dX8_isSafeWithout_125 : decode cX8_isSafeWithout 125 = .ok (.getfield 129, 3) := by decide +kernel
theorem dX8_isSafeWithout_128 : decode cX8_isSafeWithout 128 = .ok (.iconst 1, 1) := by decide +kernel
theorem dX8_isSafeWithout_129 : decode cX8_isSafeWithout 129 = .ok (.iadd, 1) := by decide +kernel
theorem dX8_isSafeWithout_130 : decode cX8_isSafeWithout 130 = .ok (.putfield 129, 3) := by decide +kernel
theorem dX8_isSafeWithout_133 : decode cX8_isSafeWithout 133 = .ok (.iconst 0, 1) := by decide +kernel
theorem dX8_isSafeWithout_134 : decode cX8_isSafeWithout 134 = .ok (.ireturn, 1) := by decide +kernel
set_option maxRecDepth 20000 in
theorem ggX8_untriedSecrets_X9_numbersOf : GoodIn wsX8_untriedSecrets wsX9_numbersOf := goodIn_r _ [6, 7, 8, 9, 10, 11, 12, 13] rfl (by decide +kernel)
set_option maxRecDepth 20000 in
theorem gX8_untriedSecrets_X9_numbersOf_n72 : GoodIn wsX8_untriedSecrets (wsX9_numbersOf) := ggX8_untriedSecrets_X9_numbersOf
theorem dX8_untriedSecrets_0 : decode cX8_untriedSecrets 0 = .ok (.aload_n 0, 1) := by decide +kernel
theorem dX8_untriedSecrets_1 : decode cX8_untriedSecrets 1 = .ok (.getfield 56, 3) := by decide +kernel
theorem dX8_untriedSecrets_4 : decode cX8_untriedSecrets 4 = .ok (.aload_n 0, 1) := by decide +kernel
theorem dX8_untriedSecrets_5 : decode cX8_untriedSecrets 5 = .ok (.getfield 46, 3) := by decide +kernel
theorem dX8_untriedSecrets_8 : decode cX8_untriedSecrets 8 = .ok (.getfield 69, 3) := by decide +kernel
theorem dX8_untriedSecrets_11 : decode cX8_untriedSecrets 11 = .ok (.iconst (-1), 1) := by decide +kernel
theorem dX8_untriedSecrets_12 : decode cX8_untriedSecrets 12 = .ok (.ixor, 1) := by decide +kernel
theorem dX8_untriedSecrets_13 : decode cX8_untriedSecrets 13 = .ok (.iand, 1) := by decide +kernel
theorem dX8_untriedSecrets_14 : decode cX8_untriedSecrets 14 = .ok (.invokestatic 72, 3) := by decide +kernel
theorem dX8_untriedSecrets_17 : decode cX8_untriedSecrets 17 = .ok (.ireturn, 1) := by decide +kernel
theorem dX8_lensOf_0 : decode cX8_lensOf 0 = .ok (.ldc2_w 144, 3) := by decide +kernel
theorem dX8_lensOf_3 : decode cX8_lensOf 3 = .ok (.iload_n 0, 1) := by decide +kernel
theorem dX8_lensOf_4 : decode cX8_lensOf 4 = .ok (.i2l, 1) := by decide +kernel
theorem dX8_lensOf_5 : decode cX8_lensOf 5 = .ok (.bipush 41, 2) := by decide +kernel
theorem dX8_lensOf_7 : decode cX8_lensOf 7 = .ok (.lshl, 1) := by decide +kernel
theorem dX8_lensOf_8 : decode cX8_lensOf 8 = .ok (.lor, 1) := by decide +kernel
theorem dX8_lensOf_9 : decode cX8_lensOf 9 = .ok (.lload_n 1, 1) := by decide +kernel
theorem dX8_lensOf_10 : decode cX8_lensOf 10 = .ok (.lor, 1) := by decide +kernel
theorem dX8_lensOf_11 : decode cX8_lensOf 11 = .ok (.lreturn, 1) := by decide +kernel
theorem chIwsX8_look_0 : ∀ w ∈ ([.code yX8_look cX8_look 6 (some .long)] : List Cond), w ∈ wsX8_look := fun _ h => (List.mem_cons.mpr (Or.inl (List.mem_singleton.mp h)))
theorem chIwsX8_look_1 : ∀ w ∈ (wsX8_look_r1 : List Cond), w ∈ wsX8_look := fun _ h => (List.mem_cons_of_mem _ (List.mem_append_left _ (List.mem_append_left _ (List.mem_append_left _ (List.mem_append_left _ (List.mem_append_left _ h))))))
theorem chIwsX8_look_2 : ∀ w ∈ (wsX8_look_r2 : List Cond), w ∈ wsX8_look := fun _ h => (List.mem_cons_of_mem _ (List.mem_append_left _ (List.mem_append_left _ (List.mem_append_left _ (List.mem_append_left _ (List.mem_append_right _ (List.mem_append_left _ h)))))))
theorem chIwsX8_look_3 : ∀ w ∈ (wsX8_look_r3 : List Cond), w ∈ wsX8_look := fun _ h => (List.mem_cons_of_mem _ (List.mem_append_left _ (List.mem_append_left _ (List.mem_append_left _ (List.mem_append_left _ (List.mem_append_right _ (List.mem_append_right _ h)))))))
theorem chIwsX8_look_4 : ∀ w ∈ (wsX80 : List Cond), w ∈ wsX8_look := fun _ h => (List.mem_cons_of_mem _ (List.mem_append_left _ (List.mem_append_left _ (List.mem_append_left _ (List.mem_append_right _ h)))))
theorem chIwsX8_look_5 : ∀ w ∈ (wsX40 : List Cond), w ∈ wsX8_look := fun _ h => (List.mem_cons_of_mem _ (List.mem_append_left _ (List.mem_append_left _ (List.mem_append_right _ h))))
theorem chIwsX8_look_6 : ∀ w ∈ (wsX20 : List Cond), w ∈ wsX8_look := fun _ h => (List.mem_cons_of_mem _ (List.mem_append_left _ (List.mem_append_right _ h)))
theorem chIwsX8_look_7 : ∀ w ∈ (wsX50 : List Cond), w ∈ wsX8_look := fun _ h => (List.mem_cons_of_mem _ (List.mem_append_right _ h))
def chwsX8_look : Nat → List Cond
  | 0 => [.code yX8_look cX8_look 6 (some .long)]
  | 1 => wsX8_look_r1
  | 2 => wsX8_look_r2
  | 3 => wsX8_look_r3
  | 4 => wsX80
  | 5 => wsX40
  | 6 => wsX20
  | 7 => wsX50
  | _ => []
theorem chwsX8_look_in : ∀ (j : Nat) (w : Cond), w ∈ chwsX8_look j → w ∈ wsX8_look
  | 0, w, h => chIwsX8_look_0 w h
  | 1, w, h => chIwsX8_look_1 w h
  | 2, w, h => chIwsX8_look_2 w h
  | 3, w, h => chIwsX8_look_3 w h
  | 4, w, h => chIwsX8_look_4 w h
  | 5, w, h => chIwsX8_look_5 w h
  | 6, w, h => chIwsX8_look_6 w h
  | 7, w, h => chIwsX8_look_7 w h
  | _ + 8, _, h => absurd h List.not_mem_nil
set_option maxRecDepth 20000 in
theorem ggX8_look_X2_execute : GoodIn wsX8_look wsX2_execute := goodIn_r2 chwsX8_look chwsX8_look_in _ [(1, 10), (1, 11), (1, 12), (1, 13), (1, 14), (1, 15), (1, 16), (1, 17), (1, 9), (1, 18), (1, 19), (1, 20), (1, 21), (1, 22), (1, 23), (2, 0), (2, 1), (2, 2), (2, 3), (2, 4), (2, 5), (2, 6), (2, 7), (2, 8), (2, 9), (2, 10), (2, 11), (2, 12), (2, 13), (2, 14), (2, 15), (2, 16), (2, 17), (2, 18), (2, 19), (2, 20), (2, 21), (2, 22), (2, 23), (6, 0), (6, 1), (6, 2), (6, 3), (6, 4), (5, 0), (5, 1), (5, 2), (5, 3), (5, 4), (5, 5), (7, 0), (7, 1), (7, 2), (7, 3), (7, 4), (7, 5), (7, 6), (7, 7), (7, 8)] rfl (by decide +kernel)
set_option maxRecDepth 20000 in
theorem gX8_look_X2_execute : GoodIn wsX8_look (wsV RX8 146 RX2 yX2_execute wsX2_execute) := goodIn_app (goodIn_r2 chwsX8_look chwsX8_look_in _ [(1, 6), (1, 7), (1, 8), (1, 9)] rfl (by decide +kernel)) ggX8_look_X2_execute
set_option maxRecDepth 20000 in
theorem ggX8_look_X8_viewOf : GoodIn wsX8_look wsX8_viewOf := goodIn_r2 chwsX8_look chwsX8_look_in _ [(3, 4), (1, 2), (3, 5), (3, 6), (3, 7), (3, 8), (3, 9), (3, 10), (3, 11), (1, 9), (3, 12), (1, 13), (3, 13), (3, 14), (2, 3), (3, 15), (3, 16), (3, 17), (3, 18), (4, 0), (4, 1), (4, 2), (4, 3), (4, 4), (4, 5), (4, 6), (4, 7), (4, 8), (4, 9), (4, 10), (4, 11), (4, 12), (4, 13), (4, 14), (4, 15), (4, 16), (6, 0), (6, 1), (6, 2), (6, 3), (6, 4)] rfl (by decide +kernel)
set_option maxRecDepth 20000 in
theorem gX8_look_X8_viewOf : GoodIn wsX8_look (wsV RX8 150 RX8 yX8_viewOf wsX8_viewOf) := goodIn_app (goodIn_r2 chwsX8_look chwsX8_look_in _ [(3, 0), (3, 1), (3, 2), (3, 3)] rfl (by decide +kernel)) ggX8_look_X8_viewOf
theorem dX8_look_0 : decode cX8_look 0 = .ok (.iload_n 1, 1) := by decide +kernel
theorem dX8_look_1 : decode cX8_look 1 = .ok (.aload_n 0, 1) := by decide +kernel
theorem dX8_look_2 : decode cX8_look 2 = .ok (.getfield 46, 3) := by decide +kernel
theorem dX8_look_5 : decode cX8_look 5 = .ok (.getfield 69, 3) := by decide +kernel
theorem dX8_look_8 : decode cX8_look 8 = .ok (.iand, 1) := by decide +kernel
theorem dX8_look_9 : decode cX8_look 9 = .ok (.sipush 4095, 3) := by decide +kernel
theorem dX8_look_12 : decode cX8_look 12 = .ok (.iand, 1) := by decide +kernel
theorem dX8_look_13 : decode cX8_look 13 = .ok (.istore 4, 2) := by decide +kernel
theorem dX8_look_15 : decode cX8_look 15 = .ok (.iload_n 3, 1) := by decide +kernel
theorem dX8_look_16 : decode cX8_look 16 = .ok (.ifCond .eq 23, 3) := by decide +kernel
theorem dX8_look_19 : decode cX8_look 19 = .ok (.aload_n 0, 1) := by decide +kernel
theorem dX8_look_20 : decode cX8_look 20 = .ok (.getfield 14, 3) := by decide +kernel
theorem dX8_look_23 : decode cX8_look 23 = .ok (.aload_n 0, 1) := by decide +kernel
theorem dX8_look_24 : decode cX8_look 24 = .ok (.getfield 46, 3) := by decide +kernel
theorem dX8_look_27 : decode cX8_look 27 = .ok (.iload 4, 2) := by decide +kernel
theorem dX8_look_29 : decode cX8_look 29 = .ok (.iload_n 3, 1) := by decide +kernel
theorem dX8_look_30 : decode cX8_look 30 = .ok (.invokevirtual 146, 3) := by decide +kernel
theorem dX8_look_33 : decode cX8_look 33 = .ok (.aload_n 0, 1) := by decide +kernel
theorem dX8_look_34 : decode cX8_look 34 = .ok (.iload_n 2, 1) := by decide +kernel
theorem dX8_look_35 : decode cX8_look 35 = .ok (.invokevirtual 150, 3) := by decide +kernel
theorem dX8_look_38 : decode cX8_look 38 = .ok (.lreturn, 1) := by decide +kernel
theorem dX8_look_39 : decode cX8_look 39 = .ok (.aload_n 0, 1) := by decide +kernel
theorem dX8_look_40 : decode cX8_look 40 = .ok (.getfield 29, 3) := by decide +kernel
theorem dX8_look_43 : decode cX8_look 43 = .ok (.iload 4, 2) := by decide +kernel
theorem dX8_look_45 : decode cX8_look 45 = .ok (.iaload, 1) := by decide +kernel
theorem dX8_look_46 : decode cX8_look 46 = .ok (.aload_n 0, 1) := by decide +kernel
theorem dX8_look_47 : decode cX8_look 47 = .ok (.getfield 33, 3) := by decide +kernel
theorem dX8_look_50 : decode cX8_look 50 = .ok (.if_icmp .eq 62, 3) := by decide +kernel
theorem dX8_look_53 : decode cX8_look 53 = .ok (.aload_n 0, 1) := by decide +kernel
theorem dX8_look_54 : decode cX8_look 54 = .ok (.getfield 14, 3) := by decide +kernel
theorem dX8_look_57 : decode cX8_look 57 = .ok (.aload_n 0, 1) := by decide +kernel
theorem dX8_look_58 : decode cX8_look 58 = .ok (.getfield 46, 3) := by decide +kernel
theorem dX8_look_61 : decode cX8_look 61 = .ok (.iload 4, 2) := by decide +kernel
theorem dX8_look_63 : decode cX8_look 63 = .ok (.iconst 0, 1) := by decide +kernel
theorem dX8_look_64 : decode cX8_look 64 = .ok (.invokevirtual 146, 3) := by decide +kernel
theorem dX8_look_67 : decode cX8_look 67 = .ok (.iconst 0, 1) := by decide +kernel
theorem dX8_look_68 : decode cX8_look 68 = .ok (.istore 5, 2) := by decide +kernel
theorem dX8_look_70 : decode cX8_look 70 = .ok (.iload 5, 2) := by decide +kernel
theorem dX8_look_72 : decode cX8_look 72 = .ok (.iconst 4, 1) := by decide +kernel
theorem dX8_look_73 : decode cX8_look 73 = .ok (.if_icmp .ge 28, 3) := by decide +kernel
theorem dX8_look_76 : decode cX8_look 76 = .ok (.aload_n 0, 1) := by decide +kernel
theorem dX8_look_77 : decode cX8_look 77 = .ok (.getfield 25, 3) := by decide +kernel
theorem dX8_look_80 : decode cX8_look 80 = .ok (.iload 5, 2) := by decide +kernel
theorem dX8_look_82 : decode cX8_look 82 = .ok (.bipush 12, 2) := by decide +kernel
theorem dX8_look_84 : decode cX8_look 84 = .ok (.ishl, 1) := by decide +kernel
theorem dX8_look_85 : decode cX8_look 85 = .ok (.iload 4, 2) := by decide +kernel
theorem dX8_look_87 : decode cX8_look 87 = .ok (.ior, 1) := by decide +kernel
theorem dX8_look_88 : decode cX8_look 88 = .ok (.aload_n 0, 1) := by decide +kernel
theorem dX8_look_89 : decode cX8_look 89 = .ok (.iload 5, 2) := by decide +kernel
theorem dX8_look_91 : decode cX8_look 91 = .ok (.invokevirtual 150, 3) := by decide +kernel
theorem dX8_look_94 : decode cX8_look 94 = .ok (.lastore, 1) := by decide +kernel
theorem dX8_look_95 : decode cX8_look 95 = .ok (.iinc 5 1, 3) := by decide +kernel
theorem dX8_look_98 : decode cX8_look 98 = .ok (.goto (-28), 3) := by decide +kernel
theorem dX8_look_101 : decode cX8_look 101 = .ok (.aload_n 0, 1) := by decide +kernel
theorem dX8_look_102 : decode cX8_look 102 = .ok (.getfield 29, 3) := by decide +kernel
theorem dX8_look_105 : decode cX8_look 105 = .ok (.iload 4, 2) := by decide +kernel
theorem dX8_look_107 : decode cX8_look 107 = .ok (.aload_n 0, 1) := by decide +kernel
theorem dX8_look_108 : decode cX8_look 108 = .ok (.getfield 33, 3) := by decide +kernel
theorem dX8_look_111 : decode cX8_look 111 = .ok (.iastore, 1) := by decide +kernel
theorem dX8_look_112 : decode cX8_look 112 = .ok (.aload_n 0, 1) := by decide +kernel
theorem dX8_look_113 : decode cX8_look 113 = .ok (.getfield 25, 3) := by decide +kernel
theorem dX8_look_116 : decode cX8_look 116 = .ok (.iload_n 2, 1) := by decide +kernel
theorem dX8_look_117 : decode cX8_look 117 = .ok (.iconst 3, 1) := by decide +kernel
theorem dX8_look_118 : decode cX8_look 118 = .ok (.iand, 1) := by decide +kernel
theorem dX8_look_119 : decode cX8_look 119 = .ok (.bipush 12, 2) := by decide +kernel
theorem dX8_look_121 : decode cX8_look 121 = .ok (.ishl, 1) := by decide +kernel
theorem dX8_look_122 : decode cX8_look 122 = .ok (.iload 4, 2) := by decide +kernel
theorem dX8_look_124 : decode cX8_look 124 = .ok (.ior, 1) := by decide +kernel
theorem dX8_look_125 : decode cX8_look 125 = .ok (.laload, 1) := by decide +kernel
theorem dX8_look_126 : decode cX8_look 126 = .ok (.lreturn, 1) := by decide +kernel
theorem chIwsX8_viewOf_0 : ∀ w ∈ ([.code yX8_viewOf cX8_viewOf 6 (some .long)] : List Cond), w ∈ wsX8_viewOf := fun _ h => (List.mem_cons.mpr (Or.inl (List.mem_singleton.mp h)))
theorem chIwsX8_viewOf_1 : ∀ w ∈ ([.fieldLink RX8 14 "WatchedPrograms$Watch" "machine" "LWatchedPrograms$Machine;", .fieldLink RX8 157 "WatchedPrograms$Machine" "tapeLevels" "[I", .fieldLink RX8 164 "WatchedPrograms$Machine" "tapeNumbers" "[I", .fieldLink RX8 167 "WatchedPrograms$Machine" "numbers" "I", .fieldLink RX8 170 "WatchedPrograms$Machine" "steps" "I", .methodLink RX8 154 yX2_kept, .instanceMethod yX2_kept, .selects RX2 yX2_kept yX2_kept, .initialized RX2, .code yX2_kept cX2_kept 1 (some .int), .fieldLink RX2 25 "WatchedPrograms$Machine" "cameOut" "I", .methodLink RX2 37 Lib.Math.min.name, .static Lib.Math.min.name, .initialized "java/lang/Math", .code Lib.Math.min.name Lib.Math.min.code 2 (some .int), .static yX9_isWithin, .initialized RX9, .code yX9_isWithin cX9_isWithin 2 (some .boolean)] : List Cond), w ∈ wsX8_viewOf := fun _ h => (List.mem_cons_of_mem _ (List.mem_append_left _ (List.mem_append_left _ h)))
theorem chIwsX8_viewOf_2 : ∀ w ∈ (wsX80 : List Cond), w ∈ wsX8_viewOf := fun _ h => (List.mem_cons_of_mem _ (List.mem_append_left _ (List.mem_append_right _ h)))
theorem chIwsX8_viewOf_3 : ∀ w ∈ (wsX20 : List Cond), w ∈ wsX8_viewOf := fun _ h => (List.mem_cons_of_mem _ (List.mem_append_right _ h))
def chwsX8_viewOf : Nat → List Cond
  | 0 => [.code yX8_viewOf cX8_viewOf 6 (some .long)]
  | 1 => [.fieldLink RX8 14 "WatchedPrograms$Watch" "machine" "LWatchedPrograms$Machine;", .fieldLink RX8 157 "WatchedPrograms$Machine" "tapeLevels" "[I", .fieldLink RX8 164 "WatchedPrograms$Machine" "tapeNumbers" "[I", .fieldLink RX8 167 "WatchedPrograms$Machine" "numbers" "I", .fieldLink RX8 170 "WatchedPrograms$Machine" "steps" "I", .methodLink RX8 154 yX2_kept, .instanceMethod yX2_kept, .selects RX2 yX2_kept yX2_kept, .initialized RX2, .code yX2_kept cX2_kept 1 (some .int), .fieldLink RX2 25 "WatchedPrograms$Machine" "cameOut" "I", .methodLink RX2 37 Lib.Math.min.name, .static Lib.Math.min.name, .initialized "java/lang/Math", .code Lib.Math.min.name Lib.Math.min.code 2 (some .int), .static yX9_isWithin, .initialized RX9, .code yX9_isWithin cX9_isWithin 2 (some .boolean)]
  | 2 => wsX80
  | 3 => wsX20
  | _ => []
theorem chwsX8_viewOf_in : ∀ (j : Nat) (w : Cond), w ∈ chwsX8_viewOf j → w ∈ wsX8_viewOf
  | 0, w, h => chIwsX8_viewOf_0 w h
  | 1, w, h => chIwsX8_viewOf_1 w h
  | 2, w, h => chIwsX8_viewOf_2 w h
  | 3, w, h => chIwsX8_viewOf_3 w h
  | _ + 4, _, h => absurd h List.not_mem_nil
set_option maxRecDepth 20000 in
theorem ggX8_viewOf_X2_kept : GoodIn wsX8_viewOf wsX2_kept := goodIn_r2 chwsX8_viewOf chwsX8_viewOf_in _ [(1, 9), (1, 10), (1, 11), (1, 12), (1, 13), (1, 14), (3, 0), (3, 1), (3, 2), (3, 3), (3, 4)] rfl (by decide +kernel)
set_option maxRecDepth 20000 in
theorem gX8_viewOf_X2_kept : GoodIn wsX8_viewOf (wsV RX8 154 RX2 yX2_kept wsX2_kept) := goodIn_app (goodIn_r2 chwsX8_viewOf chwsX8_viewOf_in _ [(1, 5), (1, 6), (1, 7), (1, 8)] rfl (by decide +kernel)) ggX8_viewOf_X2_kept
set_option maxRecDepth 20000 in
theorem ggX8_viewOf_X9_isWithin : GoodIn wsX8_viewOf wsX9_isWithin := goodIn_r2 chwsX8_viewOf chwsX8_viewOf_in _ [(1, 17)] rfl (by decide +kernel)
set_option maxRecDepth 20000 in
theorem gX8_viewOf_X9_isWithin_n160 : GoodIn wsX8_viewOf (wsX9_isWithin) := ggX8_viewOf_X9_isWithin
theorem dX8_viewOf_0 : decode cX8_viewOf 0 = .ok (.lconst 1, 1) := by decide +kernel
theorem dX8_viewOf_1 : decode cX8_viewOf 1 = .ok (.lstore_n 2, 1) := by decide +kernel
theorem dX8_viewOf_2 : decode cX8_viewOf 2 = .ok (.aload_n 0, 1) := by decide +kernel
theorem dX8_viewOf_3 : decode cX8_viewOf 3 = .ok (.getfield 14, 3) := by decide +kernel
theorem dX8_viewOf_6 : decode cX8_viewOf 6 = .ok (.invokevirtual 154, 3) := by decide +kernel
theorem dX8_viewOf_9 : decode cX8_viewOf 9 = .ok (.istore 4, 2) := by decide +kernel
theorem dX8_viewOf_11 : decode cX8_viewOf 11 = .ok (.iconst 0, 1) := by decide +kernel
theorem dX8_viewOf_12 : decode cX8_viewOf 12 = .ok (.istore 5, 2) := by decide +kernel
theorem dX8_viewOf_14 : decode cX8_viewOf 14 = .ok (.iload 5, 2) := by decide +kernel
theorem dX8_viewOf_16 : decode cX8_viewOf 16 = .ok (.iload 4, 2) := by decide +kernel
theorem dX8_viewOf_18 : decode cX8_viewOf 18 = .ok (.if_icmp .ge 42, 3) := by decide +kernel
theorem dX8_viewOf_21 : decode cX8_viewOf 21 = .ok (.aload_n 0, 1) := by decide +kernel
theorem dX8_viewOf_22 : decode cX8_viewOf 22 = .ok (.getfield 14, 3) := by decide +kernel
theorem dX8_viewOf_25 : decode cX8_viewOf 25 = .ok (.getfield 157, 3) := by decide +kernel
theorem dX8_viewOf_28 : decode cX8_viewOf 28 = .ok (.iload 5, 2) := by decide +kernel
theorem dX8_viewOf_30 : decode cX8_viewOf 30 = .ok (.iaload, 1) := by decide +kernel
theorem dX8_viewOf_31 : decode cX8_viewOf 31 = .ok (.iload_n 1, 1) := by decide +kernel
theorem dX8_viewOf_32 : decode cX8_viewOf 32 = .ok (.invokestatic 160, 3) := by decide +kernel
theorem dX8_viewOf_35 : decode cX8_viewOf 35 = .ok (.ifCond .eq 19, 3) := by decide +kernel
theorem dX8_viewOf_38 : decode cX8_viewOf 38 = .ok (.lload_n 2, 1) := by decide +kernel
theorem dX8_viewOf_39 : decode cX8_viewOf 39 = .ok (.iconst 2, 1) := by decide +kernel
theorem dX8_viewOf_40 : decode cX8_viewOf 40 = .ok (.lshl, 1) := by decide +kernel
theorem dX8_viewOf_41 : decode cX8_viewOf 41 = .ok (.aload_n 0, 1) := by decide +kernel
theorem dX8_viewOf_42 : decode cX8_viewOf 42 = .ok (.getfield 14, 3) := by decide +kernel
theorem dX8_viewOf_45 : decode cX8_viewOf 45 = .ok (.getfield 164, 3) := by decide +kernel
theorem dX8_viewOf_48 : decode cX8_viewOf 48 = .ok (.iload 5, 2) := by decide +kernel
theorem dX8_viewOf_50 : decode cX8_viewOf 50 = .ok (.iaload, 1) := by decide +kernel
theorem dX8_viewOf_51 : decode cX8_viewOf 51 = .ok (.i2l, 1) := by decide +kernel
theorem dX8_viewOf_52 : decode cX8_viewOf 52 = .ok (.lor, 1) := by decide +kernel
theorem dX8_viewOf_53 : decode cX8_viewOf 53 = .ok (.lstore_n 2, 1) := by decide +kernel
theorem dX8_viewOf_54 : decode cX8_viewOf 54 = .ok (.iinc 5 1, 3) := by decide +kernel
theorem dX8_viewOf_57 : decode cX8_viewOf 57 = .ok (.goto (-43), 3) := by decide +kernel
theorem dX8_viewOf_60 : decode cX8_viewOf 60 = .ok (.lload_n 2, 1) := by decide +kernel
theorem dX8_viewOf_61 : decode cX8_viewOf 61 = .ok (.aload_n 0, 1) := by decide +kernel
theorem dX8_viewOf_62 : decode cX8_viewOf 62 = .ok (.getfield 14, 3) := by decide +kernel
theorem dX8_viewOf_65 : decode cX8_viewOf 65 = .ok (.getfield 167, 3) := by decide +kernel
theorem dX8_viewOf_68 : decode cX8_viewOf 68 = .ok (.i2l, 1) := by decide +kernel
theorem dX8_viewOf_69 : decode cX8_viewOf 69 = .ok (.bipush 41, 2) := by decide +kernel
theorem dX8_viewOf_71 : decode cX8_viewOf 71 = .ok (.lshl, 1) := by decide +kernel
theorem dX8_viewOf_72 : decode cX8_viewOf 72 = .ok (.lor, 1) := by decide +kernel
theorem dX8_viewOf_73 : decode cX8_viewOf 73 = .ok (.aload_n 0, 1) := by decide +kernel
theorem dX8_viewOf_74 : decode cX8_viewOf 74 = .ok (.getfield 14, 3) := by decide +kernel
theorem dX8_viewOf_77 : decode cX8_viewOf 77 = .ok (.getfield 170, 3) := by decide +kernel
theorem dX8_viewOf_80 : decode cX8_viewOf 80 = .ok (.i2l, 1) := by decide +kernel
theorem dX8_viewOf_81 : decode cX8_viewOf 81 = .ok (.bipush 53, 2) := by decide +kernel
theorem dX8_viewOf_83 : decode cX8_viewOf 83 = .ok (.lshl, 1) := by decide +kernel
theorem dX8_viewOf_84 : decode cX8_viewOf 84 = .ok (.lor, 1) := by decide +kernel
theorem dX8_viewOf_85 : decode cX8_viewOf 85 = .ok (.lreturn, 1) := by decide +kernel
theorem chIwsX9_init_0 : ∀ w ∈ ([.code yX9_init cX9_init 1 none] : List Cond), w ∈ wsX9_init := fun _ h => (List.mem_cons.mpr (Or.inl (List.mem_singleton.mp h)))
theorem chIwsX9_init_1 : ∀ w ∈ (wsX9_init_r1 : List Cond), w ∈ wsX9_init := fun _ h => (List.mem_cons_of_mem _ (List.mem_append_left _ (List.mem_append_left _ (List.mem_append_left _ (List.mem_append_left _ (List.mem_append_left _ (List.mem_append_left _ (List.mem_append_left _ (List.mem_append_left _ (List.mem_append_left _ (List.mem_append_left _ (List.mem_append_left _ h))))))))))))
theorem chIwsX9_init_2 : ∀ w ∈ (wsX9_init_r2 : List Cond), w ∈ wsX9_init := fun _ h => (List.mem_cons_of_mem _ (List.mem_append_left _ (List.mem_append_left _ (List.mem_append_left _ (List.mem_append_left _ (List.mem_append_left _ (List.mem_append_left _ (List.mem_append_left _ (List.mem_append_left _ (List.mem_append_left _ (List.mem_append_left _ (List.mem_append_right _ (List.mem_append_left _ h)))))))))))))
theorem chIwsX9_init_3 : ∀ w ∈ (wsX9_init_r3 : List Cond), w ∈ wsX9_init := fun _ h => (List.mem_cons_of_mem _ (List.mem_append_left _ (List.mem_append_left _ (List.mem_append_left _ (List.mem_append_left _ (List.mem_append_left _ (List.mem_append_left _ (List.mem_append_left _ (List.mem_append_left _ (List.mem_append_left _ (List.mem_append_left _ (List.mem_append_right _ (List.mem_append_right _ (List.mem_append_left _ h))))))))))))))
theorem chIwsX9_init_4 : ∀ w ∈ (wsX9_init_r4 : List Cond), w ∈ wsX9_init := fun _ h => (List.mem_cons_of_mem _ (List.mem_append_left _ (List.mem_append_left _ (List.mem_append_left _ (List.mem_append_left _ (List.mem_append_left _ (List.mem_append_left _ (List.mem_append_left _ (List.mem_append_left _ (List.mem_append_left _ (List.mem_append_left _ (List.mem_append_right _ (List.mem_append_right _ (List.mem_append_right _ (List.mem_append_left _ h)))))))))))))))
theorem chIwsX9_init_5 : ∀ w ∈ (wsX9_init_r5 : List Cond), w ∈ wsX9_init := fun _ h => (List.mem_cons_of_mem _ (List.mem_append_left _ (List.mem_append_left _ (List.mem_append_left _ (List.mem_append_left _ (List.mem_append_left _ (List.mem_append_left _ (List.mem_append_left _ (List.mem_append_left _ (List.mem_append_left _ (List.mem_append_left _ (List.mem_append_right _ (List.mem_append_right _ (List.mem_append_right _ (List.mem_append_right _ h)))))))))))))))
theorem chIwsX9_init_6 : ∀ w ∈ (wsX90 : List Cond), w ∈ wsX9_init := fun _ h => (List.mem_cons_of_mem _ (List.mem_append_left _ (List.mem_append_left _ (List.mem_append_left _ (List.mem_append_left _ (List.mem_append_left _ (List.mem_append_left _ (List.mem_append_left _ (List.mem_append_left _ (List.mem_append_left _ (List.mem_append_right _ h)))))))))))
theorem chIwsX9_init_7 : ∀ w ∈ (wsX60 : List Cond), w ∈ wsX9_init := fun _ h => (List.mem_cons_of_mem _ (List.mem_append_left _ (List.mem_append_left _ (List.mem_append_left _ (List.mem_append_left _ (List.mem_append_left _ (List.mem_append_left _ (List.mem_append_left _ (List.mem_append_left _ (List.mem_append_right _ h))))))))))
theorem chIwsX9_init_8 : ∀ w ∈ (wsX30 : List Cond), w ∈ wsX9_init := fun _ h => (List.mem_cons_of_mem _ (List.mem_append_left _ (List.mem_append_left _ (List.mem_append_left _ (List.mem_append_left _ (List.mem_append_left _ (List.mem_append_left _ (List.mem_append_left _ (List.mem_append_right _ h)))))))))
theorem chIwsX9_init_9 : ∀ w ∈ (wsX20 : List Cond), w ∈ wsX9_init := fun _ h => (List.mem_cons_of_mem _ (List.mem_append_left _ (List.mem_append_left _ (List.mem_append_left _ (List.mem_append_left _ (List.mem_append_left _ (List.mem_append_left _ (List.mem_append_right _ h))))))))
theorem chIwsX9_init_10 : ∀ w ∈ (wsX80 : List Cond), w ∈ wsX9_init := fun _ h => (List.mem_cons_of_mem _ (List.mem_append_left _ (List.mem_append_left _ (List.mem_append_left _ (List.mem_append_left _ (List.mem_append_left _ (List.mem_append_right _ h)))))))
theorem chIwsX9_init_11 : ∀ w ∈ (wsX00 : List Cond), w ∈ wsX9_init := fun _ h => (List.mem_cons_of_mem _ (List.mem_append_left _ (List.mem_append_left _ (List.mem_append_left _ (List.mem_append_left _ (List.mem_append_right _ h))))))
theorem chIwsX9_init_12 : ∀ w ∈ (wsX40 : List Cond), w ∈ wsX9_init := fun _ h => (List.mem_cons_of_mem _ (List.mem_append_left _ (List.mem_append_left _ (List.mem_append_left _ (List.mem_append_right _ h)))))
theorem chIwsX9_init_13 : ∀ w ∈ (wsX70 : List Cond), w ∈ wsX9_init := fun _ h => (List.mem_cons_of_mem _ (List.mem_append_left _ (List.mem_append_left _ (List.mem_append_right _ h))))
theorem chIwsX9_init_14 : ∀ w ∈ (wsX50 : List Cond), w ∈ wsX9_init := fun _ h => (List.mem_cons_of_mem _ (List.mem_append_left _ (List.mem_append_right _ h)))
theorem chIwsX9_init_15 : ∀ w ∈ (wsX10 : List Cond), w ∈ wsX9_init := fun _ h => (List.mem_cons_of_mem _ (List.mem_append_right _ h))
def chwsX9_init : Nat → List Cond
  | 0 => [.code yX9_init cX9_init 1 none]
  | 1 => wsX9_init_r1
  | 2 => wsX9_init_r2
  | 3 => wsX9_init_r3
  | 4 => wsX9_init_r4
  | 5 => wsX9_init_r5
  | 6 => wsX90
  | 7 => wsX60
  | 8 => wsX30
  | 9 => wsX20
  | 10 => wsX80
  | 11 => wsX00
  | 12 => wsX40
  | 13 => wsX70
  | 14 => wsX50
  | 15 => wsX10
  | _ => []
theorem chwsX9_init_in : ∀ (j : Nat) (w : Cond), w ∈ chwsX9_init j → w ∈ wsX9_init
  | 0, w, h => chIwsX9_init_0 w h
  | 1, w, h => chIwsX9_init_1 w h
  | 2, w, h => chIwsX9_init_2 w h
  | 3, w, h => chIwsX9_init_3 w h
  | 4, w, h => chIwsX9_init_4 w h
  | 5, w, h => chIwsX9_init_5 w h
  | 6, w, h => chIwsX9_init_6 w h
  | 7, w, h => chIwsX9_init_7 w h
  | 8, w, h => chIwsX9_init_8 w h
  | 9, w, h => chIwsX9_init_9 w h
  | 10, w, h => chIwsX9_init_10 w h
  | 11, w, h => chIwsX9_init_11 w h
  | 12, w, h => chIwsX9_init_12 w h
  | 13, w, h => chIwsX9_init_13 w h
  | 14, w, h => chIwsX9_init_14 w h
  | 15, w, h => chIwsX9_init_15 w h
  | _ + 16, _, h => absurd h List.not_mem_nil
set_option maxRecDepth 20000 in
theorem ggX9_init_X6_init : GoodIn wsX9_init wsX6_init := goodIn_r2 chwsX9_init chwsX9_init_in _ [(2, 6), (2, 7), (1, 1), (1, 2), (1, 3), (2, 8), (7, 0), (7, 1)] rfl (by decide +kernel)
set_option maxRecDepth 20000 in
theorem gX9_init_X6_init_n15 : GoodIn wsX9_init (wsX6_init) := ggX9_init_X6_init
set_option maxRecDepth 20000 in
theorem ggX9_init_X3_init : GoodIn wsX9_init wsX3_init := goodIn_r2 chwsX9_init chwsX9_init_in _ [(2, 10), (2, 11), (1, 1), (1, 2), (2, 12), (2, 13), (2, 14), (2, 15), (2, 16), (2, 2), (2, 3), (2, 17), (2, 18), (2, 19), (2, 20), (1, 3), (2, 21), (2, 22), (2, 23), (3, 0), (3, 1), (3, 2), (3, 3), (3, 4), (3, 5), (3, 6), (3, 7), (3, 8), (3, 9), (3, 10), (3, 11), (13, 0), (13, 1), (13, 2), (13, 3), (13, 4), (13, 5), (13, 6), (13, 7), (8, 0), (8, 1), (8, 2), (8, 3), (12, 0), (12, 1), (12, 2), (12, 3), (12, 4), (12, 5), (14, 0), (14, 1), (14, 2), (14, 3), (14, 4), (14, 5), (14, 6), (14, 7), (14, 8)] rfl (by decide +kernel)
set_option maxRecDepth 20000 in
theorem gX9_init_X3_init_n22 : GoodIn wsX9_init (wsX3_init) := ggX9_init_X3_init
set_option maxRecDepth 20000 in
theorem ggX9_init_X2_init : GoodIn wsX9_init wsX2_init := goodIn_r2 chwsX9_init chwsX9_init_in _ [(3, 13), (3, 14), (1, 1), (1, 2), (1, 3), (3, 15), (3, 16), (9, 0), (9, 1), (9, 2), (9, 3), (9, 4)] rfl (by decide +kernel)
set_option maxRecDepth 20000 in
theorem gX9_init_X2_init_n29 : GoodIn wsX9_init (wsX2_init) := ggX9_init_X2_init
set_option maxRecDepth 20000 in
theorem ggX9_init_X8_init : GoodIn wsX9_init wsX8_init := goodIn_r2 chwsX9_init chwsX9_init_in _ [(3, 18), (3, 19), (1, 1), (1, 2), (3, 20), (1, 14), (1, 15), (3, 21), (3, 22), (3, 23), (4, 0), (4, 1), (4, 2), (4, 3), (1, 3), (4, 4), (4, 5), (4, 6), (4, 7), (4, 8), (2, 2), (2, 3), (4, 9), (3, 12), (3, 13), (3, 14), (3, 15), (3, 16), (4, 10), (4, 11), (4, 12), (4, 13), (4, 14), (4, 15), (4, 16), (4, 17), (3, 1), (3, 2), (3, 3), (3, 4), (3, 5), (3, 6), (3, 7), (3, 8), (3, 9), (3, 10), (3, 11), (9, 0), (9, 1), (9, 2), (9, 3), (9, 4), (10, 0), (10, 1), (10, 2), (10, 3), (10, 4), (10, 5), (10, 6), (10, 7), (10, 8), (10, 9), (10, 10), (10, 11), (10, 12), (10, 13), (10, 14), (10, 15), (10, 16), (15, 0), (15, 1), (15, 2), (15, 3), (15, 4), (15, 5), (15, 6), (12, 0), (12, 1), (12, 2), (12, 3), (12, 4), (12, 5), (14, 0), (14, 1), (14, 2), (14, 3), (14, 4), (14, 5), (14, 6), (14, 7), (14, 8)] rfl (by decide +kernel)
set_option maxRecDepth 20000 in
theorem gX9_init_X8_init_n36 : GoodIn wsX9_init (wsX8_init) := ggX9_init_X8_init
set_option maxRecDepth 20000 in
theorem ggX9_init_X0_init : GoodIn wsX9_init wsX0_init := goodIn_r2 chwsX9_init chwsX9_init_in _ [(4, 19), (4, 20), (1, 1), (1, 2), (1, 3), (4, 21), (4, 22), (4, 23), (11, 0), (11, 1), (11, 2)] rfl (by decide +kernel)
set_option maxRecDepth 20000 in
theorem gX9_init_X0_init_n43 : GoodIn wsX9_init (wsX0_init) := ggX9_init_X0_init
set_option maxRecDepth 20000 in
theorem ggX9_init_X4_init : GoodIn wsX9_init wsX4_init := goodIn_r2 chwsX9_init chwsX9_init_in _ [(3, 2), (3, 3), (1, 1), (1, 2), (3, 4), (3, 5), (1, 3), (3, 6), (3, 7), (3, 8), (3, 9), (3, 10), (3, 11), (12, 0), (12, 1), (12, 2), (12, 3), (12, 4), (12, 5), (14, 0), (14, 1), (14, 2), (14, 3), (14, 4), (14, 5), (14, 6), (14, 7), (14, 8)] rfl (by decide +kernel)
set_option maxRecDepth 20000 in
theorem gX9_init_X4_init : GoodIn wsX9_init (wsX4_init) := ggX9_init_X4_init
theorem dX9_init_0 : decode cX9_init 0 = .ok (.aload_n 0, 1) := by decide +kernel
theorem dX9_init_1 : decode cX9_init 1 = .ok (.invokespecial 1, 3) := by decide +kernel
theorem dX9_init_4 : decode cX9_init 4 = .ok (.aload_n 0, 1) := by decide +kernel
theorem dX9_init_5 : decode cX9_init 5 = .ok (.bipush 6, 2) := by decide +kernel
theorem dX9_init_7 : decode cX9_init 7 = .ok (.newarray .int, 2) := by decide +kernel
theorem dX9_init_9 : decode cX9_init 9 = .ok (.putfield 9, 3) := by decide +kernel
theorem dX9_init_12 : decode cX9_init 12 = .ok (.aload_n 0, 1) := by decide +kernel
theorem dX9_init_13 : decode cX9_init 13 = .ok (.new 13, 3) := by decide +kernel
theorem dX9_init_16 : decode cX9_init 16 = .ok (.dup, 1) := by decide +kernel
theorem dX9_init_17 : decode cX9_init 17 = .ok (.invokespecial 15, 3) := by decide +kernel
theorem dX9_init_20 : decode cX9_init 20 = .ok (.putfield 16, 3) := by decide +kernel
theorem dX9_init_23 : decode cX9_init 23 = .ok (.aload_n 0, 1) := by decide +kernel
theorem dX9_init_24 : decode cX9_init 24 = .ok (.new 20, 3) := by decide +kernel
theorem dX9_init_27 : decode cX9_init 27 = .ok (.dup, 1) := by decide +kernel
theorem dX9_init_28 : decode cX9_init 28 = .ok (.invokespecial 22, 3) := by decide +kernel
theorem dX9_init_31 : decode cX9_init 31 = .ok (.putfield 23, 3) := by decide +kernel
theorem dX9_init_34 : decode cX9_init 34 = .ok (.aload_n 0, 1) := by decide +kernel
theorem dX9_init_35 : decode cX9_init 35 = .ok (.new 27, 3) := by decide +kernel
theorem dX9_init_38 : decode cX9_init 38 = .ok (.dup, 1) := by decide +kernel
theorem dX9_init_39 : decode cX9_init 39 = .ok (.invokespecial 29, 3) := by decide +kernel
theorem dX9_init_42 : decode cX9_init 42 = .ok (.putfield 30, 3) := by decide +kernel
theorem dX9_init_45 : decode cX9_init 45 = .ok (.aload_n 0, 1) := by decide +kernel
theorem dX9_init_46 : decode cX9_init 46 = .ok (.new 34, 3) := by decide +kernel
theorem dX9_init_49 : decode cX9_init 49 = .ok (.dup, 1) := by decide +kernel
theorem dX9_init_50 : decode cX9_init 50 = .ok (.invokespecial 36, 3) := by decide +kernel
theorem dX9_init_53 : decode cX9_init 53 = .ok (.putfield 37, 3) := by decide +kernel
theorem dX9_init_56 : decode cX9_init 56 = .ok (.aload_n 0, 1) := by decide +kernel
theorem dX9_init_57 : decode cX9_init 57 = .ok (.new 41, 3) := by decide +kernel
theorem dX9_init_60 : decode cX9_init 60 = .ok (.dup, 1) := by decide +kernel
theorem dX9_init_61 : decode cX9_init 61 = .ok (.invokespecial 43, 3) := by decide +kernel
theorem dX9_init_64 : decode cX9_init 64 = .ok (.putfield 44, 3) := by decide +kernel
theorem dX9_init_67 : decode cX9_init 67 = .ok (.aload_n 0, 1) := by decide +kernel
theorem dX9_init_68 : decode cX9_init 68 = .ok (.new 48, 3) := by decide +kernel
theorem dX9_init_71 : decode cX9_init 71 = .ok (.dup, 1) := by decide +kernel
theorem dX9_init_72 : decode cX9_init 72 = .ok (.invokespecial 50, 3) := by decide +kernel
theorem dX9_init_75 : decode cX9_init 75 = .ok (.putfield 51, 3) := by decide +kernel
theorem dX9_init_78 : decode cX9_init 78 = .ok (.return_, 1) := by decide +kernel
set_option maxRecDepth 20000 in
theorem ggX9_level_X9_isCell : GoodIn wsX9_level wsX9_isCell := goodIn_r _ [5] rfl (by decide +kernel)
set_option maxRecDepth 20000 in
theorem gX9_level_X9_isCell : GoodIn wsX9_level (va_wsS RX9 55 yX9_isCell wsX9_isCell) := goodIn_app (goodIn_r _ [2, 3, 4] rfl (by decide +kernel)) ggX9_level_X9_isCell
set_option maxRecDepth 20000 in
theorem ggX9_level_X9_isLevel : GoodIn wsX9_level wsX9_isLevel := goodIn_r _ [8] rfl (by decide +kernel)
set_option maxRecDepth 20000 in
theorem gX9_level_X9_isLevel : GoodIn wsX9_level (va_wsS RX9 59 yX9_isLevel wsX9_isLevel) := goodIn_app (goodIn_r _ [6, 7, 4] rfl (by decide +kernel)) ggX9_level_X9_isLevel
theorem dX9_level_0 : decode cX9_level 0 = .ok (.iload_n 1, 1) := by decide +kernel
theorem dX9_level_1 : decode cX9_level 1 = .ok (.invokestatic 55, 3) := by decide +kernel
theorem dX9_level_4 : decode cX9_level 4 = .ok (.ifCond .eq 10, 3) := by decide +kernel
theorem dX9_level_7 : decode cX9_level 7 = .ok (.iload_n 2, 1) := by decide +kernel
theorem dX9_level_8 : decode cX9_level 8 = .ok (.invokestatic 59, 3) := by decide +kernel
theorem dX9_level_11 : decode cX9_level 11 = .ok (.ifCond .ne 5, 3) := by decide +kernel
theorem dX9_level_14 : decode cX9_level 14 = .ok (.iconst (-1), 1) := by decide +kernel
theorem dX9_level_15 : decode cX9_level 15 = .ok (.ireturn, 1) := by decide +kernel
theorem dX9_level_16 : decode cX9_level 16 = .ok (.aload_n 0, 1) := by decide +kernel
theorem dX9_level_17 : decode cX9_level 17 = .ok (.getfield 9, 3) := by decide +kernel
theorem dX9_level_20 : decode cX9_level 20 = .ok (.iload_n 1, 1) := by decide +kernel
theorem dX9_level_21 : decode cX9_level 21 = .ok (.iaload, 1) := by decide +kernel
theorem dX9_level_22 : decode cX9_level 22 = .ok (.istore_n 3, 1) := by decide +kernel
theorem dX9_level_23 : decode cX9_level 23 = .ok (.aload_n 0, 1) := by decide +kernel
theorem dX9_level_24 : decode cX9_level 24 = .ok (.getfield 9, 3) := by decide +kernel
theorem dX9_level_27 : decode cX9_level 27 = .ok (.iload_n 1, 1) := by decide +kernel
theorem dX9_level_28 : decode cX9_level 28 = .ok (.iload_n 2, 1) := by decide +kernel
theorem dX9_level_29 : decode cX9_level 29 = .ok (.iastore, 1) := by decide +kernel
theorem dX9_level_30 : decode cX9_level 30 = .ok (.iload_n 3, 1) := by decide +kernel
theorem dX9_level_31 : decode cX9_level 31 = .ok (.ireturn, 1) := by decide +kernel
set_option maxRecDepth 20000 in
theorem ggX9_type_X6_append : GoodIn wsX9_type wsX6_append := goodIn_r _ [7, 8, 9, 17, 18] rfl (by decide +kernel)
set_option maxRecDepth 20000 in
theorem gX9_type_X6_append : GoodIn wsX9_type (wsV RX9 66 RX6 yX6_append wsX6_append) := goodIn_app (goodIn_r _ [3, 4, 5, 6] rfl (by decide +kernel)) ggX9_type_X6_append
theorem dX9_type_0 : decode cX9_type 0 = .ok (.iload_n 3, 1) := by decide +kernel
theorem dX9_type_1 : decode cX9_type 1 = .ok (.iconst 1, 1) := by decide +kernel
theorem dX9_type_2 : decode cX9_type 2 = .ok (.if_icmp .lt 9, 3) := by decide +kernel
theorem dX9_type_5 : decode cX9_type 5 = .ok (.iload_n 3, 1) := by decide +kernel
theorem dX9_type_6 : decode cX9_type 6 = .ok (.bipush 8, 2) := by decide +kernel
theorem dX9_type_8 : decode cX9_type 8 = .ok (.if_icmp .le 5, 3) := by decide +kernel
theorem dX9_type_11 : decode cX9_type 11 = .ok (.iconst (-1), 1) := by decide +kernel
theorem dX9_type_12 : decode cX9_type 12 = .ok (.ireturn, 1) := by decide +kernel
theorem dX9_type_13 : decode cX9_type 13 = .ok (.aload_n 0, 1) := by decide +kernel
theorem dX9_type_14 : decode cX9_type 14 = .ok (.getfield 16, 3) := by decide +kernel
theorem dX9_type_17 : decode cX9_type 17 = .ok (.getfield 62, 3) := by decide +kernel
theorem dX9_type_20 : decode cX9_type 20 = .ok (.iload_n 3, 1) := by decide +kernel
theorem dX9_type_21 : decode cX9_type 21 = .ok (.iadd, 1) := by decide +kernel
theorem dX9_type_22 : decode cX9_type 22 = .ok (.sipush 300, 3) := by decide +kernel
theorem dX9_type_25 : decode cX9_type 25 = .ok (.if_icmp .le 6, 3) := by decide +kernel
theorem dX9_type_28 : decode cX9_type 28 = .ok (.bipush (-3), 2) := by decide +kernel
theorem dX9_type_30 : decode cX9_type 30 = .ok (.ireturn, 1) := by decide +kernel
theorem dX9_type_31 : decode cX9_type 31 = .ok (.iload_n 3, 1) := by decide +kernel
theorem dX9_type_32 : decode cX9_type 32 = .ok (.iconst 1, 1) := by decide +kernel
theorem dX9_type_33 : decode cX9_type 33 = .ok (.isub, 1) := by decide +kernel
theorem dX9_type_34 : decode cX9_type 34 = .ok (.istore 4, 2) := by decide +kernel
theorem dX9_type_36 : decode cX9_type 36 = .ok (.iload 4, 2) := by decide +kernel
theorem dX9_type_38 : decode cX9_type 38 = .ok (.ifCond .lt 28, 3) := by decide +kernel
theorem dX9_type_41 : decode cX9_type 41 = .ok (.aload_n 0, 1) := by decide +kernel
theorem dX9_type_42 : decode cX9_type 42 = .ok (.getfield 16, 3) := by decide +kernel
theorem dX9_type_45 : decode cX9_type 45 = .ok (.lload_n 1, 1) := by decide +kernel
theorem dX9_type_46 : decode cX9_type 46 = .ok (.bipush 8, 2) := by decide +kernel
theorem dX9_type_48 : decode cX9_type 48 = .ok (.iload 4, 2) := by decide +kernel
theorem dX9_type_50 : decode cX9_type 50 = .ok (.imul, 1) := by decide +kernel
theorem dX9_type_51 : decode cX9_type 51 = .ok (.lushr, 1) := by decide +kernel
theorem dX9_type_52 : decode cX9_type 52 = .ok (.l2i, 1) := by decide +kernel
theorem dX9_type_53 : decode cX9_type 53 = .ok (.sipush 255, 3) := by decide +kernel
theorem dX9_type_56 : decode cX9_type 56 = .ok (.iand, 1) := by decide +kernel
theorem dX9_type_57 : decode cX9_type 57 = .ok (.invokevirtual 66, 3) := by decide +kernel
theorem dX9_type_60 : decode cX9_type 60 = .ok (.iinc 4 (-1), 3) := by decide +kernel
theorem dX9_type_63 : decode cX9_type 63 = .ok (.goto (-27), 3) := by decide +kernel
theorem dX9_type_66 : decode cX9_type 66 = .ok (.aload_n 0, 1) := by decide +kernel
theorem dX9_type_67 : decode cX9_type 67 = .ok (.getfield 16, 3) := by decide +kernel
theorem dX9_type_70 : decode cX9_type 70 = .ok (.getfield 62, 3) := by decide +kernel
theorem dX9_type_73 : decode cX9_type 73 = .ok (.ireturn, 1) := by decide +kernel
theorem dX9_clear_0 : decode cX9_clear 0 = .ok (.aload_n 0, 1) := by decide +kernel
theorem dX9_clear_1 : decode cX9_clear 1 = .ok (.getfield 16, 3) := by decide +kernel
theorem dX9_clear_4 : decode cX9_clear 4 = .ok (.getfield 62, 3) := by decide +kernel
theorem dX9_clear_7 : decode cX9_clear 7 = .ok (.istore_n 1, 1) := by decide +kernel
theorem dX9_clear_8 : decode cX9_clear 8 = .ok (.aload_n 0, 1) := by decide +kernel
theorem dX9_clear_9 : decode cX9_clear 9 = .ok (.getfield 16, 3) := by decide +kernel
theorem dX9_clear_12 : decode cX9_clear 12 = .ok (.iconst 0, 1) := by decide +kernel
theorem dX9_clear_13 : decode cX9_clear 13 = .ok (.putfield 62, 3) := by decide +kernel
theorem dX9_clear_16 : decode cX9_clear 16 = .ok (.iload_n 1, 1) := by decide +kernel
theorem dX9_clear_17 : decode cX9_clear 17 = .ok (.ireturn, 1) := by decide +kernel
theorem chIwsX9_read_0 : ∀ w ∈ ([.code yX9_read cX9_read 2 (some .int)] : List Cond), w ∈ wsX9_read := fun _ h => (List.mem_cons.mpr (Or.inl (List.mem_singleton.mp h)))
theorem chIwsX9_read_1 : ∀ w ∈ (wsX9_read_r1 : List Cond), w ∈ wsX9_read := fun _ h => (List.mem_cons_of_mem _ (List.mem_append_left _ (List.mem_append_left _ (List.mem_append_left _ (List.mem_append_left _ (List.mem_append_left _ (List.mem_append_left _ (List.mem_append_left _ (List.mem_append_left _ h)))))))))
theorem chIwsX9_read_2 : ∀ w ∈ (wsX9_read_r2 : List Cond), w ∈ wsX9_read := fun _ h => (List.mem_cons_of_mem _ (List.mem_append_left _ (List.mem_append_left _ (List.mem_append_left _ (List.mem_append_left _ (List.mem_append_left _ (List.mem_append_left _ (List.mem_append_left _ (List.mem_append_right _ (List.mem_append_left _ h))))))))))
theorem chIwsX9_read_3 : ∀ w ∈ (wsX9_read_r3 : List Cond), w ∈ wsX9_read := fun _ h => (List.mem_cons_of_mem _ (List.mem_append_left _ (List.mem_append_left _ (List.mem_append_left _ (List.mem_append_left _ (List.mem_append_left _ (List.mem_append_left _ (List.mem_append_left _ (List.mem_append_right _ (List.mem_append_right _ (List.mem_append_left _ h)))))))))))
theorem chIwsX9_read_4 : ∀ w ∈ (wsX9_read_r4 : List Cond), w ∈ wsX9_read := fun _ h => (List.mem_cons_of_mem _ (List.mem_append_left _ (List.mem_append_left _ (List.mem_append_left _ (List.mem_append_left _ (List.mem_append_left _ (List.mem_append_left _ (List.mem_append_left _ (List.mem_append_right _ (List.mem_append_right _ (List.mem_append_right _ (List.mem_append_left _ h))))))))))))
theorem chIwsX9_read_5 : ∀ w ∈ (wsX9_read_r5 : List Cond), w ∈ wsX9_read := fun _ h => (List.mem_cons_of_mem _ (List.mem_append_left _ (List.mem_append_left _ (List.mem_append_left _ (List.mem_append_left _ (List.mem_append_left _ (List.mem_append_left _ (List.mem_append_left _ (List.mem_append_right _ (List.mem_append_right _ (List.mem_append_right _ (List.mem_append_right _ (List.mem_append_left _ h)))))))))))))
theorem chIwsX9_read_6 : ∀ w ∈ (wsX9_read_r6 : List Cond), w ∈ wsX9_read := fun _ h => (List.mem_cons_of_mem _ (List.mem_append_left _ (List.mem_append_left _ (List.mem_append_left _ (List.mem_append_left _ (List.mem_append_left _ (List.mem_append_left _ (List.mem_append_left _ (List.mem_append_right _ (List.mem_append_right _ (List.mem_append_right _ (List.mem_append_right _ (List.mem_append_right _ (List.mem_append_left _ h))))))))))))))
theorem chIwsX9_read_7 : ∀ w ∈ (wsX9_read_r7 : List Cond), w ∈ wsX9_read := fun _ h => (List.mem_cons_of_mem _ (List.mem_append_left _ (List.mem_append_left _ (List.mem_append_left _ (List.mem_append_left _ (List.mem_append_left _ (List.mem_append_left _ (List.mem_append_left _ (List.mem_append_right _ (List.mem_append_right _ (List.mem_append_right _ (List.mem_append_right _ (List.mem_append_right _ (List.mem_append_right _ (List.mem_append_left _ h)))))))))))))))
theorem chIwsX9_read_8 : ∀ w ∈ (wsX9_read_r8 : List Cond), w ∈ wsX9_read := fun _ h => (List.mem_cons_of_mem _ (List.mem_append_left _ (List.mem_append_left _ (List.mem_append_left _ (List.mem_append_left _ (List.mem_append_left _ (List.mem_append_left _ (List.mem_append_left _ (List.mem_append_right _ (List.mem_append_right _ (List.mem_append_right _ (List.mem_append_right _ (List.mem_append_right _ (List.mem_append_right _ (List.mem_append_right _ (List.mem_append_left _ h))))))))))))))))
theorem chIwsX9_read_9 : ∀ w ∈ (wsX9_read_r9 : List Cond), w ∈ wsX9_read := fun _ h => (List.mem_cons_of_mem _ (List.mem_append_left _ (List.mem_append_left _ (List.mem_append_left _ (List.mem_append_left _ (List.mem_append_left _ (List.mem_append_left _ (List.mem_append_left _ (List.mem_append_right _ (List.mem_append_right _ (List.mem_append_right _ (List.mem_append_right _ (List.mem_append_right _ (List.mem_append_right _ (List.mem_append_right _ (List.mem_append_right _ (List.mem_append_left _ h)))))))))))))))))
theorem chIwsX9_read_10 : ∀ w ∈ (wsX9_read_r10 : List Cond), w ∈ wsX9_read := fun _ h => (List.mem_cons_of_mem _ (List.mem_append_left _ (List.mem_append_left _ (List.mem_append_left _ (List.mem_append_left _ (List.mem_append_left _ (List.mem_append_left _ (List.mem_append_left _ (List.mem_append_right _ (List.mem_append_right _ (List.mem_append_right _ (List.mem_append_right _ (List.mem_append_right _ (List.mem_append_right _ (List.mem_append_right _ (List.mem_append_right _ (List.mem_append_right _ (List.mem_append_left _ h))))))))))))))))))
theorem chIwsX9_read_11 : ∀ w ∈ (wsX9_read_r11 : List Cond), w ∈ wsX9_read := fun _ h => (List.mem_cons_of_mem _ (List.mem_append_left _ (List.mem_append_left _ (List.mem_append_left _ (List.mem_append_left _ (List.mem_append_left _ (List.mem_append_left _ (List.mem_append_left _ (List.mem_append_right _ (List.mem_append_right _ (List.mem_append_right _ (List.mem_append_right _ (List.mem_append_right _ (List.mem_append_right _ (List.mem_append_right _ (List.mem_append_right _ (List.mem_append_right _ (List.mem_append_right _ (List.mem_append_left _ h)))))))))))))))))))
theorem chIwsX9_read_12 : ∀ w ∈ (wsX9_read_r12 : List Cond), w ∈ wsX9_read := fun _ h => (List.mem_cons_of_mem _ (List.mem_append_left _ (List.mem_append_left _ (List.mem_append_left _ (List.mem_append_left _ (List.mem_append_left _ (List.mem_append_left _ (List.mem_append_left _ (List.mem_append_right _ (List.mem_append_right _ (List.mem_append_right _ (List.mem_append_right _ (List.mem_append_right _ (List.mem_append_right _ (List.mem_append_right _ (List.mem_append_right _ (List.mem_append_right _ (List.mem_append_right _ (List.mem_append_right _ h)))))))))))))))))))
theorem chIwsX9_read_13 : ∀ w ∈ (wsX90 : List Cond), w ∈ wsX9_read := fun _ h => (List.mem_cons_of_mem _ (List.mem_append_left _ (List.mem_append_left _ (List.mem_append_left _ (List.mem_append_left _ (List.mem_append_left _ (List.mem_append_left _ (List.mem_append_right _ h))))))))
theorem chIwsX9_read_14 : ∀ w ∈ (wsX60 : List Cond), w ∈ wsX9_read := fun _ h => (List.mem_cons_of_mem _ (List.mem_append_left _ (List.mem_append_left _ (List.mem_append_left _ (List.mem_append_left _ (List.mem_append_left _ (List.mem_append_right _ h)))))))
theorem chIwsX9_read_15 : ∀ w ∈ (wsX40 : List Cond), w ∈ wsX9_read := fun _ h => (List.mem_cons_of_mem _ (List.mem_append_left _ (List.mem_append_left _ (List.mem_append_left _ (List.mem_append_left _ (List.mem_append_right _ h))))))
theorem chIwsX9_read_16 : ∀ w ∈ (wsX30 : List Cond), w ∈ wsX9_read := fun _ h => (List.mem_cons_of_mem _ (List.mem_append_left _ (List.mem_append_left _ (List.mem_append_left _ (List.mem_append_right _ h)))))
theorem chIwsX9_read_17 : ∀ w ∈ (wsX70 : List Cond), w ∈ wsX9_read := fun _ h => (List.mem_cons_of_mem _ (List.mem_append_left _ (List.mem_append_left _ (List.mem_append_right _ h))))
theorem chIwsX9_read_18 : ∀ w ∈ (wsX50 : List Cond), w ∈ wsX9_read := fun _ h => (List.mem_cons_of_mem _ (List.mem_append_left _ (List.mem_append_right _ h)))
theorem chIwsX9_read_19 : ∀ w ∈ (wsX80 : List Cond), w ∈ wsX9_read := fun _ h => (List.mem_cons_of_mem _ (List.mem_append_right _ h))
def chwsX9_read : Nat → List Cond
  | 0 => [.code yX9_read cX9_read 2 (some .int)]
  | 1 => wsX9_read_r1
  | 2 => wsX9_read_r2
  | 3 => wsX9_read_r3
  | 4 => wsX9_read_r4
  | 5 => wsX9_read_r5
  | 6 => wsX9_read_r6
  | 7 => wsX9_read_r7
  | 8 => wsX9_read_r8
  | 9 => wsX9_read_r9
  | 10 => wsX9_read_r10
  | 11 => wsX9_read_r11
  | 12 => wsX9_read_r12
  | 13 => wsX90
  | 14 => wsX60
  | 15 => wsX40
  | 16 => wsX30
  | 17 => wsX70
  | 18 => wsX50
  | 19 => wsX80
  | _ => []
theorem chwsX9_read_in : ∀ (j : Nat) (w : Cond), w ∈ chwsX9_read j → w ∈ wsX9_read
  | 0, w, h => chIwsX9_read_0 w h
  | 1, w, h => chIwsX9_read_1 w h
  | 2, w, h => chIwsX9_read_2 w h
  | 3, w, h => chIwsX9_read_3 w h
  | 4, w, h => chIwsX9_read_4 w h
  | 5, w, h => chIwsX9_read_5 w h
  | 6, w, h => chIwsX9_read_6 w h
  | 7, w, h => chIwsX9_read_7 w h
  | 8, w, h => chIwsX9_read_8 w h
  | 9, w, h => chIwsX9_read_9 w h
  | 10, w, h => chIwsX9_read_10 w h
  | 11, w, h => chIwsX9_read_11 w h
  | 12, w, h => chIwsX9_read_12 w h
  | 13, w, h => chIwsX9_read_13 w h
  | 14, w, h => chIwsX9_read_14 w h
  | 15, w, h => chIwsX9_read_15 w h
  | 16, w, h => chIwsX9_read_16 w h
  | 17, w, h => chIwsX9_read_17 w h
  | 18, w, h => chIwsX9_read_18 w h
  | 19, w, h => chIwsX9_read_19 w h
  | _ + 20, _, h => absurd h List.not_mem_nil
set_option maxRecDepth 20000 in
theorem ggX9_read_X3_parse : GoodIn wsX9_read wsX3_parse := goodIn_r2 chwsX9_read chwsX9_read_in _ [(1, 10), (1, 11), (1, 12), (1, 13), (1, 14), (1, 15), (1, 16), (1, 17), (1, 18), (1, 19), (1, 20), (1, 21), (1, 22), (1, 23), (2, 0), (2, 1), (2, 2), (2, 3), (2, 4), (2, 5), (2, 6), (2, 7), (2, 8), (2, 9), (2, 10), (2, 11), (2, 12), (2, 13), (2, 14), (2, 15), (2, 16), (2, 17), (2, 18), (2, 19), (2, 20), (2, 21), (2, 22), (2, 23), (3, 0), (3, 1), (3, 2), (3, 3), (3, 4), (3, 5), (3, 6), (3, 7), (3, 8), (3, 9), (3, 10), (3, 11), (3, 12), (3, 13), (3, 14), (3, 15), (3, 16), (3, 17), (3, 18), (3, 19), (3, 20), (3, 21), (3, 22), (3, 23), (4, 0), (4, 1), (4, 2), (4, 3), (4, 4), (4, 5), (4, 6), (4, 7), (4, 8), (4, 9), (4, 10), (4, 11), (4, 12), (4, 13), (4, 14), (4, 15), (4, 16), (4, 17), (4, 18), (4, 19), (4, 20), (4, 21), (4, 22), (4, 23), (5, 0), (5, 1), (5, 2), (5, 3), (5, 4), (5, 5), (5, 6), (5, 7), (5, 8), (5, 9), (5, 10), (5, 11), (5, 12), (5, 13), (5, 14), (5, 15), (5, 16), (5, 17), (5, 18), (5, 19), (5, 20), (5, 21), (5, 22), (5, 23), (6, 0), (6, 1), (6, 2), (6, 3), (6, 4), (6, 5), (6, 6), (6, 7), (6, 8), (6, 9), (6, 10), (6, 11), (6, 12), (6, 13), (6, 14), (6, 15), (6, 16), (6, 17), (6, 18), (6, 19), (6, 20), (6, 21), (6, 22), (6, 23), (7, 0), (7, 1), (7, 2), (7, 3), (7, 4), (7, 5), (7, 6), (7, 7), (7, 8), (7, 9), (7, 10), (7, 11), (7, 12), (7, 13), (7, 14), (7, 15), (7, 16), (7, 17), (7, 18), (1, 9), (7, 19), (7, 20), (7, 21), (7, 22), (7, 23), (8, 0), (8, 1), (8, 2), (8, 3), (8, 4), (8, 5), (8, 6), (8, 7), (8, 8), (8, 9), (8, 10), (8, 11), (8, 12), (8, 13), (8, 14), (8, 15), (8, 16), (8, 17), (8, 18), (8, 19), (8, 20), (8, 21), (8, 22), (8, 23), (9, 0), (9, 1), (9, 2), (9, 3), (9, 4), (9, 5), (9, 6), (9, 7), (9, 8), (9, 9), (9, 10), (9, 11), (9, 12), (9, 13), (9, 14), (9, 15), (9, 16), (9, 17), (9, 18), (9, 19), (9, 20), (9, 21), (9, 22), (9, 23), (10, 0), (10, 1), (10, 2), (10, 3), (10, 4), (10, 5), (10, 6), (10, 7), (10, 8), (10, 9), (10, 10), (10, 11), (10, 12), (10, 13), (10, 14), (10, 15), (10, 16), (10, 17), (10, 18), (10, 19), (10, 20), (10, 21), (10, 22), (10, 23), (11, 0), (11, 1), (11, 2), (11, 3), (11, 4), (11, 5), (11, 6), (11, 7), (11, 8), (11, 9), (11, 10), (11, 11), (11, 12), (11, 13), (11, 14), (11, 15), (11, 16), (11, 17), (11, 18), (11, 19), (11, 20), (11, 21), (11, 22), (11, 23), (12, 0), (12, 1), (12, 2), (12, 3), (12, 4), (16, 0), (16, 1), (16, 2), (16, 3), (17, 0), (17, 1), (17, 2), (17, 3), (17, 4), (17, 5), (17, 6), (17, 7), (15, 0), (15, 1), (15, 2), (15, 3), (15, 4), (15, 5), (14, 0), (14, 1), (18, 0), (18, 1), (18, 2), (18, 3), (18, 4), (18, 5), (18, 6), (18, 7), (18, 8)] rfl (by decide +kernel)
set_option maxRecDepth 20000 in
theorem gX9_read_X3_parse : GoodIn wsX9_read (wsV RX9 70 RX3 yX3_parse wsX3_parse) := goodIn_app (goodIn_r2 chwsX9_read chwsX9_read_in _ [(1, 6), (1, 7), (1, 8), (1, 9)] rfl (by decide +kernel)) ggX9_read_X3_parse
set_option maxRecDepth 20000 in
theorem ggX9_read_X3_exchange : GoodIn wsX9_read wsX3_exchange := goodIn_r2 chwsX9_read chwsX9_read_in _ [(12, 8), (1, 11), (16, 0), (16, 1), (16, 2), (16, 3)] rfl (by decide +kernel)
set_option maxRecDepth 20000 in
theorem gX9_read_X3_exchange : GoodIn wsX9_read (wsV RX9 74 RX3 yX3_exchange wsX3_exchange) := goodIn_app (goodIn_r2 chwsX9_read chwsX9_read_in _ [(12, 5), (12, 6), (12, 7), (1, 9)] rfl (by decide +kernel)) ggX9_read_X3_exchange
set_option maxRecDepth 20000 in
theorem ggX9_read_X8_forget : GoodIn wsX9_read wsX8_forget := goodIn_r2 chwsX9_read chwsX9_read_in _ [(12, 13), (12, 14), (19, 0), (19, 1), (19, 2), (19, 3), (19, 4), (19, 5), (19, 6), (19, 7), (19, 8), (19, 9), (19, 10), (19, 11), (19, 12), (19, 13), (19, 14), (19, 15), (19, 16)] rfl (by decide +kernel)
set_option maxRecDepth 20000 in
theorem gX9_read_X8_forget : GoodIn wsX9_read (wsV RX9 78 RX8 yX8_forget wsX8_forget) := goodIn_app (goodIn_r2 chwsX9_read chwsX9_read_in _ [(12, 9), (12, 10), (12, 11), (12, 12)] rfl (by decide +kernel)) ggX9_read_X8_forget
theorem dX9_read_0 : decode cX9_read 0 = .ok (.aload_n 0, 1) := by decide +kernel
theorem dX9_read_1 : decode cX9_read 1 = .ok (.getfield 23, 3) := by decide +kernel
theorem dX9_read_4 : decode cX9_read 4 = .ok (.aload_n 0, 1) := by decide +kernel
theorem dX9_read_5 : decode cX9_read 5 = .ok (.getfield 16, 3) := by decide +kernel
theorem dX9_read_8 : decode cX9_read 8 = .ok (.invokevirtual 70, 3) := by decide +kernel
theorem dX9_read_11 : decode cX9_read 11 = .ok (.istore_n 1, 1) := by decide +kernel
theorem dX9_read_12 : decode cX9_read 12 = .ok (.iload_n 1, 1) := by decide +kernel
theorem dX9_read_13 : decode cX9_read 13 = .ok (.ifCond .lt 8, 3) := by decide +kernel
theorem dX9_read_16 : decode cX9_read 16 = .ok (.bipush (-10), 2) := by decide +kernel
theorem dX9_read_18 : decode cX9_read 18 = .ok (.iload_n 1, 1) := by decide +kernel
theorem dX9_read_19 : decode cX9_read 19 = .ok (.isub, 1) := by decide +kernel
theorem dX9_read_20 : decode cX9_read 20 = .ok (.ireturn, 1) := by decide +kernel
theorem dX9_read_21 : decode cX9_read 21 = .ok (.aload_n 0, 1) := by decide +kernel
theorem dX9_read_22 : decode cX9_read 22 = .ok (.aload_n 0, 1) := by decide +kernel
theorem dX9_read_23 : decode cX9_read 23 = .ok (.getfield 23, 3) := by decide +kernel
theorem dX9_read_26 : decode cX9_read 26 = .ok (.aload_n 0, 1) := by decide +kernel
theorem dX9_read_27 : decode cX9_read 27 = .ok (.getfield 51, 3) := by decide +kernel
theorem dX9_read_30 : decode cX9_read 30 = .ok (.invokevirtual 74, 3) := by decide +kernel
theorem dX9_read_33 : decode cX9_read 33 = .ok (.putfield 51, 3) := by decide +kernel
theorem dX9_read_36 : decode cX9_read 36 = .ok (.aload_n 0, 1) := by decide +kernel
theorem dX9_read_37 : decode cX9_read 37 = .ok (.getfield 16, 3) := by decide +kernel
theorem dX9_read_40 : decode cX9_read 40 = .ok (.iconst 0, 1) := by decide +kernel
theorem dX9_read_41 : decode cX9_read 41 = .ok (.putfield 62, 3) := by decide +kernel
theorem dX9_read_44 : decode cX9_read 44 = .ok (.aload_n 0, 1) := by decide +kernel
theorem dX9_read_45 : decode cX9_read 45 = .ok (.getfield 37, 3) := by decide +kernel
theorem dX9_read_48 : decode cX9_read 48 = .ok (.invokevirtual 78, 3) := by decide +kernel
theorem dX9_read_51 : decode cX9_read 51 = .ok (.aload_n 0, 1) := by decide +kernel
theorem dX9_read_52 : decode cX9_read 52 = .ok (.getfield 51, 3) := by decide +kernel
theorem dX9_read_55 : decode cX9_read 55 = .ok (.getfield 81, 3) := by decide +kernel
theorem dX9_read_58 : decode cX9_read 58 = .ok (.ireturn, 1) := by decide +kernel
theorem chIwsX9_run_0 : ∀ w ∈ ([.code yX9_run cX9_run 2 (some .int)] : List Cond), w ∈ wsX9_run := fun _ h => (List.mem_cons.mpr (Or.inl (List.mem_singleton.mp h)))
theorem chIwsX9_run_1 : ∀ w ∈ (wsX9_run_r1 : List Cond), w ∈ wsX9_run := fun _ h => (List.mem_cons_of_mem _ (List.mem_append_left _ (List.mem_append_left _ (List.mem_append_left _ (List.mem_append_left _ (List.mem_append_left _ h))))))
theorem chIwsX9_run_2 : ∀ w ∈ (wsX9_run_r2 : List Cond), w ∈ wsX9_run := fun _ h => (List.mem_cons_of_mem _ (List.mem_append_left _ (List.mem_append_left _ (List.mem_append_left _ (List.mem_append_left _ (List.mem_append_right _ h))))))
theorem chIwsX9_run_3 : ∀ w ∈ (wsX90 : List Cond), w ∈ wsX9_run := fun _ h => (List.mem_cons_of_mem _ (List.mem_append_left _ (List.mem_append_left _ (List.mem_append_left _ (List.mem_append_right _ h)))))
theorem chIwsX9_run_4 : ∀ w ∈ (wsX20 : List Cond), w ∈ wsX9_run := fun _ h => (List.mem_cons_of_mem _ (List.mem_append_left _ (List.mem_append_left _ (List.mem_append_right _ h))))
theorem chIwsX9_run_5 : ∀ w ∈ (wsX40 : List Cond), w ∈ wsX9_run := fun _ h => (List.mem_cons_of_mem _ (List.mem_append_left _ (List.mem_append_right _ h)))
theorem chIwsX9_run_6 : ∀ w ∈ (wsX50 : List Cond), w ∈ wsX9_run := fun _ h => (List.mem_cons_of_mem _ (List.mem_append_right _ h))
def chwsX9_run : Nat → List Cond
  | 0 => [.code yX9_run cX9_run 2 (some .int)]
  | 1 => wsX9_run_r1
  | 2 => wsX9_run_r2
  | 3 => wsX90
  | 4 => wsX20
  | 5 => wsX40
  | 6 => wsX50
  | _ => []
theorem chwsX9_run_in : ∀ (j : Nat) (w : Cond), w ∈ chwsX9_run j → w ∈ wsX9_run
  | 0, w, h => chIwsX9_run_0 w h
  | 1, w, h => chIwsX9_run_1 w h
  | 2, w, h => chIwsX9_run_2 w h
  | 3, w, h => chIwsX9_run_3 w h
  | 4, w, h => chIwsX9_run_4 w h
  | 5, w, h => chIwsX9_run_5 w h
  | 6, w, h => chIwsX9_run_6 w h
  | _ + 7, _, h => absurd h List.not_mem_nil
set_option maxRecDepth 20000 in
theorem ggX9_run_X2_execute : GoodIn wsX9_run wsX2_execute := goodIn_r2 chwsX9_run chwsX9_run_in _ [(1, 7), (1, 8), (1, 9), (1, 10), (1, 11), (1, 12), (1, 13), (1, 14), (1, 6), (1, 15), (1, 16), (1, 17), (1, 18), (1, 19), (1, 20), (1, 21), (1, 22), (1, 23), (2, 0), (2, 1), (2, 2), (2, 3), (2, 4), (2, 5), (2, 6), (2, 7), (2, 8), (2, 9), (2, 10), (2, 11), (2, 12), (2, 13), (2, 14), (2, 15), (2, 16), (2, 17), (2, 18), (2, 19), (2, 20), (4, 0), (4, 1), (4, 2), (4, 3), (4, 4), (5, 0), (5, 1), (5, 2), (5, 3), (5, 4), (5, 5), (6, 0), (6, 1), (6, 2), (6, 3), (6, 4), (6, 5), (6, 6), (6, 7), (6, 8)] rfl (by decide +kernel)
set_option maxRecDepth 20000 in
theorem gX9_run_X2_execute : GoodIn wsX9_run (wsV RX9 84 RX2 yX2_execute wsX2_execute) := goodIn_app (goodIn_r2 chwsX9_run chwsX9_run_in _ [(1, 3), (1, 4), (1, 5), (1, 6)] rfl (by decide +kernel)) ggX9_run_X2_execute
theorem dX9_run_0 : decode cX9_run 0 = .ok (.iload_n 1, 1) := by decide +kernel
theorem dX9_run_1 : decode cX9_run 1 = .ok (.ifCond .lt 10, 3) := by decide +kernel
theorem dX9_run_4 : decode cX9_run 4 = .ok (.iload_n 1, 1) := by decide +kernel
theorem dX9_run_5 : decode cX9_run 5 = .ok (.sipush 4095, 3) := by decide +kernel
theorem dX9_run_8 : decode cX9_run 8 = .ok (.if_icmp .le 5, 3) := by decide +kernel
theorem dX9_run_11 : decode cX9_run 11 = .ok (.iconst (-1), 1) := by decide +kernel
theorem dX9_run_12 : decode cX9_run 12 = .ok (.ireturn, 1) := by decide +kernel
theorem dX9_run_13 : decode cX9_run 13 = .ok (.aload_n 0, 1) := by decide +kernel
theorem dX9_run_14 : decode cX9_run 14 = .ok (.getfield 30, 3) := by decide +kernel
theorem dX9_run_17 : decode cX9_run 17 = .ok (.aload_n 0, 1) := by decide +kernel
theorem dX9_run_18 : decode cX9_run 18 = .ok (.getfield 51, 3) := by decide +kernel
theorem dX9_run_21 : decode cX9_run 21 = .ok (.iload_n 1, 1) := by decide +kernel
theorem dX9_run_22 : decode cX9_run 22 = .ok (.iconst 0, 1) := by decide +kernel
theorem dX9_run_23 : decode cX9_run 23 = .ok (.invokevirtual 84, 3) := by decide +kernel
theorem dX9_run_26 : decode cX9_run 26 = .ok (.aload_n 0, 1) := by decide +kernel
theorem dX9_run_27 : decode cX9_run 27 = .ok (.getfield 30, 3) := by decide +kernel
theorem dX9_run_30 : decode cX9_run 30 = .ok (.getfield 88, 3) := by decide +kernel
theorem dX9_run_33 : decode cX9_run 33 = .ok (.ireturn, 1) := by decide +kernel
set_option maxRecDepth 20000 in
theorem ggX9_ran_X2_kept : GoodIn wsX9_ran wsX2_kept := goodIn_r _ [8, 9, 10, 11, 12, 13, 21, 22, 23, 24, 25] rfl (by decide +kernel)
set_option maxRecDepth 20000 in
theorem gX9_ran_X2_kept : GoodIn wsX9_ran (wsV RX9 97 RX2 yX2_kept wsX2_kept) := goodIn_app (goodIn_r _ [4, 5, 6, 7] rfl (by decide +kernel)) ggX9_ran_X2_kept
theorem dX9_ran_0 : decode cX9_ran 0 = .ok (.iload_n 1, 1) := by decide +kernel
theorem dX9_ran_1 : decode cX9_ran 1 = .ok (.tableswitch 51 0 2 #[27, 35, 43], 27) := by decide +kernel
theorem dX9_ran_28 : decode cX9_ran 28 = .ok (.aload_n 0, 1) := by decide +kernel
theorem dX9_ran_29 : decode cX9_ran 29 = .ok (.getfield 30, 3) := by decide +kernel
theorem dX9_ran_32 : decode cX9_ran 32 = .ok (.getfield 91, 3) := by decide +kernel
theorem dX9_ran_35 : decode cX9_ran 35 = .ok (.ireturn, 1) := by decide +kernel
theorem dX9_ran_36 : decode cX9_ran 36 = .ok (.aload_n 0, 1) := by decide +kernel
theorem dX9_ran_37 : decode cX9_ran 37 = .ok (.getfield 30, 3) := by decide +kernel
theorem dX9_ran_40 : decode cX9_ran 40 = .ok (.getfield 94, 3) := by decide +kernel
theorem dX9_ran_43 : decode cX9_ran 43 = .ok (.ireturn, 1) := by decide +kernel
theorem dX9_ran_44 : decode cX9_ran 44 = .ok (.aload_n 0, 1) := by decide +kernel
theorem dX9_ran_45 : decode cX9_ran 45 = .ok (.getfield 30, 3) := by decide +kernel
theorem dX9_ran_48 : decode cX9_ran 48 = .ok (.invokevirtual 97, 3) := by decide +kernel
theorem dX9_ran_51 : decode cX9_ran 51 = .ok (.ireturn, 1) := by decide +kernel
theorem dX9_ran_52 : decode cX9_ran 52 = .ok (.iconst (-1), 1) := by decide +kernel
theorem dX9_ran_53 : decode cX9_ran 53 = .ok (.ireturn, 1) := by decide +kernel
set_option maxRecDepth 20000 in
theorem ggX9_tape_X2_kept : GoodIn wsX9_tape wsX2_kept := goodIn_r _ [8, 9, 10, 11, 12, 13, 25, 26, 27, 28, 29] rfl (by decide +kernel)
set_option maxRecDepth 20000 in
theorem gX9_tape_X2_kept : GoodIn wsX9_tape (wsV RX9 97 RX2 yX2_kept wsX2_kept) := goodIn_app (goodIn_r _ [4, 5, 6, 7] rfl (by decide +kernel)) ggX9_tape_X2_kept
set_option maxRecDepth 20000 in
theorem ggX9_tape_X9_isFlag : GoodIn wsX9_tape wsX9_isFlag := goodIn_r _ [17] rfl (by decide +kernel)
set_option maxRecDepth 20000 in
theorem gX9_tape_X9_isFlag : GoodIn wsX9_tape (va_wsS RX9 101 yX9_isFlag wsX9_isFlag) := goodIn_app (goodIn_r _ [14, 15, 16] rfl (by decide +kernel)) ggX9_tape_X9_isFlag
theorem dX9_tape_0 : decode cX9_tape 0 = .ok (.iload_n 1, 1) := by decide +kernel
theorem dX9_tape_1 : decode cX9_tape 1 = .ok (.ifCond .lt 21, 3) := by decide +kernel
theorem dX9_tape_4 : decode cX9_tape 4 = .ok (.iload_n 1, 1) := by decide +kernel
theorem dX9_tape_5 : decode cX9_tape 5 = .ok (.aload_n 0, 1) := by decide +kernel
theorem dX9_tape_6 : decode cX9_tape 6 = .ok (.getfield 30, 3) := by decide +kernel
theorem dX9_tape_9 : decode cX9_tape 9 = .ok (.invokevirtual 97, 3) := by decide +kernel
theorem dX9_tape_12 : decode cX9_tape 12 = .ok (.if_icmp .ge 10, 3) := by decide +kernel
theorem dX9_tape_15 : decode cX9_tape 15 = .ok (.iload_n 2, 1) := by decide +kernel
theorem dX9_tape_16 : decode cX9_tape 16 = .ok (.invokestatic 101, 3) := by decide +kernel
theorem dX9_tape_19 : decode cX9_tape 19 = .ok (.ifCond .ne 5, 3) := by decide +kernel
theorem dX9_tape_22 : decode cX9_tape 22 = .ok (.iconst (-1), 1) := by decide +kernel
theorem dX9_tape_23 : decode cX9_tape 23 = .ok (.ireturn, 1) := by decide +kernel
theorem dX9_tape_24 : decode cX9_tape 24 = .ok (.iload_n 2, 1) := by decide +kernel
theorem dX9_tape_25 : decode cX9_tape 25 = .ok (.ifCond .ne 15, 3) := by decide +kernel
theorem dX9_tape_28 : decode cX9_tape 28 = .ok (.aload_n 0, 1) := by decide +kernel
theorem dX9_tape_29 : decode cX9_tape 29 = .ok (.getfield 30, 3) := by decide +kernel
theorem dX9_tape_32 : decode cX9_tape 32 = .ok (.getfield 104, 3) := by decide +kernel
theorem dX9_tape_35 : decode cX9_tape 35 = .ok (.iload_n 1, 1) := by decide +kernel
theorem dX9_tape_36 : decode cX9_tape 36 = .ok (.iaload, 1) := by decide +kernel
theorem dX9_tape_37 : decode cX9_tape 37 = .ok (.goto 12, 3) := by decide +kernel
theorem dX9_tape_40 : decode cX9_tape 40 = .ok (.aload_n 0, 1) := by decide +kernel
theorem dX9_tape_41 : decode cX9_tape 41 = .ok (.getfield 30, 3) := by decide +kernel
theorem dX9_tape_44 : decode cX9_tape 44 = .ok (.getfield 107, 3) := by decide +kernel
theorem dX9_tape_47 : decode cX9_tape 47 = .ok (.iload_n 1, 1) := by decide +kernel
theorem dX9_tape_48 : decode cX9_tape 48 = .ok (.iaload, 1) := by decide +kernel
theorem dX9_tape_49 : decode cX9_tape 49 = .ok (.ireturn, 1) := by decide +kernel
theorem chIwsX9_heaps_0 : ∀ w ∈ ([.code yX9_heaps cX9_heaps 7 (some .int)] : List Cond), w ∈ wsX9_heaps := fun _ h => (List.mem_cons.mpr (Or.inl (List.mem_singleton.mp h)))
theorem chIwsX9_heaps_1 : ∀ w ∈ (wsX9_heaps_r1 : List Cond), w ∈ wsX9_heaps := fun _ h => (List.mem_cons_of_mem _ (List.mem_append_left _ (List.mem_append_left _ (List.mem_append_left _ (List.mem_append_left _ (List.mem_append_left _ (List.mem_append_left _ (List.mem_append_left _ h))))))))
theorem chIwsX9_heaps_2 : ∀ w ∈ (wsX9_heaps_r2 : List Cond), w ∈ wsX9_heaps := fun _ h => (List.mem_cons_of_mem _ (List.mem_append_left _ (List.mem_append_left _ (List.mem_append_left _ (List.mem_append_left _ (List.mem_append_left _ (List.mem_append_left _ (List.mem_append_right _ (List.mem_append_left _ h)))))))))
theorem chIwsX9_heaps_3 : ∀ w ∈ (wsX9_heaps_r3 : List Cond), w ∈ wsX9_heaps := fun _ h => (List.mem_cons_of_mem _ (List.mem_append_left _ (List.mem_append_left _ (List.mem_append_left _ (List.mem_append_left _ (List.mem_append_left _ (List.mem_append_left _ (List.mem_append_right _ (List.mem_append_right _ (List.mem_append_left _ h))))))))))
theorem chIwsX9_heaps_4 : ∀ w ∈ (wsX9_heaps_r4 : List Cond), w ∈ wsX9_heaps := fun _ h => (List.mem_cons_of_mem _ (List.mem_append_left _ (List.mem_append_left _ (List.mem_append_left _ (List.mem_append_left _ (List.mem_append_left _ (List.mem_append_left _ (List.mem_append_right _ (List.mem_append_right _ (List.mem_append_right _ (List.mem_append_left _ h)))))))))))
theorem chIwsX9_heaps_5 : ∀ w ∈ (wsX9_heaps_r5 : List Cond), w ∈ wsX9_heaps := fun _ h => (List.mem_cons_of_mem _ (List.mem_append_left _ (List.mem_append_left _ (List.mem_append_left _ (List.mem_append_left _ (List.mem_append_left _ (List.mem_append_left _ (List.mem_append_right _ (List.mem_append_right _ (List.mem_append_right _ (List.mem_append_right _ (List.mem_append_left _ h))))))))))))
theorem chIwsX9_heaps_6 : ∀ w ∈ (wsX9_heaps_r6 : List Cond), w ∈ wsX9_heaps := fun _ h => (List.mem_cons_of_mem _ (List.mem_append_left _ (List.mem_append_left _ (List.mem_append_left _ (List.mem_append_left _ (List.mem_append_left _ (List.mem_append_left _ (List.mem_append_right _ (List.mem_append_right _ (List.mem_append_right _ (List.mem_append_right _ (List.mem_append_right _ (List.mem_append_left _ h)))))))))))))
theorem chIwsX9_heaps_7 : ∀ w ∈ (wsX9_heaps_r7 : List Cond), w ∈ wsX9_heaps := fun _ h => (List.mem_cons_of_mem _ (List.mem_append_left _ (List.mem_append_left _ (List.mem_append_left _ (List.mem_append_left _ (List.mem_append_left _ (List.mem_append_left _ (List.mem_append_right _ (List.mem_append_right _ (List.mem_append_right _ (List.mem_append_right _ (List.mem_append_right _ (List.mem_append_right _ h)))))))))))))
theorem chIwsX9_heaps_8 : ∀ w ∈ (wsX90 : List Cond), w ∈ wsX9_heaps := fun _ h => (List.mem_cons_of_mem _ (List.mem_append_left _ (List.mem_append_left _ (List.mem_append_left _ (List.mem_append_left _ (List.mem_append_left _ (List.mem_append_right _ h)))))))
theorem chIwsX9_heaps_9 : ∀ w ∈ (wsX80 : List Cond), w ∈ wsX9_heaps := fun _ h => (List.mem_cons_of_mem _ (List.mem_append_left _ (List.mem_append_left _ (List.mem_append_left _ (List.mem_append_left _ (List.mem_append_right _ h))))))
theorem chIwsX9_heaps_10 : ∀ w ∈ (wsX40 : List Cond), w ∈ wsX9_heaps := fun _ h => (List.mem_cons_of_mem _ (List.mem_append_left _ (List.mem_append_left _ (List.mem_append_left _ (List.mem_append_right _ h)))))
theorem chIwsX9_heaps_11 : ∀ w ∈ (wsX10 : List Cond), w ∈ wsX9_heaps := fun _ h => (List.mem_cons_of_mem _ (List.mem_append_left _ (List.mem_append_left _ (List.mem_append_right _ h))))
theorem chIwsX9_heaps_12 : ∀ w ∈ (wsX20 : List Cond), w ∈ wsX9_heaps := fun _ h => (List.mem_cons_of_mem _ (List.mem_append_left _ (List.mem_append_right _ h)))
theorem chIwsX9_heaps_13 : ∀ w ∈ (wsX50 : List Cond), w ∈ wsX9_heaps := fun _ h => (List.mem_cons_of_mem _ (List.mem_append_right _ h))
def chwsX9_heaps : Nat → List Cond
  | 0 => [.code yX9_heaps cX9_heaps 7 (some .int)]
  | 1 => wsX9_heaps_r1
  | 2 => wsX9_heaps_r2
  | 3 => wsX9_heaps_r3
  | 4 => wsX9_heaps_r4
  | 5 => wsX9_heaps_r5
  | 6 => wsX9_heaps_r6
  | 7 => wsX9_heaps_r7
  | 8 => wsX90
  | 9 => wsX80
  | 10 => wsX40
  | 11 => wsX10
  | 12 => wsX20
  | 13 => wsX50
  | _ => []
theorem chwsX9_heaps_in : ∀ (j : Nat) (w : Cond), w ∈ chwsX9_heaps j → w ∈ wsX9_heaps
  | 0, w, h => chIwsX9_heaps_0 w h
  | 1, w, h => chIwsX9_heaps_1 w h
  | 2, w, h => chIwsX9_heaps_2 w h
  | 3, w, h => chIwsX9_heaps_3 w h
  | 4, w, h => chIwsX9_heaps_4 w h
  | 5, w, h => chIwsX9_heaps_5 w h
  | 6, w, h => chIwsX9_heaps_6 w h
  | 7, w, h => chIwsX9_heaps_7 w h
  | 8, w, h => chIwsX9_heaps_8 w h
  | 9, w, h => chIwsX9_heaps_9 w h
  | 10, w, h => chIwsX9_heaps_10 w h
  | 11, w, h => chIwsX9_heaps_11 w h
  | 12, w, h => chIwsX9_heaps_12 w h
  | 13, w, h => chIwsX9_heaps_13 w h
  | _ + 14, _, h => absurd h List.not_mem_nil
set_option maxRecDepth 20000 in
theorem ggX9_heaps_X9_isWatched : GoodIn wsX9_heaps wsX9_isWatched := goodIn_r2 chwsX9_heaps chwsX9_heaps_in _ [(1, 5), (1, 6), (1, 7), (1, 4), (1, 8), (1, 9), (1, 10), (1, 11)] rfl (by decide +kernel)
set_option maxRecDepth 20000 in
theorem gX9_heaps_X9_isWatched : GoodIn wsX9_heaps (va_wsS RX9 110 yX9_isWatched wsX9_isWatched) := goodIn_app (goodIn_r2 chwsX9_heaps chwsX9_heaps_in _ [(1, 2), (1, 3), (1, 4)] rfl (by decide +kernel)) ggX9_heaps_X9_isWatched
set_option maxRecDepth 20000 in
theorem ggX9_heaps_X9_cellsWithin : GoodIn wsX9_heaps wsX9_cellsWithin := goodIn_r2 chwsX9_heaps chwsX9_heaps_in _ [(1, 15), (1, 16), (1, 17), (1, 18), (1, 4), (1, 19), (8, 0), (8, 1), (8, 2), (8, 3), (8, 4), (8, 5), (8, 6)] rfl (by decide +kernel)
set_option maxRecDepth 20000 in
theorem gX9_heaps_X9_cellsWithin : GoodIn wsX9_heaps (wsV RX9 114 RX9 yX9_cellsWithin wsX9_cellsWithin) := goodIn_app (goodIn_r2 chwsX9_heaps chwsX9_heaps_in _ [(1, 12), (1, 13), (1, 14), (1, 4)] rfl (by decide +kernel)) ggX9_heaps_X9_cellsWithin
set_option maxRecDepth 20000 in
theorem ggX9_heaps_X9_isPacked : GoodIn wsX9_heaps wsX9_isPacked := goodIn_r2 chwsX9_heaps chwsX9_heaps_in _ [(1, 22), (1, 23), (2, 0), (1, 4), (2, 1), (2, 2), (2, 3), (2, 4), (2, 5), (2, 6), (2, 7), (2, 8)] rfl (by decide +kernel)
set_option maxRecDepth 20000 in
theorem gX9_heaps_X9_isPacked : GoodIn wsX9_heaps (va_wsS RX9 118 yX9_isPacked wsX9_isPacked) := goodIn_app (goodIn_r2 chwsX9_heaps chwsX9_heaps_in _ [(1, 20), (1, 21), (1, 4)] rfl (by decide +kernel)) ggX9_heaps_X9_isPacked
set_option maxRecDepth 20000 in
theorem ggX9_heaps_X8_aim : GoodIn wsX9_heaps wsX8_aim := goodIn_r2 chwsX9_heaps chwsX9_heaps_in _ [(2, 13), (2, 14), (2, 15), (2, 16), (2, 17), (2, 18), (2, 19), (2, 20), (2, 21), (2, 12), (2, 22), (2, 23), (9, 0), (9, 1), (9, 2), (9, 3), (9, 4), (9, 5), (9, 6), (9, 7), (9, 8), (9, 9), (9, 10), (9, 11), (9, 12), (9, 13), (9, 14), (9, 15), (9, 16)] rfl (by decide +kernel)
set_option maxRecDepth 20000 in
theorem gX9_heaps_X8_aim : GoodIn wsX9_heaps (wsV RX9 122 RX8 yX8_aim wsX8_aim) := goodIn_app (goodIn_r2 chwsX9_heaps chwsX9_heaps_in _ [(2, 9), (2, 10), (2, 11), (2, 12)] rfl (by decide +kernel)) ggX9_heaps_X8_aim
set_option maxRecDepth 20000 in
theorem ggX9_heaps_X9_spread : GoodIn wsX9_heaps wsX9_spread := goodIn_r2 chwsX9_heaps chwsX9_heaps_in _ [(3, 2)] rfl (by decide +kernel)
set_option maxRecDepth 20000 in
theorem gX9_heaps_X9_spread : GoodIn wsX9_heaps (va_wsS RX9 126 yX9_spread wsX9_spread) := goodIn_app (goodIn_r2 chwsX9_heaps chwsX9_heaps_in _ [(3, 0), (3, 1), (1, 4)] rfl (by decide +kernel)) ggX9_heaps_X9_spread
set_option maxRecDepth 20000 in
theorem ggX9_heaps_X8_countHeaps : GoodIn wsX9_heaps wsX8_countHeaps := goodIn_r2 chwsX9_heaps chwsX9_heaps_in _ [(3, 6), (2, 17), (2, 14), (3, 7), (3, 8), (2, 15), (2, 19), (3, 9), (2, 0), (1, 4), (2, 1), (2, 2), (2, 3), (2, 4), (2, 5), (2, 6), (2, 7), (2, 8), (3, 10), (3, 11), (3, 12), (3, 13), (3, 14), (3, 15), (3, 16), (3, 17), (3, 18), (3, 19), (3, 20), (3, 21), (3, 22), (3, 23), (4, 0), (4, 1), (2, 12), (4, 2), (4, 3), (4, 4), (4, 5), (4, 6), (4, 7), (4, 8), (4, 9), (4, 10), (4, 11), (4, 12), (4, 13), (4, 14), (4, 15), (4, 16), (4, 17), (4, 18), (4, 19), (4, 20), (4, 21), (4, 22), (4, 23), (5, 0), (5, 1), (5, 2), (5, 3), (5, 4), (5, 5), (5, 6), (5, 7), (5, 8), (5, 9), (5, 10), (5, 11), (5, 12), (5, 13), (5, 14), (5, 15), (5, 16), (5, 17), (5, 18), (5, 19), (5, 20), (5, 21), (5, 22), (5, 23), (6, 0), (6, 1), (6, 2), (6, 3), (6, 4), (6, 5), (6, 6), (6, 7), (6, 8), (6, 9), (6, 10), (6, 11), (6, 12), (1, 18), (1, 19), (6, 13), (6, 14), (6, 15), (6, 16), (6, 17), (6, 18), (6, 19), (6, 20), (6, 21), (6, 22), (6, 23), (7, 0), (7, 1), (7, 2), (7, 3), (7, 4), (7, 5), (7, 6), (7, 7), (7, 8), (9, 0), (9, 1), (9, 2), (9, 3), (9, 4), (9, 5), (9, 6), (9, 7), (9, 8), (9, 9), (9, 10), (9, 11), (9, 12), (9, 13), (9, 14), (9, 15), (9, 16), (10, 0), (10, 1), (10, 2), (10, 3), (10, 4), (10, 5), (11, 0), (11, 1), (11, 2), (11, 3), (11, 4), (11, 5), (11, 6), (12, 0), (12, 1), (12, 2), (12, 3), (12, 4), (13, 0), (13, 1), (13, 2), (13, 3), (13, 4), (13, 5), (13, 6), (13, 7), (13, 8)] rfl (by decide +kernel)
set_option maxRecDepth 20000 in
theorem gX9_heaps_X8_countHeaps : GoodIn wsX9_heaps (wsV RX9 130 RX8 yX8_countHeaps wsX8_countHeaps) := goodIn_app (goodIn_r2 chwsX9_heaps chwsX9_heaps_in _ [(3, 3), (3, 4), (3, 5), (2, 12)] rfl (by decide +kernel)) ggX9_heaps_X8_countHeaps
set_option maxRecDepth 20000 in
theorem ggX9_heaps_X8_greatestHeap : GoodIn wsX9_heaps wsX8_greatestHeap := goodIn_r2 chwsX9_heaps chwsX9_heaps_in _ [(7, 12), (3, 8), (7, 13), (7, 14), (7, 15), (7, 16), (2, 12), (7, 17), (2, 17), (2, 14), (3, 7), (2, 0), (1, 4), (2, 1), (2, 2), (2, 3), (2, 4), (2, 5), (2, 6), (2, 7), (2, 8), (9, 0), (9, 1), (9, 2), (9, 3), (9, 4), (9, 5), (9, 6), (9, 7), (9, 8), (9, 9), (9, 10), (9, 11), (9, 12), (9, 13), (9, 14), (9, 15), (9, 16), (11, 0), (11, 1), (11, 2), (11, 3), (11, 4), (11, 5), (11, 6), (10, 0), (10, 1), (10, 2), (10, 3), (10, 4), (10, 5)] rfl (by decide +kernel)
set_option maxRecDepth 20000 in
theorem gX9_heaps_X8_greatestHeap : GoodIn wsX9_heaps (wsV RX9 133 RX8 yX8_greatestHeap wsX8_greatestHeap) := goodIn_app (goodIn_r2 chwsX9_heaps chwsX9_heaps_in _ [(7, 9), (7, 10), (7, 11), (2, 12)] rfl (by decide +kernel)) ggX9_heaps_X8_greatestHeap
theorem dX9_heaps_0 : decode cX9_heaps 0 = .ok (.iload_n 1, 1) := by decide +kernel
theorem dX9_heaps_1 : decode cX9_heaps 1 = .ok (.iload_n 2, 1) := by decide +kernel
theorem dX9_heaps_2 : decode cX9_heaps 2 = .ok (.iload 4, 2) := by decide +kernel
theorem dX9_heaps_4 : decode cX9_heaps 4 = .ok (.invokestatic 110, 3) := by decide +kernel
theorem dX9_heaps_7 : decode cX9_heaps 7 = .ok (.ifCond .ne 5, 3) := by decide +kernel
theorem dX9_heaps_10 : decode cX9_heaps 10 = .ok (.iconst (-1), 1) := by decide +kernel
theorem dX9_heaps_11 : decode cX9_heaps 11 = .ok (.ireturn, 1) := by decide +kernel
theorem dX9_heaps_12 : decode cX9_heaps 12 = .ok (.aload_n 0, 1) := by decide +kernel
theorem dX9_heaps_13 : decode cX9_heaps 13 = .ok (.iload_n 1, 1) := by decide +kernel
theorem dX9_heaps_14 : decode cX9_heaps 14 = .ok (.invokevirtual 114, 3) := by decide +kernel
theorem dX9_heaps_17 : decode cX9_heaps 17 = .ok (.istore 5, 2) := by decide +kernel
theorem dX9_heaps_19 : decode cX9_heaps 19 = .ok (.iload_n 3, 1) := by decide +kernel
theorem dX9_heaps_20 : decode cX9_heaps 20 = .ok (.iload 5, 2) := by decide +kernel
theorem dX9_heaps_22 : decode cX9_heaps 22 = .ok (.invokestatic 118, 3) := by decide +kernel
theorem dX9_heaps_25 : decode cX9_heaps 25 = .ok (.ifCond .ne 5, 3) := by decide +kernel
theorem dX9_heaps_28 : decode cX9_heaps 28 = .ok (.iconst (-1), 1) := by decide +kernel
theorem dX9_heaps_29 : decode cX9_heaps 29 = .ok (.ireturn, 1) := by decide +kernel
theorem dX9_heaps_30 : decode cX9_heaps 30 = .ok (.aload_n 0, 1) := by decide +kernel
theorem dX9_heaps_31 : decode cX9_heaps 31 = .ok (.getfield 37, 3) := by decide +kernel
theorem dX9_heaps_34 : decode cX9_heaps 34 = .ok (.aload_n 0, 1) := by decide +kernel
theorem dX9_heaps_35 : decode cX9_heaps 35 = .ok (.getfield 51, 3) := by decide +kernel
theorem dX9_heaps_38 : decode cX9_heaps 38 = .ok (.iload_n 1, 1) := by decide +kernel
theorem dX9_heaps_39 : decode cX9_heaps 39 = .ok (.iload 5, 2) := by decide +kernel
theorem dX9_heaps_41 : decode cX9_heaps 41 = .ok (.iload_n 2, 1) := by decide +kernel
theorem dX9_heaps_42 : decode cX9_heaps 42 = .ok (.invokevirtual 122, 3) := by decide +kernel
theorem dX9_heaps_45 : decode cX9_heaps 45 = .ok (.aload_n 0, 1) := by decide +kernel
theorem dX9_heaps_46 : decode cX9_heaps 46 = .ok (.getfield 37, 3) := by decide +kernel
theorem dX9_heaps_49 : decode cX9_heaps 49 = .ok (.iload_n 3, 1) := by decide +kernel
theorem dX9_heaps_50 : decode cX9_heaps 50 = .ok (.iload 5, 2) := by decide +kernel
theorem dX9_heaps_52 : decode cX9_heaps 52 = .ok (.invokestatic 126, 3) := by decide +kernel
theorem dX9_heaps_55 : decode cX9_heaps 55 = .ok (.invokevirtual 130, 3) := by decide +kernel
theorem dX9_heaps_58 : decode cX9_heaps 58 = .ok (.istore 6, 2) := by decide +kernel
theorem dX9_heaps_60 : decode cX9_heaps 60 = .ok (.iload 4, 2) := by decide +kernel
theorem dX9_heaps_62 : decode cX9_heaps 62 = .ok (.ifCond .ne 8, 3) := by decide +kernel
theorem dX9_heaps_65 : decode cX9_heaps 65 = .ok (.iload 6, 2) := by decide +kernel
theorem dX9_heaps_67 : decode cX9_heaps 67 = .ok (.goto 10, 3) := by decide +kernel
theorem dX9_heaps_70 : decode cX9_heaps 70 = .ok (.aload_n 0, 1) := by decide +kernel
theorem dX9_heaps_71 : decode cX9_heaps 71 = .ok (.getfield 37, 3) := by decide +kernel
theorem dX9_heaps_74 : decode cX9_heaps 74 = .ok (.invokevirtual 133, 3) := by decide +kernel
theorem dX9_heaps_77 : decode cX9_heaps 77 = .ok (.ireturn, 1) := by decide +kernel
theorem chIwsX9_heap_0 : ∀ w ∈ ([.code yX9_heap cX9_heap 9 (some .int)] : List Cond), w ∈ wsX9_heap := fun _ h => (List.mem_cons.mpr (Or.inl (List.mem_singleton.mp h)))
theorem chIwsX9_heap_1 : ∀ w ∈ (wsX9_heap_r1 : List Cond), w ∈ wsX9_heap := fun _ h => (List.mem_cons_of_mem _ (List.mem_append_left _ (List.mem_append_left _ (List.mem_append_left _ (List.mem_append_left _ (List.mem_append_left _ (List.mem_append_left _ h)))))))
theorem chIwsX9_heap_2 : ∀ w ∈ (wsX9_heap_r2 : List Cond), w ∈ wsX9_heap := fun _ h => (List.mem_cons_of_mem _ (List.mem_append_left _ (List.mem_append_left _ (List.mem_append_left _ (List.mem_append_left _ (List.mem_append_left _ (List.mem_append_right _ (List.mem_append_left _ h))))))))
theorem chIwsX9_heap_3 : ∀ w ∈ (wsX9_heap_r3 : List Cond), w ∈ wsX9_heap := fun _ h => (List.mem_cons_of_mem _ (List.mem_append_left _ (List.mem_append_left _ (List.mem_append_left _ (List.mem_append_left _ (List.mem_append_left _ (List.mem_append_right _ (List.mem_append_right _ (List.mem_append_left _ h)))))))))
theorem chIwsX9_heap_4 : ∀ w ∈ (wsX9_heap_r4 : List Cond), w ∈ wsX9_heap := fun _ h => (List.mem_cons_of_mem _ (List.mem_append_left _ (List.mem_append_left _ (List.mem_append_left _ (List.mem_append_left _ (List.mem_append_left _ (List.mem_append_right _ (List.mem_append_right _ (List.mem_append_right _ (List.mem_append_left _ h))))))))))
theorem chIwsX9_heap_5 : ∀ w ∈ (wsX9_heap_r5 : List Cond), w ∈ wsX9_heap := fun _ h => (List.mem_cons_of_mem _ (List.mem_append_left _ (List.mem_append_left _ (List.mem_append_left _ (List.mem_append_left _ (List.mem_append_left _ (List.mem_append_right _ (List.mem_append_right _ (List.mem_append_right _ (List.mem_append_right _ (List.mem_append_left _ h)))))))))))
theorem chIwsX9_heap_6 : ∀ w ∈ (wsX9_heap_r6 : List Cond), w ∈ wsX9_heap := fun _ h => (List.mem_cons_of_mem _ (List.mem_append_left _ (List.mem_append_left _ (List.mem_append_left _ (List.mem_append_left _ (List.mem_append_left _ (List.mem_append_right _ (List.mem_append_right _ (List.mem_append_right _ (List.mem_append_right _ (List.mem_append_right _ h)))))))))))
theorem chIwsX9_heap_7 : ∀ w ∈ (wsX90 : List Cond), w ∈ wsX9_heap := fun _ h => (List.mem_cons_of_mem _ (List.mem_append_left _ (List.mem_append_left _ (List.mem_append_left _ (List.mem_append_left _ (List.mem_append_right _ h))))))
theorem chIwsX9_heap_8 : ∀ w ∈ (wsX80 : List Cond), w ∈ wsX9_heap := fun _ h => (List.mem_cons_of_mem _ (List.mem_append_left _ (List.mem_append_left _ (List.mem_append_left _ (List.mem_append_right _ h)))))
theorem chIwsX9_heap_9 : ∀ w ∈ (wsX40 : List Cond), w ∈ wsX9_heap := fun _ h => (List.mem_cons_of_mem _ (List.mem_append_left _ (List.mem_append_left _ (List.mem_append_right _ h))))
theorem chIwsX9_heap_10 : ∀ w ∈ (wsX20 : List Cond), w ∈ wsX9_heap := fun _ h => (List.mem_cons_of_mem _ (List.mem_append_left _ (List.mem_append_right _ h)))
theorem chIwsX9_heap_11 : ∀ w ∈ (wsX50 : List Cond), w ∈ wsX9_heap := fun _ h => (List.mem_cons_of_mem _ (List.mem_append_right _ h))
def chwsX9_heap : Nat → List Cond
  | 0 => [.code yX9_heap cX9_heap 9 (some .int)]
  | 1 => wsX9_heap_r1
  | 2 => wsX9_heap_r2
  | 3 => wsX9_heap_r3
  | 4 => wsX9_heap_r4
  | 5 => wsX9_heap_r5
  | 6 => wsX9_heap_r6
  | 7 => wsX90
  | 8 => wsX80
  | 9 => wsX40
  | 10 => wsX20
  | 11 => wsX50
  | _ => []
theorem chwsX9_heap_in : ∀ (j : Nat) (w : Cond), w ∈ chwsX9_heap j → w ∈ wsX9_heap
  | 0, w, h => chIwsX9_heap_0 w h
  | 1, w, h => chIwsX9_heap_1 w h
  | 2, w, h => chIwsX9_heap_2 w h
  | 3, w, h => chIwsX9_heap_3 w h
  | 4, w, h => chIwsX9_heap_4 w h
  | 5, w, h => chIwsX9_heap_5 w h
  | 6, w, h => chIwsX9_heap_6 w h
  | 7, w, h => chIwsX9_heap_7 w h
  | 8, w, h => chIwsX9_heap_8 w h
  | 9, w, h => chIwsX9_heap_9 w h
  | 10, w, h => chIwsX9_heap_10 w h
  | 11, w, h => chIwsX9_heap_11 w h
  | _ + 12, _, h => absurd h List.not_mem_nil
set_option maxRecDepth 20000 in
theorem ggX9_heap_X9_isWatched : GoodIn wsX9_heap wsX9_isWatched := goodIn_r2 chwsX9_heap chwsX9_heap_in _ [(1, 5), (1, 6), (1, 7), (1, 4), (1, 8), (1, 9), (1, 10), (1, 11)] rfl (by decide +kernel)
set_option maxRecDepth 20000 in
theorem gX9_heap_X9_isWatched : GoodIn wsX9_heap (va_wsS RX9 110 yX9_isWatched wsX9_isWatched) := goodIn_app (goodIn_r2 chwsX9_heap chwsX9_heap_in _ [(1, 2), (1, 3), (1, 4)] rfl (by decide +kernel)) ggX9_heap_X9_isWatched
set_option maxRecDepth 20000 in
theorem ggX9_heap_X9_cellsWithin : GoodIn wsX9_heap wsX9_cellsWithin := goodIn_r2 chwsX9_heap chwsX9_heap_in _ [(1, 15), (1, 16), (1, 17), (1, 18), (1, 4), (1, 19), (7, 0), (7, 1), (7, 2), (7, 3), (7, 4), (7, 5), (7, 6)] rfl (by decide +kernel)
set_option maxRecDepth 20000 in
theorem gX9_heap_X9_cellsWithin : GoodIn wsX9_heap (wsV RX9 114 RX9 yX9_cellsWithin wsX9_cellsWithin) := goodIn_app (goodIn_r2 chwsX9_heap chwsX9_heap_in _ [(1, 12), (1, 13), (1, 14), (1, 4)] rfl (by decide +kernel)) ggX9_heap_X9_cellsWithin
set_option maxRecDepth 20000 in
theorem ggX9_heap_X9_isPacked : GoodIn wsX9_heap wsX9_isPacked := goodIn_r2 chwsX9_heap chwsX9_heap_in _ [(1, 22), (1, 23), (2, 0), (1, 4), (2, 1), (2, 2), (2, 3), (2, 4), (2, 5), (2, 6), (2, 7), (2, 8)] rfl (by decide +kernel)
set_option maxRecDepth 20000 in
theorem gX9_heap_X9_isPacked : GoodIn wsX9_heap (va_wsS RX9 118 yX9_isPacked wsX9_isPacked) := goodIn_app (goodIn_r2 chwsX9_heap chwsX9_heap_in _ [(1, 20), (1, 21), (1, 4)] rfl (by decide +kernel)) ggX9_heap_X9_isPacked
set_option maxRecDepth 20000 in
theorem ggX9_heap_X8_aim : GoodIn wsX9_heap wsX8_aim := goodIn_r2 chwsX9_heap chwsX9_heap_in _ [(2, 13), (2, 14), (2, 15), (2, 16), (2, 17), (2, 18), (2, 19), (2, 20), (2, 21), (2, 12), (2, 22), (2, 23), (8, 0), (8, 1), (8, 2), (8, 3), (8, 4), (8, 5), (8, 6), (8, 7), (8, 8), (8, 9), (8, 10), (8, 11), (8, 12), (8, 13), (8, 14), (8, 15), (8, 16)] rfl (by decide +kernel)
set_option maxRecDepth 20000 in
theorem gX9_heap_X8_aim : GoodIn wsX9_heap (wsV RX9 122 RX8 yX8_aim wsX8_aim) := goodIn_app (goodIn_r2 chwsX9_heap chwsX9_heap_in _ [(2, 9), (2, 10), (2, 11), (2, 12)] rfl (by decide +kernel)) ggX9_heap_X8_aim
set_option maxRecDepth 20000 in
theorem ggX9_heap_X9_spread : GoodIn wsX9_heap wsX9_spread := goodIn_r2 chwsX9_heap chwsX9_heap_in _ [(3, 2)] rfl (by decide +kernel)
set_option maxRecDepth 20000 in
theorem gX9_heap_X9_spread : GoodIn wsX9_heap (va_wsS RX9 126 yX9_spread wsX9_spread) := goodIn_app (goodIn_r2 chwsX9_heap chwsX9_heap_in _ [(3, 0), (3, 1), (1, 4)] rfl (by decide +kernel)) ggX9_heap_X9_spread
set_option maxRecDepth 20000 in
theorem ggX9_heap_X8_findHeap : GoodIn wsX9_heap wsX8_findHeap := goodIn_r2 chwsX9_heap chwsX9_heap_in _ [(3, 6), (2, 17), (2, 14), (3, 7), (2, 15), (2, 19), (3, 8), (2, 0), (1, 4), (2, 1), (2, 2), (2, 3), (2, 4), (2, 5), (2, 6), (2, 7), (2, 8), (3, 9), (3, 10), (3, 11), (2, 12), (3, 12), (3, 13), (3, 14), (3, 15), (3, 16), (3, 17), (3, 18), (3, 19), (3, 20), (3, 21), (3, 22), (3, 23), (4, 0), (4, 1), (4, 2), (4, 3), (4, 4), (4, 5), (4, 6), (4, 7), (4, 8), (4, 9), (4, 10), (4, 11), (4, 12), (4, 13), (4, 14), (4, 15), (4, 16), (4, 17), (4, 18), (4, 19), (4, 20), (4, 21), (4, 22), (4, 23), (5, 0), (5, 1), (5, 2), (5, 3), (5, 4), (5, 5), (5, 6), (5, 7), (5, 8), (5, 9), (5, 10), (5, 11), (5, 12), (5, 13), (5, 14), (5, 15), (5, 16), (5, 17), (5, 18), (5, 19), (5, 20), (5, 21), (5, 22), (5, 23), (6, 0), (6, 1), (1, 18), (1, 19), (6, 2), (6, 3), (8, 0), (8, 1), (8, 2), (8, 3), (8, 4), (8, 5), (8, 6), (8, 7), (8, 8), (8, 9), (8, 10), (8, 11), (8, 12), (8, 13), (8, 14), (8, 15), (8, 16), (9, 0), (9, 1), (9, 2), (9, 3), (9, 4), (9, 5), (10, 0), (10, 1), (10, 2), (10, 3), (10, 4), (11, 0), (11, 1), (11, 2), (11, 3), (11, 4), (11, 5), (11, 6), (11, 7), (11, 8)] rfl (by decide +kernel)
set_option maxRecDepth 20000 in
theorem gX9_heap_X8_findHeap : GoodIn wsX9_heap (wsV RX9 136 RX8 yX8_findHeap wsX8_findHeap) := goodIn_app (goodIn_r2 chwsX9_heap chwsX9_heap_in _ [(3, 3), (3, 4), (3, 5), (2, 12)] rfl (by decide +kernel)) ggX9_heap_X8_findHeap
set_option maxRecDepth 20000 in
theorem ggX9_heap_X8_foundSize : GoodIn wsX9_heap wsX8_foundSize := goodIn_r2 chwsX9_heap chwsX9_heap_in _ [(6, 7), (3, 8), (6, 8), (6, 9), (6, 10), (2, 12), (6, 11), (2, 17), (2, 14), (3, 7), (2, 0), (1, 4), (2, 1), (2, 2), (2, 3), (2, 4), (2, 5), (2, 6), (2, 7), (2, 8), (8, 0), (8, 1), (8, 2), (8, 3), (8, 4), (8, 5), (8, 6), (8, 7), (8, 8), (8, 9), (8, 10), (8, 11), (8, 12), (8, 13), (8, 14), (8, 15), (8, 16), (9, 0), (9, 1), (9, 2), (9, 3), (9, 4), (9, 5)] rfl (by decide +kernel)
set_option maxRecDepth 20000 in
theorem gX9_heap_X8_foundSize : GoodIn wsX9_heap (wsV RX9 139 RX8 yX8_foundSize wsX8_foundSize) := goodIn_app (goodIn_r2 chwsX9_heap chwsX9_heap_in _ [(6, 4), (6, 5), (6, 6), (2, 12)] rfl (by decide +kernel)) ggX9_heap_X8_foundSize
set_option maxRecDepth 20000 in
theorem ggX9_heap_X9_gather : GoodIn wsX9_heap wsX9_gather := goodIn_r2 chwsX9_heap chwsX9_heap_in _ [(6, 14)] rfl (by decide +kernel)
set_option maxRecDepth 20000 in
theorem gX9_heap_X9_gather : GoodIn wsX9_heap (va_wsS RX9 142 yX9_gather wsX9_gather) := goodIn_app (goodIn_r2 chwsX9_heap chwsX9_heap_in _ [(6, 12), (6, 13), (1, 4)] rfl (by decide +kernel)) ggX9_heap_X9_gather
theorem dX9_heap_0 : decode cX9_heap 0 = .ok (.iload_n 1, 1) := by decide +kernel
theorem dX9_heap_1 : decode cX9_heap 1 = .ok (.iload_n 2, 1) := by decide +kernel
theorem dX9_heap_2 : decode cX9_heap 2 = .ok (.iload 5, 2) := by decide +kernel
theorem dX9_heap_4 : decode cX9_heap 4 = .ok (.invokestatic 110, 3) := by decide +kernel
theorem dX9_heap_7 : decode cX9_heap 7 = .ok (.ifCond .ne 5, 3) := by decide +kernel
theorem dX9_heap_10 : decode cX9_heap 10 = .ok (.iconst (-1), 1) := by decide +kernel
theorem dX9_heap_11 : decode cX9_heap 11 = .ok (.ireturn, 1) := by decide +kernel
theorem dX9_heap_12 : decode cX9_heap 12 = .ok (.aload_n 0, 1) := by decide +kernel
theorem dX9_heap_13 : decode cX9_heap 13 = .ok (.iload_n 1, 1) := by decide +kernel
theorem dX9_heap_14 : decode cX9_heap 14 = .ok (.invokevirtual 114, 3) := by decide +kernel
theorem dX9_heap_17 : decode cX9_heap 17 = .ok (.istore 6, 2) := by decide +kernel
theorem dX9_heap_19 : decode cX9_heap 19 = .ok (.sipush 4095, 3) := by decide +kernel
theorem dX9_heap_22 : decode cX9_heap 22 = .ok (.iload 6, 2) := by decide +kernel
theorem dX9_heap_24 : decode cX9_heap 24 = .ok (.iconst (-1), 1) := by decide +kernel
theorem dX9_heap_25 : decode cX9_heap 25 = .ok (.ixor, 1) := by decide +kernel
theorem dX9_heap_26 : decode cX9_heap 26 = .ok (.iand, 1) := by decide +kernel
theorem dX9_heap_27 : decode cX9_heap 27 = .ok (.istore 7, 2) := by decide +kernel
theorem dX9_heap_29 : decode cX9_heap 29 = .ok (.iload_n 3, 1) := by decide +kernel
theorem dX9_heap_30 : decode cX9_heap 30 = .ok (.iload 6, 2) := by decide +kernel
theorem dX9_heap_32 : decode cX9_heap 32 = .ok (.invokestatic 118, 3) := by decide +kernel
theorem dX9_heap_35 : decode cX9_heap 35 = .ok (.ifCond .eq 13, 3) := by decide +kernel
theorem dX9_heap_38 : decode cX9_heap 38 = .ok (.iload 4, 2) := by decide +kernel
theorem dX9_heap_40 : decode cX9_heap 40 = .ok (.iload 7, 2) := by decide +kernel
theorem dX9_heap_42 : decode cX9_heap 42 = .ok (.invokestatic 118, 3) := by decide +kernel
theorem dX9_heap_45 : decode cX9_heap 45 = .ok (.ifCond .ne 5, 3) := by decide +kernel
theorem dX9_heap_48 : decode cX9_heap 48 = .ok (.iconst (-1), 1) := by decide +kernel
theorem dX9_heap_49 : decode cX9_heap 49 = .ok (.ireturn, 1) := by decide +kernel
theorem dX9_heap_50 : decode cX9_heap 50 = .ok (.aload_n 0, 1) := by decide +kernel
theorem dX9_heap_51 : decode cX9_heap 51 = .ok (.getfield 37, 3) := by decide +kernel
theorem dX9_heap_54 : decode cX9_heap 54 = .ok (.aload_n 0, 1) := by decide +kernel
theorem dX9_heap_55 : decode cX9_heap 55 = .ok (.getfield 51, 3) := by decide +kernel
theorem dX9_heap_58 : decode cX9_heap 58 = .ok (.iload_n 1, 1) := by decide +kernel
theorem dX9_heap_59 : decode cX9_heap 59 = .ok (.iload 6, 2) := by decide +kernel
theorem dX9_heap_61 : decode cX9_heap 61 = .ok (.iload_n 2, 1) := by decide +kernel
theorem dX9_heap_62 : decode cX9_heap 62 = .ok (.invokevirtual 122, 3) := by decide +kernel
theorem dX9_heap_65 : decode cX9_heap 65 = .ok (.aload_n 0, 1) := by decide +kernel
theorem dX9_heap_66 : decode cX9_heap 66 = .ok (.getfield 37, 3) := by decide +kernel
theorem dX9_heap_69 : decode cX9_heap 69 = .ok (.iload_n 3, 1) := by decide +kernel
theorem dX9_heap_70 : decode cX9_heap 70 = .ok (.iload 6, 2) := by decide +kernel
theorem dX9_heap_72 : decode cX9_heap 72 = .ok (.invokestatic 126, 3) := by decide +kernel
theorem dX9_heap_75 : decode cX9_heap 75 = .ok (.iload 4, 2) := by decide +kernel
theorem dX9_heap_77 : decode cX9_heap 77 = .ok (.iload 7, 2) := by decide +kernel
theorem dX9_heap_79 : decode cX9_heap 79 = .ok (.invokestatic 126, 3) := by decide +kernel
theorem dX9_heap_82 : decode cX9_heap 82 = .ok (.invokevirtual 136, 3) := by decide +kernel
theorem dX9_heap_85 : decode cX9_heap 85 = .ok (.istore 8, 2) := by decide +kernel
theorem dX9_heap_87 : decode cX9_heap 87 = .ok (.iload 5, 2) := by decide +kernel
theorem dX9_heap_89 : decode cX9_heap 89 = .ok (.ifCond .ne 13, 3) := by decide +kernel
theorem dX9_heap_92 : decode cX9_heap 92 = .ok (.aload_n 0, 1) := by decide +kernel
theorem dX9_heap_93 : decode cX9_heap 93 = .ok (.getfield 37, 3) := by decide +kernel
theorem dX9_heap_96 : decode cX9_heap 96 = .ok (.invokevirtual 139, 3) := by decide +kernel
theorem dX9_heap_99 : decode cX9_heap 99 = .ok (.goto 10, 3) := by decide +kernel
theorem dX9_heap_102 : decode cX9_heap 102 = .ok (.iload 8, 2) := by decide +kernel
theorem dX9_heap_104 : decode cX9_heap 104 = .ok (.iload 7, 2) := by decide +kernel
theorem dX9_heap_106 : decode cX9_heap 106 = .ok (.invokestatic 142, 3) := by decide +kernel
theorem dX9_heap_109 : decode cX9_heap 109 = .ok (.ireturn, 1) := by decide +kernel
theorem chIwsX9_safe_0 : ∀ w ∈ ([.code yX9_safe cX9_safe 3 (some .int)] : List Cond), w ∈ wsX9_safe := fun _ h => (List.mem_cons.mpr (Or.inl (List.mem_singleton.mp h)))
theorem chIwsX9_safe_1 : ∀ w ∈ (wsX9_safe_r1 : List Cond), w ∈ wsX9_safe := fun _ h => (List.mem_cons_of_mem _ (List.mem_append_left _ (List.mem_append_left _ (List.mem_append_left _ (List.mem_append_left _ (List.mem_append_left _ (List.mem_append_left _ h)))))))
theorem chIwsX9_safe_2 : ∀ w ∈ (wsX9_safe_r2 : List Cond), w ∈ wsX9_safe := fun _ h => (List.mem_cons_of_mem _ (List.mem_append_left _ (List.mem_append_left _ (List.mem_append_left _ (List.mem_append_left _ (List.mem_append_left _ (List.mem_append_right _ (List.mem_append_left _ h))))))))
theorem chIwsX9_safe_3 : ∀ w ∈ (wsX9_safe_r3 : List Cond), w ∈ wsX9_safe := fun _ h => (List.mem_cons_of_mem _ (List.mem_append_left _ (List.mem_append_left _ (List.mem_append_left _ (List.mem_append_left _ (List.mem_append_left _ (List.mem_append_right _ (List.mem_append_right _ (List.mem_append_left _ h)))))))))
theorem chIwsX9_safe_4 : ∀ w ∈ (wsX9_safe_r4 : List Cond), w ∈ wsX9_safe := fun _ h => (List.mem_cons_of_mem _ (List.mem_append_left _ (List.mem_append_left _ (List.mem_append_left _ (List.mem_append_left _ (List.mem_append_left _ (List.mem_append_right _ (List.mem_append_right _ (List.mem_append_right _ (List.mem_append_left _ h))))))))))
theorem chIwsX9_safe_5 : ∀ w ∈ (wsX9_safe_r5 : List Cond), w ∈ wsX9_safe := fun _ h => (List.mem_cons_of_mem _ (List.mem_append_left _ (List.mem_append_left _ (List.mem_append_left _ (List.mem_append_left _ (List.mem_append_left _ (List.mem_append_right _ (List.mem_append_right _ (List.mem_append_right _ (List.mem_append_right _ (List.mem_append_left _ h)))))))))))
theorem chIwsX9_safe_6 : ∀ w ∈ (wsX9_safe_r6 : List Cond), w ∈ wsX9_safe := fun _ h => (List.mem_cons_of_mem _ (List.mem_append_left _ (List.mem_append_left _ (List.mem_append_left _ (List.mem_append_left _ (List.mem_append_left _ (List.mem_append_right _ (List.mem_append_right _ (List.mem_append_right _ (List.mem_append_right _ (List.mem_append_right _ h)))))))))))
theorem chIwsX9_safe_7 : ∀ w ∈ (wsX90 : List Cond), w ∈ wsX9_safe := fun _ h => (List.mem_cons_of_mem _ (List.mem_append_left _ (List.mem_append_left _ (List.mem_append_left _ (List.mem_append_left _ (List.mem_append_right _ h))))))
theorem chIwsX9_safe_8 : ∀ w ∈ (wsX80 : List Cond), w ∈ wsX9_safe := fun _ h => (List.mem_cons_of_mem _ (List.mem_append_left _ (List.mem_append_left _ (List.mem_append_left _ (List.mem_append_right _ h)))))
theorem chIwsX9_safe_9 : ∀ w ∈ (wsX40 : List Cond), w ∈ wsX9_safe := fun _ h => (List.mem_cons_of_mem _ (List.mem_append_left _ (List.mem_append_left _ (List.mem_append_right _ h))))
theorem chIwsX9_safe_10 : ∀ w ∈ (wsX20 : List Cond), w ∈ wsX9_safe := fun _ h => (List.mem_cons_of_mem _ (List.mem_append_left _ (List.mem_append_right _ h)))
theorem chIwsX9_safe_11 : ∀ w ∈ (wsX50 : List Cond), w ∈ wsX9_safe := fun _ h => (List.mem_cons_of_mem _ (List.mem_append_right _ h))
def chwsX9_safe : Nat → List Cond
  | 0 => [.code yX9_safe cX9_safe 3 (some .int)]
  | 1 => wsX9_safe_r1
  | 2 => wsX9_safe_r2
  | 3 => wsX9_safe_r3
  | 4 => wsX9_safe_r4
  | 5 => wsX9_safe_r5
  | 6 => wsX9_safe_r6
  | 7 => wsX90
  | 8 => wsX80
  | 9 => wsX40
  | 10 => wsX20
  | 11 => wsX50
  | _ => []
theorem chwsX9_safe_in : ∀ (j : Nat) (w : Cond), w ∈ chwsX9_safe j → w ∈ wsX9_safe
  | 0, w, h => chIwsX9_safe_0 w h
  | 1, w, h => chIwsX9_safe_1 w h
  | 2, w, h => chIwsX9_safe_2 w h
  | 3, w, h => chIwsX9_safe_3 w h
  | 4, w, h => chIwsX9_safe_4 w h
  | 5, w, h => chIwsX9_safe_5 w h
  | 6, w, h => chIwsX9_safe_6 w h
  | 7, w, h => chIwsX9_safe_7 w h
  | 8, w, h => chIwsX9_safe_8 w h
  | 9, w, h => chIwsX9_safe_9 w h
  | 10, w, h => chIwsX9_safe_10 w h
  | 11, w, h => chIwsX9_safe_11 w h
  | _ + 12, _, h => absurd h List.not_mem_nil
set_option maxRecDepth 20000 in
theorem ggX9_safe_X9_isWatched : GoodIn wsX9_safe wsX9_isWatched := goodIn_r2 chwsX9_safe chwsX9_safe_in _ [(1, 3), (1, 4), (1, 5), (1, 2), (1, 6), (1, 7), (1, 8), (1, 9)] rfl (by decide +kernel)
set_option maxRecDepth 20000 in
theorem gX9_safe_X9_isWatched : GoodIn wsX9_safe (va_wsS RX9 110 yX9_isWatched wsX9_isWatched) := goodIn_app (goodIn_r2 chwsX9_safe chwsX9_safe_in _ [(1, 0), (1, 1), (1, 2)] rfl (by decide +kernel)) ggX9_safe_X9_isWatched
set_option maxRecDepth 20000 in
theorem ggX9_safe_X9_isSafe : GoodIn wsX9_safe wsX9_isSafe := goodIn_r2 chwsX9_safe chwsX9_safe_in _ [(1, 13), (1, 14), (1, 15), (1, 16), (1, 17), (1, 18), (1, 2), (1, 19), (1, 20), (1, 21), (1, 22), (1, 23), (2, 0), (2, 1), (2, 2), (2, 3), (2, 4), (2, 5), (2, 6), (2, 7), (2, 8), (2, 9), (2, 10), (2, 11), (2, 12), (2, 13), (2, 14), (2, 15), (2, 16), (2, 17), (2, 18), (2, 19), (2, 20), (2, 21), (2, 22), (2, 23), (3, 0), (3, 1), (3, 2), (3, 3), (3, 4), (3, 5), (3, 6), (3, 7), (3, 8), (3, 9), (3, 10), (3, 11), (3, 12), (3, 13), (3, 14), (3, 15), (3, 16), (3, 17), (3, 18), (3, 19), (3, 20), (3, 21), (3, 22), (3, 23), (4, 0), (4, 1), (4, 2), (4, 3), (4, 4), (4, 5), (4, 6), (4, 7), (4, 8), (4, 9), (4, 10), (4, 11), (4, 12), (4, 13), (4, 14), (4, 15), (4, 16), (4, 17), (4, 18), (4, 19), (4, 20), (4, 21), (4, 22), (4, 23), (5, 0), (5, 1), (5, 2), (5, 3), (5, 4), (5, 5), (5, 6), (5, 7), (5, 8), (5, 9), (5, 10), (5, 11), (5, 12), (5, 13), (5, 14), (5, 15), (5, 16), (5, 17), (5, 18), (5, 19), (5, 20), (5, 21), (5, 22), (5, 23), (6, 0), (6, 1), (7, 0), (7, 1), (7, 2), (7, 3), (7, 4), (7, 5), (7, 6), (8, 0), (8, 1), (8, 2), (8, 3), (8, 4), (8, 5), (8, 6), (8, 7), (8, 8), (8, 9), (8, 10), (8, 11), (8, 12), (8, 13), (8, 14), (8, 15), (8, 16), (9, 0), (9, 1), (9, 2), (9, 3), (9, 4), (9, 5), (10, 0), (10, 1), (10, 2), (10, 3), (10, 4), (11, 0), (11, 1), (11, 2), (11, 3), (11, 4), (11, 5), (11, 6), (11, 7), (11, 8)] rfl (by decide +kernel)
set_option maxRecDepth 20000 in
theorem gX9_safe_X9_isSafe : GoodIn wsX9_safe (wsV RX9 145 RX9 yX9_isSafe wsX9_isSafe) := goodIn_app (goodIn_r2 chwsX9_safe chwsX9_safe_in _ [(1, 10), (1, 11), (1, 12), (1, 2)] rfl (by decide +kernel)) ggX9_safe_X9_isSafe
theorem dX9_safe_0 : decode cX9_safe 0 = .ok (.iload_n 1, 1) := by decide +kernel
theorem dX9_safe_1 : decode cX9_safe 1 = .ok (.iload_n 2, 1) := by decide +kernel
theorem dX9_safe_2 : decode cX9_safe 2 = .ok (.iconst 0, 1) := by decide +kernel
theorem dX9_safe_3 : decode cX9_safe 3 = .ok (.invokestatic 110, 3) := by decide +kernel
theorem dX9_safe_6 : decode cX9_safe 6 = .ok (.ifCond .ne 5, 3) := by decide +kernel
theorem dX9_safe_9 : decode cX9_safe 9 = .ok (.iconst (-1), 1) := by decide +kernel
theorem dX9_safe_10 : decode cX9_safe 10 = .ok (.ireturn, 1) := by decide +kernel
theorem dX9_safe_11 : decode cX9_safe 11 = .ok (.aload_n 0, 1) := by decide +kernel
theorem dX9_safe_12 : decode cX9_safe 12 = .ok (.iload_n 1, 1) := by decide +kernel
theorem dX9_safe_13 : decode cX9_safe 13 = .ok (.iload_n 2, 1) := by decide +kernel
theorem dX9_safe_14 : decode cX9_safe 14 = .ok (.invokevirtual 145, 3) := by decide +kernel
theorem dX9_safe_17 : decode cX9_safe 17 = .ok (.ifCond .eq 7, 3) := by decide +kernel
theorem dX9_safe_20 : decode cX9_safe 20 = .ok (.iconst 1, 1) := by decide +kernel
theorem dX9_safe_21 : decode cX9_safe 21 = .ok (.goto 4, 3) := by decide +kernel
theorem dX9_safe_24 : decode cX9_safe 24 = .ok (.iconst 0, 1) := by decide +kernel
theorem dX9_safe_25 : decode cX9_safe 25 = .ok (.ireturn, 1) := by decide +kernel
theorem chIwsX9_pair_0 : ∀ w ∈ ([.code yX9_pair cX9_pair 5 (some .int)] : List Cond), w ∈ wsX9_pair := fun _ h => (List.mem_cons.mpr (Or.inl (List.mem_singleton.mp h)))
theorem chIwsX9_pair_1 : ∀ w ∈ (wsX9_pair_r1 : List Cond), w ∈ wsX9_pair := fun _ h => (List.mem_cons_of_mem _ (List.mem_append_left _ (List.mem_append_left _ (List.mem_append_left _ (List.mem_append_left _ (List.mem_append_left _ (List.mem_append_left _ h)))))))
theorem chIwsX9_pair_2 : ∀ w ∈ (wsX9_pair_r2 : List Cond), w ∈ wsX9_pair := fun _ h => (List.mem_cons_of_mem _ (List.mem_append_left _ (List.mem_append_left _ (List.mem_append_left _ (List.mem_append_left _ (List.mem_append_left _ (List.mem_append_right _ (List.mem_append_left _ h))))))))
theorem chIwsX9_pair_3 : ∀ w ∈ (wsX9_pair_r3 : List Cond), w ∈ wsX9_pair := fun _ h => (List.mem_cons_of_mem _ (List.mem_append_left _ (List.mem_append_left _ (List.mem_append_left _ (List.mem_append_left _ (List.mem_append_left _ (List.mem_append_right _ (List.mem_append_right _ (List.mem_append_left _ h)))))))))
theorem chIwsX9_pair_4 : ∀ w ∈ (wsX9_pair_r4 : List Cond), w ∈ wsX9_pair := fun _ h => (List.mem_cons_of_mem _ (List.mem_append_left _ (List.mem_append_left _ (List.mem_append_left _ (List.mem_append_left _ (List.mem_append_left _ (List.mem_append_right _ (List.mem_append_right _ (List.mem_append_right _ (List.mem_append_left _ h))))))))))
theorem chIwsX9_pair_5 : ∀ w ∈ (wsX9_pair_r5 : List Cond), w ∈ wsX9_pair := fun _ h => (List.mem_cons_of_mem _ (List.mem_append_left _ (List.mem_append_left _ (List.mem_append_left _ (List.mem_append_left _ (List.mem_append_left _ (List.mem_append_right _ (List.mem_append_right _ (List.mem_append_right _ (List.mem_append_right _ (List.mem_append_left _ h)))))))))))
theorem chIwsX9_pair_6 : ∀ w ∈ (wsX9_pair_r6 : List Cond), w ∈ wsX9_pair := fun _ h => (List.mem_cons_of_mem _ (List.mem_append_left _ (List.mem_append_left _ (List.mem_append_left _ (List.mem_append_left _ (List.mem_append_left _ (List.mem_append_right _ (List.mem_append_right _ (List.mem_append_right _ (List.mem_append_right _ (List.mem_append_right _ h)))))))))))
theorem chIwsX9_pair_7 : ∀ w ∈ (wsX90 : List Cond), w ∈ wsX9_pair := fun _ h => (List.mem_cons_of_mem _ (List.mem_append_left _ (List.mem_append_left _ (List.mem_append_left _ (List.mem_append_left _ (List.mem_append_right _ h))))))
theorem chIwsX9_pair_8 : ∀ w ∈ (wsX80 : List Cond), w ∈ wsX9_pair := fun _ h => (List.mem_cons_of_mem _ (List.mem_append_left _ (List.mem_append_left _ (List.mem_append_left _ (List.mem_append_right _ h)))))
theorem chIwsX9_pair_9 : ∀ w ∈ (wsX40 : List Cond), w ∈ wsX9_pair := fun _ h => (List.mem_cons_of_mem _ (List.mem_append_left _ (List.mem_append_left _ (List.mem_append_right _ h))))
theorem chIwsX9_pair_10 : ∀ w ∈ (wsX20 : List Cond), w ∈ wsX9_pair := fun _ h => (List.mem_cons_of_mem _ (List.mem_append_left _ (List.mem_append_right _ h)))
theorem chIwsX9_pair_11 : ∀ w ∈ (wsX50 : List Cond), w ∈ wsX9_pair := fun _ h => (List.mem_cons_of_mem _ (List.mem_append_right _ h))
def chwsX9_pair : Nat → List Cond
  | 0 => [.code yX9_pair cX9_pair 5 (some .int)]
  | 1 => wsX9_pair_r1
  | 2 => wsX9_pair_r2
  | 3 => wsX9_pair_r3
  | 4 => wsX9_pair_r4
  | 5 => wsX9_pair_r5
  | 6 => wsX9_pair_r6
  | 7 => wsX90
  | 8 => wsX80
  | 9 => wsX40
  | 10 => wsX20
  | 11 => wsX50
  | _ => []
theorem chwsX9_pair_in : ∀ (j : Nat) (w : Cond), w ∈ chwsX9_pair j → w ∈ wsX9_pair
  | 0, w, h => chIwsX9_pair_0 w h
  | 1, w, h => chIwsX9_pair_1 w h
  | 2, w, h => chIwsX9_pair_2 w h
  | 3, w, h => chIwsX9_pair_3 w h
  | 4, w, h => chIwsX9_pair_4 w h
  | 5, w, h => chIwsX9_pair_5 w h
  | 6, w, h => chIwsX9_pair_6 w h
  | 7, w, h => chIwsX9_pair_7 w h
  | 8, w, h => chIwsX9_pair_8 w h
  | 9, w, h => chIwsX9_pair_9 w h
  | 10, w, h => chIwsX9_pair_10 w h
  | 11, w, h => chIwsX9_pair_11 w h
  | _ + 12, _, h => absurd h List.not_mem_nil
set_option maxRecDepth 20000 in
theorem ggX9_pair_X9_isWatched : GoodIn wsX9_pair wsX9_isWatched := goodIn_r2 chwsX9_pair chwsX9_pair_in _ [(1, 6), (1, 7), (1, 8), (1, 5), (1, 9), (1, 10), (1, 11), (1, 12)] rfl (by decide +kernel)
set_option maxRecDepth 20000 in
theorem gX9_pair_X9_isWatched : GoodIn wsX9_pair (va_wsS RX9 110 yX9_isWatched wsX9_isWatched) := goodIn_app (goodIn_r2 chwsX9_pair chwsX9_pair_in _ [(1, 3), (1, 4), (1, 5)] rfl (by decide +kernel)) ggX9_pair_X9_isWatched
set_option maxRecDepth 20000 in
theorem ggX9_pair_X9_isSafe : GoodIn wsX9_pair wsX9_isSafe := goodIn_r2 chwsX9_pair chwsX9_pair_in _ [(1, 16), (1, 0), (1, 17), (1, 18), (1, 19), (1, 20), (1, 5), (1, 21), (1, 22), (1, 23), (2, 0), (2, 1), (2, 2), (2, 3), (2, 4), (2, 5), (2, 6), (2, 7), (2, 8), (2, 9), (2, 10), (2, 11), (2, 12), (2, 13), (2, 14), (2, 15), (2, 16), (2, 17), (2, 18), (2, 19), (2, 20), (2, 21), (2, 22), (2, 23), (3, 0), (3, 1), (3, 2), (3, 3), (3, 4), (3, 5), (3, 6), (3, 7), (3, 8), (3, 9), (3, 10), (3, 11), (3, 12), (3, 13), (3, 14), (3, 15), (3, 16), (3, 17), (3, 18), (3, 19), (3, 20), (3, 21), (3, 22), (3, 23), (4, 0), (4, 1), (4, 2), (4, 3), (4, 4), (4, 5), (4, 6), (4, 7), (4, 8), (4, 9), (4, 10), (4, 11), (4, 12), (4, 13), (4, 14), (4, 15), (4, 16), (4, 17), (4, 18), (4, 19), (4, 20), (4, 21), (4, 22), (4, 23), (5, 0), (5, 1), (5, 2), (5, 3), (5, 4), (5, 5), (5, 6), (5, 7), (5, 8), (5, 9), (5, 10), (5, 11), (5, 12), (5, 13), (5, 14), (5, 15), (5, 16), (5, 17), (5, 18), (5, 19), (5, 20), (5, 21), (5, 22), (5, 23), (6, 0), (6, 1), (6, 2), (6, 3), (7, 0), (7, 1), (7, 2), (7, 3), (7, 4), (7, 5), (7, 6), (8, 0), (8, 1), (8, 2), (8, 3), (8, 4), (8, 5), (8, 6), (8, 7), (8, 8), (8, 9), (8, 10), (8, 11), (8, 12), (8, 13), (8, 14), (8, 15), (8, 16), (9, 0), (9, 1), (9, 2), (9, 3), (9, 4), (9, 5), (10, 0), (10, 1), (10, 2), (10, 3), (10, 4), (11, 0), (11, 1), (11, 2), (11, 3), (11, 4), (11, 5), (11, 6), (11, 7), (11, 8)] rfl (by decide +kernel)
set_option maxRecDepth 20000 in
theorem gX9_pair_X9_isSafe : GoodIn wsX9_pair (wsV RX9 145 RX9 yX9_isSafe wsX9_isSafe) := goodIn_app (goodIn_r2 chwsX9_pair chwsX9_pair_in _ [(1, 13), (1, 14), (1, 15), (1, 5)] rfl (by decide +kernel)) ggX9_pair_X9_isSafe
set_option maxRecDepth 20000 in
theorem ggX9_pair_X9_cellsWithin : GoodIn wsX9_pair wsX9_cellsWithin := goodIn_r2 chwsX9_pair chwsX9_pair_in _ [(1, 21), (1, 22), (1, 23), (2, 0), (1, 5), (2, 1), (7, 0), (7, 1), (7, 2), (7, 3), (7, 4), (7, 5), (7, 6)] rfl (by decide +kernel)
set_option maxRecDepth 20000 in
theorem gX9_pair_X9_cellsWithin : GoodIn wsX9_pair (wsV RX9 114 RX9 yX9_cellsWithin wsX9_cellsWithin) := goodIn_app (goodIn_r2 chwsX9_pair chwsX9_pair_in _ [(1, 18), (1, 19), (1, 20), (1, 5)] rfl (by decide +kernel)) ggX9_pair_X9_cellsWithin
set_option maxRecDepth 20000 in
theorem ggX9_pair_X9_gather : GoodIn wsX9_pair wsX9_gather := goodIn_r2 chwsX9_pair chwsX9_pair_in _ [(6, 6)] rfl (by decide +kernel)
set_option maxRecDepth 20000 in
theorem gX9_pair_X9_gather : GoodIn wsX9_pair (va_wsS RX9 142 yX9_gather wsX9_gather) := goodIn_app (goodIn_r2 chwsX9_pair chwsX9_pair_in _ [(6, 4), (6, 5), (1, 5)] rfl (by decide +kernel)) ggX9_pair_X9_gather
theorem dX9_pair_0 : decode cX9_pair 0 = .ok (.iload_n 1, 1) := by decide +kernel
theorem dX9_pair_1 : decode cX9_pair 1 = .ok (.iload_n 2, 1) := by decide +kernel
theorem dX9_pair_2 : decode cX9_pair 2 = .ok (.iload_n 3, 1) := by decide +kernel
theorem dX9_pair_3 : decode cX9_pair 3 = .ok (.invokestatic 110, 3) := by decide +kernel
theorem dX9_pair_6 : decode cX9_pair 6 = .ok (.ifCond .ne 5, 3) := by decide +kernel
theorem dX9_pair_9 : decode cX9_pair 9 = .ok (.iconst (-1), 1) := by decide +kernel
theorem dX9_pair_10 : decode cX9_pair 10 = .ok (.ireturn, 1) := by decide +kernel
theorem dX9_pair_11 : decode cX9_pair 11 = .ok (.aload_n 0, 1) := by decide +kernel
theorem dX9_pair_12 : decode cX9_pair 12 = .ok (.iload_n 1, 1) := by decide +kernel
theorem dX9_pair_13 : decode cX9_pair 13 = .ok (.iload_n 2, 1) := by decide +kernel
theorem dX9_pair_14 : decode cX9_pair 14 = .ok (.invokevirtual 145, 3) := by decide +kernel
theorem dX9_pair_17 : decode cX9_pair 17 = .ok (.ifCond .eq 6, 3) := by decide +kernel
theorem dX9_pair_20 : decode cX9_pair 20 = .ok (.bipush (-9), 2) := by decide +kernel
theorem dX9_pair_22 : decode cX9_pair 22 = .ok (.ireturn, 1) := by decide +kernel
theorem dX9_pair_23 : decode cX9_pair 23 = .ok (.aload_n 0, 1) := by decide +kernel
theorem dX9_pair_24 : decode cX9_pair 24 = .ok (.iload_n 1, 1) := by decide +kernel
theorem dX9_pair_25 : decode cX9_pair 25 = .ok (.invokevirtual 114, 3) := by decide +kernel
theorem dX9_pair_28 : decode cX9_pair 28 = .ok (.istore 4, 2) := by decide +kernel
theorem dX9_pair_30 : decode cX9_pair 30 = .ok (.iload_n 3, 1) := by decide +kernel
theorem dX9_pair_31 : decode cX9_pair 31 = .ok (.ifCond .ne 18, 3) := by decide +kernel
theorem dX9_pair_34 : decode cX9_pair 34 = .ok (.aload_n 0, 1) := by decide +kernel
theorem dX9_pair_35 : decode cX9_pair 35 = .ok (.getfield 37, 3) := by decide +kernel
theorem dX9_pair_38 : decode cX9_pair 38 = .ok (.getfield 148, 3) := by decide +kernel
theorem dX9_pair_41 : decode cX9_pair 41 = .ok (.iload 4, 2) := by decide +kernel
theorem dX9_pair_43 : decode cX9_pair 43 = .ok (.invokestatic 142, 3) := by decide +kernel
theorem dX9_pair_46 : decode cX9_pair 46 = .ok (.goto 21, 3) := by decide +kernel
theorem dX9_pair_49 : decode cX9_pair 49 = .ok (.aload_n 0, 1) := by decide +kernel
theorem dX9_pair_50 : decode cX9_pair 50 = .ok (.getfield 37, 3) := by decide +kernel
theorem dX9_pair_53 : decode cX9_pair 53 = .ok (.getfield 151, 3) := by decide +kernel
theorem dX9_pair_56 : decode cX9_pair 56 = .ok (.sipush 4095, 3) := by decide +kernel
theorem dX9_pair_59 : decode cX9_pair 59 = .ok (.iload 4, 2) := by decide +kernel
theorem dX9_pair_61 : decode cX9_pair 61 = .ok (.iconst (-1), 1) := by decide +kernel
theorem dX9_pair_62 : decode cX9_pair 62 = .ok (.ixor, 1) := by decide +kernel
theorem dX9_pair_63 : decode cX9_pair 63 = .ok (.iand, 1) := by decide +kernel
theorem dX9_pair_64 : decode cX9_pair 64 = .ok (.invokestatic 142, 3) := by decide +kernel
theorem dX9_pair_67 : decode cX9_pair 67 = .ok (.ireturn, 1) := by decide +kernel
theorem chIwsX9_most_0 : ∀ w ∈ ([.code yX9_most cX9_most 6 (some .int)] : List Cond), w ∈ wsX9_most := fun _ h => (List.mem_cons.mpr (Or.inl (List.mem_singleton.mp h)))
theorem chIwsX9_most_1 : ∀ w ∈ (wsX9_most_r1 : List Cond), w ∈ wsX9_most := fun _ h => (List.mem_cons_of_mem _ (List.mem_append_left _ (List.mem_append_left _ (List.mem_append_left _ (List.mem_append_left _ (List.mem_append_left _ (List.mem_append_left _ (List.mem_append_left _ h))))))))
theorem chIwsX9_most_2 : ∀ w ∈ (wsX9_most_r2 : List Cond), w ∈ wsX9_most := fun _ h => (List.mem_cons_of_mem _ (List.mem_append_left _ (List.mem_append_left _ (List.mem_append_left _ (List.mem_append_left _ (List.mem_append_left _ (List.mem_append_left _ (List.mem_append_right _ (List.mem_append_left _ h)))))))))
theorem chIwsX9_most_3 : ∀ w ∈ (wsX9_most_r3 : List Cond), w ∈ wsX9_most := fun _ h => (List.mem_cons_of_mem _ (List.mem_append_left _ (List.mem_append_left _ (List.mem_append_left _ (List.mem_append_left _ (List.mem_append_left _ (List.mem_append_left _ (List.mem_append_right _ (List.mem_append_right _ (List.mem_append_left _ h))))))))))
theorem chIwsX9_most_4 : ∀ w ∈ (wsX9_most_r4 : List Cond), w ∈ wsX9_most := fun _ h => (List.mem_cons_of_mem _ (List.mem_append_left _ (List.mem_append_left _ (List.mem_append_left _ (List.mem_append_left _ (List.mem_append_left _ (List.mem_append_left _ (List.mem_append_right _ (List.mem_append_right _ (List.mem_append_right _ (List.mem_append_left _ h)))))))))))
theorem chIwsX9_most_5 : ∀ w ∈ (wsX9_most_r5 : List Cond), w ∈ wsX9_most := fun _ h => (List.mem_cons_of_mem _ (List.mem_append_left _ (List.mem_append_left _ (List.mem_append_left _ (List.mem_append_left _ (List.mem_append_left _ (List.mem_append_left _ (List.mem_append_right _ (List.mem_append_right _ (List.mem_append_right _ (List.mem_append_right _ (List.mem_append_left _ h))))))))))))
theorem chIwsX9_most_6 : ∀ w ∈ (wsX9_most_r6 : List Cond), w ∈ wsX9_most := fun _ h => (List.mem_cons_of_mem _ (List.mem_append_left _ (List.mem_append_left _ (List.mem_append_left _ (List.mem_append_left _ (List.mem_append_left _ (List.mem_append_left _ (List.mem_append_right _ (List.mem_append_right _ (List.mem_append_right _ (List.mem_append_right _ (List.mem_append_right _ (List.mem_append_left _ h)))))))))))))
theorem chIwsX9_most_7 : ∀ w ∈ (wsX9_most_r7 : List Cond), w ∈ wsX9_most := fun _ h => (List.mem_cons_of_mem _ (List.mem_append_left _ (List.mem_append_left _ (List.mem_append_left _ (List.mem_append_left _ (List.mem_append_left _ (List.mem_append_left _ (List.mem_append_right _ (List.mem_append_right _ (List.mem_append_right _ (List.mem_append_right _ (List.mem_append_right _ (List.mem_append_right _ h)))))))))))))
theorem chIwsX9_most_8 : ∀ w ∈ (wsX90 : List Cond), w ∈ wsX9_most := fun _ h => (List.mem_cons_of_mem _ (List.mem_append_left _ (List.mem_append_left _ (List.mem_append_left _ (List.mem_append_left _ (List.mem_append_left _ (List.mem_append_right _ h)))))))
theorem chIwsX9_most_9 : ∀ w ∈ (wsX80 : List Cond), w ∈ wsX9_most := fun _ h => (List.mem_cons_of_mem _ (List.mem_append_left _ (List.mem_append_left _ (List.mem_append_left _ (List.mem_append_left _ (List.mem_append_right _ h))))))
theorem chIwsX9_most_10 : ∀ w ∈ (wsX40 : List Cond), w ∈ wsX9_most := fun _ h => (List.mem_cons_of_mem _ (List.mem_append_left _ (List.mem_append_left _ (List.mem_append_left _ (List.mem_append_right _ h)))))
theorem chIwsX9_most_11 : ∀ w ∈ (wsX10 : List Cond), w ∈ wsX9_most := fun _ h => (List.mem_cons_of_mem _ (List.mem_append_left _ (List.mem_append_left _ (List.mem_append_right _ h))))
theorem chIwsX9_most_12 : ∀ w ∈ (wsX20 : List Cond), w ∈ wsX9_most := fun _ h => (List.mem_cons_of_mem _ (List.mem_append_left _ (List.mem_append_right _ h)))
theorem chIwsX9_most_13 : ∀ w ∈ (wsX50 : List Cond), w ∈ wsX9_most := fun _ h => (List.mem_cons_of_mem _ (List.mem_append_right _ h))
def chwsX9_most : Nat → List Cond
  | 0 => [.code yX9_most cX9_most 6 (some .int)]
  | 1 => wsX9_most_r1
  | 2 => wsX9_most_r2
  | 3 => wsX9_most_r3
  | 4 => wsX9_most_r4
  | 5 => wsX9_most_r5
  | 6 => wsX9_most_r6
  | 7 => wsX9_most_r7
  | 8 => wsX90
  | 9 => wsX80
  | 10 => wsX40
  | 11 => wsX10
  | 12 => wsX20
  | 13 => wsX50
  | _ => []
theorem chwsX9_most_in : ∀ (j : Nat) (w : Cond), w ∈ chwsX9_most j → w ∈ wsX9_most
  | 0, w, h => chIwsX9_most_0 w h
  | 1, w, h => chIwsX9_most_1 w h
  | 2, w, h => chIwsX9_most_2 w h
  | 3, w, h => chIwsX9_most_3 w h
  | 4, w, h => chIwsX9_most_4 w h
  | 5, w, h => chIwsX9_most_5 w h
  | 6, w, h => chIwsX9_most_6 w h
  | 7, w, h => chIwsX9_most_7 w h
  | 8, w, h => chIwsX9_most_8 w h
  | 9, w, h => chIwsX9_most_9 w h
  | 10, w, h => chIwsX9_most_10 w h
  | 11, w, h => chIwsX9_most_11 w h
  | 12, w, h => chIwsX9_most_12 w h
  | 13, w, h => chIwsX9_most_13 w h
  | _ + 14, _, h => absurd h List.not_mem_nil
set_option maxRecDepth 20000 in
theorem ggX9_most_X9_isWatched : GoodIn wsX9_most wsX9_isWatched := goodIn_r2 chwsX9_most chwsX9_most_in _ [(1, 6), (1, 7), (1, 8), (1, 5), (1, 9), (1, 10), (1, 11), (1, 12)] rfl (by decide +kernel)
set_option maxRecDepth 20000 in
theorem gX9_most_X9_isWatched : GoodIn wsX9_most (va_wsS RX9 110 yX9_isWatched wsX9_isWatched) := goodIn_app (goodIn_r2 chwsX9_most chwsX9_most_in _ [(1, 3), (1, 4), (1, 5)] rfl (by decide +kernel)) ggX9_most_X9_isWatched
set_option maxRecDepth 20000 in
theorem ggX9_most_X9_cellsWithin : GoodIn wsX9_most wsX9_cellsWithin := goodIn_r2 chwsX9_most chwsX9_most_in _ [(1, 16), (1, 17), (1, 18), (1, 19), (1, 5), (1, 20), (8, 0), (8, 1), (8, 2), (8, 3), (8, 4), (8, 5), (8, 6)] rfl (by decide +kernel)
set_option maxRecDepth 20000 in
theorem gX9_most_X9_cellsWithin : GoodIn wsX9_most (wsV RX9 114 RX9 yX9_cellsWithin wsX9_cellsWithin) := goodIn_app (goodIn_r2 chwsX9_most chwsX9_most_in _ [(1, 13), (1, 14), (1, 15), (1, 5)] rfl (by decide +kernel)) ggX9_most_X9_cellsWithin
set_option maxRecDepth 20000 in
theorem ggX9_most_X8_aim : GoodIn wsX9_most wsX8_aim := goodIn_r2 chwsX9_most chwsX9_most_in _ [(2, 1), (2, 2), (2, 3), (2, 4), (2, 5), (2, 6), (2, 7), (2, 8), (2, 9), (2, 0), (2, 10), (2, 11), (9, 0), (9, 1), (9, 2), (9, 3), (9, 4), (9, 5), (9, 6), (9, 7), (9, 8), (9, 9), (9, 10), (9, 11), (9, 12), (9, 13), (9, 14), (9, 15), (9, 16)] rfl (by decide +kernel)
set_option maxRecDepth 20000 in
theorem gX9_most_X8_aim : GoodIn wsX9_most (wsV RX9 122 RX8 yX8_aim wsX8_aim) := goodIn_app (goodIn_r2 chwsX9_most chwsX9_most_in _ [(1, 21), (1, 22), (1, 23), (2, 0)] rfl (by decide +kernel)) ggX9_most_X8_aim
set_option maxRecDepth 20000 in
theorem ggX9_most_X8_tellsMost : GoodIn wsX9_most wsX8_tellsMost := goodIn_r2 chwsX9_most chwsX9_most_in _ [(2, 15), (2, 4), (2, 2), (2, 16), (2, 5), (2, 17), (2, 18), (1, 5), (2, 19), (2, 20), (2, 21), (2, 22), (2, 23), (3, 0), (3, 1), (3, 2), (3, 3), (3, 4), (3, 5), (2, 0), (3, 6), (3, 7), (2, 3), (2, 7), (3, 8), (3, 9), (3, 10), (3, 11), (3, 12), (3, 13), (3, 14), (3, 15), (3, 16), (3, 17), (3, 18), (3, 19), (3, 20), (3, 21), (3, 22), (3, 23), (4, 0), (4, 1), (4, 2), (4, 3), (4, 4), (4, 5), (4, 6), (4, 7), (4, 8), (4, 9), (4, 10), (4, 11), (4, 12), (4, 13), (4, 14), (4, 15), (4, 16), (4, 17), (4, 18), (4, 19), (4, 20), (4, 21), (4, 22), (4, 23), (5, 0), (5, 1), (5, 2), (5, 3), (5, 4), (5, 5), (5, 6), (5, 7), (5, 8), (5, 9), (5, 10), (5, 11), (5, 12), (5, 13), (5, 14), (5, 15), (5, 16), (5, 17), (5, 18), (5, 19), (5, 20), (5, 21), (5, 22), (5, 23), (6, 0), (6, 1), (6, 2), (6, 3), (6, 4), (6, 5), (6, 6), (6, 7), (6, 8), (6, 9), (6, 10), (6, 11), (1, 19), (1, 20), (6, 12), (6, 13), (6, 14), (6, 15), (6, 16), (6, 17), (6, 18), (6, 19), (6, 20), (6, 21), (6, 22), (6, 23), (7, 0), (7, 1), (7, 2), (7, 3), (7, 4), (7, 5), (7, 6), (7, 7), (9, 0), (9, 1), (9, 2), (9, 3), (9, 4), (9, 5), (9, 6), (9, 7), (9, 8), (9, 9), (9, 10), (9, 11), (9, 12), (9, 13), (9, 14), (9, 15), (9, 16), (10, 0), (10, 1), (10, 2), (10, 3), (10, 4), (10, 5), (11, 0), (11, 1), (11, 2), (11, 3), (11, 4), (11, 5), (11, 6), (12, 0), (12, 1), (12, 2), (12, 3), (12, 4), (13, 0), (13, 1), (13, 2), (13, 3), (13, 4), (13, 5), (13, 6), (13, 7), (13, 8)] rfl (by decide +kernel)
set_option maxRecDepth 20000 in
theorem gX9_most_X8_tellsMost : GoodIn wsX9_most (wsV RX9 154 RX8 yX8_tellsMost wsX8_tellsMost) := goodIn_app (goodIn_r2 chwsX9_most chwsX9_most_in _ [(2, 12), (2, 13), (2, 14), (2, 0)] rfl (by decide +kernel)) ggX9_most_X8_tellsMost
set_option maxRecDepth 20000 in
theorem ggX9_most_X9_gather : GoodIn wsX9_most wsX9_gather := goodIn_r2 chwsX9_most chwsX9_most_in _ [(7, 10)] rfl (by decide +kernel)
set_option maxRecDepth 20000 in
theorem gX9_most_X9_gather : GoodIn wsX9_most (va_wsS RX9 142 yX9_gather wsX9_gather) := goodIn_app (goodIn_r2 chwsX9_most chwsX9_most_in _ [(7, 8), (7, 9), (1, 5)] rfl (by decide +kernel)) ggX9_most_X9_gather
theorem dX9_most_0 : decode cX9_most 0 = .ok (.iload_n 1, 1) := by decide +kernel
theorem dX9_most_1 : decode cX9_most 1 = .ok (.iload_n 2, 1) := by decide +kernel
theorem dX9_most_2 : decode cX9_most 2 = .ok (.iload_n 3, 1) := by decide +kernel
theorem dX9_most_3 : decode cX9_most 3 = .ok (.invokestatic 110, 3) := by decide +kernel
theorem dX9_most_6 : decode cX9_most 6 = .ok (.ifCond .ne 5, 3) := by decide +kernel
theorem dX9_most_9 : decode cX9_most 9 = .ok (.iconst (-1), 1) := by decide +kernel
theorem dX9_most_10 : decode cX9_most 10 = .ok (.ireturn, 1) := by decide +kernel
theorem dX9_most_11 : decode cX9_most 11 = .ok (.aload_n 0, 1) := by decide +kernel
theorem dX9_most_12 : decode cX9_most 12 = .ok (.iload_n 1, 1) := by decide +kernel
theorem dX9_most_13 : decode cX9_most 13 = .ok (.invokevirtual 114, 3) := by decide +kernel
theorem dX9_most_16 : decode cX9_most 16 = .ok (.istore 4, 2) := by decide +kernel
theorem dX9_most_18 : decode cX9_most 18 = .ok (.aload_n 0, 1) := by decide +kernel
theorem dX9_most_19 : decode cX9_most 19 = .ok (.getfield 37, 3) := by decide +kernel
theorem dX9_most_22 : decode cX9_most 22 = .ok (.aload_n 0, 1) := by decide +kernel
theorem dX9_most_23 : decode cX9_most 23 = .ok (.getfield 51, 3) := by decide +kernel
theorem dX9_most_26 : decode cX9_most 26 = .ok (.iload_n 1, 1) := by decide +kernel
theorem dX9_most_27 : decode cX9_most 27 = .ok (.iload 4, 2) := by decide +kernel
theorem dX9_most_29 : decode cX9_most 29 = .ok (.iload_n 2, 1) := by decide +kernel
theorem dX9_most_30 : decode cX9_most 30 = .ok (.invokevirtual 122, 3) := by decide +kernel
theorem dX9_most_33 : decode cX9_most 33 = .ok (.aload_n 0, 1) := by decide +kernel
theorem dX9_most_34 : decode cX9_most 34 = .ok (.getfield 37, 3) := by decide +kernel
theorem dX9_most_37 : decode cX9_most 37 = .ok (.invokevirtual 154, 3) := by decide +kernel
theorem dX9_most_40 : decode cX9_most 40 = .ok (.istore 5, 2) := by decide +kernel
theorem dX9_most_42 : decode cX9_most 42 = .ok (.iload_n 3, 1) := by decide +kernel
theorem dX9_most_43 : decode cX9_most 43 = .ok (.ifCond .ne 13, 3) := by decide +kernel
theorem dX9_most_46 : decode cX9_most 46 = .ok (.iload 5, 2) := by decide +kernel
theorem dX9_most_48 : decode cX9_most 48 = .ok (.iload 4, 2) := by decide +kernel
theorem dX9_most_50 : decode cX9_most 50 = .ok (.invokestatic 142, 3) := by decide +kernel
theorem dX9_most_53 : decode cX9_most 53 = .ok (.goto 10, 3) := by decide +kernel
theorem dX9_most_56 : decode cX9_most 56 = .ok (.aload_n 0, 1) := by decide +kernel
theorem dX9_most_57 : decode cX9_most 57 = .ok (.getfield 37, 3) := by decide +kernel
theorem dX9_most_60 : decode cX9_most 60 = .ok (.getfield 157, 3) := by decide +kernel
theorem dX9_most_63 : decode cX9_most 63 = .ok (.ireturn, 1) := by decide +kernel
theorem chIwsX9_together_0 : ∀ w ∈ ([.code yX9_together cX9_together 6 (some .int)] : List Cond), w ∈ wsX9_together := fun _ h => (List.mem_cons.mpr (Or.inl (List.mem_singleton.mp h)))
theorem chIwsX9_together_1 : ∀ w ∈ (wsX9_together_r1 : List Cond), w ∈ wsX9_together := fun _ h => (List.mem_cons_of_mem _ (List.mem_append_left _ (List.mem_append_left _ (List.mem_append_left _ (List.mem_append_left _ (List.mem_append_left _ (List.mem_append_left _ (List.mem_append_left _ h))))))))
theorem chIwsX9_together_2 : ∀ w ∈ (wsX9_together_r2 : List Cond), w ∈ wsX9_together := fun _ h => (List.mem_cons_of_mem _ (List.mem_append_left _ (List.mem_append_left _ (List.mem_append_left _ (List.mem_append_left _ (List.mem_append_left _ (List.mem_append_left _ (List.mem_append_right _ (List.mem_append_left _ h)))))))))
theorem chIwsX9_together_3 : ∀ w ∈ (wsX9_together_r3 : List Cond), w ∈ wsX9_together := fun _ h => (List.mem_cons_of_mem _ (List.mem_append_left _ (List.mem_append_left _ (List.mem_append_left _ (List.mem_append_left _ (List.mem_append_left _ (List.mem_append_left _ (List.mem_append_right _ (List.mem_append_right _ (List.mem_append_left _ h))))))))))
theorem chIwsX9_together_4 : ∀ w ∈ (wsX9_together_r4 : List Cond), w ∈ wsX9_together := fun _ h => (List.mem_cons_of_mem _ (List.mem_append_left _ (List.mem_append_left _ (List.mem_append_left _ (List.mem_append_left _ (List.mem_append_left _ (List.mem_append_left _ (List.mem_append_right _ (List.mem_append_right _ (List.mem_append_right _ (List.mem_append_left _ h)))))))))))
theorem chIwsX9_together_5 : ∀ w ∈ (wsX9_together_r5 : List Cond), w ∈ wsX9_together := fun _ h => (List.mem_cons_of_mem _ (List.mem_append_left _ (List.mem_append_left _ (List.mem_append_left _ (List.mem_append_left _ (List.mem_append_left _ (List.mem_append_left _ (List.mem_append_right _ (List.mem_append_right _ (List.mem_append_right _ (List.mem_append_right _ (List.mem_append_left _ h))))))))))))
theorem chIwsX9_together_6 : ∀ w ∈ (wsX9_together_r6 : List Cond), w ∈ wsX9_together := fun _ h => (List.mem_cons_of_mem _ (List.mem_append_left _ (List.mem_append_left _ (List.mem_append_left _ (List.mem_append_left _ (List.mem_append_left _ (List.mem_append_left _ (List.mem_append_right _ (List.mem_append_right _ (List.mem_append_right _ (List.mem_append_right _ (List.mem_append_right _ (List.mem_append_left _ h)))))))))))))
theorem chIwsX9_together_7 : ∀ w ∈ (wsX9_together_r7 : List Cond), w ∈ wsX9_together := fun _ h => (List.mem_cons_of_mem _ (List.mem_append_left _ (List.mem_append_left _ (List.mem_append_left _ (List.mem_append_left _ (List.mem_append_left _ (List.mem_append_left _ (List.mem_append_right _ (List.mem_append_right _ (List.mem_append_right _ (List.mem_append_right _ (List.mem_append_right _ (List.mem_append_right _ h)))))))))))))
theorem chIwsX9_together_8 : ∀ w ∈ (wsX90 : List Cond), w ∈ wsX9_together := fun _ h => (List.mem_cons_of_mem _ (List.mem_append_left _ (List.mem_append_left _ (List.mem_append_left _ (List.mem_append_left _ (List.mem_append_left _ (List.mem_append_right _ h)))))))
theorem chIwsX9_together_9 : ∀ w ∈ (wsX80 : List Cond), w ∈ wsX9_together := fun _ h => (List.mem_cons_of_mem _ (List.mem_append_left _ (List.mem_append_left _ (List.mem_append_left _ (List.mem_append_left _ (List.mem_append_right _ h))))))
theorem chIwsX9_together_10 : ∀ w ∈ (wsX40 : List Cond), w ∈ wsX9_together := fun _ h => (List.mem_cons_of_mem _ (List.mem_append_left _ (List.mem_append_left _ (List.mem_append_left _ (List.mem_append_right _ h)))))
theorem chIwsX9_together_11 : ∀ w ∈ (wsX10 : List Cond), w ∈ wsX9_together := fun _ h => (List.mem_cons_of_mem _ (List.mem_append_left _ (List.mem_append_left _ (List.mem_append_right _ h))))
theorem chIwsX9_together_12 : ∀ w ∈ (wsX20 : List Cond), w ∈ wsX9_together := fun _ h => (List.mem_cons_of_mem _ (List.mem_append_left _ (List.mem_append_right _ h)))
theorem chIwsX9_together_13 : ∀ w ∈ (wsX50 : List Cond), w ∈ wsX9_together := fun _ h => (List.mem_cons_of_mem _ (List.mem_append_right _ h))
def chwsX9_together : Nat → List Cond
  | 0 => [.code yX9_together cX9_together 6 (some .int)]
  | 1 => wsX9_together_r1
  | 2 => wsX9_together_r2
  | 3 => wsX9_together_r3
  | 4 => wsX9_together_r4
  | 5 => wsX9_together_r5
  | 6 => wsX9_together_r6
  | 7 => wsX9_together_r7
  | 8 => wsX90
  | 9 => wsX80
  | 10 => wsX40
  | 11 => wsX10
  | 12 => wsX20
  | 13 => wsX50
  | _ => []
theorem chwsX9_together_in : ∀ (j : Nat) (w : Cond), w ∈ chwsX9_together j → w ∈ wsX9_together
  | 0, w, h => chIwsX9_together_0 w h
  | 1, w, h => chIwsX9_together_1 w h
  | 2, w, h => chIwsX9_together_2 w h
  | 3, w, h => chIwsX9_together_3 w h
  | 4, w, h => chIwsX9_together_4 w h
  | 5, w, h => chIwsX9_together_5 w h
  | 6, w, h => chIwsX9_together_6 w h
  | 7, w, h => chIwsX9_together_7 w h
  | 8, w, h => chIwsX9_together_8 w h
  | 9, w, h => chIwsX9_together_9 w h
  | 10, w, h => chIwsX9_together_10 w h
  | 11, w, h => chIwsX9_together_11 w h
  | 12, w, h => chIwsX9_together_12 w h
  | 13, w, h => chIwsX9_together_13 w h
  | _ + 14, _, h => absurd h List.not_mem_nil
set_option maxRecDepth 20000 in
theorem ggX9_together_X9_isWatched : GoodIn wsX9_together wsX9_isWatched := goodIn_r2 chwsX9_together chwsX9_together_in _ [(1, 5), (1, 6), (1, 7), (1, 4), (1, 8), (1, 9), (1, 10), (1, 11)] rfl (by decide +kernel)
set_option maxRecDepth 20000 in
theorem gX9_together_X9_isWatched : GoodIn wsX9_together (va_wsS RX9 110 yX9_isWatched wsX9_isWatched) := goodIn_app (goodIn_r2 chwsX9_together chwsX9_together_in _ [(1, 2), (1, 3), (1, 4)] rfl (by decide +kernel)) ggX9_together_X9_isWatched
set_option maxRecDepth 20000 in
theorem ggX9_together_X9_cellsWithin : GoodIn wsX9_together wsX9_cellsWithin := goodIn_r2 chwsX9_together chwsX9_together_in _ [(1, 15), (1, 16), (1, 17), (1, 18), (1, 4), (1, 19), (8, 0), (8, 1), (8, 2), (8, 3), (8, 4), (8, 5), (8, 6)] rfl (by decide +kernel)
set_option maxRecDepth 20000 in
theorem gX9_together_X9_cellsWithin : GoodIn wsX9_together (wsV RX9 114 RX9 yX9_cellsWithin wsX9_cellsWithin) := goodIn_app (goodIn_r2 chwsX9_together chwsX9_together_in _ [(1, 12), (1, 13), (1, 14), (1, 4)] rfl (by decide +kernel)) ggX9_together_X9_cellsWithin
set_option maxRecDepth 20000 in
theorem ggX9_together_X9_isPacked : GoodIn wsX9_together wsX9_isPacked := goodIn_r2 chwsX9_together chwsX9_together_in _ [(1, 22), (1, 23), (2, 0), (1, 4), (2, 1), (2, 2), (2, 3), (2, 4), (2, 5), (2, 6), (2, 7), (2, 8)] rfl (by decide +kernel)
set_option maxRecDepth 20000 in
theorem gX9_together_X9_isPacked : GoodIn wsX9_together (va_wsS RX9 118 yX9_isPacked wsX9_isPacked) := goodIn_app (goodIn_r2 chwsX9_together chwsX9_together_in _ [(1, 20), (1, 21), (1, 4)] rfl (by decide +kernel)) ggX9_together_X9_isPacked
set_option maxRecDepth 20000 in
theorem ggX9_together_X8_aim : GoodIn wsX9_together wsX8_aim := goodIn_r2 chwsX9_together chwsX9_together_in _ [(2, 13), (2, 14), (2, 15), (2, 16), (2, 17), (2, 18), (2, 19), (2, 20), (2, 21), (2, 12), (2, 22), (2, 23), (9, 0), (9, 1), (9, 2), (9, 3), (9, 4), (9, 5), (9, 6), (9, 7), (9, 8), (9, 9), (9, 10), (9, 11), (9, 12), (9, 13), (9, 14), (9, 15), (9, 16)] rfl (by decide +kernel)
set_option maxRecDepth 20000 in
theorem gX9_together_X8_aim : GoodIn wsX9_together (wsV RX9 122 RX8 yX8_aim wsX8_aim) := goodIn_app (goodIn_r2 chwsX9_together chwsX9_together_in _ [(2, 9), (2, 10), (2, 11), (2, 12)] rfl (by decide +kernel)) ggX9_together_X8_aim
set_option maxRecDepth 20000 in
theorem ggX9_together_X9_spread : GoodIn wsX9_together wsX9_spread := goodIn_r2 chwsX9_together chwsX9_together_in _ [(3, 2)] rfl (by decide +kernel)
set_option maxRecDepth 20000 in
theorem gX9_together_X9_spread : GoodIn wsX9_together (va_wsS RX9 126 yX9_spread wsX9_spread) := goodIn_app (goodIn_r2 chwsX9_together chwsX9_together_in _ [(3, 0), (3, 1), (1, 4)] rfl (by decide +kernel)) ggX9_together_X9_spread
set_option maxRecDepth 20000 in
theorem ggX9_together_X8_countTogether : GoodIn wsX9_together wsX8_countTogether := goodIn_r2 chwsX9_together chwsX9_together_in _ [(3, 6), (2, 17), (2, 14), (3, 7), (3, 8), (2, 15), (2, 19), (3, 9), (2, 0), (1, 4), (2, 1), (2, 2), (2, 3), (2, 4), (2, 5), (2, 6), (2, 7), (2, 8), (3, 10), (3, 11), (3, 12), (3, 13), (3, 14), (3, 15), (3, 16), (3, 17), (3, 18), (3, 19), (3, 20), (3, 21), (3, 22), (3, 23), (4, 0), (4, 1), (2, 12), (4, 2), (4, 3), (4, 4), (4, 5), (4, 6), (4, 7), (4, 8), (4, 9), (4, 10), (4, 11), (4, 12), (4, 13), (4, 14), (4, 15), (4, 16), (4, 17), (4, 18), (4, 19), (4, 20), (4, 21), (4, 22), (4, 23), (5, 0), (5, 1), (5, 2), (5, 3), (5, 4), (5, 5), (5, 6), (5, 7), (5, 8), (5, 9), (5, 10), (5, 11), (5, 12), (5, 13), (5, 14), (5, 15), (5, 16), (5, 17), (5, 18), (5, 19), (5, 20), (5, 21), (5, 22), (5, 23), (6, 0), (6, 1), (6, 2), (6, 3), (6, 4), (6, 5), (6, 6), (6, 7), (6, 8), (6, 9), (6, 10), (6, 11), (6, 12), (1, 18), (1, 19), (6, 13), (6, 14), (6, 15), (6, 16), (6, 17), (6, 18), (6, 19), (6, 20), (6, 21), (6, 22), (6, 23), (7, 0), (7, 1), (7, 2), (7, 3), (7, 4), (7, 5), (7, 6), (7, 7), (7, 8), (9, 0), (9, 1), (9, 2), (9, 3), (9, 4), (9, 5), (9, 6), (9, 7), (9, 8), (9, 9), (9, 10), (9, 11), (9, 12), (9, 13), (9, 14), (9, 15), (9, 16), (10, 0), (10, 1), (10, 2), (10, 3), (10, 4), (10, 5), (11, 0), (11, 1), (11, 2), (11, 3), (11, 4), (11, 5), (11, 6), (12, 0), (12, 1), (12, 2), (12, 3), (12, 4), (13, 0), (13, 1), (13, 2), (13, 3), (13, 4), (13, 5), (13, 6), (13, 7), (13, 8)] rfl (by decide +kernel)
set_option maxRecDepth 20000 in
theorem gX9_together_X8_countTogether : GoodIn wsX9_together (wsV RX9 160 RX8 yX8_countTogether wsX8_countTogether) := goodIn_app (goodIn_r2 chwsX9_together chwsX9_together_in _ [(3, 3), (3, 4), (3, 5), (2, 12)] rfl (by decide +kernel)) ggX9_together_X8_countTogether
theorem dX9_together_0 : decode cX9_together 0 = .ok (.iload_n 1, 1) := by decide +kernel
theorem dX9_together_1 : decode cX9_together 1 = .ok (.iload_n 2, 1) := by decide +kernel
theorem dX9_together_2 : decode cX9_together 2 = .ok (.iconst 0, 1) := by decide +kernel
theorem dX9_together_3 : decode cX9_together 3 = .ok (.invokestatic 110, 3) := by decide +kernel
theorem dX9_together_6 : decode cX9_together 6 = .ok (.ifCond .ne 5, 3) := by decide +kernel
theorem dX9_together_9 : decode cX9_together 9 = .ok (.iconst (-1), 1) := by decide +kernel
theorem dX9_together_10 : decode cX9_together 10 = .ok (.ireturn, 1) := by decide +kernel
theorem dX9_together_11 : decode cX9_together 11 = .ok (.aload_n 0, 1) := by decide +kernel
theorem dX9_together_12 : decode cX9_together 12 = .ok (.iload_n 1, 1) := by decide +kernel
theorem dX9_together_13 : decode cX9_together 13 = .ok (.invokevirtual 114, 3) := by decide +kernel
theorem dX9_together_16 : decode cX9_together 16 = .ok (.istore 5, 2) := by decide +kernel
theorem dX9_together_18 : decode cX9_together 18 = .ok (.iload_n 3, 1) := by decide +kernel
theorem dX9_together_19 : decode cX9_together 19 = .ok (.iload 5, 2) := by decide +kernel
theorem dX9_together_21 : decode cX9_together 21 = .ok (.invokestatic 118, 3) := by decide +kernel
theorem dX9_together_24 : decode cX9_together 24 = .ok (.ifCond .eq 13, 3) := by decide +kernel
theorem dX9_together_27 : decode cX9_together 27 = .ok (.iload 4, 2) := by decide +kernel
theorem dX9_together_29 : decode cX9_together 29 = .ok (.iload 5, 2) := by decide +kernel
theorem dX9_together_31 : decode cX9_together 31 = .ok (.invokestatic 118, 3) := by decide +kernel
theorem dX9_together_34 : decode cX9_together 34 = .ok (.ifCond .ne 5, 3) := by decide +kernel
theorem dX9_together_37 : decode cX9_together 37 = .ok (.iconst (-1), 1) := by decide +kernel
theorem dX9_together_38 : decode cX9_together 38 = .ok (.ireturn, 1) := by decide +kernel
theorem dX9_together_39 : decode cX9_together 39 = .ok (.aload_n 0, 1) := by decide +kernel
theorem dX9_together_40 : decode cX9_together 40 = .ok (.getfield 37, 3) := by decide +kernel
theorem dX9_together_43 : decode cX9_together 43 = .ok (.aload_n 0, 1) := by decide +kernel
theorem dX9_together_44 : decode cX9_together 44 = .ok (.getfield 51, 3) := by decide +kernel
theorem dX9_together_47 : decode cX9_together 47 = .ok (.iload_n 1, 1) := by decide +kernel
theorem dX9_together_48 : decode cX9_together 48 = .ok (.iload 5, 2) := by decide +kernel
theorem dX9_together_50 : decode cX9_together 50 = .ok (.iload_n 2, 1) := by decide +kernel
theorem dX9_together_51 : decode cX9_together 51 = .ok (.invokevirtual 122, 3) := by decide +kernel
theorem dX9_together_54 : decode cX9_together 54 = .ok (.aload_n 0, 1) := by decide +kernel
theorem dX9_together_55 : decode cX9_together 55 = .ok (.getfield 37, 3) := by decide +kernel
theorem dX9_together_58 : decode cX9_together 58 = .ok (.iload_n 3, 1) := by decide +kernel
theorem dX9_together_59 : decode cX9_together 59 = .ok (.iload 5, 2) := by decide +kernel
theorem dX9_together_61 : decode cX9_together 61 = .ok (.invokestatic 126, 3) := by decide +kernel
theorem dX9_together_64 : decode cX9_together 64 = .ok (.iload 4, 2) := by decide +kernel
theorem dX9_together_66 : decode cX9_together 66 = .ok (.iload 5, 2) := by decide +kernel
theorem dX9_together_68 : decode cX9_together 68 = .ok (.invokestatic 126, 3) := by decide +kernel
theorem dX9_together_71 : decode cX9_together 71 = .ok (.invokevirtual 160, 3) := by decide +kernel
theorem dX9_together_74 : decode cX9_together 74 = .ok (.ireturn, 1) := by decide +kernel
theorem chIwsX9_both_0 : ∀ w ∈ ([.code yX9_both cX9_both 4 (some .int)] : List Cond), w ∈ wsX9_both := fun _ h => (List.mem_cons.mpr (Or.inl (List.mem_singleton.mp h)))
theorem chIwsX9_both_1 : ∀ w ∈ (wsX9_both_r1 : List Cond), w ∈ wsX9_both := fun _ h => (List.mem_cons_of_mem _ (List.mem_append_left _ (List.mem_append_left _ (List.mem_append_left _ (List.mem_append_left _ (List.mem_append_left _ (List.mem_append_left _ (List.mem_append_left _ h))))))))
theorem chIwsX9_both_2 : ∀ w ∈ (wsX9_both_r2 : List Cond), w ∈ wsX9_both := fun _ h => (List.mem_cons_of_mem _ (List.mem_append_left _ (List.mem_append_left _ (List.mem_append_left _ (List.mem_append_left _ (List.mem_append_left _ (List.mem_append_left _ (List.mem_append_right _ (List.mem_append_left _ h)))))))))
theorem chIwsX9_both_3 : ∀ w ∈ (wsX9_both_r3 : List Cond), w ∈ wsX9_both := fun _ h => (List.mem_cons_of_mem _ (List.mem_append_left _ (List.mem_append_left _ (List.mem_append_left _ (List.mem_append_left _ (List.mem_append_left _ (List.mem_append_left _ (List.mem_append_right _ (List.mem_append_right _ (List.mem_append_left _ h))))))))))
theorem chIwsX9_both_4 : ∀ w ∈ (wsX9_both_r4 : List Cond), w ∈ wsX9_both := fun _ h => (List.mem_cons_of_mem _ (List.mem_append_left _ (List.mem_append_left _ (List.mem_append_left _ (List.mem_append_left _ (List.mem_append_left _ (List.mem_append_left _ (List.mem_append_right _ (List.mem_append_right _ (List.mem_append_right _ (List.mem_append_left _ h)))))))))))
theorem chIwsX9_both_5 : ∀ w ∈ (wsX9_both_r5 : List Cond), w ∈ wsX9_both := fun _ h => (List.mem_cons_of_mem _ (List.mem_append_left _ (List.mem_append_left _ (List.mem_append_left _ (List.mem_append_left _ (List.mem_append_left _ (List.mem_append_left _ (List.mem_append_right _ (List.mem_append_right _ (List.mem_append_right _ (List.mem_append_right _ (List.mem_append_left _ h))))))))))))
theorem chIwsX9_both_6 : ∀ w ∈ (wsX9_both_r6 : List Cond), w ∈ wsX9_both := fun _ h => (List.mem_cons_of_mem _ (List.mem_append_left _ (List.mem_append_left _ (List.mem_append_left _ (List.mem_append_left _ (List.mem_append_left _ (List.mem_append_left _ (List.mem_append_right _ (List.mem_append_right _ (List.mem_append_right _ (List.mem_append_right _ (List.mem_append_right _ (List.mem_append_left _ h)))))))))))))
theorem chIwsX9_both_7 : ∀ w ∈ (wsX9_both_r7 : List Cond), w ∈ wsX9_both := fun _ h => (List.mem_cons_of_mem _ (List.mem_append_left _ (List.mem_append_left _ (List.mem_append_left _ (List.mem_append_left _ (List.mem_append_left _ (List.mem_append_left _ (List.mem_append_right _ (List.mem_append_right _ (List.mem_append_right _ (List.mem_append_right _ (List.mem_append_right _ (List.mem_append_right _ h)))))))))))))
theorem chIwsX9_both_8 : ∀ w ∈ (wsX90 : List Cond), w ∈ wsX9_both := fun _ h => (List.mem_cons_of_mem _ (List.mem_append_left _ (List.mem_append_left _ (List.mem_append_left _ (List.mem_append_left _ (List.mem_append_left _ (List.mem_append_right _ h)))))))
theorem chIwsX9_both_9 : ∀ w ∈ (wsX80 : List Cond), w ∈ wsX9_both := fun _ h => (List.mem_cons_of_mem _ (List.mem_append_left _ (List.mem_append_left _ (List.mem_append_left _ (List.mem_append_left _ (List.mem_append_right _ h))))))
theorem chIwsX9_both_10 : ∀ w ∈ (wsX40 : List Cond), w ∈ wsX9_both := fun _ h => (List.mem_cons_of_mem _ (List.mem_append_left _ (List.mem_append_left _ (List.mem_append_left _ (List.mem_append_right _ h)))))
theorem chIwsX9_both_11 : ∀ w ∈ (wsX10 : List Cond), w ∈ wsX9_both := fun _ h => (List.mem_cons_of_mem _ (List.mem_append_left _ (List.mem_append_left _ (List.mem_append_right _ h))))
theorem chIwsX9_both_12 : ∀ w ∈ (wsX20 : List Cond), w ∈ wsX9_both := fun _ h => (List.mem_cons_of_mem _ (List.mem_append_left _ (List.mem_append_right _ h)))
theorem chIwsX9_both_13 : ∀ w ∈ (wsX50 : List Cond), w ∈ wsX9_both := fun _ h => (List.mem_cons_of_mem _ (List.mem_append_right _ h))
def chwsX9_both : Nat → List Cond
  | 0 => [.code yX9_both cX9_both 4 (some .int)]
  | 1 => wsX9_both_r1
  | 2 => wsX9_both_r2
  | 3 => wsX9_both_r3
  | 4 => wsX9_both_r4
  | 5 => wsX9_both_r5
  | 6 => wsX9_both_r6
  | 7 => wsX9_both_r7
  | 8 => wsX90
  | 9 => wsX80
  | 10 => wsX40
  | 11 => wsX10
  | 12 => wsX20
  | 13 => wsX50
  | _ => []
theorem chwsX9_both_in : ∀ (j : Nat) (w : Cond), w ∈ chwsX9_both j → w ∈ wsX9_both
  | 0, w, h => chIwsX9_both_0 w h
  | 1, w, h => chIwsX9_both_1 w h
  | 2, w, h => chIwsX9_both_2 w h
  | 3, w, h => chIwsX9_both_3 w h
  | 4, w, h => chIwsX9_both_4 w h
  | 5, w, h => chIwsX9_both_5 w h
  | 6, w, h => chIwsX9_both_6 w h
  | 7, w, h => chIwsX9_both_7 w h
  | 8, w, h => chIwsX9_both_8 w h
  | 9, w, h => chIwsX9_both_9 w h
  | 10, w, h => chIwsX9_both_10 w h
  | 11, w, h => chIwsX9_both_11 w h
  | 12, w, h => chIwsX9_both_12 w h
  | 13, w, h => chIwsX9_both_13 w h
  | _ + 14, _, h => absurd h List.not_mem_nil
set_option maxRecDepth 20000 in
theorem ggX9_both_X9_isFlag : GoodIn wsX9_both wsX9_isFlag := goodIn_r2 chwsX9_both chwsX9_both_in _ [(1, 5)] rfl (by decide +kernel)
set_option maxRecDepth 20000 in
theorem gX9_both_X9_isFlag : GoodIn wsX9_both (va_wsS RX9 101 yX9_isFlag wsX9_isFlag) := goodIn_app (goodIn_r2 chwsX9_both chwsX9_both_in _ [(1, 2), (1, 3), (1, 4)] rfl (by decide +kernel)) ggX9_both_X9_isFlag
set_option maxRecDepth 20000 in
theorem ggX9_both_X9_cellsWithin : GoodIn wsX9_both wsX9_cellsWithin := goodIn_r2 chwsX9_both chwsX9_both_in _ [(1, 9), (1, 10), (1, 11), (1, 12), (1, 4), (1, 13), (8, 0), (8, 1), (8, 2), (8, 3), (8, 4), (8, 5), (8, 6)] rfl (by decide +kernel)
set_option maxRecDepth 20000 in
theorem gX9_both_X9_cellsWithin : GoodIn wsX9_both (wsV RX9 114 RX9 yX9_cellsWithin wsX9_cellsWithin) := goodIn_app (goodIn_r2 chwsX9_both chwsX9_both_in _ [(1, 6), (1, 7), (1, 8), (1, 4)] rfl (by decide +kernel)) ggX9_both_X9_cellsWithin
set_option maxRecDepth 20000 in
theorem ggX9_both_X9_isPacked : GoodIn wsX9_both wsX9_isPacked := goodIn_r2 chwsX9_both chwsX9_both_in _ [(1, 16), (1, 17), (1, 18), (1, 4), (1, 19), (1, 20), (1, 21), (1, 22), (1, 23), (2, 0), (2, 1), (2, 2)] rfl (by decide +kernel)
set_option maxRecDepth 20000 in
theorem gX9_both_X9_isPacked : GoodIn wsX9_both (va_wsS RX9 118 yX9_isPacked wsX9_isPacked) := goodIn_app (goodIn_r2 chwsX9_both chwsX9_both_in _ [(1, 14), (1, 15), (1, 4)] rfl (by decide +kernel)) ggX9_both_X9_isPacked
set_option maxRecDepth 20000 in
theorem ggX9_both_X8_aim : GoodIn wsX9_both wsX8_aim := goodIn_r2 chwsX9_both chwsX9_both_in _ [(2, 7), (2, 8), (2, 9), (2, 10), (2, 11), (2, 12), (2, 13), (2, 14), (2, 15), (2, 6), (2, 16), (2, 17), (9, 0), (9, 1), (9, 2), (9, 3), (9, 4), (9, 5), (9, 6), (9, 7), (9, 8), (9, 9), (9, 10), (9, 11), (9, 12), (9, 13), (9, 14), (9, 15), (9, 16)] rfl (by decide +kernel)
set_option maxRecDepth 20000 in
theorem gX9_both_X8_aim : GoodIn wsX9_both (wsV RX9 122 RX8 yX8_aim wsX8_aim) := goodIn_app (goodIn_r2 chwsX9_both chwsX9_both_in _ [(2, 3), (2, 4), (2, 5), (2, 6)] rfl (by decide +kernel)) ggX9_both_X8_aim
set_option maxRecDepth 20000 in
theorem ggX9_both_X9_spread : GoodIn wsX9_both wsX9_spread := goodIn_r2 chwsX9_both chwsX9_both_in _ [(2, 20)] rfl (by decide +kernel)
set_option maxRecDepth 20000 in
theorem gX9_both_X9_spread : GoodIn wsX9_both (va_wsS RX9 126 yX9_spread wsX9_spread) := goodIn_app (goodIn_r2 chwsX9_both chwsX9_both_in _ [(2, 18), (2, 19), (1, 4)] rfl (by decide +kernel)) ggX9_both_X9_spread
set_option maxRecDepth 20000 in
theorem ggX9_both_X8_countBoth : GoodIn wsX9_both wsX8_countBoth := goodIn_r2 chwsX9_both chwsX9_both_in _ [(3, 0), (2, 11), (2, 8), (3, 1), (1, 18), (1, 4), (1, 19), (1, 20), (1, 21), (1, 22), (1, 23), (2, 0), (2, 1), (2, 2), (3, 2), (3, 3), (3, 4), (2, 6), (3, 5), (2, 13), (2, 12), (3, 6), (3, 7), (2, 14), (2, 15), (2, 16), (2, 17), (3, 8), (3, 9), (3, 10), (3, 11), (3, 12), (3, 13), (3, 14), (3, 15), (3, 16), (3, 17), (3, 18), (3, 19), (3, 20), (3, 21), (3, 22), (3, 23), (4, 0), (4, 1), (4, 2), (4, 3), (4, 4), (4, 5), (4, 6), (4, 7), (4, 8), (4, 9), (4, 10), (4, 11), (4, 12), (4, 13), (4, 14), (4, 15), (4, 16), (4, 17), (4, 18), (4, 19), (4, 20), (4, 21), (4, 22), (4, 23), (5, 0), (5, 1), (5, 2), (5, 3), (5, 4), (5, 5), (5, 6), (5, 7), (5, 8), (5, 9), (5, 10), (5, 11), (5, 12), (5, 13), (5, 14), (5, 15), (5, 16), (5, 17), (5, 18), (5, 19), (5, 20), (5, 21), (5, 22), (5, 23), (6, 0), (6, 1), (6, 2), (6, 3), (6, 4), (6, 5), (6, 6), (6, 7), (6, 8), (6, 9), (6, 10), (1, 12), (1, 13), (6, 11), (6, 12), (6, 13), (6, 14), (6, 15), (6, 16), (6, 17), (6, 18), (6, 19), (6, 20), (6, 21), (6, 22), (6, 23), (7, 0), (7, 1), (7, 2), (7, 3), (7, 4), (7, 5), (7, 6), (9, 0), (9, 1), (9, 2), (9, 3), (9, 4), (9, 5), (9, 6), (9, 7), (9, 8), (9, 9), (9, 10), (9, 11), (9, 12), (9, 13), (9, 14), (9, 15), (9, 16), (10, 0), (10, 1), (10, 2), (10, 3), (10, 4), (10, 5), (11, 0), (11, 1), (11, 2), (11, 3), (11, 4), (11, 5), (11, 6), (12, 0), (12, 1), (12, 2), (12, 3), (12, 4), (13, 0), (13, 1), (13, 2), (13, 3), (13, 4), (13, 5), (13, 6), (13, 7), (13, 8)] rfl (by decide +kernel)
set_option maxRecDepth 20000 in
theorem gX9_both_X8_countBoth : GoodIn wsX9_both (wsV RX9 163 RX8 yX8_countBoth wsX8_countBoth) := goodIn_app (goodIn_r2 chwsX9_both chwsX9_both_in _ [(2, 21), (2, 22), (2, 23), (2, 6)] rfl (by decide +kernel)) ggX9_both_X8_countBoth
theorem dX9_both_0 : decode cX9_both 0 = .ok (.iload_n 1, 1) := by decide +kernel
theorem dX9_both_1 : decode cX9_both 1 = .ok (.invokestatic 101, 3) := by decide +kernel
theorem dX9_both_4 : decode cX9_both 4 = .ok (.ifCond .ne 5, 3) := by decide +kernel
theorem dX9_both_7 : decode cX9_both 7 = .ok (.iconst (-1), 1) := by decide +kernel
theorem dX9_both_8 : decode cX9_both 8 = .ok (.ireturn, 1) := by decide +kernel
theorem dX9_both_9 : decode cX9_both 9 = .ok (.aload_n 0, 1) := by decide +kernel
theorem dX9_both_10 : decode cX9_both 10 = .ok (.iconst 0, 1) := by decide +kernel
theorem dX9_both_11 : decode cX9_both 11 = .ok (.invokevirtual 114, 3) := by decide +kernel
theorem dX9_both_14 : decode cX9_both 14 = .ok (.istore_n 3, 1) := by decide +kernel
theorem dX9_both_15 : decode cX9_both 15 = .ok (.iload_n 2, 1) := by decide +kernel
theorem dX9_both_16 : decode cX9_both 16 = .ok (.iload_n 3, 1) := by decide +kernel
theorem dX9_both_17 : decode cX9_both 17 = .ok (.invokestatic 118, 3) := by decide +kernel
theorem dX9_both_20 : decode cX9_both 20 = .ok (.ifCond .ne 5, 3) := by decide +kernel
theorem dX9_both_23 : decode cX9_both 23 = .ok (.iconst (-1), 1) := by decide +kernel
theorem dX9_both_24 : decode cX9_both 24 = .ok (.ireturn, 1) := by decide +kernel
theorem dX9_both_25 : decode cX9_both 25 = .ok (.aload_n 0, 1) := by decide +kernel
theorem dX9_both_26 : decode cX9_both 26 = .ok (.getfield 37, 3) := by decide +kernel
theorem dX9_both_29 : decode cX9_both 29 = .ok (.aload_n 0, 1) := by decide +kernel
theorem dX9_both_30 : decode cX9_both 30 = .ok (.getfield 51, 3) := by decide +kernel
theorem dX9_both_33 : decode cX9_both 33 = .ok (.iconst 0, 1) := by decide +kernel
theorem dX9_both_34 : decode cX9_both 34 = .ok (.iload_n 3, 1) := by decide +kernel
theorem dX9_both_35 : decode cX9_both 35 = .ok (.iload_n 1, 1) := by decide +kernel
theorem dX9_both_36 : decode cX9_both 36 = .ok (.invokevirtual 122, 3) := by decide +kernel
theorem dX9_both_39 : decode cX9_both 39 = .ok (.aload_n 0, 1) := by decide +kernel
theorem dX9_both_40 : decode cX9_both 40 = .ok (.getfield 37, 3) := by decide +kernel
theorem dX9_both_43 : decode cX9_both 43 = .ok (.iload_n 2, 1) := by decide +kernel
theorem dX9_both_44 : decode cX9_both 44 = .ok (.iload_n 3, 1) := by decide +kernel
theorem dX9_both_45 : decode cX9_both 45 = .ok (.invokestatic 126, 3) := by decide +kernel
theorem dX9_both_48 : decode cX9_both 48 = .ok (.aload_n 0, 1) := by decide +kernel
theorem dX9_both_49 : decode cX9_both 49 = .ok (.iconst 1, 1) := by decide +kernel
theorem dX9_both_50 : decode cX9_both 50 = .ok (.invokevirtual 114, 3) := by decide +kernel
theorem dX9_both_53 : decode cX9_both 53 = .ok (.aload_n 0, 1) := by decide +kernel
theorem dX9_both_54 : decode cX9_both 54 = .ok (.iconst 2, 1) := by decide +kernel
theorem dX9_both_55 : decode cX9_both 55 = .ok (.invokevirtual 114, 3) := by decide +kernel
theorem dX9_both_58 : decode cX9_both 58 = .ok (.invokevirtual 163, 3) := by decide +kernel
theorem dX9_both_61 : decode cX9_both 61 = .ok (.ireturn, 1) := by decide +kernel
theorem chIwsX9_flows_0 : ∀ w ∈ ([.code yX9_flows cX9_flows 2 (some .int)] : List Cond), w ∈ wsX9_flows := fun _ h => (List.mem_cons.mpr (Or.inl (List.mem_singleton.mp h)))
theorem chIwsX9_flows_1 : ∀ w ∈ (wsX9_flows_r1 : List Cond), w ∈ wsX9_flows := fun _ h => (List.mem_cons_of_mem _ (List.mem_append_left _ (List.mem_append_left _ (List.mem_append_left _ (List.mem_append_left _ (List.mem_append_left _ h))))))
theorem chIwsX9_flows_2 : ∀ w ∈ (wsX9_flows_r2 : List Cond), w ∈ wsX9_flows := fun _ h => (List.mem_cons_of_mem _ (List.mem_append_left _ (List.mem_append_left _ (List.mem_append_left _ (List.mem_append_left _ (List.mem_append_right _ h))))))
theorem chIwsX9_flows_3 : ∀ w ∈ (wsX90 : List Cond), w ∈ wsX9_flows := fun _ h => (List.mem_cons_of_mem _ (List.mem_append_left _ (List.mem_append_left _ (List.mem_append_left _ (List.mem_append_right _ h)))))
theorem chIwsX9_flows_4 : ∀ w ∈ (wsX40 : List Cond), w ∈ wsX9_flows := fun _ h => (List.mem_cons_of_mem _ (List.mem_append_left _ (List.mem_append_left _ (List.mem_append_right _ h))))
theorem chIwsX9_flows_5 : ∀ w ∈ (wsX00 : List Cond), w ∈ wsX9_flows := fun _ h => (List.mem_cons_of_mem _ (List.mem_append_left _ (List.mem_append_right _ h)))
theorem chIwsX9_flows_6 : ∀ w ∈ (wsX50 : List Cond), w ∈ wsX9_flows := fun _ h => (List.mem_cons_of_mem _ (List.mem_append_right _ h))
def chwsX9_flows : Nat → List Cond
  | 0 => [.code yX9_flows cX9_flows 2 (some .int)]
  | 1 => wsX9_flows_r1
  | 2 => wsX9_flows_r2
  | 3 => wsX90
  | 4 => wsX40
  | 5 => wsX00
  | 6 => wsX50
  | _ => []
theorem chwsX9_flows_in : ∀ (j : Nat) (w : Cond), w ∈ chwsX9_flows j → w ∈ wsX9_flows
  | 0, w, h => chIwsX9_flows_0 w h
  | 1, w, h => chIwsX9_flows_1 w h
  | 2, w, h => chIwsX9_flows_2 w h
  | 3, w, h => chIwsX9_flows_3 w h
  | 4, w, h => chIwsX9_flows_4 w h
  | 5, w, h => chIwsX9_flows_5 w h
  | 6, w, h => chIwsX9_flows_6 w h
  | _ + 7, _, h => absurd h List.not_mem_nil
set_option maxRecDepth 20000 in
theorem ggX9_flows_X9_isFlag : GoodIn wsX9_flows wsX9_isFlag := goodIn_r2 chwsX9_flows chwsX9_flows_in _ [(1, 6)] rfl (by decide +kernel)
set_option maxRecDepth 20000 in
theorem gX9_flows_X9_isFlag : GoodIn wsX9_flows (va_wsS RX9 101 yX9_isFlag wsX9_isFlag) := goodIn_app (goodIn_r2 chwsX9_flows chwsX9_flows_in _ [(1, 3), (1, 4), (1, 5)] rfl (by decide +kernel)) ggX9_flows_X9_isFlag
set_option maxRecDepth 20000 in
theorem ggX9_flows_X0_measure : GoodIn wsX9_flows wsX0_measure := goodIn_r2 chwsX9_flows chwsX9_flows_in _ [(1, 11), (1, 12), (1, 13), (1, 14), (1, 15), (1, 16), (1, 17), (1, 18), (1, 19), (1, 10), (1, 20), (4, 0), (4, 1), (4, 2), (4, 3), (4, 4), (4, 5), (5, 0), (5, 1), (5, 2), (6, 0), (6, 1), (6, 2), (6, 3), (6, 4), (6, 5), (6, 6), (6, 7), (6, 8)] rfl (by decide +kernel)
set_option maxRecDepth 20000 in
theorem gX9_flows_X0_measure : GoodIn wsX9_flows (wsV RX9 167 RX0 yX0_measure wsX0_measure) := goodIn_app (goodIn_r2 chwsX9_flows chwsX9_flows_in _ [(1, 7), (1, 8), (1, 9), (1, 10)] rfl (by decide +kernel)) ggX9_flows_X0_measure
set_option maxRecDepth 20000 in
theorem ggX9_flows_X0_countLeaks : GoodIn wsX9_flows wsX0_countLeaks := goodIn_r2 chwsX9_flows chwsX9_flows_in _ [(2, 0), (1, 12), (2, 1), (2, 2), (2, 3), (1, 10), (2, 4), (1, 13), (2, 5), (1, 16), (1, 14), (2, 6), (2, 7), (1, 5), (2, 8), (4, 0), (4, 1), (4, 2), (4, 3), (4, 4), (4, 5), (6, 0), (6, 1), (6, 2), (6, 3), (6, 4), (6, 5), (6, 6), (6, 7), (6, 8), (5, 0), (5, 1), (5, 2)] rfl (by decide +kernel)
set_option maxRecDepth 20000 in
theorem gX9_flows_X0_countLeaks : GoodIn wsX9_flows (wsV RX9 171 RX0 yX0_countLeaks wsX0_countLeaks) := goodIn_app (goodIn_r2 chwsX9_flows chwsX9_flows_in _ [(1, 21), (1, 22), (1, 23), (1, 10)] rfl (by decide +kernel)) ggX9_flows_X0_countLeaks
set_option maxRecDepth 20000 in
theorem ggX9_flows_X0_firstLeak : GoodIn wsX9_flows wsX0_firstLeak := goodIn_r2 chwsX9_flows chwsX9_flows_in _ [(2, 12), (1, 12), (2, 1), (2, 2), (2, 3), (1, 10), (2, 4), (1, 13), (2, 5), (1, 16), (1, 14), (2, 6), (2, 7), (1, 5), (2, 8), (4, 0), (4, 1), (4, 2), (4, 3), (4, 4), (4, 5), (6, 0), (6, 1), (6, 2), (6, 3), (6, 4), (6, 5), (6, 6), (6, 7), (6, 8), (5, 0), (5, 1), (5, 2)] rfl (by decide +kernel)
set_option maxRecDepth 20000 in
theorem gX9_flows_X0_firstLeak : GoodIn wsX9_flows (wsV RX9 175 RX0 yX0_firstLeak wsX0_firstLeak) := goodIn_app (goodIn_r2 chwsX9_flows chwsX9_flows_in _ [(2, 9), (2, 10), (2, 11), (1, 10)] rfl (by decide +kernel)) ggX9_flows_X0_firstLeak
theorem dX9_flows_0 : decode cX9_flows 0 = .ok (.iload_n 1, 1) := by decide +kernel
theorem dX9_flows_1 : decode cX9_flows 1 = .ok (.invokestatic 101, 3) := by decide +kernel
theorem dX9_flows_4 : decode cX9_flows 4 = .ok (.ifCond .ne 5, 3) := by decide +kernel
theorem dX9_flows_7 : decode cX9_flows 7 = .ok (.iconst (-1), 1) := by decide +kernel
theorem dX9_flows_8 : decode cX9_flows 8 = .ok (.ireturn, 1) := by decide +kernel
theorem dX9_flows_9 : decode cX9_flows 9 = .ok (.aload_n 0, 1) := by decide +kernel
theorem dX9_flows_10 : decode cX9_flows 10 = .ok (.getfield 44, 3) := by decide +kernel
theorem dX9_flows_13 : decode cX9_flows 13 = .ok (.aload_n 0, 1) := by decide +kernel
theorem dX9_flows_14 : decode cX9_flows 14 = .ok (.getfield 51, 3) := by decide +kernel
theorem dX9_flows_17 : decode cX9_flows 17 = .ok (.aload_n 0, 1) := by decide +kernel
theorem dX9_flows_18 : decode cX9_flows 18 = .ok (.getfield 9, 3) := by decide +kernel
theorem dX9_flows_21 : decode cX9_flows 21 = .ok (.invokevirtual 167, 3) := by decide +kernel
theorem dX9_flows_24 : decode cX9_flows 24 = .ok (.iload_n 1, 1) := by decide +kernel
theorem dX9_flows_25 : decode cX9_flows 25 = .ok (.ifCond .ne 21, 3) := by decide +kernel
theorem dX9_flows_28 : decode cX9_flows 28 = .ok (.aload_n 0, 1) := by decide +kernel
theorem dX9_flows_29 : decode cX9_flows 29 = .ok (.getfield 44, 3) := by decide +kernel
theorem dX9_flows_32 : decode cX9_flows 32 = .ok (.aload_n 0, 1) := by decide +kernel
theorem dX9_flows_33 : decode cX9_flows 33 = .ok (.getfield 51, 3) := by decide +kernel
theorem dX9_flows_36 : decode cX9_flows 36 = .ok (.aload_n 0, 1) := by decide +kernel
theorem dX9_flows_37 : decode cX9_flows 37 = .ok (.getfield 9, 3) := by decide +kernel
theorem dX9_flows_40 : decode cX9_flows 40 = .ok (.invokevirtual 171, 3) := by decide +kernel
theorem dX9_flows_43 : decode cX9_flows 43 = .ok (.goto 18, 3) := by decide +kernel
theorem dX9_flows_46 : decode cX9_flows 46 = .ok (.aload_n 0, 1) := by decide +kernel
theorem dX9_flows_47 : decode cX9_flows 47 = .ok (.getfield 44, 3) := by decide +kernel
theorem dX9_flows_50 : decode cX9_flows 50 = .ok (.aload_n 0, 1) := by decide +kernel
theorem dX9_flows_51 : decode cX9_flows 51 = .ok (.getfield 51, 3) := by decide +kernel
theorem dX9_flows_54 : decode cX9_flows 54 = .ok (.aload_n 0, 1) := by decide +kernel
theorem dX9_flows_55 : decode cX9_flows 55 = .ok (.getfield 9, 3) := by decide +kernel
theorem dX9_flows_58 : decode cX9_flows 58 = .ok (.invokevirtual 175, 3) := by decide +kernel
theorem dX9_flows_61 : decode cX9_flows 61 = .ok (.ireturn, 1) := by decide +kernel
theorem chIwsX9_statement_0 : ∀ w ∈ ([.code yX9_statement cX9_statement 3 (some .int)] : List Cond), w ∈ wsX9_statement := fun _ h => (List.mem_cons.mpr (Or.inl (List.mem_singleton.mp h)))
theorem chIwsX9_statement_1 : ∀ w ∈ (wsX9_statement_r1 : List Cond), w ∈ wsX9_statement := fun _ h => (List.mem_cons_of_mem _ (List.mem_append_left _ (List.mem_append_left _ (List.mem_append_left _ (List.mem_append_left _ (List.mem_append_left _ h))))))
theorem chIwsX9_statement_2 : ∀ w ∈ (wsX9_statement_r2 : List Cond), w ∈ wsX9_statement := fun _ h => (List.mem_cons_of_mem _ (List.mem_append_left _ (List.mem_append_left _ (List.mem_append_left _ (List.mem_append_left _ (List.mem_append_right _ h))))))
theorem chIwsX9_statement_3 : ∀ w ∈ (wsX90 : List Cond), w ∈ wsX9_statement := fun _ h => (List.mem_cons_of_mem _ (List.mem_append_left _ (List.mem_append_left _ (List.mem_append_left _ (List.mem_append_right _ h)))))
theorem chIwsX9_statement_4 : ∀ w ∈ (wsX40 : List Cond), w ∈ wsX9_statement := fun _ h => (List.mem_cons_of_mem _ (List.mem_append_left _ (List.mem_append_left _ (List.mem_append_right _ h))))
theorem chIwsX9_statement_5 : ∀ w ∈ (wsX00 : List Cond), w ∈ wsX9_statement := fun _ h => (List.mem_cons_of_mem _ (List.mem_append_left _ (List.mem_append_right _ h)))
theorem chIwsX9_statement_6 : ∀ w ∈ (wsX50 : List Cond), w ∈ wsX9_statement := fun _ h => (List.mem_cons_of_mem _ (List.mem_append_right _ h))
def chwsX9_statement : Nat → List Cond
  | 0 => [.code yX9_statement cX9_statement 3 (some .int)]
  | 1 => wsX9_statement_r1
  | 2 => wsX9_statement_r2
  | 3 => wsX90
  | 4 => wsX40
  | 5 => wsX00
  | 6 => wsX50
  | _ => []
theorem chwsX9_statement_in : ∀ (j : Nat) (w : Cond), w ∈ chwsX9_statement j → w ∈ wsX9_statement
  | 0, w, h => chIwsX9_statement_0 w h
  | 1, w, h => chIwsX9_statement_1 w h
  | 2, w, h => chIwsX9_statement_2 w h
  | 3, w, h => chIwsX9_statement_3 w h
  | 4, w, h => chIwsX9_statement_4 w h
  | 5, w, h => chIwsX9_statement_5 w h
  | 6, w, h => chIwsX9_statement_6 w h
  | _ + 7, _, h => absurd h List.not_mem_nil
set_option maxRecDepth 20000 in
theorem ggX9_statement_X0_measure : GoodIn wsX9_statement wsX0_measure := goodIn_r2 chwsX9_statement chwsX9_statement_in _ [(1, 12), (1, 13), (1, 14), (1, 15), (1, 16), (1, 17), (1, 18), (1, 19), (1, 20), (1, 11), (1, 21), (4, 0), (4, 1), (4, 2), (4, 3), (4, 4), (4, 5), (5, 0), (5, 1), (5, 2), (6, 0), (6, 1), (6, 2), (6, 3), (6, 4), (6, 5), (6, 6), (6, 7), (6, 8)] rfl (by decide +kernel)
set_option maxRecDepth 20000 in
theorem gX9_statement_X0_measure : GoodIn wsX9_statement (wsV RX9 167 RX0 yX0_measure wsX0_measure) := goodIn_app (goodIn_r2 chwsX9_statement chwsX9_statement_in _ [(1, 8), (1, 9), (1, 10), (1, 11)] rfl (by decide +kernel)) ggX9_statement_X0_measure
set_option maxRecDepth 20000 in
theorem ggX9_statement_X0_leaks : GoodIn wsX9_statement wsX0_leaks := goodIn_r2 chwsX9_statement chwsX9_statement_in _ [(2, 1), (1, 14), (2, 2), (1, 17), (1, 15), (2, 3), (2, 4), (2, 5), (2, 6), (4, 0), (4, 1), (4, 2), (4, 3), (4, 4), (4, 5), (6, 0), (6, 1), (6, 2), (6, 3), (6, 4), (6, 5), (6, 6), (6, 7), (6, 8), (5, 0), (5, 1), (5, 2)] rfl (by decide +kernel)
set_option maxRecDepth 20000 in
theorem gX9_statement_X0_leaks : GoodIn wsX9_statement (wsV RX9 184 RX0 yX0_leaks wsX0_leaks) := goodIn_app (goodIn_r2 chwsX9_statement chwsX9_statement_in _ [(1, 22), (1, 23), (2, 0), (1, 11)] rfl (by decide +kernel)) ggX9_statement_X0_leaks
theorem dX9_statement_0 : decode cX9_statement 0 = .ok (.iload_n 1, 1) := by decide +kernel
theorem dX9_statement_1 : decode cX9_statement 1 = .ok (.ifCond .lt 23, 3) := by decide +kernel
theorem dX9_statement_4 : decode cX9_statement 4 = .ok (.iload_n 1, 1) := by decide +kernel
theorem dX9_statement_5 : decode cX9_statement 5 = .ok (.aload_n 0, 1) := by decide +kernel
theorem dX9_statement_6 : decode cX9_statement 6 = .ok (.getfield 51, 3) := by decide +kernel
theorem dX9_statement_9 : decode cX9_statement 9 = .ok (.getfield 81, 3) := by decide +kernel
theorem dX9_statement_12 : decode cX9_statement 12 = .ok (.if_icmp .ge 12, 3) := by decide +kernel
theorem dX9_statement_15 : decode cX9_statement 15 = .ok (.iload_n 2, 1) := by decide +kernel
theorem dX9_statement_16 : decode cX9_statement 16 = .ok (.ifCond .lt 8, 3) := by decide +kernel
theorem dX9_statement_19 : decode cX9_statement 19 = .ok (.iload_n 2, 1) := by decide +kernel
theorem dX9_statement_20 : decode cX9_statement 20 = .ok (.iconst 3, 1) := by decide +kernel
theorem dX9_statement_21 : decode cX9_statement 21 = .ok (.if_icmp .le 5, 3) := by decide +kernel
theorem dX9_statement_24 : decode cX9_statement 24 = .ok (.iconst (-1), 1) := by decide +kernel
theorem dX9_statement_25 : decode cX9_statement 25 = .ok (.ireturn, 1) := by decide +kernel
theorem dX9_statement_26 : decode cX9_statement 26 = .ok (.aload_n 0, 1) := by decide +kernel
theorem dX9_statement_27 : decode cX9_statement 27 = .ok (.getfield 44, 3) := by decide +kernel
theorem dX9_statement_30 : decode cX9_statement 30 = .ok (.aload_n 0, 1) := by decide +kernel
theorem dX9_statement_31 : decode cX9_statement 31 = .ok (.getfield 51, 3) := by decide +kernel
theorem dX9_statement_34 : decode cX9_statement 34 = .ok (.aload_n 0, 1) := by decide +kernel
theorem dX9_statement_35 : decode cX9_statement 35 = .ok (.getfield 9, 3) := by decide +kernel
theorem dX9_statement_38 : decode cX9_statement 38 = .ok (.invokevirtual 167, 3) := by decide +kernel
theorem dX9_statement_41 : decode cX9_statement 41 = .ok (.iload_n 2, 1) := by decide +kernel
theorem dX9_statement_42 : decode cX9_statement 42 = .ok (.tableswitch 71 0 2 #[26, 36, 46], 26) := by decide +kernel
theorem dX9_statement_68 : decode cX9_statement 68 = .ok (.aload_n 0, 1) := by decide +kernel
theorem dX9_statement_69 : decode cX9_statement 69 = .ok (.getfield 44, 3) := by decide +kernel
theorem dX9_statement_72 : decode cX9_statement 72 = .ok (.getfield 178, 3) := by decide +kernel
theorem dX9_statement_75 : decode cX9_statement 75 = .ok (.iload_n 1, 1) := by decide +kernel
theorem dX9_statement_76 : decode cX9_statement 76 = .ok (.iaload, 1) := by decide +kernel
theorem dX9_statement_77 : decode cX9_statement 77 = .ok (.ireturn, 1) := by decide +kernel
theorem dX9_statement_78 : decode cX9_statement 78 = .ok (.aload_n 0, 1) := by decide +kernel
theorem dX9_statement_79 : decode cX9_statement 79 = .ok (.getfield 44, 3) := by decide +kernel
theorem dX9_statement_82 : decode cX9_statement 82 = .ok (.getfield 181, 3) := by decide +kernel
theorem dX9_statement_85 : decode cX9_statement 85 = .ok (.iload_n 1, 1) := by decide +kernel
theorem dX9_statement_86 : decode cX9_statement 86 = .ok (.iaload, 1) := by decide +kernel
theorem dX9_statement_87 : decode cX9_statement 87 = .ok (.ireturn, 1) := by decide +kernel
theorem dX9_statement_88 : decode cX9_statement 88 = .ok (.aload_n 0, 1) := by decide +kernel
theorem dX9_statement_89 : decode cX9_statement 89 = .ok (.getfield 44, 3) := by decide +kernel
theorem dX9_statement_92 : decode cX9_statement 92 = .ok (.aload_n 0, 1) := by decide +kernel
theorem dX9_statement_93 : decode cX9_statement 93 = .ok (.getfield 51, 3) := by decide +kernel
theorem dX9_statement_96 : decode cX9_statement 96 = .ok (.aload_n 0, 1) := by decide +kernel
theorem dX9_statement_97 : decode cX9_statement 97 = .ok (.getfield 9, 3) := by decide +kernel
theorem dX9_statement_100 : decode cX9_statement 100 = .ok (.iload_n 1, 1) := by decide +kernel
theorem dX9_statement_101 : decode cX9_statement 101 = .ok (.invokevirtual 184, 3) := by decide +kernel
theorem dX9_statement_104 : decode cX9_statement 104 = .ok (.ifCond .eq 7, 3) := by decide +kernel
theorem dX9_statement_107 : decode cX9_statement 107 = .ok (.iconst 1, 1) := by decide +kernel
theorem dX9_statement_108 : decode cX9_statement 108 = .ok (.goto 4, 3) := by decide +kernel
theorem dX9_statement_111 : decode cX9_statement 111 = .ok (.iconst 0, 1) := by decide +kernel
theorem dX9_statement_112 : decode cX9_statement 112 = .ok (.ireturn, 1) := by decide +kernel
theorem dX9_statement_113 : decode cX9_statement 113 = .ok (.aload_n 0, 1) := by decide +kernel
theorem dX9_statement_114 : decode cX9_statement 114 = .ok (.getfield 51, 3) := by decide +kernel
theorem dX9_statement_117 : decode cX9_statement 117 = .ok (.getfield 188, 3) := by decide +kernel
theorem dX9_statement_120 : decode cX9_statement 120 = .ok (.iload_n 1, 1) := by decide +kernel
theorem dX9_statement_121 : decode cX9_statement 121 = .ok (.aaload, 1) := by decide +kernel
theorem dX9_statement_122 : decode cX9_statement 122 = .ok (.getfield 192, 3) := by decide +kernel
theorem dX9_statement_125 : decode cX9_statement 125 = .ok (.ireturn, 1) := by decide +kernel
theorem chIwsX9_raised_0 : ∀ w ∈ ([.code yX9_raised cX9_raised 2 (some .int)] : List Cond), w ∈ wsX9_raised := fun _ h => (List.mem_cons.mpr (Or.inl (List.mem_singleton.mp h)))
theorem chIwsX9_raised_1 : ∀ w ∈ (wsX9_raised_r1 : List Cond), w ∈ wsX9_raised := fun _ h => (List.mem_cons_of_mem _ (List.mem_append_left _ (List.mem_append_left _ (List.mem_append_left _ (List.mem_append_left _ (List.mem_append_left _ h))))))
theorem chIwsX9_raised_2 : ∀ w ∈ (wsX9_raised_r2 : List Cond), w ∈ wsX9_raised := fun _ h => (List.mem_cons_of_mem _ (List.mem_append_left _ (List.mem_append_left _ (List.mem_append_left _ (List.mem_append_left _ (List.mem_append_right _ h))))))
theorem chIwsX9_raised_3 : ∀ w ∈ (wsX90 : List Cond), w ∈ wsX9_raised := fun _ h => (List.mem_cons_of_mem _ (List.mem_append_left _ (List.mem_append_left _ (List.mem_append_left _ (List.mem_append_right _ h)))))
theorem chIwsX9_raised_4 : ∀ w ∈ (wsX00 : List Cond), w ∈ wsX9_raised := fun _ h => (List.mem_cons_of_mem _ (List.mem_append_left _ (List.mem_append_left _ (List.mem_append_right _ h))))
theorem chIwsX9_raised_5 : ∀ w ∈ (wsX40 : List Cond), w ∈ wsX9_raised := fun _ h => (List.mem_cons_of_mem _ (List.mem_append_left _ (List.mem_append_right _ h)))
theorem chIwsX9_raised_6 : ∀ w ∈ (wsX50 : List Cond), w ∈ wsX9_raised := fun _ h => (List.mem_cons_of_mem _ (List.mem_append_right _ h))
def chwsX9_raised : Nat → List Cond
  | 0 => [.code yX9_raised cX9_raised 2 (some .int)]
  | 1 => wsX9_raised_r1
  | 2 => wsX9_raised_r2
  | 3 => wsX90
  | 4 => wsX00
  | 5 => wsX40
  | 6 => wsX50
  | _ => []
theorem chwsX9_raised_in : ∀ (j : Nat) (w : Cond), w ∈ chwsX9_raised j → w ∈ wsX9_raised
  | 0, w, h => chIwsX9_raised_0 w h
  | 1, w, h => chIwsX9_raised_1 w h
  | 2, w, h => chIwsX9_raised_2 w h
  | 3, w, h => chIwsX9_raised_3 w h
  | 4, w, h => chIwsX9_raised_4 w h
  | 5, w, h => chIwsX9_raised_5 w h
  | 6, w, h => chIwsX9_raised_6 w h
  | _ + 7, _, h => absurd h List.not_mem_nil
set_option maxRecDepth 20000 in
theorem ggX9_raised_X9_isCell : GoodIn wsX9_raised wsX9_isCell := goodIn_r2 chwsX9_raised chwsX9_raised_in _ [(1, 6)] rfl (by decide +kernel)
set_option maxRecDepth 20000 in
theorem gX9_raised_X9_isCell : GoodIn wsX9_raised (va_wsS RX9 55 yX9_isCell wsX9_isCell) := goodIn_app (goodIn_r2 chwsX9_raised chwsX9_raised_in _ [(1, 3), (1, 4), (1, 5)] rfl (by decide +kernel)) ggX9_raised_X9_isCell
set_option maxRecDepth 20000 in
theorem ggX9_raised_X0_raise : GoodIn wsX9_raised wsX0_raise := goodIn_r2 chwsX9_raised chwsX9_raised_in _ [(1, 11), (1, 12), (1, 13), (1, 14), (1, 15), (1, 10), (1, 16), (1, 17), (1, 18), (1, 19), (1, 20), (1, 21), (1, 22), (1, 23), (2, 0), (2, 1), (2, 2), (2, 3), (2, 4), (2, 5), (2, 6), (2, 7), (2, 8), (2, 9), (2, 10), (2, 11), (2, 12), (1, 5), (2, 13), (4, 0), (4, 1), (4, 2), (5, 0), (5, 1), (5, 2), (5, 3), (5, 4), (5, 5), (6, 0), (6, 1), (6, 2), (6, 3), (6, 4), (6, 5), (6, 6), (6, 7), (6, 8)] rfl (by decide +kernel)
set_option maxRecDepth 20000 in
theorem gX9_raised_X0_raise : GoodIn wsX9_raised (wsV RX9 197 RX0 yX0_raise wsX0_raise) := goodIn_app (goodIn_r2 chwsX9_raised chwsX9_raised_in _ [(1, 7), (1, 8), (1, 9), (1, 10)] rfl (by decide +kernel)) ggX9_raised_X0_raise
theorem dX9_raised_0 : decode cX9_raised 0 = .ok (.iload_n 1, 1) := by decide +kernel
theorem dX9_raised_1 : decode cX9_raised 1 = .ok (.invokestatic 55, 3) := by decide +kernel
theorem dX9_raised_4 : decode cX9_raised 4 = .ok (.ifCond .ne 5, 3) := by decide +kernel
theorem dX9_raised_7 : decode cX9_raised 7 = .ok (.iconst (-1), 1) := by decide +kernel
theorem dX9_raised_8 : decode cX9_raised 8 = .ok (.ireturn, 1) := by decide +kernel
theorem dX9_raised_9 : decode cX9_raised 9 = .ok (.aload_n 0, 1) := by decide +kernel
theorem dX9_raised_10 : decode cX9_raised 10 = .ok (.getfield 44, 3) := by decide +kernel
theorem dX9_raised_13 : decode cX9_raised 13 = .ok (.aload_n 0, 1) := by decide +kernel
theorem dX9_raised_14 : decode cX9_raised 14 = .ok (.getfield 51, 3) := by decide +kernel
theorem dX9_raised_17 : decode cX9_raised 17 = .ok (.aload_n 0, 1) := by decide +kernel
theorem dX9_raised_18 : decode cX9_raised 18 = .ok (.getfield 9, 3) := by decide +kernel
theorem dX9_raised_21 : decode cX9_raised 21 = .ok (.iload_n 1, 1) := by decide +kernel
theorem dX9_raised_22 : decode cX9_raised 22 = .ok (.invokevirtual 197, 3) := by decide +kernel
theorem dX9_raised_25 : decode cX9_raised 25 = .ok (.ireturn, 1) := by decide +kernel
theorem chIwsX9_stop_0 : ∀ w ∈ ([.code yX9_stop cX9_stop 5 (some .int)] : List Cond), w ∈ wsX9_stop := fun _ h => (List.mem_cons.mpr (Or.inl (List.mem_singleton.mp h)))
theorem chIwsX9_stop_1 : ∀ w ∈ (wsX9_stop_r1 : List Cond), w ∈ wsX9_stop := fun _ h => (List.mem_cons_of_mem _ (List.mem_append_left _ (List.mem_append_left _ (List.mem_append_left _ (List.mem_append_left _ (List.mem_append_left _ (List.mem_append_left _ h)))))))
theorem chIwsX9_stop_2 : ∀ w ∈ (wsX9_stop_r2 : List Cond), w ∈ wsX9_stop := fun _ h => (List.mem_cons_of_mem _ (List.mem_append_left _ (List.mem_append_left _ (List.mem_append_left _ (List.mem_append_left _ (List.mem_append_left _ (List.mem_append_right _ (List.mem_append_left _ h))))))))
theorem chIwsX9_stop_3 : ∀ w ∈ (wsX9_stop_r3 : List Cond), w ∈ wsX9_stop := fun _ h => (List.mem_cons_of_mem _ (List.mem_append_left _ (List.mem_append_left _ (List.mem_append_left _ (List.mem_append_left _ (List.mem_append_left _ (List.mem_append_right _ (List.mem_append_right _ (List.mem_append_left _ h)))))))))
theorem chIwsX9_stop_4 : ∀ w ∈ (wsX9_stop_r4 : List Cond), w ∈ wsX9_stop := fun _ h => (List.mem_cons_of_mem _ (List.mem_append_left _ (List.mem_append_left _ (List.mem_append_left _ (List.mem_append_left _ (List.mem_append_left _ (List.mem_append_right _ (List.mem_append_right _ (List.mem_append_right _ (List.mem_append_left _ h))))))))))
theorem chIwsX9_stop_5 : ∀ w ∈ (wsX9_stop_r5 : List Cond), w ∈ wsX9_stop := fun _ h => (List.mem_cons_of_mem _ (List.mem_append_left _ (List.mem_append_left _ (List.mem_append_left _ (List.mem_append_left _ (List.mem_append_left _ (List.mem_append_right _ (List.mem_append_right _ (List.mem_append_right _ (List.mem_append_right _ (List.mem_append_left _ h)))))))))))
theorem chIwsX9_stop_6 : ∀ w ∈ (wsX9_stop_r6 : List Cond), w ∈ wsX9_stop := fun _ h => (List.mem_cons_of_mem _ (List.mem_append_left _ (List.mem_append_left _ (List.mem_append_left _ (List.mem_append_left _ (List.mem_append_left _ (List.mem_append_right _ (List.mem_append_right _ (List.mem_append_right _ (List.mem_append_right _ (List.mem_append_right _ h)))))))))))
theorem chIwsX9_stop_7 : ∀ w ∈ (wsX90 : List Cond), w ∈ wsX9_stop := fun _ h => (List.mem_cons_of_mem _ (List.mem_append_left _ (List.mem_append_left _ (List.mem_append_left _ (List.mem_append_left _ (List.mem_append_right _ h))))))
theorem chIwsX9_stop_8 : ∀ w ∈ (wsX40 : List Cond), w ∈ wsX9_stop := fun _ h => (List.mem_cons_of_mem _ (List.mem_append_left _ (List.mem_append_left _ (List.mem_append_left _ (List.mem_append_right _ h)))))
theorem chIwsX9_stop_9 : ∀ w ∈ (wsX80 : List Cond), w ∈ wsX9_stop := fun _ h => (List.mem_cons_of_mem _ (List.mem_append_left _ (List.mem_append_left _ (List.mem_append_right _ h))))
theorem chIwsX9_stop_10 : ∀ w ∈ (wsX20 : List Cond), w ∈ wsX9_stop := fun _ h => (List.mem_cons_of_mem _ (List.mem_append_left _ (List.mem_append_right _ h)))
theorem chIwsX9_stop_11 : ∀ w ∈ (wsX50 : List Cond), w ∈ wsX9_stop := fun _ h => (List.mem_cons_of_mem _ (List.mem_append_right _ h))
def chwsX9_stop : Nat → List Cond
  | 0 => [.code yX9_stop cX9_stop 5 (some .int)]
  | 1 => wsX9_stop_r1
  | 2 => wsX9_stop_r2
  | 3 => wsX9_stop_r3
  | 4 => wsX9_stop_r4
  | 5 => wsX9_stop_r5
  | 6 => wsX9_stop_r6
  | 7 => wsX90
  | 8 => wsX40
  | 9 => wsX80
  | 10 => wsX20
  | 11 => wsX50
  | _ => []
theorem chwsX9_stop_in : ∀ (j : Nat) (w : Cond), w ∈ chwsX9_stop j → w ∈ wsX9_stop
  | 0, w, h => chIwsX9_stop_0 w h
  | 1, w, h => chIwsX9_stop_1 w h
  | 2, w, h => chIwsX9_stop_2 w h
  | 3, w, h => chIwsX9_stop_3 w h
  | 4, w, h => chIwsX9_stop_4 w h
  | 5, w, h => chIwsX9_stop_5 w h
  | 6, w, h => chIwsX9_stop_6 w h
  | 7, w, h => chIwsX9_stop_7 w h
  | 8, w, h => chIwsX9_stop_8 w h
  | 9, w, h => chIwsX9_stop_9 w h
  | 10, w, h => chIwsX9_stop_10 w h
  | 11, w, h => chIwsX9_stop_11 w h
  | _ + 12, _, h => absurd h List.not_mem_nil
set_option maxRecDepth 20000 in
theorem ggX9_stop_X9_isWatched : GoodIn wsX9_stop wsX9_isWatched := goodIn_r2 chwsX9_stop chwsX9_stop_in _ [(1, 6), (1, 7), (1, 8), (1, 5), (1, 9), (1, 10), (1, 11), (1, 12)] rfl (by decide +kernel)
set_option maxRecDepth 20000 in
theorem gX9_stop_X9_isWatched : GoodIn wsX9_stop (va_wsS RX9 110 yX9_isWatched wsX9_isWatched) := goodIn_app (goodIn_r2 chwsX9_stop chwsX9_stop_in _ [(1, 3), (1, 4), (1, 5)] rfl (by decide +kernel)) ggX9_stop_X9_isWatched
set_option maxRecDepth 20000 in
theorem ggX9_stop_X9_cellsWithin : GoodIn wsX9_stop wsX9_cellsWithin := goodIn_r2 chwsX9_stop chwsX9_stop_in _ [(1, 16), (1, 17), (1, 18), (1, 19), (1, 5), (1, 20), (7, 0), (7, 1), (7, 2), (7, 3), (7, 4), (7, 5), (7, 6)] rfl (by decide +kernel)
set_option maxRecDepth 20000 in
theorem gX9_stop_X9_cellsWithin : GoodIn wsX9_stop (wsV RX9 114 RX9 yX9_cellsWithin wsX9_cellsWithin) := goodIn_app (goodIn_r2 chwsX9_stop chwsX9_stop_in _ [(1, 13), (1, 14), (1, 15), (1, 5)] rfl (by decide +kernel)) ggX9_stop_X9_cellsWithin
set_option maxRecDepth 20000 in
theorem ggX9_stop_X8_aim : GoodIn wsX9_stop wsX8_aim := goodIn_r2 chwsX9_stop chwsX9_stop_in _ [(2, 1), (2, 2), (2, 3), (2, 4), (2, 5), (2, 6), (2, 7), (2, 8), (2, 9), (2, 0), (2, 10), (2, 11), (9, 0), (9, 1), (9, 2), (9, 3), (9, 4), (9, 5), (9, 6), (9, 7), (9, 8), (9, 9), (9, 10), (9, 11), (9, 12), (9, 13), (9, 14), (9, 15), (9, 16)] rfl (by decide +kernel)
set_option maxRecDepth 20000 in
theorem gX9_stop_X8_aim : GoodIn wsX9_stop (wsV RX9 122 RX8 yX8_aim wsX8_aim) := goodIn_app (goodIn_r2 chwsX9_stop chwsX9_stop_in _ [(1, 21), (1, 22), (1, 23), (2, 0)] rfl (by decide +kernel)) ggX9_stop_X8_aim
set_option maxRecDepth 20000 in
theorem ggX9_stop_X8_fewestStopped : GoodIn wsX9_stop wsX8_fewestStopped := goodIn_r2 chwsX9_stop chwsX9_stop_in _ [(2, 15), (2, 2), (2, 16), (2, 17), (2, 18), (2, 19), (2, 20), (2, 21), (2, 22), (2, 23), (3, 0), (3, 1), (3, 2), (3, 3), (3, 4), (3, 5), (3, 6), (3, 7), (2, 0), (3, 8), (3, 9), (2, 3), (2, 7), (3, 10), (3, 11), (3, 12), (3, 13), (3, 14), (3, 15), (3, 16), (3, 17), (3, 18), (3, 19), (3, 20), (3, 21), (3, 22), (3, 23), (4, 0), (4, 1), (4, 2), (4, 3), (4, 4), (4, 5), (4, 6), (4, 7), (4, 8), (4, 9), (4, 10), (4, 11), (4, 12), (4, 13), (4, 14), (4, 15), (4, 16), (4, 17), (4, 18), (4, 19), (4, 20), (4, 21), (4, 22), (4, 23), (5, 0), (5, 1), (5, 2), (5, 3), (5, 4), (5, 5), (5, 6), (5, 7), (5, 8), (5, 9), (5, 10), (5, 11), (5, 12), (5, 13), (5, 14), (5, 15), (5, 16), (5, 17), (5, 18), (5, 19), (5, 20), (5, 21), (5, 22), (5, 23), (6, 0), (6, 1), (6, 2), (6, 3), (1, 19), (1, 5), (1, 20), (6, 4), (6, 5), (6, 6), (6, 7), (2, 4), (2, 5), (6, 8), (6, 9), (6, 10), (6, 11), (6, 12), (9, 0), (9, 1), (9, 2), (9, 3), (9, 4), (9, 5), (9, 6), (9, 7), (9, 8), (9, 9), (9, 10), (9, 11), (9, 12), (9, 13), (9, 14), (9, 15), (9, 16), (8, 0), (8, 1), (8, 2), (8, 3), (8, 4), (8, 5), (10, 0), (10, 1), (10, 2), (10, 3), (10, 4), (11, 0), (11, 1), (11, 2), (11, 3), (11, 4), (11, 5), (11, 6), (11, 7), (11, 8)] rfl (by decide +kernel)
set_option maxRecDepth 20000 in
theorem gX9_stop_X8_fewestStopped : GoodIn wsX9_stop (wsV RX9 204 RX8 yX8_fewestStopped wsX8_fewestStopped) := goodIn_app (goodIn_r2 chwsX9_stop chwsX9_stop_in _ [(2, 12), (2, 13), (2, 14), (2, 0)] rfl (by decide +kernel)) ggX9_stop_X8_fewestStopped
set_option maxRecDepth 20000 in
theorem ggX9_stop_J6_bitCount_0f7a4 : GoodIn wsX9_stop wsJ6_bitCount_0f7a4 := goodIn_r2 chwsX9_stop chwsX9_stop_in _ [(3, 1), (3, 2), (3, 3), (3, 4)] rfl (by decide +kernel)
set_option maxRecDepth 20000 in
theorem gX9_stop_J6_bitCount_0f7a4 : GoodIn wsX9_stop (va_wsS RX9 207 yJ6_bitCount_0f7a4 wsJ6_bitCount_0f7a4) := goodIn_app (goodIn_r2 chwsX9_stop chwsX9_stop_in _ [(6, 10), (2, 23), (3, 0)] rfl (by decide +kernel)) ggX9_stop_J6_bitCount_0f7a4
theorem dX9_stop_0 : decode cX9_stop 0 = .ok (.iload_n 1, 1) := by decide +kernel
theorem dX9_stop_1 : decode cX9_stop 1 = .ok (.iload_n 2, 1) := by decide +kernel
theorem dX9_stop_2 : decode cX9_stop 2 = .ok (.iload_n 3, 1) := by decide +kernel
theorem dX9_stop_3 : decode cX9_stop 3 = .ok (.invokestatic 110, 3) := by decide +kernel
theorem dX9_stop_6 : decode cX9_stop 6 = .ok (.ifCond .ne 5, 3) := by decide +kernel
theorem dX9_stop_9 : decode cX9_stop 9 = .ok (.iconst (-1), 1) := by decide +kernel
theorem dX9_stop_10 : decode cX9_stop 10 = .ok (.ireturn, 1) := by decide +kernel
theorem dX9_stop_11 : decode cX9_stop 11 = .ok (.aload_n 0, 1) := by decide +kernel
theorem dX9_stop_12 : decode cX9_stop 12 = .ok (.getfield 51, 3) := by decide +kernel
theorem dX9_stop_15 : decode cX9_stop 15 = .ok (.getfield 201, 3) := by decide +kernel
theorem dX9_stop_18 : decode cX9_stop 18 = .ok (.bipush 8, 2) := by decide +kernel
theorem dX9_stop_20 : decode cX9_stop 20 = .ok (.if_icmp .le 6, 3) := by decide +kernel
theorem dX9_stop_23 : decode cX9_stop 23 = .ok (.bipush (-2), 2) := by decide +kernel
theorem dX9_stop_25 : decode cX9_stop 25 = .ok (.ireturn, 1) := by decide +kernel
theorem dX9_stop_26 : decode cX9_stop 26 = .ok (.aload_n 0, 1) := by decide +kernel
theorem dX9_stop_27 : decode cX9_stop 27 = .ok (.getfield 37, 3) := by decide +kernel
theorem dX9_stop_30 : decode cX9_stop 30 = .ok (.aload_n 0, 1) := by decide +kernel
theorem dX9_stop_31 : decode cX9_stop 31 = .ok (.getfield 51, 3) := by decide +kernel
theorem dX9_stop_34 : decode cX9_stop 34 = .ok (.iload_n 1, 1) := by decide +kernel
theorem dX9_stop_35 : decode cX9_stop 35 = .ok (.aload_n 0, 1) := by decide +kernel
theorem dX9_stop_36 : decode cX9_stop 36 = .ok (.iload_n 1, 1) := by decide +kernel
theorem dX9_stop_37 : decode cX9_stop 37 = .ok (.invokevirtual 114, 3) := by decide +kernel
theorem dX9_stop_40 : decode cX9_stop 40 = .ok (.iload_n 2, 1) := by decide +kernel
theorem dX9_stop_41 : decode cX9_stop 41 = .ok (.invokevirtual 122, 3) := by decide +kernel
theorem dX9_stop_44 : decode cX9_stop 44 = .ok (.aload_n 0, 1) := by decide +kernel
theorem dX9_stop_45 : decode cX9_stop 45 = .ok (.getfield 37, 3) := by decide +kernel
theorem dX9_stop_48 : decode cX9_stop 48 = .ok (.invokevirtual 204, 3) := by decide +kernel
theorem dX9_stop_51 : decode cX9_stop 51 = .ok (.istore 4, 2) := by decide +kernel
theorem dX9_stop_53 : decode cX9_stop 53 = .ok (.iload 4, 2) := by decide +kernel
theorem dX9_stop_55 : decode cX9_stop 55 = .ok (.ifCond .ge 6, 3) := by decide +kernel
theorem dX9_stop_58 : decode cX9_stop 58 = .ok (.bipush (-9), 2) := by decide +kernel
theorem dX9_stop_60 : decode cX9_stop 60 = .ok (.ireturn, 1) := by decide +kernel
theorem dX9_stop_61 : decode cX9_stop 61 = .ok (.iload_n 3, 1) := by decide +kernel
theorem dX9_stop_62 : decode cX9_stop 62 = .ok (.ifCond .ne 11, 3) := by decide +kernel
theorem dX9_stop_65 : decode cX9_stop 65 = .ok (.iload 4, 2) := by decide +kernel
theorem dX9_stop_67 : decode cX9_stop 67 = .ok (.invokestatic 207, 3) := by decide +kernel
theorem dX9_stop_70 : decode cX9_stop 70 = .ok (.goto 5, 3) := by decide +kernel
theorem dX9_stop_73 : decode cX9_stop 73 = .ok (.iload 4, 2) := by decide +kernel
theorem dX9_stop_75 : decode cX9_stop 75 = .ok (.ireturn, 1) := by decide +kernel
theorem chIwsX9_tooMuch_0 : ∀ w ∈ ([.code yX9_tooMuch cX9_tooMuch 1 (some .int)] : List Cond), w ∈ wsX9_tooMuch := fun _ h => (List.mem_cons.mpr (Or.inl (List.mem_singleton.mp h)))
theorem chIwsX9_tooMuch_1 : ∀ w ∈ (wsX9_tooMuch_r1 : List Cond), w ∈ wsX9_tooMuch := fun _ h => (List.mem_cons_of_mem _ (List.mem_append_left _ (List.mem_append_left _ (List.mem_append_left _ (List.mem_append_left _ (List.mem_append_left _ (List.mem_append_left _ (List.mem_append_left _ h))))))))
theorem chIwsX9_tooMuch_2 : ∀ w ∈ (wsX9_tooMuch_r2 : List Cond), w ∈ wsX9_tooMuch := fun _ h => (List.mem_cons_of_mem _ (List.mem_append_left _ (List.mem_append_left _ (List.mem_append_left _ (List.mem_append_left _ (List.mem_append_left _ (List.mem_append_left _ (List.mem_append_right _ (List.mem_append_left _ h)))))))))
theorem chIwsX9_tooMuch_3 : ∀ w ∈ (wsX9_tooMuch_r3 : List Cond), w ∈ wsX9_tooMuch := fun _ h => (List.mem_cons_of_mem _ (List.mem_append_left _ (List.mem_append_left _ (List.mem_append_left _ (List.mem_append_left _ (List.mem_append_left _ (List.mem_append_left _ (List.mem_append_right _ (List.mem_append_right _ (List.mem_append_left _ h))))))))))
theorem chIwsX9_tooMuch_4 : ∀ w ∈ (wsX9_tooMuch_r4 : List Cond), w ∈ wsX9_tooMuch := fun _ h => (List.mem_cons_of_mem _ (List.mem_append_left _ (List.mem_append_left _ (List.mem_append_left _ (List.mem_append_left _ (List.mem_append_left _ (List.mem_append_left _ (List.mem_append_right _ (List.mem_append_right _ (List.mem_append_right _ (List.mem_append_left _ h)))))))))))
theorem chIwsX9_tooMuch_5 : ∀ w ∈ (wsX9_tooMuch_r5 : List Cond), w ∈ wsX9_tooMuch := fun _ h => (List.mem_cons_of_mem _ (List.mem_append_left _ (List.mem_append_left _ (List.mem_append_left _ (List.mem_append_left _ (List.mem_append_left _ (List.mem_append_left _ (List.mem_append_right _ (List.mem_append_right _ (List.mem_append_right _ (List.mem_append_right _ (List.mem_append_left _ h))))))))))))
theorem chIwsX9_tooMuch_6 : ∀ w ∈ (wsX9_tooMuch_r6 : List Cond), w ∈ wsX9_tooMuch := fun _ h => (List.mem_cons_of_mem _ (List.mem_append_left _ (List.mem_append_left _ (List.mem_append_left _ (List.mem_append_left _ (List.mem_append_left _ (List.mem_append_left _ (List.mem_append_right _ (List.mem_append_right _ (List.mem_append_right _ (List.mem_append_right _ (List.mem_append_right _ h))))))))))))
theorem chIwsX9_tooMuch_7 : ∀ w ∈ (wsX90 : List Cond), w ∈ wsX9_tooMuch := fun _ h => (List.mem_cons_of_mem _ (List.mem_append_left _ (List.mem_append_left _ (List.mem_append_left _ (List.mem_append_left _ (List.mem_append_left _ (List.mem_append_right _ h)))))))
theorem chIwsX9_tooMuch_8 : ∀ w ∈ (wsX40 : List Cond), w ∈ wsX9_tooMuch := fun _ h => (List.mem_cons_of_mem _ (List.mem_append_left _ (List.mem_append_left _ (List.mem_append_left _ (List.mem_append_left _ (List.mem_append_right _ h))))))
theorem chIwsX9_tooMuch_9 : ∀ w ∈ (wsX00 : List Cond), w ∈ wsX9_tooMuch := fun _ h => (List.mem_cons_of_mem _ (List.mem_append_left _ (List.mem_append_left _ (List.mem_append_left _ (List.mem_append_right _ h)))))
theorem chIwsX9_tooMuch_10 : ∀ w ∈ (wsX50 : List Cond), w ∈ wsX9_tooMuch := fun _ h => (List.mem_cons_of_mem _ (List.mem_append_left _ (List.mem_append_left _ (List.mem_append_right _ h))))
theorem chIwsX9_tooMuch_11 : ∀ w ∈ (wsX80 : List Cond), w ∈ wsX9_tooMuch := fun _ h => (List.mem_cons_of_mem _ (List.mem_append_left _ (List.mem_append_right _ h)))
theorem chIwsX9_tooMuch_12 : ∀ w ∈ (wsX20 : List Cond), w ∈ wsX9_tooMuch := fun _ h => (List.mem_cons_of_mem _ (List.mem_append_right _ h))
def chwsX9_tooMuch : Nat → List Cond
  | 0 => [.code yX9_tooMuch cX9_tooMuch 1 (some .int)]
  | 1 => wsX9_tooMuch_r1
  | 2 => wsX9_tooMuch_r2
  | 3 => wsX9_tooMuch_r3
  | 4 => wsX9_tooMuch_r4
  | 5 => wsX9_tooMuch_r5
  | 6 => wsX9_tooMuch_r6
  | 7 => wsX90
  | 8 => wsX40
  | 9 => wsX00
  | 10 => wsX50
  | 11 => wsX80
  | 12 => wsX20
  | _ => []
theorem chwsX9_tooMuch_in : ∀ (j : Nat) (w : Cond), w ∈ chwsX9_tooMuch j → w ∈ wsX9_tooMuch
  | 0, w, h => chIwsX9_tooMuch_0 w h
  | 1, w, h => chIwsX9_tooMuch_1 w h
  | 2, w, h => chIwsX9_tooMuch_2 w h
  | 3, w, h => chIwsX9_tooMuch_3 w h
  | 4, w, h => chIwsX9_tooMuch_4 w h
  | 5, w, h => chIwsX9_tooMuch_5 w h
  | 6, w, h => chIwsX9_tooMuch_6 w h
  | 7, w, h => chIwsX9_tooMuch_7 w h
  | 8, w, h => chIwsX9_tooMuch_8 w h
  | 9, w, h => chIwsX9_tooMuch_9 w h
  | 10, w, h => chIwsX9_tooMuch_10 w h
  | 11, w, h => chIwsX9_tooMuch_11 w h
  | 12, w, h => chIwsX9_tooMuch_12 w h
  | _ + 13, _, h => absurd h List.not_mem_nil
set_option maxRecDepth 20000 in
theorem ggX9_tooMuch_X0_measure : GoodIn wsX9_tooMuch wsX0_measure := goodIn_r2 chwsX9_tooMuch chwsX9_tooMuch_in _ [(1, 7), (1, 8), (1, 9), (1, 10), (1, 11), (1, 12), (1, 13), (1, 14), (1, 15), (1, 6), (1, 16), (8, 0), (8, 1), (8, 2), (8, 3), (8, 4), (8, 5), (9, 0), (9, 1), (9, 2), (10, 0), (10, 1), (10, 2), (10, 3), (10, 4), (10, 5), (10, 6), (10, 7), (10, 8)] rfl (by decide +kernel)
set_option maxRecDepth 20000 in
theorem gX9_tooMuch_X0_measure : GoodIn wsX9_tooMuch (wsV RX9 167 RX0 yX0_measure wsX0_measure) := goodIn_app (goodIn_r2 chwsX9_tooMuch chwsX9_tooMuch_in _ [(1, 3), (1, 4), (1, 5), (1, 6)] rfl (by decide +kernel)) ggX9_tooMuch_X0_measure
set_option maxRecDepth 20000 in
theorem ggX9_tooMuch_X0_countLeaks : GoodIn wsX9_tooMuch wsX0_countLeaks := goodIn_r2 chwsX9_tooMuch chwsX9_tooMuch_in _ [(1, 20), (1, 8), (1, 21), (1, 22), (1, 23), (1, 6), (2, 0), (1, 9), (2, 1), (1, 12), (1, 10), (2, 2), (2, 3), (2, 4), (2, 5), (8, 0), (8, 1), (8, 2), (8, 3), (8, 4), (8, 5), (10, 0), (10, 1), (10, 2), (10, 3), (10, 4), (10, 5), (10, 6), (10, 7), (10, 8), (9, 0), (9, 1), (9, 2)] rfl (by decide +kernel)
set_option maxRecDepth 20000 in
theorem gX9_tooMuch_X0_countLeaks : GoodIn wsX9_tooMuch (wsV RX9 171 RX0 yX0_countLeaks wsX0_countLeaks) := goodIn_app (goodIn_r2 chwsX9_tooMuch chwsX9_tooMuch_in _ [(1, 17), (1, 18), (1, 19), (1, 6)] rfl (by decide +kernel)) ggX9_tooMuch_X0_countLeaks
set_option maxRecDepth 20000 in
theorem ggX9_tooMuch_X9_isSafe : GoodIn wsX9_tooMuch wsX9_isSafe := goodIn_r2 chwsX9_tooMuch chwsX9_tooMuch_in _ [(2, 9), (2, 10), (1, 1), (2, 11), (2, 12), (2, 13), (2, 4), (2, 14), (1, 2), (2, 15), (2, 3), (2, 5), (2, 16), (2, 17), (2, 18), (2, 19), (2, 20), (2, 21), (2, 22), (2, 23), (3, 0), (3, 1), (3, 2), (3, 3), (3, 4), (3, 5), (3, 6), (3, 7), (3, 8), (3, 9), (3, 10), (3, 11), (3, 12), (3, 13), (3, 14), (3, 15), (3, 16), (3, 17), (3, 18), (3, 19), (3, 20), (3, 21), (3, 22), (3, 23), (4, 0), (4, 1), (4, 2), (4, 3), (4, 4), (4, 5), (4, 6), (4, 7), (4, 8), (4, 9), (4, 10), (4, 11), (4, 12), (4, 13), (4, 14), (4, 15), (4, 16), (4, 17), (4, 18), (4, 19), (4, 20), (4, 21), (4, 22), (4, 23), (5, 0), (5, 1), (5, 2), (5, 3), (5, 4), (5, 5), (5, 6), (5, 7), (5, 8), (5, 9), (5, 10), (5, 11), (5, 12), (5, 13), (5, 14), (5, 15), (5, 16), (5, 17), (5, 18), (5, 19), (5, 20), (5, 21), (5, 22), (5, 23), (6, 0), (6, 1), (6, 2), (6, 3), (6, 4), (6, 5), (6, 6), (6, 7), (6, 8), (6, 9), (6, 10), (6, 11), (6, 12), (6, 13), (6, 14), (6, 15), (6, 16), (6, 17), (7, 0), (7, 1), (7, 2), (7, 3), (7, 4), (7, 5), (7, 6), (11, 0), (11, 1), (11, 2), (11, 3), (11, 4), (11, 5), (11, 6), (11, 7), (11, 8), (11, 9), (11, 10), (11, 11), (11, 12), (11, 13), (11, 14), (11, 15), (11, 16), (8, 0), (8, 1), (8, 2), (8, 3), (8, 4), (8, 5), (12, 0), (12, 1), (12, 2), (12, 3), (12, 4), (10, 0), (10, 1), (10, 2), (10, 3), (10, 4), (10, 5), (10, 6), (10, 7), (10, 8)] rfl (by decide +kernel)
set_option maxRecDepth 20000 in
theorem gX9_tooMuch_X9_isSafe : GoodIn wsX9_tooMuch (wsV RX9 145 RX9 yX9_isSafe wsX9_isSafe) := goodIn_app (goodIn_r2 chwsX9_tooMuch chwsX9_tooMuch_in _ [(2, 6), (2, 7), (2, 8), (2, 4)] rfl (by decide +kernel)) ggX9_tooMuch_X9_isSafe
theorem dX9_tooMuch_0 : decode cX9_tooMuch 0 = .ok (.aload_n 0, 1) := by decide +kernel
theorem dX9_tooMuch_1 : decode cX9_tooMuch 1 = .ok (.getfield 44, 3) := by decide +kernel
theorem dX9_tooMuch_4 : decode cX9_tooMuch 4 = .ok (.aload_n 0, 1) := by decide +kernel
theorem dX9_tooMuch_5 : decode cX9_tooMuch 5 = .ok (.getfield 51, 3) := by decide +kernel
theorem dX9_tooMuch_8 : decode cX9_tooMuch 8 = .ok (.aload_n 0, 1) := by decide +kernel
theorem dX9_tooMuch_9 : decode cX9_tooMuch 9 = .ok (.getfield 9, 3) := by decide +kernel
theorem dX9_tooMuch_12 : decode cX9_tooMuch 12 = .ok (.invokevirtual 167, 3) := by decide +kernel
theorem dX9_tooMuch_15 : decode cX9_tooMuch 15 = .ok (.aload_n 0, 1) := by decide +kernel
theorem dX9_tooMuch_16 : decode cX9_tooMuch 16 = .ok (.getfield 44, 3) := by decide +kernel
theorem dX9_tooMuch_19 : decode cX9_tooMuch 19 = .ok (.aload_n 0, 1) := by decide +kernel
theorem dX9_tooMuch_20 : decode cX9_tooMuch 20 = .ok (.getfield 51, 3) := by decide +kernel
theorem dX9_tooMuch_23 : decode cX9_tooMuch 23 = .ok (.aload_n 0, 1) := by decide +kernel
theorem dX9_tooMuch_24 : decode cX9_tooMuch 24 = .ok (.getfield 9, 3) := by decide +kernel
theorem dX9_tooMuch_27 : decode cX9_tooMuch 27 = .ok (.invokevirtual 171, 3) := by decide +kernel
theorem dX9_tooMuch_30 : decode cX9_tooMuch 30 = .ok (.ifCond .ne 5, 3) := by decide +kernel
theorem dX9_tooMuch_33 : decode cX9_tooMuch 33 = .ok (.iconst 0, 1) := by decide +kernel
theorem dX9_tooMuch_34 : decode cX9_tooMuch 34 = .ok (.ireturn, 1) := by decide +kernel
theorem dX9_tooMuch_35 : decode cX9_tooMuch 35 = .ok (.aload_n 0, 1) := by decide +kernel
theorem dX9_tooMuch_36 : decode cX9_tooMuch 36 = .ok (.iconst 0, 1) := by decide +kernel
theorem dX9_tooMuch_37 : decode cX9_tooMuch 37 = .ok (.iconst 0, 1) := by decide +kernel
theorem dX9_tooMuch_38 : decode cX9_tooMuch 38 = .ok (.invokevirtual 145, 3) := by decide +kernel
theorem dX9_tooMuch_41 : decode cX9_tooMuch 41 = .ok (.ifCond .eq 25, 3) := by decide +kernel
theorem dX9_tooMuch_44 : decode cX9_tooMuch 44 = .ok (.aload_n 0, 1) := by decide +kernel
theorem dX9_tooMuch_45 : decode cX9_tooMuch 45 = .ok (.iconst 1, 1) := by decide +kernel
theorem dX9_tooMuch_46 : decode cX9_tooMuch 46 = .ok (.iconst 0, 1) := by decide +kernel
theorem dX9_tooMuch_47 : decode cX9_tooMuch 47 = .ok (.invokevirtual 145, 3) := by decide +kernel
theorem dX9_tooMuch_50 : decode cX9_tooMuch 50 = .ok (.ifCond .eq 16, 3) := by decide +kernel
theorem dX9_tooMuch_53 : decode cX9_tooMuch 53 = .ok (.aload_n 0, 1) := by decide +kernel
theorem dX9_tooMuch_54 : decode cX9_tooMuch 54 = .ok (.iconst 2, 1) := by decide +kernel
theorem dX9_tooMuch_55 : decode cX9_tooMuch 55 = .ok (.iconst 0, 1) := by decide +kernel
theorem dX9_tooMuch_56 : decode cX9_tooMuch 56 = .ok (.invokevirtual 145, 3) := by decide +kernel
theorem dX9_tooMuch_59 : decode cX9_tooMuch 59 = .ok (.ifCond .eq 7, 3) := by decide +kernel
theorem dX9_tooMuch_62 : decode cX9_tooMuch 62 = .ok (.iconst 1, 1) := by decide +kernel
theorem dX9_tooMuch_63 : decode cX9_tooMuch 63 = .ok (.goto 4, 3) := by decide +kernel
theorem dX9_tooMuch_66 : decode cX9_tooMuch 66 = .ok (.iconst 0, 1) := by decide +kernel
theorem dX9_tooMuch_67 : decode cX9_tooMuch 67 = .ok (.ireturn, 1) := by decide +kernel
set_option maxRecDepth 20000 in
theorem ggX9_count_X9_countCells : GoodIn wsX9_count wsX9_countCells := goodIn_r _ [10, 11, 12, 13, 14, 15, 16, 17, 18] rfl (by decide +kernel)
set_option maxRecDepth 20000 in
theorem gX9_count_X9_countCells : GoodIn wsX9_count (wsV RX9 212 RX9 yX9_countCells wsX9_countCells) := goodIn_app (goodIn_r _ [6, 7, 8, 9] rfl (by decide +kernel)) ggX9_count_X9_countCells
theorem dX9_count_0 : decode cX9_count 0 = .ok (.iload_n 1, 1) := by decide +kernel
theorem dX9_count_1 : decode cX9_count 1 = .ok (.tableswitch 51 0 2 #[27, 35, 43], 27) := by decide +kernel
theorem dX9_count_28 : decode cX9_count 28 = .ok (.aload_n 0, 1) := by decide +kernel
theorem dX9_count_29 : decode cX9_count 29 = .ok (.getfield 51, 3) := by decide +kernel
theorem dX9_count_32 : decode cX9_count 32 = .ok (.getfield 81, 3) := by decide +kernel
theorem dX9_count_35 : decode cX9_count 35 = .ok (.ireturn, 1) := by decide +kernel
theorem dX9_count_36 : decode cX9_count 36 = .ok (.aload_n 0, 1) := by decide +kernel
theorem dX9_count_37 : decode cX9_count 37 = .ok (.getfield 51, 3) := by decide +kernel
theorem dX9_count_40 : decode cX9_count 40 = .ok (.getfield 201, 3) := by decide +kernel
theorem dX9_count_43 : decode cX9_count 43 = .ok (.ireturn, 1) := by decide +kernel
theorem dX9_count_44 : decode cX9_count 44 = .ok (.aload_n 0, 1) := by decide +kernel
theorem dX9_count_45 : decode cX9_count 45 = .ok (.getfield 16, 3) := by decide +kernel
theorem dX9_count_48 : decode cX9_count 48 = .ok (.getfield 62, 3) := by decide +kernel
theorem dX9_count_51 : decode cX9_count 51 = .ok (.ireturn, 1) := by decide +kernel
theorem dX9_count_52 : decode cX9_count 52 = .ok (.iload_n 1, 1) := by decide +kernel
theorem dX9_count_53 : decode cX9_count 53 = .ok (.iconst 3, 1) := by decide +kernel
theorem dX9_count_54 : decode cX9_count 54 = .ok (.if_icmp .lt 19, 3) := by decide +kernel
theorem dX9_count_57 : decode cX9_count 57 = .ok (.iload_n 1, 1) := by decide +kernel
theorem dX9_count_58 : decode cX9_count 58 = .ok (.bipush 6, 2) := by decide +kernel
theorem dX9_count_60 : decode cX9_count 60 = .ok (.if_icmp .gt 13, 3) := by decide +kernel
theorem dX9_count_63 : decode cX9_count 63 = .ok (.aload_n 0, 1) := by decide +kernel
theorem dX9_count_64 : decode cX9_count 64 = .ok (.iload_n 1, 1) := by decide +kernel
theorem dX9_count_65 : decode cX9_count 65 = .ok (.iconst 3, 1) := by decide +kernel
theorem dX9_count_66 : decode cX9_count 66 = .ok (.isub, 1) := by decide +kernel
theorem dX9_count_67 : decode cX9_count 67 = .ok (.invokevirtual 212, 3) := by decide +kernel
theorem dX9_count_70 : decode cX9_count 70 = .ok (.goto 4, 3) := by decide +kernel
theorem dX9_count_73 : decode cX9_count 73 = .ok (.iconst (-1), 1) := by decide +kernel
theorem dX9_count_74 : decode cX9_count 74 = .ok (.ireturn, 1) := by decide +kernel
theorem dX9_isCell_0 : decode cX9_isCell 0 = .ok (.iload_n 0, 1) := by decide +kernel
theorem dX9_isCell_1 : decode cX9_isCell 1 = .ok (.ifCond .lt 13, 3) := by decide +kernel
theorem dX9_isCell_4 : decode cX9_isCell 4 = .ok (.iload_n 0, 1) := by decide +kernel
theorem dX9_isCell_5 : decode cX9_isCell 5 = .ok (.bipush 6, 2) := by decide +kernel
theorem dX9_isCell_7 : decode cX9_isCell 7 = .ok (.if_icmp .ge 7, 3) := by decide +kernel
theorem dX9_isCell_10 : decode cX9_isCell 10 = .ok (.iconst 1, 1) := by decide +kernel
theorem dX9_isCell_11 : decode cX9_isCell 11 = .ok (.goto 4, 3) := by decide +kernel
theorem dX9_isCell_14 : decode cX9_isCell 14 = .ok (.iconst 0, 1) := by decide +kernel
theorem dX9_isCell_15 : decode cX9_isCell 15 = .ok (.ireturn, 1) := by decide +kernel
theorem dX9_isLevel_0 : decode cX9_isLevel 0 = .ok (.iload_n 0, 1) := by decide +kernel
theorem dX9_isLevel_1 : decode cX9_isLevel 1 = .ok (.ifCond .lt 12, 3) := by decide +kernel
theorem dX9_isLevel_4 : decode cX9_isLevel 4 = .ok (.iload_n 0, 1) := by decide +kernel
theorem dX9_isLevel_5 : decode cX9_isLevel 5 = .ok (.iconst 3, 1) := by decide +kernel
theorem dX9_isLevel_6 : decode cX9_isLevel 6 = .ok (.if_icmp .gt 7, 3) := by decide +kernel
theorem dX9_isLevel_9 : decode cX9_isLevel 9 = .ok (.iconst 1, 1) := by decide +kernel
theorem dX9_isLevel_10 : decode cX9_isLevel 10 = .ok (.goto 4, 3) := by decide +kernel
theorem dX9_isLevel_13 : decode cX9_isLevel 13 = .ok (.iconst 0, 1) := by decide +kernel
theorem dX9_isLevel_14 : decode cX9_isLevel 14 = .ok (.ireturn, 1) := by decide +kernel
theorem dX9_isFlag_0 : decode cX9_isFlag 0 = .ok (.iload_n 0, 1) := by decide +kernel
theorem dX9_isFlag_1 : decode cX9_isFlag 1 = .ok (.ifCond .eq 8, 3) := by decide +kernel
theorem dX9_isFlag_4 : decode cX9_isFlag 4 = .ok (.iload_n 0, 1) := by decide +kernel
theorem dX9_isFlag_5 : decode cX9_isFlag 5 = .ok (.iconst 1, 1) := by decide +kernel
theorem dX9_isFlag_6 : decode cX9_isFlag 6 = .ok (.if_icmp .ne 7, 3) := by decide +kernel
theorem dX9_isFlag_9 : decode cX9_isFlag 9 = .ok (.iconst 1, 1) := by decide +kernel
theorem dX9_isFlag_10 : decode cX9_isFlag 10 = .ok (.goto 4, 3) := by decide +kernel
theorem dX9_isFlag_13 : decode cX9_isFlag 13 = .ok (.iconst 0, 1) := by decide +kernel
theorem dX9_isFlag_14 : decode cX9_isFlag 14 = .ok (.ireturn, 1) := by decide +kernel
set_option maxRecDepth 20000 in
theorem ggX9_isWatched_X9_isLevel : GoodIn wsX9_isWatched wsX9_isLevel := goodIn_r _ [4] rfl (by decide +kernel)
set_option maxRecDepth 20000 in
theorem gX9_isWatched_X9_isLevel : GoodIn wsX9_isWatched (va_wsS RX9 59 yX9_isLevel wsX9_isLevel) := goodIn_app (goodIn_r _ [1, 2, 3] rfl (by decide +kernel)) ggX9_isWatched_X9_isLevel
set_option maxRecDepth 20000 in
theorem ggX9_isWatched_X9_isFlag : GoodIn wsX9_isWatched wsX9_isFlag := goodIn_r _ [7] rfl (by decide +kernel)
set_option maxRecDepth 20000 in
theorem gX9_isWatched_X9_isFlag : GoodIn wsX9_isWatched (va_wsS RX9 101 yX9_isFlag wsX9_isFlag) := goodIn_app (goodIn_r _ [5, 6, 3] rfl (by decide +kernel)) ggX9_isWatched_X9_isFlag
theorem dX9_isWatched_0 : decode cX9_isWatched 0 = .ok (.iload_n 0, 1) := by decide +kernel
theorem dX9_isWatched_1 : decode cX9_isWatched 1 = .ok (.invokestatic 59, 3) := by decide +kernel
theorem dX9_isWatched_4 : decode cX9_isWatched 4 = .ok (.ifCond .eq 21, 3) := by decide +kernel
theorem dX9_isWatched_7 : decode cX9_isWatched 7 = .ok (.iload_n 1, 1) := by decide +kernel
theorem dX9_isWatched_8 : decode cX9_isWatched 8 = .ok (.invokestatic 101, 3) := by decide +kernel
theorem dX9_isWatched_11 : decode cX9_isWatched 11 = .ok (.ifCond .eq 14, 3) := by decide +kernel
theorem dX9_isWatched_14 : decode cX9_isWatched 14 = .ok (.iload_n 2, 1) := by decide +kernel
theorem dX9_isWatched_15 : decode cX9_isWatched 15 = .ok (.invokestatic 101, 3) := by decide +kernel
theorem dX9_isWatched_18 : decode cX9_isWatched 18 = .ok (.ifCond .eq 7, 3) := by decide +kernel
theorem dX9_isWatched_21 : decode cX9_isWatched 21 = .ok (.iconst 1, 1) := by decide +kernel
theorem dX9_isWatched_22 : decode cX9_isWatched 22 = .ok (.goto 4, 3) := by decide +kernel
theorem dX9_isWatched_25 : decode cX9_isWatched 25 = .ok (.iconst 0, 1) := by decide +kernel
theorem dX9_isWatched_26 : decode cX9_isWatched 26 = .ok (.ireturn, 1) := by decide +kernel
set_option maxRecDepth 20000 in
theorem ggX9_isPacked_X9_numbersOf : GoodIn wsX9_isPacked wsX9_numbersOf := goodIn_r _ [4, 5, 6, 7, 8, 9, 10, 11] rfl (by decide +kernel)
set_option maxRecDepth 20000 in
theorem gX9_isPacked_X9_numbersOf : GoodIn wsX9_isPacked (va_wsS RX9 215 yX9_numbersOf wsX9_numbersOf) := goodIn_app (goodIn_r _ [1, 2, 3] rfl (by decide +kernel)) ggX9_isPacked_X9_numbersOf
theorem dX9_isPacked_0 : decode cX9_isPacked 0 = .ok (.iload_n 0, 1) := by decide +kernel
theorem dX9_isPacked_1 : decode cX9_isPacked 1 = .ok (.ifCond .lt 15, 3) := by decide +kernel
theorem dX9_isPacked_4 : decode cX9_isPacked 4 = .ok (.iload_n 0, 1) := by decide +kernel
theorem dX9_isPacked_5 : decode cX9_isPacked 5 = .ok (.iload_n 1, 1) := by decide +kernel
theorem dX9_isPacked_6 : decode cX9_isPacked 6 = .ok (.invokestatic 215, 3) := by decide +kernel
theorem dX9_isPacked_9 : decode cX9_isPacked 9 = .ok (.if_icmp .ge 7, 3) := by decide +kernel
theorem dX9_isPacked_12 : decode cX9_isPacked 12 = .ok (.iconst 1, 1) := by decide +kernel
theorem dX9_isPacked_13 : decode cX9_isPacked 13 = .ok (.goto 4, 3) := by decide +kernel
theorem dX9_isPacked_16 : decode cX9_isPacked 16 = .ok (.iconst 0, 1) := by decide +kernel
theorem dX9_isPacked_17 : decode cX9_isPacked 17 = .ok (.ireturn, 1) := by decide +kernel
theorem dX9_isWithin_0 : decode cX9_isWithin 0 = .ok (.iload_n 0, 1) := by decide +kernel
theorem dX9_isWithin_1 : decode cX9_isWithin 1 = .ok (.iload_n 1, 1) := by decide +kernel
theorem dX9_isWithin_2 : decode cX9_isWithin 2 = .ok (.iconst (-1), 1) := by decide +kernel
theorem dX9_isWithin_3 : decode cX9_isWithin 3 = .ok (.ixor, 1) := by decide +kernel
theorem dX9_isWithin_4 : decode cX9_isWithin 4 = .ok (.iand, 1) := by decide +kernel
theorem dX9_isWithin_5 : decode cX9_isWithin 5 = .ok (.ifCond .ne 7, 3) := by decide +kernel
theorem dX9_isWithin_8 : decode cX9_isWithin 8 = .ok (.iconst 1, 1) := by decide +kernel
theorem dX9_isWithin_9 : decode cX9_isWithin 9 = .ok (.goto 4, 3) := by decide +kernel
theorem dX9_isWithin_12 : decode cX9_isWithin 12 = .ok (.iconst 0, 1) := by decide +kernel
theorem dX9_isWithin_13 : decode cX9_isWithin 13 = .ok (.ireturn, 1) := by decide +kernel
theorem chIwsX9_isSafe_0 : ∀ w ∈ ([.code yX9_isSafe cX9_isSafe 3 (some .boolean)] : List Cond), w ∈ wsX9_isSafe := fun _ h => (List.mem_cons.mpr (Or.inl (List.mem_singleton.mp h)))
theorem chIwsX9_isSafe_1 : ∀ w ∈ (wsX9_isSafe_r1 : List Cond), w ∈ wsX9_isSafe := fun _ h => (List.mem_cons_of_mem _ (List.mem_append_left _ (List.mem_append_left _ (List.mem_append_left _ (List.mem_append_left _ (List.mem_append_left _ (List.mem_append_left _ h)))))))
theorem chIwsX9_isSafe_2 : ∀ w ∈ (wsX9_isSafe_r2 : List Cond), w ∈ wsX9_isSafe := fun _ h => (List.mem_cons_of_mem _ (List.mem_append_left _ (List.mem_append_left _ (List.mem_append_left _ (List.mem_append_left _ (List.mem_append_left _ (List.mem_append_right _ (List.mem_append_left _ h))))))))
theorem chIwsX9_isSafe_3 : ∀ w ∈ (wsX9_isSafe_r3 : List Cond), w ∈ wsX9_isSafe := fun _ h => (List.mem_cons_of_mem _ (List.mem_append_left _ (List.mem_append_left _ (List.mem_append_left _ (List.mem_append_left _ (List.mem_append_left _ (List.mem_append_right _ (List.mem_append_right _ (List.mem_append_left _ h)))))))))
theorem chIwsX9_isSafe_4 : ∀ w ∈ (wsX9_isSafe_r4 : List Cond), w ∈ wsX9_isSafe := fun _ h => (List.mem_cons_of_mem _ (List.mem_append_left _ (List.mem_append_left _ (List.mem_append_left _ (List.mem_append_left _ (List.mem_append_left _ (List.mem_append_right _ (List.mem_append_right _ (List.mem_append_right _ (List.mem_append_left _ h))))))))))
theorem chIwsX9_isSafe_5 : ∀ w ∈ (wsX9_isSafe_r5 : List Cond), w ∈ wsX9_isSafe := fun _ h => (List.mem_cons_of_mem _ (List.mem_append_left _ (List.mem_append_left _ (List.mem_append_left _ (List.mem_append_left _ (List.mem_append_left _ (List.mem_append_right _ (List.mem_append_right _ (List.mem_append_right _ (List.mem_append_right _ h))))))))))
theorem chIwsX9_isSafe_6 : ∀ w ∈ (wsX90 : List Cond), w ∈ wsX9_isSafe := fun _ h => (List.mem_cons_of_mem _ (List.mem_append_left _ (List.mem_append_left _ (List.mem_append_left _ (List.mem_append_left _ (List.mem_append_right _ h))))))
theorem chIwsX9_isSafe_7 : ∀ w ∈ (wsX80 : List Cond), w ∈ wsX9_isSafe := fun _ h => (List.mem_cons_of_mem _ (List.mem_append_left _ (List.mem_append_left _ (List.mem_append_left _ (List.mem_append_right _ h)))))
theorem chIwsX9_isSafe_8 : ∀ w ∈ (wsX40 : List Cond), w ∈ wsX9_isSafe := fun _ h => (List.mem_cons_of_mem _ (List.mem_append_left _ (List.mem_append_left _ (List.mem_append_right _ h))))
theorem chIwsX9_isSafe_9 : ∀ w ∈ (wsX20 : List Cond), w ∈ wsX9_isSafe := fun _ h => (List.mem_cons_of_mem _ (List.mem_append_left _ (List.mem_append_right _ h)))
theorem chIwsX9_isSafe_10 : ∀ w ∈ (wsX50 : List Cond), w ∈ wsX9_isSafe := fun _ h => (List.mem_cons_of_mem _ (List.mem_append_right _ h))
def chwsX9_isSafe : Nat → List Cond
  | 0 => [.code yX9_isSafe cX9_isSafe 3 (some .boolean)]
  | 1 => wsX9_isSafe_r1
  | 2 => wsX9_isSafe_r2
  | 3 => wsX9_isSafe_r3
  | 4 => wsX9_isSafe_r4
  | 5 => wsX9_isSafe_r5
  | 6 => wsX90
  | 7 => wsX80
  | 8 => wsX40
  | 9 => wsX20
  | 10 => wsX50
  | _ => []
theorem chwsX9_isSafe_in : ∀ (j : Nat) (w : Cond), w ∈ chwsX9_isSafe j → w ∈ wsX9_isSafe
  | 0, w, h => chIwsX9_isSafe_0 w h
  | 1, w, h => chIwsX9_isSafe_1 w h
  | 2, w, h => chIwsX9_isSafe_2 w h
  | 3, w, h => chIwsX9_isSafe_3 w h
  | 4, w, h => chIwsX9_isSafe_4 w h
  | 5, w, h => chIwsX9_isSafe_5 w h
  | 6, w, h => chIwsX9_isSafe_6 w h
  | 7, w, h => chIwsX9_isSafe_7 w h
  | 8, w, h => chIwsX9_isSafe_8 w h
  | 9, w, h => chIwsX9_isSafe_9 w h
  | 10, w, h => chIwsX9_isSafe_10 w h
  | _ + 11, _, h => absurd h List.not_mem_nil
set_option maxRecDepth 20000 in
theorem ggX9_isSafe_X9_cellsWithin : GoodIn wsX9_isSafe wsX9_cellsWithin := goodIn_r2 chwsX9_isSafe chwsX9_isSafe_in _ [(1, 6), (1, 7), (1, 8), (1, 9), (1, 5), (1, 10), (6, 0), (6, 1), (6, 2), (6, 3), (6, 4), (6, 5), (6, 6)] rfl (by decide +kernel)
set_option maxRecDepth 20000 in
theorem gX9_isSafe_X9_cellsWithin : GoodIn wsX9_isSafe (wsV RX9 114 RX9 yX9_cellsWithin wsX9_cellsWithin) := goodIn_app (goodIn_r2 chwsX9_isSafe chwsX9_isSafe_in _ [(1, 2), (1, 3), (1, 4), (1, 5)] rfl (by decide +kernel)) ggX9_isSafe_X9_cellsWithin
set_option maxRecDepth 20000 in
theorem ggX9_isSafe_X8_aim : GoodIn wsX9_isSafe wsX8_aim := goodIn_r2 chwsX9_isSafe chwsX9_isSafe_in _ [(1, 15), (1, 16), (1, 17), (1, 18), (1, 19), (1, 20), (1, 21), (1, 22), (1, 23), (1, 14), (2, 0), (2, 1), (7, 0), (7, 1), (7, 2), (7, 3), (7, 4), (7, 5), (7, 6), (7, 7), (7, 8), (7, 9), (7, 10), (7, 11), (7, 12), (7, 13), (7, 14), (7, 15), (7, 16)] rfl (by decide +kernel)
set_option maxRecDepth 20000 in
theorem gX9_isSafe_X8_aim : GoodIn wsX9_isSafe (wsV RX9 122 RX8 yX8_aim wsX8_aim) := goodIn_app (goodIn_r2 chwsX9_isSafe chwsX9_isSafe_in _ [(1, 11), (1, 12), (1, 13), (1, 14)] rfl (by decide +kernel)) ggX9_isSafe_X8_aim
set_option maxRecDepth 20000 in
theorem ggX9_isSafe_X8_findPair : GoodIn wsX9_isSafe wsX8_findPair := goodIn_r2 chwsX9_isSafe chwsX9_isSafe_in _ [(2, 5), (1, 18), (1, 16), (2, 6), (1, 19), (2, 7), (1, 17), (1, 21), (2, 8), (2, 9), (1, 5), (2, 10), (2, 11), (2, 12), (2, 13), (2, 14), (2, 15), (2, 16), (2, 17), (2, 18), (2, 19), (2, 20), (1, 14), (2, 21), (2, 22), (2, 23), (3, 0), (3, 1), (3, 2), (3, 3), (3, 4), (3, 5), (3, 6), (3, 7), (3, 8), (3, 9), (3, 10), (3, 11), (3, 12), (3, 13), (3, 14), (3, 15), (3, 16), (3, 17), (3, 18), (3, 19), (3, 20), (3, 21), (3, 22), (3, 23), (4, 0), (4, 1), (4, 2), (4, 3), (4, 4), (4, 5), (4, 6), (4, 7), (4, 8), (4, 9), (4, 10), (4, 11), (4, 12), (4, 13), (4, 14), (4, 15), (4, 16), (4, 17), (4, 18), (4, 19), (4, 20), (4, 21), (4, 22), (4, 23), (5, 0), (5, 1), (5, 2), (5, 3), (5, 4), (5, 5), (5, 6), (5, 7), (5, 8), (5, 9), (5, 10), (1, 9), (1, 10), (5, 11), (5, 12), (7, 0), (7, 1), (7, 2), (7, 3), (7, 4), (7, 5), (7, 6), (7, 7), (7, 8), (7, 9), (7, 10), (7, 11), (7, 12), (7, 13), (7, 14), (7, 15), (7, 16), (8, 0), (8, 1), (8, 2), (8, 3), (8, 4), (8, 5), (9, 0), (9, 1), (9, 2), (9, 3), (9, 4), (10, 0), (10, 1), (10, 2), (10, 3), (10, 4), (10, 5), (10, 6), (10, 7), (10, 8)] rfl (by decide +kernel)
set_option maxRecDepth 20000 in
theorem gX9_isSafe_X8_findPair : GoodIn wsX9_isSafe (wsV RX9 218 RX8 yX8_findPair wsX8_findPair) := goodIn_app (goodIn_r2 chwsX9_isSafe chwsX9_isSafe_in _ [(2, 2), (2, 3), (2, 4), (1, 14)] rfl (by decide +kernel)) ggX9_isSafe_X8_findPair
theorem dX9_isSafe_0 : decode cX9_isSafe 0 = .ok (.aload_n 0, 1) := by decide +kernel
theorem dX9_isSafe_1 : decode cX9_isSafe 1 = .ok (.getfield 37, 3) := by decide +kernel
theorem dX9_isSafe_4 : decode cX9_isSafe 4 = .ok (.aload_n 0, 1) := by decide +kernel
theorem dX9_isSafe_5 : decode cX9_isSafe 5 = .ok (.getfield 51, 3) := by decide +kernel
theorem dX9_isSafe_8 : decode cX9_isSafe 8 = .ok (.iload_n 1, 1) := by decide +kernel
theorem dX9_isSafe_9 : decode cX9_isSafe 9 = .ok (.aload_n 0, 1) := by decide +kernel
theorem dX9_isSafe_10 : decode cX9_isSafe 10 = .ok (.iload_n 1, 1) := by decide +kernel
theorem dX9_isSafe_11 : decode cX9_isSafe 11 = .ok (.invokevirtual 114, 3) := by decide +kernel
theorem dX9_isSafe_14 : decode cX9_isSafe 14 = .ok (.iload_n 2, 1) := by decide +kernel
theorem dX9_isSafe_15 : decode cX9_isSafe 15 = .ok (.invokevirtual 122, 3) := by decide +kernel
theorem dX9_isSafe_18 : decode cX9_isSafe 18 = .ok (.aload_n 0, 1) := by decide +kernel
theorem dX9_isSafe_19 : decode cX9_isSafe 19 = .ok (.getfield 37, 3) := by decide +kernel
theorem dX9_isSafe_22 : decode cX9_isSafe 22 = .ok (.iconst 0, 1) := by decide +kernel
theorem dX9_isSafe_23 : decode cX9_isSafe 23 = .ok (.invokevirtual 218, 3) := by decide +kernel
theorem dX9_isSafe_26 : decode cX9_isSafe 26 = .ok (.ifCond .ne 7, 3) := by decide +kernel
theorem dX9_isSafe_29 : decode cX9_isSafe 29 = .ok (.iconst 1, 1) := by decide +kernel
theorem dX9_isSafe_30 : decode cX9_isSafe 30 = .ok (.goto 4, 3) := by decide +kernel
theorem dX9_isSafe_33 : decode cX9_isSafe 33 = .ok (.iconst 0, 1) := by decide +kernel
theorem dX9_isSafe_34 : decode cX9_isSafe 34 = .ok (.ireturn, 1) := by decide +kernel
set_option maxRecDepth 20000 in
theorem ggX9_cellsWithin_X9_isWithin : GoodIn wsX9_cellsWithin wsX9_isWithin := goodIn_r _ [5] rfl (by decide +kernel)
set_option maxRecDepth 20000 in
theorem gX9_cellsWithin_X9_isWithin : GoodIn wsX9_cellsWithin (va_wsS RX9 221 yX9_isWithin wsX9_isWithin) := goodIn_app (goodIn_r _ [2, 3, 4] rfl (by decide +kernel)) ggX9_cellsWithin_X9_isWithin
theorem dX9_cellsWithin_0 : decode cX9_cellsWithin 0 = .ok (.iconst 0, 1) := by decide +kernel
theorem dX9_cellsWithin_1 : decode cX9_cellsWithin 1 = .ok (.istore_n 2, 1) := by decide +kernel
theorem dX9_cellsWithin_2 : decode cX9_cellsWithin 2 = .ok (.iconst 0, 1) := by decide +kernel
theorem dX9_cellsWithin_3 : decode cX9_cellsWithin 3 = .ok (.istore_n 3, 1) := by decide +kernel
theorem dX9_cellsWithin_4 : decode cX9_cellsWithin 4 = .ok (.iload_n 3, 1) := by decide +kernel
theorem dX9_cellsWithin_5 : decode cX9_cellsWithin 5 = .ok (.bipush 6, 2) := by decide +kernel
theorem dX9_cellsWithin_7 : decode cX9_cellsWithin 7 = .ok (.if_icmp .ge 30, 3) := by decide +kernel
theorem dX9_cellsWithin_10 : decode cX9_cellsWithin 10 = .ok (.aload_n 0, 1) := by decide +kernel
theorem dX9_cellsWithin_11 : decode cX9_cellsWithin 11 = .ok (.getfield 9, 3) := by decide +kernel
theorem dX9_cellsWithin_14 : decode cX9_cellsWithin 14 = .ok (.iload_n 3, 1) := by decide +kernel
theorem dX9_cellsWithin_15 : decode cX9_cellsWithin 15 = .ok (.iaload, 1) := by decide +kernel
theorem dX9_cellsWithin_16 : decode cX9_cellsWithin 16 = .ok (.iload_n 1, 1) := by decide +kernel
theorem dX9_cellsWithin_17 : decode cX9_cellsWithin 17 = .ok (.invokestatic 221, 3) := by decide +kernel
theorem dX9_cellsWithin_20 : decode cX9_cellsWithin 20 = .ok (.ifCond .eq 11, 3) := by decide +kernel
theorem dX9_cellsWithin_23 : decode cX9_cellsWithin 23 = .ok (.iload_n 2, 1) := by decide +kernel
theorem dX9_cellsWithin_24 : decode cX9_cellsWithin 24 = .ok (.iconst 3, 1) := by decide +kernel
theorem dX9_cellsWithin_25 : decode cX9_cellsWithin 25 = .ok (.iconst 2, 1) := by decide +kernel
theorem dX9_cellsWithin_26 : decode cX9_cellsWithin 26 = .ok (.iload_n 3, 1) := by decide +kernel
theorem dX9_cellsWithin_27 : decode cX9_cellsWithin 27 = .ok (.imul, 1) := by decide +kernel
theorem dX9_cellsWithin_28 : decode cX9_cellsWithin 28 = .ok (.ishl, 1) := by decide +kernel
theorem dX9_cellsWithin_29 : decode cX9_cellsWithin 29 = .ok (.ior, 1) := by decide +kernel
theorem dX9_cellsWithin_30 : decode cX9_cellsWithin 30 = .ok (.istore_n 2, 1) := by decide +kernel
theorem dX9_cellsWithin_31 : decode cX9_cellsWithin 31 = .ok (.iinc 3 1, 3) := by decide +kernel
theorem dX9_cellsWithin_34 : decode cX9_cellsWithin 34 = .ok (.goto (-30), 3) := by decide +kernel
theorem dX9_cellsWithin_37 : decode cX9_cellsWithin 37 = .ok (.iload_n 2, 1) := by decide +kernel
theorem dX9_cellsWithin_38 : decode cX9_cellsWithin 38 = .ok (.ireturn, 1) := by decide +kernel
theorem dX9_countCells_0 : decode cX9_countCells 0 = .ok (.iconst 0, 1) := by decide +kernel
theorem dX9_countCells_1 : decode cX9_countCells 1 = .ok (.istore_n 2, 1) := by decide +kernel
theorem dX9_countCells_2 : decode cX9_countCells 2 = .ok (.iconst 0, 1) := by decide +kernel
theorem dX9_countCells_3 : decode cX9_countCells 3 = .ok (.istore_n 3, 1) := by decide +kernel
theorem dX9_countCells_4 : decode cX9_countCells 4 = .ok (.iload_n 3, 1) := by decide +kernel
theorem dX9_countCells_5 : decode cX9_countCells 5 = .ok (.bipush 6, 2) := by decide +kernel
theorem dX9_countCells_7 : decode cX9_countCells 7 = .ok (.if_icmp .ge 22, 3) := by decide +kernel
theorem dX9_countCells_10 : decode cX9_countCells 10 = .ok (.aload_n 0, 1) := by decide +kernel
theorem dX9_countCells_11 : decode cX9_countCells 11 = .ok (.getfield 9, 3) := by decide +kernel
theorem dX9_countCells_14 : decode cX9_countCells 14 = .ok (.iload_n 3, 1) := by decide +kernel
theorem dX9_countCells_15 : decode cX9_countCells 15 = .ok (.iaload, 1) := by decide +kernel
theorem dX9_countCells_16 : decode cX9_countCells 16 = .ok (.iload_n 1, 1) := by decide +kernel
theorem dX9_countCells_17 : decode cX9_countCells 17 = .ok (.if_icmp .ne 6, 3) := by decide +kernel
theorem dX9_countCells_20 : decode cX9_countCells 20 = .ok (.iinc 2 1, 3) := by decide +kernel
theorem dX9_countCells_23 : decode cX9_countCells 23 = .ok (.iinc 3 1, 3) := by decide +kernel
theorem dX9_countCells_26 : decode cX9_countCells 26 = .ok (.goto (-22), 3) := by decide +kernel
theorem dX9_countCells_29 : decode cX9_countCells 29 = .ok (.iload_n 2, 1) := by decide +kernel
theorem dX9_countCells_30 : decode cX9_countCells 30 = .ok (.ireturn, 1) := by decide +kernel
set_option maxRecDepth 20000 in
theorem ggX9_numbersOf_J6_bitCount_0f7a4 : GoodIn wsX9_numbersOf wsJ6_bitCount_0f7a4 := goodIn_r _ [4, 5, 6, 7] rfl (by decide +kernel)
set_option maxRecDepth 20000 in
theorem gX9_numbersOf_J6_bitCount_0f7a4 : GoodIn wsX9_numbersOf (va_wsS RX9 207 yJ6_bitCount_0f7a4 wsJ6_bitCount_0f7a4) := goodIn_app (goodIn_r _ [1, 2, 3] rfl (by decide +kernel)) ggX9_numbersOf_J6_bitCount_0f7a4
theorem dX9_numbersOf_0 : decode cX9_numbersOf 0 = .ok (.iconst 1, 1) := by decide +kernel
theorem dX9_numbersOf_1 : decode cX9_numbersOf 1 = .ok (.iload_n 0, 1) := by decide +kernel
theorem dX9_numbersOf_2 : decode cX9_numbersOf 2 = .ok (.invokestatic 207, 3) := by decide +kernel
theorem dX9_numbersOf_5 : decode cX9_numbersOf 5 = .ok (.ishl, 1) := by decide +kernel
theorem dX9_numbersOf_6 : decode cX9_numbersOf 6 = .ok (.ireturn, 1) := by decide +kernel
theorem dX9_spread_0 : decode cX9_spread 0 = .ok (.iconst 0, 1) := by decide +kernel
theorem dX9_spread_1 : decode cX9_spread 1 = .ok (.istore_n 2, 1) := by decide +kernel
theorem dX9_spread_2 : decode cX9_spread 2 = .ok (.iload_n 0, 1) := by decide +kernel
theorem dX9_spread_3 : decode cX9_spread 3 = .ok (.istore_n 3, 1) := by decide +kernel
theorem dX9_spread_4 : decode cX9_spread 4 = .ok (.iconst 0, 1) := by decide +kernel
theorem dX9_spread_5 : decode cX9_spread 5 = .ok (.istore 4, 2) := by decide +kernel
theorem dX9_spread_7 : decode cX9_spread 7 = .ok (.iload 4, 2) := by decide +kernel
theorem dX9_spread_9 : decode cX9_spread 9 = .ok (.bipush 12, 2) := by decide +kernel
theorem dX9_spread_11 : decode cX9_spread 11 = .ok (.if_icmp .ge 31, 3) := by decide +kernel
theorem dX9_spread_14 : decode cX9_spread 14 = .ok (.iload_n 1, 1) := by decide +kernel
theorem dX9_spread_15 : decode cX9_spread 15 = .ok (.iload 4, 2) := by decide +kernel
theorem dX9_spread_17 : decode cX9_spread 17 = .ok (.iushr, 1) := by decide +kernel
theorem dX9_spread_18 : decode cX9_spread 18 = .ok (.iconst 1, 1) := by decide +kernel
theorem dX9_spread_19 : decode cX9_spread 19 = .ok (.iand, 1) := by decide +kernel
theorem dX9_spread_20 : decode cX9_spread 20 = .ok (.ifCond .eq 16, 3) := by decide +kernel
theorem dX9_spread_23 : decode cX9_spread 23 = .ok (.iload_n 2, 1) := by decide +kernel
theorem dX9_spread_24 : decode cX9_spread 24 = .ok (.iload_n 3, 1) := by decide +kernel
theorem dX9_spread_25 : decode cX9_spread 25 = .ok (.iconst 3, 1) := by decide +kernel
theorem dX9_spread_26 : decode cX9_spread 26 = .ok (.iand, 1) := by decide +kernel
theorem dX9_spread_27 : decode cX9_spread 27 = .ok (.iload 4, 2) := by decide +kernel
theorem dX9_spread_29 : decode cX9_spread 29 = .ok (.ishl, 1) := by decide +kernel
theorem dX9_spread_30 : decode cX9_spread 30 = .ok (.ior, 1) := by decide +kernel
theorem dX9_spread_31 : decode cX9_spread 31 = .ok (.istore_n 2, 1) := by decide +kernel
theorem dX9_spread_32 : decode cX9_spread 32 = .ok (.iload_n 3, 1) := by decide +kernel
theorem dX9_spread_33 : decode cX9_spread 33 = .ok (.iconst 2, 1) := by decide +kernel
theorem dX9_spread_34 : decode cX9_spread 34 = .ok (.iushr, 1) := by decide +kernel
theorem dX9_spread_35 : decode cX9_spread 35 = .ok (.istore_n 3, 1) := by decide +kernel
theorem dX9_spread_36 : decode cX9_spread 36 = .ok (.iinc 4 2, 3) := by decide +kernel
theorem dX9_spread_39 : decode cX9_spread 39 = .ok (.goto (-32), 3) := by decide +kernel
theorem dX9_spread_42 : decode cX9_spread 42 = .ok (.iload_n 2, 1) := by decide +kernel
theorem dX9_spread_43 : decode cX9_spread 43 = .ok (.ireturn, 1) := by decide +kernel
theorem dX9_gather_0 : decode cX9_gather 0 = .ok (.iconst 0, 1) := by decide +kernel
theorem dX9_gather_1 : decode cX9_gather 1 = .ok (.istore_n 2, 1) := by decide +kernel
theorem dX9_gather_2 : decode cX9_gather 2 = .ok (.iconst 0, 1) := by decide +kernel
theorem dX9_gather_3 : decode cX9_gather 3 = .ok (.istore_n 3, 1) := by decide +kernel
theorem dX9_gather_4 : decode cX9_gather 4 = .ok (.iconst 0, 1) := by decide +kernel
theorem dX9_gather_5 : decode cX9_gather 5 = .ok (.istore 4, 2) := by decide +kernel
theorem dX9_gather_7 : decode cX9_gather 7 = .ok (.iload 4, 2) := by decide +kernel
theorem dX9_gather_9 : decode cX9_gather 9 = .ok (.bipush 12, 2) := by decide +kernel
theorem dX9_gather_11 : decode cX9_gather 11 = .ok (.if_icmp .ge 32, 3) := by decide +kernel
theorem dX9_gather_14 : decode cX9_gather 14 = .ok (.iload_n 1, 1) := by decide +kernel
theorem dX9_gather_15 : decode cX9_gather 15 = .ok (.iload 4, 2) := by decide +kernel
theorem dX9_gather_17 : decode cX9_gather 17 = .ok (.iushr, 1) := by decide +kernel
theorem dX9_gather_18 : decode cX9_gather 18 = .ok (.iconst 1, 1) := by decide +kernel
theorem dX9_gather_19 : decode cX9_gather 19 = .ok (.iand, 1) := by decide +kernel
theorem dX9_gather_20 : decode cX9_gather 20 = .ok (.ifCond .eq 17, 3) := by decide +kernel
theorem dX9_gather_23 : decode cX9_gather 23 = .ok (.iload_n 2, 1) := by decide +kernel
theorem dX9_gather_24 : decode cX9_gather 24 = .ok (.iload_n 0, 1) := by decide +kernel
theorem dX9_gather_25 : decode cX9_gather 25 = .ok (.iload 4, 2) := by decide +kernel
theorem dX9_gather_27 : decode cX9_gather 27 = .ok (.iushr, 1) := by decide +kernel
theorem dX9_gather_28 : decode cX9_gather 28 = .ok (.iconst 3, 1) := by decide +kernel
theorem dX9_gather_29 : decode cX9_gather 29 = .ok (.iand, 1) := by decide +kernel
theorem dX9_gather_30 : decode cX9_gather 30 = .ok (.iload_n 3, 1) := by decide +kernel
theorem dX9_gather_31 : decode cX9_gather 31 = .ok (.ishl, 1) := by decide +kernel
theorem dX9_gather_32 : decode cX9_gather 32 = .ok (.ior, 1) := by decide +kernel
theorem dX9_gather_33 : decode cX9_gather 33 = .ok (.istore_n 2, 1) := by decide +kernel
theorem dX9_gather_34 : decode cX9_gather 34 = .ok (.iinc 3 2, 3) := by decide +kernel
theorem dX9_gather_37 : decode cX9_gather 37 = .ok (.iinc 4 2, 3) := by decide +kernel
theorem dX9_gather_40 : decode cX9_gather 40 = .ok (.goto (-33), 3) := by decide +kernel
theorem dX9_gather_43 : decode cX9_gather 43 = .ok (.iload_n 2, 1) := by decide +kernel
theorem dX9_gather_44 : decode cX9_gather 44 = .ok (.ireturn, 1) := by decide +kernel
theorem dX9_following_0 : decode cX9_following 0 = .ok (.iload_n 0, 1) := by decide +kernel
theorem dX9_following_1 : decode cX9_following 1 = .ok (.iload_n 1, 1) := by decide +kernel
theorem dX9_following_2 : decode cX9_following 2 = .ok (.iconst (-1), 1) := by decide +kernel
theorem dX9_following_3 : decode cX9_following 3 = .ok (.ixor, 1) := by decide +kernel
theorem dX9_following_4 : decode cX9_following 4 = .ok (.ior, 1) := by decide +kernel
theorem dX9_following_5 : decode cX9_following 5 = .ok (.iconst 1, 1) := by decide +kernel
theorem dX9_following_6 : decode cX9_following 6 = .ok (.iadd, 1) := by decide +kernel
theorem dX9_following_7 : decode cX9_following 7 = .ok (.iload_n 1, 1) := by decide +kernel
theorem dX9_following_8 : decode cX9_following 8 = .ok (.iand, 1) := by decide +kernel
theorem dX9_following_9 : decode cX9_following 9 = .ok (.ireturn, 1) := by decide +kernel
