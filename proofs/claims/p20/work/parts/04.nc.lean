theorem inlX0 : ∀ w ∈ wsX00, w ∈ wsL_law := fun _ h => List.mem_append_left _ (List.mem_append_left _ (List.mem_append_left _ (List.mem_append_left _ (List.mem_append_left _ (List.mem_append_right _ h)))))
theorem inX0 : ∀ w ∈ wsX00, w ∈ lw_tbl := fun w h => wsL_law_in w (inlX0 w h)
theorem inlX1 : ∀ w ∈ wsX10, w ∈ wsL_law := fun _ h => List.mem_append_left _ (List.mem_append_right _ h)
theorem inX1 : ∀ w ∈ wsX10, w ∈ lw_tbl := fun w h => wsL_law_in w (inlX1 w h)
theorem inlX2 : ∀ w ∈ wsX20, w ∈ wsL_law := fun _ h => List.mem_append_left _ (List.mem_append_left _ (List.mem_append_left _ (List.mem_append_left _ (List.mem_append_left _ (List.mem_append_left _ (List.mem_append_left _ (List.mem_append_right _ h)))))))
theorem inX2 : ∀ w ∈ wsX20, w ∈ lw_tbl := fun w h => wsL_law_in w (inlX2 w h)
theorem inlX3 : ∀ w ∈ wsX30, w ∈ wsL_law := fun _ h => List.mem_append_left _ (List.mem_append_left _ (List.mem_append_left _ (List.mem_append_left _ (List.mem_append_left _ (List.mem_append_left _ (List.mem_append_left _ (List.mem_append_left _ (List.mem_append_right _ h))))))))
theorem inX3 : ∀ w ∈ wsX30, w ∈ lw_tbl := fun w h => wsL_law_in w (inlX3 w h)
theorem inlX4 : ∀ w ∈ wsX40, w ∈ wsL_law := fun _ h => List.mem_append_left _ (List.mem_append_left _ (List.mem_append_left _ (List.mem_append_left _ (List.mem_append_right _ h))))
theorem inX4 : ∀ w ∈ wsX40, w ∈ lw_tbl := fun w h => wsL_law_in w (inlX4 w h)
theorem inlX5 : ∀ w ∈ wsX50, w ∈ wsL_law := fun _ h => List.mem_append_left _ (List.mem_append_left _ (List.mem_append_right _ h))
theorem inX5 : ∀ w ∈ wsX50, w ∈ lw_tbl := fun w h => wsL_law_in w (inlX5 w h)
theorem inlX6 : ∀ w ∈ wsX60, w ∈ wsL_law := fun _ h => List.mem_append_left _ (List.mem_append_left _ (List.mem_append_left _ (List.mem_append_left _ (List.mem_append_left _ (List.mem_append_left _ (List.mem_append_left _ (List.mem_append_left _ (List.mem_append_left _ (List.mem_append_right _ h)))))))))
theorem inX6 : ∀ w ∈ wsX60, w ∈ lw_tbl := fun w h => wsL_law_in w (inlX6 w h)
theorem inlX7 : ∀ w ∈ wsX70, w ∈ wsL_law := fun _ h => List.mem_append_left _ (List.mem_append_left _ (List.mem_append_left _ (List.mem_append_right _ h)))
theorem inX7 : ∀ w ∈ wsX70, w ∈ lw_tbl := fun w h => wsL_law_in w (inlX7 w h)
theorem inlX8 : ∀ w ∈ wsX80, w ∈ wsL_law := fun _ h => List.mem_append_left _ (List.mem_append_left _ (List.mem_append_left _ (List.mem_append_left _ (List.mem_append_left _ (List.mem_append_left _ (List.mem_append_right _ h))))))
theorem inX8 : ∀ w ∈ wsX80, w ∈ lw_tbl := fun w h => wsL_law_in w (inlX8 w h)
theorem inlX9 : ∀ w ∈ wsX90, w ∈ wsL_law := fun _ h => List.mem_append_left _ (List.mem_append_left _ (List.mem_append_left _ (List.mem_append_left _ (List.mem_append_left _ (List.mem_append_left _ (List.mem_append_left _ (List.mem_append_left _ (List.mem_append_left _ (List.mem_append_left _ (List.mem_append_left _ (List.mem_append_right _ h)))))))))))
theorem inX9 : ∀ w ∈ wsX90, w ∈ lw_tbl := fun w h => wsL_law_in w (inlX9 w h)
theorem inlX10 : ∀ w ∈ wsX100, w ∈ wsL_law := fun _ h => List.mem_append_left _ (List.mem_append_left _ (List.mem_append_left _ (List.mem_append_left _ (List.mem_append_left _ (List.mem_append_left _ (List.mem_append_left _ (List.mem_append_left _ (List.mem_append_left _ (List.mem_append_left _ (List.mem_append_right _ h))))))))))
theorem inX10 : ∀ w ∈ wsX100, w ∈ lw_tbl := fun w h => wsL_law_in w (inlX10 w h)
theorem dX0_init_0 : decode cX0_init 0 = .ok (.aload_n 0, 1) := by decide +kernel
theorem dX0_init_1 : decode cX0_init 1 = .ok (.invokespecial 3, 3) := by decide +kernel
theorem dX0_init_4 : decode cX0_init 4 = .ok (.aload_n 0, 1) := by decide +kernel
theorem dX0_init_5 : decode cX0_init 5 = .ok (.bipush 30, 2) := by decide +kernel
theorem dX0_init_7 : decode cX0_init 7 = .ok (.newarray .int, 2) := by decide +kernel
theorem dX0_init_9 : decode cX0_init 9 = .ok (.putfield 9, 3) := by decide +kernel
theorem dX0_init_12 : decode cX0_init 12 = .ok (.aload_n 0, 1) := by decide +kernel
theorem dX0_init_13 : decode cX0_init 13 = .ok (.bipush 30, 2) := by decide +kernel
theorem dX0_init_15 : decode cX0_init 15 = .ok (.newarray .int, 2) := by decide +kernel
theorem dX0_init_17 : decode cX0_init 17 = .ok (.putfield 15, 3) := by decide +kernel
theorem dX0_init_20 : decode cX0_init 20 = .ok (.aload_n 0, 1) := by decide +kernel
theorem dX0_init_21 : decode cX0_init 21 = .ok (.bipush 6, 2) := by decide +kernel
theorem dX0_init_23 : decode cX0_init 23 = .ok (.newarray .int, 2) := by decide +kernel
theorem dX0_init_25 : decode cX0_init 25 = .ok (.putfield 18, 3) := by decide +kernel
theorem dX0_init_28 : decode cX0_init 28 = .ok (.return_, 1) := by decide +kernel
set_option maxRecDepth 20000 in
theorem ggX0_measure_X0_levelOf : GoodIn wsX0_measure wsX0_levelOf := goodIn_r _ [10] rfl (by decide +kernel)
set_option maxRecDepth 20000 in
theorem gX0_measure_X0_levelOf : GoodIn wsX0_measure (va_wsS RX0 36 yX0_levelOf wsX0_levelOf) := goodIn_app (goodIn_r _ [7, 8, 9] rfl (by decide +kernel)) ggX0_measure_X0_levelOf
theorem dX0_measure_0 : decode cX0_measure 0 = .ok (.iconst 0, 1) := by decide +kernel
theorem dX0_measure_1 : decode cX0_measure 1 = .ok (.istore_n 3, 1) := by decide +kernel
theorem dX0_measure_2 : decode cX0_measure 2 = .ok (.iload_n 3, 1) := by decide +kernel
theorem dX0_measure_3 : decode cX0_measure 3 = .ok (.aload_n 1, 1) := by decide +kernel
theorem dX0_measure_4 : decode cX0_measure 4 = .ok (.getfield 21, 3) := by decide +kernel
theorem dX0_measure_7 : decode cX0_measure 7 = .ok (.if_icmp .ge 80, 3) := by decide +kernel
theorem dX0_measure_10 : decode cX0_measure 10 = .ok (.aload_n 1, 1) := by decide +kernel
theorem dX0_measure_11 : decode cX0_measure 11 = .ok (.getfield 27, 3) := by decide +kernel
theorem dX0_measure_14 : decode cX0_measure 14 = .ok (.iload_n 3, 1) := by decide +kernel
theorem dX0_measure_15 : decode cX0_measure 15 = .ok (.aaload, 1) := by decide +kernel
theorem dX0_measure_16 : decode cX0_measure 16 = .ok (.astore 4, 2) := by decide +kernel
theorem dX0_measure_18 : decode cX0_measure 18 = .ok (.aload_n 0, 1) := by decide +kernel
theorem dX0_measure_19 : decode cX0_measure 19 = .ok (.getfield 15, 3) := by decide +kernel
theorem dX0_measure_22 : decode cX0_measure 22 = .ok (.iload_n 3, 1) := by decide +kernel
theorem dX0_measure_23 : decode cX0_measure 23 = .ok (.aload 4, 2) := by decide +kernel
theorem dX0_measure_25 : decode cX0_measure 25 = .ok (.getfield 31, 3) := by decide +kernel
theorem dX0_measure_28 : decode cX0_measure 28 = .ok (.aload_n 2, 1) := by decide +kernel
theorem dX0_measure_29 : decode cX0_measure 29 = .ok (.invokestatic 36, 3) := by decide +kernel
theorem dX0_measure_32 : decode cX0_measure 32 = .ok (.iastore, 1) := by decide +kernel
theorem dX0_measure_33 : decode cX0_measure 33 = .ok (.aload_n 0, 1) := by decide +kernel
theorem dX0_measure_34 : decode cX0_measure 34 = .ok (.getfield 9, 3) := by decide +kernel
theorem dX0_measure_37 : decode cX0_measure 37 = .ok (.iload_n 3, 1) := by decide +kernel
theorem dX0_measure_38 : decode cX0_measure 38 = .ok (.aload 4, 2) := by decide +kernel
theorem dX0_measure_40 : decode cX0_measure 40 = .ok (.getfield 40, 3) := by decide +kernel
theorem dX0_measure_43 : decode cX0_measure 43 = .ok (.ifCond .lt 12, 3) := by decide +kernel
theorem dX0_measure_46 : decode cX0_measure 46 = .ok (.aload 4, 2) := by decide +kernel
theorem dX0_measure_48 : decode cX0_measure 48 = .ok (.getfield 40, 3) := by decide +kernel
theorem dX0_measure_51 : decode cX0_measure 51 = .ok (.iload_n 3, 1) := by decide +kernel
theorem dX0_measure_52 : decode cX0_measure 52 = .ok (.if_icmp .lt 7, 3) := by decide +kernel
theorem dX0_measure_55 : decode cX0_measure 55 = .ok (.iconst 0, 1) := by decide +kernel
theorem dX0_measure_56 : decode cX0_measure 56 = .ok (.goto 24, 3) := by decide +kernel
theorem dX0_measure_59 : decode cX0_measure 59 = .ok (.aload_n 0, 1) := by decide +kernel
theorem dX0_measure_60 : decode cX0_measure 60 = .ok (.getfield 9, 3) := by decide +kernel
theorem dX0_measure_63 : decode cX0_measure 63 = .ok (.aload 4, 2) := by decide +kernel
theorem dX0_measure_65 : decode cX0_measure 65 = .ok (.getfield 40, 3) := by decide +kernel
theorem dX0_measure_68 : decode cX0_measure 68 = .ok (.iaload, 1) := by decide +kernel
theorem dX0_measure_69 : decode cX0_measure 69 = .ok (.aload_n 0, 1) := by decide +kernel
theorem dX0_measure_70 : decode cX0_measure 70 = .ok (.getfield 15, 3) := by decide +kernel
theorem dX0_measure_73 : decode cX0_measure 73 = .ok (.aload 4, 2) := by decide +kernel
theorem dX0_measure_75 : decode cX0_measure 75 = .ok (.getfield 40, 3) := by decide +kernel
theorem dX0_measure_78 : decode cX0_measure 78 = .ok (.iaload, 1) := by decide +kernel
theorem dX0_measure_79 : decode cX0_measure 79 = .ok (.ior, 1) := by decide +kernel
theorem dX0_measure_80 : decode cX0_measure 80 = .ok (.iastore, 1) := by decide +kernel
theorem dX0_measure_81 : decode cX0_measure 81 = .ok (.iinc 3 1, 3) := by decide +kernel
theorem dX0_measure_84 : decode cX0_measure 84 = .ok (.goto (-82), 3) := by decide +kernel
theorem dX0_measure_87 : decode cX0_measure 87 = .ok (.return_, 1) := by decide +kernel
set_option maxRecDepth 20000 in
theorem ggX0_leaks_X9_isWithin : GoodIn wsX0_leaks wsX9_isWithin := goodIn_r _ [8] rfl (by decide +kernel)
set_option maxRecDepth 20000 in
theorem gX0_leaks_X9_isWithin_n49 : GoodIn wsX0_leaks (wsX9_isWithin) := ggX0_leaks_X9_isWithin
theorem dX0_leaks_0 : decode cX0_leaks 0 = .ok (.aload_n 1, 1) := by decide +kernel
theorem dX0_leaks_1 : decode cX0_leaks 1 = .ok (.getfield 27, 3) := by decide +kernel
theorem dX0_leaks_4 : decode cX0_leaks 4 = .ok (.iload_n 3, 1) := by decide +kernel
theorem dX0_leaks_5 : decode cX0_leaks 5 = .ok (.aaload, 1) := by decide +kernel
theorem dX0_leaks_6 : decode cX0_leaks 6 = .ok (.astore 4, 2) := by decide +kernel
theorem dX0_leaks_8 : decode cX0_leaks 8 = .ok (.aload 4, 2) := by decide +kernel
theorem dX0_leaks_10 : decode cX0_leaks 10 = .ok (.getfield 43, 3) := by decide +kernel
theorem dX0_leaks_13 : decode cX0_leaks 13 = .ok (.iconst 1, 1) := by decide +kernel
theorem dX0_leaks_14 : decode cX0_leaks 14 = .ok (.if_icmp .ne 33, 3) := by decide +kernel
theorem dX0_leaks_17 : decode cX0_leaks 17 = .ok (.aload_n 0, 1) := by decide +kernel
theorem dX0_leaks_18 : decode cX0_leaks 18 = .ok (.getfield 9, 3) := by decide +kernel
theorem dX0_leaks_21 : decode cX0_leaks 21 = .ok (.iload_n 3, 1) := by decide +kernel
theorem dX0_leaks_22 : decode cX0_leaks 22 = .ok (.iaload, 1) := by decide +kernel
theorem dX0_leaks_23 : decode cX0_leaks 23 = .ok (.aload_n 0, 1) := by decide +kernel
theorem dX0_leaks_24 : decode cX0_leaks 24 = .ok (.getfield 15, 3) := by decide +kernel
theorem dX0_leaks_27 : decode cX0_leaks 27 = .ok (.iload_n 3, 1) := by decide +kernel
theorem dX0_leaks_28 : decode cX0_leaks 28 = .ok (.iaload, 1) := by decide +kernel
theorem dX0_leaks_29 : decode cX0_leaks 29 = .ok (.ior, 1) := by decide +kernel
theorem dX0_leaks_30 : decode cX0_leaks 30 = .ok (.aload 4, 2) := by decide +kernel
theorem dX0_leaks_32 : decode cX0_leaks 32 = .ok (.getfield 46, 3) := by decide +kernel
theorem dX0_leaks_35 : decode cX0_leaks 35 = .ok (.invokestatic 49, 3) := by decide +kernel
theorem dX0_leaks_38 : decode cX0_leaks 38 = .ok (.ifCond .ne 7, 3) := by decide +kernel
theorem dX0_leaks_41 : decode cX0_leaks 41 = .ok (.iconst 1, 1) := by decide +kernel
theorem dX0_leaks_42 : decode cX0_leaks 42 = .ok (.goto 4, 3) := by decide +kernel
theorem dX0_leaks_45 : decode cX0_leaks 45 = .ok (.iconst 0, 1) := by decide +kernel
theorem dX0_leaks_46 : decode cX0_leaks 46 = .ok (.ireturn, 1) := by decide +kernel
theorem dX0_leaks_47 : decode cX0_leaks 47 = .ok (.aload 4, 2) := by decide +kernel
theorem dX0_leaks_49 : decode cX0_leaks 49 = .ok (.getfield 43, 3) := by decide +kernel
theorem dX0_leaks_52 : decode cX0_leaks 52 = .ok (.ifCond .ne 33, 3) := by decide +kernel
theorem dX0_leaks_55 : decode cX0_leaks 55 = .ok (.aload_n 0, 1) := by decide +kernel
theorem dX0_leaks_56 : decode cX0_leaks 56 = .ok (.getfield 9, 3) := by decide +kernel
theorem dX0_leaks_59 : decode cX0_leaks 59 = .ok (.iload_n 3, 1) := by decide +kernel
theorem dX0_leaks_60 : decode cX0_leaks 60 = .ok (.iaload, 1) := by decide +kernel
theorem dX0_leaks_61 : decode cX0_leaks 61 = .ok (.aload_n 0, 1) := by decide +kernel
theorem dX0_leaks_62 : decode cX0_leaks 62 = .ok (.getfield 15, 3) := by decide +kernel
theorem dX0_leaks_65 : decode cX0_leaks 65 = .ok (.iload_n 3, 1) := by decide +kernel
theorem dX0_leaks_66 : decode cX0_leaks 66 = .ok (.iaload, 1) := by decide +kernel
theorem dX0_leaks_67 : decode cX0_leaks 67 = .ok (.ior, 1) := by decide +kernel
theorem dX0_leaks_68 : decode cX0_leaks 68 = .ok (.aload_n 2, 1) := by decide +kernel
theorem dX0_leaks_69 : decode cX0_leaks 69 = .ok (.aload 4, 2) := by decide +kernel
theorem dX0_leaks_71 : decode cX0_leaks 71 = .ok (.getfield 46, 3) := by decide +kernel
theorem dX0_leaks_74 : decode cX0_leaks 74 = .ok (.iaload, 1) := by decide +kernel
theorem dX0_leaks_75 : decode cX0_leaks 75 = .ok (.invokestatic 49, 3) := by decide +kernel
theorem dX0_leaks_78 : decode cX0_leaks 78 = .ok (.ifCond .ne 7, 3) := by decide +kernel
theorem dX0_leaks_81 : decode cX0_leaks 81 = .ok (.iconst 1, 1) := by decide +kernel
theorem dX0_leaks_82 : decode cX0_leaks 82 = .ok (.goto 4, 3) := by decide +kernel
theorem dX0_leaks_85 : decode cX0_leaks 85 = .ok (.iconst 0, 1) := by decide +kernel
theorem dX0_leaks_86 : decode cX0_leaks 86 = .ok (.ireturn, 1) := by decide +kernel
set_option maxRecDepth 20000 in
theorem ggX0_countLeaks_X0_leaks : GoodIn wsX0_countLeaks wsX0_leaks := goodIn_r _ [6, 7, 8, 9, 10, 11, 12, 13, 14, 15, 16, 17, 18, 19, 20, 21, 22, 23, 24, 25, 26, 27, 28, 29, 30, 31, 32] rfl (by decide +kernel)
set_option maxRecDepth 20000 in
theorem gX0_countLeaks_X0_leaks : GoodIn wsX0_countLeaks (wsV RX0 53 RX0 yX0_leaks wsX0_leaks) := goodIn_app (goodIn_r _ [2, 3, 4, 5] rfl (by decide +kernel)) ggX0_countLeaks_X0_leaks
theorem dX0_countLeaks_0 : decode cX0_countLeaks 0 = .ok (.iconst 0, 1) := by decide +kernel
theorem dX0_countLeaks_1 : decode cX0_countLeaks 1 = .ok (.istore_n 3, 1) := by decide +kernel
theorem dX0_countLeaks_2 : decode cX0_countLeaks 2 = .ok (.iconst 0, 1) := by decide +kernel
theorem dX0_countLeaks_3 : decode cX0_countLeaks 3 = .ok (.istore 4, 2) := by decide +kernel
theorem dX0_countLeaks_5 : decode cX0_countLeaks 5 = .ok (.iload 4, 2) := by decide +kernel
theorem dX0_countLeaks_7 : decode cX0_countLeaks 7 = .ok (.aload_n 1, 1) := by decide +kernel
theorem dX0_countLeaks_8 : decode cX0_countLeaks 8 = .ok (.getfield 21, 3) := by decide +kernel
theorem dX0_countLeaks_11 : decode cX0_countLeaks 11 = .ok (.if_icmp .ge 23, 3) := by decide +kernel
theorem dX0_countLeaks_14 : decode cX0_countLeaks 14 = .ok (.aload_n 0, 1) := by decide +kernel
theorem dX0_countLeaks_15 : decode cX0_countLeaks 15 = .ok (.aload_n 1, 1) := by decide +kernel
theorem dX0_countLeaks_16 : decode cX0_countLeaks 16 = .ok (.aload_n 2, 1) := by decide +kernel
theorem dX0_countLeaks_17 : decode cX0_countLeaks 17 = .ok (.iload 4, 2) := by decide +kernel
theorem dX0_countLeaks_19 : decode cX0_countLeaks 19 = .ok (.invokevirtual 53, 3) := by decide +kernel
theorem dX0_countLeaks_22 : decode cX0_countLeaks 22 = .ok (.ifCond .eq 6, 3) := by decide +kernel
theorem dX0_countLeaks_25 : decode cX0_countLeaks 25 = .ok (.iinc 3 1, 3) := by decide +kernel
theorem dX0_countLeaks_28 : decode cX0_countLeaks 28 = .ok (.iinc 4 1, 3) := by decide +kernel
theorem dX0_countLeaks_31 : decode cX0_countLeaks 31 = .ok (.goto (-26), 3) := by decide +kernel
theorem dX0_countLeaks_34 : decode cX0_countLeaks 34 = .ok (.iload_n 3, 1) := by decide +kernel
theorem dX0_countLeaks_35 : decode cX0_countLeaks 35 = .ok (.ireturn, 1) := by decide +kernel
set_option maxRecDepth 20000 in
theorem ggX0_firstLeak_X0_leaks : GoodIn wsX0_firstLeak wsX0_leaks := goodIn_r _ [6, 7, 8, 9, 10, 11, 12, 13, 14, 15, 16, 17, 18, 19, 20, 21, 22, 23, 24, 25, 26, 27, 28, 29, 30, 31, 32] rfl (by decide +kernel)
set_option maxRecDepth 20000 in
theorem gX0_firstLeak_X0_leaks : GoodIn wsX0_firstLeak (wsV RX0 53 RX0 yX0_leaks wsX0_leaks) := goodIn_app (goodIn_r _ [2, 3, 4, 5] rfl (by decide +kernel)) ggX0_firstLeak_X0_leaks
theorem dX0_firstLeak_0 : decode cX0_firstLeak 0 = .ok (.iconst 0, 1) := by decide +kernel
theorem dX0_firstLeak_1 : decode cX0_firstLeak 1 = .ok (.istore_n 3, 1) := by decide +kernel
theorem dX0_firstLeak_2 : decode cX0_firstLeak 2 = .ok (.iload_n 3, 1) := by decide +kernel
theorem dX0_firstLeak_3 : decode cX0_firstLeak 3 = .ok (.aload_n 1, 1) := by decide +kernel
theorem dX0_firstLeak_4 : decode cX0_firstLeak 4 = .ok (.getfield 21, 3) := by decide +kernel
theorem dX0_firstLeak_7 : decode cX0_firstLeak 7 = .ok (.if_icmp .ge 21, 3) := by decide +kernel
theorem dX0_firstLeak_10 : decode cX0_firstLeak 10 = .ok (.aload_n 0, 1) := by decide +kernel
theorem dX0_firstLeak_11 : decode cX0_firstLeak 11 = .ok (.aload_n 1, 1) := by decide +kernel
theorem dX0_firstLeak_12 : decode cX0_firstLeak 12 = .ok (.aload_n 2, 1) := by decide +kernel
theorem dX0_firstLeak_13 : decode cX0_firstLeak 13 = .ok (.iload_n 3, 1) := by decide +kernel
theorem dX0_firstLeak_14 : decode cX0_firstLeak 14 = .ok (.invokevirtual 53, 3) := by decide +kernel
theorem dX0_firstLeak_17 : decode cX0_firstLeak 17 = .ok (.ifCond .eq 5, 3) := by decide +kernel
theorem dX0_firstLeak_20 : decode cX0_firstLeak 20 = .ok (.iload_n 3, 1) := by decide +kernel
theorem dX0_firstLeak_21 : decode cX0_firstLeak 21 = .ok (.ireturn, 1) := by decide +kernel
theorem dX0_firstLeak_22 : decode cX0_firstLeak 22 = .ok (.iinc 3 1, 3) := by decide +kernel
theorem dX0_firstLeak_25 : decode cX0_firstLeak 25 = .ok (.goto (-23), 3) := by decide +kernel
theorem dX0_firstLeak_28 : decode cX0_firstLeak 28 = .ok (.bipush (-9), 2) := by decide +kernel
theorem dX0_firstLeak_30 : decode cX0_firstLeak 30 = .ok (.ireturn, 1) := by decide +kernel
theorem chIwsX0_raise_0 : ∀ w ∈ ([.code yX0_raise cX0_raise 6 (some .int)] : List Cond), w ∈ wsX0_raise := fun _ h => (List.mem_cons.mpr (Or.inl (List.mem_singleton.mp h)))
theorem chIwsX0_raise_1 : ∀ w ∈ (wsX0_raise_r1 : List Cond), w ∈ wsX0_raise := fun _ h => (List.mem_cons_of_mem _ (List.mem_append_left _ (List.mem_append_left _ (List.mem_append_left _ (List.mem_append_left _ h)))))
theorem chIwsX0_raise_2 : ∀ w ∈ (wsX0_raise_r2 : List Cond), w ∈ wsX0_raise := fun _ h => (List.mem_cons_of_mem _ (List.mem_append_left _ (List.mem_append_left _ (List.mem_append_left _ (List.mem_append_right _ h)))))
theorem chIwsX0_raise_3 : ∀ w ∈ (wsX00 : List Cond), w ∈ wsX0_raise := fun _ h => (List.mem_cons_of_mem _ (List.mem_append_left _ (List.mem_append_left _ (List.mem_append_right _ h))))
theorem chIwsX0_raise_4 : ∀ w ∈ (wsX40 : List Cond), w ∈ wsX0_raise := fun _ h => (List.mem_cons_of_mem _ (List.mem_append_left _ (List.mem_append_right _ h)))
theorem chIwsX0_raise_5 : ∀ w ∈ (wsX50 : List Cond), w ∈ wsX0_raise := fun _ h => (List.mem_cons_of_mem _ (List.mem_append_right _ h))
def chwsX0_raise : Nat → List Cond
  | 0 => [.code yX0_raise cX0_raise 6 (some .int)]
  | 1 => wsX0_raise_r1
  | 2 => wsX0_raise_r2
  | 3 => wsX00
  | 4 => wsX40
  | 5 => wsX50
  | _ => []
theorem chwsX0_raise_in : ∀ (j : Nat) (w : Cond), w ∈ chwsX0_raise j → w ∈ wsX0_raise
  | 0, w, h => chIwsX0_raise_0 w h
  | 1, w, h => chIwsX0_raise_1 w h
  | 2, w, h => chIwsX0_raise_2 w h
  | 3, w, h => chIwsX0_raise_3 w h
  | 4, w, h => chIwsX0_raise_4 w h
  | 5, w, h => chIwsX0_raise_5 w h
  | _ + 6, _, h => absurd h List.not_mem_nil
set_option maxRecDepth 20000 in
theorem ggX0_raise_X0_measure : GoodIn wsX0_raise wsX0_measure := goodIn_r2 chwsX0_raise chwsX0_raise_in _ [(1, 5), (1, 6), (1, 7), (1, 8), (1, 9), (1, 10), (1, 11), (1, 12), (1, 13), (1, 4), (1, 14), (4, 0), (4, 1), (4, 2), (4, 3), (4, 4), (4, 5), (3, 0), (3, 1), (3, 2), (5, 0), (5, 1), (5, 2), (5, 3), (5, 4), (5, 5), (5, 6), (5, 7), (5, 8)] rfl (by decide +kernel)
set_option maxRecDepth 20000 in
theorem gX0_raise_X0_measure : GoodIn wsX0_raise (wsV RX0 57 RX0 yX0_measure wsX0_measure) := goodIn_app (goodIn_r2 chwsX0_raise chwsX0_raise_in _ [(1, 1), (1, 2), (1, 3), (1, 4)] rfl (by decide +kernel)) ggX0_raise_X0_measure
set_option maxRecDepth 20000 in
theorem ggX0_raise_X0_raiseLeaking : GoodIn wsX0_raise wsX0_raiseLeaking := goodIn_r2 chwsX0_raise chwsX0_raise_in _ [(1, 18), (1, 6), (1, 7), (1, 19), (1, 0), (1, 20), (1, 10), (1, 8), (1, 21), (1, 22), (1, 23), (1, 4), (2, 0), (2, 1), (2, 2), (2, 3), (4, 0), (4, 1), (4, 2), (4, 3), (4, 4), (4, 5), (5, 0), (5, 1), (5, 2), (5, 3), (5, 4), (5, 5), (5, 6), (5, 7), (5, 8), (3, 0), (3, 1), (3, 2)] rfl (by decide +kernel)
set_option maxRecDepth 20000 in
theorem gX0_raise_X0_raiseLeaking : GoodIn wsX0_raise (wsV RX0 61 RX0 yX0_raiseLeaking wsX0_raiseLeaking) := goodIn_app (goodIn_r2 chwsX0_raise chwsX0_raise_in _ [(1, 15), (1, 16), (1, 17), (1, 4)] rfl (by decide +kernel)) ggX0_raise_X0_raiseLeaking
theorem dX0_raise_0 : decode cX0_raise 0 = .ok (.iconst 0, 1) := by decide +kernel
theorem dX0_raise_1 : decode cX0_raise 1 = .ok (.istore 4, 2) := by decide +kernel
theorem dX0_raise_3 : decode cX0_raise 3 = .ok (.iload 4, 2) := by decide +kernel
theorem dX0_raise_5 : decode cX0_raise 5 = .ok (.bipush 6, 2) := by decide +kernel
theorem dX0_raise_7 : decode cX0_raise 7 = .ok (.if_icmp .ge 20, 3) := by decide +kernel
theorem dX0_raise_10 : decode cX0_raise 10 = .ok (.aload_n 0, 1) := by decide +kernel
theorem dX0_raise_11 : decode cX0_raise 11 = .ok (.getfield 18, 3) := by decide +kernel
theorem dX0_raise_14 : decode cX0_raise 14 = .ok (.iload 4, 2) := by decide +kernel
theorem dX0_raise_16 : decode cX0_raise 16 = .ok (.aload_n 2, 1) := by decide +kernel
theorem dX0_raise_17 : decode cX0_raise 17 = .ok (.iload 4, 2) := by decide +kernel
theorem dX0_raise_19 : decode cX0_raise 19 = .ok (.iaload, 1) := by decide +kernel
theorem dX0_raise_20 : decode cX0_raise 20 = .ok (.iastore, 1) := by decide +kernel
theorem dX0_raise_21 : decode cX0_raise 21 = .ok (.iinc 4 1, 3) := by decide +kernel
theorem dX0_raise_24 : decode cX0_raise 24 = .ok (.goto (-21), 3) := by decide +kernel
theorem dX0_raise_27 : decode cX0_raise 27 = .ok (.iconst 1, 1) := by decide +kernel
theorem dX0_raise_28 : decode cX0_raise 28 = .ok (.istore 4, 2) := by decide +kernel
theorem dX0_raise_30 : decode cX0_raise 30 = .ok (.iconst 0, 1) := by decide +kernel
theorem dX0_raise_31 : decode cX0_raise 31 = .ok (.istore 5, 2) := by decide +kernel
theorem dX0_raise_33 : decode cX0_raise 33 = .ok (.iload 5, 2) := by decide +kernel
theorem dX0_raise_35 : decode cX0_raise 35 = .ok (.bipush 13, 2) := by decide +kernel
theorem dX0_raise_37 : decode cX0_raise 37 = .ok (.if_icmp .ge 30, 3) := by decide +kernel
theorem dX0_raise_40 : decode cX0_raise 40 = .ok (.iload 4, 2) := by decide +kernel
theorem dX0_raise_42 : decode cX0_raise 42 = .ok (.ifCond .eq 25, 3) := by decide +kernel
theorem dX0_raise_45 : decode cX0_raise 45 = .ok (.aload_n 0, 1) := by decide +kernel
theorem dX0_raise_46 : decode cX0_raise 46 = .ok (.aload_n 1, 1) := by decide +kernel
theorem dX0_raise_47 : decode cX0_raise 47 = .ok (.aload_n 0, 1) := by decide +kernel
theorem dX0_raise_48 : decode cX0_raise 48 = .ok (.getfield 18, 3) := by decide +kernel
theorem dX0_raise_51 : decode cX0_raise 51 = .ok (.invokevirtual 57, 3) := by decide +kernel
theorem dX0_raise_54 : decode cX0_raise 54 = .ok (.aload_n 0, 1) := by decide +kernel
theorem dX0_raise_55 : decode cX0_raise 55 = .ok (.aload_n 1, 1) := by decide +kernel
theorem dX0_raise_56 : decode cX0_raise 56 = .ok (.invokevirtual 61, 3) := by decide +kernel
theorem dX0_raise_59 : decode cX0_raise 59 = .ok (.istore 4, 2) := by decide +kernel
theorem dX0_raise_61 : decode cX0_raise 61 = .ok (.iinc 5 1, 3) := by decide +kernel
theorem dX0_raise_64 : decode cX0_raise 64 = .ok (.goto (-31), 3) := by decide +kernel
theorem dX0_raise_67 : decode cX0_raise 67 = .ok (.aload_n 0, 1) := by decide +kernel
theorem dX0_raise_68 : decode cX0_raise 68 = .ok (.getfield 18, 3) := by decide +kernel
theorem dX0_raise_71 : decode cX0_raise 71 = .ok (.iload_n 3, 1) := by decide +kernel
theorem dX0_raise_72 : decode cX0_raise 72 = .ok (.iaload, 1) := by decide +kernel
theorem dX0_raise_73 : decode cX0_raise 73 = .ok (.ireturn, 1) := by decide +kernel
set_option maxRecDepth 20000 in
theorem ggX0_raiseLeaking_X0_leaks : GoodIn wsX0_raiseLeaking wsX0_leaks := goodIn_r _ [12, 2, 3, 6, 7, 5, 13, 14, 15, 16, 17, 18, 19, 20, 21, 22, 23, 24, 25, 26, 27, 28, 29, 30, 31, 32, 33] rfl (by decide +kernel)
set_option maxRecDepth 20000 in
theorem gX0_raiseLeaking_X0_leaks : GoodIn wsX0_raiseLeaking (wsV RX0 53 RX0 yX0_leaks wsX0_leaks) := goodIn_app (goodIn_r _ [8, 9, 10, 11] rfl (by decide +kernel)) ggX0_raiseLeaking_X0_leaks
theorem dX0_raiseLeaking_0 : decode cX0_raiseLeaking 0 = .ok (.iconst 0, 1) := by decide +kernel
theorem dX0_raiseLeaking_1 : decode cX0_raiseLeaking 1 = .ok (.istore_n 2, 1) := by decide +kernel
theorem dX0_raiseLeaking_2 : decode cX0_raiseLeaking 2 = .ok (.iconst 0, 1) := by decide +kernel
theorem dX0_raiseLeaking_3 : decode cX0_raiseLeaking 3 = .ok (.istore_n 3, 1) := by decide +kernel
theorem dX0_raiseLeaking_4 : decode cX0_raiseLeaking 4 = .ok (.iload_n 3, 1) := by decide +kernel
theorem dX0_raiseLeaking_5 : decode cX0_raiseLeaking 5 = .ok (.aload_n 1, 1) := by decide +kernel
theorem dX0_raiseLeaking_6 : decode cX0_raiseLeaking 6 = .ok (.getfield 21, 3) := by decide +kernel
theorem dX0_raiseLeaking_9 : decode cX0_raiseLeaking 9 = .ok (.if_icmp .ge 66, 3) := by decide +kernel
theorem dX0_raiseLeaking_12 : decode cX0_raiseLeaking 12 = .ok (.aload_n 1, 1) := by decide +kernel
theorem dX0_raiseLeaking_13 : decode cX0_raiseLeaking 13 = .ok (.getfield 27, 3) := by decide +kernel
theorem dX0_raiseLeaking_16 : decode cX0_raiseLeaking 16 = .ok (.iload_n 3, 1) := by decide +kernel
theorem dX0_raiseLeaking_17 : decode cX0_raiseLeaking 17 = .ok (.aaload, 1) := by decide +kernel
theorem dX0_raiseLeaking_18 : decode cX0_raiseLeaking 18 = .ok (.astore 4, 2) := by decide +kernel
theorem dX0_raiseLeaking_20 : decode cX0_raiseLeaking 20 = .ok (.aload 4, 2) := by decide +kernel
theorem dX0_raiseLeaking_22 : decode cX0_raiseLeaking 22 = .ok (.getfield 43, 3) := by decide +kernel
theorem dX0_raiseLeaking_25 : decode cX0_raiseLeaking 25 = .ok (.ifCond .ne 44, 3) := by decide +kernel
theorem dX0_raiseLeaking_28 : decode cX0_raiseLeaking 28 = .ok (.aload_n 0, 1) := by decide +kernel
theorem dX0_raiseLeaking_29 : decode cX0_raiseLeaking 29 = .ok (.aload_n 1, 1) := by decide +kernel
theorem dX0_raiseLeaking_30 : decode cX0_raiseLeaking 30 = .ok (.aload_n 0, 1) := by decide +kernel
theorem dX0_raiseLeaking_31 : decode cX0_raiseLeaking 31 = .ok (.getfield 18, 3) := by decide +kernel
theorem dX0_raiseLeaking_34 : decode cX0_raiseLeaking 34 = .ok (.iload_n 3, 1) := by decide +kernel
theorem dX0_raiseLeaking_35 : decode cX0_raiseLeaking 35 = .ok (.invokevirtual 53, 3) := by decide +kernel
theorem dX0_raiseLeaking_38 : decode cX0_raiseLeaking 38 = .ok (.ifCond .eq 31, 3) := by decide +kernel
theorem dX0_raiseLeaking_41 : decode cX0_raiseLeaking 41 = .ok (.aload_n 0, 1) := by decide +kernel
theorem dX0_raiseLeaking_42 : decode cX0_raiseLeaking 42 = .ok (.getfield 18, 3) := by decide +kernel
theorem dX0_raiseLeaking_45 : decode cX0_raiseLeaking 45 = .ok (.aload 4, 2) := by decide +kernel
theorem dX0_raiseLeaking_47 : decode cX0_raiseLeaking 47 = .ok (.getfield 46, 3) := by decide +kernel
theorem dX0_raiseLeaking_50 : decode cX0_raiseLeaking 50 = .ok (.dup2, 1) := by decide +kernel
theorem dX0_raiseLeaking_51 : decode cX0_raiseLeaking 51 = .ok (.iaload, 1) := by decide +kernel
theorem dX0_raiseLeaking_52 : decode cX0_raiseLeaking 52 = .ok (.aload_n 0, 1) := by decide +kernel
theorem dX0_raiseLeaking_53 : decode cX0_raiseLeaking 53 = .ok (.getfield 9, 3) := by decide +kernel
theorem dX0_raiseLeaking_56 : decode cX0_raiseLeaking 56 = .ok (.iload_n 3, 1) := by decide +kernel
theorem dX0_raiseLeaking_57 : decode cX0_raiseLeaking 57 = .ok (.iaload, 1) := by decide +kernel
theorem dX0_raiseLeaking_58 : decode cX0_raiseLeaking 58 = .ok (.aload_n 0, 1) := by decide +kernel
theorem dX0_raiseLeaking_59 : decode cX0_raiseLeaking 59 = .ok (.getfield 15, 3) := by decide +kernel
theorem dX0_raiseLeaking_62 : decode cX0_raiseLeaking 62 = .ok (.iload_n 3, 1) := by decide +kernel
theorem dX0_raiseLeaking_63 : decode cX0_raiseLeaking 63 = .ok (.iaload, 1) := by decide +kernel
theorem dX0_raiseLeaking_64 : decode cX0_raiseLeaking 64 = .ok (.ior, 1) := by decide +kernel
theorem dX0_raiseLeaking_65 : decode cX0_raiseLeaking 65 = .ok (.ior, 1) := by decide +kernel
theorem dX0_raiseLeaking_66 : decode cX0_raiseLeaking 66 = .ok (.iastore, 1) := by decide +kernel
theorem dX0_raiseLeaking_67 : decode cX0_raiseLeaking 67 = .ok (.iconst 1, 1) := by decide +kernel
theorem dX0_raiseLeaking_68 : decode cX0_raiseLeaking 68 = .ok (.istore_n 2, 1) := by decide +kernel
theorem dX0_raiseLeaking_69 : decode cX0_raiseLeaking 69 = .ok (.iinc 3 1, 3) := by decide +kernel
theorem dX0_raiseLeaking_72 : decode cX0_raiseLeaking 72 = .ok (.goto (-68), 3) := by decide +kernel
theorem dX0_raiseLeaking_75 : decode cX0_raiseLeaking 75 = .ok (.iload_n 2, 1) := by decide +kernel
theorem dX0_raiseLeaking_76 : decode cX0_raiseLeaking 76 = .ok (.ireturn, 1) := by decide +kernel
theorem dX0_levelOf_0 : decode cX0_levelOf 0 = .ok (.iconst 0, 1) := by decide +kernel
theorem dX0_levelOf_1 : decode cX0_levelOf 1 = .ok (.istore_n 2, 1) := by decide +kernel
theorem dX0_levelOf_2 : decode cX0_levelOf 2 = .ok (.iconst 0, 1) := by decide +kernel
theorem dX0_levelOf_3 : decode cX0_levelOf 3 = .ok (.istore_n 3, 1) := by decide +kernel
theorem dX0_levelOf_4 : decode cX0_levelOf 4 = .ok (.iload_n 3, 1) := by decide +kernel
theorem dX0_levelOf_5 : decode cX0_levelOf 5 = .ok (.bipush 6, 2) := by decide +kernel
theorem dX0_levelOf_7 : decode cX0_levelOf 7 = .ok (.if_icmp .ge 25, 3) := by decide +kernel
theorem dX0_levelOf_10 : decode cX0_levelOf 10 = .ok (.iload_n 0, 1) := by decide +kernel
theorem dX0_levelOf_11 : decode cX0_levelOf 11 = .ok (.iconst 2, 1) := by decide +kernel
theorem dX0_levelOf_12 : decode cX0_levelOf 12 = .ok (.iload_n 3, 1) := by decide +kernel
theorem dX0_levelOf_13 : decode cX0_levelOf 13 = .ok (.imul, 1) := by decide +kernel
theorem dX0_levelOf_14 : decode cX0_levelOf 14 = .ok (.iushr, 1) := by decide +kernel
theorem dX0_levelOf_15 : decode cX0_levelOf 15 = .ok (.iconst 1, 1) := by decide +kernel
theorem dX0_levelOf_16 : decode cX0_levelOf 16 = .ok (.iand, 1) := by decide +kernel
theorem dX0_levelOf_17 : decode cX0_levelOf 17 = .ok (.ifCond .eq 9, 3) := by decide +kernel
theorem dX0_levelOf_20 : decode cX0_levelOf 20 = .ok (.iload_n 2, 1) := by decide +kernel
theorem dX0_levelOf_21 : decode cX0_levelOf 21 = .ok (.aload_n 1, 1) := by decide +kernel
theorem dX0_levelOf_22 : decode cX0_levelOf 22 = .ok (.iload_n 3, 1) := by decide +kernel
theorem dX0_levelOf_23 : decode cX0_levelOf 23 = .ok (.iaload, 1) := by decide +kernel
theorem dX0_levelOf_24 : decode cX0_levelOf 24 = .ok (.ior, 1) := by decide +kernel
theorem dX0_levelOf_25 : decode cX0_levelOf 25 = .ok (.istore_n 2, 1) := by decide +kernel
theorem dX0_levelOf_26 : decode cX0_levelOf 26 = .ok (.iinc 3 1, 3) := by decide +kernel
theorem dX0_levelOf_29 : decode cX0_levelOf 29 = .ok (.goto (-25), 3) := by decide +kernel
theorem dX0_levelOf_32 : decode cX0_levelOf 32 = .ok (.iload_n 2, 1) := by decide +kernel
theorem dX0_levelOf_33 : decode cX0_levelOf 33 = .ok (.ireturn, 1) := by decide +kernel
theorem dX1_init_0 : decode cX1_init 0 = .ok (.aload_n 0, 1) := by decide +kernel
theorem dX1_init_1 : decode cX1_init 1 = .ok (.invokespecial 3, 3) := by decide +kernel
theorem dX1_init_4 : decode cX1_init 4 = .ok (.aload_n 0, 1) := by decide +kernel
theorem dX1_init_5 : decode cX1_init 5 = .ok (.sipush 4096, 3) := by decide +kernel
theorem dX1_init_8 : decode cX1_init 8 = .ok (.newarray .long, 2) := by decide +kernel
theorem dX1_init_10 : decode cX1_init 10 = .ok (.putfield 11, 3) := by decide +kernel
theorem dX1_init_13 : decode cX1_init 13 = .ok (.aload_n 0, 1) := by decide +kernel
theorem dX1_init_14 : decode cX1_init 14 = .ok (.sipush 4096, 3) := by decide +kernel
theorem dX1_init_17 : decode cX1_init 17 = .ok (.newarray .long, 2) := by decide +kernel
theorem dX1_init_19 : decode cX1_init 19 = .ok (.putfield 15, 3) := by decide +kernel
theorem dX1_init_22 : decode cX1_init 22 = .ok (.aload_n 0, 1) := by decide +kernel
theorem dX1_init_23 : decode cX1_init 23 = .ok (.sipush 4096, 3) := by decide +kernel
theorem dX1_init_26 : decode cX1_init 26 = .ok (.newarray .int, 2) := by decide +kernel
theorem dX1_init_28 : decode cX1_init 28 = .ok (.putfield 18, 3) := by decide +kernel
theorem dX1_init_31 : decode cX1_init 31 = .ok (.aload_n 0, 1) := by decide +kernel
theorem dX1_init_32 : decode cX1_init 32 = .ok (.sipush 8192, 3) := by decide +kernel
theorem dX1_init_35 : decode cX1_init 35 = .ok (.newarray .int, 2) := by decide +kernel
theorem dX1_init_37 : decode cX1_init 37 = .ok (.putfield 22, 3) := by decide +kernel
theorem dX1_init_40 : decode cX1_init 40 = .ok (.return_, 1) := by decide +kernel
theorem dX1_begin_0 : decode cX1_begin 0 = .ok (.iconst 2, 1) := by decide +kernel
theorem dX1_begin_1 : decode cX1_begin 1 = .ok (.iload_n 1, 1) := by decide +kernel
theorem dX1_begin_2 : decode cX1_begin 2 = .ok (.imul, 1) := by decide +kernel
theorem dX1_begin_3 : decode cX1_begin 3 = .ok (.aload_n 0, 1) := by decide +kernel
theorem dX1_begin_4 : decode cX1_begin 4 = .ok (.getfield 22, 3) := by decide +kernel
theorem dX1_begin_7 : decode cX1_begin 7 = .ok (.arraylength, 1) := by decide +kernel
theorem dX1_begin_8 : decode cX1_begin 8 = .ok (.invokestatic 25, 3) := by decide +kernel
theorem dX1_begin_11 : decode cX1_begin 11 = .ok (.istore_n 2, 1) := by decide +kernel
theorem dX1_begin_12 : decode cX1_begin 12 = .ok (.iconst 0, 1) := by decide +kernel
theorem dX1_begin_13 : decode cX1_begin 13 = .ok (.istore_n 3, 1) := by decide +kernel
theorem dX1_begin_14 : decode cX1_begin 14 = .ok (.iload_n 3, 1) := by decide +kernel
theorem dX1_begin_15 : decode cX1_begin 15 = .ok (.iload_n 2, 1) := by decide +kernel
theorem dX1_begin_16 : decode cX1_begin 16 = .ok (.if_icmp .ge 16, 3) := by decide +kernel
theorem dX1_begin_19 : decode cX1_begin 19 = .ok (.aload_n 0, 1) := by decide +kernel
theorem dX1_begin_20 : decode cX1_begin 20 = .ok (.getfield 22, 3) := by decide +kernel
theorem dX1_begin_23 : decode cX1_begin 23 = .ok (.iload_n 3, 1) := by decide +kernel
theorem dX1_begin_24 : decode cX1_begin 24 = .ok (.iconst 0, 1) := by decide +kernel
theorem dX1_begin_25 : decode cX1_begin 25 = .ok (.iastore, 1) := by decide +kernel
theorem dX1_begin_26 : decode cX1_begin 26 = .ok (.iinc 3 1, 3) := by decide +kernel
theorem dX1_begin_29 : decode cX1_begin 29 = .ok (.goto (-15), 3) := by decide +kernel
theorem dX1_begin_32 : decode cX1_begin 32 = .ok (.aload_n 0, 1) := by decide +kernel
theorem dX1_begin_33 : decode cX1_begin 33 = .ok (.iload_n 2, 1) := by decide +kernel
theorem dX1_begin_34 : decode cX1_begin 34 = .ok (.iconst 1, 1) := by decide +kernel
theorem dX1_begin_35 : decode cX1_begin 35 = .ok (.isub, 1) := by decide +kernel
theorem dX1_begin_36 : decode cX1_begin 36 = .ok (.putfield 31, 3) := by decide +kernel
theorem dX1_begin_39 : decode cX1_begin 39 = .ok (.aload_n 0, 1) := by decide +kernel
theorem dX1_begin_40 : decode cX1_begin 40 = .ok (.iconst 0, 1) := by decide +kernel
theorem dX1_begin_41 : decode cX1_begin 41 = .ok (.putfield 35, 3) := by decide +kernel
theorem dX1_begin_44 : decode cX1_begin 44 = .ok (.aload_n 0, 1) := by decide +kernel
theorem dX1_begin_45 : decode cX1_begin 45 = .ok (.iconst 0, 1) := by decide +kernel
theorem dX1_begin_46 : decode cX1_begin 46 = .ok (.putfield 38, 3) := by decide +kernel
theorem dX1_begin_49 : decode cX1_begin 49 = .ok (.return_, 1) := by decide +kernel
set_option maxRecDepth 20000 in
theorem ggX1_put_X1_open : GoodIn wsX1_put wsX1_open := goodIn_r _ [11, 12, 13, 14, 15, 16, 4, 5, 6, 17, 26, 27, 28, 29, 30, 31, 32] rfl (by decide +kernel)
set_option maxRecDepth 20000 in
theorem gX1_put_X1_open : GoodIn wsX1_put (wsV RX1 45 RX1 yX1_open wsX1_open) := goodIn_app (goodIn_r _ [7, 8, 9, 10] rfl (by decide +kernel)) ggX1_put_X1_open
set_option maxRecDepth 20000 in
theorem ggX1_put_X1_grow : GoodIn wsX1_put wsX1_grow := goodIn_r _ [21, 17, 22, 23, 24, 15, 25, 26, 27, 28, 29, 30, 31, 32] rfl (by decide +kernel)
set_option maxRecDepth 20000 in
theorem gX1_put_X1_grow : GoodIn wsX1_put (wsV RX1 49 RX1 yX1_grow wsX1_grow) := goodIn_app (goodIn_r _ [18, 19, 20, 10] rfl (by decide +kernel)) ggX1_put_X1_grow
theorem dX1_put_0 : decode cX1_put 0 = .ok (.lload_n 1, 1) := by decide +kernel
theorem dX1_put_1 : decode cX1_put 1 = .ok (.lload_n 1, 1) := by decide +kernel
theorem dX1_put_2 : decode cX1_put 2 = .ok (.bipush 32, 2) := by decide +kernel
theorem dX1_put_4 : decode cX1_put 4 = .ok (.lushr, 1) := by decide +kernel
theorem dX1_put_5 : decode cX1_put 5 = .ok (.lxor, 1) := by decide +kernel
theorem dX1_put_6 : decode cX1_put 6 = .ok (.ldc2_w 41, 3) := by decide +kernel
theorem dX1_put_9 : decode cX1_put 9 = .ok (.lmul, 1) := by decide +kernel
theorem dX1_put_10 : decode cX1_put 10 = .ok (.lload_n 3, 1) := by decide +kernel
theorem dX1_put_11 : decode cX1_put 11 = .ok (.lload_n 3, 1) := by decide +kernel
theorem dX1_put_12 : decode cX1_put 12 = .ok (.bipush 32, 2) := by decide +kernel
theorem dX1_put_14 : decode cX1_put 14 = .ok (.lushr, 1) := by decide +kernel
theorem dX1_put_15 : decode cX1_put 15 = .ok (.lxor, 1) := by decide +kernel
theorem dX1_put_16 : decode cX1_put 16 = .ok (.ldc2_w 43, 3) := by decide +kernel
theorem dX1_put_19 : decode cX1_put 19 = .ok (.lmul, 1) := by decide +kernel
theorem dX1_put_20 : decode cX1_put 20 = .ok (.ladd, 1) := by decide +kernel
theorem dX1_put_21 : decode cX1_put 21 = .ok (.lstore 5, 2) := by decide +kernel
theorem dX1_put_23 : decode cX1_put 23 = .ok (.lload 5, 2) := by decide +kernel
theorem dX1_put_25 : decode cX1_put 25 = .ok (.bipush 40, 2) := by decide +kernel
theorem dX1_put_27 : decode cX1_put 27 = .ok (.lushr, 1) := by decide +kernel
theorem dX1_put_28 : decode cX1_put 28 = .ok (.l2i, 1) := by decide +kernel
theorem dX1_put_29 : decode cX1_put 29 = .ok (.aload_n 0, 1) := by decide +kernel
theorem dX1_put_30 : decode cX1_put 30 = .ok (.getfield 31, 3) := by decide +kernel
theorem dX1_put_33 : decode cX1_put 33 = .ok (.iand, 1) := by decide +kernel
theorem dX1_put_34 : decode cX1_put 34 = .ok (.istore 7, 2) := by decide +kernel
theorem dX1_put_36 : decode cX1_put 36 = .ok (.iconst 0, 1) := by decide +kernel
theorem dX1_put_37 : decode cX1_put 37 = .ok (.istore 8, 2) := by decide +kernel
theorem dX1_put_39 : decode cX1_put 39 = .ok (.iload 8, 2) := by decide +kernel
theorem dX1_put_41 : decode cX1_put 41 = .ok (.aload_n 0, 1) := by decide +kernel
theorem dX1_put_42 : decode cX1_put 42 = .ok (.getfield 31, 3) := by decide +kernel
theorem dX1_put_45 : decode cX1_put 45 = .ok (.if_icmp .gt 77, 3) := by decide +kernel
theorem dX1_put_48 : decode cX1_put 48 = .ok (.aload_n 0, 1) := by decide +kernel
theorem dX1_put_49 : decode cX1_put 49 = .ok (.getfield 22, 3) := by decide +kernel
theorem dX1_put_52 : decode cX1_put 52 = .ok (.iload 7, 2) := by decide +kernel
theorem dX1_put_54 : decode cX1_put 54 = .ok (.iaload, 1) := by decide +kernel
theorem dX1_put_55 : decode cX1_put 55 = .ok (.iconst 1, 1) := by decide +kernel
theorem dX1_put_56 : decode cX1_put 56 = .ok (.isub, 1) := by decide +kernel
theorem dX1_put_57 : decode cX1_put 57 = .ok (.istore 9, 2) := by decide +kernel
theorem dX1_put_59 : decode cX1_put 59 = .ok (.iload 9, 2) := by decide +kernel
theorem dX1_put_61 : decode cX1_put 61 = .ok (.ifCond .ge 13, 3) := by decide +kernel
theorem dX1_put_64 : decode cX1_put 64 = .ok (.aload_n 0, 1) := by decide +kernel
theorem dX1_put_65 : decode cX1_put 65 = .ok (.iload 7, 2) := by decide +kernel
theorem dX1_put_67 : decode cX1_put 67 = .ok (.lload_n 1, 1) := by decide +kernel
theorem dX1_put_68 : decode cX1_put 68 = .ok (.lload_n 3, 1) := by decide +kernel
theorem dX1_put_69 : decode cX1_put 69 = .ok (.invokevirtual 45, 3) := by decide +kernel
theorem dX1_put_72 : decode cX1_put 72 = .ok (.istore 9, 2) := by decide +kernel
theorem dX1_put_74 : decode cX1_put 74 = .ok (.aload_n 0, 1) := by decide +kernel
theorem dX1_put_75 : decode cX1_put 75 = .ok (.getfield 11, 3) := by decide +kernel
theorem dX1_put_78 : decode cX1_put 78 = .ok (.iload 9, 2) := by decide +kernel
theorem dX1_put_80 : decode cX1_put 80 = .ok (.laload, 1) := by decide +kernel
theorem dX1_put_81 : decode cX1_put 81 = .ok (.lload_n 1, 1) := by decide +kernel
theorem dX1_put_82 : decode cX1_put 82 = .ok (.lcmp, 1) := by decide +kernel
theorem dX1_put_83 : decode cX1_put 83 = .ok (.ifCond .ne 22, 3) := by decide +kernel
theorem dX1_put_86 : decode cX1_put 86 = .ok (.aload_n 0, 1) := by decide +kernel
theorem dX1_put_87 : decode cX1_put 87 = .ok (.getfield 15, 3) := by decide +kernel
theorem dX1_put_90 : decode cX1_put 90 = .ok (.iload 9, 2) := by decide +kernel
theorem dX1_put_92 : decode cX1_put 92 = .ok (.laload, 1) := by decide +kernel
theorem dX1_put_93 : decode cX1_put 93 = .ok (.lload_n 3, 1) := by decide +kernel
theorem dX1_put_94 : decode cX1_put 94 = .ok (.lcmp, 1) := by decide +kernel
theorem dX1_put_95 : decode cX1_put 95 = .ok (.ifCond .ne 10, 3) := by decide +kernel
theorem dX1_put_98 : decode cX1_put 98 = .ok (.aload_n 0, 1) := by decide +kernel
theorem dX1_put_99 : decode cX1_put 99 = .ok (.iload 9, 2) := by decide +kernel
theorem dX1_put_101 : decode cX1_put 101 = .ok (.invokevirtual 49, 3) := by decide +kernel
theorem dX1_put_104 : decode cX1_put 104 = .ok (.return_, 1) := by decide +kernel
theorem dX1_put_105 : decode cX1_put 105 = .ok (.iload 7, 2) := by decide +kernel
theorem dX1_put_107 : decode cX1_put 107 = .ok (.iconst 1, 1) := by decide +kernel
theorem dX1_put_108 : decode cX1_put 108 = .ok (.iadd, 1) := by decide +kernel
theorem dX1_put_109 : decode cX1_put 109 = .ok (.aload_n 0, 1) := by decide +kernel
theorem dX1_put_110 : decode cX1_put 110 = .ok (.getfield 31, 3) := by decide +kernel
theorem dX1_put_113 : decode cX1_put 113 = .ok (.iand, 1) := by decide +kernel
theorem dX1_put_114 : decode cX1_put 114 = .ok (.istore 7, 2) := by decide +kernel
theorem dX1_put_116 : decode cX1_put 116 = .ok (.iinc 8 1, 3) := by decide +kernel
theorem dX1_put_119 : decode cX1_put 119 = .ok (.goto (-80), 3) := by decide +kernel
theorem dX1_put_122 : decode cX1_put 122 = .ok (.return_, 1) := by decide +kernel
theorem dX1_open_0 : decode cX1_open 0 = .ok (.aload_n 0, 1) := by decide +kernel
theorem dX1_open_1 : decode cX1_open 1 = .ok (.getfield 35, 3) := by decide +kernel
theorem dX1_open_4 : decode cX1_open 4 = .ok (.sipush 4095, 3) := by decide +kernel
theorem dX1_open_7 : decode cX1_open 7 = .ok (.invokestatic 25, 3) := by decide +kernel
theorem dX1_open_10 : decode cX1_open 10 = .ok (.istore 6, 2) := by decide +kernel
theorem dX1_open_12 : decode cX1_open 12 = .ok (.aload_n 0, 1) := by decide +kernel
theorem dX1_open_13 : decode cX1_open 13 = .ok (.iload 6, 2) := by decide +kernel
theorem dX1_open_15 : decode cX1_open 15 = .ok (.iconst 1, 1) := by decide +kernel
theorem dX1_open_16 : decode cX1_open 16 = .ok (.iadd, 1) := by decide +kernel
theorem dX1_open_17 : decode cX1_open 17 = .ok (.putfield 35, 3) := by decide +kernel
theorem dX1_open_20 : decode cX1_open 20 = .ok (.aload_n 0, 1) := by decide +kernel
theorem dX1_open_21 : decode cX1_open 21 = .ok (.getfield 22, 3) := by decide +kernel
theorem dX1_open_24 : decode cX1_open 24 = .ok (.iload_n 1, 1) := by decide +kernel
theorem dX1_open_25 : decode cX1_open 25 = .ok (.aload_n 0, 1) := by decide +kernel
theorem dX1_open_26 : decode cX1_open 26 = .ok (.getfield 35, 3) := by decide +kernel
theorem dX1_open_29 : decode cX1_open 29 = .ok (.iastore, 1) := by decide +kernel
theorem dX1_open_30 : decode cX1_open 30 = .ok (.aload_n 0, 1) := by decide +kernel
theorem dX1_open_31 : decode cX1_open 31 = .ok (.getfield 11, 3) := by decide +kernel
theorem dX1_open_34 : decode cX1_open 34 = .ok (.iload 6, 2) := by decide +kernel
theorem dX1_open_36 : decode cX1_open 36 = .ok (.lload_n 2, 1) := by decide +kernel
theorem dX1_open_37 : decode cX1_open 37 = .ok (.lastore, 1) := by decide +kernel
theorem dX1_open_38 : decode cX1_open 38 = .ok (.aload_n 0, 1) := by decide +kernel
theorem dX1_open_39 : decode cX1_open 39 = .ok (.getfield 15, 3) := by decide +kernel
theorem dX1_open_42 : decode cX1_open 42 = .ok (.iload 6, 2) := by decide +kernel
theorem dX1_open_44 : decode cX1_open 44 = .ok (.lload 4, 2) := by decide +kernel
theorem dX1_open_46 : decode cX1_open 46 = .ok (.lastore, 1) := by decide +kernel
theorem dX1_open_47 : decode cX1_open 47 = .ok (.aload_n 0, 1) := by decide +kernel
theorem dX1_open_48 : decode cX1_open 48 = .ok (.getfield 18, 3) := by decide +kernel
theorem dX1_open_51 : decode cX1_open 51 = .ok (.iload 6, 2) := by decide +kernel
theorem dX1_open_53 : decode cX1_open 53 = .ok (.iconst 0, 1) := by decide +kernel
theorem dX1_open_54 : decode cX1_open 54 = .ok (.iastore, 1) := by decide +kernel
theorem dX1_open_55 : decode cX1_open 55 = .ok (.iload 6, 2) := by decide +kernel
theorem dX1_open_57 : decode cX1_open 57 = .ok (.ireturn, 1) := by decide +kernel
theorem dX1_grow_0 : decode cX1_grow 0 = .ok (.aload_n 0, 1) := by decide +kernel
theorem dX1_grow_1 : decode cX1_grow 1 = .ok (.getfield 18, 3) := by decide +kernel
theorem dX1_grow_4 : decode cX1_grow 4 = .ok (.iload_n 1, 1) := by decide +kernel
theorem dX1_grow_5 : decode cX1_grow 5 = .ok (.dup2, 1) := by decide +kernel
theorem dX1_grow_6 : decode cX1_grow 6 = .ok (.iaload, 1) := by decide +kernel
theorem dX1_grow_7 : decode cX1_grow 7 = .ok (.iconst 1, 1) := by decide +kernel
theorem dX1_grow_8 : decode cX1_grow 8 = .ok (.iadd, 1) := by decide +kernel
theorem dX1_grow_9 : decode cX1_grow 9 = .ok (.iastore, 1) := by decide +kernel
theorem dX1_grow_10 : decode cX1_grow 10 = .ok (.aload_n 0, 1) := by decide +kernel
theorem dX1_grow_11 : decode cX1_grow 11 = .ok (.aload_n 0, 1) := by decide +kernel
theorem dX1_grow_12 : decode cX1_grow 12 = .ok (.getfield 38, 3) := by decide +kernel
theorem dX1_grow_15 : decode cX1_grow 15 = .ok (.aload_n 0, 1) := by decide +kernel
theorem dX1_grow_16 : decode cX1_grow 16 = .ok (.getfield 18, 3) := by decide +kernel
theorem dX1_grow_19 : decode cX1_grow 19 = .ok (.iload_n 1, 1) := by decide +kernel
theorem dX1_grow_20 : decode cX1_grow 20 = .ok (.iaload, 1) := by decide +kernel
theorem dX1_grow_21 : decode cX1_grow 21 = .ok (.invokestatic 53, 3) := by decide +kernel
theorem dX1_grow_24 : decode cX1_grow 24 = .ok (.putfield 38, 3) := by decide +kernel
theorem dX1_grow_27 : decode cX1_grow 27 = .ok (.return_, 1) := by decide +kernel
theorem dX2_init_0 : decode cX2_init 0 = .ok (.aload_n 0, 1) := by decide +kernel
theorem dX2_init_1 : decode cX2_init 1 = .ok (.invokespecial 3, 3) := by decide +kernel
theorem dX2_init_4 : decode cX2_init 4 = .ok (.aload_n 0, 1) := by decide +kernel
theorem dX2_init_5 : decode cX2_init 5 = .ok (.bipush 20, 2) := by decide +kernel
theorem dX2_init_7 : decode cX2_init 7 = .ok (.newarray .int, 2) := by decide +kernel
theorem dX2_init_9 : decode cX2_init 9 = .ok (.putfield 9, 3) := by decide +kernel
theorem dX2_init_12 : decode cX2_init 12 = .ok (.aload_n 0, 1) := by decide +kernel
theorem dX2_init_13 : decode cX2_init 13 = .ok (.bipush 20, 2) := by decide +kernel
theorem dX2_init_15 : decode cX2_init 15 = .ok (.newarray .int, 2) := by decide +kernel
theorem dX2_init_17 : decode cX2_init 17 = .ok (.putfield 15, 3) := by decide +kernel
theorem dX2_init_20 : decode cX2_init 20 = .ok (.return_, 1) := by decide +kernel
theorem chIwsX2_execute_0 : ∀ w ∈ ([.code yX2_execute cX2_execute 4 none] : List Cond), w ∈ wsX2_execute := fun _ h => (List.mem_cons.mpr (Or.inl (List.mem_singleton.mp h)))
theorem chIwsX2_execute_1 : ∀ w ∈ (wsX2_execute_r1 : List Cond), w ∈ wsX2_execute := fun _ h => (List.mem_cons_of_mem _ (List.mem_append_left _ (List.mem_append_left _ (List.mem_append_left _ (List.mem_append_left _ h)))))
theorem chIwsX2_execute_2 : ∀ w ∈ (wsX2_execute_r2 : List Cond), w ∈ wsX2_execute := fun _ h => (List.mem_cons_of_mem _ (List.mem_append_left _ (List.mem_append_left _ (List.mem_append_left _ (List.mem_append_right _ h)))))
theorem chIwsX2_execute_3 : ∀ w ∈ (wsX20 : List Cond), w ∈ wsX2_execute := fun _ h => (List.mem_cons_of_mem _ (List.mem_append_left _ (List.mem_append_left _ (List.mem_append_right _ h))))
theorem chIwsX2_execute_4 : ∀ w ∈ (wsX40 : List Cond), w ∈ wsX2_execute := fun _ h => (List.mem_cons_of_mem _ (List.mem_append_left _ (List.mem_append_right _ h)))
theorem chIwsX2_execute_5 : ∀ w ∈ (wsX50 : List Cond), w ∈ wsX2_execute := fun _ h => (List.mem_cons_of_mem _ (List.mem_append_right _ h))
def chwsX2_execute : Nat → List Cond
  | 0 => [.code yX2_execute cX2_execute 4 none]
  | 1 => wsX2_execute_r1
  | 2 => wsX2_execute_r2
  | 3 => wsX20
  | 4 => wsX40
  | 5 => wsX50
  | _ => []
theorem chwsX2_execute_in : ∀ (j : Nat) (w : Cond), w ∈ chwsX2_execute j → w ∈ wsX2_execute
  | 0, w, h => chIwsX2_execute_0 w h
  | 1, w, h => chIwsX2_execute_1 w h
  | 2, w, h => chIwsX2_execute_2 w h
  | 3, w, h => chIwsX2_execute_3 w h
  | 4, w, h => chIwsX2_execute_4 w h
  | 5, w, h => chIwsX2_execute_5 w h
  | _ + 6, _, h => absurd h List.not_mem_nil
set_option maxRecDepth 20000 in
theorem ggX2_execute_X2_doStatements : GoodIn wsX2_execute wsX2_doStatements := goodIn_r2 chwsX2_execute chwsX2_execute_in _ [(1, 8), (1, 1), (1, 9), (1, 10), (1, 11), (1, 12), (1, 13), (1, 14), (1, 15), (1, 16), (1, 17), (1, 18), (1, 19), (1, 20), (1, 21), (1, 7), (1, 22), (1, 23), (2, 0), (2, 1), (1, 0), (2, 2), (2, 3), (2, 4), (2, 5), (2, 6), (2, 7), (2, 8), (2, 9), (2, 10), (2, 11), (1, 2), (2, 12), (2, 13), (1, 4), (1, 5), (1, 6), (3, 0), (3, 1), (3, 2), (3, 3), (3, 4), (4, 0), (4, 1), (4, 2), (4, 3), (4, 4), (4, 5), (5, 0), (5, 1), (5, 2), (5, 3), (5, 4), (5, 5), (5, 6), (5, 7), (5, 8)] rfl (by decide +kernel)
set_option maxRecDepth 20000 in
theorem gX2_execute_X2_doStatements : GoodIn wsX2_execute (wsV RX2 33 RX2 yX2_doStatements wsX2_doStatements) := goodIn_app (goodIn_r2 chwsX2_execute chwsX2_execute_in _ [(1, 4), (1, 5), (1, 6), (1, 7)] rfl (by decide +kernel)) ggX2_execute_X2_doStatements
theorem dX2_execute_0 : decode cX2_execute 0 = .ok (.aload_n 0, 1) := by decide +kernel
theorem dX2_execute_1 : decode cX2_execute 1 = .ok (.iload_n 2, 1) := by decide +kernel
theorem dX2_execute_2 : decode cX2_execute 2 = .ok (.putfield 18, 3) := by decide +kernel
theorem dX2_execute_5 : decode cX2_execute 5 = .ok (.aload_n 0, 1) := by decide +kernel
theorem dX2_execute_6 : decode cX2_execute 6 = .ok (.iconst 0, 1) := by decide +kernel
theorem dX2_execute_7 : decode cX2_execute 7 = .ok (.putfield 22, 3) := by decide +kernel
theorem dX2_execute_10 : decode cX2_execute 10 = .ok (.aload_n 0, 1) := by decide +kernel
theorem dX2_execute_11 : decode cX2_execute 11 = .ok (.iconst 0, 1) := by decide +kernel
theorem dX2_execute_12 : decode cX2_execute 12 = .ok (.putfield 25, 3) := by decide +kernel
theorem dX2_execute_15 : decode cX2_execute 15 = .ok (.aload_n 0, 1) := by decide +kernel
theorem dX2_execute_16 : decode cX2_execute 16 = .ok (.aload_n 1, 1) := by decide +kernel
theorem dX2_execute_17 : decode cX2_execute 17 = .ok (.iconst 0, 1) := by decide +kernel
theorem dX2_execute_18 : decode cX2_execute 18 = .ok (.aload_n 1, 1) := by decide +kernel
theorem dX2_execute_19 : decode cX2_execute 19 = .ok (.getfield 28, 3) := by decide +kernel
theorem dX2_execute_22 : decode cX2_execute 22 = .ok (.iload_n 3, 1) := by decide +kernel
theorem dX2_execute_23 : decode cX2_execute 23 = .ok (.iconst 0, 1) := by decide +kernel
theorem dX2_execute_24 : decode cX2_execute 24 = .ok (.invokevirtual 33, 3) := by decide +kernel
theorem dX2_execute_27 : decode cX2_execute 27 = .ok (.return_, 1) := by decide +kernel
theorem dX2_kept_0 : decode cX2_kept 0 = .ok (.aload_n 0, 1) := by decide +kernel
theorem dX2_kept_1 : decode cX2_kept 1 = .ok (.getfield 25, 3) := by decide +kernel
theorem dX2_kept_4 : decode cX2_kept 4 = .ok (.bipush 20, 2) := by decide +kernel
theorem dX2_kept_6 : decode cX2_kept 6 = .ok (.invokestatic 37, 3) := by decide +kernel
theorem dX2_kept_9 : decode cX2_kept 9 = .ok (.ireturn, 1) := by decide +kernel
theorem chIwsX2_doStatements_0 : ∀ w ∈ ([.code yX2_doStatements cX2_doStatements 9 none] : List Cond), w ∈ wsX2_doStatements := fun _ h => (List.mem_cons.mpr (Or.inl (List.mem_singleton.mp h)))
theorem chIwsX2_doStatements_1 : ∀ w ∈ (wsX2_doStatements_r1 : List Cond), w ∈ wsX2_doStatements := fun _ h => (List.mem_cons_of_mem _ (List.mem_append_left _ (List.mem_append_left _ (List.mem_append_left _ (List.mem_append_left _ h)))))
theorem chIwsX2_doStatements_2 : ∀ w ∈ (wsX2_doStatements_r2 : List Cond), w ∈ wsX2_doStatements := fun _ h => (List.mem_cons_of_mem _ (List.mem_append_left _ (List.mem_append_left _ (List.mem_append_left _ (List.mem_append_right _ h)))))
theorem chIwsX2_doStatements_3 : ∀ w ∈ (wsX20 : List Cond), w ∈ wsX2_doStatements := fun _ h => (List.mem_cons_of_mem _ (List.mem_append_left _ (List.mem_append_left _ (List.mem_append_right _ h))))
theorem chIwsX2_doStatements_4 : ∀ w ∈ (wsX40 : List Cond), w ∈ wsX2_doStatements := fun _ h => (List.mem_cons_of_mem _ (List.mem_append_left _ (List.mem_append_right _ h)))
theorem chIwsX2_doStatements_5 : ∀ w ∈ (wsX50 : List Cond), w ∈ wsX2_doStatements := fun _ h => (List.mem_cons_of_mem _ (List.mem_append_right _ h))
def chwsX2_doStatements : Nat → List Cond
  | 0 => [.code yX2_doStatements cX2_doStatements 9 none]
  | 1 => wsX2_doStatements_r1
  | 2 => wsX2_doStatements_r2
  | 3 => wsX20
  | 4 => wsX40
  | 5 => wsX50
  | _ => []
theorem chwsX2_doStatements_in : ∀ (j : Nat) (w : Cond), w ∈ chwsX2_doStatements j → w ∈ wsX2_doStatements
  | 0, w, h => chIwsX2_doStatements_0 w h
  | 1, w, h => chIwsX2_doStatements_1 w h
  | 2, w, h => chIwsX2_doStatements_2 w h
  | 3, w, h => chIwsX2_doStatements_3 w h
  | 4, w, h => chIwsX2_doStatements_4 w h
  | 5, w, h => chIwsX2_doStatements_5 w h
  | _ + 6, _, h => absurd h List.not_mem_nil
set_option maxRecDepth 20000 in
theorem ggX2_doStatements_X2_valueOf : GoodIn wsX2_doStatements wsX2_valueOf := goodIn_r2 chwsX2_doStatements chwsX2_doStatements_in _ [(1, 15), (1, 16), (1, 17), (1, 18), (1, 19), (1, 20), (1, 21), (5, 0), (5, 1), (5, 2), (5, 3), (5, 4), (5, 5), (5, 6), (5, 7), (5, 8), (4, 0), (4, 1), (4, 2), (4, 3), (4, 4), (4, 5), (3, 0), (3, 1), (3, 2), (3, 3), (3, 4)] rfl (by decide +kernel)
set_option maxRecDepth 20000 in
theorem gX2_doStatements_X2_valueOf : GoodIn wsX2_doStatements (wsV RX2 58 RX2 yX2_valueOf wsX2_valueOf) := goodIn_app (goodIn_r2 chwsX2_doStatements chwsX2_doStatements_in _ [(1, 11), (1, 12), (1, 13), (1, 14)] rfl (by decide +kernel)) ggX2_doStatements_X2_valueOf
set_option maxRecDepth 20000 in
theorem ggX2_doStatements_X2_assign : GoodIn wsX2_doStatements wsX2_assign := goodIn_r2 chwsX2_doStatements chwsX2_doStatements_in _ [(2, 1), (1, 19), (3, 0), (3, 1), (3, 2), (3, 3), (3, 4)] rfl (by decide +kernel)
set_option maxRecDepth 20000 in
theorem gX2_doStatements_X2_assign : GoodIn wsX2_doStatements (wsV RX2 62 RX2 yX2_assign wsX2_assign) := goodIn_app (goodIn_r2 chwsX2_doStatements chwsX2_doStatements_in _ [(1, 22), (1, 23), (2, 0), (1, 14)] rfl (by decide +kernel)) ggX2_doStatements_X2_assign
set_option maxRecDepth 20000 in
theorem ggX2_doStatements_X2_putOut : GoodIn wsX2_doStatements wsX2_putOut := goodIn_r2 chwsX2_doStatements chwsX2_doStatements_in _ [(2, 5), (2, 6), (2, 7), (2, 8), (3, 0), (3, 1), (3, 2), (3, 3), (3, 4)] rfl (by decide +kernel)
set_option maxRecDepth 20000 in
theorem gX2_doStatements_X2_putOut : GoodIn wsX2_doStatements (wsV RX2 66 RX2 yX2_putOut wsX2_putOut) := goodIn_app (goodIn_r2 chwsX2_doStatements chwsX2_doStatements_in _ [(2, 2), (2, 3), (2, 4), (1, 14)] rfl (by decide +kernel)) ggX2_doStatements_X2_putOut
set_option maxRecDepth 20000 in
theorem ggX2_doStatements_X2_doStatements : GoodIn wsX2_doStatements wsX2_doStatements := goodIn_r2 chwsX2_doStatements chwsX2_doStatements_in _ [(0, 0), (1, 0), (1, 1), (1, 2), (1, 3), (1, 4), (1, 5), (1, 6), (1, 7), (1, 8), (1, 9), (1, 10), (1, 11), (1, 12), (1, 13), (1, 14), (1, 15), (1, 16), (1, 17), (1, 18), (1, 19), (1, 20), (1, 21), (1, 22), (1, 23), (2, 0), (2, 1), (2, 2), (2, 3), (2, 4), (2, 5), (2, 6), (2, 7), (2, 8), (2, 9), (2, 10), (2, 11), (3, 0), (3, 1), (3, 2), (3, 3), (3, 4), (4, 0), (4, 1), (4, 2), (4, 3), (4, 4), (4, 5), (5, 0), (5, 1), (5, 2), (5, 3), (5, 4), (5, 5), (5, 6), (5, 7), (5, 8)] rfl (by decide +kernel)
set_option maxRecDepth 20000 in
theorem gX2_doStatements_X2_doStatements : GoodIn wsX2_doStatements (wsV RX2 33 RX2 yX2_doStatements wsX2_doStatements) := goodIn_app (goodIn_r2 chwsX2_doStatements chwsX2_doStatements_in _ [(2, 9), (2, 10), (2, 11), (1, 14)] rfl (by decide +kernel)) ggX2_doStatements_X2_doStatements
theorem dX2_doStatements_0 : decode cX2_doStatements 0 = .ok (.iload 5, 2) := by decide +kernel
theorem dX2_doStatements_2 : decode cX2_doStatements 2 = .ok (.bipush 6, 2) := by decide +kernel
theorem dX2_doStatements_4 : decode cX2_doStatements 4 = .ok (.if_icmp .le 4, 3) := by decide +kernel
theorem dX2_doStatements_7 : decode cX2_doStatements 7 = .ok (.return_, 1) := by decide +kernel
theorem dX2_doStatements_8 : decode cX2_doStatements 8 = .ok (.iload_n 2, 1) := by decide +kernel
theorem dX2_doStatements_9 : decode cX2_doStatements 9 = .ok (.istore 6, 2) := by decide +kernel
theorem dX2_doStatements_11 : decode cX2_doStatements 11 = .ok (.iload 6, 2) := by decide +kernel
theorem dX2_doStatements_13 : decode cX2_doStatements 13 = .ok (.iload_n 3, 1) := by decide +kernel
theorem dX2_doStatements_14 : decode cX2_doStatements 14 = .ok (.if_icmp .ge 245, 3) := by decide +kernel
theorem dX2_doStatements_17 : decode cX2_doStatements 17 = .ok (.iload 6, 2) := by decide +kernel
theorem dX2_doStatements_19 : decode cX2_doStatements 19 = .ok (.bipush 30, 2) := by decide +kernel
theorem dX2_doStatements_21 : decode cX2_doStatements 21 = .ok (.if_icmp .ge 238, 3) := by decide +kernel
theorem dX2_doStatements_24 : decode cX2_doStatements 24 = .ok (.aload_n 0, 1) := by decide +kernel
theorem dX2_doStatements_25 : decode cX2_doStatements 25 = .ok (.getfield 22, 3) := by decide +kernel
theorem dX2_doStatements_28 : decode cX2_doStatements 28 = .ok (.sipush 400, 3) := by decide +kernel
theorem dX2_doStatements_31 : decode cX2_doStatements 31 = .ok (.if_icmp .ge 228, 3) := by decide +kernel
theorem dX2_doStatements_34 : decode cX2_doStatements 34 = .ok (.aload_n 1, 1) := by decide +kernel
theorem dX2_doStatements_35 : decode cX2_doStatements 35 = .ok (.getfield 43, 3) := by decide +kernel
theorem dX2_doStatements_38 : decode cX2_doStatements 38 = .ok (.iload 6, 2) := by decide +kernel
theorem dX2_doStatements_40 : decode cX2_doStatements 40 = .ok (.aaload, 1) := by decide +kernel
theorem dX2_doStatements_41 : decode cX2_doStatements 41 = .ok (.astore 7, 2) := by decide +kernel
theorem dX2_doStatements_43 : decode cX2_doStatements 43 = .ok (.aload 7, 2) := by decide +kernel
theorem dX2_doStatements_45 : decode cX2_doStatements 45 = .ok (.getfield 47, 3) := by decide +kernel
theorem dX2_doStatements_48 : decode cX2_doStatements 48 = .ok (.iconst 1, 1) := by decide +kernel
theorem dX2_doStatements_49 : decode cX2_doStatements 49 = .ok (.if_icmp .ne 16, 3) := by decide +kernel
theorem dX2_doStatements_52 : decode cX2_doStatements 52 = .ok (.iload 4, 2) := by decide +kernel
theorem dX2_doStatements_54 : decode cX2_doStatements 54 = .ok (.aload 7, 2) := by decide +kernel
theorem dX2_doStatements_56 : decode cX2_doStatements 56 = .ok (.getfield 52, 3) := by decide +kernel
theorem dX2_doStatements_59 : decode cX2_doStatements 59 = .ok (.iushr, 1) := by decide +kernel
theorem dX2_doStatements_60 : decode cX2_doStatements 60 = .ok (.iconst 1, 1) := by decide +kernel
theorem dX2_doStatements_61 : decode cX2_doStatements 61 = .ok (.iand, 1) := by decide +kernel
theorem dX2_doStatements_62 : decode cX2_doStatements 62 = .ok (.ifCond .ne 180, 3) := by decide +kernel
theorem dX2_doStatements_65 : decode cX2_doStatements 65 = .ok (.aload_n 0, 1) := by decide +kernel
theorem dX2_doStatements_66 : decode cX2_doStatements 66 = .ok (.dup, 1) := by decide +kernel
theorem dX2_doStatements_67 : decode cX2_doStatements 67 = .ok (.getfield 22, 3) := by decide +kernel
theorem dX2_doStatements_70 : decode cX2_doStatements 70 = .ok (.iconst 1, 1) := by decide +kernel
theorem dX2_doStatements_71 : decode cX2_doStatements 71 = .ok (.iadd, 1) := by decide +kernel
theorem dX2_doStatements_72 : decode cX2_doStatements 72 = .ok (.putfield 22, 3) := by decide +kernel
theorem dX2_doStatements_75 : decode cX2_doStatements 75 = .ok (.aload 7, 2) := by decide +kernel
theorem dX2_doStatements_77 : decode cX2_doStatements 77 = .ok (.getfield 47, 3) := by decide +kernel
theorem dX2_doStatements_80 : decode cX2_doStatements 80 = .ok (.tableswitch 123 0 2 #[28, 47, 66], 28) := by decide +kernel
theorem dX2_doStatements_108 : decode cX2_doStatements 108 = .ok (.aload_n 0, 1) := by decide +kernel
theorem dX2_doStatements_109 : decode cX2_doStatements 109 = .ok (.aload 7, 2) := by decide +kernel
theorem dX2_doStatements_111 : decode cX2_doStatements 111 = .ok (.getfield 55, 3) := by decide +kernel
theorem dX2_doStatements_114 : decode cX2_doStatements 114 = .ok (.aload_n 0, 1) := by decide +kernel
theorem dX2_doStatements_115 : decode cX2_doStatements 115 = .ok (.aload_n 1, 1) := by decide +kernel
theorem dX2_doStatements_116 : decode cX2_doStatements 116 = .ok (.aload 7, 2) := by decide +kernel
theorem dX2_doStatements_118 : decode cX2_doStatements 118 = .ok (.invokevirtual 58, 3) := by decide +kernel
theorem dX2_doStatements_121 : decode cX2_doStatements 121 = .ok (.invokevirtual 62, 3) := by decide +kernel
theorem dX2_doStatements_124 : decode cX2_doStatements 124 = .ok (.goto 118, 3) := by decide +kernel
theorem dX2_doStatements_127 : decode cX2_doStatements 127 = .ok (.aload_n 0, 1) := by decide +kernel
theorem dX2_doStatements_128 : decode cX2_doStatements 128 = .ok (.aload_n 0, 1) := by decide +kernel
theorem dX2_doStatements_129 : decode cX2_doStatements 129 = .ok (.aload_n 1, 1) := by decide +kernel
theorem dX2_doStatements_130 : decode cX2_doStatements 130 = .ok (.aload 7, 2) := by decide +kernel
theorem dX2_doStatements_132 : decode cX2_doStatements 132 = .ok (.invokevirtual 58, 3) := by decide +kernel
theorem dX2_doStatements_135 : decode cX2_doStatements 135 = .ok (.aload 7, 2) := by decide +kernel
theorem dX2_doStatements_137 : decode cX2_doStatements 137 = .ok (.getfield 55, 3) := by decide +kernel
theorem dX2_doStatements_140 : decode cX2_doStatements 140 = .ok (.invokevirtual 66, 3) := by decide +kernel
theorem dX2_doStatements_143 : decode cX2_doStatements 143 = .ok (.goto 99, 3) := by decide +kernel
theorem dX2_doStatements_146 : decode cX2_doStatements 146 = .ok (.aload_n 0, 1) := by decide +kernel
theorem dX2_doStatements_147 : decode cX2_doStatements 147 = .ok (.aload_n 1, 1) := by decide +kernel
theorem dX2_doStatements_148 : decode cX2_doStatements 148 = .ok (.aload 7, 2) := by decide +kernel
theorem dX2_doStatements_150 : decode cX2_doStatements 150 = .ok (.invokevirtual 58, 3) := by decide +kernel
theorem dX2_doStatements_153 : decode cX2_doStatements 153 = .ok (.ifCond .eq 26, 3) := by decide +kernel
theorem dX2_doStatements_156 : decode cX2_doStatements 156 = .ok (.aload_n 0, 1) := by decide +kernel
theorem dX2_doStatements_157 : decode cX2_doStatements 157 = .ok (.aload_n 1, 1) := by decide +kernel
theorem dX2_doStatements_158 : decode cX2_doStatements 158 = .ok (.iload 6, 2) := by decide +kernel
theorem dX2_doStatements_160 : decode cX2_doStatements 160 = .ok (.iconst 1, 1) := by decide +kernel
theorem dX2_doStatements_161 : decode cX2_doStatements 161 = .ok (.iadd, 1) := by decide +kernel
theorem dX2_doStatements_162 : decode cX2_doStatements 162 = .ok (.aload 7, 2) := by decide +kernel
theorem dX2_doStatements_164 : decode cX2_doStatements 164 = .ok (.getfield 69, 3) := by decide +kernel
theorem dX2_doStatements_167 : decode cX2_doStatements 167 = .ok (.iload 4, 2) := by decide +kernel
theorem dX2_doStatements_169 : decode cX2_doStatements 169 = .ok (.iload 5, 2) := by decide +kernel
theorem dX2_doStatements_171 : decode cX2_doStatements 171 = .ok (.iconst 1, 1) := by decide +kernel
theorem dX2_doStatements_172 : decode cX2_doStatements 172 = .ok (.iadd, 1) := by decide +kernel
theorem dX2_doStatements_173 : decode cX2_doStatements 173 = .ok (.invokevirtual 33, 3) := by decide +kernel
theorem dX2_doStatements_176 : decode cX2_doStatements 176 = .ok (.goto 66, 3) := by decide +kernel
theorem dX2_doStatements_179 : decode cX2_doStatements 179 = .ok (.aload_n 0, 1) := by decide +kernel
theorem dX2_doStatements_180 : decode cX2_doStatements 180 = .ok (.aload_n 1, 1) := by decide +kernel
theorem dX2_doStatements_181 : decode cX2_doStatements 181 = .ok (.aload 7, 2) := by decide +kernel
theorem dX2_doStatements_183 : decode cX2_doStatements 183 = .ok (.getfield 69, 3) := by decide +kernel
theorem dX2_doStatements_186 : decode cX2_doStatements 186 = .ok (.aload 7, 2) := by decide +kernel
theorem dX2_doStatements_188 : decode cX2_doStatements 188 = .ok (.getfield 72, 3) := by decide +kernel
theorem dX2_doStatements_191 : decode cX2_doStatements 191 = .ok (.iload 4, 2) := by decide +kernel
theorem dX2_doStatements_193 : decode cX2_doStatements 193 = .ok (.iload 5, 2) := by decide +kernel
theorem dX2_doStatements_195 : decode cX2_doStatements 195 = .ok (.iconst 1, 1) := by decide +kernel
theorem dX2_doStatements_196 : decode cX2_doStatements 196 = .ok (.iadd, 1) := by decide +kernel
theorem dX2_doStatements_197 : decode cX2_doStatements 197 = .ok (.invokevirtual 33, 3) := by decide +kernel
theorem dX2_doStatements_200 : decode cX2_doStatements 200 = .ok (.goto 42, 3) := by decide +kernel
theorem dX2_doStatements_203 : decode cX2_doStatements 203 = .ok (.iconst 0, 1) := by decide +kernel
theorem dX2_doStatements_204 : decode cX2_doStatements 204 = .ok (.istore 8, 2) := by decide +kernel
theorem dX2_doStatements_206 : decode cX2_doStatements 206 = .ok (.iload 8, 2) := by decide +kernel
theorem dX2_doStatements_208 : decode cX2_doStatements 208 = .ok (.aload 7, 2) := by decide +kernel
theorem dX2_doStatements_210 : decode cX2_doStatements 210 = .ok (.getfield 55, 3) := by decide +kernel
theorem dX2_doStatements_213 : decode cX2_doStatements 213 = .ok (.if_icmp .ge 29, 3) := by decide +kernel
theorem dX2_doStatements_216 : decode cX2_doStatements 216 = .ok (.aload_n 0, 1) := by decide +kernel
theorem dX2_doStatements_217 : decode cX2_doStatements 217 = .ok (.aload_n 1, 1) := by decide +kernel
theorem dX2_doStatements_218 : decode cX2_doStatements 218 = .ok (.iload 6, 2) := by decide +kernel
theorem dX2_doStatements_220 : decode cX2_doStatements 220 = .ok (.iconst 1, 1) := by decide +kernel
theorem dX2_doStatements_221 : decode cX2_doStatements 221 = .ok (.iadd, 1) := by decide +kernel
theorem dX2_doStatements_222 : decode cX2_doStatements 222 = .ok (.aload 7, 2) := by decide +kernel
theorem dX2_doStatements_224 : decode cX2_doStatements 224 = .ok (.getfield 72, 3) := by decide +kernel
theorem dX2_doStatements_227 : decode cX2_doStatements 227 = .ok (.iload 4, 2) := by decide +kernel
theorem dX2_doStatements_229 : decode cX2_doStatements 229 = .ok (.iload 5, 2) := by decide +kernel
theorem dX2_doStatements_231 : decode cX2_doStatements 231 = .ok (.iconst 1, 1) := by decide +kernel
theorem dX2_doStatements_232 : decode cX2_doStatements 232 = .ok (.iadd, 1) := by decide +kernel
theorem dX2_doStatements_233 : decode cX2_doStatements 233 = .ok (.invokevirtual 33, 3) := by decide +kernel
theorem dX2_doStatements_236 : decode cX2_doStatements 236 = .ok (.iinc 8 1, 3) := by decide +kernel
theorem dX2_doStatements_239 : decode cX2_doStatements 239 = .ok (.goto (-33), 3) := by decide +kernel
theorem dX2_doStatements_242 : decode cX2_doStatements 242 = .ok (.iload 6, 2) := by decide +kernel
theorem dX2_doStatements_244 : decode cX2_doStatements 244 = .ok (.iconst 1, 1) := by decide +kernel
theorem dX2_doStatements_245 : decode cX2_doStatements 245 = .ok (.iadd, 1) := by decide +kernel
theorem dX2_doStatements_246 : decode cX2_doStatements 246 = .ok (.aload 7, 2) := by decide +kernel
theorem dX2_doStatements_248 : decode cX2_doStatements 248 = .ok (.getfield 72, 3) := by decide +kernel
theorem dX2_doStatements_251 : decode cX2_doStatements 251 = .ok (.invokestatic 75, 3) := by decide +kernel
theorem dX2_doStatements_254 : decode cX2_doStatements 254 = .ok (.istore 6, 2) := by decide +kernel
theorem dX2_doStatements_256 : decode cX2_doStatements 256 = .ok (.goto (-245), 3) := by decide +kernel
theorem dX2_doStatements_259 : decode cX2_doStatements 259 = .ok (.return_, 1) := by decide +kernel
theorem dX2_assign_0 : decode cX2_assign 0 = .ok (.iconst 2, 1) := by decide +kernel
theorem dX2_assign_1 : decode cX2_assign 1 = .ok (.iload_n 1, 1) := by decide +kernel
theorem dX2_assign_2 : decode cX2_assign 2 = .ok (.imul, 1) := by decide +kernel
theorem dX2_assign_3 : decode cX2_assign 3 = .ok (.istore_n 3, 1) := by decide +kernel
theorem dX2_assign_4 : decode cX2_assign 4 = .ok (.aload_n 0, 1) := by decide +kernel
theorem dX2_assign_5 : decode cX2_assign 5 = .ok (.aload_n 0, 1) := by decide +kernel
theorem dX2_assign_6 : decode cX2_assign 6 = .ok (.getfield 18, 3) := by decide +kernel
theorem dX2_assign_9 : decode cX2_assign 9 = .ok (.iconst 3, 1) := by decide +kernel
theorem dX2_assign_10 : decode cX2_assign 10 = .ok (.iload_n 3, 1) := by decide +kernel
theorem dX2_assign_11 : decode cX2_assign 11 = .ok (.ishl, 1) := by decide +kernel
theorem dX2_assign_12 : decode cX2_assign 12 = .ok (.iconst (-1), 1) := by decide +kernel
theorem dX2_assign_13 : decode cX2_assign 13 = .ok (.ixor, 1) := by decide +kernel
theorem dX2_assign_14 : decode cX2_assign 14 = .ok (.iand, 1) := by decide +kernel
theorem dX2_assign_15 : decode cX2_assign 15 = .ok (.iload_n 2, 1) := by decide +kernel
theorem dX2_assign_16 : decode cX2_assign 16 = .ok (.iload_n 3, 1) := by decide +kernel
theorem dX2_assign_17 : decode cX2_assign 17 = .ok (.ishl, 1) := by decide +kernel
theorem dX2_assign_18 : decode cX2_assign 18 = .ok (.ior, 1) := by decide +kernel
theorem dX2_assign_19 : decode cX2_assign 19 = .ok (.putfield 18, 3) := by decide +kernel
theorem dX2_assign_22 : decode cX2_assign 22 = .ok (.return_, 1) := by decide +kernel
theorem dX2_putOut_0 : decode cX2_putOut 0 = .ok (.aload_n 0, 1) := by decide +kernel
theorem dX2_putOut_1 : decode cX2_putOut 1 = .ok (.getfield 25, 3) := by decide +kernel
theorem dX2_putOut_4 : decode cX2_putOut 4 = .ok (.bipush 20, 2) := by decide +kernel
theorem dX2_putOut_6 : decode cX2_putOut 6 = .ok (.if_icmp .ge 23, 3) := by decide +kernel
theorem dX2_putOut_9 : decode cX2_putOut 9 = .ok (.aload_n 0, 1) := by decide +kernel
theorem dX2_putOut_10 : decode cX2_putOut 10 = .ok (.getfield 9, 3) := by decide +kernel
theorem dX2_putOut_13 : decode cX2_putOut 13 = .ok (.aload_n 0, 1) := by decide +kernel
theorem dX2_putOut_14 : decode cX2_putOut 14 = .ok (.getfield 25, 3) := by decide +kernel
theorem dX2_putOut_17 : decode cX2_putOut 17 = .ok (.iload_n 1, 1) := by decide +kernel
theorem dX2_putOut_18 : decode cX2_putOut 18 = .ok (.iastore, 1) := by decide +kernel
theorem dX2_putOut_19 : decode cX2_putOut 19 = .ok (.aload_n 0, 1) := by decide +kernel
theorem dX2_putOut_20 : decode cX2_putOut 20 = .ok (.getfield 15, 3) := by decide +kernel
theorem dX2_putOut_23 : decode cX2_putOut 23 = .ok (.aload_n 0, 1) := by decide +kernel
theorem dX2_putOut_24 : decode cX2_putOut 24 = .ok (.getfield 25, 3) := by decide +kernel
theorem dX2_putOut_27 : decode cX2_putOut 27 = .ok (.iload_n 2, 1) := by decide +kernel
theorem dX2_putOut_28 : decode cX2_putOut 28 = .ok (.iastore, 1) := by decide +kernel
theorem dX2_putOut_29 : decode cX2_putOut 29 = .ok (.aload_n 0, 1) := by decide +kernel
theorem dX2_putOut_30 : decode cX2_putOut 30 = .ok (.dup, 1) := by decide +kernel
theorem dX2_putOut_31 : decode cX2_putOut 31 = .ok (.getfield 25, 3) := by decide +kernel
theorem dX2_putOut_34 : decode cX2_putOut 34 = .ok (.iconst 1, 1) := by decide +kernel
theorem dX2_putOut_35 : decode cX2_putOut 35 = .ok (.iadd, 1) := by decide +kernel
theorem dX2_putOut_36 : decode cX2_putOut 36 = .ok (.putfield 25, 3) := by decide +kernel
theorem dX2_putOut_39 : decode cX2_putOut 39 = .ok (.return_, 1) := by decide +kernel
theorem dX2_valueOf_0 : decode cX2_valueOf 0 = .ok (.lconst 0, 1) := by decide +kernel
theorem dX2_valueOf_1 : decode cX2_valueOf 1 = .ok (.lstore_n 3, 1) := by decide +kernel
theorem dX2_valueOf_2 : decode cX2_valueOf 2 = .ok (.aload_n 2, 1) := by decide +kernel
theorem dX2_valueOf_3 : decode cX2_valueOf 3 = .ok (.getfield 78, 3) := by decide +kernel
theorem dX2_valueOf_6 : decode cX2_valueOf 6 = .ok (.istore 5, 2) := by decide +kernel
theorem dX2_valueOf_8 : decode cX2_valueOf 8 = .ok (.iload 5, 2) := by decide +kernel
theorem dX2_valueOf_10 : decode cX2_valueOf 10 = .ok (.aload_n 2, 1) := by decide +kernel
theorem dX2_valueOf_11 : decode cX2_valueOf 11 = .ok (.getfield 81, 3) := by decide +kernel
theorem dX2_valueOf_14 : decode cX2_valueOf 14 = .ok (.if_icmp .ge 239, 3) := by decide +kernel
theorem dX2_valueOf_17 : decode cX2_valueOf 17 = .ok (.iload 5, 2) := by decide +kernel
theorem dX2_valueOf_19 : decode cX2_valueOf 19 = .ok (.sipush 300, 3) := by decide +kernel
theorem dX2_valueOf_22 : decode cX2_valueOf 22 = .ok (.if_icmp .ge 231, 3) := by decide +kernel
theorem dX2_valueOf_25 : decode cX2_valueOf 25 = .ok (.aload_n 1, 1) := by decide +kernel
theorem dX2_valueOf_26 : decode cX2_valueOf 26 = .ok (.getfield 84, 3) := by decide +kernel
theorem dX2_valueOf_29 : decode cX2_valueOf 29 = .ok (.iload 5, 2) := by decide +kernel
theorem dX2_valueOf_31 : decode cX2_valueOf 31 = .ok (.iaload, 1) := by decide +kernel
theorem dX2_valueOf_32 : decode cX2_valueOf 32 = .ok (.istore 6, 2) := by decide +kernel
theorem dX2_valueOf_34 : decode cX2_valueOf 34 = .ok (.iload 6, 2) := by decide +kernel
theorem dX2_valueOf_36 : decode cX2_valueOf 36 = .ok (.iconst 4, 1) := by decide +kernel
theorem dX2_valueOf_37 : decode cX2_valueOf 37 = .ok (.if_icmp .ge 14, 3) := by decide +kernel
theorem dX2_valueOf_40 : decode cX2_valueOf 40 = .ok (.lload_n 3, 1) := by decide +kernel
theorem dX2_valueOf_41 : decode cX2_valueOf 41 = .ok (.iconst 2, 1) := by decide +kernel
theorem dX2_valueOf_42 : decode cX2_valueOf 42 = .ok (.lshl, 1) := by decide +kernel
theorem dX2_valueOf_43 : decode cX2_valueOf 43 = .ok (.iload 6, 2) := by decide +kernel
theorem dX2_valueOf_45 : decode cX2_valueOf 45 = .ok (.i2l, 1) := by decide +kernel
theorem dX2_valueOf_46 : decode cX2_valueOf 46 = .ok (.lor, 1) := by decide +kernel
theorem dX2_valueOf_47 : decode cX2_valueOf 47 = .ok (.lstore_n 3, 1) := by decide +kernel
theorem dX2_valueOf_48 : decode cX2_valueOf 48 = .ok (.goto 199, 3) := by decide +kernel
theorem dX2_valueOf_51 : decode cX2_valueOf 51 = .ok (.iload 6, 2) := by decide +kernel
theorem dX2_valueOf_53 : decode cX2_valueOf 53 = .ok (.bipush 16, 2) := by decide +kernel
theorem dX2_valueOf_55 : decode cX2_valueOf 55 = .ok (.if_icmp .ge 23, 3) := by decide +kernel
theorem dX2_valueOf_58 : decode cX2_valueOf 58 = .ok (.lload_n 3, 1) := by decide +kernel
theorem dX2_valueOf_59 : decode cX2_valueOf 59 = .ok (.iconst 2, 1) := by decide +kernel
theorem dX2_valueOf_60 : decode cX2_valueOf 60 = .ok (.lshl, 1) := by decide +kernel
theorem dX2_valueOf_61 : decode cX2_valueOf 61 = .ok (.aload_n 0, 1) := by decide +kernel
theorem dX2_valueOf_62 : decode cX2_valueOf 62 = .ok (.getfield 18, 3) := by decide +kernel
theorem dX2_valueOf_65 : decode cX2_valueOf 65 = .ok (.iload 6, 2) := by decide +kernel
theorem dX2_valueOf_67 : decode cX2_valueOf 67 = .ok (.iconst 4, 1) := by decide +kernel
theorem dX2_valueOf_68 : decode cX2_valueOf 68 = .ok (.isub, 1) := by decide +kernel
theorem dX2_valueOf_69 : decode cX2_valueOf 69 = .ok (.iushr, 1) := by decide +kernel
theorem dX2_valueOf_70 : decode cX2_valueOf 70 = .ok (.iconst 3, 1) := by decide +kernel
theorem dX2_valueOf_71 : decode cX2_valueOf 71 = .ok (.iand, 1) := by decide +kernel
theorem dX2_valueOf_72 : decode cX2_valueOf 72 = .ok (.i2l, 1) := by decide +kernel
theorem dX2_valueOf_73 : decode cX2_valueOf 73 = .ok (.lor, 1) := by decide +kernel
theorem dX2_valueOf_74 : decode cX2_valueOf 74 = .ok (.lstore_n 3, 1) := by decide +kernel
theorem dX2_valueOf_75 : decode cX2_valueOf 75 = .ok (.goto 172, 3) := by decide +kernel
theorem dX2_valueOf_78 : decode cX2_valueOf 78 = .ok (.iload 6, 2) := by decide +kernel
theorem dX2_valueOf_80 : decode cX2_valueOf 80 = .ok (.bipush 20, 2) := by decide +kernel
theorem dX2_valueOf_82 : decode cX2_valueOf 82 = .ok (.if_icmp .ne 29, 3) := by decide +kernel
theorem dX2_valueOf_85 : decode cX2_valueOf 85 = .ok (.lload_n 3, 1) := by decide +kernel
theorem dX2_valueOf_86 : decode cX2_valueOf 86 = .ok (.ldc2_w 87, 3) := by decide +kernel
theorem dX2_valueOf_89 : decode cX2_valueOf 89 = .ok (.land, 1) := by decide +kernel
theorem dX2_valueOf_90 : decode cX2_valueOf 90 = .ok (.lload_n 3, 1) := by decide +kernel
theorem dX2_valueOf_91 : decode cX2_valueOf 91 = .ok (.ldc2_w 89, 3) := by decide +kernel
theorem dX2_valueOf_94 : decode cX2_valueOf 94 = .ok (.land, 1) := by decide +kernel
theorem dX2_valueOf_95 : decode cX2_valueOf 95 = .ok (.lconst 0, 1) := by decide +kernel
theorem dX2_valueOf_96 : decode cX2_valueOf 96 = .ok (.lcmp, 1) := by decide +kernel
theorem dX2_valueOf_97 : decode cX2_valueOf 97 = .ok (.ifCond .ne 7, 3) := by decide +kernel
theorem dX2_valueOf_100 : decode cX2_valueOf 100 = .ok (.iconst 1, 1) := by decide +kernel
theorem dX2_valueOf_101 : decode cX2_valueOf 101 = .ok (.goto 4, 3) := by decide +kernel
theorem dX2_valueOf_104 : decode cX2_valueOf 104 = .ok (.iconst 0, 1) := by decide +kernel
theorem dX2_valueOf_105 : decode cX2_valueOf 105 = .ok (.i2l, 1) := by decide +kernel
theorem dX2_valueOf_106 : decode cX2_valueOf 106 = .ok (.lor, 1) := by decide +kernel
theorem dX2_valueOf_107 : decode cX2_valueOf 107 = .ok (.lstore_n 3, 1) := by decide +kernel
theorem dX2_valueOf_108 : decode cX2_valueOf 108 = .ok (.goto 139, 3) := by decide +kernel
theorem dX2_valueOf_111 : decode cX2_valueOf 111 = .ok (.lload_n 3, 1) := by decide +kernel
theorem dX2_valueOf_112 : decode cX2_valueOf 112 = .ok (.iconst 2, 1) := by decide +kernel
theorem dX2_valueOf_113 : decode cX2_valueOf 113 = .ok (.lushr, 1) := by decide +kernel
theorem dX2_valueOf_114 : decode cX2_valueOf 114 = .ok (.l2i, 1) := by decide +kernel
theorem dX2_valueOf_115 : decode cX2_valueOf 115 = .ok (.iconst 3, 1) := by decide +kernel
theorem dX2_valueOf_116 : decode cX2_valueOf 116 = .ok (.iand, 1) := by decide +kernel
theorem dX2_valueOf_117 : decode cX2_valueOf 117 = .ok (.istore 7, 2) := by decide +kernel
theorem dX2_valueOf_119 : decode cX2_valueOf 119 = .ok (.lload_n 3, 1) := by decide +kernel
theorem dX2_valueOf_120 : decode cX2_valueOf 120 = .ok (.l2i, 1) := by decide +kernel
theorem dX2_valueOf_121 : decode cX2_valueOf 121 = .ok (.iconst 3, 1) := by decide +kernel
theorem dX2_valueOf_122 : decode cX2_valueOf 122 = .ok (.iand, 1) := by decide +kernel
theorem dX2_valueOf_123 : decode cX2_valueOf 123 = .ok (.istore 8, 2) := by decide +kernel
theorem dX2_valueOf_125 : decode cX2_valueOf 125 = .ok (.iload 6, 2) := by decide +kernel
theorem dX2_valueOf_127 : decode cX2_valueOf 127 = .ok (.tableswitch 94 16 21 #[37, 47, 57, 67, 94, 77], 37) := by decide +kernel
theorem dX2_valueOf_164 : decode cX2_valueOf 164 = .ok (.iload 7, 2) := by decide +kernel
theorem dX2_valueOf_166 : decode cX2_valueOf 166 = .ok (.iload 8, 2) := by decide +kernel
theorem dX2_valueOf_168 : decode cX2_valueOf 168 = .ok (.iadd, 1) := by decide +kernel
theorem dX2_valueOf_169 : decode cX2_valueOf 169 = .ok (.istore 9, 2) := by decide +kernel
theorem dX2_valueOf_171 : decode cX2_valueOf 171 = .ok (.goto 64, 3) := by decide +kernel
theorem dX2_valueOf_174 : decode cX2_valueOf 174 = .ok (.iload 7, 2) := by decide +kernel
theorem dX2_valueOf_176 : decode cX2_valueOf 176 = .ok (.iload 8, 2) := by decide +kernel
theorem dX2_valueOf_178 : decode cX2_valueOf 178 = .ok (.isub, 1) := by decide +kernel
theorem dX2_valueOf_179 : decode cX2_valueOf 179 = .ok (.istore 9, 2) := by decide +kernel
theorem dX2_valueOf_181 : decode cX2_valueOf 181 = .ok (.goto 54, 3) := by decide +kernel
theorem dX2_valueOf_184 : decode cX2_valueOf 184 = .ok (.iload 7, 2) := by decide +kernel
theorem dX2_valueOf_186 : decode cX2_valueOf 186 = .ok (.iload 8, 2) := by decide +kernel
theorem dX2_valueOf_188 : decode cX2_valueOf 188 = .ok (.imul, 1) := by decide +kernel
theorem dX2_valueOf_189 : decode cX2_valueOf 189 = .ok (.istore 9, 2) := by decide +kernel
theorem dX2_valueOf_191 : decode cX2_valueOf 191 = .ok (.goto 44, 3) := by decide +kernel
theorem dX2_valueOf_194 : decode cX2_valueOf 194 = .ok (.iload 7, 2) := by decide +kernel
theorem dX2_valueOf_196 : decode cX2_valueOf 196 = .ok (.iload 8, 2) := by decide +kernel
theorem dX2_valueOf_198 : decode cX2_valueOf 198 = .ok (.iand, 1) := by decide +kernel
theorem dX2_valueOf_199 : decode cX2_valueOf 199 = .ok (.istore 9, 2) := by decide +kernel
theorem dX2_valueOf_201 : decode cX2_valueOf 201 = .ok (.goto 34, 3) := by decide +kernel
theorem dX2_valueOf_204 : decode cX2_valueOf 204 = .ok (.iload 7, 2) := by decide +kernel
theorem dX2_valueOf_206 : decode cX2_valueOf 206 = .ok (.iload 8, 2) := by decide +kernel
theorem dX2_valueOf_208 : decode cX2_valueOf 208 = .ok (.if_icmp .ge 7, 3) := by decide +kernel
theorem dX2_valueOf_211 : decode cX2_valueOf 211 = .ok (.iconst 1, 1) := by decide +kernel
theorem dX2_valueOf_212 : decode cX2_valueOf 212 = .ok (.goto 4, 3) := by decide +kernel
theorem dX2_valueOf_215 : decode cX2_valueOf 215 = .ok (.iconst 0, 1) := by decide +kernel
theorem dX2_valueOf_216 : decode cX2_valueOf 216 = .ok (.istore 9, 2) := by decide +kernel
theorem dX2_valueOf_218 : decode cX2_valueOf 218 = .ok (.goto 17, 3) := by decide +kernel
theorem dX2_valueOf_221 : decode cX2_valueOf 221 = .ok (.iload 7, 2) := by decide +kernel
theorem dX2_valueOf_223 : decode cX2_valueOf 223 = .ok (.iload 8, 2) := by decide +kernel
theorem dX2_valueOf_225 : decode cX2_valueOf 225 = .ok (.if_icmp .ne 7, 3) := by decide +kernel
theorem dX2_valueOf_228 : decode cX2_valueOf 228 = .ok (.iconst 1, 1) := by decide +kernel
theorem dX2_valueOf_229 : decode cX2_valueOf 229 = .ok (.goto 4, 3) := by decide +kernel
theorem dX2_valueOf_232 : decode cX2_valueOf 232 = .ok (.iconst 0, 1) := by decide +kernel
theorem dX2_valueOf_233 : decode cX2_valueOf 233 = .ok (.istore 9, 2) := by decide +kernel
theorem dX2_valueOf_235 : decode cX2_valueOf 235 = .ok (.lload_n 3, 1) := by decide +kernel
theorem dX2_valueOf_236 : decode cX2_valueOf 236 = .ok (.iconst 4, 1) := by decide +kernel
theorem dX2_valueOf_237 : decode cX2_valueOf 237 = .ok (.lushr, 1) := by decide +kernel
theorem dX2_valueOf_238 : decode cX2_valueOf 238 = .ok (.iconst 2, 1) := by decide +kernel
theorem dX2_valueOf_239 : decode cX2_valueOf 239 = .ok (.lshl, 1) := by decide +kernel
theorem dX2_valueOf_240 : decode cX2_valueOf 240 = .ok (.iload 9, 2) := by decide +kernel
theorem dX2_valueOf_242 : decode cX2_valueOf 242 = .ok (.iconst 3, 1) := by decide +kernel
theorem dX2_valueOf_243 : decode cX2_valueOf 243 = .ok (.iand, 1) := by decide +kernel
theorem dX2_valueOf_244 : decode cX2_valueOf 244 = .ok (.i2l, 1) := by decide +kernel
theorem dX2_valueOf_245 : decode cX2_valueOf 245 = .ok (.lor, 1) := by decide +kernel
theorem dX2_valueOf_246 : decode cX2_valueOf 246 = .ok (.lstore_n 3, 1) := by decide +kernel
theorem dX2_valueOf_247 : decode cX2_valueOf 247 = .ok (.iinc 5 1, 3) := by decide +kernel
theorem dX2_valueOf_250 : decode cX2_valueOf 250 = .ok (.goto (-242), 3) := by decide +kernel
theorem dX2_valueOf_253 : decode cX2_valueOf 253 = .ok (.lload_n 3, 1) := by decide +kernel
theorem dX2_valueOf_254 : decode cX2_valueOf 254 = .ok (.l2i, 1) := by decide +kernel
theorem dX2_valueOf_255 : decode cX2_valueOf 255 = .ok (.iconst 3, 1) := by decide +kernel
theorem dX2_valueOf_256 : decode cX2_valueOf 256 = .ok (.iand, 1) := by decide +kernel
theorem dX2_valueOf_257 : decode cX2_valueOf 257 = .ok (.ireturn, 1) := by decide +kernel
theorem chIwsX3_init_0 : ∀ w ∈ ([.code yX3_init cX3_init 1 none] : List Cond), w ∈ wsX3_init := fun _ h => (List.mem_cons.mpr (Or.inl (List.mem_singleton.mp h)))
theorem chIwsX3_init_1 : ∀ w ∈ (wsX3_init_r1 : List Cond), w ∈ wsX3_init := fun _ h => (List.mem_cons_of_mem _ (List.mem_append_left _ (List.mem_append_left _ (List.mem_append_left _ (List.mem_append_left _ (List.mem_append_left _ h))))))
theorem chIwsX3_init_2 : ∀ w ∈ (wsX3_init_r2 : List Cond), w ∈ wsX3_init := fun _ h => (List.mem_cons_of_mem _ (List.mem_append_left _ (List.mem_append_left _ (List.mem_append_left _ (List.mem_append_left _ (List.mem_append_right _ h))))))
theorem chIwsX3_init_3 : ∀ w ∈ (wsX70 : List Cond), w ∈ wsX3_init := fun _ h => (List.mem_cons_of_mem _ (List.mem_append_left _ (List.mem_append_left _ (List.mem_append_left _ (List.mem_append_right _ h)))))
theorem chIwsX3_init_4 : ∀ w ∈ (wsX30 : List Cond), w ∈ wsX3_init := fun _ h => (List.mem_cons_of_mem _ (List.mem_append_left _ (List.mem_append_left _ (List.mem_append_right _ h))))
theorem chIwsX3_init_5 : ∀ w ∈ (wsX40 : List Cond), w ∈ wsX3_init := fun _ h => (List.mem_cons_of_mem _ (List.mem_append_left _ (List.mem_append_right _ h)))
theorem chIwsX3_init_6 : ∀ w ∈ (wsX50 : List Cond), w ∈ wsX3_init := fun _ h => (List.mem_cons_of_mem _ (List.mem_append_right _ h))
def chwsX3_init : Nat → List Cond
  | 0 => [.code yX3_init cX3_init 1 none]
  | 1 => wsX3_init_r1
  | 2 => wsX3_init_r2
  | 3 => wsX70
  | 4 => wsX30
  | 5 => wsX40
  | 6 => wsX50
  | _ => []
theorem chwsX3_init_in : ∀ (j : Nat) (w : Cond), w ∈ chwsX3_init j → w ∈ wsX3_init
  | 0, w, h => chIwsX3_init_0 w h
  | 1, w, h => chIwsX3_init_1 w h
  | 2, w, h => chIwsX3_init_2 w h
  | 3, w, h => chIwsX3_init_3 w h
  | 4, w, h => chIwsX3_init_4 w h
  | 5, w, h => chIwsX3_init_5 w h
  | 6, w, h => chIwsX3_init_6 w h
  | _ + 7, _, h => absurd h List.not_mem_nil
set_option maxRecDepth 20000 in
theorem ggX3_init_X7_init : GoodIn wsX3_init wsX7_init := goodIn_r2 chwsX3_init chwsX3_init_in _ [(1, 12), (1, 13), (1, 1), (1, 2), (1, 14), (1, 15), (1, 16), (1, 17), (3, 0), (3, 1), (3, 2), (3, 3), (3, 4), (3, 5), (3, 6), (3, 7)] rfl (by decide +kernel)
set_option maxRecDepth 20000 in
theorem gX3_init_X7_init_n11 : GoodIn wsX3_init (wsX7_init) := ggX3_init_X7_init
set_option maxRecDepth 20000 in
theorem ggX3_init_X4_init : GoodIn wsX3_init wsX4_init := goodIn_r2 chwsX3_init chwsX3_init_in _ [(1, 20), (1, 21), (1, 1), (1, 2), (1, 22), (1, 23), (1, 14), (2, 0), (2, 1), (2, 2), (2, 3), (2, 4), (2, 5), (5, 0), (5, 1), (5, 2), (5, 3), (5, 4), (5, 5), (6, 0), (6, 1), (6, 2), (6, 3), (6, 4), (6, 5), (6, 6), (6, 7), (6, 8)] rfl (by decide +kernel)
set_option maxRecDepth 20000 in
theorem gX3_init_X4_init : GoodIn wsX3_init (wsX4_init) := ggX3_init_X4_init
theorem dX3_init_0 : decode cX3_init 0 = .ok (.aload_n 0, 1) := by decide +kernel
theorem dX3_init_1 : decode cX3_init 1 = .ok (.invokespecial 3, 3) := by decide +kernel
theorem dX3_init_4 : decode cX3_init 4 = .ok (.aload_n 0, 1) := by decide +kernel
theorem dX3_init_5 : decode cX3_init 5 = .ok (.new 9, 3) := by decide +kernel
theorem dX3_init_8 : decode cX3_init 8 = .ok (.dup, 1) := by decide +kernel
theorem dX3_init_9 : decode cX3_init 9 = .ok (.invokespecial 11, 3) := by decide +kernel
theorem dX3_init_12 : decode cX3_init 12 = .ok (.putfield 12, 3) := by decide +kernel
theorem dX3_init_15 : decode cX3_init 15 = .ok (.aload_n 0, 1) := by decide +kernel
theorem dX3_init_16 : decode cX3_init 16 = .ok (.new 18, 3) := by decide +kernel
theorem dX3_init_19 : decode cX3_init 19 = .ok (.dup, 1) := by decide +kernel
theorem dX3_init_20 : decode cX3_init 20 = .ok (.invokespecial 20, 3) := by decide +kernel
theorem dX3_init_23 : decode cX3_init 23 = .ok (.putfield 21, 3) := by decide +kernel
theorem dX3_init_26 : decode cX3_init 26 = .ok (.return_, 1) := by decide +kernel
theorem chIwsX3_parse_0 : ∀ w ∈ ([.code yX3_parse cX3_parse 3 (some .int)] : List Cond), w ∈ wsX3_parse := fun _ h => (List.mem_cons.mpr (Or.inl (List.mem_singleton.mp h)))
theorem chIwsX3_parse_1 : ∀ w ∈ (wsX3_parse_r1 : List Cond), w ∈ wsX3_parse := fun _ h => (List.mem_cons_of_mem _ (List.mem_append_left _ (List.mem_append_left _ (List.mem_append_left _ (List.mem_append_left _ (List.mem_append_left _ (List.mem_append_left _ h)))))))
theorem chIwsX3_parse_2 : ∀ w ∈ (wsX3_parse_r2 : List Cond), w ∈ wsX3_parse := fun _ h => (List.mem_cons_of_mem _ (List.mem_append_left _ (List.mem_append_left _ (List.mem_append_left _ (List.mem_append_left _ (List.mem_append_left _ (List.mem_append_right _ (List.mem_append_left _ h))))))))
theorem chIwsX3_parse_3 : ∀ w ∈ (wsX3_parse_r3 : List Cond), w ∈ wsX3_parse := fun _ h => (List.mem_cons_of_mem _ (List.mem_append_left _ (List.mem_append_left _ (List.mem_append_left _ (List.mem_append_left _ (List.mem_append_left _ (List.mem_append_right _ (List.mem_append_right _ (List.mem_append_left _ h)))))))))
theorem chIwsX3_parse_4 : ∀ w ∈ (wsX3_parse_r4 : List Cond), w ∈ wsX3_parse := fun _ h => (List.mem_cons_of_mem _ (List.mem_append_left _ (List.mem_append_left _ (List.mem_append_left _ (List.mem_append_left _ (List.mem_append_left _ (List.mem_append_right _ (List.mem_append_right _ (List.mem_append_right _ (List.mem_append_left _ h))))))))))
theorem chIwsX3_parse_5 : ∀ w ∈ (wsX3_parse_r5 : List Cond), w ∈ wsX3_parse := fun _ h => (List.mem_cons_of_mem _ (List.mem_append_left _ (List.mem_append_left _ (List.mem_append_left _ (List.mem_append_left _ (List.mem_append_left _ (List.mem_append_right _ (List.mem_append_right _ (List.mem_append_right _ (List.mem_append_right _ (List.mem_append_left _ h)))))))))))
theorem chIwsX3_parse_6 : ∀ w ∈ (wsX3_parse_r6 : List Cond), w ∈ wsX3_parse := fun _ h => (List.mem_cons_of_mem _ (List.mem_append_left _ (List.mem_append_left _ (List.mem_append_left _ (List.mem_append_left _ (List.mem_append_left _ (List.mem_append_right _ (List.mem_append_right _ (List.mem_append_right _ (List.mem_append_right _ (List.mem_append_right _ (List.mem_append_left _ h))))))))))))
theorem chIwsX3_parse_7 : ∀ w ∈ (wsX3_parse_r7 : List Cond), w ∈ wsX3_parse := fun _ h => (List.mem_cons_of_mem _ (List.mem_append_left _ (List.mem_append_left _ (List.mem_append_left _ (List.mem_append_left _ (List.mem_append_left _ (List.mem_append_right _ (List.mem_append_right _ (List.mem_append_right _ (List.mem_append_right _ (List.mem_append_right _ (List.mem_append_right _ (List.mem_append_left _ h)))))))))))))
theorem chIwsX3_parse_8 : ∀ w ∈ (wsX3_parse_r8 : List Cond), w ∈ wsX3_parse := fun _ h => (List.mem_cons_of_mem _ (List.mem_append_left _ (List.mem_append_left _ (List.mem_append_left _ (List.mem_append_left _ (List.mem_append_left _ (List.mem_append_right _ (List.mem_append_right _ (List.mem_append_right _ (List.mem_append_right _ (List.mem_append_right _ (List.mem_append_right _ (List.mem_append_right _ (List.mem_append_left _ h))))))))))))))
theorem chIwsX3_parse_9 : ∀ w ∈ (wsX3_parse_r9 : List Cond), w ∈ wsX3_parse := fun _ h => (List.mem_cons_of_mem _ (List.mem_append_left _ (List.mem_append_left _ (List.mem_append_left _ (List.mem_append_left _ (List.mem_append_left _ (List.mem_append_right _ (List.mem_append_right _ (List.mem_append_right _ (List.mem_append_right _ (List.mem_append_right _ (List.mem_append_right _ (List.mem_append_right _ (List.mem_append_right _ (List.mem_append_left _ h)))))))))))))))
theorem chIwsX3_parse_10 : ∀ w ∈ (wsX3_parse_r10 : List Cond), w ∈ wsX3_parse := fun _ h => (List.mem_cons_of_mem _ (List.mem_append_left _ (List.mem_append_left _ (List.mem_append_left _ (List.mem_append_left _ (List.mem_append_left _ (List.mem_append_right _ (List.mem_append_right _ (List.mem_append_right _ (List.mem_append_right _ (List.mem_append_right _ (List.mem_append_right _ (List.mem_append_right _ (List.mem_append_right _ (List.mem_append_right _ (List.mem_append_left _ h))))))))))))))))
theorem chIwsX3_parse_11 : ∀ w ∈ (wsX3_parse_r11 : List Cond), w ∈ wsX3_parse := fun _ h => (List.mem_cons_of_mem _ (List.mem_append_left _ (List.mem_append_left _ (List.mem_append_left _ (List.mem_append_left _ (List.mem_append_left _ (List.mem_append_right _ (List.mem_append_right _ (List.mem_append_right _ (List.mem_append_right _ (List.mem_append_right _ (List.mem_append_right _ (List.mem_append_right _ (List.mem_append_right _ (List.mem_append_right _ (List.mem_append_right _ h))))))))))))))))
theorem chIwsX3_parse_12 : ∀ w ∈ (wsX30 : List Cond), w ∈ wsX3_parse := fun _ h => (List.mem_cons_of_mem _ (List.mem_append_left _ (List.mem_append_left _ (List.mem_append_left _ (List.mem_append_left _ (List.mem_append_right _ h))))))
theorem chIwsX3_parse_13 : ∀ w ∈ (wsX70 : List Cond), w ∈ wsX3_parse := fun _ h => (List.mem_cons_of_mem _ (List.mem_append_left _ (List.mem_append_left _ (List.mem_append_left _ (List.mem_append_right _ h)))))
theorem chIwsX3_parse_14 : ∀ w ∈ (wsX40 : List Cond), w ∈ wsX3_parse := fun _ h => (List.mem_cons_of_mem _ (List.mem_append_left _ (List.mem_append_left _ (List.mem_append_right _ h))))
theorem chIwsX3_parse_15 : ∀ w ∈ (wsX60 : List Cond), w ∈ wsX3_parse := fun _ h => (List.mem_cons_of_mem _ (List.mem_append_left _ (List.mem_append_right _ h)))
theorem chIwsX3_parse_16 : ∀ w ∈ (wsX50 : List Cond), w ∈ wsX3_parse := fun _ h => (List.mem_cons_of_mem _ (List.mem_append_right _ h))
def chwsX3_parse : Nat → List Cond
  | 0 => [.code yX3_parse cX3_parse 3 (some .int)]
  | 1 => wsX3_parse_r1
  | 2 => wsX3_parse_r2
  | 3 => wsX3_parse_r3
  | 4 => wsX3_parse_r4
  | 5 => wsX3_parse_r5
  | 6 => wsX3_parse_r6
  | 7 => wsX3_parse_r7
  | 8 => wsX3_parse_r8
  | 9 => wsX3_parse_r9
  | 10 => wsX3_parse_r10
  | 11 => wsX3_parse_r11
  | 12 => wsX30
  | 13 => wsX70
  | 14 => wsX40
  | 15 => wsX60
  | 16 => wsX50
  | _ => []
theorem chwsX3_parse_in : ∀ (j : Nat) (w : Cond), w ∈ chwsX3_parse j → w ∈ wsX3_parse
  | 0, w, h => chIwsX3_parse_0 w h
  | 1, w, h => chIwsX3_parse_1 w h
  | 2, w, h => chIwsX3_parse_2 w h
  | 3, w, h => chIwsX3_parse_3 w h
  | 4, w, h => chIwsX3_parse_4 w h
  | 5, w, h => chIwsX3_parse_5 w h
  | 6, w, h => chIwsX3_parse_6 w h
  | 7, w, h => chIwsX3_parse_7 w h
  | 8, w, h => chIwsX3_parse_8 w h
  | 9, w, h => chIwsX3_parse_9 w h
  | 10, w, h => chIwsX3_parse_10 w h
  | 11, w, h => chIwsX3_parse_11 w h
  | 12, w, h => chIwsX3_parse_12 w h
  | 13, w, h => chIwsX3_parse_13 w h
  | 14, w, h => chIwsX3_parse_14 w h
  | 15, w, h => chIwsX3_parse_15 w h
  | 16, w, h => chIwsX3_parse_16 w h
  | _ + 17, _, h => absurd h List.not_mem_nil
set_option maxRecDepth 20000 in
theorem ggX3_parse_X4_reset : GoodIn wsX3_parse wsX4_reset := goodIn_r2 chwsX3_parse chwsX3_parse_in _ [(1, 8), (1, 9), (1, 10), (1, 11), (1, 12), (14, 0), (14, 1), (14, 2), (14, 3), (14, 4), (14, 5)] rfl (by decide +kernel)
set_option maxRecDepth 20000 in
theorem gX3_parse_X4_reset : GoodIn wsX3_parse (wsV RX3 25 RX4 yX4_reset wsX4_reset) := goodIn_app (goodIn_r2 chwsX3_parse chwsX3_parse_in _ [(1, 4), (1, 5), (1, 6), (1, 7)] rfl (by decide +kernel)) ggX3_parse_X4_reset
set_option maxRecDepth 20000 in
theorem ggX3_parse_X7_cut : GoodIn wsX3_parse wsX7_cut := goodIn_r2 chwsX3_parse chwsX3_parse_in _ [(1, 17), (1, 18), (1, 19), (1, 20), (1, 21), (1, 22), (1, 23), (2, 0), (2, 1), (2, 2), (2, 3), (2, 4), (2, 5), (2, 6), (2, 7), (2, 8), (2, 9), (1, 16), (2, 10), (2, 11), (2, 12), (2, 13), (2, 14), (2, 15), (2, 16), (2, 17), (2, 18), (2, 19), (2, 20), (2, 21), (2, 22), (2, 23), (3, 0), (3, 1), (3, 2), (3, 3), (3, 4), (3, 5), (3, 6), (3, 7), (3, 8), (3, 9), (3, 10), (3, 11), (3, 12), (3, 13), (3, 14), (3, 15), (3, 16), (3, 17), (3, 18), (3, 19), (3, 20), (3, 21), (3, 22), (3, 23), (4, 0), (4, 1), (4, 2), (4, 3), (4, 4), (4, 5), (4, 6), (4, 7), (4, 8), (4, 9), (4, 10), (4, 11), (4, 12), (4, 13), (4, 14), (4, 15), (4, 16), (4, 17), (4, 18), (4, 19), (4, 20), (4, 21), (4, 22), (4, 23), (5, 0), (5, 1), (5, 2), (5, 3), (5, 4), (5, 5), (5, 6), (5, 7), (5, 8), (5, 9), (5, 10), (5, 11), (5, 12), (5, 13), (5, 14), (5, 15), (5, 16), (5, 17), (5, 18), (5, 19), (5, 20), (5, 21), (5, 22), (5, 23), (6, 0), (6, 1), (6, 2), (6, 3), (6, 4), (6, 5), (6, 6), (6, 7), (6, 8), (6, 9), (6, 10), (6, 11), (6, 12), (6, 13), (6, 14), (6, 15), (6, 16), (6, 17), (6, 18), (6, 19), (6, 20), (6, 21), (6, 22), (6, 23), (7, 0), (7, 1), (7, 2), (7, 3), (7, 4), (13, 0), (13, 1), (13, 2), (13, 3), (13, 4), (13, 5), (13, 6), (13, 7), (15, 0), (15, 1)] rfl (by decide +kernel)
set_option maxRecDepth 20000 in
theorem gX3_parse_X7_cut : GoodIn wsX3_parse (wsV RX3 28 RX7 yX7_cut wsX7_cut) := goodIn_app (goodIn_r2 chwsX3_parse chwsX3_parse_in _ [(1, 13), (1, 14), (1, 15), (1, 16)] rfl (by decide +kernel)) ggX3_parse_X7_cut
set_option maxRecDepth 20000 in
theorem ggX3_parse_X3_takeStatements : GoodIn wsX3_parse wsX3_takeStatements := goodIn_r2 chwsX3_parse chwsX3_parse_in _ [(7, 9), (1, 0), (7, 10), (7, 11), (7, 12), (7, 8), (7, 13), (1, 1), (1, 2), (7, 14), (7, 15), (7, 16), (1, 7), (7, 17), (1, 9), (7, 18), (7, 19), (7, 20), (7, 21), (7, 22), (7, 23), (8, 0), (8, 1), (8, 2), (6, 23), (7, 0), (1, 16), (7, 1), (2, 0), (1, 18), (2, 19), (7, 2), (2, 20), (7, 3), (2, 21), (7, 4), (7, 5), (7, 6), (7, 7), (8, 3), (8, 4), (8, 5), (8, 6), (8, 7), (8, 8), (8, 9), (8, 10), (8, 11), (8, 12), (8, 13), (8, 14), (8, 15), (8, 16), (8, 17), (8, 18), (8, 19), (8, 20), (8, 21), (8, 22), (8, 23), (9, 0), (9, 1), (9, 2), (9, 3), (1, 10), (9, 4), (9, 5), (9, 6), (9, 7), (9, 8), (9, 9), (9, 10), (9, 11), (9, 12), (9, 13), (9, 14), (9, 15), (9, 16), (9, 17), (9, 18), (9, 19), (9, 20), (9, 21), (9, 22), (9, 23), (10, 0), (10, 1), (10, 2), (10, 3), (10, 4), (10, 5), (10, 6), (10, 7), (10, 8), (10, 9), (10, 10), (10, 11), (4, 14), (1, 22), (4, 15), (10, 12), (10, 13), (10, 14), (10, 15), (10, 16), (10, 17), (10, 18), (10, 19), (10, 20), (10, 21), (10, 22), (10, 23), (11, 0), (11, 1), (11, 2), (11, 3), (11, 4), (11, 5), (11, 6), (11, 7), (11, 8), (11, 9), (11, 10), (11, 11), (11, 12), (11, 13), (11, 14), (11, 15), (11, 16), (11, 17), (11, 18), (12, 0), (12, 1), (12, 2), (12, 3), (13, 0), (13, 1), (13, 2), (13, 3), (13, 4), (13, 5), (13, 6), (13, 7), (16, 0), (16, 1), (16, 2), (16, 3), (16, 4), (16, 5), (16, 6), (16, 7), (16, 8), (14, 0), (14, 1), (14, 2), (14, 3), (14, 4), (14, 5)] rfl (by decide +kernel)
set_option maxRecDepth 20000 in
theorem gX3_parse_X3_takeStatements : GoodIn wsX3_parse (wsV RX3 32 RX3 yX3_takeStatements wsX3_takeStatements) := goodIn_app (goodIn_r2 chwsX3_parse chwsX3_parse_in _ [(7, 5), (7, 6), (7, 7), (7, 8)] rfl (by decide +kernel)) ggX3_parse_X3_takeStatements
theorem dX3_parse_0 : decode cX3_parse 0 = .ok (.aload_n 0, 1) := by decide +kernel
theorem dX3_parse_1 : decode cX3_parse 1 = .ok (.getfield 21, 3) := by decide +kernel
theorem dX3_parse_4 : decode cX3_parse 4 = .ok (.invokevirtual 25, 3) := by decide +kernel
theorem dX3_parse_7 : decode cX3_parse 7 = .ok (.aload_n 0, 1) := by decide +kernel
theorem dX3_parse_8 : decode cX3_parse 8 = .ok (.getfield 12, 3) := by decide +kernel
theorem dX3_parse_11 : decode cX3_parse 11 = .ok (.aload_n 1, 1) := by decide +kernel
theorem dX3_parse_12 : decode cX3_parse 12 = .ok (.invokevirtual 28, 3) := by decide +kernel
theorem dX3_parse_15 : decode cX3_parse 15 = .ok (.aload_n 0, 1) := by decide +kernel
theorem dX3_parse_16 : decode cX3_parse 16 = .ok (.iconst (-1), 1) := by decide +kernel
theorem dX3_parse_17 : decode cX3_parse 17 = .ok (.iconst 0, 1) := by decide +kernel
theorem dX3_parse_18 : decode cX3_parse 18 = .ok (.invokevirtual 32, 3) := by decide +kernel
theorem dX3_parse_21 : decode cX3_parse 21 = .ok (.ifCond .eq 17, 3) := by decide +kernel
theorem dX3_parse_24 : decode cX3_parse 24 = .ok (.aload_n 0, 1) := by decide +kernel
theorem dX3_parse_25 : decode cX3_parse 25 = .ok (.getfield 12, 3) := by decide +kernel
theorem dX3_parse_28 : decode cX3_parse 28 = .ok (.getfield 36, 3) := by decide +kernel
theorem dX3_parse_31 : decode cX3_parse 31 = .ok (.ifCond .ne 7, 3) := by decide +kernel
theorem dX3_parse_34 : decode cX3_parse 34 = .ok (.iconst 1, 1) := by decide +kernel
theorem dX3_parse_35 : decode cX3_parse 35 = .ok (.goto 4, 3) := by decide +kernel
theorem dX3_parse_38 : decode cX3_parse 38 = .ok (.iconst 0, 1) := by decide +kernel
theorem dX3_parse_39 : decode cX3_parse 39 = .ok (.istore_n 2, 1) := by decide +kernel
theorem dX3_parse_40 : decode cX3_parse 40 = .ok (.iload_n 2, 1) := by decide +kernel
theorem dX3_parse_41 : decode cX3_parse 41 = .ok (.ifCond .eq 7, 3) := by decide +kernel
theorem dX3_parse_44 : decode cX3_parse 44 = .ok (.iconst (-1), 1) := by decide +kernel
theorem dX3_parse_45 : decode cX3_parse 45 = .ok (.goto 10, 3) := by decide +kernel
theorem dX3_parse_48 : decode cX3_parse 48 = .ok (.aload_n 0, 1) := by decide +kernel
theorem dX3_parse_49 : decode cX3_parse 49 = .ok (.getfield 12, 3) := by decide +kernel
theorem dX3_parse_52 : decode cX3_parse 52 = .ok (.getfield 40, 3) := by decide +kernel
theorem dX3_parse_55 : decode cX3_parse 55 = .ok (.ireturn, 1) := by decide +kernel
theorem dX3_exchange_0 : decode cX3_exchange 0 = .ok (.aload_n 0, 1) := by decide +kernel
theorem dX3_exchange_1 : decode cX3_exchange 1 = .ok (.getfield 21, 3) := by decide +kernel
theorem dX3_exchange_4 : decode cX3_exchange 4 = .ok (.astore_n 2, 1) := by decide +kernel
theorem dX3_exchange_5 : decode cX3_exchange 5 = .ok (.aload_n 0, 1) := by decide +kernel
theorem dX3_exchange_6 : decode cX3_exchange 6 = .ok (.aload_n 1, 1) := by decide +kernel
theorem dX3_exchange_7 : decode cX3_exchange 7 = .ok (.putfield 21, 3) := by decide +kernel
theorem dX3_exchange_10 : decode cX3_exchange 10 = .ok (.aload_n 2, 1) := by decide +kernel
theorem dX3_exchange_11 : decode cX3_exchange 11 = .ok (.areturn, 1) := by decide +kernel
set_option maxRecDepth 20000 in
theorem ggX3_take_X7_advance : GoodIn wsX3_take wsX7_advance := goodIn_r _ [7, 8, 9, 10, 11, 12, 13, 14, 15, 20, 21, 22, 23, 24, 25, 26, 27] rfl (by decide +kernel)
set_option maxRecDepth 20000 in
theorem gX3_take_X7_advance : GoodIn wsX3_take (wsV RX3 43 RX7 yX7_advance wsX7_advance) := goodIn_app (goodIn_r _ [3, 4, 5, 6] rfl (by decide +kernel)) ggX3_take_X7_advance
theorem dX3_take_0 : decode cX3_take 0 = .ok (.aload_n 0, 1) := by decide +kernel
theorem dX3_take_1 : decode cX3_take 1 = .ok (.getfield 12, 3) := by decide +kernel
theorem dX3_take_4 : decode cX3_take 4 = .ok (.getfield 36, 3) := by decide +kernel
theorem dX3_take_7 : decode cX3_take 7 = .ok (.iload_n 1, 1) := by decide +kernel
theorem dX3_take_8 : decode cX3_take 8 = .ok (.if_icmp .eq 5, 3) := by decide +kernel
theorem dX3_take_11 : decode cX3_take 11 = .ok (.iconst 0, 1) := by decide +kernel
theorem dX3_take_12 : decode cX3_take 12 = .ok (.ireturn, 1) := by decide +kernel
theorem dX3_take_13 : decode cX3_take 13 = .ok (.aload_n 0, 1) := by decide +kernel
theorem dX3_take_14 : decode cX3_take 14 = .ok (.getfield 12, 3) := by decide +kernel
theorem dX3_take_17 : decode cX3_take 17 = .ok (.invokevirtual 43, 3) := by decide +kernel
theorem dX3_take_20 : decode cX3_take 20 = .ok (.iconst 1, 1) := by decide +kernel
theorem dX3_take_21 : decode cX3_take 21 = .ok (.ireturn, 1) := by decide +kernel
theorem dX3_beginsStatement_0 : decode cX3_beginsStatement 0 = .ok (.aload_n 0, 1) := by decide +kernel
theorem dX3_beginsStatement_1 : decode cX3_beginsStatement 1 = .ok (.getfield 12, 3) := by decide +kernel
theorem dX3_beginsStatement_4 : decode cX3_beginsStatement 4 = .ok (.getfield 36, 3) := by decide +kernel
theorem dX3_beginsStatement_7 : decode cX3_beginsStatement 7 = .ok (.istore_n 1, 1) := by decide +kernel
theorem dX3_beginsStatement_8 : decode cX3_beginsStatement 8 = .ok (.iload_n 1, 1) := by decide +kernel
theorem dX3_beginsStatement_9 : decode cX3_beginsStatement 9 = .ok (.iconst 2, 1) := by decide +kernel
theorem dX3_beginsStatement_10 : decode cX3_beginsStatement 10 = .ok (.if_icmp .eq 19, 3) := by decide +kernel
theorem dX3_beginsStatement_13 : decode cX3_beginsStatement 13 = .ok (.iload_n 1, 1) := by decide +kernel
theorem dX3_beginsStatement_14 : decode cX3_beginsStatement 14 = .ok (.iconst 4, 1) := by decide +kernel
theorem dX3_beginsStatement_15 : decode cX3_beginsStatement 15 = .ok (.if_icmp .eq 14, 3) := by decide +kernel
theorem dX3_beginsStatement_18 : decode cX3_beginsStatement 18 = .ok (.iload_n 1, 1) := by decide +kernel
theorem dX3_beginsStatement_19 : decode cX3_beginsStatement 19 = .ok (.iconst 5, 1) := by decide +kernel
theorem dX3_beginsStatement_20 : decode cX3_beginsStatement 20 = .ok (.if_icmp .eq 9, 3) := by decide +kernel
theorem dX3_beginsStatement_23 : decode cX3_beginsStatement 23 = .ok (.iload_n 1, 1) := by decide +kernel
theorem dX3_beginsStatement_24 : decode cX3_beginsStatement 24 = .ok (.bipush 7, 2) := by decide +kernel
theorem dX3_beginsStatement_26 : decode cX3_beginsStatement 26 = .ok (.if_icmp .ne 7, 3) := by decide +kernel
theorem dX3_beginsStatement_29 : decode cX3_beginsStatement 29 = .ok (.iconst 1, 1) := by decide +kernel
theorem dX3_beginsStatement_30 : decode cX3_beginsStatement 30 = .ok (.goto 4, 3) := by decide +kernel
theorem dX3_beginsStatement_33 : decode cX3_beginsStatement 33 = .ok (.iconst 0, 1) := by decide +kernel
theorem dX3_beginsStatement_34 : decode cX3_beginsStatement 34 = .ok (.ireturn, 1) := by decide +kernel
theorem chIwsX3_takeStatements_0 : ∀ w ∈ ([.code yX3_takeStatements cX3_takeStatements 4 (some .boolean)] : List Cond), w ∈ wsX3_takeStatements := fun _ h => (List.mem_cons.mpr (Or.inl (List.mem_singleton.mp h)))
theorem chIwsX3_takeStatements_1 : ∀ w ∈ (wsX3_takeStatements_r1 : List Cond), w ∈ wsX3_takeStatements := fun _ h => (List.mem_cons_of_mem _ (List.mem_append_left _ (List.mem_append_left _ (List.mem_append_left _ (List.mem_append_left _ (List.mem_append_left _ h))))))
theorem chIwsX3_takeStatements_2 : ∀ w ∈ (wsX3_takeStatements_r2 : List Cond), w ∈ wsX3_takeStatements := fun _ h => (List.mem_cons_of_mem _ (List.mem_append_left _ (List.mem_append_left _ (List.mem_append_left _ (List.mem_append_left _ (List.mem_append_right _ (List.mem_append_left _ h)))))))
theorem chIwsX3_takeStatements_3 : ∀ w ∈ (wsX3_takeStatements_r3 : List Cond), w ∈ wsX3_takeStatements := fun _ h => (List.mem_cons_of_mem _ (List.mem_append_left _ (List.mem_append_left _ (List.mem_append_left _ (List.mem_append_left _ (List.mem_append_right _ (List.mem_append_right _ (List.mem_append_left _ h))))))))
theorem chIwsX3_takeStatements_4 : ∀ w ∈ (wsX3_takeStatements_r4 : List Cond), w ∈ wsX3_takeStatements := fun _ h => (List.mem_cons_of_mem _ (List.mem_append_left _ (List.mem_append_left _ (List.mem_append_left _ (List.mem_append_left _ (List.mem_append_right _ (List.mem_append_right _ (List.mem_append_right _ (List.mem_append_left _ h)))))))))
theorem chIwsX3_takeStatements_5 : ∀ w ∈ (wsX3_takeStatements_r5 : List Cond), w ∈ wsX3_takeStatements := fun _ h => (List.mem_cons_of_mem _ (List.mem_append_left _ (List.mem_append_left _ (List.mem_append_left _ (List.mem_append_left _ (List.mem_append_right _ (List.mem_append_right _ (List.mem_append_right _ (List.mem_append_right _ (List.mem_append_left _ h))))))))))
theorem chIwsX3_takeStatements_6 : ∀ w ∈ (wsX3_takeStatements_r6 : List Cond), w ∈ wsX3_takeStatements := fun _ h => (List.mem_cons_of_mem _ (List.mem_append_left _ (List.mem_append_left _ (List.mem_append_left _ (List.mem_append_left _ (List.mem_append_right _ (List.mem_append_right _ (List.mem_append_right _ (List.mem_append_right _ (List.mem_append_right _ h))))))))))
theorem chIwsX3_takeStatements_7 : ∀ w ∈ (wsX30 : List Cond), w ∈ wsX3_takeStatements := fun _ h => (List.mem_cons_of_mem _ (List.mem_append_left _ (List.mem_append_left _ (List.mem_append_left _ (List.mem_append_right _ h)))))
theorem chIwsX3_takeStatements_8 : ∀ w ∈ (wsX70 : List Cond), w ∈ wsX3_takeStatements := fun _ h => (List.mem_cons_of_mem _ (List.mem_append_left _ (List.mem_append_left _ (List.mem_append_right _ h))))
theorem chIwsX3_takeStatements_9 : ∀ w ∈ (wsX50 : List Cond), w ∈ wsX3_takeStatements := fun _ h => (List.mem_cons_of_mem _ (List.mem_append_left _ (List.mem_append_right _ h)))
theorem chIwsX3_takeStatements_10 : ∀ w ∈ (wsX40 : List Cond), w ∈ wsX3_takeStatements := fun _ h => (List.mem_cons_of_mem _ (List.mem_append_right _ h))
def chwsX3_takeStatements : Nat → List Cond
  | 0 => [.code yX3_takeStatements cX3_takeStatements 4 (some .boolean)]
  | 1 => wsX3_takeStatements_r1
  | 2 => wsX3_takeStatements_r2
  | 3 => wsX3_takeStatements_r3
  | 4 => wsX3_takeStatements_r4
  | 5 => wsX3_takeStatements_r5
  | 6 => wsX3_takeStatements_r6
  | 7 => wsX30
  | 8 => wsX70
  | 9 => wsX50
  | 10 => wsX40
  | _ => []
theorem chwsX3_takeStatements_in : ∀ (j : Nat) (w : Cond), w ∈ chwsX3_takeStatements j → w ∈ wsX3_takeStatements
  | 0, w, h => chIwsX3_takeStatements_0 w h
  | 1, w, h => chIwsX3_takeStatements_1 w h
  | 2, w, h => chIwsX3_takeStatements_2 w h
  | 3, w, h => chIwsX3_takeStatements_3 w h
  | 4, w, h => chIwsX3_takeStatements_4 w h
  | 5, w, h => chIwsX3_takeStatements_5 w h
  | 6, w, h => chIwsX3_takeStatements_6 w h
  | 7, w, h => chIwsX3_takeStatements_7 w h
  | 8, w, h => chIwsX3_takeStatements_8 w h
  | 9, w, h => chIwsX3_takeStatements_9 w h
  | 10, w, h => chIwsX3_takeStatements_10 w h
  | _ + 11, _, h => absurd h List.not_mem_nil
set_option maxRecDepth 20000 in
theorem ggX3_takeStatements_X3_beginsStatement : GoodIn wsX3_takeStatements wsX3_beginsStatement := goodIn_r2 chwsX3_takeStatements chwsX3_takeStatements_in _ [(1, 5), (1, 6), (1, 7), (7, 0), (7, 1), (7, 2), (7, 3), (8, 0), (8, 1), (8, 2), (8, 3), (8, 4), (8, 5), (8, 6), (8, 7)] rfl (by decide +kernel)
set_option maxRecDepth 20000 in
theorem gX3_takeStatements_X3_beginsStatement : GoodIn wsX3_takeStatements (wsV RX3 46 RX3 yX3_beginsStatement wsX3_beginsStatement) := goodIn_app (goodIn_r2 chwsX3_takeStatements chwsX3_takeStatements_in _ [(1, 1), (1, 2), (1, 3), (1, 4)] rfl (by decide +kernel)) ggX3_takeStatements_X3_beginsStatement
set_option maxRecDepth 20000 in
theorem ggX3_takeStatements_X4_isFull : GoodIn wsX3_takeStatements wsX4_isFull := goodIn_r2 chwsX3_takeStatements chwsX3_takeStatements_in _ [(1, 12), (1, 13), (10, 0), (10, 1), (10, 2), (10, 3), (10, 4), (10, 5)] rfl (by decide +kernel)
set_option maxRecDepth 20000 in
theorem gX3_takeStatements_X4_isFull : GoodIn wsX3_takeStatements (wsV RX3 50 RX4 yX4_isFull wsX4_isFull) := goodIn_app (goodIn_r2 chwsX3_takeStatements chwsX3_takeStatements_in _ [(1, 8), (1, 9), (1, 10), (1, 11)] rfl (by decide +kernel)) ggX3_takeStatements_X4_isFull
set_option maxRecDepth 20000 in
theorem ggX3_takeStatements_X3_takeStatement : GoodIn wsX3_takeStatements wsX3_takeStatement := goodIn_r2 chwsX3_takeStatements chwsX3_takeStatements_in _ [(4, 16), (1, 0), (2, 16), (1, 6), (1, 7), (4, 17), (4, 18), (3, 3), (4, 19), (4, 20), (4, 21), (1, 11), (4, 22), (1, 13), (4, 23), (5, 0), (5, 1), (5, 2), (5, 3), (5, 4), (5, 5), (5, 6), (5, 7), (5, 8), (5, 9), (5, 10), (5, 11), (5, 12), (5, 13), (5, 14), (5, 15), (5, 16), (5, 17), (5, 18), (5, 19), (5, 20), (1, 4), (5, 21), (2, 15), (3, 19), (4, 15), (1, 22), (1, 23), (2, 0), (2, 1), (2, 2), (2, 3), (2, 4), (2, 5), (2, 6), (2, 7), (2, 8), (2, 9), (2, 10), (1, 18), (1, 19), (1, 20), (1, 21), (2, 18), (2, 19), (2, 20), (2, 21), (2, 22), (2, 23), (3, 0), (3, 1), (3, 2), (3, 4), (3, 5), (3, 6), (3, 7), (3, 8), (3, 9), (3, 10), (3, 11), (3, 12), (3, 13), (3, 14), (3, 15), (3, 16), (3, 17), (3, 18), (3, 20), (3, 21), (3, 22), (3, 23), (4, 0), (4, 1), (4, 2), (4, 3), (4, 4), (4, 5), (4, 6), (5, 22), (5, 23), (6, 0), (6, 1), (6, 2), (6, 3), (4, 11), (4, 12), (4, 13), (4, 14), (6, 4), (6, 5), (6, 6), (6, 7), (6, 8), (6, 9), (1, 17), (2, 11), (2, 12), (2, 13), (2, 14), (2, 17), (4, 7), (4, 8), (4, 9), (4, 10), (0, 0), (1, 1), (1, 2), (1, 3), (1, 5), (1, 8), (1, 9), (1, 10), (1, 12), (1, 14), (1, 15), (1, 16), (7, 0), (7, 1), (7, 2), (7, 3), (8, 0), (8, 1), (8, 2), (8, 3), (8, 4), (8, 5), (8, 6), (8, 7), (9, 0), (9, 1), (9, 2), (9, 3), (9, 4), (9, 5), (9, 6), (9, 7), (9, 8), (10, 0), (10, 1), (10, 2), (10, 3), (10, 4), (10, 5)] rfl (by decide +kernel)
set_option maxRecDepth 20000 in
theorem gX3_takeStatements_X3_takeStatement : GoodIn wsX3_takeStatements (wsV RX3 53 RX3 yX3_takeStatement wsX3_takeStatement) := goodIn_app (goodIn_r2 chwsX3_takeStatements chwsX3_takeStatements_in _ [(1, 14), (1, 15), (1, 16), (1, 4)] rfl (by decide +kernel)) ggX3_takeStatements_X3_takeStatement
theorem dX3_takeStatements_0 : decode cX3_takeStatements 0 = .ok (.iconst 0, 1) := by decide +kernel
theorem dX3_takeStatements_1 : decode cX3_takeStatements 1 = .ok (.istore_n 3, 1) := by decide +kernel
theorem dX3_takeStatements_2 : decode cX3_takeStatements 2 = .ok (.iload_n 3, 1) := by decide +kernel
theorem dX3_takeStatements_3 : decode cX3_takeStatements 3 = .ok (.bipush 30, 2) := by decide +kernel
theorem dX3_takeStatements_5 : decode cX3_takeStatements 5 = .ok (.if_icmp .gt 37, 3) := by decide +kernel
theorem dX3_takeStatements_8 : decode cX3_takeStatements 8 = .ok (.aload_n 0, 1) := by decide +kernel
theorem dX3_takeStatements_9 : decode cX3_takeStatements 9 = .ok (.invokevirtual 46, 3) := by decide +kernel
theorem dX3_takeStatements_12 : decode cX3_takeStatements 12 = .ok (.ifCond .eq 30, 3) := by decide +kernel
theorem dX3_takeStatements_15 : decode cX3_takeStatements 15 = .ok (.aload_n 0, 1) := by decide +kernel
theorem dX3_takeStatements_16 : decode cX3_takeStatements 16 = .ok (.getfield 21, 3) := by decide +kernel
theorem dX3_takeStatements_19 : decode cX3_takeStatements 19 = .ok (.invokevirtual 50, 3) := by decide +kernel
theorem dX3_takeStatements_22 : decode cX3_takeStatements 22 = .ok (.ifCond .ne 12, 3) := by decide +kernel
theorem dX3_takeStatements_25 : decode cX3_takeStatements 25 = .ok (.aload_n 0, 1) := by decide +kernel
theorem dX3_takeStatements_26 : decode cX3_takeStatements 26 = .ok (.iload_n 1, 1) := by decide +kernel
theorem dX3_takeStatements_27 : decode cX3_takeStatements 27 = .ok (.iload_n 2, 1) := by decide +kernel
theorem dX3_takeStatements_28 : decode cX3_takeStatements 28 = .ok (.invokevirtual 53, 3) := by decide +kernel
theorem dX3_takeStatements_31 : decode cX3_takeStatements 31 = .ok (.ifCond .ne 5, 3) := by decide +kernel
theorem dX3_takeStatements_34 : decode cX3_takeStatements 34 = .ok (.iconst 0, 1) := by decide +kernel
theorem dX3_takeStatements_35 : decode cX3_takeStatements 35 = .ok (.ireturn, 1) := by decide +kernel
theorem dX3_takeStatements_36 : decode cX3_takeStatements 36 = .ok (.iinc 3 1, 3) := by decide +kernel
theorem dX3_takeStatements_39 : decode cX3_takeStatements 39 = .ok (.goto (-37), 3) := by decide +kernel
theorem dX3_takeStatements_42 : decode cX3_takeStatements 42 = .ok (.iconst 1, 1) := by decide +kernel
theorem dX3_takeStatements_43 : decode cX3_takeStatements 43 = .ok (.ireturn, 1) := by decide +kernel
theorem chIwsX3_takeStatement_0 : ∀ w ∈ ([.code yX3_takeStatement cX3_takeStatement 6 (some .boolean)] : List Cond), w ∈ wsX3_takeStatement := fun _ h => (List.mem_cons.mpr (Or.inl (List.mem_singleton.mp h)))
theorem chIwsX3_takeStatement_1 : ∀ w ∈ (wsX3_takeStatement_r1 : List Cond), w ∈ wsX3_takeStatement := fun _ h => (List.mem_cons_of_mem _ (List.mem_append_left _ (List.mem_append_left _ (List.mem_append_left _ (List.mem_append_left _ (List.mem_append_left _ h))))))
theorem chIwsX3_takeStatement_2 : ∀ w ∈ (wsX3_takeStatement_r2 : List Cond), w ∈ wsX3_takeStatement := fun _ h => (List.mem_cons_of_mem _ (List.mem_append_left _ (List.mem_append_left _ (List.mem_append_left _ (List.mem_append_left _ (List.mem_append_right _ (List.mem_append_left _ h)))))))
theorem chIwsX3_takeStatement_3 : ∀ w ∈ (wsX3_takeStatement_r3 : List Cond), w ∈ wsX3_takeStatement := fun _ h => (List.mem_cons_of_mem _ (List.mem_append_left _ (List.mem_append_left _ (List.mem_append_left _ (List.mem_append_left _ (List.mem_append_right _ (List.mem_append_right _ (List.mem_append_left _ h))))))))
theorem chIwsX3_takeStatement_4 : ∀ w ∈ (wsX3_takeStatement_r4 : List Cond), w ∈ wsX3_takeStatement := fun _ h => (List.mem_cons_of_mem _ (List.mem_append_left _ (List.mem_append_left _ (List.mem_append_left _ (List.mem_append_left _ (List.mem_append_right _ (List.mem_append_right _ (List.mem_append_right _ (List.mem_append_left _ h)))))))))
theorem chIwsX3_takeStatement_5 : ∀ w ∈ (wsX3_takeStatement_r5 : List Cond), w ∈ wsX3_takeStatement := fun _ h => (List.mem_cons_of_mem _ (List.mem_append_left _ (List.mem_append_left _ (List.mem_append_left _ (List.mem_append_left _ (List.mem_append_right _ (List.mem_append_right _ (List.mem_append_right _ (List.mem_append_right _ (List.mem_append_left _ h))))))))))
theorem chIwsX3_takeStatement_6 : ∀ w ∈ (wsX3_takeStatement_r6 : List Cond), w ∈ wsX3_takeStatement := fun _ h => (List.mem_cons_of_mem _ (List.mem_append_left _ (List.mem_append_left _ (List.mem_append_left _ (List.mem_append_left _ (List.mem_append_right _ (List.mem_append_right _ (List.mem_append_right _ (List.mem_append_right _ (List.mem_append_right _ h))))))))))
theorem chIwsX3_takeStatement_7 : ∀ w ∈ (wsX30 : List Cond), w ∈ wsX3_takeStatement := fun _ h => (List.mem_cons_of_mem _ (List.mem_append_left _ (List.mem_append_left _ (List.mem_append_left _ (List.mem_append_right _ h)))))
theorem chIwsX3_takeStatement_8 : ∀ w ∈ (wsX70 : List Cond), w ∈ wsX3_takeStatement := fun _ h => (List.mem_cons_of_mem _ (List.mem_append_left _ (List.mem_append_left _ (List.mem_append_right _ h))))
theorem chIwsX3_takeStatement_9 : ∀ w ∈ (wsX50 : List Cond), w ∈ wsX3_takeStatement := fun _ h => (List.mem_cons_of_mem _ (List.mem_append_left _ (List.mem_append_right _ h)))
theorem chIwsX3_takeStatement_10 : ∀ w ∈ (wsX40 : List Cond), w ∈ wsX3_takeStatement := fun _ h => (List.mem_cons_of_mem _ (List.mem_append_right _ h))
def chwsX3_takeStatement : Nat → List Cond
  | 0 => [.code yX3_takeStatement cX3_takeStatement 6 (some .boolean)]
  | 1 => wsX3_takeStatement_r1
  | 2 => wsX3_takeStatement_r2
  | 3 => wsX3_takeStatement_r3
  | 4 => wsX3_takeStatement_r4
  | 5 => wsX3_takeStatement_r5
  | 6 => wsX3_takeStatement_r6
  | 7 => wsX30
  | 8 => wsX70
  | 9 => wsX50
  | 10 => wsX40
  | _ => []
theorem chwsX3_takeStatement_in : ∀ (j : Nat) (w : Cond), w ∈ chwsX3_takeStatement j → w ∈ wsX3_takeStatement
  | 0, w, h => chIwsX3_takeStatement_0 w h
  | 1, w, h => chIwsX3_takeStatement_1 w h
  | 2, w, h => chIwsX3_takeStatement_2 w h
  | 3, w, h => chIwsX3_takeStatement_3 w h
  | 4, w, h => chIwsX3_takeStatement_4 w h
  | 5, w, h => chIwsX3_takeStatement_5 w h
  | 6, w, h => chIwsX3_takeStatement_6 w h
  | 7, w, h => chIwsX3_takeStatement_7 w h
  | 8, w, h => chIwsX3_takeStatement_8 w h
  | 9, w, h => chIwsX3_takeStatement_9 w h
  | 10, w, h => chIwsX3_takeStatement_10 w h
  | _ + 11, _, h => absurd h List.not_mem_nil
set_option maxRecDepth 20000 in
theorem ggX3_takeStatement_X4_append : GoodIn wsX3_takeStatement wsX4_append := goodIn_r2 chwsX3_takeStatement chwsX3_takeStatement_in _ [(1, 11), (1, 12), (1, 13), (1, 14), (1, 15), (1, 16), (1, 17), (1, 18), (1, 19), (1, 20), (1, 21), (1, 22), (1, 23), (2, 0), (2, 1), (2, 2), (2, 3), (2, 4), (2, 5), (2, 6), (2, 7), (10, 0), (10, 1), (10, 2), (10, 3), (10, 4), (10, 5), (9, 0), (9, 1), (9, 2), (9, 3), (9, 4), (9, 5), (9, 6), (9, 7), (9, 8)] rfl (by decide +kernel)
set_option maxRecDepth 20000 in
theorem gX3_takeStatement_X4_append : GoodIn wsX3_takeStatement (wsV RX3 59 RX4 yX4_append wsX4_append) := goodIn_app (goodIn_r2 chwsX3_takeStatement chwsX3_takeStatement_in _ [(1, 7), (1, 8), (1, 9), (1, 10)] rfl (by decide +kernel)) ggX3_takeStatement_X4_append
set_option maxRecDepth 20000 in
theorem ggX3_takeStatement_X3_takeAssignment : GoodIn wsX3_takeStatement wsX3_takeAssignment := goodIn_r2 chwsX3_takeStatement chwsX3_takeStatement_in _ [(2, 12), (2, 13), (1, 2), (2, 14), (2, 15), (1, 0), (1, 5), (2, 16), (2, 17), (2, 18), (2, 19), (2, 20), (2, 21), (2, 22), (2, 23), (3, 0), (3, 1), (3, 2), (3, 3), (3, 4), (3, 5), (3, 6), (3, 7), (2, 11), (3, 8), (1, 3), (3, 9), (3, 10), (3, 11), (3, 12), (3, 13), (3, 14), (3, 15), (3, 16), (3, 17), (1, 6), (3, 18), (3, 19), (3, 20), (3, 21), (3, 22), (3, 23), (4, 0), (4, 1), (4, 2), (4, 3), (1, 10), (4, 4), (4, 5), (4, 6), (4, 7), (4, 8), (4, 9), (4, 10), (4, 11), (4, 12), (4, 13), (4, 14), (4, 15), (4, 16), (4, 17), (4, 18), (4, 19), (9, 0), (9, 1), (9, 2), (9, 3), (9, 4), (9, 5), (9, 6), (9, 7), (9, 8), (7, 0), (7, 1), (7, 2), (7, 3), (8, 0), (8, 1), (8, 2), (8, 3), (8, 4), (8, 5), (8, 6), (8, 7), (10, 0), (10, 1), (10, 2), (10, 3), (10, 4), (10, 5)] rfl (by decide +kernel)
set_option maxRecDepth 20000 in
theorem gX3_takeStatement_X3_takeAssignment : GoodIn wsX3_takeStatement (wsV RX3 63 RX3 yX3_takeAssignment wsX3_takeAssignment) := goodIn_app (goodIn_r2 chwsX3_takeStatement chwsX3_takeStatement_in _ [(2, 8), (2, 9), (2, 10), (2, 11)] rfl (by decide +kernel)) ggX3_takeStatement_X3_takeAssignment
set_option maxRecDepth 20000 in
theorem ggX3_takeStatement_X3_takeOut : GoodIn wsX3_takeStatement wsX3_takeOut := goodIn_r2 chwsX3_takeStatement chwsX3_takeStatement_in _ [(4, 23), (2, 13), (1, 0), (5, 0), (5, 1), (1, 2), (2, 16), (2, 17), (2, 18), (2, 19), (2, 20), (2, 21), (2, 22), (2, 23), (3, 0), (3, 1), (3, 2), (3, 3), (3, 4), (5, 2), (5, 3), (5, 4), (2, 11), (5, 5), (2, 14), (2, 15), (3, 5), (3, 6), (3, 7), (3, 8), (1, 3), (3, 9), (3, 10), (3, 11), (3, 12), (3, 13), (3, 14), (3, 15), (3, 16), (3, 17), (1, 6), (3, 18), (3, 19), (3, 20), (3, 21), (3, 22), (3, 23), (4, 0), (4, 1), (4, 2), (4, 3), (1, 10), (4, 4), (4, 5), (4, 6), (4, 7), (4, 8), (4, 9), (4, 10), (4, 11), (4, 12), (4, 13), (4, 14), (4, 15), (4, 16), (4, 17), (4, 18), (4, 19), (9, 0), (9, 1), (9, 2), (9, 3), (9, 4), (9, 5), (9, 6), (9, 7), (9, 8), (7, 0), (7, 1), (7, 2), (7, 3), (10, 0), (10, 1), (10, 2), (10, 3), (10, 4), (10, 5), (8, 0), (8, 1), (8, 2), (8, 3), (8, 4), (8, 5), (8, 6), (8, 7)] rfl (by decide +kernel)
set_option maxRecDepth 20000 in
theorem gX3_takeStatement_X3_takeOut : GoodIn wsX3_takeStatement (wsV RX3 67 RX3 yX3_takeOut wsX3_takeOut) := goodIn_app (goodIn_r2 chwsX3_takeStatement chwsX3_takeStatement_in _ [(4, 20), (4, 21), (4, 22), (2, 11)] rfl (by decide +kernel)) ggX3_takeStatement_X3_takeOut
set_option maxRecDepth 20000 in
theorem ggX3_takeStatement_X3_takeIf : GoodIn wsX3_takeStatement wsX3_takeIf := goodIn_r2 chwsX3_takeStatement chwsX3_takeStatement_in _ [(5, 16), (2, 13), (1, 2), (1, 0), (1, 1), (5, 17), (2, 16), (2, 17), (2, 18), (2, 19), (2, 20), (2, 21), (2, 22), (2, 23), (3, 0), (3, 1), (3, 2), (3, 3), (3, 4), (3, 9), (3, 10), (3, 11), (2, 11), (3, 12), (3, 13), (3, 14), (3, 15), (3, 16), (3, 17), (1, 6), (3, 18), (3, 19), (3, 20), (3, 21), (1, 3), (3, 22), (3, 23), (4, 0), (4, 1), (4, 2), (4, 3), (1, 10), (4, 4), (4, 5), (4, 6), (4, 7), (4, 8), (2, 14), (4, 9), (4, 10), (4, 11), (4, 12), (4, 13), (4, 14), (4, 15), (4, 16), (4, 17), (4, 18), (3, 5), (3, 6), (3, 7), (3, 8), (4, 19), (5, 18), (5, 19), (5, 20), (5, 12), (5, 13), (5, 14), (5, 15), (5, 21), (5, 2), (5, 3), (5, 4), (5, 5), (2, 15), (0, 0), (1, 4), (1, 5), (1, 7), (1, 8), (1, 9), (1, 11), (1, 12), (1, 13), (1, 14), (1, 15), (1, 16), (1, 17), (1, 18), (1, 19), (1, 20), (1, 21), (1, 22), (1, 23), (2, 0), (2, 1), (2, 2), (2, 3), (2, 4), (2, 5), (2, 6), (2, 7), (2, 8), (2, 9), (2, 10), (2, 12), (4, 20), (4, 21), (4, 22), (4, 23), (5, 0), (5, 1), (5, 6), (5, 7), (5, 8), (5, 9), (5, 10), (5, 11), (5, 22), (5, 23), (6, 0), (6, 1), (6, 2), (6, 3), (6, 4), (6, 5), (6, 6), (6, 7), (6, 8), (6, 9), (7, 0), (7, 1), (7, 2), (7, 3), (8, 0), (8, 1), (8, 2), (8, 3), (8, 4), (8, 5), (8, 6), (8, 7), (9, 0), (9, 1), (9, 2), (9, 3), (9, 4), (9, 5), (9, 6), (9, 7), (9, 8), (10, 0), (10, 1), (10, 2), (10, 3), (10, 4), (10, 5)] rfl (by decide +kernel)
set_option maxRecDepth 20000 in
theorem gX3_takeStatement_X3_takeIf : GoodIn wsX3_takeStatement (wsV RX3 70 RX3 yX3_takeIf wsX3_takeIf) := goodIn_app (goodIn_r2 chwsX3_takeStatement chwsX3_takeStatement_in _ [(5, 6), (5, 7), (5, 8), (2, 11)] rfl (by decide +kernel)) ggX3_takeStatement_X3_takeIf
set_option maxRecDepth 20000 in
theorem ggX3_takeStatement_X3_takeLoop : GoodIn wsX3_takeStatement wsX3_takeLoop := goodIn_r2 chwsX3_takeStatement chwsX3_takeStatement_in _ [(5, 21), (2, 13), (1, 2), (2, 16), (2, 17), (2, 18), (2, 19), (2, 20), (2, 21), (2, 22), (2, 23), (3, 0), (3, 1), (3, 2), (3, 3), (3, 4), (5, 2), (5, 3), (5, 4), (2, 11), (5, 5), (2, 14), (2, 15), (3, 5), (3, 6), (3, 7), (3, 8), (1, 3), (5, 18), (5, 19), (5, 20), (5, 12), (5, 13), (5, 14), (5, 15), (5, 16), (1, 0), (1, 1), (5, 17), (3, 9), (3, 10), (3, 11), (3, 12), (3, 13), (3, 14), (3, 15), (3, 16), (3, 17), (1, 6), (3, 18), (3, 19), (3, 20), (3, 21), (3, 22), (3, 23), (4, 0), (4, 1), (4, 2), (4, 3), (1, 10), (4, 4), (4, 5), (4, 6), (4, 7), (4, 8), (4, 9), (4, 10), (4, 11), (4, 12), (4, 13), (4, 14), (4, 15), (4, 16), (4, 17), (4, 18), (4, 19), (0, 0), (1, 4), (1, 5), (1, 7), (1, 8), (1, 9), (1, 11), (1, 12), (1, 13), (1, 14), (1, 15), (1, 16), (1, 17), (1, 18), (1, 19), (1, 20), (1, 21), (1, 22), (1, 23), (2, 0), (2, 1), (2, 2), (2, 3), (2, 4), (2, 5), (2, 6), (2, 7), (2, 8), (2, 9), (2, 10), (2, 12), (4, 20), (4, 21), (4, 22), (4, 23), (5, 0), (5, 1), (5, 6), (5, 7), (5, 8), (5, 9), (5, 10), (5, 11), (5, 22), (5, 23), (6, 0), (6, 1), (6, 2), (6, 3), (6, 4), (6, 5), (6, 6), (6, 7), (6, 8), (6, 9), (7, 0), (7, 1), (7, 2), (7, 3), (8, 0), (8, 1), (8, 2), (8, 3), (8, 4), (8, 5), (8, 6), (8, 7), (9, 0), (9, 1), (9, 2), (9, 3), (9, 4), (9, 5), (9, 6), (9, 7), (9, 8), (10, 0), (10, 1), (10, 2), (10, 3), (10, 4), (10, 5)] rfl (by decide +kernel)
set_option maxRecDepth 20000 in
theorem gX3_takeStatement_X3_takeLoop : GoodIn wsX3_takeStatement (wsV RX3 74 RX3 yX3_takeLoop wsX3_takeLoop) := goodIn_app (goodIn_r2 chwsX3_takeStatement chwsX3_takeStatement_in _ [(5, 9), (5, 10), (5, 11), (2, 11)] rfl (by decide +kernel)) ggX3_takeStatement_X3_takeLoop
theorem dX3_takeStatement_0 : decode cX3_takeStatement 0 = .ok (.aload_n 0, 1) := by decide +kernel
theorem dX3_takeStatement_1 : decode cX3_takeStatement 1 = .ok (.getfield 21, 3) := by decide +kernel
theorem dX3_takeStatement_4 : decode cX3_takeStatement 4 = .ok (.getfield 56, 3) := by decide +kernel
theorem dX3_takeStatement_7 : decode cX3_takeStatement 7 = .ok (.istore_n 3, 1) := by decide +kernel
theorem dX3_takeStatement_8 : decode cX3_takeStatement 8 = .ok (.aload_n 0, 1) := by decide +kernel
theorem dX3_takeStatement_9 : decode cX3_takeStatement 9 = .ok (.getfield 21, 3) := by decide +kernel
theorem dX3_takeStatement_12 : decode cX3_takeStatement 12 = .ok (.iload_n 1, 1) := by decide +kernel
theorem dX3_takeStatement_13 : decode cX3_takeStatement 13 = .ok (.invokevirtual 59, 3) := by decide +kernel
theorem dX3_takeStatement_16 : decode cX3_takeStatement 16 = .ok (.astore 4, 2) := by decide +kernel
theorem dX3_takeStatement_18 : decode cX3_takeStatement 18 = .ok (.aload_n 0, 1) := by decide +kernel
theorem dX3_takeStatement_19 : decode cX3_takeStatement 19 = .ok (.getfield 12, 3) := by decide +kernel
theorem dX3_takeStatement_22 : decode cX3_takeStatement 22 = .ok (.getfield 36, 3) := by decide +kernel
theorem dX3_takeStatement_25 : decode cX3_takeStatement 25 = .ok (.tableswitch 66 2 5 #[31, 66, 42, 53], 31) := by decide +kernel
theorem dX3_takeStatement_56 : decode cX3_takeStatement 56 = .ok (.aload_n 0, 1) := by decide +kernel
theorem dX3_takeStatement_57 : decode cX3_takeStatement 57 = .ok (.aload 4, 2) := by decide +kernel
theorem dX3_takeStatement_59 : decode cX3_takeStatement 59 = .ok (.invokevirtual 63, 3) := by decide +kernel
theorem dX3_takeStatement_62 : decode cX3_takeStatement 62 = .ok (.istore 5, 2) := by decide +kernel
theorem dX3_takeStatement_64 : decode cX3_takeStatement 64 = .ok (.goto 37, 3) := by decide +kernel
theorem dX3_takeStatement_67 : decode cX3_takeStatement 67 = .ok (.aload_n 0, 1) := by decide +kernel
theorem dX3_takeStatement_68 : decode cX3_takeStatement 68 = .ok (.aload 4, 2) := by decide +kernel
theorem dX3_takeStatement_70 : decode cX3_takeStatement 70 = .ok (.invokevirtual 67, 3) := by decide +kernel
theorem dX3_takeStatement_73 : decode cX3_takeStatement 73 = .ok (.istore 5, 2) := by decide +kernel
theorem dX3_takeStatement_75 : decode cX3_takeStatement 75 = .ok (.goto 26, 3) := by decide +kernel
theorem dX3_takeStatement_78 : decode cX3_takeStatement 78 = .ok (.aload_n 0, 1) := by decide +kernel
theorem dX3_takeStatement_79 : decode cX3_takeStatement 79 = .ok (.aload 4, 2) := by decide +kernel
theorem dX3_takeStatement_81 : decode cX3_takeStatement 81 = .ok (.iload_n 3, 1) := by decide +kernel
theorem dX3_takeStatement_82 : decode cX3_takeStatement 82 = .ok (.iload_n 2, 1) := by decide +kernel
theorem dX3_takeStatement_83 : decode cX3_takeStatement 83 = .ok (.invokevirtual 70, 3) := by decide +kernel
theorem dX3_takeStatement_86 : decode cX3_takeStatement 86 = .ok (.istore 5, 2) := by decide +kernel
theorem dX3_takeStatement_88 : decode cX3_takeStatement 88 = .ok (.goto 13, 3) := by decide +kernel
theorem dX3_takeStatement_91 : decode cX3_takeStatement 91 = .ok (.aload_n 0, 1) := by decide +kernel
theorem dX3_takeStatement_92 : decode cX3_takeStatement 92 = .ok (.aload 4, 2) := by decide +kernel
theorem dX3_takeStatement_94 : decode cX3_takeStatement 94 = .ok (.iload_n 3, 1) := by decide +kernel
theorem dX3_takeStatement_95 : decode cX3_takeStatement 95 = .ok (.iload_n 2, 1) := by decide +kernel
theorem dX3_takeStatement_96 : decode cX3_takeStatement 96 = .ok (.invokevirtual 74, 3) := by decide +kernel
theorem dX3_takeStatement_99 : decode cX3_takeStatement 99 = .ok (.istore 5, 2) := by decide +kernel
theorem dX3_takeStatement_101 : decode cX3_takeStatement 101 = .ok (.aload 4, 2) := by decide +kernel
theorem dX3_takeStatement_103 : decode cX3_takeStatement 103 = .ok (.aload_n 0, 1) := by decide +kernel
theorem dX3_takeStatement_104 : decode cX3_takeStatement 104 = .ok (.getfield 21, 3) := by decide +kernel
theorem dX3_takeStatement_107 : decode cX3_takeStatement 107 = .ok (.getfield 56, 3) := by decide +kernel
theorem dX3_takeStatement_110 : decode cX3_takeStatement 110 = .ok (.putfield 77, 3) := by decide +kernel
theorem dX3_takeStatement_113 : decode cX3_takeStatement 113 = .ok (.aload_n 0, 1) := by decide +kernel
theorem dX3_takeStatement_114 : decode cX3_takeStatement 114 = .ok (.getfield 21, 3) := by decide +kernel
theorem dX3_takeStatement_117 : decode cX3_takeStatement 117 = .ok (.dup, 1) := by decide +kernel
theorem dX3_takeStatement_118 : decode cX3_takeStatement 118 = .ok (.getfield 82, 3) := by decide +kernel
theorem dX3_takeStatement_121 : decode cX3_takeStatement 121 = .ok (.aload 4, 2) := by decide +kernel
theorem dX3_takeStatement_123 : decode cX3_takeStatement 123 = .ok (.getfield 85, 3) := by decide +kernel
theorem dX3_takeStatement_126 : decode cX3_takeStatement 126 = .ok (.ior, 1) := by decide +kernel
theorem dX3_takeStatement_127 : decode cX3_takeStatement 127 = .ok (.putfield 82, 3) := by decide +kernel
theorem dX3_takeStatement_130 : decode cX3_takeStatement 130 = .ok (.iload 5, 2) := by decide +kernel
theorem dX3_takeStatement_132 : decode cX3_takeStatement 132 = .ok (.ireturn, 1) := by decide +kernel
theorem chIwsX3_takeAssignment_0 : ∀ w ∈ ([.code yX3_takeAssignment cX3_takeAssignment 2 (some .boolean)] : List Cond), w ∈ wsX3_takeAssignment := fun _ h => (List.mem_cons.mpr (Or.inl (List.mem_singleton.mp h)))
theorem chIwsX3_takeAssignment_1 : ∀ w ∈ (wsX3_takeAssignment_r1 : List Cond), w ∈ wsX3_takeAssignment := fun _ h => (List.mem_cons_of_mem _ (List.mem_append_left _ (List.mem_append_left _ (List.mem_append_left _ (List.mem_append_left _ (List.mem_append_left _ h))))))
theorem chIwsX3_takeAssignment_2 : ∀ w ∈ (wsX3_takeAssignment_r2 : List Cond), w ∈ wsX3_takeAssignment := fun _ h => (List.mem_cons_of_mem _ (List.mem_append_left _ (List.mem_append_left _ (List.mem_append_left _ (List.mem_append_left _ (List.mem_append_right _ (List.mem_append_left _ h)))))))
theorem chIwsX3_takeAssignment_3 : ∀ w ∈ (wsX3_takeAssignment_r3 : List Cond), w ∈ wsX3_takeAssignment := fun _ h => (List.mem_cons_of_mem _ (List.mem_append_left _ (List.mem_append_left _ (List.mem_append_left _ (List.mem_append_left _ (List.mem_append_right _ (List.mem_append_right _ h)))))))
theorem chIwsX3_takeAssignment_4 : ∀ w ∈ (wsX50 : List Cond), w ∈ wsX3_takeAssignment := fun _ h => (List.mem_cons_of_mem _ (List.mem_append_left _ (List.mem_append_left _ (List.mem_append_left _ (List.mem_append_right _ h)))))
theorem chIwsX3_takeAssignment_5 : ∀ w ∈ (wsX30 : List Cond), w ∈ wsX3_takeAssignment := fun _ h => (List.mem_cons_of_mem _ (List.mem_append_left _ (List.mem_append_left _ (List.mem_append_right _ h))))
theorem chIwsX3_takeAssignment_6 : ∀ w ∈ (wsX70 : List Cond), w ∈ wsX3_takeAssignment := fun _ h => (List.mem_cons_of_mem _ (List.mem_append_left _ (List.mem_append_right _ h)))
theorem chIwsX3_takeAssignment_7 : ∀ w ∈ (wsX40 : List Cond), w ∈ wsX3_takeAssignment := fun _ h => (List.mem_cons_of_mem _ (List.mem_append_right _ h))
def chwsX3_takeAssignment : Nat → List Cond
  | 0 => [.code yX3_takeAssignment cX3_takeAssignment 2 (some .boolean)]
  | 1 => wsX3_takeAssignment_r1
  | 2 => wsX3_takeAssignment_r2
  | 3 => wsX3_takeAssignment_r3
  | 4 => wsX50
  | 5 => wsX30
  | 6 => wsX70
  | 7 => wsX40
  | _ => []
theorem chwsX3_takeAssignment_in : ∀ (j : Nat) (w : Cond), w ∈ chwsX3_takeAssignment j → w ∈ wsX3_takeAssignment
  | 0, w, h => chIwsX3_takeAssignment_0 w h
  | 1, w, h => chIwsX3_takeAssignment_1 w h
  | 2, w, h => chIwsX3_takeAssignment_2 w h
  | 3, w, h => chIwsX3_takeAssignment_3 w h
  | 4, w, h => chIwsX3_takeAssignment_4 w h
  | 5, w, h => chIwsX3_takeAssignment_5 w h
  | 6, w, h => chIwsX3_takeAssignment_6 w h
  | 7, w, h => chIwsX3_takeAssignment_7 w h
  | _ + 8, _, h => absurd h List.not_mem_nil
set_option maxRecDepth 20000 in
theorem ggX3_takeAssignment_X7_advance : GoodIn wsX3_takeAssignment wsX7_advance := goodIn_r2 chwsX3_takeAssignment chwsX3_takeAssignment_in _ [(1, 10), (1, 11), (1, 12), (1, 13), (1, 14), (1, 15), (1, 16), (1, 17), (1, 18), (6, 0), (6, 1), (6, 2), (6, 3), (6, 4), (6, 5), (6, 6), (6, 7)] rfl (by decide +kernel)
set_option maxRecDepth 20000 in
theorem gX3_takeAssignment_X7_advance : GoodIn wsX3_takeAssignment (wsV RX3 43 RX7 yX7_advance wsX7_advance) := goodIn_app (goodIn_r2 chwsX3_takeAssignment chwsX3_takeAssignment_in _ [(1, 6), (1, 7), (1, 8), (1, 9)] rfl (by decide +kernel)) ggX3_takeAssignment_X7_advance
set_option maxRecDepth 20000 in
theorem ggX3_takeAssignment_X3_take : GoodIn wsX3_takeAssignment wsX3_take := goodIn_r2 chwsX3_takeAssignment chwsX3_takeAssignment_in _ [(1, 23), (1, 1), (2, 0), (1, 6), (1, 7), (1, 8), (1, 9), (1, 10), (1, 11), (1, 12), (1, 13), (1, 14), (1, 15), (1, 16), (1, 17), (1, 18), (5, 0), (5, 1), (5, 2), (5, 3), (6, 0), (6, 1), (6, 2), (6, 3), (6, 4), (6, 5), (6, 6), (6, 7)] rfl (by decide +kernel)
set_option maxRecDepth 20000 in
theorem gX3_takeAssignment_X3_take : GoodIn wsX3_takeAssignment (wsV RX3 95 RX3 yX3_take wsX3_take) := goodIn_app (goodIn_r2 chwsX3_takeAssignment chwsX3_takeAssignment_in _ [(1, 19), (1, 20), (1, 21), (1, 22)] rfl (by decide +kernel)) ggX3_takeAssignment_X3_take
set_option maxRecDepth 20000 in
theorem ggX3_takeAssignment_X3_takeWholeSum : GoodIn wsX3_takeAssignment wsX3_takeWholeSum := goodIn_r2 chwsX3_takeAssignment chwsX3_takeAssignment_in _ [(2, 4), (2, 5), (2, 6), (1, 4), (2, 7), (2, 8), (2, 9), (2, 10), (2, 11), (2, 12), (2, 13), (1, 22), (2, 14), (1, 1), (2, 0), (2, 15), (2, 16), (2, 17), (1, 6), (1, 7), (1, 8), (1, 9), (1, 10), (1, 11), (1, 12), (1, 13), (1, 14), (1, 15), (1, 16), (1, 17), (1, 18), (2, 18), (2, 19), (2, 20), (2, 21), (2, 22), (2, 23), (3, 0), (3, 1), (3, 2), (1, 2), (3, 3), (3, 4), (3, 5), (3, 6), (3, 7), (3, 8), (3, 9), (3, 10), (3, 11), (3, 12), (1, 19), (1, 20), (1, 21), (1, 23), (3, 13), (5, 0), (5, 1), (5, 2), (5, 3), (7, 0), (7, 1), (7, 2), (7, 3), (7, 4), (7, 5), (4, 0), (4, 1), (4, 2), (4, 3), (4, 4), (4, 5), (4, 6), (4, 7), (4, 8), (6, 0), (6, 1), (6, 2), (6, 3), (6, 4), (6, 5), (6, 6), (6, 7)] rfl (by decide +kernel)
set_option maxRecDepth 20000 in
theorem gX3_takeAssignment_X3_takeWholeSum : GoodIn wsX3_takeAssignment (wsV RX3 99 RX3 yX3_takeWholeSum wsX3_takeWholeSum) := goodIn_app (goodIn_r2 chwsX3_takeAssignment chwsX3_takeAssignment_in _ [(2, 1), (2, 2), (2, 3), (1, 22)] rfl (by decide +kernel)) ggX3_takeAssignment_X3_takeWholeSum
theorem dX3_takeAssignment_0 : decode cX3_takeAssignment 0 = .ok (.aload_n 1, 1) := by decide +kernel
theorem dX3_takeAssignment_1 : decode cX3_takeAssignment 1 = .ok (.iconst 0, 1) := by decide +kernel
theorem dX3_takeAssignment_2 : decode cX3_takeAssignment 2 = .ok (.putfield 88, 3) := by decide +kernel
theorem dX3_takeAssignment_5 : decode cX3_takeAssignment 5 = .ok (.aload_n 1, 1) := by decide +kernel
theorem dX3_takeAssignment_6 : decode cX3_takeAssignment 6 = .ok (.aload_n 0, 1) := by decide +kernel
theorem dX3_takeAssignment_7 : decode cX3_takeAssignment 7 = .ok (.getfield 12, 3) := by decide +kernel
theorem dX3_takeAssignment_10 : decode cX3_takeAssignment 10 = .ok (.getfield 89, 3) := by decide +kernel
theorem dX3_takeAssignment_13 : decode cX3_takeAssignment 13 = .ok (.putfield 92, 3) := by decide +kernel
theorem dX3_takeAssignment_16 : decode cX3_takeAssignment 16 = .ok (.aload_n 0, 1) := by decide +kernel
theorem dX3_takeAssignment_17 : decode cX3_takeAssignment 17 = .ok (.getfield 21, 3) := by decide +kernel
theorem dX3_takeAssignment_20 : decode cX3_takeAssignment 20 = .ok (.dup, 1) := by decide +kernel
theorem dX3_takeAssignment_21 : decode cX3_takeAssignment 21 = .ok (.getfield 82, 3) := by decide +kernel
theorem dX3_takeAssignment_24 : decode cX3_takeAssignment 24 = .ok (.iconst 3, 1) := by decide +kernel
theorem dX3_takeAssignment_25 : decode cX3_takeAssignment 25 = .ok (.iconst 2, 1) := by decide +kernel
theorem dX3_takeAssignment_26 : decode cX3_takeAssignment 26 = .ok (.aload_n 1, 1) := by decide +kernel
theorem dX3_takeAssignment_27 : decode cX3_takeAssignment 27 = .ok (.getfield 92, 3) := by decide +kernel
theorem dX3_takeAssignment_30 : decode cX3_takeAssignment 30 = .ok (.imul, 1) := by decide +kernel
theorem dX3_takeAssignment_31 : decode cX3_takeAssignment 31 = .ok (.ishl, 1) := by decide +kernel
theorem dX3_takeAssignment_32 : decode cX3_takeAssignment 32 = .ok (.ior, 1) := by decide +kernel
theorem dX3_takeAssignment_33 : decode cX3_takeAssignment 33 = .ok (.putfield 82, 3) := by decide +kernel
theorem dX3_takeAssignment_36 : decode cX3_takeAssignment 36 = .ok (.aload_n 0, 1) := by decide +kernel
theorem dX3_takeAssignment_37 : decode cX3_takeAssignment 37 = .ok (.getfield 12, 3) := by decide +kernel
theorem dX3_takeAssignment_40 : decode cX3_takeAssignment 40 = .ok (.invokevirtual 43, 3) := by decide +kernel
theorem dX3_takeAssignment_43 : decode cX3_takeAssignment 43 = .ok (.aload_n 0, 1) := by decide +kernel
theorem dX3_takeAssignment_44 : decode cX3_takeAssignment 44 = .ok (.bipush 61, 2) := by decide +kernel
theorem dX3_takeAssignment_46 : decode cX3_takeAssignment 46 = .ok (.invokevirtual 95, 3) := by decide +kernel
theorem dX3_takeAssignment_49 : decode cX3_takeAssignment 49 = .ok (.ifCond .eq 24, 3) := by decide +kernel
theorem dX3_takeAssignment_52 : decode cX3_takeAssignment 52 = .ok (.aload_n 0, 1) := by decide +kernel
theorem dX3_takeAssignment_53 : decode cX3_takeAssignment 53 = .ok (.aload_n 1, 1) := by decide +kernel
theorem dX3_takeAssignment_54 : decode cX3_takeAssignment 54 = .ok (.invokevirtual 99, 3) := by decide +kernel
theorem dX3_takeAssignment_57 : decode cX3_takeAssignment 57 = .ok (.ifCond .eq 16, 3) := by decide +kernel
theorem dX3_takeAssignment_60 : decode cX3_takeAssignment 60 = .ok (.aload_n 0, 1) := by decide +kernel
theorem dX3_takeAssignment_61 : decode cX3_takeAssignment 61 = .ok (.bipush 59, 2) := by decide +kernel
theorem dX3_takeAssignment_63 : decode cX3_takeAssignment 63 = .ok (.invokevirtual 95, 3) := by decide +kernel
theorem dX3_takeAssignment_66 : decode cX3_takeAssignment 66 = .ok (.ifCond .eq 7, 3) := by decide +kernel
theorem dX3_takeAssignment_69 : decode cX3_takeAssignment 69 = .ok (.iconst 1, 1) := by decide +kernel
theorem dX3_takeAssignment_70 : decode cX3_takeAssignment 70 = .ok (.goto 4, 3) := by decide +kernel
theorem dX3_takeAssignment_73 : decode cX3_takeAssignment 73 = .ok (.iconst 0, 1) := by decide +kernel
theorem dX3_takeAssignment_74 : decode cX3_takeAssignment 74 = .ok (.ireturn, 1) := by decide +kernel
theorem chIwsX3_takeOut_0 : ∀ w ∈ ([.code yX3_takeOut cX3_takeOut 2 (some .boolean)] : List Cond), w ∈ wsX3_takeOut := fun _ h => (List.mem_cons.mpr (Or.inl (List.mem_singleton.mp h)))
theorem chIwsX3_takeOut_1 : ∀ w ∈ (wsX3_takeOut_r1 : List Cond), w ∈ wsX3_takeOut := fun _ h => (List.mem_cons_of_mem _ (List.mem_append_left _ (List.mem_append_left _ (List.mem_append_left _ (List.mem_append_left _ (List.mem_append_left _ h))))))
theorem chIwsX3_takeOut_2 : ∀ w ∈ (wsX3_takeOut_r2 : List Cond), w ∈ wsX3_takeOut := fun _ h => (List.mem_cons_of_mem _ (List.mem_append_left _ (List.mem_append_left _ (List.mem_append_left _ (List.mem_append_left _ (List.mem_append_right _ (List.mem_append_left _ h)))))))
theorem chIwsX3_takeOut_3 : ∀ w ∈ (wsX3_takeOut_r3 : List Cond), w ∈ wsX3_takeOut := fun _ h => (List.mem_cons_of_mem _ (List.mem_append_left _ (List.mem_append_left _ (List.mem_append_left _ (List.mem_append_left _ (List.mem_append_right _ (List.mem_append_right _ h)))))))
theorem chIwsX3_takeOut_4 : ∀ w ∈ (wsX50 : List Cond), w ∈ wsX3_takeOut := fun _ h => (List.mem_cons_of_mem _ (List.mem_append_left _ (List.mem_append_left _ (List.mem_append_left _ (List.mem_append_right _ h)))))
theorem chIwsX3_takeOut_5 : ∀ w ∈ (wsX30 : List Cond), w ∈ wsX3_takeOut := fun _ h => (List.mem_cons_of_mem _ (List.mem_append_left _ (List.mem_append_left _ (List.mem_append_right _ h))))
theorem chIwsX3_takeOut_6 : ∀ w ∈ (wsX40 : List Cond), w ∈ wsX3_takeOut := fun _ h => (List.mem_cons_of_mem _ (List.mem_append_left _ (List.mem_append_right _ h)))
theorem chIwsX3_takeOut_7 : ∀ w ∈ (wsX70 : List Cond), w ∈ wsX3_takeOut := fun _ h => (List.mem_cons_of_mem _ (List.mem_append_right _ h))
def chwsX3_takeOut : Nat → List Cond
  | 0 => [.code yX3_takeOut cX3_takeOut 2 (some .boolean)]
  | 1 => wsX3_takeOut_r1
  | 2 => wsX3_takeOut_r2
  | 3 => wsX3_takeOut_r3
  | 4 => wsX50
  | 5 => wsX30
  | 6 => wsX40
  | 7 => wsX70
  | _ => []
theorem chwsX3_takeOut_in : ∀ (j : Nat) (w : Cond), w ∈ chwsX3_takeOut j → w ∈ wsX3_takeOut
  | 0, w, h => chIwsX3_takeOut_0 w h
  | 1, w, h => chIwsX3_takeOut_1 w h
  | 2, w, h => chIwsX3_takeOut_2 w h
  | 3, w, h => chIwsX3_takeOut_3 w h
  | 4, w, h => chIwsX3_takeOut_4 w h
  | 5, w, h => chIwsX3_takeOut_5 w h
  | 6, w, h => chIwsX3_takeOut_6 w h
  | 7, w, h => chIwsX3_takeOut_7 w h
  | _ + 8, _, h => absurd h List.not_mem_nil
set_option maxRecDepth 20000 in
theorem ggX3_takeOut_X7_advance : GoodIn wsX3_takeOut wsX7_advance := goodIn_r2 chwsX3_takeOut chwsX3_takeOut_in _ [(1, 9), (1, 10), (1, 11), (1, 12), (1, 13), (1, 14), (1, 15), (1, 16), (1, 17), (7, 0), (7, 1), (7, 2), (7, 3), (7, 4), (7, 5), (7, 6), (7, 7)] rfl (by decide +kernel)
set_option maxRecDepth 20000 in
theorem gX3_takeOut_X7_advance : GoodIn wsX3_takeOut (wsV RX3 43 RX7 yX7_advance wsX7_advance) := goodIn_app (goodIn_r2 chwsX3_takeOut chwsX3_takeOut_in _ [(1, 5), (1, 6), (1, 7), (1, 8)] rfl (by decide +kernel)) ggX3_takeOut_X7_advance
set_option maxRecDepth 20000 in
theorem ggX3_takeOut_X3_takeNumber : GoodIn wsX3_takeOut wsX3_takeNumber := goodIn_r2 chwsX3_takeOut chwsX3_takeOut_in _ [(1, 22), (1, 4), (1, 23), (2, 0), (2, 1), (2, 2), (2, 3), (1, 21), (2, 4), (2, 5), (1, 5), (1, 6), (1, 7), (1, 8), (1, 9), (1, 10), (1, 11), (1, 12), (1, 13), (1, 14), (1, 15), (1, 16), (1, 17), (5, 0), (5, 1), (5, 2), (5, 3), (7, 0), (7, 1), (7, 2), (7, 3), (7, 4), (7, 5), (7, 6), (7, 7), (4, 0), (4, 1), (4, 2), (4, 3), (4, 4), (4, 5), (4, 6), (4, 7), (4, 8)] rfl (by decide +kernel)
set_option maxRecDepth 20000 in
theorem gX3_takeOut_X3_takeNumber : GoodIn wsX3_takeOut (wsV RX3 108 RX3 yX3_takeNumber wsX3_takeNumber) := goodIn_app (goodIn_r2 chwsX3_takeOut chwsX3_takeOut_in _ [(1, 18), (1, 19), (1, 20), (1, 21)] rfl (by decide +kernel)) ggX3_takeOut_X3_takeNumber
set_option maxRecDepth 20000 in
theorem ggX3_takeOut_X3_takeWholeSum : GoodIn wsX3_takeOut wsX3_takeWholeSum := goodIn_r2 chwsX3_takeOut chwsX3_takeOut_in _ [(2, 9), (2, 10), (2, 11), (1, 1), (2, 12), (2, 13), (2, 14), (2, 15), (2, 16), (2, 17), (2, 18), (1, 21), (2, 19), (1, 4), (2, 5), (2, 20), (2, 21), (2, 22), (1, 5), (1, 6), (1, 7), (1, 8), (1, 9), (1, 10), (1, 11), (1, 12), (1, 13), (1, 14), (1, 15), (1, 16), (1, 17), (2, 23), (3, 0), (3, 1), (3, 2), (3, 3), (3, 4), (3, 5), (3, 6), (3, 7), (1, 23), (3, 8), (3, 9), (3, 10), (3, 11), (3, 12), (3, 13), (3, 14), (3, 15), (3, 16), (3, 17), (2, 1), (2, 2), (2, 3), (2, 4), (3, 18), (5, 0), (5, 1), (5, 2), (5, 3), (6, 0), (6, 1), (6, 2), (6, 3), (6, 4), (6, 5), (4, 0), (4, 1), (4, 2), (4, 3), (4, 4), (4, 5), (4, 6), (4, 7), (4, 8), (7, 0), (7, 1), (7, 2), (7, 3), (7, 4), (7, 5), (7, 6), (7, 7)] rfl (by decide +kernel)
set_option maxRecDepth 20000 in
theorem gX3_takeOut_X3_takeWholeSum : GoodIn wsX3_takeOut (wsV RX3 99 RX3 yX3_takeWholeSum wsX3_takeWholeSum) := goodIn_app (goodIn_r2 chwsX3_takeOut chwsX3_takeOut_in _ [(2, 6), (2, 7), (2, 8), (1, 21)] rfl (by decide +kernel)) ggX3_takeOut_X3_takeWholeSum
set_option maxRecDepth 20000 in
theorem ggX3_takeOut_X3_take : GoodIn wsX3_takeOut wsX3_take := goodIn_r2 chwsX3_takeOut chwsX3_takeOut_in _ [(2, 4), (1, 4), (2, 5), (1, 5), (1, 6), (1, 7), (1, 8), (1, 9), (1, 10), (1, 11), (1, 12), (1, 13), (1, 14), (1, 15), (1, 16), (1, 17), (5, 0), (5, 1), (5, 2), (5, 3), (7, 0), (7, 1), (7, 2), (7, 3), (7, 4), (7, 5), (7, 6), (7, 7)] rfl (by decide +kernel)
set_option maxRecDepth 20000 in
theorem gX3_takeOut_X3_take : GoodIn wsX3_takeOut (wsV RX3 95 RX3 yX3_take wsX3_take) := goodIn_app (goodIn_r2 chwsX3_takeOut chwsX3_takeOut_in _ [(2, 1), (2, 2), (2, 3), (1, 21)] rfl (by decide +kernel)) ggX3_takeOut_X3_take
theorem dX3_takeOut_0 : decode cX3_takeOut 0 = .ok (.aload_n 1, 1) := by decide +kernel
theorem dX3_takeOut_1 : decode cX3_takeOut 1 = .ok (.iconst 1, 1) := by decide +kernel
theorem dX3_takeOut_2 : decode cX3_takeOut 2 = .ok (.putfield 88, 3) := by decide +kernel
theorem dX3_takeOut_5 : decode cX3_takeOut 5 = .ok (.aload_n 1, 1) := by decide +kernel
theorem dX3_takeOut_6 : decode cX3_takeOut 6 = .ok (.aload_n 0, 1) := by decide +kernel
theorem dX3_takeOut_7 : decode cX3_takeOut 7 = .ok (.getfield 21, 3) := by decide +kernel
theorem dX3_takeOut_10 : decode cX3_takeOut 10 = .ok (.dup, 1) := by decide +kernel
theorem dX3_takeOut_11 : decode cX3_takeOut 11 = .ok (.getfield 102, 3) := by decide +kernel
theorem dX3_takeOut_14 : decode cX3_takeOut 14 = .ok (.dup_x1, 1) := by decide +kernel
theorem dX3_takeOut_15 : decode cX3_takeOut 15 = .ok (.iconst 1, 1) := by decide +kernel
theorem dX3_takeOut_16 : decode cX3_takeOut 16 = .ok (.iadd, 1) := by decide +kernel
theorem dX3_takeOut_17 : decode cX3_takeOut 17 = .ok (.putfield 102, 3) := by decide +kernel
theorem dX3_takeOut_20 : decode cX3_takeOut 20 = .ok (.putfield 105, 3) := by decide +kernel
theorem dX3_takeOut_23 : decode cX3_takeOut 23 = .ok (.aload_n 0, 1) := by decide +kernel
theorem dX3_takeOut_24 : decode cX3_takeOut 24 = .ok (.getfield 12, 3) := by decide +kernel
theorem dX3_takeOut_27 : decode cX3_takeOut 27 = .ok (.invokevirtual 43, 3) := by decide +kernel
theorem dX3_takeOut_30 : decode cX3_takeOut 30 = .ok (.aload_n 0, 1) := by decide +kernel
theorem dX3_takeOut_31 : decode cX3_takeOut 31 = .ok (.aload_n 1, 1) := by decide +kernel
theorem dX3_takeOut_32 : decode cX3_takeOut 32 = .ok (.iconst 3, 1) := by decide +kernel
theorem dX3_takeOut_33 : decode cX3_takeOut 33 = .ok (.invokevirtual 108, 3) := by decide +kernel
theorem dX3_takeOut_36 : decode cX3_takeOut 36 = .ok (.ifCond .eq 24, 3) := by decide +kernel
theorem dX3_takeOut_39 : decode cX3_takeOut 39 = .ok (.aload_n 0, 1) := by decide +kernel
theorem dX3_takeOut_40 : decode cX3_takeOut 40 = .ok (.aload_n 1, 1) := by decide +kernel
theorem dX3_takeOut_41 : decode cX3_takeOut 41 = .ok (.invokevirtual 99, 3) := by decide +kernel
theorem dX3_takeOut_44 : decode cX3_takeOut 44 = .ok (.ifCond .eq 16, 3) := by decide +kernel
theorem dX3_takeOut_47 : decode cX3_takeOut 47 = .ok (.aload_n 0, 1) := by decide +kernel
theorem dX3_takeOut_48 : decode cX3_takeOut 48 = .ok (.bipush 59, 2) := by decide +kernel
theorem dX3_takeOut_50 : decode cX3_takeOut 50 = .ok (.invokevirtual 95, 3) := by decide +kernel
theorem dX3_takeOut_53 : decode cX3_takeOut 53 = .ok (.ifCond .eq 7, 3) := by decide +kernel
theorem dX3_takeOut_56 : decode cX3_takeOut 56 = .ok (.iconst 1, 1) := by decide +kernel
theorem dX3_takeOut_57 : decode cX3_takeOut 57 = .ok (.goto 4, 3) := by decide +kernel
theorem dX3_takeOut_60 : decode cX3_takeOut 60 = .ok (.iconst 0, 1) := by decide +kernel
theorem dX3_takeOut_61 : decode cX3_takeOut 61 = .ok (.ireturn, 1) := by decide +kernel
theorem chIwsX3_takeIf_0 : ∀ w ∈ ([.code yX3_takeIf cX3_takeIf 4 (some .boolean)] : List Cond), w ∈ wsX3_takeIf := fun _ h => (List.mem_cons.mpr (Or.inl (List.mem_singleton.mp h)))
theorem chIwsX3_takeIf_1 : ∀ w ∈ (wsX3_takeIf_r1 : List Cond), w ∈ wsX3_takeIf := fun _ h => (List.mem_cons_of_mem _ (List.mem_append_left _ (List.mem_append_left _ (List.mem_append_left _ (List.mem_append_left _ (List.mem_append_left _ h))))))
theorem chIwsX3_takeIf_2 : ∀ w ∈ (wsX3_takeIf_r2 : List Cond), w ∈ wsX3_takeIf := fun _ h => (List.mem_cons_of_mem _ (List.mem_append_left _ (List.mem_append_left _ (List.mem_append_left _ (List.mem_append_left _ (List.mem_append_right _ (List.mem_append_left _ h)))))))
theorem chIwsX3_takeIf_3 : ∀ w ∈ (wsX3_takeIf_r3 : List Cond), w ∈ wsX3_takeIf := fun _ h => (List.mem_cons_of_mem _ (List.mem_append_left _ (List.mem_append_left _ (List.mem_append_left _ (List.mem_append_left _ (List.mem_append_right _ (List.mem_append_right _ (List.mem_append_left _ h))))))))
theorem chIwsX3_takeIf_4 : ∀ w ∈ (wsX3_takeIf_r4 : List Cond), w ∈ wsX3_takeIf := fun _ h => (List.mem_cons_of_mem _ (List.mem_append_left _ (List.mem_append_left _ (List.mem_append_left _ (List.mem_append_left _ (List.mem_append_right _ (List.mem_append_right _ (List.mem_append_right _ (List.mem_append_left _ h)))))))))
theorem chIwsX3_takeIf_5 : ∀ w ∈ (wsX3_takeIf_r5 : List Cond), w ∈ wsX3_takeIf := fun _ h => (List.mem_cons_of_mem _ (List.mem_append_left _ (List.mem_append_left _ (List.mem_append_left _ (List.mem_append_left _ (List.mem_append_right _ (List.mem_append_right _ (List.mem_append_right _ (List.mem_append_right _ (List.mem_append_left _ h))))))))))
theorem chIwsX3_takeIf_6 : ∀ w ∈ (wsX3_takeIf_r6 : List Cond), w ∈ wsX3_takeIf := fun _ h => (List.mem_cons_of_mem _ (List.mem_append_left _ (List.mem_append_left _ (List.mem_append_left _ (List.mem_append_left _ (List.mem_append_right _ (List.mem_append_right _ (List.mem_append_right _ (List.mem_append_right _ (List.mem_append_right _ h))))))))))
theorem chIwsX3_takeIf_7 : ∀ w ∈ (wsX30 : List Cond), w ∈ wsX3_takeIf := fun _ h => (List.mem_cons_of_mem _ (List.mem_append_left _ (List.mem_append_left _ (List.mem_append_left _ (List.mem_append_right _ h)))))
theorem chIwsX3_takeIf_8 : ∀ w ∈ (wsX70 : List Cond), w ∈ wsX3_takeIf := fun _ h => (List.mem_cons_of_mem _ (List.mem_append_left _ (List.mem_append_left _ (List.mem_append_right _ h))))
theorem chIwsX3_takeIf_9 : ∀ w ∈ (wsX50 : List Cond), w ∈ wsX3_takeIf := fun _ h => (List.mem_cons_of_mem _ (List.mem_append_left _ (List.mem_append_right _ h)))
theorem chIwsX3_takeIf_10 : ∀ w ∈ (wsX40 : List Cond), w ∈ wsX3_takeIf := fun _ h => (List.mem_cons_of_mem _ (List.mem_append_right _ h))
def chwsX3_takeIf : Nat → List Cond
  | 0 => [.code yX3_takeIf cX3_takeIf 4 (some .boolean)]
  | 1 => wsX3_takeIf_r1
  | 2 => wsX3_takeIf_r2
  | 3 => wsX3_takeIf_r3
  | 4 => wsX3_takeIf_r4
  | 5 => wsX3_takeIf_r5
  | 6 => wsX3_takeIf_r6
  | 7 => wsX30
  | 8 => wsX70
  | 9 => wsX50
  | 10 => wsX40
  | _ => []
theorem chwsX3_takeIf_in : ∀ (j : Nat) (w : Cond), w ∈ chwsX3_takeIf j → w ∈ wsX3_takeIf
  | 0, w, h => chIwsX3_takeIf_0 w h
  | 1, w, h => chIwsX3_takeIf_1 w h
  | 2, w, h => chIwsX3_takeIf_2 w h
  | 3, w, h => chIwsX3_takeIf_3 w h
  | 4, w, h => chIwsX3_takeIf_4 w h
  | 5, w, h => chIwsX3_takeIf_5 w h
  | 6, w, h => chIwsX3_takeIf_6 w h
  | 7, w, h => chIwsX3_takeIf_7 w h
  | 8, w, h => chIwsX3_takeIf_8 w h
  | 9, w, h => chIwsX3_takeIf_9 w h
  | 10, w, h => chIwsX3_takeIf_10 w h
  | _ + 11, _, h => absurd h List.not_mem_nil
set_option maxRecDepth 20000 in
theorem ggX3_takeIf_X7_advance : GoodIn wsX3_takeIf wsX7_advance := goodIn_r2 chwsX3_takeIf chwsX3_takeIf_in _ [(1, 9), (1, 10), (1, 11), (1, 12), (1, 13), (1, 14), (1, 15), (1, 16), (1, 17), (8, 0), (8, 1), (8, 2), (8, 3), (8, 4), (8, 5), (8, 6), (8, 7)] rfl (by decide +kernel)
set_option maxRecDepth 20000 in
theorem gX3_takeIf_X7_advance : GoodIn wsX3_takeIf (wsV RX3 43 RX7 yX7_advance wsX7_advance) := goodIn_app (goodIn_r2 chwsX3_takeIf chwsX3_takeIf_in _ [(1, 5), (1, 6), (1, 7), (1, 8)] rfl (by decide +kernel)) ggX3_takeIf_X7_advance
set_option maxRecDepth 20000 in
theorem ggX3_takeIf_X3_takeWholeSum : GoodIn wsX3_takeIf wsX3_takeWholeSum := goodIn_r2 chwsX3_takeIf chwsX3_takeIf_in _ [(1, 22), (1, 23), (2, 0), (1, 2), (2, 1), (2, 2), (2, 3), (2, 4), (2, 5), (2, 6), (2, 7), (1, 21), (2, 8), (1, 1), (2, 9), (2, 10), (2, 11), (2, 12), (1, 5), (1, 6), (1, 7), (1, 8), (1, 9), (1, 10), (1, 11), (1, 12), (1, 13), (1, 14), (1, 15), (1, 16), (1, 17), (2, 13), (2, 14), (2, 15), (2, 16), (2, 17), (2, 18), (2, 19), (2, 20), (2, 21), (2, 22), (2, 23), (3, 0), (3, 1), (3, 2), (3, 3), (3, 4), (3, 5), (3, 6), (3, 7), (3, 8), (3, 9), (3, 10), (3, 11), (3, 12), (3, 13), (7, 0), (7, 1), (7, 2), (7, 3), (10, 0), (10, 1), (10, 2), (10, 3), (10, 4), (10, 5), (9, 0), (9, 1), (9, 2), (9, 3), (9, 4), (9, 5), (9, 6), (9, 7), (9, 8), (8, 0), (8, 1), (8, 2), (8, 3), (8, 4), (8, 5), (8, 6), (8, 7)] rfl (by decide +kernel)
set_option maxRecDepth 20000 in
theorem gX3_takeIf_X3_takeWholeSum : GoodIn wsX3_takeIf (wsV RX3 99 RX3 yX3_takeWholeSum wsX3_takeWholeSum) := goodIn_app (goodIn_r2 chwsX3_takeIf chwsX3_takeIf_in _ [(1, 18), (1, 19), (1, 20), (1, 21)] rfl (by decide +kernel)) ggX3_takeIf_X3_takeWholeSum
set_option maxRecDepth 20000 in
theorem ggX3_takeIf_X3_takeBraced : GoodIn wsX3_takeIf wsX3_takeBraced := goodIn_r2 chwsX3_takeIf chwsX3_takeIf_in _ [(3, 17), (3, 9), (3, 10), (3, 11), (1, 21), (3, 12), (1, 1), (2, 9), (1, 5), (1, 6), (1, 7), (1, 8), (1, 9), (1, 10), (1, 11), (1, 12), (1, 13), (1, 14), (1, 15), (1, 16), (1, 17), (3, 18), (3, 19), (3, 20), (0, 0), (1, 0), (1, 2), (1, 3), (1, 4), (1, 18), (1, 19), (1, 20), (1, 22), (1, 23), (2, 0), (2, 1), (2, 2), (2, 3), (2, 4), (2, 5), (2, 6), (2, 7), (2, 8), (2, 10), (2, 11), (2, 12), (2, 13), (2, 14), (2, 15), (2, 16), (2, 17), (2, 18), (2, 19), (2, 20), (2, 21), (2, 22), (2, 23), (3, 0), (3, 1), (3, 2), (3, 3), (3, 4), (3, 5), (3, 6), (3, 7), (3, 8), (3, 13), (3, 14), (3, 15), (3, 16), (3, 21), (3, 22), (3, 23), (4, 0), (4, 1), (4, 2), (4, 3), (4, 4), (4, 5), (4, 6), (4, 7), (4, 8), (4, 9), (4, 10), (4, 11), (4, 12), (4, 13), (4, 14), (4, 15), (4, 16), (4, 17), (4, 18), (4, 19), (4, 20), (4, 21), (4, 22), (4, 23), (5, 0), (5, 1), (5, 2), (5, 3), (5, 4), (5, 5), (5, 6), (5, 7), (5, 8), (5, 9), (5, 10), (5, 11), (5, 12), (5, 13), (5, 14), (5, 15), (5, 16), (5, 17), (5, 18), (5, 19), (5, 20), (5, 21), (5, 22), (5, 23), (6, 0), (6, 1), (6, 2), (6, 3), (6, 4), (6, 5), (6, 6), (6, 7), (6, 8), (6, 9), (7, 0), (7, 1), (7, 2), (7, 3), (8, 0), (8, 1), (8, 2), (8, 3), (8, 4), (8, 5), (8, 6), (8, 7), (9, 0), (9, 1), (9, 2), (9, 3), (9, 4), (9, 5), (9, 6), (9, 7), (9, 8), (10, 0), (10, 1), (10, 2), (10, 3), (10, 4), (10, 5)] rfl (by decide +kernel)
set_option maxRecDepth 20000 in
theorem gX3_takeIf_X3_takeBraced : GoodIn wsX3_takeIf (wsV RX3 112 RX3 yX3_takeBraced wsX3_takeBraced) := goodIn_app (goodIn_r2 chwsX3_takeIf chwsX3_takeIf_in _ [(3, 14), (3, 15), (3, 16), (1, 21)] rfl (by decide +kernel)) ggX3_takeIf_X3_takeBraced
set_option maxRecDepth 20000 in
theorem ggX3_takeIf_X3_take : GoodIn wsX3_takeIf wsX3_take := goodIn_r2 chwsX3_takeIf chwsX3_takeIf_in _ [(3, 12), (1, 1), (2, 9), (1, 5), (1, 6), (1, 7), (1, 8), (1, 9), (1, 10), (1, 11), (1, 12), (1, 13), (1, 14), (1, 15), (1, 16), (1, 17), (7, 0), (7, 1), (7, 2), (7, 3), (8, 0), (8, 1), (8, 2), (8, 3), (8, 4), (8, 5), (8, 6), (8, 7)] rfl (by decide +kernel)
set_option maxRecDepth 20000 in
theorem gX3_takeIf_X3_take : GoodIn wsX3_takeIf (wsV RX3 95 RX3 yX3_take wsX3_take) := goodIn_app (goodIn_r2 chwsX3_takeIf chwsX3_takeIf_in _ [(3, 9), (3, 10), (3, 11), (1, 21)] rfl (by decide +kernel)) ggX3_takeIf_X3_take
theorem dX3_takeIf_0 : decode cX3_takeIf 0 = .ok (.aload_n 1, 1) := by decide +kernel
theorem dX3_takeIf_1 : decode cX3_takeIf 1 = .ok (.iconst 2, 1) := by decide +kernel
theorem dX3_takeIf_2 : decode cX3_takeIf 2 = .ok (.putfield 88, 3) := by decide +kernel
theorem dX3_takeIf_5 : decode cX3_takeIf 5 = .ok (.aload_n 0, 1) := by decide +kernel
theorem dX3_takeIf_6 : decode cX3_takeIf 6 = .ok (.getfield 12, 3) := by decide +kernel
theorem dX3_takeIf_9 : decode cX3_takeIf 9 = .ok (.invokevirtual 43, 3) := by decide +kernel
theorem dX3_takeIf_12 : decode cX3_takeIf 12 = .ok (.aload_n 0, 1) := by decide +kernel
theorem dX3_takeIf_13 : decode cX3_takeIf 13 = .ok (.aload_n 1, 1) := by decide +kernel
theorem dX3_takeIf_14 : decode cX3_takeIf 14 = .ok (.invokevirtual 99, 3) := by decide +kernel
theorem dX3_takeIf_17 : decode cX3_takeIf 17 = .ok (.ifCond .eq 12, 3) := by decide +kernel
theorem dX3_takeIf_20 : decode cX3_takeIf 20 = .ok (.aload_n 0, 1) := by decide +kernel
theorem dX3_takeIf_21 : decode cX3_takeIf 21 = .ok (.iload_n 2, 1) := by decide +kernel
theorem dX3_takeIf_22 : decode cX3_takeIf 22 = .ok (.iload_n 3, 1) := by decide +kernel
theorem dX3_takeIf_23 : decode cX3_takeIf 23 = .ok (.invokevirtual 112, 3) := by decide +kernel
theorem dX3_takeIf_26 : decode cX3_takeIf 26 = .ok (.ifCond .ne 5, 3) := by decide +kernel
theorem dX3_takeIf_29 : decode cX3_takeIf 29 = .ok (.iconst 0, 1) := by decide +kernel
theorem dX3_takeIf_30 : decode cX3_takeIf 30 = .ok (.ireturn, 1) := by decide +kernel
theorem dX3_takeIf_31 : decode cX3_takeIf 31 = .ok (.aload_n 1, 1) := by decide +kernel
theorem dX3_takeIf_32 : decode cX3_takeIf 32 = .ok (.aload_n 0, 1) := by decide +kernel
theorem dX3_takeIf_33 : decode cX3_takeIf 33 = .ok (.getfield 21, 3) := by decide +kernel
theorem dX3_takeIf_36 : decode cX3_takeIf 36 = .ok (.getfield 56, 3) := by decide +kernel
theorem dX3_takeIf_39 : decode cX3_takeIf 39 = .ok (.putfield 115, 3) := by decide +kernel
theorem dX3_takeIf_42 : decode cX3_takeIf 42 = .ok (.aload_n 0, 1) := by decide +kernel
theorem dX3_takeIf_43 : decode cX3_takeIf 43 = .ok (.bipush 6, 2) := by decide +kernel
theorem dX3_takeIf_45 : decode cX3_takeIf 45 = .ok (.invokevirtual 95, 3) := by decide +kernel
theorem dX3_takeIf_48 : decode cX3_takeIf 48 = .ok (.ifCond .eq 12, 3) := by decide +kernel
theorem dX3_takeIf_51 : decode cX3_takeIf 51 = .ok (.aload_n 0, 1) := by decide +kernel
theorem dX3_takeIf_52 : decode cX3_takeIf 52 = .ok (.iload_n 2, 1) := by decide +kernel
theorem dX3_takeIf_53 : decode cX3_takeIf 53 = .ok (.iload_n 3, 1) := by decide +kernel
theorem dX3_takeIf_54 : decode cX3_takeIf 54 = .ok (.invokevirtual 112, 3) := by decide +kernel
theorem dX3_takeIf_57 : decode cX3_takeIf 57 = .ok (.ifCond .eq 7, 3) := by decide +kernel
theorem dX3_takeIf_60 : decode cX3_takeIf 60 = .ok (.iconst 1, 1) := by decide +kernel
theorem dX3_takeIf_61 : decode cX3_takeIf 61 = .ok (.goto 4, 3) := by decide +kernel
theorem dX3_takeIf_64 : decode cX3_takeIf 64 = .ok (.iconst 0, 1) := by decide +kernel
theorem dX3_takeIf_65 : decode cX3_takeIf 65 = .ok (.ireturn, 1) := by decide +kernel
theorem chIwsX3_takeLoop_0 : ∀ w ∈ ([.code yX3_takeLoop cX3_takeLoop 4 (some .boolean)] : List Cond), w ∈ wsX3_takeLoop := fun _ h => (List.mem_cons.mpr (Or.inl (List.mem_singleton.mp h)))
theorem chIwsX3_takeLoop_1 : ∀ w ∈ (wsX3_takeLoop_r1 : List Cond), w ∈ wsX3_takeLoop := fun _ h => (List.mem_cons_of_mem _ (List.mem_append_left _ (List.mem_append_left _ (List.mem_append_left _ (List.mem_append_left _ (List.mem_append_left _ h))))))
theorem chIwsX3_takeLoop_2 : ∀ w ∈ (wsX3_takeLoop_r2 : List Cond), w ∈ wsX3_takeLoop := fun _ h => (List.mem_cons_of_mem _ (List.mem_append_left _ (List.mem_append_left _ (List.mem_append_left _ (List.mem_append_left _ (List.mem_append_right _ (List.mem_append_left _ h)))))))
theorem chIwsX3_takeLoop_3 : ∀ w ∈ (wsX3_takeLoop_r3 : List Cond), w ∈ wsX3_takeLoop := fun _ h => (List.mem_cons_of_mem _ (List.mem_append_left _ (List.mem_append_left _ (List.mem_append_left _ (List.mem_append_left _ (List.mem_append_right _ (List.mem_append_right _ (List.mem_append_left _ h))))))))
theorem chIwsX3_takeLoop_4 : ∀ w ∈ (wsX3_takeLoop_r4 : List Cond), w ∈ wsX3_takeLoop := fun _ h => (List.mem_cons_of_mem _ (List.mem_append_left _ (List.mem_append_left _ (List.mem_append_left _ (List.mem_append_left _ (List.mem_append_right _ (List.mem_append_right _ (List.mem_append_right _ (List.mem_append_left _ h)))))))))
theorem chIwsX3_takeLoop_5 : ∀ w ∈ (wsX3_takeLoop_r5 : List Cond), w ∈ wsX3_takeLoop := fun _ h => (List.mem_cons_of_mem _ (List.mem_append_left _ (List.mem_append_left _ (List.mem_append_left _ (List.mem_append_left _ (List.mem_append_right _ (List.mem_append_right _ (List.mem_append_right _ (List.mem_append_right _ (List.mem_append_left _ h))))))))))
theorem chIwsX3_takeLoop_6 : ∀ w ∈ (wsX3_takeLoop_r6 : List Cond), w ∈ wsX3_takeLoop := fun _ h => (List.mem_cons_of_mem _ (List.mem_append_left _ (List.mem_append_left _ (List.mem_append_left _ (List.mem_append_left _ (List.mem_append_right _ (List.mem_append_right _ (List.mem_append_right _ (List.mem_append_right _ (List.mem_append_right _ h))))))))))
theorem chIwsX3_takeLoop_7 : ∀ w ∈ (wsX30 : List Cond), w ∈ wsX3_takeLoop := fun _ h => (List.mem_cons_of_mem _ (List.mem_append_left _ (List.mem_append_left _ (List.mem_append_left _ (List.mem_append_right _ h)))))
theorem chIwsX3_takeLoop_8 : ∀ w ∈ (wsX70 : List Cond), w ∈ wsX3_takeLoop := fun _ h => (List.mem_cons_of_mem _ (List.mem_append_left _ (List.mem_append_left _ (List.mem_append_right _ h))))
theorem chIwsX3_takeLoop_9 : ∀ w ∈ (wsX50 : List Cond), w ∈ wsX3_takeLoop := fun _ h => (List.mem_cons_of_mem _ (List.mem_append_left _ (List.mem_append_right _ h)))
theorem chIwsX3_takeLoop_10 : ∀ w ∈ (wsX40 : List Cond), w ∈ wsX3_takeLoop := fun _ h => (List.mem_cons_of_mem _ (List.mem_append_right _ h))
def chwsX3_takeLoop : Nat → List Cond
  | 0 => [.code yX3_takeLoop cX3_takeLoop 4 (some .boolean)]
  | 1 => wsX3_takeLoop_r1
  | 2 => wsX3_takeLoop_r2
  | 3 => wsX3_takeLoop_r3
  | 4 => wsX3_takeLoop_r4
  | 5 => wsX3_takeLoop_r5
  | 6 => wsX3_takeLoop_r6
  | 7 => wsX30
  | 8 => wsX70
  | 9 => wsX50
  | 10 => wsX40
  | _ => []
theorem chwsX3_takeLoop_in : ∀ (j : Nat) (w : Cond), w ∈ chwsX3_takeLoop j → w ∈ wsX3_takeLoop
  | 0, w, h => chIwsX3_takeLoop_0 w h
  | 1, w, h => chIwsX3_takeLoop_1 w h
  | 2, w, h => chIwsX3_takeLoop_2 w h
  | 3, w, h => chIwsX3_takeLoop_3 w h
  | 4, w, h => chIwsX3_takeLoop_4 w h
  | 5, w, h => chIwsX3_takeLoop_5 w h
  | 6, w, h => chIwsX3_takeLoop_6 w h
  | 7, w, h => chIwsX3_takeLoop_7 w h
  | 8, w, h => chIwsX3_takeLoop_8 w h
  | 9, w, h => chIwsX3_takeLoop_9 w h
  | 10, w, h => chIwsX3_takeLoop_10 w h
  | _ + 11, _, h => absurd h List.not_mem_nil
set_option maxRecDepth 20000 in
theorem ggX3_takeLoop_X7_advance : GoodIn wsX3_takeLoop wsX7_advance := goodIn_r2 chwsX3_takeLoop chwsX3_takeLoop_in _ [(1, 6), (1, 7), (1, 8), (1, 9), (1, 10), (1, 11), (1, 12), (1, 13), (1, 14), (8, 0), (8, 1), (8, 2), (8, 3), (8, 4), (8, 5), (8, 6), (8, 7)] rfl (by decide +kernel)
set_option maxRecDepth 20000 in
theorem gX3_takeLoop_X7_advance : GoodIn wsX3_takeLoop (wsV RX3 43 RX7 yX7_advance wsX7_advance) := goodIn_app (goodIn_r2 chwsX3_takeLoop chwsX3_takeLoop_in _ [(1, 2), (1, 3), (1, 4), (1, 5)] rfl (by decide +kernel)) ggX3_takeLoop_X7_advance
set_option maxRecDepth 20000 in
theorem ggX3_takeLoop_X3_takeNumber : GoodIn wsX3_takeLoop wsX3_takeNumber := goodIn_r2 chwsX3_takeLoop chwsX3_takeLoop_in _ [(1, 19), (1, 1), (1, 20), (1, 21), (1, 22), (1, 23), (2, 0), (1, 18), (2, 1), (2, 2), (1, 2), (1, 3), (1, 4), (1, 5), (1, 6), (1, 7), (1, 8), (1, 9), (1, 10), (1, 11), (1, 12), (1, 13), (1, 14), (7, 0), (7, 1), (7, 2), (7, 3), (8, 0), (8, 1), (8, 2), (8, 3), (8, 4), (8, 5), (8, 6), (8, 7), (9, 0), (9, 1), (9, 2), (9, 3), (9, 4), (9, 5), (9, 6), (9, 7), (9, 8)] rfl (by decide +kernel)
set_option maxRecDepth 20000 in
theorem gX3_takeLoop_X3_takeNumber : GoodIn wsX3_takeLoop (wsV RX3 108 RX3 yX3_takeNumber wsX3_takeNumber) := goodIn_app (goodIn_r2 chwsX3_takeLoop chwsX3_takeLoop_in _ [(1, 15), (1, 16), (1, 17), (1, 18)] rfl (by decide +kernel)) ggX3_takeLoop_X3_takeNumber
set_option maxRecDepth 20000 in
theorem ggX3_takeLoop_X3_takeBraced : GoodIn wsX3_takeLoop wsX3_takeBraced := goodIn_r2 chwsX3_takeLoop chwsX3_takeLoop_in _ [(2, 6), (1, 22), (1, 23), (2, 0), (1, 18), (2, 1), (1, 1), (2, 2), (1, 2), (1, 3), (1, 4), (1, 5), (1, 6), (1, 7), (1, 8), (1, 9), (1, 10), (1, 11), (1, 12), (1, 13), (1, 14), (2, 7), (2, 8), (2, 9), (2, 10), (1, 0), (2, 11), (2, 12), (2, 13), (2, 14), (2, 15), (2, 16), (2, 17), (2, 18), (2, 19), (2, 20), (2, 21), (2, 22), (2, 23), (3, 0), (3, 1), (3, 2), (3, 3), (3, 4), (3, 5), (3, 6), (3, 7), (3, 8), (3, 9), (3, 10), (3, 11), (3, 12), (3, 13), (3, 14), (3, 15), (1, 20), (3, 16), (3, 17), (3, 18), (3, 19), (3, 20), (3, 21), (3, 22), (3, 23), (4, 0), (4, 1), (4, 2), (2, 3), (2, 4), (2, 5), (0, 0), (1, 15), (1, 16), (1, 17), (1, 19), (1, 21), (4, 3), (4, 4), (4, 5), (4, 6), (4, 7), (4, 8), (4, 9), (4, 10), (4, 11), (4, 12), (4, 13), (4, 14), (4, 15), (4, 16), (4, 17), (4, 18), (4, 19), (4, 20), (4, 21), (4, 22), (4, 23), (5, 0), (5, 1), (5, 2), (5, 3), (5, 4), (5, 5), (5, 6), (5, 7), (5, 8), (5, 9), (5, 10), (5, 11), (5, 12), (5, 13), (5, 14), (5, 15), (5, 16), (5, 17), (5, 18), (5, 19), (5, 20), (5, 21), (5, 22), (5, 23), (6, 0), (6, 1), (6, 2), (6, 3), (6, 4), (6, 5), (6, 6), (6, 7), (6, 8), (6, 9), (7, 0), (7, 1), (7, 2), (7, 3), (8, 0), (8, 1), (8, 2), (8, 3), (8, 4), (8, 5), (8, 6), (8, 7), (9, 0), (9, 1), (9, 2), (9, 3), (9, 4), (9, 5), (9, 6), (9, 7), (9, 8), (10, 0), (10, 1), (10, 2), (10, 3), (10, 4), (10, 5)] rfl (by decide +kernel)
set_option maxRecDepth 20000 in
theorem gX3_takeLoop_X3_takeBraced : GoodIn wsX3_takeLoop (wsV RX3 112 RX3 yX3_takeBraced wsX3_takeBraced) := goodIn_app (goodIn_r2 chwsX3_takeLoop chwsX3_takeLoop_in _ [(2, 3), (2, 4), (2, 5), (1, 18)] rfl (by decide +kernel)) ggX3_takeLoop_X3_takeBraced
theorem dX3_takeLoop_0 : decode cX3_takeLoop 0 = .ok (.aload_n 1, 1) := by decide +kernel
theorem dX3_takeLoop_1 : decode cX3_takeLoop 1 = .ok (.iconst 3, 1) := by decide +kernel
theorem dX3_takeLoop_2 : decode cX3_takeLoop 2 = .ok (.putfield 88, 3) := by decide +kernel
theorem dX3_takeLoop_5 : decode cX3_takeLoop 5 = .ok (.aload_n 0, 1) := by decide +kernel
theorem dX3_takeLoop_6 : decode cX3_takeLoop 6 = .ok (.getfield 12, 3) := by decide +kernel
theorem dX3_takeLoop_9 : decode cX3_takeLoop 9 = .ok (.invokevirtual 43, 3) := by decide +kernel
theorem dX3_takeLoop_12 : decode cX3_takeLoop 12 = .ok (.aload_n 0, 1) := by decide +kernel
theorem dX3_takeLoop_13 : decode cX3_takeLoop 13 = .ok (.aload_n 1, 1) := by decide +kernel
theorem dX3_takeLoop_14 : decode cX3_takeLoop 14 = .ok (.bipush 8, 2) := by decide +kernel
theorem dX3_takeLoop_16 : decode cX3_takeLoop 16 = .ok (.invokevirtual 108, 3) := by decide +kernel
theorem dX3_takeLoop_19 : decode cX3_takeLoop 19 = .ok (.ifCond .eq 16, 3) := by decide +kernel
theorem dX3_takeLoop_22 : decode cX3_takeLoop 22 = .ok (.aload_n 0, 1) := by decide +kernel
theorem dX3_takeLoop_23 : decode cX3_takeLoop 23 = .ok (.iload_n 2, 1) := by decide +kernel
theorem dX3_takeLoop_24 : decode cX3_takeLoop 24 = .ok (.iload_n 3, 1) := by decide +kernel
theorem dX3_takeLoop_25 : decode cX3_takeLoop 25 = .ok (.invokevirtual 112, 3) := by decide +kernel
theorem dX3_takeLoop_28 : decode cX3_takeLoop 28 = .ok (.ifCond .eq 7, 3) := by decide +kernel
theorem dX3_takeLoop_31 : decode cX3_takeLoop 31 = .ok (.iconst 1, 1) := by decide +kernel
theorem dX3_takeLoop_32 : decode cX3_takeLoop 32 = .ok (.goto 4, 3) := by decide +kernel
theorem dX3_takeLoop_35 : decode cX3_takeLoop 35 = .ok (.iconst 0, 1) := by decide +kernel
theorem dX3_takeLoop_36 : decode cX3_takeLoop 36 = .ok (.ireturn, 1) := by decide +kernel
theorem chIwsX3_takeNumber_0 : ∀ w ∈ ([.code yX3_takeNumber cX3_takeNumber 3 (some .boolean)] : List Cond), w ∈ wsX3_takeNumber := fun _ h => (List.mem_cons.mpr (Or.inl (List.mem_singleton.mp h)))
theorem chIwsX3_takeNumber_1 : ∀ w ∈ ([.fieldLink RX3 12 "WatchedPrograms$Parser" "tokens" "LWatchedPrograms$Tokens;", .fieldLink RX3 89 "WatchedPrograms$Tokens" "value" "I", .fieldLink RX3 92 "WatchedPrograms$Statement" "target" "I", .methodLink RX3 95 yX3_take, .instanceMethod yX3_take, .selects RX3 yX3_take yX3_take, .initialized RX3, .code yX3_take cX3_take 2 (some .boolean), .fieldLink RX3 36 "WatchedPrograms$Tokens" "kind" "I", .methodLink RX3 43 yX7_advance, .instanceMethod yX7_advance, .selects RX7 yX7_advance yX7_advance, .initialized RX7, .code yX7_advance cX7_advance 1 none, .fieldLink RX7 65 "WatchedPrograms$Tokens" "at" "I", .fieldLink RX7 21 "WatchedPrograms$Tokens" "many" "I", .fieldLink RX7 9 "WatchedPrograms$Tokens" "kinds" "[I", .fieldLink RX7 70 "WatchedPrograms$Tokens" "kind" "I", .fieldLink RX7 15 "WatchedPrograms$Tokens" "values" "[I", .fieldLink RX7 73 "WatchedPrograms$Tokens" "value" "I", .fieldLink RX7 18 "WatchedPrograms$Tokens" "places" "[I", .fieldLink RX7 76 "WatchedPrograms$Tokens" "place" "I"] : List Cond), w ∈ wsX3_takeNumber := fun _ h => (List.mem_cons_of_mem _ (List.mem_append_left _ (List.mem_append_left _ (List.mem_append_left _ h))))
theorem chIwsX3_takeNumber_2 : ∀ w ∈ (wsX30 : List Cond), w ∈ wsX3_takeNumber := fun _ h => (List.mem_cons_of_mem _ (List.mem_append_left _ (List.mem_append_left _ (List.mem_append_right _ h))))
theorem chIwsX3_takeNumber_3 : ∀ w ∈ (wsX70 : List Cond), w ∈ wsX3_takeNumber := fun _ h => (List.mem_cons_of_mem _ (List.mem_append_left _ (List.mem_append_right _ h)))
theorem chIwsX3_takeNumber_4 : ∀ w ∈ (wsX50 : List Cond), w ∈ wsX3_takeNumber := fun _ h => (List.mem_cons_of_mem _ (List.mem_append_right _ h))
def chwsX3_takeNumber : Nat → List Cond
  | 0 => [.code yX3_takeNumber cX3_takeNumber 3 (some .boolean)]
  | 1 => [.fieldLink RX3 12 "WatchedPrograms$Parser" "tokens" "LWatchedPrograms$Tokens;", .fieldLink RX3 89 "WatchedPrograms$Tokens" "value" "I", .fieldLink RX3 92 "WatchedPrograms$Statement" "target" "I", .methodLink RX3 95 yX3_take, .instanceMethod yX3_take, .selects RX3 yX3_take yX3_take, .initialized RX3, .code yX3_take cX3_take 2 (some .boolean), .fieldLink RX3 36 "WatchedPrograms$Tokens" "kind" "I", .methodLink RX3 43 yX7_advance, .instanceMethod yX7_advance, .selects RX7 yX7_advance yX7_advance, .initialized RX7, .code yX7_advance cX7_advance 1 none, .fieldLink RX7 65 "WatchedPrograms$Tokens" "at" "I", .fieldLink RX7 21 "WatchedPrograms$Tokens" "many" "I", .fieldLink RX7 9 "WatchedPrograms$Tokens" "kinds" "[I", .fieldLink RX7 70 "WatchedPrograms$Tokens" "kind" "I", .fieldLink RX7 15 "WatchedPrograms$Tokens" "values" "[I", .fieldLink RX7 73 "WatchedPrograms$Tokens" "value" "I", .fieldLink RX7 18 "WatchedPrograms$Tokens" "places" "[I", .fieldLink RX7 76 "WatchedPrograms$Tokens" "place" "I"]
  | 2 => wsX30
  | 3 => wsX70
  | 4 => wsX50
  | _ => []
theorem chwsX3_takeNumber_in : ∀ (j : Nat) (w : Cond), w ∈ chwsX3_takeNumber j → w ∈ wsX3_takeNumber
  | 0, w, h => chIwsX3_takeNumber_0 w h
  | 1, w, h => chIwsX3_takeNumber_1 w h
  | 2, w, h => chIwsX3_takeNumber_2 w h
  | 3, w, h => chIwsX3_takeNumber_3 w h
  | 4, w, h => chIwsX3_takeNumber_4 w h
  | _ + 5, _, h => absurd h List.not_mem_nil
set_option maxRecDepth 20000 in
theorem ggX3_takeNumber_X3_take : GoodIn wsX3_takeNumber wsX3_take := goodIn_r2 chwsX3_takeNumber chwsX3_takeNumber_in _ [(1, 7), (1, 0), (1, 8), (1, 9), (1, 10), (1, 11), (1, 12), (1, 13), (1, 14), (1, 15), (1, 16), (1, 17), (1, 18), (1, 19), (1, 20), (1, 21), (2, 0), (2, 1), (2, 2), (2, 3), (3, 0), (3, 1), (3, 2), (3, 3), (3, 4), (3, 5), (3, 6), (3, 7)] rfl (by decide +kernel)
set_option maxRecDepth 20000 in
theorem gX3_takeNumber_X3_take : GoodIn wsX3_takeNumber (wsV RX3 95 RX3 yX3_take wsX3_take) := goodIn_app (goodIn_r2 chwsX3_takeNumber chwsX3_takeNumber_in _ [(1, 3), (1, 4), (1, 5), (1, 6)] rfl (by decide +kernel)) ggX3_takeNumber_X3_take
theorem dX3_takeNumber_0 : decode cX3_takeNumber 0 = .ok (.aload_n 1, 1) := by decide +kernel
theorem dX3_takeNumber_1 : decode cX3_takeNumber 1 = .ok (.aload_n 0, 1) := by decide +kernel
theorem dX3_takeNumber_2 : decode cX3_takeNumber 2 = .ok (.getfield 12, 3) := by decide +kernel
theorem dX3_takeNumber_5 : decode cX3_takeNumber 5 = .ok (.getfield 89, 3) := by decide +kernel
theorem dX3_takeNumber_8 : decode cX3_takeNumber 8 = .ok (.putfield 92, 3) := by decide +kernel
theorem dX3_takeNumber_11 : decode cX3_takeNumber 11 = .ok (.aload_n 0, 1) := by decide +kernel
theorem dX3_takeNumber_12 : decode cX3_takeNumber 12 = .ok (.getfield 12, 3) := by decide +kernel
theorem dX3_takeNumber_15 : decode cX3_takeNumber 15 = .ok (.getfield 89, 3) := by decide +kernel
theorem dX3_takeNumber_18 : decode cX3_takeNumber 18 = .ok (.iload_n 2, 1) := by decide +kernel
theorem dX3_takeNumber_19 : decode cX3_takeNumber 19 = .ok (.if_icmp .gt 15, 3) := by decide +kernel
theorem dX3_takeNumber_22 : decode cX3_takeNumber 22 = .ok (.aload_n 0, 1) := by decide +kernel
theorem dX3_takeNumber_23 : decode cX3_takeNumber 23 = .ok (.iconst 3, 1) := by decide +kernel
theorem dX3_takeNumber_24 : decode cX3_takeNumber 24 = .ok (.invokevirtual 95, 3) := by decide +kernel
theorem dX3_takeNumber_27 : decode cX3_takeNumber 27 = .ok (.ifCond .eq 7, 3) := by decide +kernel
theorem dX3_takeNumber_30 : decode cX3_takeNumber 30 = .ok (.iconst 1, 1) := by decide +kernel
theorem dX3_takeNumber_31 : decode cX3_takeNumber 31 = .ok (.goto 4, 3) := by decide +kernel
theorem dX3_takeNumber_34 : decode cX3_takeNumber 34 = .ok (.iconst 0, 1) := by decide +kernel
theorem dX3_takeNumber_35 : decode cX3_takeNumber 35 = .ok (.ireturn, 1) := by decide +kernel
theorem chIwsX3_takeBraced_0 : ∀ w ∈ ([.code yX3_takeBraced cX3_takeBraced 3 (some .boolean)] : List Cond), w ∈ wsX3_takeBraced := fun _ h => (List.mem_cons.mpr (Or.inl (List.mem_singleton.mp h)))
theorem chIwsX3_takeBraced_1 : ∀ w ∈ (wsX3_takeBraced_r1 : List Cond), w ∈ wsX3_takeBraced := fun _ h => (List.mem_cons_of_mem _ (List.mem_append_left _ (List.mem_append_left _ (List.mem_append_left _ (List.mem_append_left _ (List.mem_append_left _ h))))))
theorem chIwsX3_takeBraced_2 : ∀ w ∈ (wsX3_takeBraced_r2 : List Cond), w ∈ wsX3_takeBraced := fun _ h => (List.mem_cons_of_mem _ (List.mem_append_left _ (List.mem_append_left _ (List.mem_append_left _ (List.mem_append_left _ (List.mem_append_right _ (List.mem_append_left _ h)))))))
theorem chIwsX3_takeBraced_3 : ∀ w ∈ (wsX3_takeBraced_r3 : List Cond), w ∈ wsX3_takeBraced := fun _ h => (List.mem_cons_of_mem _ (List.mem_append_left _ (List.mem_append_left _ (List.mem_append_left _ (List.mem_append_left _ (List.mem_append_right _ (List.mem_append_right _ (List.mem_append_left _ h))))))))
theorem chIwsX3_takeBraced_4 : ∀ w ∈ (wsX3_takeBraced_r4 : List Cond), w ∈ wsX3_takeBraced := fun _ h => (List.mem_cons_of_mem _ (List.mem_append_left _ (List.mem_append_left _ (List.mem_append_left _ (List.mem_append_left _ (List.mem_append_right _ (List.mem_append_right _ (List.mem_append_right _ (List.mem_append_left _ h)))))))))
theorem chIwsX3_takeBraced_5 : ∀ w ∈ (wsX3_takeBraced_r5 : List Cond), w ∈ wsX3_takeBraced := fun _ h => (List.mem_cons_of_mem _ (List.mem_append_left _ (List.mem_append_left _ (List.mem_append_left _ (List.mem_append_left _ (List.mem_append_right _ (List.mem_append_right _ (List.mem_append_right _ (List.mem_append_right _ (List.mem_append_left _ h))))))))))
theorem chIwsX3_takeBraced_6 : ∀ w ∈ (wsX3_takeBraced_r6 : List Cond), w ∈ wsX3_takeBraced := fun _ h => (List.mem_cons_of_mem _ (List.mem_append_left _ (List.mem_append_left _ (List.mem_append_left _ (List.mem_append_left _ (List.mem_append_right _ (List.mem_append_right _ (List.mem_append_right _ (List.mem_append_right _ (List.mem_append_right _ h))))))))))
theorem chIwsX3_takeBraced_7 : ∀ w ∈ (wsX30 : List Cond), w ∈ wsX3_takeBraced := fun _ h => (List.mem_cons_of_mem _ (List.mem_append_left _ (List.mem_append_left _ (List.mem_append_left _ (List.mem_append_right _ h)))))
theorem chIwsX3_takeBraced_8 : ∀ w ∈ (wsX70 : List Cond), w ∈ wsX3_takeBraced := fun _ h => (List.mem_cons_of_mem _ (List.mem_append_left _ (List.mem_append_left _ (List.mem_append_right _ h))))
theorem chIwsX3_takeBraced_9 : ∀ w ∈ (wsX50 : List Cond), w ∈ wsX3_takeBraced := fun _ h => (List.mem_cons_of_mem _ (List.mem_append_left _ (List.mem_append_right _ h)))
theorem chIwsX3_takeBraced_10 : ∀ w ∈ (wsX40 : List Cond), w ∈ wsX3_takeBraced := fun _ h => (List.mem_cons_of_mem _ (List.mem_append_right _ h))
def chwsX3_takeBraced : Nat → List Cond
  | 0 => [.code yX3_takeBraced cX3_takeBraced 3 (some .boolean)]
  | 1 => wsX3_takeBraced_r1
  | 2 => wsX3_takeBraced_r2
  | 3 => wsX3_takeBraced_r3
  | 4 => wsX3_takeBraced_r4
  | 5 => wsX3_takeBraced_r5
  | 6 => wsX3_takeBraced_r6
  | 7 => wsX30
  | 8 => wsX70
  | 9 => wsX50
  | 10 => wsX40
  | _ => []
theorem chwsX3_takeBraced_in : ∀ (j : Nat) (w : Cond), w ∈ chwsX3_takeBraced j → w ∈ wsX3_takeBraced
  | 0, w, h => chIwsX3_takeBraced_0 w h
  | 1, w, h => chIwsX3_takeBraced_1 w h
  | 2, w, h => chIwsX3_takeBraced_2 w h
  | 3, w, h => chIwsX3_takeBraced_3 w h
  | 4, w, h => chIwsX3_takeBraced_4 w h
  | 5, w, h => chIwsX3_takeBraced_5 w h
  | 6, w, h => chIwsX3_takeBraced_6 w h
  | 7, w, h => chIwsX3_takeBraced_7 w h
  | 8, w, h => chIwsX3_takeBraced_8 w h
  | 9, w, h => chIwsX3_takeBraced_9 w h
  | 10, w, h => chIwsX3_takeBraced_10 w h
  | _ + 11, _, h => absurd h List.not_mem_nil
set_option maxRecDepth 20000 in
theorem ggX3_takeBraced_X3_take : GoodIn wsX3_takeBraced wsX3_take := goodIn_r2 chwsX3_takeBraced chwsX3_takeBraced_in _ [(1, 4), (1, 5), (1, 6), (1, 7), (1, 8), (1, 9), (1, 10), (1, 11), (1, 12), (1, 13), (1, 14), (1, 15), (1, 16), (1, 17), (1, 18), (1, 19), (7, 0), (7, 1), (7, 2), (7, 3), (8, 0), (8, 1), (8, 2), (8, 3), (8, 4), (8, 5), (8, 6), (8, 7)] rfl (by decide +kernel)
set_option maxRecDepth 20000 in
theorem gX3_takeBraced_X3_take : GoodIn wsX3_takeBraced (wsV RX3 95 RX3 yX3_take wsX3_take) := goodIn_app (goodIn_r2 chwsX3_takeBraced chwsX3_takeBraced_in _ [(1, 0), (1, 1), (1, 2), (1, 3)] rfl (by decide +kernel)) ggX3_takeBraced_X3_take
set_option maxRecDepth 20000 in
theorem ggX3_takeBraced_X3_takeStatements : GoodIn wsX3_takeBraced wsX3_takeStatements := goodIn_r2 chwsX3_takeBraced chwsX3_takeBraced_in _ [(5, 22), (2, 1), (5, 23), (6, 0), (6, 1), (1, 3), (6, 2), (1, 5), (1, 6), (6, 3), (6, 4), (6, 5), (3, 0), (6, 6), (4, 10), (6, 7), (6, 8), (6, 9), (0, 0), (1, 0), (1, 1), (1, 2), (1, 4), (1, 7), (1, 8), (1, 9), (1, 10), (1, 11), (1, 12), (1, 13), (1, 14), (1, 15), (1, 16), (1, 17), (1, 18), (1, 19), (1, 20), (1, 21), (1, 22), (1, 23), (2, 0), (2, 2), (2, 3), (2, 4), (2, 5), (2, 6), (2, 7), (2, 8), (2, 9), (2, 10), (2, 11), (2, 12), (2, 13), (2, 14), (2, 15), (2, 16), (2, 17), (2, 18), (2, 19), (2, 20), (2, 21), (2, 22), (2, 23), (3, 1), (3, 2), (3, 3), (3, 4), (3, 5), (3, 6), (3, 7), (3, 8), (3, 9), (3, 10), (3, 11), (3, 12), (3, 13), (3, 14), (3, 15), (3, 16), (3, 17), (3, 18), (3, 19), (3, 20), (3, 21), (3, 22), (3, 23), (4, 0), (4, 1), (4, 2), (4, 3), (4, 4), (4, 5), (4, 6), (4, 7), (4, 8), (4, 9), (4, 11), (4, 12), (4, 13), (4, 14), (4, 15), (4, 16), (4, 17), (4, 18), (4, 19), (4, 20), (4, 21), (4, 22), (4, 23), (5, 0), (5, 1), (5, 2), (5, 3), (5, 4), (5, 5), (5, 6), (5, 7), (5, 8), (5, 9), (5, 10), (5, 11), (5, 12), (5, 13), (5, 14), (5, 15), (5, 16), (5, 17), (5, 18), (5, 19), (5, 20), (5, 21), (7, 0), (7, 1), (7, 2), (7, 3), (8, 0), (8, 1), (8, 2), (8, 3), (8, 4), (8, 5), (8, 6), (8, 7), (9, 0), (9, 1), (9, 2), (9, 3), (9, 4), (9, 5), (9, 6), (9, 7), (9, 8), (10, 0), (10, 1), (10, 2), (10, 3), (10, 4), (10, 5)] rfl (by decide +kernel)
set_option maxRecDepth 20000 in
theorem gX3_takeBraced_X3_takeStatements : GoodIn wsX3_takeBraced (wsV RX3 32 RX3 yX3_takeStatements wsX3_takeStatements) := goodIn_app (goodIn_r2 chwsX3_takeBraced chwsX3_takeBraced_in _ [(1, 20), (1, 21), (1, 22), (1, 3)] rfl (by decide +kernel)) ggX3_takeBraced_X3_takeStatements
theorem dX3_takeBraced_0 : decode cX3_takeBraced 0 = .ok (.iload_n 2, 1) := by decide +kernel
theorem dX3_takeBraced_1 : decode cX3_takeBraced 1 = .ok (.bipush 6, 2) := by decide +kernel
theorem dX3_takeBraced_3 : decode cX3_takeBraced 3 = .ok (.if_icmp .ge 36, 3) := by decide +kernel
theorem dX3_takeBraced_6 : decode cX3_takeBraced 6 = .ok (.aload_n 0, 1) := by decide +kernel
theorem dX3_takeBraced_7 : decode cX3_takeBraced 7 = .ok (.bipush 123, 2) := by decide +kernel
theorem dX3_takeBraced_9 : decode cX3_takeBraced 9 = .ok (.invokevirtual 95, 3) := by decide +kernel
theorem dX3_takeBraced_12 : decode cX3_takeBraced 12 = .ok (.ifCond .eq 27, 3) := by decide +kernel
theorem dX3_takeBraced_15 : decode cX3_takeBraced 15 = .ok (.aload_n 0, 1) := by decide +kernel
theorem dX3_takeBraced_16 : decode cX3_takeBraced 16 = .ok (.iload_n 1, 1) := by decide +kernel
theorem dX3_takeBraced_17 : decode cX3_takeBraced 17 = .ok (.iload_n 2, 1) := by decide +kernel
theorem dX3_takeBraced_18 : decode cX3_takeBraced 18 = .ok (.iconst 1, 1) := by decide +kernel
theorem dX3_takeBraced_19 : decode cX3_takeBraced 19 = .ok (.iadd, 1) := by decide +kernel
theorem dX3_takeBraced_20 : decode cX3_takeBraced 20 = .ok (.invokevirtual 32, 3) := by decide +kernel
theorem dX3_takeBraced_23 : decode cX3_takeBraced 23 = .ok (.ifCond .eq 16, 3) := by decide +kernel
theorem dX3_takeBraced_26 : decode cX3_takeBraced 26 = .ok (.aload_n 0, 1) := by decide +kernel
theorem dX3_takeBraced_27 : decode cX3_takeBraced 27 = .ok (.bipush 125, 2) := by decide +kernel
theorem dX3_takeBraced_29 : decode cX3_takeBraced 29 = .ok (.invokevirtual 95, 3) := by decide +kernel
theorem dX3_takeBraced_32 : decode cX3_takeBraced 32 = .ok (.ifCond .eq 7, 3) := by decide +kernel
theorem dX3_takeBraced_35 : decode cX3_takeBraced 35 = .ok (.iconst 1, 1) := by decide +kernel
theorem dX3_takeBraced_36 : decode cX3_takeBraced 36 = .ok (.goto 4, 3) := by decide +kernel
theorem dX3_takeBraced_39 : decode cX3_takeBraced 39 = .ok (.iconst 0, 1) := by decide +kernel
theorem dX3_takeBraced_40 : decode cX3_takeBraced 40 = .ok (.ireturn, 1) := by decide +kernel
theorem chIwsX3_takeWholeSum_0 : ∀ w ∈ ([.code yX3_takeWholeSum cX3_takeWholeSum 3 (some .boolean)] : List Cond), w ∈ wsX3_takeWholeSum := fun _ h => (List.mem_cons.mpr (Or.inl (List.mem_singleton.mp h)))
theorem chIwsX3_takeWholeSum_1 : ∀ w ∈ (wsX3_takeWholeSum_r1 : List Cond), w ∈ wsX3_takeWholeSum := fun _ h => (List.mem_cons_of_mem _ (List.mem_append_left _ (List.mem_append_left _ (List.mem_append_left _ (List.mem_append_left _ (List.mem_append_left _ h))))))
theorem chIwsX3_takeWholeSum_2 : ∀ w ∈ (wsX3_takeWholeSum_r2 : List Cond), w ∈ wsX3_takeWholeSum := fun _ h => (List.mem_cons_of_mem _ (List.mem_append_left _ (List.mem_append_left _ (List.mem_append_left _ (List.mem_append_left _ (List.mem_append_right _ (List.mem_append_left _ h)))))))
theorem chIwsX3_takeWholeSum_3 : ∀ w ∈ (wsX3_takeWholeSum_r3 : List Cond), w ∈ wsX3_takeWholeSum := fun _ h => (List.mem_cons_of_mem _ (List.mem_append_left _ (List.mem_append_left _ (List.mem_append_left _ (List.mem_append_left _ (List.mem_append_right _ (List.mem_append_right _ h)))))))
theorem chIwsX3_takeWholeSum_4 : ∀ w ∈ (wsX30 : List Cond), w ∈ wsX3_takeWholeSum := fun _ h => (List.mem_cons_of_mem _ (List.mem_append_left _ (List.mem_append_left _ (List.mem_append_left _ (List.mem_append_right _ h)))))
theorem chIwsX3_takeWholeSum_5 : ∀ w ∈ (wsX40 : List Cond), w ∈ wsX3_takeWholeSum := fun _ h => (List.mem_cons_of_mem _ (List.mem_append_left _ (List.mem_append_left _ (List.mem_append_right _ h))))
theorem chIwsX3_takeWholeSum_6 : ∀ w ∈ (wsX50 : List Cond), w ∈ wsX3_takeWholeSum := fun _ h => (List.mem_cons_of_mem _ (List.mem_append_left _ (List.mem_append_right _ h)))
theorem chIwsX3_takeWholeSum_7 : ∀ w ∈ (wsX70 : List Cond), w ∈ wsX3_takeWholeSum := fun _ h => (List.mem_cons_of_mem _ (List.mem_append_right _ h))
def chwsX3_takeWholeSum : Nat → List Cond
  | 0 => [.code yX3_takeWholeSum cX3_takeWholeSum 3 (some .boolean)]
  | 1 => wsX3_takeWholeSum_r1
  | 2 => wsX3_takeWholeSum_r2
  | 3 => wsX3_takeWholeSum_r3
  | 4 => wsX30
  | 5 => wsX40
  | 6 => wsX50
  | 7 => wsX70
  | _ => []
theorem chwsX3_takeWholeSum_in : ∀ (j : Nat) (w : Cond), w ∈ chwsX3_takeWholeSum j → w ∈ wsX3_takeWholeSum
  | 0, w, h => chIwsX3_takeWholeSum_0 w h
  | 1, w, h => chIwsX3_takeWholeSum_1 w h
  | 2, w, h => chIwsX3_takeWholeSum_2 w h
  | 3, w, h => chIwsX3_takeWholeSum_3 w h
  | 4, w, h => chIwsX3_takeWholeSum_4 w h
  | 5, w, h => chIwsX3_takeWholeSum_5 w h
  | 6, w, h => chIwsX3_takeWholeSum_6 w h
  | 7, w, h => chIwsX3_takeWholeSum_7 w h
  | _ + 8, _, h => absurd h List.not_mem_nil
set_option maxRecDepth 20000 in
theorem ggX3_takeWholeSum_X3_takeSum : GoodIn wsX3_takeWholeSum wsX3_takeSum := goodIn_r2 chwsX3_takeWholeSum chwsX3_takeWholeSum_in _ [(1, 11), (1, 12), (1, 13), (1, 2), (1, 14), (1, 15), (1, 16), (1, 10), (1, 17), (1, 18), (1, 19), (1, 20), (1, 21), (1, 22), (1, 23), (2, 0), (2, 1), (2, 2), (2, 3), (2, 4), (2, 5), (2, 6), (2, 7), (2, 8), (2, 9), (2, 10), (2, 11), (2, 12), (2, 13), (1, 7), (1, 8), (1, 9), (2, 14), (2, 15), (1, 1), (2, 16), (2, 17), (2, 18), (2, 19), (1, 0), (2, 20), (2, 21), (2, 22), (2, 23), (3, 0), (3, 1), (3, 2), (3, 3), (3, 4), (3, 5), (3, 6), (4, 0), (4, 1), (4, 2), (4, 3), (7, 0), (7, 1), (7, 2), (7, 3), (7, 4), (7, 5), (7, 6), (7, 7), (5, 0), (5, 1), (5, 2), (5, 3), (5, 4), (5, 5)] rfl (by decide +kernel)
set_option maxRecDepth 20000 in
theorem gX3_takeWholeSum_X3_takeSum : GoodIn wsX3_takeWholeSum (wsV RX3 128 RX3 yX3_takeSum wsX3_takeSum) := goodIn_app (goodIn_r2 chwsX3_takeWholeSum chwsX3_takeWholeSum_in _ [(1, 7), (1, 8), (1, 9), (1, 10)] rfl (by decide +kernel)) ggX3_takeWholeSum_X3_takeSum
theorem dX3_takeWholeSum_0 : decode cX3_takeWholeSum 0 = .ok (.aload_n 0, 1) := by decide +kernel
theorem dX3_takeWholeSum_1 : decode cX3_takeWholeSum 1 = .ok (.iconst 0, 1) := by decide +kernel
theorem dX3_takeWholeSum_2 : decode cX3_takeWholeSum 2 = .ok (.putfield 118, 3) := by decide +kernel
theorem dX3_takeWholeSum_5 : decode cX3_takeWholeSum 5 = .ok (.aload_n 0, 1) := by decide +kernel
theorem dX3_takeWholeSum_6 : decode cX3_takeWholeSum 6 = .ok (.iconst 0, 1) := by decide +kernel
theorem dX3_takeWholeSum_7 : decode cX3_takeWholeSum 7 = .ok (.putfield 121, 3) := by decide +kernel
theorem dX3_takeWholeSum_10 : decode cX3_takeWholeSum 10 = .ok (.aload_n 1, 1) := by decide +kernel
theorem dX3_takeWholeSum_11 : decode cX3_takeWholeSum 11 = .ok (.aload_n 0, 1) := by decide +kernel
theorem dX3_takeWholeSum_12 : decode cX3_takeWholeSum 12 = .ok (.getfield 21, 3) := by decide +kernel
theorem dX3_takeWholeSum_15 : decode cX3_takeWholeSum 15 = .ok (.getfield 122, 3) := by decide +kernel
theorem dX3_takeWholeSum_18 : decode cX3_takeWholeSum 18 = .ok (.putfield 125, 3) := by decide +kernel
theorem dX3_takeWholeSum_21 : decode cX3_takeWholeSum 21 = .ok (.aload_n 0, 1) := by decide +kernel
theorem dX3_takeWholeSum_22 : decode cX3_takeWholeSum 22 = .ok (.iconst 0, 1) := by decide +kernel
theorem dX3_takeWholeSum_23 : decode cX3_takeWholeSum 23 = .ok (.invokevirtual 128, 3) := by decide +kernel
theorem dX3_takeWholeSum_26 : decode cX3_takeWholeSum 26 = .ok (.istore_n 2, 1) := by decide +kernel
theorem dX3_takeWholeSum_27 : decode cX3_takeWholeSum 27 = .ok (.aload_n 1, 1) := by decide +kernel
theorem dX3_takeWholeSum_28 : decode cX3_takeWholeSum 28 = .ok (.aload_n 0, 1) := by decide +kernel
theorem dX3_takeWholeSum_29 : decode cX3_takeWholeSum 29 = .ok (.getfield 21, 3) := by decide +kernel
theorem dX3_takeWholeSum_32 : decode cX3_takeWholeSum 32 = .ok (.getfield 122, 3) := by decide +kernel
theorem dX3_takeWholeSum_35 : decode cX3_takeWholeSum 35 = .ok (.putfield 131, 3) := by decide +kernel
theorem dX3_takeWholeSum_38 : decode cX3_takeWholeSum 38 = .ok (.aload_n 1, 1) := by decide +kernel
theorem dX3_takeWholeSum_39 : decode cX3_takeWholeSum 39 = .ok (.aload_n 0, 1) := by decide +kernel
theorem dX3_takeWholeSum_40 : decode cX3_takeWholeSum 40 = .ok (.getfield 121, 3) := by decide +kernel
theorem dX3_takeWholeSum_43 : decode cX3_takeWholeSum 43 = .ok (.putfield 85, 3) := by decide +kernel
theorem dX3_takeWholeSum_46 : decode cX3_takeWholeSum 46 = .ok (.iload_n 2, 1) := by decide +kernel
theorem dX3_takeWholeSum_47 : decode cX3_takeWholeSum 47 = .ok (.ireturn, 1) := by decide +kernel
theorem chIwsX3_takeSum_0 : ∀ w ∈ ([.code yX3_takeSum cX3_takeSum 4 (some .boolean)] : List Cond), w ∈ wsX3_takeSum := fun _ h => (List.mem_cons.mpr (Or.inl (List.mem_singleton.mp h)))
theorem chIwsX3_takeSum_1 : ∀ w ∈ (wsX3_takeSum_r1 : List Cond), w ∈ wsX3_takeSum := fun _ h => (List.mem_cons_of_mem _ (List.mem_append_left _ (List.mem_append_left _ (List.mem_append_left _ (List.mem_append_left _ h)))))
theorem chIwsX3_takeSum_2 : ∀ w ∈ (wsX3_takeSum_r2 : List Cond), w ∈ wsX3_takeSum := fun _ h => (List.mem_cons_of_mem _ (List.mem_append_left _ (List.mem_append_left _ (List.mem_append_left _ (List.mem_append_right _ (List.mem_append_left _ h))))))
theorem chIwsX3_takeSum_3 : ∀ w ∈ (wsX3_takeSum_r3 : List Cond), w ∈ wsX3_takeSum := fun _ h => (List.mem_cons_of_mem _ (List.mem_append_left _ (List.mem_append_left _ (List.mem_append_left _ (List.mem_append_right _ (List.mem_append_right _ h))))))
theorem chIwsX3_takeSum_4 : ∀ w ∈ (wsX30 : List Cond), w ∈ wsX3_takeSum := fun _ h => (List.mem_cons_of_mem _ (List.mem_append_left _ (List.mem_append_left _ (List.mem_append_right _ h))))
theorem chIwsX3_takeSum_5 : ∀ w ∈ (wsX70 : List Cond), w ∈ wsX3_takeSum := fun _ h => (List.mem_cons_of_mem _ (List.mem_append_left _ (List.mem_append_right _ h)))
theorem chIwsX3_takeSum_6 : ∀ w ∈ (wsX40 : List Cond), w ∈ wsX3_takeSum := fun _ h => (List.mem_cons_of_mem _ (List.mem_append_right _ h))
def chwsX3_takeSum : Nat → List Cond
  | 0 => [.code yX3_takeSum cX3_takeSum 4 (some .boolean)]
  | 1 => wsX3_takeSum_r1
  | 2 => wsX3_takeSum_r2
  | 3 => wsX3_takeSum_r3
  | 4 => wsX30
  | 5 => wsX70
  | 6 => wsX40
  | _ => []
theorem chwsX3_takeSum_in : ∀ (j : Nat) (w : Cond), w ∈ chwsX3_takeSum j → w ∈ wsX3_takeSum
  | 0, w, h => chIwsX3_takeSum_0 w h
  | 1, w, h => chIwsX3_takeSum_1 w h
  | 2, w, h => chIwsX3_takeSum_2 w h
  | 3, w, h => chIwsX3_takeSum_3 w h
  | 4, w, h => chIwsX3_takeSum_4 w h
  | 5, w, h => chIwsX3_takeSum_5 w h
  | 6, w, h => chIwsX3_takeSum_6 w h
  | _ + 7, _, h => absurd h List.not_mem_nil
set_option maxRecDepth 20000 in
theorem ggX3_takeSum_X3_takeTerm : GoodIn wsX3_takeSum wsX3_takeTerm := goodIn_r2 chwsX3_takeSum chwsX3_takeSum_in _ [(3, 1), (1, 0), (1, 1), (1, 2), (2, 15), (2, 16), (2, 17), (1, 6), (1, 7), (1, 8), (1, 9), (1, 10), (1, 11), (1, 12), (1, 13), (1, 14), (1, 15), (1, 16), (1, 17), (1, 18), (1, 19), (1, 20), (1, 21), (1, 22), (1, 23), (2, 0), (2, 1), (2, 2), (2, 3), (2, 4), (2, 5), (2, 6), (2, 7), (2, 8), (2, 9), (2, 10), (2, 11), (2, 12), (2, 13), (2, 14), (2, 18), (2, 19), (2, 20), (2, 21), (2, 22), (2, 23), (3, 0), (0, 0), (1, 3), (1, 4), (1, 5), (4, 0), (4, 1), (4, 2), (4, 3), (5, 0), (5, 1), (5, 2), (5, 3), (5, 4), (5, 5), (5, 6), (5, 7), (6, 0), (6, 1), (6, 2), (6, 3), (6, 4), (6, 5)] rfl (by decide +kernel)
set_option maxRecDepth 20000 in
theorem gX3_takeSum_X3_takeTerm : GoodIn wsX3_takeSum (wsV RX3 134 RX3 yX3_takeTerm wsX3_takeTerm) := goodIn_app (goodIn_r2 chwsX3_takeSum chwsX3_takeSum_in _ [(1, 3), (1, 4), (1, 5), (1, 6)] rfl (by decide +kernel)) ggX3_takeSum_X3_takeTerm
set_option maxRecDepth 20000 in
theorem ggX3_takeSum_X7_advance : GoodIn wsX3_takeSum wsX7_advance := goodIn_r2 chwsX3_takeSum chwsX3_takeSum_in _ [(1, 11), (1, 12), (1, 13), (1, 14), (1, 15), (1, 16), (1, 17), (1, 18), (1, 19), (5, 0), (5, 1), (5, 2), (5, 3), (5, 4), (5, 5), (5, 6), (5, 7)] rfl (by decide +kernel)
set_option maxRecDepth 20000 in
theorem gX3_takeSum_X7_advance : GoodIn wsX3_takeSum (wsV RX3 43 RX7 yX7_advance wsX7_advance) := goodIn_app (goodIn_r2 chwsX3_takeSum chwsX3_takeSum_in _ [(1, 7), (1, 8), (1, 9), (1, 10)] rfl (by decide +kernel)) ggX3_takeSum_X7_advance
set_option maxRecDepth 20000 in
theorem ggX3_takeSum_X4_emit : GoodIn wsX3_takeSum wsX4_emit := goodIn_r2 chwsX3_takeSum chwsX3_takeSum_in _ [(2, 0), (2, 1), (2, 2), (6, 0), (6, 1), (6, 2), (6, 3), (6, 4), (6, 5)] rfl (by decide +kernel)
set_option maxRecDepth 20000 in
theorem gX3_takeSum_X4_emit : GoodIn wsX3_takeSum (wsV RX3 137 RX4 yX4_emit wsX4_emit) := goodIn_app (goodIn_r2 chwsX3_takeSum chwsX3_takeSum_in _ [(1, 20), (1, 21), (1, 22), (1, 23)] rfl (by decide +kernel)) ggX3_takeSum_X4_emit
theorem dX3_takeSum_0 : decode cX3_takeSum 0 = .ok (.aload_n 0, 1) := by decide +kernel
theorem dX3_takeSum_1 : decode cX3_takeSum 1 = .ok (.iload_n 1, 1) := by decide +kernel
theorem dX3_takeSum_2 : decode cX3_takeSum 2 = .ok (.invokevirtual 134, 3) := by decide +kernel
theorem dX3_takeSum_5 : decode cX3_takeSum 5 = .ok (.ifCond .ne 5, 3) := by decide +kernel
theorem dX3_takeSum_8 : decode cX3_takeSum 8 = .ok (.iconst 0, 1) := by decide +kernel
theorem dX3_takeSum_9 : decode cX3_takeSum 9 = .ok (.ireturn, 1) := by decide +kernel
theorem dX3_takeSum_10 : decode cX3_takeSum 10 = .ok (.iconst 0, 1) := by decide +kernel
theorem dX3_takeSum_11 : decode cX3_takeSum 11 = .ok (.istore_n 2, 1) := by decide +kernel
theorem dX3_takeSum_12 : decode cX3_takeSum 12 = .ok (.iload_n 2, 1) := by decide +kernel
theorem dX3_takeSum_13 : decode cX3_takeSum 13 = .ok (.sipush 300, 3) := by decide +kernel
theorem dX3_takeSum_16 : decode cX3_takeSum 16 = .ok (.if_icmp .ge 78, 3) := by decide +kernel
theorem dX3_takeSum_19 : decode cX3_takeSum 19 = .ok (.aload_n 0, 1) := by decide +kernel
theorem dX3_takeSum_20 : decode cX3_takeSum 20 = .ok (.getfield 12, 3) := by decide +kernel
theorem dX3_takeSum_23 : decode cX3_takeSum 23 = .ok (.getfield 36, 3) := by decide +kernel
theorem dX3_takeSum_26 : decode cX3_takeSum 26 = .ok (.bipush 43, 2) := by decide +kernel
theorem dX3_takeSum_28 : decode cX3_takeSum 28 = .ok (.if_icmp .eq 15, 3) := by decide +kernel
theorem dX3_takeSum_31 : decode cX3_takeSum 31 = .ok (.aload_n 0, 1) := by decide +kernel
theorem dX3_takeSum_32 : decode cX3_takeSum 32 = .ok (.getfield 12, 3) := by decide +kernel
theorem dX3_takeSum_35 : decode cX3_takeSum 35 = .ok (.getfield 36, 3) := by decide +kernel
theorem dX3_takeSum_38 : decode cX3_takeSum 38 = .ok (.bipush 45, 2) := by decide +kernel
theorem dX3_takeSum_40 : decode cX3_takeSum 40 = .ok (.if_icmp .ne 54, 3) := by decide +kernel
theorem dX3_takeSum_43 : decode cX3_takeSum 43 = .ok (.aload_n 0, 1) := by decide +kernel
theorem dX3_takeSum_44 : decode cX3_takeSum 44 = .ok (.getfield 12, 3) := by decide +kernel
theorem dX3_takeSum_47 : decode cX3_takeSum 47 = .ok (.getfield 36, 3) := by decide +kernel
theorem dX3_takeSum_50 : decode cX3_takeSum 50 = .ok (.bipush 43, 2) := by decide +kernel
theorem dX3_takeSum_52 : decode cX3_takeSum 52 = .ok (.if_icmp .ne 8, 3) := by decide +kernel
theorem dX3_takeSum_55 : decode cX3_takeSum 55 = .ok (.bipush 16, 2) := by decide +kernel
theorem dX3_takeSum_57 : decode cX3_takeSum 57 = .ok (.goto 5, 3) := by decide +kernel
theorem dX3_takeSum_60 : decode cX3_takeSum 60 = .ok (.bipush 17, 2) := by decide +kernel
theorem dX3_takeSum_62 : decode cX3_takeSum 62 = .ok (.istore_n 3, 1) := by decide +kernel
theorem dX3_takeSum_63 : decode cX3_takeSum 63 = .ok (.aload_n 0, 1) := by decide +kernel
theorem dX3_takeSum_64 : decode cX3_takeSum 64 = .ok (.getfield 12, 3) := by decide +kernel
theorem dX3_takeSum_67 : decode cX3_takeSum 67 = .ok (.invokevirtual 43, 3) := by decide +kernel
theorem dX3_takeSum_70 : decode cX3_takeSum 70 = .ok (.aload_n 0, 1) := by decide +kernel
theorem dX3_takeSum_71 : decode cX3_takeSum 71 = .ok (.iload_n 1, 1) := by decide +kernel
theorem dX3_takeSum_72 : decode cX3_takeSum 72 = .ok (.invokevirtual 134, 3) := by decide +kernel
theorem dX3_takeSum_75 : decode cX3_takeSum 75 = .ok (.ifCond .ne 5, 3) := by decide +kernel
theorem dX3_takeSum_78 : decode cX3_takeSum 78 = .ok (.iconst 0, 1) := by decide +kernel
theorem dX3_takeSum_79 : decode cX3_takeSum 79 = .ok (.ireturn, 1) := by decide +kernel
theorem dX3_takeSum_80 : decode cX3_takeSum 80 = .ok (.aload_n 0, 1) := by decide +kernel
theorem dX3_takeSum_81 : decode cX3_takeSum 81 = .ok (.getfield 21, 3) := by decide +kernel
theorem dX3_takeSum_84 : decode cX3_takeSum 84 = .ok (.iload_n 3, 1) := by decide +kernel
theorem dX3_takeSum_85 : decode cX3_takeSum 85 = .ok (.invokevirtual 137, 3) := by decide +kernel
theorem dX3_takeSum_88 : decode cX3_takeSum 88 = .ok (.iinc 2 1, 3) := by decide +kernel
theorem dX3_takeSum_91 : decode cX3_takeSum 91 = .ok (.goto (-79), 3) := by decide +kernel
theorem dX3_takeSum_94 : decode cX3_takeSum 94 = .ok (.iconst 1, 1) := by decide +kernel
theorem dX3_takeSum_95 : decode cX3_takeSum 95 = .ok (.ireturn, 1) := by decide +kernel
theorem chIwsX3_takeTerm_0 : ∀ w ∈ ([.code yX3_takeTerm cX3_takeTerm 4 (some .boolean)] : List Cond), w ∈ wsX3_takeTerm := fun _ h => (List.mem_cons.mpr (Or.inl (List.mem_singleton.mp h)))
theorem chIwsX3_takeTerm_1 : ∀ w ∈ (wsX3_takeTerm_r1 : List Cond), w ∈ wsX3_takeTerm := fun _ h => (List.mem_cons_of_mem _ (List.mem_append_left _ (List.mem_append_left _ (List.mem_append_left _ (List.mem_append_left _ h)))))
theorem chIwsX3_takeTerm_2 : ∀ w ∈ (wsX3_takeTerm_r2 : List Cond), w ∈ wsX3_takeTerm := fun _ h => (List.mem_cons_of_mem _ (List.mem_append_left _ (List.mem_append_left _ (List.mem_append_left _ (List.mem_append_right _ (List.mem_append_left _ h))))))
theorem chIwsX3_takeTerm_3 : ∀ w ∈ (wsX3_takeTerm_r3 : List Cond), w ∈ wsX3_takeTerm := fun _ h => (List.mem_cons_of_mem _ (List.mem_append_left _ (List.mem_append_left _ (List.mem_append_left _ (List.mem_append_right _ (List.mem_append_right _ h))))))
theorem chIwsX3_takeTerm_4 : ∀ w ∈ (wsX30 : List Cond), w ∈ wsX3_takeTerm := fun _ h => (List.mem_cons_of_mem _ (List.mem_append_left _ (List.mem_append_left _ (List.mem_append_right _ h))))
theorem chIwsX3_takeTerm_5 : ∀ w ∈ (wsX70 : List Cond), w ∈ wsX3_takeTerm := fun _ h => (List.mem_cons_of_mem _ (List.mem_append_left _ (List.mem_append_right _ h)))
theorem chIwsX3_takeTerm_6 : ∀ w ∈ (wsX40 : List Cond), w ∈ wsX3_takeTerm := fun _ h => (List.mem_cons_of_mem _ (List.mem_append_right _ h))
def chwsX3_takeTerm : Nat → List Cond
  | 0 => [.code yX3_takeTerm cX3_takeTerm 4 (some .boolean)]
  | 1 => wsX3_takeTerm_r1
  | 2 => wsX3_takeTerm_r2
  | 3 => wsX3_takeTerm_r3
  | 4 => wsX30
  | 5 => wsX70
  | 6 => wsX40
  | _ => []
theorem chwsX3_takeTerm_in : ∀ (j : Nat) (w : Cond), w ∈ chwsX3_takeTerm j → w ∈ wsX3_takeTerm
  | 0, w, h => chIwsX3_takeTerm_0 w h
  | 1, w, h => chIwsX3_takeTerm_1 w h
  | 2, w, h => chIwsX3_takeTerm_2 w h
  | 3, w, h => chIwsX3_takeTerm_3 w h
  | 4, w, h => chIwsX3_takeTerm_4 w h
  | 5, w, h => chIwsX3_takeTerm_5 w h
  | 6, w, h => chIwsX3_takeTerm_6 w h
  | _ + 7, _, h => absurd h List.not_mem_nil
set_option maxRecDepth 20000 in
theorem ggX3_takeTerm_X3_takeFactor : GoodIn wsX3_takeTerm wsX3_takeFactor := goodIn_r2 chwsX3_takeTerm chwsX3_takeTerm_in _ [(2, 7), (1, 0), (1, 1), (2, 8), (2, 9), (1, 2), (2, 10), (2, 11), (2, 12), (1, 6), (2, 13), (2, 14), (1, 20), (1, 21), (1, 22), (1, 23), (2, 0), (2, 1), (2, 2), (1, 7), (1, 8), (1, 9), (1, 10), (1, 11), (1, 12), (1, 13), (1, 14), (1, 15), (1, 16), (1, 17), (1, 18), (1, 19), (1, 3), (1, 4), (1, 5), (2, 4), (2, 5), (2, 6), (2, 15), (2, 16), (2, 17), (2, 18), (2, 19), (2, 20), (2, 21), (2, 3), (2, 22), (2, 23), (3, 0), (3, 1), (0, 0), (4, 0), (4, 1), (4, 2), (4, 3), (5, 0), (5, 1), (5, 2), (5, 3), (5, 4), (5, 5), (5, 6), (5, 7), (6, 0), (6, 1), (6, 2), (6, 3), (6, 4), (6, 5)] rfl (by decide +kernel)
set_option maxRecDepth 20000 in
theorem gX3_takeTerm_X3_takeFactor : GoodIn wsX3_takeTerm (wsV RX3 141 RX3 yX3_takeFactor wsX3_takeFactor) := goodIn_app (goodIn_r2 chwsX3_takeTerm chwsX3_takeTerm_in _ [(1, 3), (1, 4), (1, 5), (1, 6)] rfl (by decide +kernel)) ggX3_takeTerm_X3_takeFactor
set_option maxRecDepth 20000 in
theorem ggX3_takeTerm_X7_advance : GoodIn wsX3_takeTerm wsX7_advance := goodIn_r2 chwsX3_takeTerm chwsX3_takeTerm_in _ [(1, 11), (1, 12), (1, 13), (1, 14), (1, 15), (1, 16), (1, 17), (1, 18), (1, 19), (5, 0), (5, 1), (5, 2), (5, 3), (5, 4), (5, 5), (5, 6), (5, 7)] rfl (by decide +kernel)
set_option maxRecDepth 20000 in
theorem gX3_takeTerm_X7_advance : GoodIn wsX3_takeTerm (wsV RX3 43 RX7 yX7_advance wsX7_advance) := goodIn_app (goodIn_r2 chwsX3_takeTerm chwsX3_takeTerm_in _ [(1, 7), (1, 8), (1, 9), (1, 10)] rfl (by decide +kernel)) ggX3_takeTerm_X7_advance
set_option maxRecDepth 20000 in
theorem ggX3_takeTerm_X4_emit : GoodIn wsX3_takeTerm wsX4_emit := goodIn_r2 chwsX3_takeTerm chwsX3_takeTerm_in _ [(2, 0), (2, 1), (2, 2), (6, 0), (6, 1), (6, 2), (6, 3), (6, 4), (6, 5)] rfl (by decide +kernel)
set_option maxRecDepth 20000 in
theorem gX3_takeTerm_X4_emit : GoodIn wsX3_takeTerm (wsV RX3 137 RX4 yX4_emit wsX4_emit) := goodIn_app (goodIn_r2 chwsX3_takeTerm chwsX3_takeTerm_in _ [(1, 20), (1, 21), (1, 22), (1, 23)] rfl (by decide +kernel)) ggX3_takeTerm_X4_emit
theorem dX3_takeTerm_0 : decode cX3_takeTerm 0 = .ok (.aload_n 0, 1) := by decide +kernel
theorem dX3_takeTerm_1 : decode cX3_takeTerm 1 = .ok (.iload_n 1, 1) := by decide +kernel
theorem dX3_takeTerm_2 : decode cX3_takeTerm 2 = .ok (.invokevirtual 141, 3) := by decide +kernel
theorem dX3_takeTerm_5 : decode cX3_takeTerm 5 = .ok (.ifCond .ne 5, 3) := by decide +kernel
theorem dX3_takeTerm_8 : decode cX3_takeTerm 8 = .ok (.iconst 0, 1) := by decide +kernel
theorem dX3_takeTerm_9 : decode cX3_takeTerm 9 = .ok (.ireturn, 1) := by decide +kernel
theorem dX3_takeTerm_10 : decode cX3_takeTerm 10 = .ok (.iconst 0, 1) := by decide +kernel
theorem dX3_takeTerm_11 : decode cX3_takeTerm 11 = .ok (.istore_n 2, 1) := by decide +kernel
theorem dX3_takeTerm_12 : decode cX3_takeTerm 12 = .ok (.iload_n 2, 1) := by decide +kernel
theorem dX3_takeTerm_13 : decode cX3_takeTerm 13 = .ok (.sipush 300, 3) := by decide +kernel
theorem dX3_takeTerm_16 : decode cX3_takeTerm 16 = .ok (.if_icmp .ge 78, 3) := by decide +kernel
theorem dX3_takeTerm_19 : decode cX3_takeTerm 19 = .ok (.aload_n 0, 1) := by decide +kernel
theorem dX3_takeTerm_20 : decode cX3_takeTerm 20 = .ok (.getfield 12, 3) := by decide +kernel
theorem dX3_takeTerm_23 : decode cX3_takeTerm 23 = .ok (.getfield 36, 3) := by decide +kernel
theorem dX3_takeTerm_26 : decode cX3_takeTerm 26 = .ok (.bipush 42, 2) := by decide +kernel
theorem dX3_takeTerm_28 : decode cX3_takeTerm 28 = .ok (.if_icmp .eq 15, 3) := by decide +kernel
theorem dX3_takeTerm_31 : decode cX3_takeTerm 31 = .ok (.aload_n 0, 1) := by decide +kernel
theorem dX3_takeTerm_32 : decode cX3_takeTerm 32 = .ok (.getfield 12, 3) := by decide +kernel
theorem dX3_takeTerm_35 : decode cX3_takeTerm 35 = .ok (.getfield 36, 3) := by decide +kernel
theorem dX3_takeTerm_38 : decode cX3_takeTerm 38 = .ok (.bipush 38, 2) := by decide +kernel
theorem dX3_takeTerm_40 : decode cX3_takeTerm 40 = .ok (.if_icmp .ne 54, 3) := by decide +kernel
theorem dX3_takeTerm_43 : decode cX3_takeTerm 43 = .ok (.aload_n 0, 1) := by decide +kernel
theorem dX3_takeTerm_44 : decode cX3_takeTerm 44 = .ok (.getfield 12, 3) := by decide +kernel
theorem dX3_takeTerm_47 : decode cX3_takeTerm 47 = .ok (.getfield 36, 3) := by decide +kernel
theorem dX3_takeTerm_50 : decode cX3_takeTerm 50 = .ok (.bipush 42, 2) := by decide +kernel
theorem dX3_takeTerm_52 : decode cX3_takeTerm 52 = .ok (.if_icmp .ne 8, 3) := by decide +kernel
theorem dX3_takeTerm_55 : decode cX3_takeTerm 55 = .ok (.bipush 18, 2) := by decide +kernel
theorem dX3_takeTerm_57 : decode cX3_takeTerm 57 = .ok (.goto 5, 3) := by decide +kernel
theorem dX3_takeTerm_60 : decode cX3_takeTerm 60 = .ok (.bipush 19, 2) := by decide +kernel
theorem dX3_takeTerm_62 : decode cX3_takeTerm 62 = .ok (.istore_n 3, 1) := by decide +kernel
theorem dX3_takeTerm_63 : decode cX3_takeTerm 63 = .ok (.aload_n 0, 1) := by decide +kernel
theorem dX3_takeTerm_64 : decode cX3_takeTerm 64 = .ok (.getfield 12, 3) := by decide +kernel
theorem dX3_takeTerm_67 : decode cX3_takeTerm 67 = .ok (.invokevirtual 43, 3) := by decide +kernel
theorem dX3_takeTerm_70 : decode cX3_takeTerm 70 = .ok (.aload_n 0, 1) := by decide +kernel
theorem dX3_takeTerm_71 : decode cX3_takeTerm 71 = .ok (.iload_n 1, 1) := by decide +kernel
theorem dX3_takeTerm_72 : decode cX3_takeTerm 72 = .ok (.invokevirtual 141, 3) := by decide +kernel
theorem dX3_takeTerm_75 : decode cX3_takeTerm 75 = .ok (.ifCond .ne 5, 3) := by decide +kernel
theorem dX3_takeTerm_78 : decode cX3_takeTerm 78 = .ok (.iconst 0, 1) := by decide +kernel
theorem dX3_takeTerm_79 : decode cX3_takeTerm 79 = .ok (.ireturn, 1) := by decide +kernel
theorem dX3_takeTerm_80 : decode cX3_takeTerm 80 = .ok (.aload_n 0, 1) := by decide +kernel
theorem dX3_takeTerm_81 : decode cX3_takeTerm 81 = .ok (.getfield 21, 3) := by decide +kernel
theorem dX3_takeTerm_84 : decode cX3_takeTerm 84 = .ok (.iload_n 3, 1) := by decide +kernel
theorem dX3_takeTerm_85 : decode cX3_takeTerm 85 = .ok (.invokevirtual 137, 3) := by decide +kernel
theorem dX3_takeTerm_88 : decode cX3_takeTerm 88 = .ok (.iinc 2 1, 3) := by decide +kernel
theorem dX3_takeTerm_91 : decode cX3_takeTerm 91 = .ok (.goto (-79), 3) := by decide +kernel
theorem dX3_takeTerm_94 : decode cX3_takeTerm 94 = .ok (.iconst 1, 1) := by decide +kernel
theorem dX3_takeTerm_95 : decode cX3_takeTerm 95 = .ok (.ireturn, 1) := by decide +kernel
theorem chIwsX3_takeFactor_0 : ∀ w ∈ ([.code yX3_takeFactor cX3_takeFactor 2 (some .boolean)] : List Cond), w ∈ wsX3_takeFactor := fun _ h => (List.mem_cons.mpr (Or.inl (List.mem_singleton.mp h)))
theorem chIwsX3_takeFactor_1 : ∀ w ∈ (wsX3_takeFactor_r1 : List Cond), w ∈ wsX3_takeFactor := fun _ h => (List.mem_cons_of_mem _ (List.mem_append_left _ (List.mem_append_left _ (List.mem_append_left _ (List.mem_append_left _ h)))))
theorem chIwsX3_takeFactor_2 : ∀ w ∈ (wsX3_takeFactor_r2 : List Cond), w ∈ wsX3_takeFactor := fun _ h => (List.mem_cons_of_mem _ (List.mem_append_left _ (List.mem_append_left _ (List.mem_append_left _ (List.mem_append_right _ (List.mem_append_left _ h))))))
theorem chIwsX3_takeFactor_3 : ∀ w ∈ (wsX3_takeFactor_r3 : List Cond), w ∈ wsX3_takeFactor := fun _ h => (List.mem_cons_of_mem _ (List.mem_append_left _ (List.mem_append_left _ (List.mem_append_left _ (List.mem_append_right _ (List.mem_append_right _ h))))))
theorem chIwsX3_takeFactor_4 : ∀ w ∈ (wsX30 : List Cond), w ∈ wsX3_takeFactor := fun _ h => (List.mem_cons_of_mem _ (List.mem_append_left _ (List.mem_append_left _ (List.mem_append_right _ h))))
theorem chIwsX3_takeFactor_5 : ∀ w ∈ (wsX70 : List Cond), w ∈ wsX3_takeFactor := fun _ h => (List.mem_cons_of_mem _ (List.mem_append_left _ (List.mem_append_right _ h)))
theorem chIwsX3_takeFactor_6 : ∀ w ∈ (wsX40 : List Cond), w ∈ wsX3_takeFactor := fun _ h => (List.mem_cons_of_mem _ (List.mem_append_right _ h))
def chwsX3_takeFactor : Nat → List Cond
  | 0 => [.code yX3_takeFactor cX3_takeFactor 2 (some .boolean)]
  | 1 => wsX3_takeFactor_r1
  | 2 => wsX3_takeFactor_r2
  | 3 => wsX3_takeFactor_r3
  | 4 => wsX30
  | 5 => wsX70
  | 6 => wsX40
  | _ => []
theorem chwsX3_takeFactor_in : ∀ (j : Nat) (w : Cond), w ∈ chwsX3_takeFactor j → w ∈ wsX3_takeFactor
  | 0, w, h => chIwsX3_takeFactor_0 w h
  | 1, w, h => chIwsX3_takeFactor_1 w h
  | 2, w, h => chIwsX3_takeFactor_2 w h
  | 3, w, h => chIwsX3_takeFactor_3 w h
  | 4, w, h => chIwsX3_takeFactor_4 w h
  | 5, w, h => chIwsX3_takeFactor_5 w h
  | 6, w, h => chIwsX3_takeFactor_6 w h
  | _ + 7, _, h => absurd h List.not_mem_nil
set_option maxRecDepth 20000 in
theorem ggX3_takeFactor_X3_takeOperand : GoodIn wsX3_takeFactor wsX3_takeOperand := goodIn_r2 chwsX3_takeFactor chwsX3_takeFactor_in _ [(1, 9), (1, 10), (1, 4), (1, 0), (1, 11), (1, 12), (1, 13), (1, 14), (1, 15), (1, 16), (1, 17), (1, 18), (1, 19), (1, 20), (1, 21), (1, 22), (1, 23), (2, 0), (2, 1), (2, 2), (2, 3), (2, 4), (2, 5), (2, 6), (4, 0), (4, 1), (4, 2), (4, 3), (6, 0), (6, 1), (6, 2), (6, 3), (6, 4), (6, 5), (5, 0), (5, 1), (5, 2), (5, 3), (5, 4), (5, 5), (5, 6), (5, 7)] rfl (by decide +kernel)
set_option maxRecDepth 20000 in
theorem gX3_takeFactor_X3_takeOperand : GoodIn wsX3_takeFactor (wsV RX3 144 RX3 yX3_takeOperand wsX3_takeOperand) := goodIn_app (goodIn_r2 chwsX3_takeFactor chwsX3_takeFactor_in _ [(1, 5), (1, 6), (1, 7), (1, 8)] rfl (by decide +kernel)) ggX3_takeFactor_X3_takeOperand
set_option maxRecDepth 20000 in
theorem ggX3_takeFactor_X7_advance : GoodIn wsX3_takeFactor wsX7_advance := goodIn_r2 chwsX3_takeFactor chwsX3_takeFactor_in _ [(1, 22), (1, 23), (2, 0), (2, 1), (2, 2), (2, 3), (2, 4), (2, 5), (2, 6), (5, 0), (5, 1), (5, 2), (5, 3), (5, 4), (5, 5), (5, 6), (5, 7)] rfl (by decide +kernel)
set_option maxRecDepth 20000 in
theorem gX3_takeFactor_X7_advance : GoodIn wsX3_takeFactor (wsV RX3 43 RX7 yX7_advance wsX7_advance) := goodIn_app (goodIn_r2 chwsX3_takeFactor chwsX3_takeFactor_in _ [(1, 18), (1, 19), (1, 20), (1, 21)] rfl (by decide +kernel)) ggX3_takeFactor_X7_advance
set_option maxRecDepth 20000 in
theorem ggX3_takeFactor_X3_takeFactor : GoodIn wsX3_takeFactor wsX3_takeFactor := goodIn_r2 chwsX3_takeFactor chwsX3_takeFactor_in _ [(0, 0), (1, 0), (1, 1), (1, 2), (1, 3), (1, 4), (1, 5), (1, 6), (1, 7), (1, 8), (1, 9), (1, 10), (1, 11), (1, 12), (1, 13), (1, 14), (1, 15), (1, 16), (1, 17), (1, 18), (1, 19), (1, 20), (1, 21), (1, 22), (1, 23), (2, 0), (2, 1), (2, 2), (2, 3), (2, 4), (2, 5), (2, 6), (2, 7), (2, 8), (2, 9), (2, 10), (2, 11), (2, 12), (2, 13), (2, 14), (2, 15), (2, 16), (2, 17), (2, 18), (2, 19), (2, 20), (2, 21), (2, 22), (2, 23), (3, 0), (3, 1), (4, 0), (4, 1), (4, 2), (4, 3), (5, 0), (5, 1), (5, 2), (5, 3), (5, 4), (5, 5), (5, 6), (5, 7), (6, 0), (6, 1), (6, 2), (6, 3), (6, 4), (6, 5)] rfl (by decide +kernel)
set_option maxRecDepth 20000 in
theorem gX3_takeFactor_X3_takeFactor : GoodIn wsX3_takeFactor (wsV RX3 141 RX3 yX3_takeFactor wsX3_takeFactor) := goodIn_app (goodIn_r2 chwsX3_takeFactor chwsX3_takeFactor_in _ [(2, 7), (2, 8), (2, 9), (1, 8)] rfl (by decide +kernel)) ggX3_takeFactor_X3_takeFactor
set_option maxRecDepth 20000 in
theorem ggX3_takeFactor_X4_emit : GoodIn wsX3_takeFactor wsX4_emit := goodIn_r2 chwsX3_takeFactor chwsX3_takeFactor_in _ [(1, 15), (1, 16), (1, 17), (6, 0), (6, 1), (6, 2), (6, 3), (6, 4), (6, 5)] rfl (by decide +kernel)
set_option maxRecDepth 20000 in
theorem gX3_takeFactor_X4_emit : GoodIn wsX3_takeFactor (wsV RX3 137 RX4 yX4_emit wsX4_emit) := goodIn_app (goodIn_r2 chwsX3_takeFactor chwsX3_takeFactor_in _ [(1, 11), (1, 12), (1, 13), (1, 14)] rfl (by decide +kernel)) ggX3_takeFactor_X4_emit
set_option maxRecDepth 20000 in
theorem ggX3_takeFactor_X3_takeSum : GoodIn wsX3_takeFactor wsX3_takeSum := goodIn_r2 chwsX3_takeFactor chwsX3_takeFactor_in _ [(2, 21), (1, 0), (1, 1), (1, 4), (2, 22), (2, 23), (3, 0), (1, 8), (1, 18), (1, 19), (1, 20), (1, 21), (1, 22), (1, 23), (2, 0), (2, 1), (2, 2), (2, 3), (2, 4), (2, 5), (2, 6), (1, 11), (1, 12), (1, 13), (1, 14), (1, 15), (1, 16), (1, 17), (2, 20), (2, 10), (2, 11), (2, 12), (0, 0), (1, 2), (1, 3), (1, 5), (1, 6), (1, 7), (1, 9), (1, 10), (2, 7), (2, 8), (2, 9), (2, 13), (2, 14), (2, 15), (2, 16), (2, 17), (2, 18), (2, 19), (3, 1), (4, 0), (4, 1), (4, 2), (4, 3), (5, 0), (5, 1), (5, 2), (5, 3), (5, 4), (5, 5), (5, 6), (5, 7), (6, 0), (6, 1), (6, 2), (6, 3), (6, 4), (6, 5)] rfl (by decide +kernel)
set_option maxRecDepth 20000 in
theorem gX3_takeFactor_X3_takeSum : GoodIn wsX3_takeFactor (wsV RX3 128 RX3 yX3_takeSum wsX3_takeSum) := goodIn_app (goodIn_r2 chwsX3_takeFactor chwsX3_takeFactor_in _ [(2, 10), (2, 11), (2, 12), (1, 8)] rfl (by decide +kernel)) ggX3_takeFactor_X3_takeSum
set_option maxRecDepth 20000 in
theorem ggX3_takeFactor_X3_takeComparison : GoodIn wsX3_takeFactor wsX3_takeComparison := goodIn_r2 chwsX3_takeFactor chwsX3_takeFactor_in _ [(2, 20), (1, 0), (1, 1), (1, 4), (1, 18), (1, 19), (1, 20), (1, 21), (1, 22), (1, 23), (2, 0), (2, 1), (2, 2), (2, 3), (2, 4), (2, 5), (2, 6), (2, 10), (2, 11), (2, 12), (1, 8), (1, 11), (1, 12), (1, 13), (1, 14), (1, 15), (1, 16), (1, 17), (0, 0), (1, 2), (1, 3), (1, 5), (1, 6), (1, 7), (1, 9), (1, 10), (2, 7), (2, 8), (2, 9), (2, 13), (2, 14), (2, 15), (2, 16), (2, 17), (2, 18), (2, 19), (2, 21), (2, 22), (2, 23), (3, 0), (3, 1), (4, 0), (4, 1), (4, 2), (4, 3), (5, 0), (5, 1), (5, 2), (5, 3), (5, 4), (5, 5), (5, 6), (5, 7), (6, 0), (6, 1), (6, 2), (6, 3), (6, 4), (6, 5)] rfl (by decide +kernel)
set_option maxRecDepth 20000 in
theorem gX3_takeFactor_X3_takeComparison : GoodIn wsX3_takeFactor (wsV RX3 147 RX3 yX3_takeComparison wsX3_takeComparison) := goodIn_app (goodIn_r2 chwsX3_takeFactor chwsX3_takeFactor_in _ [(2, 13), (2, 14), (2, 15), (1, 8)] rfl (by decide +kernel)) ggX3_takeFactor_X3_takeComparison
set_option maxRecDepth 20000 in
theorem ggX3_takeFactor_X3_take : GoodIn wsX3_takeFactor wsX3_take := goodIn_r2 chwsX3_takeFactor chwsX3_takeFactor_in _ [(2, 19), (1, 0), (1, 1), (1, 18), (1, 19), (1, 20), (1, 21), (1, 22), (1, 23), (2, 0), (2, 1), (2, 2), (2, 3), (2, 4), (2, 5), (2, 6), (4, 0), (4, 1), (4, 2), (4, 3), (5, 0), (5, 1), (5, 2), (5, 3), (5, 4), (5, 5), (5, 6), (5, 7)] rfl (by decide +kernel)
set_option maxRecDepth 20000 in
theorem gX3_takeFactor_X3_take : GoodIn wsX3_takeFactor (wsV RX3 95 RX3 yX3_take wsX3_take) := goodIn_app (goodIn_r2 chwsX3_takeFactor chwsX3_takeFactor_in _ [(2, 16), (2, 17), (2, 18), (1, 8)] rfl (by decide +kernel)) ggX3_takeFactor_X3_take
theorem dX3_takeFactor_0 : decode cX3_takeFactor 0 = .ok (.aload_n 0, 1) := by decide +kernel
theorem dX3_takeFactor_1 : decode cX3_takeFactor 1 = .ok (.getfield 12, 3) := by decide +kernel
theorem dX3_takeFactor_4 : decode cX3_takeFactor 4 = .ok (.getfield 36, 3) := by decide +kernel
theorem dX3_takeFactor_7 : decode cX3_takeFactor 7 = .ok (.lookupswitch 196 #[(2, 72), (3, 41), (33, 108), (40, 146)], 41) := by decide +kernel
theorem dX3_takeFactor_48 : decode cX3_takeFactor 48 = .ok (.aload_n 0, 1) := by decide +kernel
theorem dX3_takeFactor_49 : decode cX3_takeFactor 49 = .ok (.getfield 12, 3) := by decide +kernel
theorem dX3_takeFactor_52 : decode cX3_takeFactor 52 = .ok (.getfield 89, 3) := by decide +kernel
theorem dX3_takeFactor_55 : decode cX3_takeFactor 55 = .ok (.iconst 3, 1) := by decide +kernel
theorem dX3_takeFactor_56 : decode cX3_takeFactor 56 = .ok (.if_icmp .gt 21, 3) := by decide +kernel
theorem dX3_takeFactor_59 : decode cX3_takeFactor 59 = .ok (.aload_n 0, 1) := by decide +kernel
theorem dX3_takeFactor_60 : decode cX3_takeFactor 60 = .ok (.aload_n 0, 1) := by decide +kernel
theorem dX3_takeFactor_61 : decode cX3_takeFactor 61 = .ok (.getfield 12, 3) := by decide +kernel
theorem dX3_takeFactor_64 : decode cX3_takeFactor 64 = .ok (.getfield 89, 3) := by decide +kernel
theorem dX3_takeFactor_67 : decode cX3_takeFactor 67 = .ok (.invokevirtual 144, 3) := by decide +kernel
theorem dX3_takeFactor_70 : decode cX3_takeFactor 70 = .ok (.ifCond .eq 7, 3) := by decide +kernel
theorem dX3_takeFactor_73 : decode cX3_takeFactor 73 = .ok (.iconst 1, 1) := by decide +kernel
theorem dX3_takeFactor_74 : decode cX3_takeFactor 74 = .ok (.goto 4, 3) := by decide +kernel
theorem dX3_takeFactor_77 : decode cX3_takeFactor 77 = .ok (.iconst 0, 1) := by decide +kernel
theorem dX3_takeFactor_78 : decode cX3_takeFactor 78 = .ok (.ireturn, 1) := by decide +kernel
theorem dX3_takeFactor_79 : decode cX3_takeFactor 79 = .ok (.aload_n 0, 1) := by decide +kernel
theorem dX3_takeFactor_80 : decode cX3_takeFactor 80 = .ok (.dup, 1) := by decide +kernel
theorem dX3_takeFactor_81 : decode cX3_takeFactor 81 = .ok (.getfield 121, 3) := by decide +kernel
theorem dX3_takeFactor_84 : decode cX3_takeFactor 84 = .ok (.iconst 3, 1) := by decide +kernel
theorem dX3_takeFactor_85 : decode cX3_takeFactor 85 = .ok (.iconst 2, 1) := by decide +kernel
theorem dX3_takeFactor_86 : decode cX3_takeFactor 86 = .ok (.aload_n 0, 1) := by decide +kernel
theorem dX3_takeFactor_87 : decode cX3_takeFactor 87 = .ok (.getfield 12, 3) := by decide +kernel
theorem dX3_takeFactor_90 : decode cX3_takeFactor 90 = .ok (.getfield 89, 3) := by decide +kernel
theorem dX3_takeFactor_93 : decode cX3_takeFactor 93 = .ok (.imul, 1) := by decide +kernel
theorem dX3_takeFactor_94 : decode cX3_takeFactor 94 = .ok (.ishl, 1) := by decide +kernel
theorem dX3_takeFactor_95 : decode cX3_takeFactor 95 = .ok (.ior, 1) := by decide +kernel
theorem dX3_takeFactor_96 : decode cX3_takeFactor 96 = .ok (.putfield 121, 3) := by decide +kernel
theorem dX3_takeFactor_99 : decode cX3_takeFactor 99 = .ok (.aload_n 0, 1) := by decide +kernel
theorem dX3_takeFactor_100 : decode cX3_takeFactor 100 = .ok (.iconst 4, 1) := by decide +kernel
theorem dX3_takeFactor_101 : decode cX3_takeFactor 101 = .ok (.iconst 2, 1) := by decide +kernel
theorem dX3_takeFactor_102 : decode cX3_takeFactor 102 = .ok (.aload_n 0, 1) := by decide +kernel
theorem dX3_takeFactor_103 : decode cX3_takeFactor 103 = .ok (.getfield 12, 3) := by decide +kernel
theorem dX3_takeFactor_106 : decode cX3_takeFactor 106 = .ok (.getfield 89, 3) := by decide +kernel
theorem dX3_takeFactor_109 : decode cX3_takeFactor 109 = .ok (.imul, 1) := by decide +kernel
theorem dX3_takeFactor_110 : decode cX3_takeFactor 110 = .ok (.iadd, 1) := by decide +kernel
theorem dX3_takeFactor_111 : decode cX3_takeFactor 111 = .ok (.invokevirtual 144, 3) := by decide +kernel
theorem dX3_takeFactor_114 : decode cX3_takeFactor 114 = .ok (.ireturn, 1) := by decide +kernel
theorem dX3_takeFactor_115 : decode cX3_takeFactor 115 = .ok (.iload_n 1, 1) := by decide +kernel
theorem dX3_takeFactor_116 : decode cX3_takeFactor 116 = .ok (.bipush 8, 2) := by decide +kernel
theorem dX3_takeFactor_118 : decode cX3_takeFactor 118 = .ok (.if_icmp .lt 5, 3) := by decide +kernel
theorem dX3_takeFactor_121 : decode cX3_takeFactor 121 = .ok (.iconst 0, 1) := by decide +kernel
theorem dX3_takeFactor_122 : decode cX3_takeFactor 122 = .ok (.ireturn, 1) := by decide +kernel
theorem dX3_takeFactor_123 : decode cX3_takeFactor 123 = .ok (.aload_n 0, 1) := by decide +kernel
theorem dX3_takeFactor_124 : decode cX3_takeFactor 124 = .ok (.getfield 12, 3) := by decide +kernel
theorem dX3_takeFactor_127 : decode cX3_takeFactor 127 = .ok (.invokevirtual 43, 3) := by decide +kernel
theorem dX3_takeFactor_130 : decode cX3_takeFactor 130 = .ok (.aload_n 0, 1) := by decide +kernel
theorem dX3_takeFactor_131 : decode cX3_takeFactor 131 = .ok (.iload_n 1, 1) := by decide +kernel
theorem dX3_takeFactor_132 : decode cX3_takeFactor 132 = .ok (.iconst 1, 1) := by decide +kernel
theorem dX3_takeFactor_133 : decode cX3_takeFactor 133 = .ok (.iadd, 1) := by decide +kernel
theorem dX3_takeFactor_134 : decode cX3_takeFactor 134 = .ok (.invokevirtual 141, 3) := by decide +kernel
theorem dX3_takeFactor_137 : decode cX3_takeFactor 137 = .ok (.ifCond .ne 5, 3) := by decide +kernel
theorem dX3_takeFactor_140 : decode cX3_takeFactor 140 = .ok (.iconst 0, 1) := by decide +kernel
theorem dX3_takeFactor_141 : decode cX3_takeFactor 141 = .ok (.ireturn, 1) := by decide +kernel
theorem dX3_takeFactor_142 : decode cX3_takeFactor 142 = .ok (.aload_n 0, 1) := by decide +kernel
theorem dX3_takeFactor_143 : decode cX3_takeFactor 143 = .ok (.getfield 21, 3) := by decide +kernel
theorem dX3_takeFactor_146 : decode cX3_takeFactor 146 = .ok (.bipush 20, 2) := by decide +kernel
theorem dX3_takeFactor_148 : decode cX3_takeFactor 148 = .ok (.invokevirtual 137, 3) := by decide +kernel
theorem dX3_takeFactor_151 : decode cX3_takeFactor 151 = .ok (.iconst 1, 1) := by decide +kernel
theorem dX3_takeFactor_152 : decode cX3_takeFactor 152 = .ok (.ireturn, 1) := by decide +kernel
theorem dX3_takeFactor_153 : decode cX3_takeFactor 153 = .ok (.iload_n 1, 1) := by decide +kernel
theorem dX3_takeFactor_154 : decode cX3_takeFactor 154 = .ok (.bipush 8, 2) := by decide +kernel
theorem dX3_takeFactor_156 : decode cX3_takeFactor 156 = .ok (.if_icmp .lt 5, 3) := by decide +kernel
theorem dX3_takeFactor_159 : decode cX3_takeFactor 159 = .ok (.iconst 0, 1) := by decide +kernel
theorem dX3_takeFactor_160 : decode cX3_takeFactor 160 = .ok (.ireturn, 1) := by decide +kernel
theorem dX3_takeFactor_161 : decode cX3_takeFactor 161 = .ok (.aload_n 0, 1) := by decide +kernel
theorem dX3_takeFactor_162 : decode cX3_takeFactor 162 = .ok (.getfield 12, 3) := by decide +kernel
theorem dX3_takeFactor_165 : decode cX3_takeFactor 165 = .ok (.invokevirtual 43, 3) := by decide +kernel
theorem dX3_takeFactor_168 : decode cX3_takeFactor 168 = .ok (.aload_n 0, 1) := by decide +kernel
theorem dX3_takeFactor_169 : decode cX3_takeFactor 169 = .ok (.iload_n 1, 1) := by decide +kernel
theorem dX3_takeFactor_170 : decode cX3_takeFactor 170 = .ok (.iconst 1, 1) := by decide +kernel
theorem dX3_takeFactor_171 : decode cX3_takeFactor 171 = .ok (.iadd, 1) := by decide +kernel
theorem dX3_takeFactor_172 : decode cX3_takeFactor 172 = .ok (.invokevirtual 128, 3) := by decide +kernel
theorem dX3_takeFactor_175 : decode cX3_takeFactor 175 = .ok (.ifCond .eq 26, 3) := by decide +kernel
theorem dX3_takeFactor_178 : decode cX3_takeFactor 178 = .ok (.aload_n 0, 1) := by decide +kernel
theorem dX3_takeFactor_179 : decode cX3_takeFactor 179 = .ok (.iload_n 1, 1) := by decide +kernel
theorem dX3_takeFactor_180 : decode cX3_takeFactor 180 = .ok (.iconst 1, 1) := by decide +kernel
theorem dX3_takeFactor_181 : decode cX3_takeFactor 181 = .ok (.iadd, 1) := by decide +kernel
theorem dX3_takeFactor_182 : decode cX3_takeFactor 182 = .ok (.invokevirtual 147, 3) := by decide +kernel
theorem dX3_takeFactor_185 : decode cX3_takeFactor 185 = .ok (.ifCond .eq 16, 3) := by decide +kernel
theorem dX3_takeFactor_188 : decode cX3_takeFactor 188 = .ok (.aload_n 0, 1) := by decide +kernel
theorem dX3_takeFactor_189 : decode cX3_takeFactor 189 = .ok (.bipush 41, 2) := by decide +kernel
theorem dX3_takeFactor_191 : decode cX3_takeFactor 191 = .ok (.invokevirtual 95, 3) := by decide +kernel
theorem dX3_takeFactor_194 : decode cX3_takeFactor 194 = .ok (.ifCond .eq 7, 3) := by decide +kernel
theorem dX3_takeFactor_197 : decode cX3_takeFactor 197 = .ok (.iconst 1, 1) := by decide +kernel
theorem dX3_takeFactor_198 : decode cX3_takeFactor 198 = .ok (.goto 4, 3) := by decide +kernel
theorem dX3_takeFactor_201 : decode cX3_takeFactor 201 = .ok (.iconst 0, 1) := by decide +kernel
theorem dX3_takeFactor_202 : decode cX3_takeFactor 202 = .ok (.ireturn, 1) := by decide +kernel
theorem dX3_takeFactor_203 : decode cX3_takeFactor 203 = .ok (.iconst 0, 1) := by decide +kernel
theorem dX3_takeFactor_204 : decode cX3_takeFactor 204 = .ok (.ireturn, 1) := by decide +kernel
theorem chIwsX3_takeOperand_0 : ∀ w ∈ ([.code yX3_takeOperand cX3_takeOperand 2 (some .boolean)] : List Cond), w ∈ wsX3_takeOperand := fun _ h => (List.mem_cons.mpr (Or.inl (List.mem_singleton.mp h)))
theorem chIwsX3_takeOperand_1 : ∀ w ∈ ([.fieldLink RX3 118 "WatchedPrograms$Parser" "operands" "I", .fieldLink RX3 21 "WatchedPrograms$Parser" "program" "LWatchedPrograms$Program;", .fieldLink RX3 12 "WatchedPrograms$Parser" "tokens" "LWatchedPrograms$Tokens;", .methodLink RX3 137 yX4_emit, .instanceMethod yX4_emit, .selects RX4 yX4_emit yX4_emit, .initialized RX4, .code yX4_emit cX4_emit 2 none, .fieldLink RX4 26 "WatchedPrograms$Program" "codeSize" "I", .fieldLink RX4 17 "WatchedPrograms$Program" "code" "[I", .methodLink RX3 43 yX7_advance, .instanceMethod yX7_advance, .selects RX7 yX7_advance yX7_advance, .initialized RX7, .code yX7_advance cX7_advance 1 none, .fieldLink RX7 65 "WatchedPrograms$Tokens" "at" "I", .fieldLink RX7 21 "WatchedPrograms$Tokens" "many" "I", .fieldLink RX7 9 "WatchedPrograms$Tokens" "kinds" "[I", .fieldLink RX7 70 "WatchedPrograms$Tokens" "kind" "I", .fieldLink RX7 15 "WatchedPrograms$Tokens" "values" "[I", .fieldLink RX7 73 "WatchedPrograms$Tokens" "value" "I", .fieldLink RX7 18 "WatchedPrograms$Tokens" "places" "[I", .fieldLink RX7 76 "WatchedPrograms$Tokens" "place" "I"] : List Cond), w ∈ wsX3_takeOperand := fun _ h => (List.mem_cons_of_mem _ (List.mem_append_left _ (List.mem_append_left _ (List.mem_append_left _ h))))
theorem chIwsX3_takeOperand_2 : ∀ w ∈ (wsX30 : List Cond), w ∈ wsX3_takeOperand := fun _ h => (List.mem_cons_of_mem _ (List.mem_append_left _ (List.mem_append_left _ (List.mem_append_right _ h))))
theorem chIwsX3_takeOperand_3 : ∀ w ∈ (wsX40 : List Cond), w ∈ wsX3_takeOperand := fun _ h => (List.mem_cons_of_mem _ (List.mem_append_left _ (List.mem_append_right _ h)))
theorem chIwsX3_takeOperand_4 : ∀ w ∈ (wsX70 : List Cond), w ∈ wsX3_takeOperand := fun _ h => (List.mem_cons_of_mem _ (List.mem_append_right _ h))
def chwsX3_takeOperand : Nat → List Cond
  | 0 => [.code yX3_takeOperand cX3_takeOperand 2 (some .boolean)]
  | 1 => [.fieldLink RX3 118 "WatchedPrograms$Parser" "operands" "I", .fieldLink RX3 21 "WatchedPrograms$Parser" "program" "LWatchedPrograms$Program;", .fieldLink RX3 12 "WatchedPrograms$Parser" "tokens" "LWatchedPrograms$Tokens;", .methodLink RX3 137 yX4_emit, .instanceMethod yX4_emit, .selects RX4 yX4_emit yX4_emit, .initialized RX4, .code yX4_emit cX4_emit 2 none, .fieldLink RX4 26 "WatchedPrograms$Program" "codeSize" "I", .fieldLink RX4 17 "WatchedPrograms$Program" "code" "[I", .methodLink RX3 43 yX7_advance, .instanceMethod yX7_advance, .selects RX7 yX7_advance yX7_advance, .initialized RX7, .code yX7_advance cX7_advance 1 none, .fieldLink RX7 65 "WatchedPrograms$Tokens" "at" "I", .fieldLink RX7 21 "WatchedPrograms$Tokens" "many" "I", .fieldLink RX7 9 "WatchedPrograms$Tokens" "kinds" "[I", .fieldLink RX7 70 "WatchedPrograms$Tokens" "kind" "I", .fieldLink RX7 15 "WatchedPrograms$Tokens" "values" "[I", .fieldLink RX7 73 "WatchedPrograms$Tokens" "value" "I", .fieldLink RX7 18 "WatchedPrograms$Tokens" "places" "[I", .fieldLink RX7 76 "WatchedPrograms$Tokens" "place" "I"]
  | 2 => wsX30
  | 3 => wsX40
  | 4 => wsX70
  | _ => []
theorem chwsX3_takeOperand_in : ∀ (j : Nat) (w : Cond), w ∈ chwsX3_takeOperand j → w ∈ wsX3_takeOperand
  | 0, w, h => chIwsX3_takeOperand_0 w h
  | 1, w, h => chIwsX3_takeOperand_1 w h
  | 2, w, h => chIwsX3_takeOperand_2 w h
  | 3, w, h => chIwsX3_takeOperand_3 w h
  | 4, w, h => chIwsX3_takeOperand_4 w h
  | _ + 5, _, h => absurd h List.not_mem_nil
set_option maxRecDepth 20000 in
theorem ggX3_takeOperand_X4_emit : GoodIn wsX3_takeOperand wsX4_emit := goodIn_r2 chwsX3_takeOperand chwsX3_takeOperand_in _ [(1, 7), (1, 8), (1, 9), (3, 0), (3, 1), (3, 2), (3, 3), (3, 4), (3, 5)] rfl (by decide +kernel)
set_option maxRecDepth 20000 in
theorem gX3_takeOperand_X4_emit : GoodIn wsX3_takeOperand (wsV RX3 137 RX4 yX4_emit wsX4_emit) := goodIn_app (goodIn_r2 chwsX3_takeOperand chwsX3_takeOperand_in _ [(1, 3), (1, 4), (1, 5), (1, 6)] rfl (by decide +kernel)) ggX3_takeOperand_X4_emit
set_option maxRecDepth 20000 in
theorem ggX3_takeOperand_X7_advance : GoodIn wsX3_takeOperand wsX7_advance := goodIn_r2 chwsX3_takeOperand chwsX3_takeOperand_in _ [(1, 14), (1, 15), (1, 16), (1, 17), (1, 18), (1, 19), (1, 20), (1, 21), (1, 22), (4, 0), (4, 1), (4, 2), (4, 3), (4, 4), (4, 5), (4, 6), (4, 7)] rfl (by decide +kernel)
set_option maxRecDepth 20000 in
theorem gX3_takeOperand_X7_advance : GoodIn wsX3_takeOperand (wsV RX3 43 RX7 yX7_advance wsX7_advance) := goodIn_app (goodIn_r2 chwsX3_takeOperand chwsX3_takeOperand_in _ [(1, 10), (1, 11), (1, 12), (1, 13)] rfl (by decide +kernel)) ggX3_takeOperand_X7_advance
theorem dX3_takeOperand_0 : decode cX3_takeOperand 0 = .ok (.aload_n 0, 1) := by decide +kernel
theorem dX3_takeOperand_1 : decode cX3_takeOperand 1 = .ok (.getfield 118, 3) := by decide +kernel
theorem dX3_takeOperand_4 : decode cX3_takeOperand 4 = .ok (.bipush 24, 2) := by decide +kernel
theorem dX3_takeOperand_6 : decode cX3_takeOperand 6 = .ok (.if_icmp .lt 5, 3) := by decide +kernel
theorem dX3_takeOperand_9 : decode cX3_takeOperand 9 = .ok (.iconst 0, 1) := by decide +kernel
theorem dX3_takeOperand_10 : decode cX3_takeOperand 10 = .ok (.ireturn, 1) := by decide +kernel
theorem dX3_takeOperand_11 : decode cX3_takeOperand 11 = .ok (.aload_n 0, 1) := by decide +kernel
theorem dX3_takeOperand_12 : decode cX3_takeOperand 12 = .ok (.dup, 1) := by decide +kernel
theorem dX3_takeOperand_13 : decode cX3_takeOperand 13 = .ok (.getfield 118, 3) := by decide +kernel
theorem dX3_takeOperand_16 : decode cX3_takeOperand 16 = .ok (.iconst 1, 1) := by decide +kernel
theorem dX3_takeOperand_17 : decode cX3_takeOperand 17 = .ok (.iadd, 1) := by decide +kernel
theorem dX3_takeOperand_18 : decode cX3_takeOperand 18 = .ok (.putfield 118, 3) := by decide +kernel
theorem dX3_takeOperand_21 : decode cX3_takeOperand 21 = .ok (.aload_n 0, 1) := by decide +kernel
theorem dX3_takeOperand_22 : decode cX3_takeOperand 22 = .ok (.getfield 21, 3) := by decide +kernel
theorem dX3_takeOperand_25 : decode cX3_takeOperand 25 = .ok (.iload_n 1, 1) := by decide +kernel
theorem dX3_takeOperand_26 : decode cX3_takeOperand 26 = .ok (.invokevirtual 137, 3) := by decide +kernel
theorem dX3_takeOperand_29 : decode cX3_takeOperand 29 = .ok (.aload_n 0, 1) := by decide +kernel
theorem dX3_takeOperand_30 : decode cX3_takeOperand 30 = .ok (.getfield 12, 3) := by decide +kernel
theorem dX3_takeOperand_33 : decode cX3_takeOperand 33 = .ok (.invokevirtual 43, 3) := by decide +kernel
theorem dX3_takeOperand_36 : decode cX3_takeOperand 36 = .ok (.iconst 1, 1) := by decide +kernel
theorem dX3_takeOperand_37 : decode cX3_takeOperand 37 = .ok (.ireturn, 1) := by decide +kernel
theorem chIwsX3_takeComparison_0 : ∀ w ∈ ([.code yX3_takeComparison cX3_takeComparison 3 (some .boolean)] : List Cond), w ∈ wsX3_takeComparison := fun _ h => (List.mem_cons.mpr (Or.inl (List.mem_singleton.mp h)))
theorem chIwsX3_takeComparison_1 : ∀ w ∈ (wsX3_takeComparison_r1 : List Cond), w ∈ wsX3_takeComparison := fun _ h => (List.mem_cons_of_mem _ (List.mem_append_left _ (List.mem_append_left _ (List.mem_append_left _ (List.mem_append_left _ h)))))
theorem chIwsX3_takeComparison_2 : ∀ w ∈ (wsX3_takeComparison_r2 : List Cond), w ∈ wsX3_takeComparison := fun _ h => (List.mem_cons_of_mem _ (List.mem_append_left _ (List.mem_append_left _ (List.mem_append_left _ (List.mem_append_right _ (List.mem_append_left _ h))))))
theorem chIwsX3_takeComparison_3 : ∀ w ∈ (wsX3_takeComparison_r3 : List Cond), w ∈ wsX3_takeComparison := fun _ h => (List.mem_cons_of_mem _ (List.mem_append_left _ (List.mem_append_left _ (List.mem_append_left _ (List.mem_append_right _ (List.mem_append_right _ h))))))
theorem chIwsX3_takeComparison_4 : ∀ w ∈ (wsX30 : List Cond), w ∈ wsX3_takeComparison := fun _ h => (List.mem_cons_of_mem _ (List.mem_append_left _ (List.mem_append_left _ (List.mem_append_right _ h))))
theorem chIwsX3_takeComparison_5 : ∀ w ∈ (wsX70 : List Cond), w ∈ wsX3_takeComparison := fun _ h => (List.mem_cons_of_mem _ (List.mem_append_left _ (List.mem_append_right _ h)))
theorem chIwsX3_takeComparison_6 : ∀ w ∈ (wsX40 : List Cond), w ∈ wsX3_takeComparison := fun _ h => (List.mem_cons_of_mem _ (List.mem_append_right _ h))
def chwsX3_takeComparison : Nat → List Cond
  | 0 => [.code yX3_takeComparison cX3_takeComparison 3 (some .boolean)]
  | 1 => wsX3_takeComparison_r1
  | 2 => wsX3_takeComparison_r2
  | 3 => wsX3_takeComparison_r3
  | 4 => wsX30
  | 5 => wsX70
  | 6 => wsX40
  | _ => []
theorem chwsX3_takeComparison_in : ∀ (j : Nat) (w : Cond), w ∈ chwsX3_takeComparison j → w ∈ wsX3_takeComparison
  | 0, w, h => chIwsX3_takeComparison_0 w h
  | 1, w, h => chIwsX3_takeComparison_1 w h
  | 2, w, h => chIwsX3_takeComparison_2 w h
  | 3, w, h => chIwsX3_takeComparison_3 w h
  | 4, w, h => chIwsX3_takeComparison_4 w h
  | 5, w, h => chIwsX3_takeComparison_5 w h
  | 6, w, h => chIwsX3_takeComparison_6 w h
  | _ + 7, _, h => absurd h List.not_mem_nil
set_option maxRecDepth 20000 in
theorem ggX3_takeComparison_X7_advance : GoodIn wsX3_takeComparison wsX7_advance := goodIn_r2 chwsX3_takeComparison chwsX3_takeComparison_in _ [(1, 7), (1, 8), (1, 9), (1, 10), (1, 11), (1, 12), (1, 13), (1, 14), (1, 15), (5, 0), (5, 1), (5, 2), (5, 3), (5, 4), (5, 5), (5, 6), (5, 7)] rfl (by decide +kernel)
set_option maxRecDepth 20000 in
theorem gX3_takeComparison_X7_advance : GoodIn wsX3_takeComparison (wsV RX3 43 RX7 yX7_advance wsX7_advance) := goodIn_app (goodIn_r2 chwsX3_takeComparison chwsX3_takeComparison_in _ [(1, 3), (1, 4), (1, 5), (1, 6)] rfl (by decide +kernel)) ggX3_takeComparison_X7_advance
set_option maxRecDepth 20000 in
theorem ggX3_takeComparison_X3_takeSum : GoodIn wsX3_takeComparison wsX3_takeSum := goodIn_r2 chwsX3_takeComparison chwsX3_takeComparison_in _ [(2, 21), (1, 0), (1, 1), (1, 2), (2, 22), (2, 23), (3, 0), (1, 19), (1, 3), (1, 4), (1, 5), (1, 6), (1, 7), (1, 8), (1, 9), (1, 10), (1, 11), (1, 12), (1, 13), (1, 14), (1, 15), (1, 20), (1, 21), (1, 22), (1, 23), (2, 0), (2, 1), (2, 2), (0, 0), (1, 16), (1, 17), (1, 18), (2, 3), (2, 4), (2, 5), (2, 6), (2, 7), (2, 8), (2, 9), (2, 10), (2, 11), (2, 12), (2, 13), (2, 14), (2, 15), (2, 16), (2, 17), (2, 18), (2, 19), (2, 20), (3, 1), (4, 0), (4, 1), (4, 2), (4, 3), (5, 0), (5, 1), (5, 2), (5, 3), (5, 4), (5, 5), (5, 6), (5, 7), (6, 0), (6, 1), (6, 2), (6, 3), (6, 4), (6, 5)] rfl (by decide +kernel)
set_option maxRecDepth 20000 in
theorem gX3_takeComparison_X3_takeSum : GoodIn wsX3_takeComparison (wsV RX3 128 RX3 yX3_takeSum wsX3_takeSum) := goodIn_app (goodIn_r2 chwsX3_takeComparison chwsX3_takeComparison_in _ [(1, 16), (1, 17), (1, 18), (1, 19)] rfl (by decide +kernel)) ggX3_takeComparison_X3_takeSum
set_option maxRecDepth 20000 in
theorem ggX3_takeComparison_X4_emit : GoodIn wsX3_takeComparison wsX4_emit := goodIn_r2 chwsX3_takeComparison chwsX3_takeComparison_in _ [(2, 0), (2, 1), (2, 2), (6, 0), (6, 1), (6, 2), (6, 3), (6, 4), (6, 5)] rfl (by decide +kernel)
set_option maxRecDepth 20000 in
theorem gX3_takeComparison_X4_emit : GoodIn wsX3_takeComparison (wsV RX3 137 RX4 yX4_emit wsX4_emit) := goodIn_app (goodIn_r2 chwsX3_takeComparison chwsX3_takeComparison_in _ [(1, 20), (1, 21), (1, 22), (1, 23)] rfl (by decide +kernel)) ggX3_takeComparison_X4_emit
theorem dX3_takeComparison_0 : decode cX3_takeComparison 0 = .ok (.aload_n 0, 1) := by decide +kernel
theorem dX3_takeComparison_1 : decode cX3_takeComparison 1 = .ok (.getfield 12, 3) := by decide +kernel
theorem dX3_takeComparison_4 : decode cX3_takeComparison 4 = .ok (.getfield 36, 3) := by decide +kernel
theorem dX3_takeComparison_7 : decode cX3_takeComparison 7 = .ok (.bipush 60, 2) := by decide +kernel
theorem dX3_takeComparison_9 : decode cX3_takeComparison 9 = .ok (.if_icmp .eq 17, 3) := by decide +kernel
theorem dX3_takeComparison_12 : decode cX3_takeComparison 12 = .ok (.aload_n 0, 1) := by decide +kernel
theorem dX3_takeComparison_13 : decode cX3_takeComparison 13 = .ok (.getfield 12, 3) := by decide +kernel
theorem dX3_takeComparison_16 : decode cX3_takeComparison 16 = .ok (.getfield 36, 3) := by decide +kernel
theorem dX3_takeComparison_19 : decode cX3_takeComparison 19 = .ok (.bipush 61, 2) := by decide +kernel
theorem dX3_takeComparison_21 : decode cX3_takeComparison 21 = .ok (.if_icmp .eq 5, 3) := by decide +kernel
theorem dX3_takeComparison_24 : decode cX3_takeComparison 24 = .ok (.iconst 1, 1) := by decide +kernel
theorem dX3_takeComparison_25 : decode cX3_takeComparison 25 = .ok (.ireturn, 1) := by decide +kernel
theorem dX3_takeComparison_26 : decode cX3_takeComparison 26 = .ok (.aload_n 0, 1) := by decide +kernel
theorem dX3_takeComparison_27 : decode cX3_takeComparison 27 = .ok (.getfield 12, 3) := by decide +kernel
theorem dX3_takeComparison_30 : decode cX3_takeComparison 30 = .ok (.getfield 36, 3) := by decide +kernel
theorem dX3_takeComparison_33 : decode cX3_takeComparison 33 = .ok (.bipush 60, 2) := by decide +kernel
theorem dX3_takeComparison_35 : decode cX3_takeComparison 35 = .ok (.if_icmp .ne 8, 3) := by decide +kernel
theorem dX3_takeComparison_38 : decode cX3_takeComparison 38 = .ok (.bipush 21, 2) := by decide +kernel
theorem dX3_takeComparison_40 : decode cX3_takeComparison 40 = .ok (.goto 5, 3) := by decide +kernel
theorem dX3_takeComparison_43 : decode cX3_takeComparison 43 = .ok (.bipush 22, 2) := by decide +kernel
theorem dX3_takeComparison_45 : decode cX3_takeComparison 45 = .ok (.istore_n 2, 1) := by decide +kernel
theorem dX3_takeComparison_46 : decode cX3_takeComparison 46 = .ok (.aload_n 0, 1) := by decide +kernel
theorem dX3_takeComparison_47 : decode cX3_takeComparison 47 = .ok (.getfield 12, 3) := by decide +kernel
theorem dX3_takeComparison_50 : decode cX3_takeComparison 50 = .ok (.invokevirtual 43, 3) := by decide +kernel
theorem dX3_takeComparison_53 : decode cX3_takeComparison 53 = .ok (.aload_n 0, 1) := by decide +kernel
theorem dX3_takeComparison_54 : decode cX3_takeComparison 54 = .ok (.iload_n 1, 1) := by decide +kernel
theorem dX3_takeComparison_55 : decode cX3_takeComparison 55 = .ok (.invokevirtual 128, 3) := by decide +kernel
theorem dX3_takeComparison_58 : decode cX3_takeComparison 58 = .ok (.ifCond .ne 5, 3) := by decide +kernel
theorem dX3_takeComparison_61 : decode cX3_takeComparison 61 = .ok (.iconst 0, 1) := by decide +kernel
theorem dX3_takeComparison_62 : decode cX3_takeComparison 62 = .ok (.ireturn, 1) := by decide +kernel
theorem dX3_takeComparison_63 : decode cX3_takeComparison 63 = .ok (.aload_n 0, 1) := by decide +kernel
theorem dX3_takeComparison_64 : decode cX3_takeComparison 64 = .ok (.getfield 21, 3) := by decide +kernel
theorem dX3_takeComparison_67 : decode cX3_takeComparison 67 = .ok (.iload_n 2, 1) := by decide +kernel
theorem dX3_takeComparison_68 : decode cX3_takeComparison 68 = .ok (.invokevirtual 137, 3) := by decide +kernel
theorem dX3_takeComparison_71 : decode cX3_takeComparison 71 = .ok (.iconst 1, 1) := by decide +kernel
theorem dX3_takeComparison_72 : decode cX3_takeComparison 72 = .ok (.ireturn, 1) := by decide +kernel
set_option maxRecDepth 20000 in
theorem ggX4_init_X5_init : GoodIn wsX4_init wsX5_init := goodIn_r _ [11, 12, 2, 3] rfl (by decide +kernel)
set_option maxRecDepth 20000 in
theorem gX4_init_X5_init_n21 : GoodIn wsX4_init (wsX5_init) := ggX4_init_X5_init
theorem dX4_init_0 : decode cX4_init 0 = .ok (.aload_n 0, 1) := by decide +kernel
theorem dX4_init_1 : decode cX4_init 1 = .ok (.invokespecial 3, 3) := by decide +kernel
theorem dX4_init_4 : decode cX4_init 4 = .ok (.aload_n 0, 1) := by decide +kernel
theorem dX4_init_5 : decode cX4_init 5 = .ok (.bipush 30, 2) := by decide +kernel
theorem dX4_init_7 : decode cX4_init 7 = .ok (.anewarray 9, 3) := by decide +kernel
theorem dX4_init_10 : decode cX4_init 10 = .ok (.putfield 11, 3) := by decide +kernel
theorem dX4_init_13 : decode cX4_init 13 = .ok (.aload_n 0, 1) := by decide +kernel
theorem dX4_init_14 : decode cX4_init 14 = .ok (.sipush 300, 3) := by decide +kernel
theorem dX4_init_17 : decode cX4_init 17 = .ok (.newarray .int, 2) := by decide +kernel
theorem dX4_init_19 : decode cX4_init 19 = .ok (.putfield 17, 3) := by decide +kernel
theorem dX4_init_22 : decode cX4_init 22 = .ok (.iconst 0, 1) := by decide +kernel
theorem dX4_init_23 : decode cX4_init 23 = .ok (.istore_n 1, 1) := by decide +kernel
theorem dX4_init_24 : decode cX4_init 24 = .ok (.iload_n 1, 1) := by decide +kernel
theorem dX4_init_25 : decode cX4_init 25 = .ok (.bipush 30, 2) := by decide +kernel
theorem dX4_init_27 : decode cX4_init 27 = .ok (.if_icmp .ge 22, 3) := by decide +kernel
theorem dX4_init_30 : decode cX4_init 30 = .ok (.aload_n 0, 1) := by decide +kernel
theorem dX4_init_31 : decode cX4_init 31 = .ok (.getfield 11, 3) := by decide +kernel
theorem dX4_init_34 : decode cX4_init 34 = .ok (.iload_n 1, 1) := by decide +kernel
theorem dX4_init_35 : decode cX4_init 35 = .ok (.new 9, 3) := by decide +kernel
theorem dX4_init_38 : decode cX4_init 38 = .ok (.dup, 1) := by decide +kernel
theorem dX4_init_39 : decode cX4_init 39 = .ok (.invokespecial 21, 3) := by decide +kernel
theorem dX4_init_42 : decode cX4_init 42 = .ok (.aastore, 1) := by decide +kernel
theorem dX4_init_43 : decode cX4_init 43 = .ok (.iinc 1 1, 3) := by decide +kernel
theorem dX4_init_46 : decode cX4_init 46 = .ok (.goto (-22), 3) := by decide +kernel
theorem dX4_init_49 : decode cX4_init 49 = .ok (.return_, 1) := by decide +kernel
theorem dX4_reset_0 : decode cX4_reset 0 = .ok (.aload_n 0, 1) := by decide +kernel
theorem dX4_reset_1 : decode cX4_reset 1 = .ok (.iconst 0, 1) := by decide +kernel
theorem dX4_reset_2 : decode cX4_reset 2 = .ok (.putfield 22, 3) := by decide +kernel
theorem dX4_reset_5 : decode cX4_reset 5 = .ok (.aload_n 0, 1) := by decide +kernel
theorem dX4_reset_6 : decode cX4_reset 6 = .ok (.iconst 0, 1) := by decide +kernel
theorem dX4_reset_7 : decode cX4_reset 7 = .ok (.putfield 26, 3) := by decide +kernel
theorem dX4_reset_10 : decode cX4_reset 10 = .ok (.aload_n 0, 1) := by decide +kernel
theorem dX4_reset_11 : decode cX4_reset 11 = .ok (.iconst 0, 1) := by decide +kernel
theorem dX4_reset_12 : decode cX4_reset 12 = .ok (.putfield 29, 3) := by decide +kernel
theorem dX4_reset_15 : decode cX4_reset 15 = .ok (.aload_n 0, 1) := by decide +kernel
theorem dX4_reset_16 : decode cX4_reset 16 = .ok (.iconst 0, 1) := by decide +kernel
theorem dX4_reset_17 : decode cX4_reset 17 = .ok (.putfield 32, 3) := by decide +kernel
theorem dX4_reset_20 : decode cX4_reset 20 = .ok (.return_, 1) := by decide +kernel
theorem dX4_isFull_0 : decode cX4_isFull 0 = .ok (.aload_n 0, 1) := by decide +kernel
theorem dX4_isFull_1 : decode cX4_isFull 1 = .ok (.getfield 22, 3) := by decide +kernel
theorem dX4_isFull_4 : decode cX4_isFull 4 = .ok (.bipush 30, 2) := by decide +kernel
theorem dX4_isFull_6 : decode cX4_isFull 6 = .ok (.if_icmp .lt 7, 3) := by decide +kernel
theorem dX4_isFull_9 : decode cX4_isFull 9 = .ok (.iconst 1, 1) := by decide +kernel
theorem dX4_isFull_10 : decode cX4_isFull 10 = .ok (.goto 4, 3) := by decide +kernel
theorem dX4_isFull_13 : decode cX4_isFull 13 = .ok (.iconst 0, 1) := by decide +kernel
theorem dX4_isFull_14 : decode cX4_isFull 14 = .ok (.ireturn, 1) := by decide +kernel
set_option maxRecDepth 20000 in
theorem ggX4_append_X5_reset : GoodIn wsX4_append wsX5_reset := goodIn_r _ [11, 12, 13, 14, 15, 16, 17, 18, 19, 20, 27, 28, 29, 30, 31, 32, 33, 34, 35] rfl (by decide +kernel)
set_option maxRecDepth 20000 in
theorem gX4_append_X5_reset : GoodIn wsX4_append (wsV RX4 41 RX5 yX5_reset wsX5_reset) := goodIn_app (goodIn_r _ [7, 8, 9, 10] rfl (by decide +kernel)) ggX4_append_X5_reset
theorem dX4_append_0 : decode cX4_append 0 = .ok (.aload_n 0, 1) := by decide +kernel
theorem dX4_append_1 : decode cX4_append 1 = .ok (.getfield 22, 3) := by decide +kernel
theorem dX4_append_4 : decode cX4_append 4 = .ok (.bipush 29, 2) := by decide +kernel
theorem dX4_append_6 : decode cX4_append 6 = .ok (.invokestatic 35, 3) := by decide +kernel
theorem dX4_append_9 : decode cX4_append 9 = .ok (.istore_n 2, 1) := by decide +kernel
theorem dX4_append_10 : decode cX4_append 10 = .ok (.aload_n 0, 1) := by decide +kernel
theorem dX4_append_11 : decode cX4_append 11 = .ok (.iload_n 2, 1) := by decide +kernel
theorem dX4_append_12 : decode cX4_append 12 = .ok (.iconst 1, 1) := by decide +kernel
theorem dX4_append_13 : decode cX4_append 13 = .ok (.iadd, 1) := by decide +kernel
theorem dX4_append_14 : decode cX4_append 14 = .ok (.putfield 22, 3) := by decide +kernel
theorem dX4_append_17 : decode cX4_append 17 = .ok (.aload_n 0, 1) := by decide +kernel
theorem dX4_append_18 : decode cX4_append 18 = .ok (.getfield 11, 3) := by decide +kernel
theorem dX4_append_21 : decode cX4_append 21 = .ok (.iload_n 2, 1) := by decide +kernel
theorem dX4_append_22 : decode cX4_append 22 = .ok (.aaload, 1) := by decide +kernel
theorem dX4_append_23 : decode cX4_append 23 = .ok (.iload_n 1, 1) := by decide +kernel
theorem dX4_append_24 : decode cX4_append 24 = .ok (.invokevirtual 41, 3) := by decide +kernel
theorem dX4_append_27 : decode cX4_append 27 = .ok (.aload_n 0, 1) := by decide +kernel
theorem dX4_append_28 : decode cX4_append 28 = .ok (.getfield 11, 3) := by decide +kernel
theorem dX4_append_31 : decode cX4_append 31 = .ok (.iload_n 2, 1) := by decide +kernel
theorem dX4_append_32 : decode cX4_append 32 = .ok (.aaload, 1) := by decide +kernel
theorem dX4_append_33 : decode cX4_append 33 = .ok (.areturn, 1) := by decide +kernel
theorem dX4_emit_0 : decode cX4_emit 0 = .ok (.aload_n 0, 1) := by decide +kernel
theorem dX4_emit_1 : decode cX4_emit 1 = .ok (.getfield 26, 3) := by decide +kernel
theorem dX4_emit_4 : decode cX4_emit 4 = .ok (.aload_n 0, 1) := by decide +kernel
theorem dX4_emit_5 : decode cX4_emit 5 = .ok (.getfield 17, 3) := by decide +kernel
theorem dX4_emit_8 : decode cX4_emit 8 = .ok (.arraylength, 1) := by decide +kernel
theorem dX4_emit_9 : decode cX4_emit 9 = .ok (.if_icmp .ge 20, 3) := by decide +kernel
theorem dX4_emit_12 : decode cX4_emit 12 = .ok (.aload_n 0, 1) := by decide +kernel
theorem dX4_emit_13 : decode cX4_emit 13 = .ok (.getfield 17, 3) := by decide +kernel
theorem dX4_emit_16 : decode cX4_emit 16 = .ok (.aload_n 0, 1) := by decide +kernel
theorem dX4_emit_17 : decode cX4_emit 17 = .ok (.dup, 1) := by decide +kernel
theorem dX4_emit_18 : decode cX4_emit 18 = .ok (.getfield 26, 3) := by decide +kernel
theorem dX4_emit_21 : decode cX4_emit 21 = .ok (.dup_x1, 1) := by decide +kernel
theorem dX4_emit_22 : decode cX4_emit 22 = .ok (.iconst 1, 1) := by decide +kernel
theorem dX4_emit_23 : decode cX4_emit 23 = .ok (.iadd, 1) := by decide +kernel
theorem dX4_emit_24 : decode cX4_emit 24 = .ok (.putfield 26, 3) := by decide +kernel
theorem dX4_emit_27 : decode cX4_emit 27 = .ok (.iload_n 1, 1) := by decide +kernel
theorem dX4_emit_28 : decode cX4_emit 28 = .ok (.iastore, 1) := by decide +kernel
theorem dX4_emit_29 : decode cX4_emit 29 = .ok (.return_, 1) := by decide +kernel
theorem dX5_init_0 : decode cX5_init 0 = .ok (.aload_n 0, 1) := by decide +kernel
theorem dX5_init_1 : decode cX5_init 1 = .ok (.invokespecial 1, 3) := by decide +kernel
theorem dX5_init_4 : decode cX5_init 4 = .ok (.return_, 1) := by decide +kernel
theorem dX5_reset_0 : decode cX5_reset 0 = .ok (.aload_n 0, 1) := by decide +kernel
theorem dX5_reset_1 : decode cX5_reset 1 = .ok (.iconst 0, 1) := by decide +kernel
theorem dX5_reset_2 : decode cX5_reset 2 = .ok (.putfield 9, 3) := by decide +kernel
theorem dX5_reset_5 : decode cX5_reset 5 = .ok (.aload_n 0, 1) := by decide +kernel
theorem dX5_reset_6 : decode cX5_reset 6 = .ok (.iconst 0, 1) := by decide +kernel
theorem dX5_reset_7 : decode cX5_reset 7 = .ok (.putfield 13, 3) := by decide +kernel
theorem dX5_reset_10 : decode cX5_reset 10 = .ok (.aload_n 0, 1) := by decide +kernel
theorem dX5_reset_11 : decode cX5_reset 11 = .ok (.iconst 0, 1) := by decide +kernel
theorem dX5_reset_12 : decode cX5_reset 12 = .ok (.putfield 16, 3) := by decide +kernel
theorem dX5_reset_15 : decode cX5_reset 15 = .ok (.aload_n 0, 1) := by decide +kernel
theorem dX5_reset_16 : decode cX5_reset 16 = .ok (.iload_n 1, 1) := by decide +kernel
theorem dX5_reset_17 : decode cX5_reset 17 = .ok (.putfield 19, 3) := by decide +kernel
theorem dX5_reset_20 : decode cX5_reset 20 = .ok (.aload_n 0, 1) := by decide +kernel
theorem dX5_reset_21 : decode cX5_reset 21 = .ok (.iconst 0, 1) := by decide +kernel
theorem dX5_reset_22 : decode cX5_reset 22 = .ok (.putfield 22, 3) := by decide +kernel
theorem dX5_reset_25 : decode cX5_reset 25 = .ok (.aload_n 0, 1) := by decide +kernel
theorem dX5_reset_26 : decode cX5_reset 26 = .ok (.iconst 0, 1) := by decide +kernel
theorem dX5_reset_27 : decode cX5_reset 27 = .ok (.putfield 25, 3) := by decide +kernel
theorem dX5_reset_30 : decode cX5_reset 30 = .ok (.aload_n 0, 1) := by decide +kernel
theorem dX5_reset_31 : decode cX5_reset 31 = .ok (.iconst 0, 1) := by decide +kernel
theorem dX5_reset_32 : decode cX5_reset 32 = .ok (.putfield 28, 3) := by decide +kernel
theorem dX5_reset_35 : decode cX5_reset 35 = .ok (.aload_n 0, 1) := by decide +kernel
theorem dX5_reset_36 : decode cX5_reset 36 = .ok (.iconst 0, 1) := by decide +kernel
theorem dX5_reset_37 : decode cX5_reset 37 = .ok (.putfield 31, 3) := by decide +kernel
theorem dX5_reset_40 : decode cX5_reset 40 = .ok (.aload_n 0, 1) := by decide +kernel
theorem dX5_reset_41 : decode cX5_reset 41 = .ok (.iconst 0, 1) := by decide +kernel
theorem dX5_reset_42 : decode cX5_reset 42 = .ok (.putfield 34, 3) := by decide +kernel
theorem dX5_reset_45 : decode cX5_reset 45 = .ok (.return_, 1) := by decide +kernel
theorem dX6_init_0 : decode cX6_init 0 = .ok (.aload_n 0, 1) := by decide +kernel
theorem dX6_init_1 : decode cX6_init 1 = .ok (.invokespecial 3, 3) := by decide +kernel
theorem dX6_init_4 : decode cX6_init 4 = .ok (.aload_n 0, 1) := by decide +kernel
theorem dX6_init_5 : decode cX6_init 5 = .ok (.sipush 300, 3) := by decide +kernel
theorem dX6_init_8 : decode cX6_init 8 = .ok (.newarray .int, 2) := by decide +kernel
theorem dX6_init_10 : decode cX6_init 10 = .ok (.putfield 9, 3) := by decide +kernel
theorem dX6_init_13 : decode cX6_init 13 = .ok (.return_, 1) := by decide +kernel
theorem dX6_append_0 : decode cX6_append 0 = .ok (.aload_n 0, 1) := by decide +kernel
theorem dX6_append_1 : decode cX6_append 1 = .ok (.getfield 15, 3) := by decide +kernel
theorem dX6_append_4 : decode cX6_append 4 = .ok (.aload_n 0, 1) := by decide +kernel
theorem dX6_append_5 : decode cX6_append 5 = .ok (.getfield 9, 3) := by decide +kernel
theorem dX6_append_8 : decode cX6_append 8 = .ok (.arraylength, 1) := by decide +kernel
theorem dX6_append_9 : decode cX6_append 9 = .ok (.if_icmp .ge 20, 3) := by decide +kernel
theorem dX6_append_12 : decode cX6_append 12 = .ok (.aload_n 0, 1) := by decide +kernel
theorem dX6_append_13 : decode cX6_append 13 = .ok (.getfield 9, 3) := by decide +kernel
theorem dX6_append_16 : decode cX6_append 16 = .ok (.aload_n 0, 1) := by decide +kernel
theorem dX6_append_17 : decode cX6_append 17 = .ok (.dup, 1) := by decide +kernel
theorem dX6_append_18 : decode cX6_append 18 = .ok (.getfield 15, 3) := by decide +kernel
theorem dX6_append_21 : decode cX6_append 21 = .ok (.dup_x1, 1) := by decide +kernel
theorem dX6_append_22 : decode cX6_append 22 = .ok (.iconst 1, 1) := by decide +kernel
theorem dX6_append_23 : decode cX6_append 23 = .ok (.iadd, 1) := by decide +kernel
theorem dX6_append_24 : decode cX6_append 24 = .ok (.putfield 15, 3) := by decide +kernel
theorem dX6_append_27 : decode cX6_append 27 = .ok (.iload_n 1, 1) := by decide +kernel
theorem dX6_append_28 : decode cX6_append 28 = .ok (.iastore, 1) := by decide +kernel
theorem dX6_append_29 : decode cX6_append 29 = .ok (.return_, 1) := by decide +kernel
theorem dX6_at_0 : decode cX6_at 0 = .ok (.iload_n 1, 1) := by decide +kernel
theorem dX6_at_1 : decode cX6_at 1 = .ok (.ifCond .lt 20, 3) := by decide +kernel
theorem dX6_at_4 : decode cX6_at 4 = .ok (.iload_n 1, 1) := by decide +kernel
theorem dX6_at_5 : decode cX6_at 5 = .ok (.aload_n 0, 1) := by decide +kernel
theorem dX6_at_6 : decode cX6_at 6 = .ok (.getfield 15, 3) := by decide +kernel
theorem dX6_at_9 : decode cX6_at 9 = .ok (.if_icmp .ge 12, 3) := by decide +kernel
theorem dX6_at_12 : decode cX6_at 12 = .ok (.aload_n 0, 1) := by decide +kernel
theorem dX6_at_13 : decode cX6_at 13 = .ok (.getfield 9, 3) := by decide +kernel
theorem dX6_at_16 : decode cX6_at 16 = .ok (.iload_n 1, 1) := by decide +kernel
theorem dX6_at_17 : decode cX6_at 17 = .ok (.iaload, 1) := by decide +kernel
theorem dX6_at_18 : decode cX6_at 18 = .ok (.goto 4, 3) := by decide +kernel
theorem dX6_at_21 : decode cX6_at 21 = .ok (.iconst (-1), 1) := by decide +kernel
theorem dX6_at_22 : decode cX6_at 22 = .ok (.ireturn, 1) := by decide +kernel
theorem dX7_init_0 : decode cX7_init 0 = .ok (.aload_n 0, 1) := by decide +kernel
theorem dX7_init_1 : decode cX7_init 1 = .ok (.invokespecial 3, 3) := by decide +kernel
theorem dX7_init_4 : decode cX7_init 4 = .ok (.aload_n 0, 1) := by decide +kernel
theorem dX7_init_5 : decode cX7_init 5 = .ok (.sipush 301, 3) := by decide +kernel
theorem dX7_init_8 : decode cX7_init 8 = .ok (.newarray .int, 2) := by decide +kernel
theorem dX7_init_10 : decode cX7_init 10 = .ok (.putfield 9, 3) := by decide +kernel
theorem dX7_init_13 : decode cX7_init 13 = .ok (.aload_n 0, 1) := by decide +kernel
theorem dX7_init_14 : decode cX7_init 14 = .ok (.sipush 301, 3) := by decide +kernel
theorem dX7_init_17 : decode cX7_init 17 = .ok (.newarray .int, 2) := by decide +kernel
theorem dX7_init_19 : decode cX7_init 19 = .ok (.putfield 15, 3) := by decide +kernel
theorem dX7_init_22 : decode cX7_init 22 = .ok (.aload_n 0, 1) := by decide +kernel
theorem dX7_init_23 : decode cX7_init 23 = .ok (.sipush 301, 3) := by decide +kernel
theorem dX7_init_26 : decode cX7_init 26 = .ok (.newarray .int, 2) := by decide +kernel
theorem dX7_init_28 : decode cX7_init 28 = .ok (.putfield 18, 3) := by decide +kernel
theorem dX7_init_31 : decode cX7_init 31 = .ok (.return_, 1) := by decide +kernel
theorem chIwsX7_cut_0 : ∀ w ∈ ([.code yX7_cut cX7_cut 5 none] : List Cond), w ∈ wsX7_cut := fun _ h => (List.mem_cons.mpr (Or.inl (List.mem_singleton.mp h)))
theorem chIwsX7_cut_1 : ∀ w ∈ (wsX7_cut_r1 : List Cond), w ∈ wsX7_cut := fun _ h => (List.mem_cons_of_mem _ (List.mem_append_left _ (List.mem_append_left _ (List.mem_append_left _ h))))
theorem chIwsX7_cut_2 : ∀ w ∈ (wsX7_cut_r2 : List Cond), w ∈ wsX7_cut := fun _ h => (List.mem_cons_of_mem _ (List.mem_append_left _ (List.mem_append_left _ (List.mem_append_right _ (List.mem_append_left _ h)))))
theorem chIwsX7_cut_3 : ∀ w ∈ (wsX7_cut_r3 : List Cond), w ∈ wsX7_cut := fun _ h => (List.mem_cons_of_mem _ (List.mem_append_left _ (List.mem_append_left _ (List.mem_append_right _ (List.mem_append_right _ (List.mem_append_left _ h))))))
theorem chIwsX7_cut_4 : ∀ w ∈ (wsX7_cut_r4 : List Cond), w ∈ wsX7_cut := fun _ h => (List.mem_cons_of_mem _ (List.mem_append_left _ (List.mem_append_left _ (List.mem_append_right _ (List.mem_append_right _ (List.mem_append_right _ (List.mem_append_left _ h)))))))
theorem chIwsX7_cut_5 : ∀ w ∈ (wsX7_cut_r5 : List Cond), w ∈ wsX7_cut := fun _ h => (List.mem_cons_of_mem _ (List.mem_append_left _ (List.mem_append_left _ (List.mem_append_right _ (List.mem_append_right _ (List.mem_append_right _ (List.mem_append_right _ (List.mem_append_left _ h))))))))
theorem chIwsX7_cut_6 : ∀ w ∈ (wsX7_cut_r6 : List Cond), w ∈ wsX7_cut := fun _ h => (List.mem_cons_of_mem _ (List.mem_append_left _ (List.mem_append_left _ (List.mem_append_right _ (List.mem_append_right _ (List.mem_append_right _ (List.mem_append_right _ (List.mem_append_right _ h))))))))
theorem chIwsX7_cut_7 : ∀ w ∈ (wsX70 : List Cond), w ∈ wsX7_cut := fun _ h => (List.mem_cons_of_mem _ (List.mem_append_left _ (List.mem_append_right _ h)))
theorem chIwsX7_cut_8 : ∀ w ∈ (wsX60 : List Cond), w ∈ wsX7_cut := fun _ h => (List.mem_cons_of_mem _ (List.mem_append_right _ h))
def chwsX7_cut : Nat → List Cond
  | 0 => [.code yX7_cut cX7_cut 5 none]
  | 1 => wsX7_cut_r1
  | 2 => wsX7_cut_r2
  | 3 => wsX7_cut_r3
  | 4 => wsX7_cut_r4
  | 5 => wsX7_cut_r5
  | 6 => wsX7_cut_r6
  | 7 => wsX70
  | 8 => wsX60
  | _ => []
theorem chwsX7_cut_in : ∀ (j : Nat) (w : Cond), w ∈ chwsX7_cut j → w ∈ wsX7_cut
  | 0, w, h => chIwsX7_cut_0 w h
  | 1, w, h => chIwsX7_cut_1 w h
  | 2, w, h => chIwsX7_cut_2 w h
  | 3, w, h => chIwsX7_cut_3 w h
  | 4, w, h => chIwsX7_cut_4 w h
  | 5, w, h => chIwsX7_cut_5 w h
  | 6, w, h => chIwsX7_cut_6 w h
  | 7, w, h => chIwsX7_cut_7 w h
  | 8, w, h => chIwsX7_cut_8 w h
  | _ + 9, _, h => absurd h List.not_mem_nil
set_option maxRecDepth 20000 in
theorem ggX7_cut_X6_at : GoodIn wsX7_cut wsX6_at := goodIn_r2 chwsX7_cut chwsX7_cut_in _ [(1, 11), (1, 12), (1, 13), (8, 0), (8, 1)] rfl (by decide +kernel)
set_option maxRecDepth 20000 in
theorem gX7_cut_X6_at : GoodIn wsX7_cut (wsV RX7 30 RX6 yX6_at wsX6_at) := goodIn_app (goodIn_r2 chwsX7_cut chwsX7_cut_in _ [(1, 7), (1, 8), (1, 9), (1, 10)] rfl (by decide +kernel)) ggX7_cut_X6_at
set_option maxRecDepth 20000 in
theorem ggX7_cut_X7_isLetter : GoodIn wsX7_cut wsX7_isLetter := goodIn_r2 chwsX7_cut chwsX7_cut_in _ [(1, 17)] rfl (by decide +kernel)
set_option maxRecDepth 20000 in
theorem gX7_cut_X7_isLetter : GoodIn wsX7_cut (va_wsS RX7 34 yX7_isLetter wsX7_isLetter) := goodIn_app (goodIn_r2 chwsX7_cut chwsX7_cut_in _ [(1, 14), (1, 15), (1, 16)] rfl (by decide +kernel)) ggX7_cut_X7_isLetter
set_option maxRecDepth 20000 in
theorem ggX7_cut_X7_takeWord : GoodIn wsX7_cut wsX7_takeWord := goodIn_r2 chwsX7_cut chwsX7_cut_in _ [(1, 21), (1, 1), (1, 7), (1, 8), (1, 9), (1, 10), (1, 11), (1, 12), (1, 13), (1, 14), (1, 15), (1, 16), (1, 17), (1, 22), (1, 23), (2, 0), (2, 1), (1, 0), (2, 2), (2, 3), (2, 4), (2, 5), (2, 6), (2, 7), (8, 0), (8, 1), (7, 0), (7, 1), (7, 2), (7, 3), (7, 4), (7, 5), (7, 6), (7, 7)] rfl (by decide +kernel)
set_option maxRecDepth 20000 in
theorem gX7_cut_X7_takeWord : GoodIn wsX7_cut (wsV RX7 38 RX7 yX7_takeWord wsX7_takeWord) := goodIn_app (goodIn_r2 chwsX7_cut chwsX7_cut_in _ [(1, 18), (1, 19), (1, 20), (1, 16)] rfl (by decide +kernel)) ggX7_cut_X7_takeWord
set_option maxRecDepth 20000 in
theorem ggX7_cut_X7_isFigure : GoodIn wsX7_cut wsX7_isFigure := goodIn_r2 chwsX7_cut chwsX7_cut_in _ [(2, 10)] rfl (by decide +kernel)
set_option maxRecDepth 20000 in
theorem gX7_cut_X7_isFigure : GoodIn wsX7_cut (va_wsS RX7 42 yX7_isFigure wsX7_isFigure) := goodIn_app (goodIn_r2 chwsX7_cut chwsX7_cut_in _ [(2, 8), (2, 9), (1, 16)] rfl (by decide +kernel)) ggX7_cut_X7_isFigure
set_option maxRecDepth 20000 in
theorem ggX7_cut_X7_takeNumber : GoodIn wsX7_cut wsX7_takeNumber := goodIn_r2 chwsX7_cut chwsX7_cut_in _ [(2, 14), (1, 1), (1, 7), (1, 8), (1, 9), (1, 10), (1, 11), (1, 12), (1, 13), (2, 8), (2, 9), (1, 16), (2, 10), (1, 22), (1, 23), (2, 0), (2, 1), (1, 0), (2, 2), (2, 3), (2, 4), (8, 0), (8, 1), (7, 0), (7, 1), (7, 2), (7, 3), (7, 4), (7, 5), (7, 6), (7, 7)] rfl (by decide +kernel)
set_option maxRecDepth 20000 in
theorem gX7_cut_X7_takeNumber : GoodIn wsX7_cut (wsV RX7 45 RX7 yX7_takeNumber wsX7_takeNumber) := goodIn_app (goodIn_r2 chwsX7_cut chwsX7_cut_in _ [(2, 11), (2, 12), (2, 13), (1, 16)] rfl (by decide +kernel)) ggX7_cut_X7_takeNumber
set_option maxRecDepth 20000 in
theorem ggX7_cut_J0_indexOf_0f7a4 : GoodIn wsX7_cut wsJ0_indexOf_0f7a4 := goodIn_r2 chwsX7_cut chwsX7_cut_in _ [(2, 19), (2, 20), (2, 21), (2, 22), (2, 18), (2, 23), (3, 0), (3, 1), (3, 2), (3, 3), (3, 4), (3, 5), (3, 6), (3, 7), (3, 8), (3, 9), (3, 10), (3, 11), (3, 12), (3, 13), (3, 14), (3, 15), (3, 16), (3, 17), (3, 18), (3, 19), (1, 3), (1, 4), (1, 5), (3, 20), (3, 21), (3, 22), (3, 23), (4, 0), (4, 1), (4, 2), (4, 3), (4, 4), (4, 5), (4, 6), (4, 7), (4, 8), (4, 9), (4, 10), (4, 11), (4, 12), (4, 13), (4, 14), (4, 15), (4, 16), (4, 17), (4, 18), (4, 19), (4, 20), (4, 21), (4, 22), (4, 23), (5, 0), (5, 1), (5, 2), (5, 3), (5, 4), (5, 5), (5, 6), (5, 7), (5, 8), (5, 9), (5, 10), (5, 11), (5, 12), (5, 13), (5, 14), (5, 15), (5, 16), (5, 17), (5, 18), (5, 19), (5, 20), (5, 21), (5, 22), (5, 23), (6, 0), (6, 1), (6, 2), (6, 3), (6, 4)] rfl (by decide +kernel)
set_option maxRecDepth 20000 in
theorem gX7_cut_J0_indexOf_0f7a4 : GoodIn wsX7_cut (wsV RX7 50 RJ0 yJ0_indexOf_0f7a4 wsJ0_indexOf_0f7a4) := goodIn_app (goodIn_r2 chwsX7_cut chwsX7_cut_in _ [(2, 15), (2, 16), (2, 17), (2, 18)] rfl (by decide +kernel)) ggX7_cut_J0_indexOf_0f7a4
set_option maxRecDepth 20000 in
theorem ggX7_cut_X7_add : GoodIn wsX7_cut wsX7_add := goodIn_r2 chwsX7_cut chwsX7_cut_in _ [(2, 1), (1, 0), (2, 2), (2, 3), (2, 4), (7, 0), (7, 1), (7, 2), (7, 3), (7, 4), (7, 5), (7, 6), (7, 7)] rfl (by decide +kernel)
set_option maxRecDepth 20000 in
theorem gX7_cut_X7_add : GoodIn wsX7_cut (wsV RX7 55 RX7 yX7_add wsX7_add) := goodIn_app (goodIn_r2 chwsX7_cut chwsX7_cut_in _ [(1, 22), (1, 23), (2, 0), (1, 16)] rfl (by decide +kernel)) ggX7_cut_X7_add
set_option maxRecDepth 20000 in
theorem ggX7_cut_X7_advance : GoodIn wsX7_cut wsX7_advance := goodIn_r2 chwsX7_cut chwsX7_cut_in _ [(6, 8), (1, 6), (1, 0), (2, 2), (6, 9), (2, 3), (6, 10), (2, 4), (6, 11), (7, 0), (7, 1), (7, 2), (7, 3), (7, 4), (7, 5), (7, 6), (7, 7)] rfl (by decide +kernel)
set_option maxRecDepth 20000 in
theorem gX7_cut_X7_advance : GoodIn wsX7_cut (wsV RX7 67 RX7 yX7_advance wsX7_advance) := goodIn_app (goodIn_r2 chwsX7_cut chwsX7_cut_in _ [(6, 5), (6, 6), (6, 7), (1, 16)] rfl (by decide +kernel)) ggX7_cut_X7_advance
theorem dX7_cut_0 : decode cX7_cut 0 = .ok (.aload_n 0, 1) := by decide +kernel
theorem dX7_cut_1 : decode cX7_cut 1 = .ok (.iconst 0, 1) := by decide +kernel
theorem dX7_cut_2 : decode cX7_cut 2 = .ok (.putfield 21, 3) := by decide +kernel
theorem dX7_cut_5 : decode cX7_cut 5 = .ok (.iconst 0, 1) := by decide +kernel
theorem dX7_cut_6 : decode cX7_cut 6 = .ok (.istore_n 2, 1) := by decide +kernel
theorem dX7_cut_7 : decode cX7_cut 7 = .ok (.iload_n 2, 1) := by decide +kernel
theorem dX7_cut_8 : decode cX7_cut 8 = .ok (.aload_n 1, 1) := by decide +kernel
theorem dX7_cut_9 : decode cX7_cut 9 = .ok (.getfield 25, 3) := by decide +kernel
theorem dX7_cut_12 : decode cX7_cut 12 = .ok (.if_icmp .ge 89, 3) := by decide +kernel
theorem dX7_cut_15 : decode cX7_cut 15 = .ok (.aload_n 1, 1) := by decide +kernel
theorem dX7_cut_16 : decode cX7_cut 16 = .ok (.iload_n 2, 1) := by decide +kernel
theorem dX7_cut_17 : decode cX7_cut 17 = .ok (.invokevirtual 30, 3) := by decide +kernel
theorem dX7_cut_20 : decode cX7_cut 20 = .ok (.istore_n 3, 1) := by decide +kernel
theorem dX7_cut_21 : decode cX7_cut 21 = .ok (.iload_n 2, 1) := by decide +kernel
theorem dX7_cut_22 : decode cX7_cut 22 = .ok (.iconst 1, 1) := by decide +kernel
theorem dX7_cut_23 : decode cX7_cut 23 = .ok (.iadd, 1) := by decide +kernel
theorem dX7_cut_24 : decode cX7_cut 24 = .ok (.istore 4, 2) := by decide +kernel
theorem dX7_cut_26 : decode cX7_cut 26 = .ok (.iload_n 3, 1) := by decide +kernel
theorem dX7_cut_27 : decode cX7_cut 27 = .ok (.invokestatic 34, 3) := by decide +kernel
theorem dX7_cut_30 : decode cX7_cut 30 = .ok (.ifCond .eq 14, 3) := by decide +kernel
theorem dX7_cut_33 : decode cX7_cut 33 = .ok (.aload_n 0, 1) := by decide +kernel
theorem dX7_cut_34 : decode cX7_cut 34 = .ok (.aload_n 1, 1) := by decide +kernel
theorem dX7_cut_35 : decode cX7_cut 35 = .ok (.iload_n 2, 1) := by decide +kernel
theorem dX7_cut_36 : decode cX7_cut 36 = .ok (.invokevirtual 38, 3) := by decide +kernel
theorem dX7_cut_39 : decode cX7_cut 39 = .ok (.istore 4, 2) := by decide +kernel
theorem dX7_cut_41 : decode cX7_cut 41 = .ok (.goto 48, 3) := by decide +kernel
theorem dX7_cut_44 : decode cX7_cut 44 = .ok (.iload_n 3, 1) := by decide +kernel
theorem dX7_cut_45 : decode cX7_cut 45 = .ok (.invokestatic 42, 3) := by decide +kernel
theorem dX7_cut_48 : decode cX7_cut 48 = .ok (.ifCond .eq 14, 3) := by decide +kernel
theorem dX7_cut_51 : decode cX7_cut 51 = .ok (.aload_n 0, 1) := by decide +kernel
theorem dX7_cut_52 : decode cX7_cut 52 = .ok (.aload_n 1, 1) := by decide +kernel
theorem dX7_cut_53 : decode cX7_cut 53 = .ok (.iload_n 2, 1) := by decide +kernel
theorem dX7_cut_54 : decode cX7_cut 54 = .ok (.invokevirtual 45, 3) := by decide +kernel
theorem dX7_cut_57 : decode cX7_cut 57 = .ok (.istore 4, 2) := by decide +kernel
theorem dX7_cut_59 : decode cX7_cut 59 = .ok (.goto 30, 3) := by decide +kernel
theorem dX7_cut_62 : decode cX7_cut 62 = .ok (.iload_n 3, 1) := by decide +kernel
theorem dX7_cut_63 : decode cX7_cut 63 = .ok (.bipush 32, 2) := by decide +kernel
theorem dX7_cut_65 : decode cX7_cut 65 = .ok (.if_icmp .eq 24, 3) := by decide +kernel
theorem dX7_cut_68 : decode cX7_cut 68 = .ok (.aload_n 0, 1) := by decide +kernel
theorem dX7_cut_69 : decode cX7_cut 69 = .ok (.ldc 48, 2) := by decide +kernel
theorem dX7_cut_71 : decode cX7_cut 71 = .ok (.iload_n 3, 1) := by decide +kernel
theorem dX7_cut_72 : decode cX7_cut 72 = .ok (.i2c, 1) := by decide +kernel
theorem dX7_cut_73 : decode cX7_cut 73 = .ok (.invokevirtual 50, 3) := by decide +kernel
theorem dX7_cut_76 : decode cX7_cut 76 = .ok (.ifCond .lt 7, 3) := by decide +kernel
theorem dX7_cut_79 : decode cX7_cut 79 = .ok (.iload_n 3, 1) := by decide +kernel
theorem dX7_cut_80 : decode cX7_cut 80 = .ok (.goto 4, 3) := by decide +kernel
theorem dX7_cut_83 : decode cX7_cut 83 = .ok (.iconst 1, 1) := by decide +kernel
theorem dX7_cut_84 : decode cX7_cut 84 = .ok (.iconst 0, 1) := by decide +kernel
theorem dX7_cut_85 : decode cX7_cut 85 = .ok (.iload_n 2, 1) := by decide +kernel
theorem dX7_cut_86 : decode cX7_cut 86 = .ok (.invokevirtual 55, 3) := by decide +kernel
theorem dX7_cut_89 : decode cX7_cut 89 = .ok (.iload_n 2, 1) := by decide +kernel
theorem dX7_cut_90 : decode cX7_cut 90 = .ok (.iconst 1, 1) := by decide +kernel
theorem dX7_cut_91 : decode cX7_cut 91 = .ok (.iadd, 1) := by decide +kernel
theorem dX7_cut_92 : decode cX7_cut 92 = .ok (.iload 4, 2) := by decide +kernel
theorem dX7_cut_94 : decode cX7_cut 94 = .ok (.invokestatic 59, 3) := by decide +kernel
theorem dX7_cut_97 : decode cX7_cut 97 = .ok (.istore_n 2, 1) := by decide +kernel
theorem dX7_cut_98 : decode cX7_cut 98 = .ok (.goto (-91), 3) := by decide +kernel
theorem dX7_cut_101 : decode cX7_cut 101 = .ok (.aload_n 0, 1) := by decide +kernel
theorem dX7_cut_102 : decode cX7_cut 102 = .ok (.iconst 0, 1) := by decide +kernel
theorem dX7_cut_103 : decode cX7_cut 103 = .ok (.iconst 0, 1) := by decide +kernel
theorem dX7_cut_104 : decode cX7_cut 104 = .ok (.aload_n 1, 1) := by decide +kernel
theorem dX7_cut_105 : decode cX7_cut 105 = .ok (.getfield 25, 3) := by decide +kernel
theorem dX7_cut_108 : decode cX7_cut 108 = .ok (.invokevirtual 55, 3) := by decide +kernel
theorem dX7_cut_111 : decode cX7_cut 111 = .ok (.aload_n 0, 1) := by decide +kernel
theorem dX7_cut_112 : decode cX7_cut 112 = .ok (.iconst (-1), 1) := by decide +kernel
theorem dX7_cut_113 : decode cX7_cut 113 = .ok (.putfield 65, 3) := by decide +kernel
theorem dX7_cut_116 : decode cX7_cut 116 = .ok (.aload_n 0, 1) := by decide +kernel
theorem dX7_cut_117 : decode cX7_cut 117 = .ok (.invokevirtual 67, 3) := by decide +kernel
theorem dX7_cut_120 : decode cX7_cut 120 = .ok (.return_, 1) := by decide +kernel
