theorem inlX0 : ∀ w ∈ wsX00, w ∈ wsL_law := fun _ h => List.mem_append_left _ (List.mem_append_left _ (List.mem_append_left _ (List.mem_append_left _ (List.mem_append_left _ (List.mem_append_right _ h)))))
theorem inX0 : ∀ w ∈ wsX00, w ∈ lw_tbl := fun w h => wsL_law_in w (inlX0 w h)
theorem inlX1 : ∀ w ∈ wsX10, w ∈ wsL_law := fun _ h => List.mem_append_left _ (List.mem_append_right _ h)
theorem inX1 : ∀ w ∈ wsX10, w ∈ lw_tbl := fun w h => wsL_law_in w (inlX1 w h)
theorem inlX2 : ∀ w ∈ wsX20, w ∈ wsL_law := fun _ h => List.mem_append_left _ (List.mem_append_left _ (List.mem_append_left _ (List.mem_append_left _ (List.mem_append_left _ (List.mem_append_left _ (List.mem_append_left _ (List.mem_append_right _ h)))))))
theorem inX2 : ∀ w ∈ wsX20, w ∈ lw_tbl := fun w h => wsL_law_in w (inlX2 w h)
theorem inlX3 : ∀ w ∈ wsX30, w ∈ wsL_law := fun _ h => List.mem_append_left _ (List.mem_append_left _ (List.mem_append_left _ (List.mem_append_left _ (List.mem_append_left _ (List.mem_append_left _ (List.mem_append_left _ (List.mem_append_left _ (List.mem_append_right _ h))))))))
theorem inX3 : ∀ w ∈ wsX30, w ∈ lw_tbl := fun w h => wsL_law_in w (inlX3 w h)
theorem inlX4 : ∀ w ∈ wsX40, w ∈ wsL_law := fun _ h => List.mem_append_left _ (List.mem_append_left _ (List.mem_append_left _ (List.mem_append_left _ (List.mem_append_right _ h))))
theorem inX4 : ∀ w ∈ wsX40, w ∈ lw_tbl := fun w h => wsL_law_in w (inlX4 w h)
theorem inlX5 : ∀ w ∈ wsX50, w ∈ wsL_law := fun _ h => List.mem_append_left _ (List.mem_append_left _ (List.mem_append_right _ h))
theorem inX5 : ∀ w ∈ wsX50, w ∈ lw_tbl := fun w h => wsL_law_in w (inlX5 w h)
theorem inlX6 : ∀ w ∈ wsX60, w ∈ wsL_law := fun _ h => List.mem_append_left _ (List.mem_append_left _ (List.mem_append_left _ (List.mem_append_left _ (List.mem_append_left _ (List.mem_append_left _ (List.mem_append_left _ (List.mem_append_left _ (List.mem_append_left _ (List.mem_append_right _ h)))))))))
theorem inX6 : ∀ w ∈ wsX60, w ∈ lw_tbl := fun w h => wsL_law_in w (inlX6 w h)
theorem inlX7 : ∀ w ∈ wsX70, w ∈ wsL_law := fun _ h => List.mem_append_left _ (List.mem_append_left _ (List.mem_append_left _ (List.mem_append_right _ h)))
theorem inX7 : ∀ w ∈ wsX70, w ∈ lw_tbl := fun w h => wsL_law_in w (inlX7 w h)
theorem inlX8 : ∀ w ∈ wsX80, w ∈ wsL_law := fun _ h => List.mem_append_left _ (List.mem_append_left _ (List.mem_append_left _ (List.mem_append_left _ (List.mem_append_left _ (List.mem_append_left _ (List.mem_append_right _ h))))))
theorem inX8 : ∀ w ∈ wsX80, w ∈ lw_tbl := fun w h => wsL_law_in w (inlX8 w h)
theorem inlX9 : ∀ w ∈ wsX90, w ∈ wsL_law := fun _ h => List.mem_append_left _ (List.mem_append_left _ (List.mem_append_left _ (List.mem_append_left _ (List.mem_append_left _ (List.mem_append_left _ (List.mem_append_left _ (List.mem_append_left _ (List.mem_append_left _ (List.mem_append_left _ (List.mem_append_left _ (List.mem_append_right _ h)))))))))))
theorem inX9 : ∀ w ∈ wsX90, w ∈ lw_tbl := fun w h => wsL_law_in w (inlX9 w h)
theorem inlX10 : ∀ w ∈ wsX100, w ∈ wsL_law := fun _ h => List.mem_append_left _ (List.mem_append_left _ (List.mem_append_left _ (List.mem_append_left _ (List.mem_append_left _ (List.mem_append_left _ (List.mem_append_left _ (List.mem_append_left _ (List.mem_append_left _ (List.mem_append_left _ (List.mem_append_right _ h))))))))))
theorem inX10 : ∀ w ∈ wsX100, w ∈ lw_tbl := fun w h => wsL_law_in w (inlX10 w h)
theorem dX0_init_0 : decode cX0_init 0 = .ok (.aload_n 0, 1) := by decide +kernel
theorem dX0_init_1 : decode cX0_init 1 = .ok (.invokespecial 3, 3) := by decide +kernel
theorem dX0_init_4 : decode cX0_init 4 = .ok (.aload_n 0, 1) := by decide +kernel
theorem dX0_init_5 : decode cX0_init 5 = .ok (.bipush 30, 2) := by decide +kernel
theorem dX0_init_7 : decode cX0_init 7 = .ok (.newarray .int, 2) := by decide +kernel
theorem dX0_init_9 : decode cX0_init 9 = .ok (.putfield 9, 3) := by decide +kernel
theorem dX0_init_12 : decode cX0_init 12 = .ok (.aload_n 0, 1) := by decide +kernel
theorem dX0_init_13 : decode cX0_init 13 = .ok (.bipush 30, 2) := by decide +kernel
theorem dX0_init_15 : decode cX0_init 15 = .ok (.newarray .int, 2) := by decide +kernel
theorem dX0_init_17 : decode cX0_init 17 = .ok (.putfield 15, 3) := by decide +kernel
theorem dX0_init_20 : decode cX0_init 20 = .ok (.aload_n 0, 1) := by decide +kernel
theorem dX0_init_21 : decode cX0_init 21 = .ok (.bipush 6, 2) := by decide +kernel
theorem dX0_init_23 : decode cX0_init 23 = .ok (.newarray .int, 2) := by decide +kernel
theorem dX0_init_25 : decode cX0_init 25 = .ok (.putfield 18, 3) := by decide +kernel
theorem dX0_init_28 : decode cX0_init 28 = .ok (.return_, 1) := by decide +kernel
theorem dX0_measure_0 : decode cX0_measure 0 = .ok (.iconst 0, 1) := by decide +kernel
theorem dX0_measure_1 : decode cX0_measure 1 = .ok (.istore_n 3, 1) := by decide +kernel
theorem dX0_measure_2 : decode cX0_measure 2 = .ok (.iload_n 3, 1) := by decide +kernel
theorem dX0_measure_3 : decode cX0_measure 3 = .ok (.aload_n 1, 1) := by decide +kernel
theorem dX0_measure_4 : decode cX0_measure 4 = .ok (.getfield 21, 3) := by decide +kernel
theorem dX0_measure_7 : decode cX0_measure 7 = .ok (.if_icmp .ge 80, 3) := by decide +kernel
theorem dX0_measure_87 : decode cX0_measure 87 = .ok (.return_, 1) := by decide +kernel
theorem dX0_countLeaks_0 : decode cX0_countLeaks 0 = .ok (.iconst 0, 1) := by decide +kernel
theorem dX0_countLeaks_1 : decode cX0_countLeaks 1 = .ok (.istore_n 3, 1) := by decide +kernel
theorem dX0_countLeaks_2 : decode cX0_countLeaks 2 = .ok (.iconst 0, 1) := by decide +kernel
theorem dX0_countLeaks_3 : decode cX0_countLeaks 3 = .ok (.istore 4, 2) := by decide +kernel
theorem dX0_countLeaks_5 : decode cX0_countLeaks 5 = .ok (.iload 4, 2) := by decide +kernel
theorem dX0_countLeaks_7 : decode cX0_countLeaks 7 = .ok (.aload_n 1, 1) := by decide +kernel
theorem dX0_countLeaks_8 : decode cX0_countLeaks 8 = .ok (.getfield 21, 3) := by decide +kernel
theorem dX0_countLeaks_11 : decode cX0_countLeaks 11 = .ok (.if_icmp .ge 23, 3) := by decide +kernel
theorem dX0_countLeaks_34 : decode cX0_countLeaks 34 = .ok (.iload_n 3, 1) := by decide +kernel
theorem dX0_countLeaks_35 : decode cX0_countLeaks 35 = .ok (.ireturn, 1) := by decide +kernel
theorem dX0_firstLeak_0 : decode cX0_firstLeak 0 = .ok (.iconst 0, 1) := by decide +kernel
theorem dX0_firstLeak_1 : decode cX0_firstLeak 1 = .ok (.istore_n 3, 1) := by decide +kernel
theorem dX0_firstLeak_2 : decode cX0_firstLeak 2 = .ok (.iload_n 3, 1) := by decide +kernel
theorem dX0_firstLeak_3 : decode cX0_firstLeak 3 = .ok (.aload_n 1, 1) := by decide +kernel
theorem dX0_firstLeak_4 : decode cX0_firstLeak 4 = .ok (.getfield 21, 3) := by decide +kernel
theorem dX0_firstLeak_7 : decode cX0_firstLeak 7 = .ok (.if_icmp .ge 21, 3) := by decide +kernel
theorem dX0_firstLeak_28 : decode cX0_firstLeak 28 = .ok (.bipush (-9), 2) := by decide +kernel
theorem dX0_firstLeak_30 : decode cX0_firstLeak 30 = .ok (.ireturn, 1) := by decide +kernel
set_option maxRecDepth 20000 in
theorem ggX0_raise_X0_measure : GoodIn wsX0_raise wsX0_measure := goodIn_r _ [6, 7, 8, 9, 10, 11, 12, 13, 14, 5, 15, 32, 33, 34, 35, 36, 37, 29, 30, 31, 38, 39, 40, 41, 42, 43, 44, 45, 46] rfl (by decide +kernel)
set_option maxRecDepth 20000 in
theorem gX0_raise_X0_measure : GoodIn wsX0_raise (wsV RX0 57 RX0 yX0_measure wsX0_measure) := goodIn_app (goodIn_of _ (by decide +kernel)) ggX0_raise_X0_measure
set_option maxRecDepth 20000 in
theorem ggX0_raise_X0_raiseLeaking : GoodIn wsX0_raise wsX0_raiseLeaking := goodIn_r _ [19, 7, 8, 20, 1, 21, 11, 9, 22, 23, 24, 5, 25, 26, 27, 28, 32, 33, 34, 35, 36, 37, 38, 39, 40, 41, 42, 43, 44, 45, 46, 29, 30, 31] rfl (by decide +kernel)
set_option maxRecDepth 20000 in
theorem gX0_raise_X0_raiseLeaking : GoodIn wsX0_raise (wsV RX0 61 RX0 yX0_raiseLeaking wsX0_raiseLeaking) := goodIn_app (goodIn_of _ (by decide +kernel)) ggX0_raise_X0_raiseLeaking
theorem dX0_raise_0 : decode cX0_raise 0 = .ok (.iconst 0, 1) := by decide +kernel
theorem dX0_raise_1 : decode cX0_raise 1 = .ok (.istore 4, 2) := by decide +kernel
theorem dX0_raise_3 : decode cX0_raise 3 = .ok (.iload 4, 2) := by decide +kernel
theorem dX0_raise_5 : decode cX0_raise 5 = .ok (.bipush 6, 2) := by decide +kernel
theorem dX0_raise_7 : decode cX0_raise 7 = .ok (.if_icmp .ge 20, 3) := by decide +kernel
theorem dX0_raise_10 : decode cX0_raise 10 = .ok (.aload_n 0, 1) := by decide +kernel
theorem dX0_raise_11 : decode cX0_raise 11 = .ok (.getfield 18, 3) := by decide +kernel
theorem dX0_raise_14 : decode cX0_raise 14 = .ok (.iload 4, 2) := by decide +kernel
theorem dX0_raise_16 : decode cX0_raise 16 = .ok (.aload_n 2, 1) := by decide +kernel
theorem dX0_raise_17 : decode cX0_raise 17 = .ok (.iload 4, 2) := by decide +kernel
theorem dX0_raise_19 : decode cX0_raise 19 = .ok (.iaload, 1) := by decide +kernel
theorem dX0_raise_20 : decode cX0_raise 20 = .ok (.iastore, 1) := by decide +kernel
theorem dX0_raise_21 : decode cX0_raise 21 = .ok (.iinc 4 1, 3) := by decide +kernel
theorem dX0_raise_24 : decode cX0_raise 24 = .ok (.goto (-21), 3) := by decide +kernel
theorem dX0_raise_27 : decode cX0_raise 27 = .ok (.iconst 1, 1) := by decide +kernel
theorem dX0_raise_28 : decode cX0_raise 28 = .ok (.istore 4, 2) := by decide +kernel
theorem dX0_raise_30 : decode cX0_raise 30 = .ok (.iconst 0, 1) := by decide +kernel
theorem dX0_raise_31 : decode cX0_raise 31 = .ok (.istore 5, 2) := by decide +kernel
theorem dX0_raise_33 : decode cX0_raise 33 = .ok (.iload 5, 2) := by decide +kernel
theorem dX0_raise_35 : decode cX0_raise 35 = .ok (.bipush 13, 2) := by decide +kernel
theorem dX0_raise_37 : decode cX0_raise 37 = .ok (.if_icmp .ge 30, 3) := by decide +kernel
theorem dX0_raise_40 : decode cX0_raise 40 = .ok (.iload 4, 2) := by decide +kernel
theorem dX0_raise_42 : decode cX0_raise 42 = .ok (.ifCond .eq 25, 3) := by decide +kernel
theorem dX0_raise_45 : decode cX0_raise 45 = .ok (.aload_n 0, 1) := by decide +kernel
theorem dX0_raise_46 : decode cX0_raise 46 = .ok (.aload_n 1, 1) := by decide +kernel
theorem dX0_raise_47 : decode cX0_raise 47 = .ok (.aload_n 0, 1) := by decide +kernel
theorem dX0_raise_48 : decode cX0_raise 48 = .ok (.getfield 18, 3) := by decide +kernel
theorem dX0_raise_51 : decode cX0_raise 51 = .ok (.invokevirtual 57, 3) := by decide +kernel
theorem dX0_raise_54 : decode cX0_raise 54 = .ok (.aload_n 0, 1) := by decide +kernel
theorem dX0_raise_55 : decode cX0_raise 55 = .ok (.aload_n 1, 1) := by decide +kernel
theorem dX0_raise_56 : decode cX0_raise 56 = .ok (.invokevirtual 61, 3) := by decide +kernel
theorem dX0_raise_59 : decode cX0_raise 59 = .ok (.istore 4, 2) := by decide +kernel
theorem dX0_raise_61 : decode cX0_raise 61 = .ok (.iinc 5 1, 3) := by decide +kernel
theorem dX0_raise_64 : decode cX0_raise 64 = .ok (.goto (-31), 3) := by decide +kernel
theorem dX0_raise_67 : decode cX0_raise 67 = .ok (.aload_n 0, 1) := by decide +kernel
theorem dX0_raise_68 : decode cX0_raise 68 = .ok (.getfield 18, 3) := by decide +kernel
theorem dX0_raise_71 : decode cX0_raise 71 = .ok (.iload_n 3, 1) := by decide +kernel
theorem dX0_raise_72 : decode cX0_raise 72 = .ok (.iaload, 1) := by decide +kernel
theorem dX0_raise_73 : decode cX0_raise 73 = .ok (.ireturn, 1) := by decide +kernel
theorem dX0_raiseLeaking_0 : decode cX0_raiseLeaking 0 = .ok (.iconst 0, 1) := by decide +kernel
theorem dX0_raiseLeaking_1 : decode cX0_raiseLeaking 1 = .ok (.istore_n 2, 1) := by decide +kernel
theorem dX0_raiseLeaking_2 : decode cX0_raiseLeaking 2 = .ok (.iconst 0, 1) := by decide +kernel
theorem dX0_raiseLeaking_3 : decode cX0_raiseLeaking 3 = .ok (.istore_n 3, 1) := by decide +kernel
theorem dX0_raiseLeaking_4 : decode cX0_raiseLeaking 4 = .ok (.iload_n 3, 1) := by decide +kernel
theorem dX0_raiseLeaking_5 : decode cX0_raiseLeaking 5 = .ok (.aload_n 1, 1) := by decide +kernel
theorem dX0_raiseLeaking_6 : decode cX0_raiseLeaking 6 = .ok (.getfield 21, 3) := by decide +kernel
theorem dX0_raiseLeaking_9 : decode cX0_raiseLeaking 9 = .ok (.if_icmp .ge 66, 3) := by decide +kernel
theorem dX0_raiseLeaking_75 : decode cX0_raiseLeaking 75 = .ok (.iload_n 2, 1) := by decide +kernel
theorem dX0_raiseLeaking_76 : decode cX0_raiseLeaking 76 = .ok (.ireturn, 1) := by decide +kernel
theorem dX1_init_0 : decode cX1_init 0 = .ok (.aload_n 0, 1) := by decide +kernel
theorem dX1_init_1 : decode cX1_init 1 = .ok (.invokespecial 3, 3) := by decide +kernel
theorem dX1_init_4 : decode cX1_init 4 = .ok (.aload_n 0, 1) := by decide +kernel
theorem dX1_init_5 : decode cX1_init 5 = .ok (.sipush 4096, 3) := by decide +kernel
theorem dX1_init_8 : decode cX1_init 8 = .ok (.newarray .long, 2) := by decide +kernel
theorem dX1_init_10 : decode cX1_init 10 = .ok (.putfield 11, 3) := by decide +kernel
theorem dX1_init_13 : decode cX1_init 13 = .ok (.aload_n 0, 1) := by decide +kernel
theorem dX1_init_14 : decode cX1_init 14 = .ok (.sipush 4096, 3) := by decide +kernel
theorem dX1_init_17 : decode cX1_init 17 = .ok (.newarray .long, 2) := by decide +kernel
theorem dX1_init_19 : decode cX1_init 19 = .ok (.putfield 15, 3) := by decide +kernel
theorem dX1_init_22 : decode cX1_init 22 = .ok (.aload_n 0, 1) := by decide +kernel
theorem dX1_init_23 : decode cX1_init 23 = .ok (.sipush 4096, 3) := by decide +kernel
theorem dX1_init_26 : decode cX1_init 26 = .ok (.newarray .int, 2) := by decide +kernel
theorem dX1_init_28 : decode cX1_init 28 = .ok (.putfield 18, 3) := by decide +kernel
theorem dX1_init_31 : decode cX1_init 31 = .ok (.aload_n 0, 1) := by decide +kernel
theorem dX1_init_32 : decode cX1_init 32 = .ok (.sipush 8192, 3) := by decide +kernel
theorem dX1_init_35 : decode cX1_init 35 = .ok (.newarray .int, 2) := by decide +kernel
theorem dX1_init_37 : decode cX1_init 37 = .ok (.putfield 22, 3) := by decide +kernel
theorem dX1_init_40 : decode cX1_init 40 = .ok (.return_, 1) := by decide +kernel
theorem dX1_begin_0 : decode cX1_begin 0 = .ok (.iconst 2, 1) := by decide +kernel
theorem dX1_begin_1 : decode cX1_begin 1 = .ok (.iload_n 1, 1) := by decide +kernel
theorem dX1_begin_2 : decode cX1_begin 2 = .ok (.imul, 1) := by decide +kernel
theorem dX1_begin_3 : decode cX1_begin 3 = .ok (.aload_n 0, 1) := by decide +kernel
theorem dX1_begin_4 : decode cX1_begin 4 = .ok (.getfield 22, 3) := by decide +kernel
theorem dX1_begin_7 : decode cX1_begin 7 = .ok (.arraylength, 1) := by decide +kernel
theorem dX1_begin_8 : decode cX1_begin 8 = .ok (.invokestatic 25, 3) := by decide +kernel
theorem dX1_begin_11 : decode cX1_begin 11 = .ok (.istore_n 2, 1) := by decide +kernel
theorem dX1_begin_12 : decode cX1_begin 12 = .ok (.iconst 0, 1) := by decide +kernel
theorem dX1_begin_13 : decode cX1_begin 13 = .ok (.istore_n 3, 1) := by decide +kernel
theorem dX1_begin_14 : decode cX1_begin 14 = .ok (.iload_n 3, 1) := by decide +kernel
theorem dX1_begin_15 : decode cX1_begin 15 = .ok (.iload_n 2, 1) := by decide +kernel
theorem dX1_begin_16 : decode cX1_begin 16 = .ok (.if_icmp .ge 16, 3) := by decide +kernel
theorem dX1_begin_19 : decode cX1_begin 19 = .ok (.aload_n 0, 1) := by decide +kernel
theorem dX1_begin_20 : decode cX1_begin 20 = .ok (.getfield 22, 3) := by decide +kernel
theorem dX1_begin_23 : decode cX1_begin 23 = .ok (.iload_n 3, 1) := by decide +kernel
theorem dX1_begin_24 : decode cX1_begin 24 = .ok (.iconst 0, 1) := by decide +kernel
theorem dX1_begin_25 : decode cX1_begin 25 = .ok (.iastore, 1) := by decide +kernel
theorem dX1_begin_26 : decode cX1_begin 26 = .ok (.iinc 3 1, 3) := by decide +kernel
theorem dX1_begin_29 : decode cX1_begin 29 = .ok (.goto (-15), 3) := by decide +kernel
theorem dX1_begin_32 : decode cX1_begin 32 = .ok (.aload_n 0, 1) := by decide +kernel
theorem dX1_begin_33 : decode cX1_begin 33 = .ok (.iload_n 2, 1) := by decide +kernel
theorem dX1_begin_34 : decode cX1_begin 34 = .ok (.iconst 1, 1) := by decide +kernel
theorem dX1_begin_35 : decode cX1_begin 35 = .ok (.isub, 1) := by decide +kernel
theorem dX1_begin_36 : decode cX1_begin 36 = .ok (.putfield 31, 3) := by decide +kernel
theorem dX1_begin_39 : decode cX1_begin 39 = .ok (.aload_n 0, 1) := by decide +kernel
theorem dX1_begin_40 : decode cX1_begin 40 = .ok (.iconst 0, 1) := by decide +kernel
theorem dX1_begin_41 : decode cX1_begin 41 = .ok (.putfield 35, 3) := by decide +kernel
theorem dX1_begin_44 : decode cX1_begin 44 = .ok (.aload_n 0, 1) := by decide +kernel
theorem dX1_begin_45 : decode cX1_begin 45 = .ok (.iconst 0, 1) := by decide +kernel
theorem dX1_begin_46 : decode cX1_begin 46 = .ok (.putfield 38, 3) := by decide +kernel
theorem dX1_begin_49 : decode cX1_begin 49 = .ok (.return_, 1) := by decide +kernel
set_option maxRecDepth 20000 in
theorem ggX1_put_X1_open : GoodIn wsX1_put wsX1_open := goodIn_r _ [11, 12, 13, 14, 15, 16, 4, 5, 6, 17, 26, 27, 28, 29, 30, 31, 32] rfl (by decide +kernel)
set_option maxRecDepth 20000 in
theorem gX1_put_X1_open : GoodIn wsX1_put (wsV RX1 45 RX1 yX1_open wsX1_open) := goodIn_app (goodIn_of _ (by decide +kernel)) ggX1_put_X1_open
set_option maxRecDepth 20000 in
theorem ggX1_put_X1_grow : GoodIn wsX1_put wsX1_grow := goodIn_r _ [21, 17, 22, 23, 24, 15, 25, 26, 27, 28, 29, 30, 31, 32] rfl (by decide +kernel)
set_option maxRecDepth 20000 in
theorem gX1_put_X1_grow : GoodIn wsX1_put (wsV RX1 49 RX1 yX1_grow wsX1_grow) := goodIn_app (goodIn_of _ (by decide +kernel)) ggX1_put_X1_grow
theorem dX1_put_0 : decode cX1_put 0 = .ok (.lload_n 1, 1) := by decide +kernel
theorem dX1_put_1 : decode cX1_put 1 = .ok (.lload_n 1, 1) := by decide +kernel
theorem dX1_put_2 : decode cX1_put 2 = .ok (.bipush 32, 2) := by decide +kernel
theorem dX1_put_4 : decode cX1_put 4 = .ok (.lushr, 1) := by decide +kernel
theorem dX1_put_5 : decode cX1_put 5 = .ok (.lxor, 1) := by decide +kernel
theorem dX1_put_6 : decode cX1_put 6 = .ok (.ldc2_w 41, 3) := by decide +kernel
theorem dX1_put_9 : decode cX1_put 9 = .ok (.lmul, 1) := by decide +kernel
theorem dX1_put_10 : decode cX1_put 10 = .ok (.lload_n 3, 1) := by decide +kernel
theorem dX1_put_11 : decode cX1_put 11 = .ok (.lload_n 3, 1) := by decide +kernel
theorem dX1_put_12 : decode cX1_put 12 = .ok (.bipush 32, 2) := by decide +kernel
theorem dX1_put_14 : decode cX1_put 14 = .ok (.lushr, 1) := by decide +kernel
theorem dX1_put_15 : decode cX1_put 15 = .ok (.lxor, 1) := by decide +kernel
theorem dX1_put_16 : decode cX1_put 16 = .ok (.ldc2_w 43, 3) := by decide +kernel
theorem dX1_put_19 : decode cX1_put 19 = .ok (.lmul, 1) := by decide +kernel
theorem dX1_put_20 : decode cX1_put 20 = .ok (.ladd, 1) := by decide +kernel
theorem dX1_put_21 : decode cX1_put 21 = .ok (.lstore 5, 2) := by decide +kernel
theorem dX1_put_23 : decode cX1_put 23 = .ok (.lload 5, 2) := by decide +kernel
theorem dX1_put_25 : decode cX1_put 25 = .ok (.bipush 40, 2) := by decide +kernel
theorem dX1_put_27 : decode cX1_put 27 = .ok (.lushr, 1) := by decide +kernel
theorem dX1_put_28 : decode cX1_put 28 = .ok (.l2i, 1) := by decide +kernel
theorem dX1_put_29 : decode cX1_put 29 = .ok (.aload_n 0, 1) := by decide +kernel
theorem dX1_put_30 : decode cX1_put 30 = .ok (.getfield 31, 3) := by decide +kernel
theorem dX1_put_33 : decode cX1_put 33 = .ok (.iand, 1) := by decide +kernel
theorem dX1_put_34 : decode cX1_put 34 = .ok (.istore 7, 2) := by decide +kernel
theorem dX1_put_36 : decode cX1_put 36 = .ok (.iconst 0, 1) := by decide +kernel
theorem dX1_put_37 : decode cX1_put 37 = .ok (.istore 8, 2) := by decide +kernel
theorem dX1_put_39 : decode cX1_put 39 = .ok (.iload 8, 2) := by decide +kernel
theorem dX1_put_41 : decode cX1_put 41 = .ok (.aload_n 0, 1) := by decide +kernel
theorem dX1_put_42 : decode cX1_put 42 = .ok (.getfield 31, 3) := by decide +kernel
theorem dX1_put_45 : decode cX1_put 45 = .ok (.if_icmp .gt 77, 3) := by decide +kernel
theorem dX1_put_48 : decode cX1_put 48 = .ok (.aload_n 0, 1) := by decide +kernel
theorem dX1_put_49 : decode cX1_put 49 = .ok (.getfield 22, 3) := by decide +kernel
theorem dX1_put_52 : decode cX1_put 52 = .ok (.iload 7, 2) := by decide +kernel
theorem dX1_put_54 : decode cX1_put 54 = .ok (.iaload, 1) := by decide +kernel
theorem dX1_put_55 : decode cX1_put 55 = .ok (.iconst 1, 1) := by decide +kernel
theorem dX1_put_56 : decode cX1_put 56 = .ok (.isub, 1) := by decide +kernel
theorem dX1_put_57 : decode cX1_put 57 = .ok (.istore 9, 2) := by decide +kernel
theorem dX1_put_59 : decode cX1_put 59 = .ok (.iload 9, 2) := by decide +kernel
theorem dX1_put_61 : decode cX1_put 61 = .ok (.ifCond .ge 13, 3) := by decide +kernel
theorem dX1_put_64 : decode cX1_put 64 = .ok (.aload_n 0, 1) := by decide +kernel
theorem dX1_put_65 : decode cX1_put 65 = .ok (.iload 7, 2) := by decide +kernel
theorem dX1_put_67 : decode cX1_put 67 = .ok (.lload_n 1, 1) := by decide +kernel
theorem dX1_put_68 : decode cX1_put 68 = .ok (.lload_n 3, 1) := by decide +kernel
theorem dX1_put_69 : decode cX1_put 69 = .ok (.invokevirtual 45, 3) := by decide +kernel
theorem dX1_put_72 : decode cX1_put 72 = .ok (.istore 9, 2) := by decide +kernel
theorem dX1_put_74 : decode cX1_put 74 = .ok (.aload_n 0, 1) := by decide +kernel
theorem dX1_put_75 : decode cX1_put 75 = .ok (.getfield 11, 3) := by decide +kernel
theorem dX1_put_78 : decode cX1_put 78 = .ok (.iload 9, 2) := by decide +kernel
theorem dX1_put_80 : decode cX1_put 80 = .ok (.laload, 1) := by decide +kernel
theorem dX1_put_81 : decode cX1_put 81 = .ok (.lload_n 1, 1) := by decide +kernel
theorem dX1_put_82 : decode cX1_put 82 = .ok (.lcmp, 1) := by decide +kernel
theorem dX1_put_83 : decode cX1_put 83 = .ok (.ifCond .ne 22, 3) := by decide +kernel
theorem dX1_put_86 : decode cX1_put 86 = .ok (.aload_n 0, 1) := by decide +kernel
theorem dX1_put_87 : decode cX1_put 87 = .ok (.getfield 15, 3) := by decide +kernel
theorem dX1_put_90 : decode cX1_put 90 = .ok (.iload 9, 2) := by decide +kernel
theorem dX1_put_92 : decode cX1_put 92 = .ok (.laload, 1) := by decide +kernel
theorem dX1_put_93 : decode cX1_put 93 = .ok (.lload_n 3, 1) := by decide +kernel
theorem dX1_put_94 : decode cX1_put 94 = .ok (.lcmp, 1) := by decide +kernel
theorem dX1_put_95 : decode cX1_put 95 = .ok (.ifCond .ne 10, 3) := by decide +kernel
theorem dX1_put_98 : decode cX1_put 98 = .ok (.aload_n 0, 1) := by decide +kernel
theorem dX1_put_99 : decode cX1_put 99 = .ok (.iload 9, 2) := by decide +kernel
theorem dX1_put_101 : decode cX1_put 101 = .ok (.invokevirtual 49, 3) := by decide +kernel
theorem dX1_put_104 : decode cX1_put 104 = .ok (.return_, 1) := by decide +kernel
theorem dX1_open_0 : decode cX1_open 0 = .ok (.aload_n 0, 1) := by decide +kernel
theorem dX1_open_1 : decode cX1_open 1 = .ok (.getfield 35, 3) := by decide +kernel
theorem dX1_open_4 : decode cX1_open 4 = .ok (.sipush 4095, 3) := by decide +kernel
theorem dX1_open_7 : decode cX1_open 7 = .ok (.invokestatic 25, 3) := by decide +kernel
theorem dX1_open_10 : decode cX1_open 10 = .ok (.istore 6, 2) := by decide +kernel
theorem dX1_open_12 : decode cX1_open 12 = .ok (.aload_n 0, 1) := by decide +kernel
theorem dX1_open_13 : decode cX1_open 13 = .ok (.iload 6, 2) := by decide +kernel
theorem dX1_open_15 : decode cX1_open 15 = .ok (.iconst 1, 1) := by decide +kernel
theorem dX1_open_16 : decode cX1_open 16 = .ok (.iadd, 1) := by decide +kernel
theorem dX1_open_17 : decode cX1_open 17 = .ok (.putfield 35, 3) := by decide +kernel
theorem dX1_open_20 : decode cX1_open 20 = .ok (.aload_n 0, 1) := by decide +kernel
theorem dX1_open_21 : decode cX1_open 21 = .ok (.getfield 22, 3) := by decide +kernel
theorem dX1_open_24 : decode cX1_open 24 = .ok (.iload_n 1, 1) := by decide +kernel
theorem dX1_open_25 : decode cX1_open 25 = .ok (.aload_n 0, 1) := by decide +kernel
theorem dX1_open_26 : decode cX1_open 26 = .ok (.getfield 35, 3) := by decide +kernel
theorem dX1_open_29 : decode cX1_open 29 = .ok (.iastore, 1) := by decide +kernel
theorem dX1_open_30 : decode cX1_open 30 = .ok (.aload_n 0, 1) := by decide +kernel
theorem dX1_open_31 : decode cX1_open 31 = .ok (.getfield 11, 3) := by decide +kernel
theorem dX1_open_34 : decode cX1_open 34 = .ok (.iload 6, 2) := by decide +kernel
theorem dX1_open_36 : decode cX1_open 36 = .ok (.lload_n 2, 1) := by decide +kernel
theorem dX1_open_37 : decode cX1_open 37 = .ok (.lastore, 1) := by decide +kernel
theorem dX1_open_38 : decode cX1_open 38 = .ok (.aload_n 0, 1) := by decide +kernel
theorem dX1_open_39 : decode cX1_open 39 = .ok (.getfield 15, 3) := by decide +kernel
theorem dX1_open_42 : decode cX1_open 42 = .ok (.iload 6, 2) := by decide +kernel
theorem dX1_open_44 : decode cX1_open 44 = .ok (.lload 4, 2) := by decide +kernel
theorem dX1_open_46 : decode cX1_open 46 = .ok (.lastore, 1) := by decide +kernel
theorem dX1_open_47 : decode cX1_open 47 = .ok (.aload_n 0, 1) := by decide +kernel
theorem dX1_open_48 : decode cX1_open 48 = .ok (.getfield 18, 3) := by decide +kernel
theorem dX1_open_51 : decode cX1_open 51 = .ok (.iload 6, 2) := by decide +kernel
theorem dX1_open_53 : decode cX1_open 53 = .ok (.iconst 0, 1) := by decide +kernel
theorem dX1_open_54 : decode cX1_open 54 = .ok (.iastore, 1) := by decide +kernel
theorem dX1_open_55 : decode cX1_open 55 = .ok (.iload 6, 2) := by decide +kernel
theorem dX1_open_57 : decode cX1_open 57 = .ok (.ireturn, 1) := by decide +kernel
theorem dX1_grow_0 : decode cX1_grow 0 = .ok (.aload_n 0, 1) := by decide +kernel
theorem dX1_grow_1 : decode cX1_grow 1 = .ok (.getfield 18, 3) := by decide +kernel
theorem dX1_grow_4 : decode cX1_grow 4 = .ok (.iload_n 1, 1) := by decide +kernel
theorem dX1_grow_5 : decode cX1_grow 5 = .ok (.dup2, 1) := by decide +kernel
theorem dX1_grow_6 : decode cX1_grow 6 = .ok (.iaload, 1) := by decide +kernel
theorem dX1_grow_7 : decode cX1_grow 7 = .ok (.iconst 1, 1) := by decide +kernel
theorem dX1_grow_8 : decode cX1_grow 8 = .ok (.iadd, 1) := by decide +kernel
theorem dX1_grow_9 : decode cX1_grow 9 = .ok (.iastore, 1) := by decide +kernel
theorem dX1_grow_10 : decode cX1_grow 10 = .ok (.aload_n 0, 1) := by decide +kernel
theorem dX1_grow_11 : decode cX1_grow 11 = .ok (.aload_n 0, 1) := by decide +kernel
theorem dX1_grow_12 : decode cX1_grow 12 = .ok (.getfield 38, 3) := by decide +kernel
theorem dX1_grow_15 : decode cX1_grow 15 = .ok (.aload_n 0, 1) := by decide +kernel
theorem dX1_grow_16 : decode cX1_grow 16 = .ok (.getfield 18, 3) := by decide +kernel
theorem dX1_grow_19 : decode cX1_grow 19 = .ok (.iload_n 1, 1) := by decide +kernel
theorem dX1_grow_20 : decode cX1_grow 20 = .ok (.iaload, 1) := by decide +kernel
theorem dX1_grow_21 : decode cX1_grow 21 = .ok (.invokestatic 53, 3) := by decide +kernel
theorem dX1_grow_24 : decode cX1_grow 24 = .ok (.putfield 38, 3) := by decide +kernel
theorem dX1_grow_27 : decode cX1_grow 27 = .ok (.return_, 1) := by decide +kernel
theorem dX2_init_0 : decode cX2_init 0 = .ok (.aload_n 0, 1) := by decide +kernel
theorem dX2_init_1 : decode cX2_init 1 = .ok (.invokespecial 3, 3) := by decide +kernel
theorem dX2_init_4 : decode cX2_init 4 = .ok (.aload_n 0, 1) := by decide +kernel
theorem dX2_init_5 : decode cX2_init 5 = .ok (.bipush 20, 2) := by decide +kernel
theorem dX2_init_7 : decode cX2_init 7 = .ok (.newarray .int, 2) := by decide +kernel
theorem dX2_init_9 : decode cX2_init 9 = .ok (.putfield 9, 3) := by decide +kernel
theorem dX2_init_12 : decode cX2_init 12 = .ok (.aload_n 0, 1) := by decide +kernel
theorem dX2_init_13 : decode cX2_init 13 = .ok (.bipush 20, 2) := by decide +kernel
theorem dX2_init_15 : decode cX2_init 15 = .ok (.newarray .int, 2) := by decide +kernel
theorem dX2_init_17 : decode cX2_init 17 = .ok (.putfield 15, 3) := by decide +kernel
theorem dX2_init_20 : decode cX2_init 20 = .ok (.return_, 1) := by decide +kernel
set_option maxRecDepth 20000 in
theorem ggX2_execute_X2_doStatements : GoodIn wsX2_execute wsX2_doStatements := goodIn_r _ [9, 2, 10, 11, 12, 13, 14, 15, 16, 17, 18, 19, 20, 21, 22, 8, 23, 24, 25, 26, 1, 27, 28, 29, 30, 31, 32, 33, 34, 35, 36, 3, 37, 38, 5, 6, 7, 39, 40, 41, 42, 43, 44, 45, 46, 47, 48, 49, 50, 51, 52, 53, 54, 55, 56, 57, 58] rfl (by decide +kernel)
set_option maxRecDepth 20000 in
theorem gX2_execute_X2_doStatements : GoodIn wsX2_execute (wsV RX2 33 RX2 yX2_doStatements wsX2_doStatements) := goodIn_app (goodIn_of _ (by decide +kernel)) ggX2_execute_X2_doStatements
theorem dX2_execute_0 : decode cX2_execute 0 = .ok (.aload_n 0, 1) := by decide +kernel
theorem dX2_execute_1 : decode cX2_execute 1 = .ok (.iload_n 2, 1) := by decide +kernel
theorem dX2_execute_2 : decode cX2_execute 2 = .ok (.putfield 18, 3) := by decide +kernel
theorem dX2_execute_5 : decode cX2_execute 5 = .ok (.aload_n 0, 1) := by decide +kernel
theorem dX2_execute_6 : decode cX2_execute 6 = .ok (.iconst 0, 1) := by decide +kernel
theorem dX2_execute_7 : decode cX2_execute 7 = .ok (.putfield 22, 3) := by decide +kernel
theorem dX2_execute_10 : decode cX2_execute 10 = .ok (.aload_n 0, 1) := by decide +kernel
theorem dX2_execute_11 : decode cX2_execute 11 = .ok (.iconst 0, 1) := by decide +kernel
theorem dX2_execute_12 : decode cX2_execute 12 = .ok (.putfield 25, 3) := by decide +kernel
theorem dX2_execute_15 : decode cX2_execute 15 = .ok (.aload_n 0, 1) := by decide +kernel
theorem dX2_execute_16 : decode cX2_execute 16 = .ok (.aload_n 1, 1) := by decide +kernel
theorem dX2_execute_17 : decode cX2_execute 17 = .ok (.iconst 0, 1) := by decide +kernel
theorem dX2_execute_18 : decode cX2_execute 18 = .ok (.aload_n 1, 1) := by decide +kernel
theorem dX2_execute_19 : decode cX2_execute 19 = .ok (.getfield 28, 3) := by decide +kernel
theorem dX2_execute_22 : decode cX2_execute 22 = .ok (.iload_n 3, 1) := by decide +kernel
theorem dX2_execute_23 : decode cX2_execute 23 = .ok (.iconst 0, 1) := by decide +kernel
theorem dX2_execute_24 : decode cX2_execute 24 = .ok (.invokevirtual 33, 3) := by decide +kernel
theorem dX2_execute_27 : decode cX2_execute 27 = .ok (.return_, 1) := by decide +kernel
theorem dX2_kept_0 : decode cX2_kept 0 = .ok (.aload_n 0, 1) := by decide +kernel
theorem dX2_kept_1 : decode cX2_kept 1 = .ok (.getfield 25, 3) := by decide +kernel
theorem dX2_kept_4 : decode cX2_kept 4 = .ok (.bipush 20, 2) := by decide +kernel
theorem dX2_kept_6 : decode cX2_kept 6 = .ok (.invokestatic 37, 3) := by decide +kernel
theorem dX2_kept_9 : decode cX2_kept 9 = .ok (.ireturn, 1) := by decide +kernel
theorem dX2_doStatements_0 : decode cX2_doStatements 0 = .ok (.iload 5, 2) := by decide +kernel
theorem dX2_doStatements_2 : decode cX2_doStatements 2 = .ok (.bipush 6, 2) := by decide +kernel
theorem dX2_doStatements_4 : decode cX2_doStatements 4 = .ok (.if_icmp .le 4, 3) := by decide +kernel
theorem dX2_doStatements_8 : decode cX2_doStatements 8 = .ok (.iload_n 2, 1) := by decide +kernel
theorem dX2_doStatements_9 : decode cX2_doStatements 9 = .ok (.istore 6, 2) := by decide +kernel
theorem dX2_doStatements_11 : decode cX2_doStatements 11 = .ok (.iload 6, 2) := by decide +kernel
theorem dX2_doStatements_13 : decode cX2_doStatements 13 = .ok (.iload_n 3, 1) := by decide +kernel
theorem dX2_doStatements_14 : decode cX2_doStatements 14 = .ok (.if_icmp .ge 245, 3) := by decide +kernel
theorem dX2_doStatements_259 : decode cX2_doStatements 259 = .ok (.return_, 1) := by decide +kernel
set_option maxRecDepth 20000 in
theorem ggX3_init_X7_init : GoodIn wsX3_init wsX7_init := goodIn_r _ [13, 14, 2, 3, 15, 16, 17, 18, 31, 32, 33, 34, 35, 36, 37, 38] rfl (by decide +kernel)
set_option maxRecDepth 20000 in
theorem gX3_init_X7_init_n11 : GoodIn wsX3_init (wsX7_init) := ggX3_init_X7_init
set_option maxRecDepth 20000 in
theorem ggX3_init_X4_init : GoodIn wsX3_init wsX4_init := goodIn_r _ [21, 22, 2, 3, 23, 24, 15, 25, 26, 27, 28, 29, 30, 43, 44, 45, 46, 47, 48, 49, 50, 51, 52, 53, 54, 55, 56, 57] rfl (by decide +kernel)
set_option maxRecDepth 20000 in
theorem gX3_init_X4_init : GoodIn wsX3_init (wsX4_init) := ggX3_init_X4_init
theorem dX3_init_0 : decode cX3_init 0 = .ok (.aload_n 0, 1) := by decide +kernel
theorem dX3_init_1 : decode cX3_init 1 = .ok (.invokespecial 3, 3) := by decide +kernel
theorem dX3_init_4 : decode cX3_init 4 = .ok (.aload_n 0, 1) := by decide +kernel
theorem dX3_init_5 : decode cX3_init 5 = .ok (.new 9, 3) := by decide +kernel
theorem dX3_init_8 : decode cX3_init 8 = .ok (.dup, 1) := by decide +kernel
theorem dX3_init_9 : decode cX3_init 9 = .ok (.invokespecial 11, 3) := by decide +kernel
theorem dX3_init_12 : decode cX3_init 12 = .ok (.putfield 12, 3) := by decide +kernel
theorem dX3_init_15 : decode cX3_init 15 = .ok (.aload_n 0, 1) := by decide +kernel
theorem dX3_init_16 : decode cX3_init 16 = .ok (.new 18, 3) := by decide +kernel
theorem dX3_init_19 : decode cX3_init 19 = .ok (.dup, 1) := by decide +kernel
theorem dX3_init_20 : decode cX3_init 20 = .ok (.invokespecial 20, 3) := by decide +kernel
theorem dX3_init_23 : decode cX3_init 23 = .ok (.putfield 21, 3) := by decide +kernel
theorem dX3_init_26 : decode cX3_init 26 = .ok (.return_, 1) := by decide +kernel
set_option maxRecDepth 20000 in
theorem ggX3_parse_X4_reset : GoodIn wsX3_parse wsX4_reset := goodIn_r _ [9, 10, 11, 12, 13, 272, 273, 274, 275, 276, 277] rfl (by decide +kernel)
set_option maxRecDepth 20000 in
theorem gX3_parse_X4_reset : GoodIn wsX3_parse (wsV RX3 25 RX4 yX4_reset wsX4_reset) := goodIn_app (goodIn_of _ (by decide +kernel)) ggX3_parse_X4_reset
set_option maxRecDepth 20000 in
theorem ggX3_parse_X7_cut : GoodIn wsX3_parse wsX7_cut := goodIn_r _ [18, 19, 20, 21, 22, 23, 24, 25, 26, 27, 28, 29, 30, 31, 32, 33, 34, 17, 35, 36, 37, 38, 39, 40, 41, 42, 43, 44, 45, 46, 47, 48, 49, 50, 51, 52, 53, 54, 55, 56, 57, 58, 59, 60, 61, 62, 63, 64, 65, 66, 67, 68, 69, 70, 71, 72, 73, 74, 75, 76, 77, 78, 79, 80, 81, 82, 83, 84, 85, 86, 87, 88, 89, 90, 91, 92, 93, 94, 95, 96, 97, 98, 99, 100, 101, 102, 103, 104, 105, 106, 107, 108, 109, 110, 111, 112, 113, 114, 115, 116, 117, 118, 119, 120, 121, 122, 123, 124, 125, 126, 127, 128, 129, 130, 131, 132, 133, 134, 135, 136, 137, 138, 139, 140, 141, 142, 143, 144, 145, 146, 147, 148, 149, 264, 265, 266, 267, 268, 269, 270, 271, 278, 279] rfl (by decide +kernel)
set_option maxRecDepth 20000 in
theorem gX3_parse_X7_cut : GoodIn wsX3_parse (wsV RX3 28 RX7 yX7_cut wsX7_cut) := goodIn_app (goodIn_of _ (by decide +kernel)) ggX3_parse_X7_cut
set_option maxRecDepth 20000 in
theorem ggX3_parse_X3_takeStatements : GoodIn wsX3_parse wsX3_takeStatements := goodIn_r _ [154, 1, 155, 156, 157, 153, 158, 2, 3, 159, 160, 161, 8, 162, 10, 163, 164, 165, 166, 167, 168, 169, 170, 171, 144, 145, 17, 146, 25, 19, 44, 147, 45, 148, 46, 149, 150, 151, 152, 172, 173, 174, 175, 176, 177, 178, 179, 180, 181, 182, 183, 184, 185, 186, 187, 188, 189, 190, 191, 192, 193, 194, 195, 196, 11, 197, 198, 199, 200, 201, 202, 203, 204, 205, 206, 207, 208, 209, 210, 211, 212, 213, 214, 215, 216, 217, 218, 219, 220, 221, 222, 223, 224, 225, 226, 227, 228, 87, 23, 88, 229, 230, 231, 232, 233, 234, 235, 236, 237, 238, 239, 240, 241, 242, 243, 244, 245, 246, 247, 248, 249, 250, 251, 252, 253, 254, 255, 256, 257, 258, 259, 260, 261, 262, 263, 264, 265, 266, 267, 268, 269, 270, 271, 280, 281, 282, 283, 284, 285, 286, 287, 288, 272, 273, 274, 275, 276, 277] rfl (by decide +kernel)
set_option maxRecDepth 20000 in
theorem gX3_parse_X3_takeStatements : GoodIn wsX3_parse (wsV RX3 32 RX3 yX3_takeStatements wsX3_takeStatements) := goodIn_app (goodIn_of _ (by decide +kernel)) ggX3_parse_X3_takeStatements
theorem dX3_parse_0 : decode cX3_parse 0 = .ok (.aload_n 0, 1) := by decide +kernel
theorem dX3_parse_1 : decode cX3_parse 1 = .ok (.getfield 21, 3) := by decide +kernel
theorem dX3_parse_4 : decode cX3_parse 4 = .ok (.invokevirtual 25, 3) := by decide +kernel
theorem dX3_parse_7 : decode cX3_parse 7 = .ok (.aload_n 0, 1) := by decide +kernel
theorem dX3_parse_8 : decode cX3_parse 8 = .ok (.getfield 12, 3) := by decide +kernel
theorem dX3_parse_11 : decode cX3_parse 11 = .ok (.aload_n 1, 1) := by decide +kernel
theorem dX3_parse_12 : decode cX3_parse 12 = .ok (.invokevirtual 28, 3) := by decide +kernel
theorem dX3_parse_15 : decode cX3_parse 15 = .ok (.aload_n 0, 1) := by decide +kernel
theorem dX3_parse_16 : decode cX3_parse 16 = .ok (.iconst (-1), 1) := by decide +kernel
theorem dX3_parse_17 : decode cX3_parse 17 = .ok (.iconst 0, 1) := by decide +kernel
theorem dX3_parse_18 : decode cX3_parse 18 = .ok (.invokevirtual 32, 3) := by decide +kernel
theorem dX3_parse_21 : decode cX3_parse 21 = .ok (.ifCond .eq 17, 3) := by decide +kernel
theorem dX3_parse_24 : decode cX3_parse 24 = .ok (.aload_n 0, 1) := by decide +kernel
theorem dX3_parse_25 : decode cX3_parse 25 = .ok (.getfield 12, 3) := by decide +kernel
theorem dX3_parse_28 : decode cX3_parse 28 = .ok (.getfield 36, 3) := by decide +kernel
theorem dX3_parse_31 : decode cX3_parse 31 = .ok (.ifCond .ne 7, 3) := by decide +kernel
theorem dX3_parse_34 : decode cX3_parse 34 = .ok (.iconst 1, 1) := by decide +kernel
theorem dX3_parse_35 : decode cX3_parse 35 = .ok (.goto 4, 3) := by decide +kernel
theorem dX3_parse_39 : decode cX3_parse 39 = .ok (.istore_n 2, 1) := by decide +kernel
theorem dX3_parse_40 : decode cX3_parse 40 = .ok (.iload_n 2, 1) := by decide +kernel
theorem dX3_parse_41 : decode cX3_parse 41 = .ok (.ifCond .eq 7, 3) := by decide +kernel
theorem dX3_parse_44 : decode cX3_parse 44 = .ok (.iconst (-1), 1) := by decide +kernel
theorem dX3_parse_45 : decode cX3_parse 45 = .ok (.goto 10, 3) := by decide +kernel
theorem dX3_parse_55 : decode cX3_parse 55 = .ok (.ireturn, 1) := by decide +kernel
theorem dX3_exchange_0 : decode cX3_exchange 0 = .ok (.aload_n 0, 1) := by decide +kernel
theorem dX3_exchange_1 : decode cX3_exchange 1 = .ok (.getfield 21, 3) := by decide +kernel
theorem dX3_exchange_4 : decode cX3_exchange 4 = .ok (.astore_n 2, 1) := by decide +kernel
theorem dX3_exchange_5 : decode cX3_exchange 5 = .ok (.aload_n 0, 1) := by decide +kernel
theorem dX3_exchange_6 : decode cX3_exchange 6 = .ok (.aload_n 1, 1) := by decide +kernel
theorem dX3_exchange_7 : decode cX3_exchange 7 = .ok (.putfield 21, 3) := by decide +kernel
theorem dX3_exchange_10 : decode cX3_exchange 10 = .ok (.aload_n 2, 1) := by decide +kernel
theorem dX3_exchange_11 : decode cX3_exchange 11 = .ok (.areturn, 1) := by decide +kernel
theorem dX3_beginsStatement_0 : decode cX3_beginsStatement 0 = .ok (.aload_n 0, 1) := by decide +kernel
theorem dX3_beginsStatement_1 : decode cX3_beginsStatement 1 = .ok (.getfield 12, 3) := by decide +kernel
theorem dX3_beginsStatement_4 : decode cX3_beginsStatement 4 = .ok (.getfield 36, 3) := by decide +kernel
theorem dX3_beginsStatement_7 : decode cX3_beginsStatement 7 = .ok (.istore_n 1, 1) := by decide +kernel
theorem dX3_beginsStatement_8 : decode cX3_beginsStatement 8 = .ok (.iload_n 1, 1) := by decide +kernel
theorem dX3_beginsStatement_9 : decode cX3_beginsStatement 9 = .ok (.iconst 2, 1) := by decide +kernel
theorem dX3_beginsStatement_10 : decode cX3_beginsStatement 10 = .ok (.if_icmp .eq 19, 3) := by decide +kernel
theorem dX3_beginsStatement_13 : decode cX3_beginsStatement 13 = .ok (.iload_n 1, 1) := by decide +kernel
theorem dX3_beginsStatement_14 : decode cX3_beginsStatement 14 = .ok (.iconst 4, 1) := by decide +kernel
theorem dX3_beginsStatement_15 : decode cX3_beginsStatement 15 = .ok (.if_icmp .eq 14, 3) := by decide +kernel
theorem dX3_beginsStatement_18 : decode cX3_beginsStatement 18 = .ok (.iload_n 1, 1) := by decide +kernel
theorem dX3_beginsStatement_19 : decode cX3_beginsStatement 19 = .ok (.iconst 5, 1) := by decide +kernel
theorem dX3_beginsStatement_20 : decode cX3_beginsStatement 20 = .ok (.if_icmp .eq 9, 3) := by decide +kernel
theorem dX3_beginsStatement_23 : decode cX3_beginsStatement 23 = .ok (.iload_n 1, 1) := by decide +kernel
theorem dX3_beginsStatement_24 : decode cX3_beginsStatement 24 = .ok (.bipush 7, 2) := by decide +kernel
theorem dX3_beginsStatement_26 : decode cX3_beginsStatement 26 = .ok (.if_icmp .ne 7, 3) := by decide +kernel
theorem dX3_beginsStatement_33 : decode cX3_beginsStatement 33 = .ok (.iconst 0, 1) := by decide +kernel
theorem dX3_beginsStatement_34 : decode cX3_beginsStatement 34 = .ok (.ireturn, 1) := by decide +kernel
set_option maxRecDepth 20000 in
theorem ggX3_takeStatements_X3_beginsStatement : GoodIn wsX3_takeStatements wsX3_beginsStatement := goodIn_r _ [6, 7, 8, 131, 132, 133, 134, 135, 136, 137, 138, 139, 140, 141, 142] rfl (by decide +kernel)
set_option maxRecDepth 20000 in
theorem gX3_takeStatements_X3_beginsStatement : GoodIn wsX3_takeStatements (wsV RX3 46 RX3 yX3_beginsStatement wsX3_beginsStatement) := goodIn_app (goodIn_of _ (by decide +kernel)) ggX3_takeStatements_X3_beginsStatement
theorem dX3_takeStatements_0 : decode cX3_takeStatements 0 = .ok (.iconst 0, 1) := by decide +kernel
theorem dX3_takeStatements_1 : decode cX3_takeStatements 1 = .ok (.istore_n 3, 1) := by decide +kernel
theorem dX3_takeStatements_2 : decode cX3_takeStatements 2 = .ok (.iload_n 3, 1) := by decide +kernel
theorem dX3_takeStatements_3 : decode cX3_takeStatements 3 = .ok (.bipush 30, 2) := by decide +kernel
theorem dX3_takeStatements_5 : decode cX3_takeStatements 5 = .ok (.if_icmp .gt 37, 3) := by decide +kernel
theorem dX3_takeStatements_8 : decode cX3_takeStatements 8 = .ok (.aload_n 0, 1) := by decide +kernel
theorem dX3_takeStatements_9 : decode cX3_takeStatements 9 = .ok (.invokevirtual 46, 3) := by decide +kernel
theorem dX3_takeStatements_12 : decode cX3_takeStatements 12 = .ok (.ifCond .eq 30, 3) := by decide +kernel
theorem dX3_takeStatements_42 : decode cX3_takeStatements 42 = .ok (.iconst 1, 1) := by decide +kernel
theorem dX3_takeStatements_43 : decode cX3_takeStatements 43 = .ok (.ireturn, 1) := by decide +kernel
set_option maxRecDepth 20000 in
theorem ggX4_init_X5_init : GoodIn wsX4_init wsX5_init := goodIn_r _ [11, 12, 2, 3] rfl (by decide +kernel)
set_option maxRecDepth 20000 in
theorem gX4_init_X5_init_n21 : GoodIn wsX4_init (wsX5_init) := ggX4_init_X5_init
theorem dX4_init_0 : decode cX4_init 0 = .ok (.aload_n 0, 1) := by decide +kernel
theorem dX4_init_1 : decode cX4_init 1 = .ok (.invokespecial 3, 3) := by decide +kernel
theorem dX4_init_4 : decode cX4_init 4 = .ok (.aload_n 0, 1) := by decide +kernel
theorem dX4_init_5 : decode cX4_init 5 = .ok (.bipush 30, 2) := by decide +kernel
theorem dX4_init_7 : decode cX4_init 7 = .ok (.anewarray 9, 3) := by decide +kernel
theorem dX4_init_10 : decode cX4_init 10 = .ok (.putfield 11, 3) := by decide +kernel
theorem dX4_init_13 : decode cX4_init 13 = .ok (.aload_n 0, 1) := by decide +kernel
theorem dX4_init_14 : decode cX4_init 14 = .ok (.sipush 300, 3) := by decide +kernel
theorem dX4_init_17 : decode cX4_init 17 = .ok (.newarray .int, 2) := by decide +kernel
theorem dX4_init_19 : decode cX4_init 19 = .ok (.putfield 17, 3) := by decide +kernel
theorem dX4_init_22 : decode cX4_init 22 = .ok (.iconst 0, 1) := by decide +kernel
theorem dX4_init_23 : decode cX4_init 23 = .ok (.istore_n 1, 1) := by decide +kernel
theorem dX4_init_24 : decode cX4_init 24 = .ok (.iload_n 1, 1) := by decide +kernel
theorem dX4_init_25 : decode cX4_init 25 = .ok (.bipush 30, 2) := by decide +kernel
theorem dX4_init_27 : decode cX4_init 27 = .ok (.if_icmp .ge 22, 3) := by decide +kernel
theorem dX4_init_30 : decode cX4_init 30 = .ok (.aload_n 0, 1) := by decide +kernel
theorem dX4_init_31 : decode cX4_init 31 = .ok (.getfield 11, 3) := by decide +kernel
theorem dX4_init_34 : decode cX4_init 34 = .ok (.iload_n 1, 1) := by decide +kernel
theorem dX4_init_35 : decode cX4_init 35 = .ok (.new 9, 3) := by decide +kernel
theorem dX4_init_38 : decode cX4_init 38 = .ok (.dup, 1) := by decide +kernel
theorem dX4_init_39 : decode cX4_init 39 = .ok (.invokespecial 21, 3) := by decide +kernel
theorem dX4_init_42 : decode cX4_init 42 = .ok (.aastore, 1) := by decide +kernel
theorem dX4_init_43 : decode cX4_init 43 = .ok (.iinc 1 1, 3) := by decide +kernel
theorem dX4_init_46 : decode cX4_init 46 = .ok (.goto (-22), 3) := by decide +kernel
theorem dX4_init_49 : decode cX4_init 49 = .ok (.return_, 1) := by decide +kernel
theorem dX4_reset_0 : decode cX4_reset 0 = .ok (.aload_n 0, 1) := by decide +kernel
theorem dX4_reset_1 : decode cX4_reset 1 = .ok (.iconst 0, 1) := by decide +kernel
theorem dX4_reset_2 : decode cX4_reset 2 = .ok (.putfield 22, 3) := by decide +kernel
theorem dX4_reset_5 : decode cX4_reset 5 = .ok (.aload_n 0, 1) := by decide +kernel
theorem dX4_reset_6 : decode cX4_reset 6 = .ok (.iconst 0, 1) := by decide +kernel
theorem dX4_reset_7 : decode cX4_reset 7 = .ok (.putfield 26, 3) := by decide +kernel
theorem dX4_reset_10 : decode cX4_reset 10 = .ok (.aload_n 0, 1) := by decide +kernel
theorem dX4_reset_11 : decode cX4_reset 11 = .ok (.iconst 0, 1) := by decide +kernel
theorem dX4_reset_12 : decode cX4_reset 12 = .ok (.putfield 29, 3) := by decide +kernel
theorem dX4_reset_15 : decode cX4_reset 15 = .ok (.aload_n 0, 1) := by decide +kernel
theorem dX4_reset_16 : decode cX4_reset 16 = .ok (.iconst 0, 1) := by decide +kernel
theorem dX4_reset_17 : decode cX4_reset 17 = .ok (.putfield 32, 3) := by decide +kernel
theorem dX4_reset_20 : decode cX4_reset 20 = .ok (.return_, 1) := by decide +kernel
theorem dX5_init_0 : decode cX5_init 0 = .ok (.aload_n 0, 1) := by decide +kernel
theorem dX5_init_1 : decode cX5_init 1 = .ok (.invokespecial 1, 3) := by decide +kernel
theorem dX5_init_4 : decode cX5_init 4 = .ok (.return_, 1) := by decide +kernel
theorem dX6_init_0 : decode cX6_init 0 = .ok (.aload_n 0, 1) := by decide +kernel
theorem dX6_init_1 : decode cX6_init 1 = .ok (.invokespecial 3, 3) := by decide +kernel
theorem dX6_init_4 : decode cX6_init 4 = .ok (.aload_n 0, 1) := by decide +kernel
theorem dX6_init_5 : decode cX6_init 5 = .ok (.sipush 300, 3) := by decide +kernel
theorem dX6_init_8 : decode cX6_init 8 = .ok (.newarray .int, 2) := by decide +kernel
theorem dX6_init_10 : decode cX6_init 10 = .ok (.putfield 9, 3) := by decide +kernel
theorem dX6_init_13 : decode cX6_init 13 = .ok (.return_, 1) := by decide +kernel
theorem dX6_append_0 : decode cX6_append 0 = .ok (.aload_n 0, 1) := by decide +kernel
theorem dX6_append_1 : decode cX6_append 1 = .ok (.getfield 15, 3) := by decide +kernel
theorem dX6_append_4 : decode cX6_append 4 = .ok (.aload_n 0, 1) := by decide +kernel
theorem dX6_append_5 : decode cX6_append 5 = .ok (.getfield 9, 3) := by decide +kernel
theorem dX6_append_8 : decode cX6_append 8 = .ok (.arraylength, 1) := by decide +kernel
theorem dX6_append_9 : decode cX6_append 9 = .ok (.if_icmp .ge 20, 3) := by decide +kernel
theorem dX6_append_12 : decode cX6_append 12 = .ok (.aload_n 0, 1) := by decide +kernel
theorem dX6_append_13 : decode cX6_append 13 = .ok (.getfield 9, 3) := by decide +kernel
theorem dX6_append_16 : decode cX6_append 16 = .ok (.aload_n 0, 1) := by decide +kernel
theorem dX6_append_17 : decode cX6_append 17 = .ok (.dup, 1) := by decide +kernel
theorem dX6_append_18 : decode cX6_append 18 = .ok (.getfield 15, 3) := by decide +kernel
theorem dX6_append_21 : decode cX6_append 21 = .ok (.dup_x1, 1) := by decide +kernel
theorem dX6_append_22 : decode cX6_append 22 = .ok (.iconst 1, 1) := by decide +kernel
theorem dX6_append_23 : decode cX6_append 23 = .ok (.iadd, 1) := by decide +kernel
theorem dX6_append_24 : decode cX6_append 24 = .ok (.putfield 15, 3) := by decide +kernel
theorem dX6_append_27 : decode cX6_append 27 = .ok (.iload_n 1, 1) := by decide +kernel
theorem dX6_append_28 : decode cX6_append 28 = .ok (.iastore, 1) := by decide +kernel
theorem dX6_append_29 : decode cX6_append 29 = .ok (.return_, 1) := by decide +kernel
theorem dX7_init_0 : decode cX7_init 0 = .ok (.aload_n 0, 1) := by decide +kernel
theorem dX7_init_1 : decode cX7_init 1 = .ok (.invokespecial 3, 3) := by decide +kernel
theorem dX7_init_4 : decode cX7_init 4 = .ok (.aload_n 0, 1) := by decide +kernel
theorem dX7_init_5 : decode cX7_init 5 = .ok (.sipush 301, 3) := by decide +kernel
theorem dX7_init_8 : decode cX7_init 8 = .ok (.newarray .int, 2) := by decide +kernel
theorem dX7_init_10 : decode cX7_init 10 = .ok (.putfield 9, 3) := by decide +kernel
theorem dX7_init_13 : decode cX7_init 13 = .ok (.aload_n 0, 1) := by decide +kernel
theorem dX7_init_14 : decode cX7_init 14 = .ok (.sipush 301, 3) := by decide +kernel
theorem dX7_init_17 : decode cX7_init 17 = .ok (.newarray .int, 2) := by decide +kernel
theorem dX7_init_19 : decode cX7_init 19 = .ok (.putfield 15, 3) := by decide +kernel
theorem dX7_init_22 : decode cX7_init 22 = .ok (.aload_n 0, 1) := by decide +kernel
theorem dX7_init_23 : decode cX7_init 23 = .ok (.sipush 301, 3) := by decide +kernel
theorem dX7_init_26 : decode cX7_init 26 = .ok (.newarray .int, 2) := by decide +kernel
theorem dX7_init_28 : decode cX7_init 28 = .ok (.putfield 18, 3) := by decide +kernel
theorem dX7_init_31 : decode cX7_init 31 = .ok (.return_, 1) := by decide +kernel
set_option maxRecDepth 20000 in
theorem ggX7_cut_X7_add : GoodIn wsX7_cut wsX7_add := goodIn_r _ [26, 1, 27, 28, 29, 133, 134, 135, 136, 137, 138, 139, 140] rfl (by decide +kernel)
set_option maxRecDepth 20000 in
theorem gX7_cut_X7_add : GoodIn wsX7_cut (wsV RX7 55 RX7 yX7_add wsX7_add) := goodIn_app (goodIn_of _ (by decide +kernel)) ggX7_cut_X7_add
set_option maxRecDepth 20000 in
theorem ggX7_cut_X7_advance : GoodIn wsX7_cut wsX7_advance := goodIn_r _ [129, 7, 1, 27, 130, 28, 131, 29, 132, 133, 134, 135, 136, 137, 138, 139, 140] rfl (by decide +kernel)
set_option maxRecDepth 20000 in
theorem gX7_cut_X7_advance : GoodIn wsX7_cut (wsV RX7 67 RX7 yX7_advance wsX7_advance) := goodIn_app (goodIn_of _ (by decide +kernel)) ggX7_cut_X7_advance
theorem dX7_cut_0 : decode cX7_cut 0 = .ok (.aload_n 0, 1) := by decide +kernel
theorem dX7_cut_1 : decode cX7_cut 1 = .ok (.iconst 0, 1) := by decide +kernel
theorem dX7_cut_2 : decode cX7_cut 2 = .ok (.putfield 21, 3) := by decide +kernel
theorem dX7_cut_5 : decode cX7_cut 5 = .ok (.iconst 0, 1) := by decide +kernel
theorem dX7_cut_6 : decode cX7_cut 6 = .ok (.istore_n 2, 1) := by decide +kernel
theorem dX7_cut_7 : decode cX7_cut 7 = .ok (.iload_n 2, 1) := by decide +kernel
theorem dX7_cut_8 : decode cX7_cut 8 = .ok (.aload_n 1, 1) := by decide +kernel
theorem dX7_cut_9 : decode cX7_cut 9 = .ok (.getfield 25, 3) := by decide +kernel
theorem dX7_cut_12 : decode cX7_cut 12 = .ok (.if_icmp .ge 89, 3) := by decide +kernel
theorem dX7_cut_101 : decode cX7_cut 101 = .ok (.aload_n 0, 1) := by decide +kernel
theorem dX7_cut_102 : decode cX7_cut 102 = .ok (.iconst 0, 1) := by decide +kernel
theorem dX7_cut_103 : decode cX7_cut 103 = .ok (.iconst 0, 1) := by decide +kernel
theorem dX7_cut_104 : decode cX7_cut 104 = .ok (.aload_n 1, 1) := by decide +kernel
theorem dX7_cut_105 : decode cX7_cut 105 = .ok (.getfield 25, 3) := by decide +kernel
theorem dX7_cut_108 : decode cX7_cut 108 = .ok (.invokevirtual 55, 3) := by decide +kernel
theorem dX7_cut_111 : decode cX7_cut 111 = .ok (.aload_n 0, 1) := by decide +kernel
theorem dX7_cut_112 : decode cX7_cut 112 = .ok (.iconst (-1), 1) := by decide +kernel
theorem dX7_cut_113 : decode cX7_cut 113 = .ok (.putfield 65, 3) := by decide +kernel
theorem dX7_cut_116 : decode cX7_cut 116 = .ok (.aload_n 0, 1) := by decide +kernel
theorem dX7_cut_117 : decode cX7_cut 117 = .ok (.invokevirtual 67, 3) := by decide +kernel
theorem dX7_cut_120 : decode cX7_cut 120 = .ok (.return_, 1) := by decide +kernel
