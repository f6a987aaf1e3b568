theorem dX10_init_0 : decode cX10_init 0 = .ok (.aload_n 0, 1) := by decide +kernel
theorem dX10_init_1 : decode cX10_init 1 = .ok (.invokespecial 1, 3) := by decide +kernel
theorem dX10_init_4 : decode cX10_init 4 = .ok (.aload_n 0, 1) := by decide +kernel
theorem dX10_init_5 : decode cX10_init 5 = .ok (.bipush 6, 2) := by decide +kernel
theorem dX10_init_7 : decode cX10_init 7 = .ok (.newarray .int, 2) := by decide +kernel
theorem dX10_init_9 : decode cX10_init 9 = .ok (.putfield 7, 3) := by decide +kernel
theorem dX10_init_12 : decode cX10_init 12 = .ok (.aload_n 0, 1) := by decide +kernel
theorem dX10_init_13 : decode cX10_init 13 = .ok (.sipush 300, 3) := by decide +kernel
theorem dX10_init_16 : decode cX10_init 16 = .ok (.newarray .int, 2) := by decide +kernel
theorem dX10_init_18 : decode cX10_init 18 = .ok (.putfield 13, 3) := by decide +kernel
theorem dX10_init_21 : decode cX10_init 21 = .ok (.aload_n 0, 1) := by decide +kernel
theorem dX10_init_22 : decode cX10_init 22 = .ok (.sipush 480, 3) := by decide +kernel
theorem dX10_init_25 : decode cX10_init 25 = .ok (.newarray .int, 2) := by decide +kernel
theorem dX10_init_27 : decode cX10_init 27 = .ok (.putfield 16, 3) := by decide +kernel
theorem dX10_init_30 : decode cX10_init 30 = .ok (.aload_n 0, 1) := by decide +kernel
theorem dX10_init_31 : decode cX10_init 31 = .ok (.sipush 600, 3) := by decide +kernel
theorem dX10_init_34 : decode cX10_init 34 = .ok (.newarray .int, 2) := by decide +kernel
theorem dX10_init_36 : decode cX10_init 36 = .ok (.putfield 19, 3) := by decide +kernel
theorem dX10_init_39 : decode cX10_init 39 = .ok (.aload_n 0, 1) := by decide +kernel
theorem dX10_init_40 : decode cX10_init 40 = .ok (.bipush 80, 2) := by decide +kernel
theorem dX10_init_42 : decode cX10_init 42 = .ok (.newarray .int, 2) := by decide +kernel
theorem dX10_init_44 : decode cX10_init 44 = .ok (.putfield 22, 3) := by decide +kernel
theorem dX10_init_47 : decode cX10_init 47 = .ok (.aload_n 0, 1) := by decide +kernel
theorem dX10_init_48 : decode cX10_init 48 = .ok (.bipush 80, 2) := by decide +kernel
theorem dX10_init_50 : decode cX10_init 50 = .ok (.newarray .int, 2) := by decide +kernel
theorem dX10_init_52 : decode cX10_init 52 = .ok (.putfield 25, 3) := by decide +kernel
theorem dX10_init_55 : decode cX10_init 55 = .ok (.aload_n 0, 1) := by decide +kernel
theorem dX10_init_56 : decode cX10_init 56 = .ok (.bipush 8, 2) := by decide +kernel
theorem dX10_init_58 : decode cX10_init 58 = .ok (.newarray .int, 2) := by decide +kernel
theorem dX10_init_60 : decode cX10_init 60 = .ok (.putfield 28, 3) := by decide +kernel
theorem dX10_init_63 : decode cX10_init 63 = .ok (.aload_n 0, 1) := by decide +kernel
theorem dX10_init_64 : decode cX10_init 64 = .ok (.bipush 8, 2) := by decide +kernel
theorem dX10_init_66 : decode cX10_init 66 = .ok (.newarray .int, 2) := by decide +kernel
theorem dX10_init_68 : decode cX10_init 68 = .ok (.putfield 31, 3) := by decide +kernel
theorem dX10_init_71 : decode cX10_init 71 = .ok (.aload_n 0, 1) := by decide +kernel
theorem dX10_init_72 : decode cX10_init 72 = .ok (.bipush 8, 2) := by decide +kernel
theorem dX10_init_74 : decode cX10_init 74 = .ok (.newarray .int, 2) := by decide +kernel
theorem dX10_init_76 : decode cX10_init 76 = .ok (.putfield 34, 3) := by decide +kernel
theorem dX10_init_79 : decode cX10_init 79 = .ok (.aload_n 0, 1) := by decide +kernel
theorem dX10_init_80 : decode cX10_init 80 = .ok (.bipush 8, 2) := by decide +kernel
theorem dX10_init_82 : decode cX10_init 82 = .ok (.newarray .int, 2) := by decide +kernel
theorem dX10_init_84 : decode cX10_init 84 = .ok (.putfield 37, 3) := by decide +kernel
theorem dX10_init_87 : decode cX10_init 87 = .ok (.aload_n 0, 1) := by decide +kernel
theorem dX10_init_88 : decode cX10_init 88 = .ok (.bipush 8, 2) := by decide +kernel
theorem dX10_init_90 : decode cX10_init 90 = .ok (.newarray .int, 2) := by decide +kernel
theorem dX10_init_92 : decode cX10_init 92 = .ok (.putfield 40, 3) := by decide +kernel
theorem dX10_init_95 : decode cX10_init 95 = .ok (.aload_n 0, 1) := by decide +kernel
theorem dX10_init_96 : decode cX10_init 96 = .ok (.bipush 6, 2) := by decide +kernel
theorem dX10_init_98 : decode cX10_init 98 = .ok (.newarray .int, 2) := by decide +kernel
theorem dX10_init_100 : decode cX10_init 100 = .ok (.putfield 43, 3) := by decide +kernel
theorem dX10_init_103 : decode cX10_init 103 = .ok (.aload_n 0, 1) := by decide +kernel
theorem dX10_init_104 : decode cX10_init 104 = .ok (.bipush 20, 2) := by decide +kernel
theorem dX10_init_106 : decode cX10_init 106 = .ok (.newarray .int, 2) := by decide +kernel
theorem dX10_init_108 : decode cX10_init 108 = .ok (.putfield 46, 3) := by decide +kernel
theorem dX10_init_111 : decode cX10_init 111 = .ok (.aload_n 0, 1) := by decide +kernel
theorem dX10_init_112 : decode cX10_init 112 = .ok (.bipush 20, 2) := by decide +kernel
theorem dX10_init_114 : decode cX10_init 114 = .ok (.newarray .int, 2) := by decide +kernel
theorem dX10_init_116 : decode cX10_init 116 = .ok (.putfield 49, 3) := by decide +kernel
theorem dX10_init_119 : decode cX10_init 119 = .ok (.aload_n 0, 1) := by decide +kernel
theorem dX10_init_120 : decode cX10_init 120 = .ok (.bipush 20, 2) := by decide +kernel
theorem dX10_init_122 : decode cX10_init 122 = .ok (.newarray .int, 2) := by decide +kernel
theorem dX10_init_124 : decode cX10_init 124 = .ok (.putfield 52, 3) := by decide +kernel
theorem dX10_init_127 : decode cX10_init 127 = .ok (.aload_n 0, 1) := by decide +kernel
theorem dX10_init_128 : decode cX10_init 128 = .ok (.bipush 20, 2) := by decide +kernel
theorem dX10_init_130 : decode cX10_init 130 = .ok (.newarray .int, 2) := by decide +kernel
theorem dX10_init_132 : decode cX10_init 132 = .ok (.putfield 55, 3) := by decide +kernel
theorem dX10_init_135 : decode cX10_init 135 = .ok (.aload_n 0, 1) := by decide +kernel
theorem dX10_init_136 : decode cX10_init 136 = .ok (.sipush 24576, 3) := by decide +kernel
theorem dX10_init_139 : decode cX10_init 139 = .ok (.newarray .long, 2) := by decide +kernel
theorem dX10_init_141 : decode cX10_init 141 = .ok (.putfield 58, 3) := by decide +kernel
theorem dX10_init_144 : decode cX10_init 144 = .ok (.aload_n 0, 1) := by decide +kernel
theorem dX10_init_145 : decode cX10_init 145 = .ok (.sipush 4096, 3) := by decide +kernel
theorem dX10_init_148 : decode cX10_init 148 = .ok (.newarray .int, 2) := by decide +kernel
theorem dX10_init_150 : decode cX10_init 150 = .ok (.putfield 62, 3) := by decide +kernel
theorem dX10_init_153 : decode cX10_init 153 = .ok (.aload_n 0, 1) := by decide +kernel
theorem dX10_init_154 : decode cX10_init 154 = .ok (.sipush 4096, 3) := by decide +kernel
theorem dX10_init_157 : decode cX10_init 157 = .ok (.newarray .int, 2) := by decide +kernel
theorem dX10_init_159 : decode cX10_init 159 = .ok (.putfield 65, 3) := by decide +kernel
theorem dX10_init_162 : decode cX10_init 162 = .ok (.aload_n 0, 1) := by decide +kernel
theorem dX10_init_163 : decode cX10_init 163 = .ok (.sipush 8192, 3) := by decide +kernel
theorem dX10_init_166 : decode cX10_init 166 = .ok (.newarray .int, 2) := by decide +kernel
theorem dX10_init_168 : decode cX10_init 168 = .ok (.putfield 68, 3) := by decide +kernel
theorem dX10_init_171 : decode cX10_init 171 = .ok (.aload_n 0, 1) := by decide +kernel
theorem dX10_init_172 : decode cX10_init 172 = .ok (.sipush 4096, 3) := by decide +kernel
theorem dX10_init_175 : decode cX10_init 175 = .ok (.newarray .int, 2) := by decide +kernel
theorem dX10_init_177 : decode cX10_init 177 = .ok (.putfield 71, 3) := by decide +kernel
theorem dX10_init_180 : decode cX10_init 180 = .ok (.aload_n 0, 1) := by decide +kernel
theorem dX10_init_181 : decode cX10_init 181 = .ok (.bipush 6, 2) := by decide +kernel
theorem dX10_init_183 : decode cX10_init 183 = .ok (.newarray .long, 2) := by decide +kernel
theorem dX10_init_185 : decode cX10_init 185 = .ok (.putfield 74, 3) := by decide +kernel
theorem dX10_init_188 : decode cX10_init 188 = .ok (.aload_n 0, 1) := by decide +kernel
theorem dX10_init_189 : decode cX10_init 189 = .ok (.bipush 6, 2) := by decide +kernel
theorem dX10_init_191 : decode cX10_init 191 = .ok (.newarray .int, 2) := by decide +kernel
theorem dX10_init_193 : decode cX10_init 193 = .ok (.putfield 77, 3) := by decide +kernel
theorem dX10_init_196 : decode cX10_init 196 = .ok (.return_, 1) := by decide +kernel
theorem dX10_in_0 : decode cX10_in 0 = .ok (.iload_n 0, 1) := by decide +kernel
theorem dX10_in_1 : decode cX10_in 1 = .ok (.iload_n 1, 1) := by decide +kernel
theorem dX10_in_2 : decode cX10_in 2 = .ok (.if_icmp .lt 12, 3) := by decide +kernel
theorem dX10_in_5 : decode cX10_in 5 = .ok (.iload_n 0, 1) := by decide +kernel
theorem dX10_in_6 : decode cX10_in 6 = .ok (.iload_n 2, 1) := by decide +kernel
theorem dX10_in_7 : decode cX10_in 7 = .ok (.if_icmp .gt 7, 3) := by decide +kernel
theorem dX10_in_10 : decode cX10_in 10 = .ok (.iconst 1, 1) := by decide +kernel
theorem dX10_in_11 : decode cX10_in 11 = .ok (.goto 4, 3) := by decide +kernel
theorem dX10_in_14 : decode cX10_in 14 = .ok (.iconst 0, 1) := by decide +kernel
theorem dX10_in_15 : decode cX10_in 15 = .ok (.ireturn, 1) := by decide +kernel
theorem dX10_isWithin_0 : decode cX10_isWithin 0 = .ok (.iload_n 0, 1) := by decide +kernel
theorem dX10_isWithin_1 : decode cX10_isWithin 1 = .ok (.iload_n 1, 1) := by decide +kernel
theorem dX10_isWithin_2 : decode cX10_isWithin 2 = .ok (.iconst (-1), 1) := by decide +kernel
theorem dX10_isWithin_3 : decode cX10_isWithin 3 = .ok (.ixor, 1) := by decide +kernel
theorem dX10_isWithin_4 : decode cX10_isWithin 4 = .ok (.iand, 1) := by decide +kernel
theorem dX10_isWithin_5 : decode cX10_isWithin 5 = .ok (.ifCond .ne 7, 3) := by decide +kernel
theorem dX10_isWithin_8 : decode cX10_isWithin 8 = .ok (.iconst 1, 1) := by decide +kernel
theorem dX10_isWithin_9 : decode cX10_isWithin 9 = .ok (.goto 4, 3) := by decide +kernel
theorem dX10_isWithin_12 : decode cX10_isWithin 12 = .ok (.iconst 0, 1) := by decide +kernel
theorem dX10_isWithin_13 : decode cX10_isWithin 13 = .ok (.ireturn, 1) := by decide +kernel
theorem chIwsX10_level_0 : ∀ w ∈ ([.code yX10_level cX10_level 4 (some .int)] : List Cond), w ∈ wsX10_level := fun _ h => (List.mem_cons.mpr (Or.inl (List.mem_singleton.mp h)))
theorem chIwsX10_level_1 : ∀ w ∈ ([.fieldLink RX10 80 "WatchedProgramsModel" "thrown" "I", .fieldLink RX10 7 "WatchedProgramsModel" "level" "[I", .methodLink RX10 84 yX10_in, .static yX10_in, .initialized RX10, .code yX10_in cX10_in 3 (some .boolean)] : List Cond), w ∈ wsX10_level := fun _ h => (List.mem_cons_of_mem _ (List.mem_append_left _ h))
theorem chIwsX10_level_2 : ∀ w ∈ (wsX100 : List Cond), w ∈ wsX10_level := fun _ h => (List.mem_cons_of_mem _ (List.mem_append_right _ h))
def chwsX10_level : Nat → List Cond
  | 0 => [.code yX10_level cX10_level 4 (some .int)]
  | 1 => [.fieldLink RX10 80 "WatchedProgramsModel" "thrown" "I", .fieldLink RX10 7 "WatchedProgramsModel" "level" "[I", .methodLink RX10 84 yX10_in, .static yX10_in, .initialized RX10, .code yX10_in cX10_in 3 (some .boolean)]
  | 2 => wsX100
  | _ => []
theorem chwsX10_level_in : ∀ (j : Nat) (w : Cond), w ∈ chwsX10_level j → w ∈ wsX10_level
  | 0, w, h => chIwsX10_level_0 w h
  | 1, w, h => chIwsX10_level_1 w h
  | 2, w, h => chIwsX10_level_2 w h
  | _ + 3, _, h => absurd h List.not_mem_nil
set_option maxRecDepth 20000 in
theorem ggX10_level_X10_in : GoodIn wsX10_level wsX10_in := goodIn_r2 chwsX10_level chwsX10_level_in _ [(1, 5)] rfl (by decide +kernel)
set_option maxRecDepth 20000 in
theorem gX10_level_X10_in : GoodIn wsX10_level (va_wsS RX10 84 yX10_in wsX10_in) := goodIn_app (goodIn_r2 chwsX10_level chwsX10_level_in _ [(1, 2), (1, 3), (1, 4)] rfl (by decide +kernel)) ggX10_level_X10_in
theorem dX10_level_0 : decode cX10_level 0 = .ok (.aload_n 0, 1) := by decide +kernel
theorem dX10_level_1 : decode cX10_level 1 = .ok (.iconst 0, 1) := by decide +kernel
theorem dX10_level_2 : decode cX10_level 2 = .ok (.putfield 80, 3) := by decide +kernel
theorem dX10_level_5 : decode cX10_level 5 = .ok (.iload_n 1, 1) := by decide +kernel
theorem dX10_level_6 : decode cX10_level 6 = .ok (.iconst 0, 1) := by decide +kernel
theorem dX10_level_7 : decode cX10_level 7 = .ok (.iconst 5, 1) := by decide +kernel
theorem dX10_level_8 : decode cX10_level 8 = .ok (.invokestatic 84, 3) := by decide +kernel
theorem dX10_level_11 : decode cX10_level 11 = .ok (.ifCond .eq 12, 3) := by decide +kernel
theorem dX10_level_14 : decode cX10_level 14 = .ok (.iload_n 2, 1) := by decide +kernel
theorem dX10_level_15 : decode cX10_level 15 = .ok (.iconst 0, 1) := by decide +kernel
theorem dX10_level_16 : decode cX10_level 16 = .ok (.iconst 3, 1) := by decide +kernel
theorem dX10_level_17 : decode cX10_level 17 = .ok (.invokestatic 84, 3) := by decide +kernel
theorem dX10_level_20 : decode cX10_level 20 = .ok (.ifCond .ne 5, 3) := by decide +kernel
theorem dX10_level_23 : decode cX10_level 23 = .ok (.iconst (-1), 1) := by decide +kernel
theorem dX10_level_24 : decode cX10_level 24 = .ok (.ireturn, 1) := by decide +kernel
theorem dX10_level_25 : decode cX10_level 25 = .ok (.aload_n 0, 1) := by decide +kernel
theorem dX10_level_26 : decode cX10_level 26 = .ok (.getfield 7, 3) := by decide +kernel
theorem dX10_level_29 : decode cX10_level 29 = .ok (.iload_n 1, 1) := by decide +kernel
theorem dX10_level_30 : decode cX10_level 30 = .ok (.iaload, 1) := by decide +kernel
theorem dX10_level_31 : decode cX10_level 31 = .ok (.istore_n 3, 1) := by decide +kernel
theorem dX10_level_32 : decode cX10_level 32 = .ok (.aload_n 0, 1) := by decide +kernel
theorem dX10_level_33 : decode cX10_level 33 = .ok (.getfield 7, 3) := by decide +kernel
theorem dX10_level_36 : decode cX10_level 36 = .ok (.iload_n 1, 1) := by decide +kernel
theorem dX10_level_37 : decode cX10_level 37 = .ok (.iload_n 2, 1) := by decide +kernel
theorem dX10_level_38 : decode cX10_level 38 = .ok (.iastore, 1) := by decide +kernel
theorem dX10_level_39 : decode cX10_level 39 = .ok (.iload_n 3, 1) := by decide +kernel
theorem dX10_level_40 : decode cX10_level 40 = .ok (.ireturn, 1) := by decide +kernel
theorem chIwsX10_type_0 : ∀ w ∈ ([.code yX10_type cX10_type 5 (some .int)] : List Cond), w ∈ wsX10_type := fun _ h => (List.mem_cons.mpr (Or.inl (List.mem_singleton.mp h)))
theorem chIwsX10_type_1 : ∀ w ∈ ([.fieldLink RX10 80 "WatchedProgramsModel" "thrown" "I", .fieldLink RX10 88 "WatchedProgramsModel" "typed" "I", .fieldLink RX10 13 "WatchedProgramsModel" "text" "[I", .constantLong RX10 91 (255), .methodLink RX10 84 yX10_in, .static yX10_in, .initialized RX10, .code yX10_in cX10_in 3 (some .boolean)] : List Cond), w ∈ wsX10_type := fun _ h => (List.mem_cons_of_mem _ (List.mem_append_left _ h))
theorem chIwsX10_type_2 : ∀ w ∈ (wsX100 : List Cond), w ∈ wsX10_type := fun _ h => (List.mem_cons_of_mem _ (List.mem_append_right _ h))
def chwsX10_type : Nat → List Cond
  | 0 => [.code yX10_type cX10_type 5 (some .int)]
  | 1 => [.fieldLink RX10 80 "WatchedProgramsModel" "thrown" "I", .fieldLink RX10 88 "WatchedProgramsModel" "typed" "I", .fieldLink RX10 13 "WatchedProgramsModel" "text" "[I", .constantLong RX10 91 (255), .methodLink RX10 84 yX10_in, .static yX10_in, .initialized RX10, .code yX10_in cX10_in 3 (some .boolean)]
  | 2 => wsX100
  | _ => []
theorem chwsX10_type_in : ∀ (j : Nat) (w : Cond), w ∈ chwsX10_type j → w ∈ wsX10_type
  | 0, w, h => chIwsX10_type_0 w h
  | 1, w, h => chIwsX10_type_1 w h
  | 2, w, h => chIwsX10_type_2 w h
  | _ + 3, _, h => absurd h List.not_mem_nil
set_option maxRecDepth 20000 in
theorem ggX10_type_X10_in : GoodIn wsX10_type wsX10_in := goodIn_r2 chwsX10_type chwsX10_type_in _ [(1, 7)] rfl (by decide +kernel)
set_option maxRecDepth 20000 in
theorem gX10_type_X10_in : GoodIn wsX10_type (va_wsS RX10 84 yX10_in wsX10_in) := goodIn_app (goodIn_r2 chwsX10_type chwsX10_type_in _ [(1, 4), (1, 5), (1, 6)] rfl (by decide +kernel)) ggX10_type_X10_in
theorem dX10_type_0 : decode cX10_type 0 = .ok (.aload_n 0, 1) := by decide +kernel
theorem dX10_type_1 : decode cX10_type 1 = .ok (.iconst 0, 1) := by decide +kernel
theorem dX10_type_2 : decode cX10_type 2 = .ok (.putfield 80, 3) := by decide +kernel
theorem dX10_type_5 : decode cX10_type 5 = .ok (.iload_n 3, 1) := by decide +kernel
theorem dX10_type_6 : decode cX10_type 6 = .ok (.iconst 1, 1) := by decide +kernel
theorem dX10_type_7 : decode cX10_type 7 = .ok (.bipush 8, 2) := by decide +kernel
theorem dX10_type_9 : decode cX10_type 9 = .ok (.invokestatic 84, 3) := by decide +kernel
theorem dX10_type_12 : decode cX10_type 12 = .ok (.ifCond .ne 5, 3) := by decide +kernel
theorem dX10_type_15 : decode cX10_type 15 = .ok (.iconst (-1), 1) := by decide +kernel
theorem dX10_type_16 : decode cX10_type 16 = .ok (.ireturn, 1) := by decide +kernel
theorem dX10_type_17 : decode cX10_type 17 = .ok (.aload_n 0, 1) := by decide +kernel
theorem dX10_type_18 : decode cX10_type 18 = .ok (.getfield 88, 3) := by decide +kernel
theorem dX10_type_21 : decode cX10_type 21 = .ok (.iload_n 3, 1) := by decide +kernel
theorem dX10_type_22 : decode cX10_type 22 = .ok (.iadd, 1) := by decide +kernel
theorem dX10_type_23 : decode cX10_type 23 = .ok (.sipush 300, 3) := by decide +kernel
theorem dX10_type_26 : decode cX10_type 26 = .ok (.if_icmp .le 6, 3) := by decide +kernel
theorem dX10_type_29 : decode cX10_type 29 = .ok (.bipush (-3), 2) := by decide +kernel
theorem dX10_type_31 : decode cX10_type 31 = .ok (.ireturn, 1) := by decide +kernel
theorem dX10_type_32 : decode cX10_type 32 = .ok (.iload_n 3, 1) := by decide +kernel
theorem dX10_type_33 : decode cX10_type 33 = .ok (.iconst 1, 1) := by decide +kernel
theorem dX10_type_34 : decode cX10_type 34 = .ok (.isub, 1) := by decide +kernel
theorem dX10_type_35 : decode cX10_type 35 = .ok (.istore 4, 2) := by decide +kernel
theorem dX10_type_37 : decode cX10_type 37 = .ok (.iload 4, 2) := by decide +kernel
theorem dX10_type_39 : decode cX10_type 39 = .ok (.ifCond .lt 40, 3) := by decide +kernel
theorem dX10_type_42 : decode cX10_type 42 = .ok (.aload_n 0, 1) := by decide +kernel
theorem dX10_type_43 : decode cX10_type 43 = .ok (.getfield 13, 3) := by decide +kernel
theorem dX10_type_46 : decode cX10_type 46 = .ok (.aload_n 0, 1) := by decide +kernel
theorem dX10_type_47 : decode cX10_type 47 = .ok (.getfield 88, 3) := by decide +kernel
theorem dX10_type_50 : decode cX10_type 50 = .ok (.lload_n 1, 1) := by decide +kernel
theorem dX10_type_51 : decode cX10_type 51 = .ok (.bipush 8, 2) := by decide +kernel
theorem dX10_type_53 : decode cX10_type 53 = .ok (.iload 4, 2) := by decide +kernel
theorem dX10_type_55 : decode cX10_type 55 = .ok (.imul, 1) := by decide +kernel
theorem dX10_type_56 : decode cX10_type 56 = .ok (.lshr, 1) := by decide +kernel
theorem dX10_type_57 : decode cX10_type 57 = .ok (.ldc2_w 91, 3) := by decide +kernel
theorem dX10_type_60 : decode cX10_type 60 = .ok (.land, 1) := by decide +kernel
theorem dX10_type_61 : decode cX10_type 61 = .ok (.l2i, 1) := by decide +kernel
theorem dX10_type_62 : decode cX10_type 62 = .ok (.iastore, 1) := by decide +kernel
theorem dX10_type_63 : decode cX10_type 63 = .ok (.aload_n 0, 1) := by decide +kernel
theorem dX10_type_64 : decode cX10_type 64 = .ok (.dup, 1) := by decide +kernel
theorem dX10_type_65 : decode cX10_type 65 = .ok (.getfield 88, 3) := by decide +kernel
theorem dX10_type_68 : decode cX10_type 68 = .ok (.iconst 1, 1) := by decide +kernel
theorem dX10_type_69 : decode cX10_type 69 = .ok (.iadd, 1) := by decide +kernel
theorem dX10_type_70 : decode cX10_type 70 = .ok (.putfield 88, 3) := by decide +kernel
theorem dX10_type_73 : decode cX10_type 73 = .ok (.iinc 4 (-1), 3) := by decide +kernel
theorem dX10_type_76 : decode cX10_type 76 = .ok (.goto (-39), 3) := by decide +kernel
theorem dX10_type_79 : decode cX10_type 79 = .ok (.aload_n 0, 1) := by decide +kernel
theorem dX10_type_80 : decode cX10_type 80 = .ok (.getfield 88, 3) := by decide +kernel
theorem dX10_type_83 : decode cX10_type 83 = .ok (.ireturn, 1) := by decide +kernel
theorem dX10_clear_0 : decode cX10_clear 0 = .ok (.aload_n 0, 1) := by decide +kernel
theorem dX10_clear_1 : decode cX10_clear 1 = .ok (.iconst 0, 1) := by decide +kernel
theorem dX10_clear_2 : decode cX10_clear 2 = .ok (.putfield 80, 3) := by decide +kernel
theorem dX10_clear_5 : decode cX10_clear 5 = .ok (.aload_n 0, 1) := by decide +kernel
theorem dX10_clear_6 : decode cX10_clear 6 = .ok (.getfield 88, 3) := by decide +kernel
theorem dX10_clear_9 : decode cX10_clear 9 = .ok (.istore_n 1, 1) := by decide +kernel
theorem dX10_clear_10 : decode cX10_clear 10 = .ok (.aload_n 0, 1) := by decide +kernel
theorem dX10_clear_11 : decode cX10_clear 11 = .ok (.iconst 0, 1) := by decide +kernel
theorem dX10_clear_12 : decode cX10_clear 12 = .ok (.putfield 88, 3) := by decide +kernel
theorem dX10_clear_15 : decode cX10_clear 15 = .ok (.iload_n 1, 1) := by decide +kernel
theorem dX10_clear_16 : decode cX10_clear 16 = .ok (.ireturn, 1) := by decide +kernel
theorem dX10_byteAt_0 : decode cX10_byteAt 0 = .ok (.iload_n 1, 1) := by decide +kernel
theorem dX10_byteAt_1 : decode cX10_byteAt 1 = .ok (.aload_n 0, 1) := by decide +kernel
theorem dX10_byteAt_2 : decode cX10_byteAt 2 = .ok (.getfield 88, 3) := by decide +kernel
theorem dX10_byteAt_5 : decode cX10_byteAt 5 = .ok (.if_icmp .ge 12, 3) := by decide +kernel
theorem dX10_byteAt_8 : decode cX10_byteAt 8 = .ok (.aload_n 0, 1) := by decide +kernel
theorem dX10_byteAt_9 : decode cX10_byteAt 9 = .ok (.getfield 13, 3) := by decide +kernel
theorem dX10_byteAt_12 : decode cX10_byteAt 12 = .ok (.iload_n 1, 1) := by decide +kernel
theorem dX10_byteAt_13 : decode cX10_byteAt 13 = .ok (.iaload, 1) := by decide +kernel
theorem dX10_byteAt_14 : decode cX10_byteAt 14 = .ok (.goto 4, 3) := by decide +kernel
theorem dX10_byteAt_17 : decode cX10_byteAt 17 = .ok (.iconst (-1), 1) := by decide +kernel
theorem dX10_byteAt_18 : decode cX10_byteAt 18 = .ok (.ireturn, 1) := by decide +kernel
theorem dX10_add_0 : decode cX10_add 0 = .ok (.iload_n 2, 1) := by decide +kernel
theorem dX10_add_1 : decode cX10_add 1 = .ok (.ifCond .ne 7, 3) := by decide +kernel
theorem dX10_add_4 : decode cX10_add 4 = .ok (.lload_n 0, 1) := by decide +kernel
theorem dX10_add_5 : decode cX10_add 5 = .ok (.goto 11, 3) := by decide +kernel
theorem dX10_add_8 : decode cX10_add 8 = .ok (.ldc2_w 93, 3) := by decide +kernel
theorem dX10_add_11 : decode cX10_add 11 = .ok (.lload_n 0, 1) := by decide +kernel
theorem dX10_add_12 : decode cX10_add 12 = .ok (.lmul, 1) := by decide +kernel
theorem dX10_add_13 : decode cX10_add 13 = .ok (.iload_n 2, 1) := by decide +kernel
theorem dX10_add_14 : decode cX10_add 14 = .ok (.i2l, 1) := by decide +kernel
theorem dX10_add_15 : decode cX10_add 15 = .ok (.ladd, 1) := by decide +kernel
theorem dX10_add_16 : decode cX10_add 16 = .ok (.lreturn, 1) := by decide +kernel
set_option maxRecDepth 20000 in
theorem ggX10_word_X10_add : GoodIn wsX10_word wsX10_add := goodIn_r _ [4, 5] rfl (by decide +kernel)
set_option maxRecDepth 20000 in
theorem gX10_word_X10_add : GoodIn wsX10_word (va_wsS RX10 95 yX10_add wsX10_add) := goodIn_app (goodIn_r _ [1, 2, 3] rfl (by decide +kernel)) ggX10_word_X10_add
theorem dX10_word_0 : decode cX10_word 0 = .ok (.lconst 0, 1) := by decide +kernel
theorem dX10_word_1 : decode cX10_word 1 = .ok (.iload_n 0, 1) := by decide +kernel
theorem dX10_word_2 : decode cX10_word 2 = .ok (.invokestatic 95, 3) := by decide +kernel
theorem dX10_word_5 : decode cX10_word 5 = .ok (.iload_n 1, 1) := by decide +kernel
theorem dX10_word_6 : decode cX10_word 6 = .ok (.invokestatic 95, 3) := by decide +kernel
theorem dX10_word_9 : decode cX10_word 9 = .ok (.iload_n 2, 1) := by decide +kernel
theorem dX10_word_10 : decode cX10_word 10 = .ok (.invokestatic 95, 3) := by decide +kernel
theorem dX10_word_13 : decode cX10_word 13 = .ok (.iload_n 3, 1) := by decide +kernel
theorem dX10_word_14 : decode cX10_word 14 = .ok (.invokestatic 95, 3) := by decide +kernel
theorem dX10_word_17 : decode cX10_word 17 = .ok (.lreturn, 1) := by decide +kernel
theorem chIwsX10_advances_0 : ∀ w ∈ ([.code yX10_advances cX10_advances 5 none] : List Cond), w ∈ wsX10_advances := fun _ h => (List.mem_cons.mpr (Or.inl (List.mem_singleton.mp h)))
theorem chIwsX10_advances_1 : ∀ w ∈ ([.fieldLink RX10 99 "WatchedProgramsModel" "next" "I", .fieldLink RX10 106 "WatchedProgramsModel" "place" "I", .fieldLink RX10 109 "WatchedProgramsModel" "token" "I", .fieldLink RX10 112 "WatchedProgramsModel" "value" "I", .methodLink RX10 102 yX10_byteAt, .instanceMethod yX10_byteAt, .selects RX10 yX10_byteAt yX10_byteAt, .initialized RX10, .code yX10_byteAt cX10_byteAt 2 (some .int), .fieldLink RX10 88 "WatchedProgramsModel" "typed" "I", .fieldLink RX10 13 "WatchedProgramsModel" "text" "[I", .methodLink RX10 84 yX10_in, .static yX10_in, .code yX10_in cX10_in 3 (some .boolean), .methodLink RX10 95 yX10_add, .static yX10_add, .code yX10_add cX10_add 3 (some .long), .constantLong RX10 93 (256), .methodLink RX10 115 yX10_word, .static yX10_word, .code yX10_word cX10_word 4 (some .long)] : List Cond), w ∈ wsX10_advances := fun _ h => (List.mem_cons_of_mem _ (List.mem_append_left _ h))
theorem chIwsX10_advances_2 : ∀ w ∈ (wsX100 : List Cond), w ∈ wsX10_advances := fun _ h => (List.mem_cons_of_mem _ (List.mem_append_right _ h))
def chwsX10_advances : Nat → List Cond
  | 0 => [.code yX10_advances cX10_advances 5 none]
  | 1 => [.fieldLink RX10 99 "WatchedProgramsModel" "next" "I", .fieldLink RX10 106 "WatchedProgramsModel" "place" "I", .fieldLink RX10 109 "WatchedProgramsModel" "token" "I", .fieldLink RX10 112 "WatchedProgramsModel" "value" "I", .methodLink RX10 102 yX10_byteAt, .instanceMethod yX10_byteAt, .selects RX10 yX10_byteAt yX10_byteAt, .initialized RX10, .code yX10_byteAt cX10_byteAt 2 (some .int), .fieldLink RX10 88 "WatchedProgramsModel" "typed" "I", .fieldLink RX10 13 "WatchedProgramsModel" "text" "[I", .methodLink RX10 84 yX10_in, .static yX10_in, .code yX10_in cX10_in 3 (some .boolean), .methodLink RX10 95 yX10_add, .static yX10_add, .code yX10_add cX10_add 3 (some .long), .constantLong RX10 93 (256), .methodLink RX10 115 yX10_word, .static yX10_word, .code yX10_word cX10_word 4 (some .long)]
  | 2 => wsX100
  | _ => []
theorem chwsX10_advances_in : ∀ (j : Nat) (w : Cond), w ∈ chwsX10_advances j → w ∈ wsX10_advances
  | 0, w, h => chIwsX10_advances_0 w h
  | 1, w, h => chIwsX10_advances_1 w h
  | 2, w, h => chIwsX10_advances_2 w h
  | _ + 3, _, h => absurd h List.not_mem_nil
set_option maxRecDepth 20000 in
theorem ggX10_advances_X10_byteAt : GoodIn wsX10_advances wsX10_byteAt := goodIn_r2 chwsX10_advances chwsX10_advances_in _ [(1, 8), (1, 9), (1, 10), (2, 0), (2, 1), (2, 2), (2, 3), (2, 4), (2, 5), (2, 6), (2, 7), (2, 8), (2, 9), (2, 10), (2, 11), (2, 12), (2, 13), (2, 14), (2, 15), (2, 16), (2, 17), (2, 18), (2, 19), (2, 20), (2, 21), (2, 22), (2, 23), (2, 24), (2, 25), (2, 26), (2, 27), (2, 28), (2, 29), (2, 30), (2, 31), (2, 32), (2, 33), (2, 34), (2, 35), (2, 36), (2, 37), (2, 38), (2, 39)] rfl (by decide +kernel)
set_option maxRecDepth 20000 in
theorem gX10_advances_X10_byteAt : GoodIn wsX10_advances (wsV RX10 102 RX10 yX10_byteAt wsX10_byteAt) := goodIn_app (goodIn_r2 chwsX10_advances chwsX10_advances_in _ [(1, 4), (1, 5), (1, 6), (1, 7)] rfl (by decide +kernel)) ggX10_advances_X10_byteAt
set_option maxRecDepth 20000 in
theorem ggX10_advances_X10_in : GoodIn wsX10_advances wsX10_in := goodIn_r2 chwsX10_advances chwsX10_advances_in _ [(1, 13)] rfl (by decide +kernel)
set_option maxRecDepth 20000 in
theorem gX10_advances_X10_in : GoodIn wsX10_advances (va_wsS RX10 84 yX10_in wsX10_in) := goodIn_app (goodIn_r2 chwsX10_advances chwsX10_advances_in _ [(1, 11), (1, 12), (1, 7)] rfl (by decide +kernel)) ggX10_advances_X10_in
set_option maxRecDepth 20000 in
theorem ggX10_advances_X10_add : GoodIn wsX10_advances wsX10_add := goodIn_r2 chwsX10_advances chwsX10_advances_in _ [(1, 16), (1, 17)] rfl (by decide +kernel)
set_option maxRecDepth 20000 in
theorem gX10_advances_X10_add : GoodIn wsX10_advances (va_wsS RX10 95 yX10_add wsX10_add) := goodIn_app (goodIn_r2 chwsX10_advances chwsX10_advances_in _ [(1, 14), (1, 15), (1, 7)] rfl (by decide +kernel)) ggX10_advances_X10_add
set_option maxRecDepth 20000 in
theorem ggX10_advances_X10_word : GoodIn wsX10_advances wsX10_word := goodIn_r2 chwsX10_advances chwsX10_advances_in _ [(1, 20), (1, 14), (1, 15), (1, 7), (1, 16), (1, 17)] rfl (by decide +kernel)
set_option maxRecDepth 20000 in
theorem gX10_advances_X10_word : GoodIn wsX10_advances (va_wsS RX10 115 yX10_word wsX10_word) := goodIn_app (goodIn_r2 chwsX10_advances chwsX10_advances_in _ [(1, 18), (1, 19), (1, 7)] rfl (by decide +kernel)) ggX10_advances_X10_word
theorem dX10_advances_0 : decode cX10_advances 0 = .ok (.aload_n 0, 1) := by decide +kernel
theorem dX10_advances_1 : decode cX10_advances 1 = .ok (.aload_n 0, 1) := by decide +kernel
theorem dX10_advances_2 : decode cX10_advances 2 = .ok (.getfield 99, 3) := by decide +kernel
theorem dX10_advances_5 : decode cX10_advances 5 = .ok (.invokevirtual 102, 3) := by decide +kernel
theorem dX10_advances_8 : decode cX10_advances 8 = .ok (.bipush 32, 2) := by decide +kernel
theorem dX10_advances_10 : decode cX10_advances 10 = .ok (.if_icmp .ne 16, 3) := by decide +kernel
theorem dX10_advances_13 : decode cX10_advances 13 = .ok (.aload_n 0, 1) := by decide +kernel
theorem dX10_advances_14 : decode cX10_advances 14 = .ok (.dup, 1) := by decide +kernel
theorem dX10_advances_15 : decode cX10_advances 15 = .ok (.getfield 99, 3) := by decide +kernel
theorem dX10_advances_18 : decode cX10_advances 18 = .ok (.iconst 1, 1) := by decide +kernel
theorem dX10_advances_19 : decode cX10_advances 19 = .ok (.iadd, 1) := by decide +kernel
theorem dX10_advances_20 : decode cX10_advances 20 = .ok (.putfield 99, 3) := by decide +kernel
theorem dX10_advances_23 : decode cX10_advances 23 = .ok (.goto (-23), 3) := by decide +kernel
theorem dX10_advances_26 : decode cX10_advances 26 = .ok (.aload_n 0, 1) := by decide +kernel
theorem dX10_advances_27 : decode cX10_advances 27 = .ok (.aload_n 0, 1) := by decide +kernel
theorem dX10_advances_28 : decode cX10_advances 28 = .ok (.getfield 99, 3) := by decide +kernel
theorem dX10_advances_31 : decode cX10_advances 31 = .ok (.putfield 106, 3) := by decide +kernel
theorem dX10_advances_34 : decode cX10_advances 34 = .ok (.aload_n 0, 1) := by decide +kernel
theorem dX10_advances_35 : decode cX10_advances 35 = .ok (.aload_n 0, 1) := by decide +kernel
theorem dX10_advances_36 : decode cX10_advances 36 = .ok (.getfield 99, 3) := by decide +kernel
theorem dX10_advances_39 : decode cX10_advances 39 = .ok (.invokevirtual 102, 3) := by decide +kernel
theorem dX10_advances_42 : decode cX10_advances 42 = .ok (.istore_n 1, 1) := by decide +kernel
theorem dX10_advances_43 : decode cX10_advances 43 = .ok (.iload_n 1, 1) := by decide +kernel
theorem dX10_advances_44 : decode cX10_advances 44 = .ok (.ifCond .ge 11, 3) := by decide +kernel
theorem dX10_advances_47 : decode cX10_advances 47 = .ok (.aload_n 0, 1) := by decide +kernel
theorem dX10_advances_48 : decode cX10_advances 48 = .ok (.iconst 0, 1) := by decide +kernel
theorem dX10_advances_49 : decode cX10_advances 49 = .ok (.putfield 109, 3) := by decide +kernel
theorem dX10_advances_52 : decode cX10_advances 52 = .ok (.goto 379, 3) := by decide +kernel
theorem dX10_advances_55 : decode cX10_advances 55 = .ok (.iload_n 1, 1) := by decide +kernel
theorem dX10_advances_56 : decode cX10_advances 56 = .ok (.bipush 97, 2) := by decide +kernel
theorem dX10_advances_58 : decode cX10_advances 58 = .ok (.bipush 122, 2) := by decide +kernel
theorem dX10_advances_60 : decode cX10_advances 60 = .ok (.invokestatic 84, 3) := by decide +kernel
theorem dX10_advances_63 : decode cX10_advances 63 = .ok (.ifCond .eq 186, 3) := by decide +kernel
theorem dX10_advances_66 : decode cX10_advances 66 = .ok (.lconst 0, 1) := by decide +kernel
theorem dX10_advances_67 : decode cX10_advances 67 = .ok (.lstore_n 2, 1) := by decide +kernel
theorem dX10_advances_68 : decode cX10_advances 68 = .ok (.iconst 0, 1) := by decide +kernel
theorem dX10_advances_69 : decode cX10_advances 69 = .ok (.istore 4, 2) := by decide +kernel
theorem dX10_advances_71 : decode cX10_advances 71 = .ok (.aload_n 0, 1) := by decide +kernel
theorem dX10_advances_72 : decode cX10_advances 72 = .ok (.aload_n 0, 1) := by decide +kernel
theorem dX10_advances_73 : decode cX10_advances 73 = .ok (.getfield 99, 3) := by decide +kernel
theorem dX10_advances_76 : decode cX10_advances 76 = .ok (.invokevirtual 102, 3) := by decide +kernel
theorem dX10_advances_79 : decode cX10_advances 79 = .ok (.bipush 97, 2) := by decide +kernel
theorem dX10_advances_81 : decode cX10_advances 81 = .ok (.bipush 122, 2) := by decide +kernel
theorem dX10_advances_83 : decode cX10_advances 83 = .ok (.invokestatic 84, 3) := by decide +kernel
theorem dX10_advances_86 : decode cX10_advances 86 = .ok (.ifCond .eq 42, 3) := by decide +kernel
theorem dX10_advances_89 : decode cX10_advances 89 = .ok (.iload 4, 2) := by decide +kernel
theorem dX10_advances_91 : decode cX10_advances 91 = .ok (.iconst 4, 1) := by decide +kernel
theorem dX10_advances_92 : decode cX10_advances 92 = .ok (.if_icmp .ge 18, 3) := by decide +kernel
theorem dX10_advances_95 : decode cX10_advances 95 = .ok (.lload_n 2, 1) := by decide +kernel
theorem dX10_advances_96 : decode cX10_advances 96 = .ok (.aload_n 0, 1) := by decide +kernel
theorem dX10_advances_97 : decode cX10_advances 97 = .ok (.aload_n 0, 1) := by decide +kernel
theorem dX10_advances_98 : decode cX10_advances 98 = .ok (.getfield 99, 3) := by decide +kernel
theorem dX10_advances_101 : decode cX10_advances 101 = .ok (.invokevirtual 102, 3) := by decide +kernel
theorem dX10_advances_104 : decode cX10_advances 104 = .ok (.invokestatic 95, 3) := by decide +kernel
theorem dX10_advances_107 : decode cX10_advances 107 = .ok (.goto 4, 3) := by decide +kernel
theorem dX10_advances_110 : decode cX10_advances 110 = .ok (.lload_n 2, 1) := by decide +kernel
theorem dX10_advances_111 : decode cX10_advances 111 = .ok (.lstore_n 2, 1) := by decide +kernel
theorem dX10_advances_112 : decode cX10_advances 112 = .ok (.iinc 4 1, 3) := by decide +kernel
theorem dX10_advances_115 : decode cX10_advances 115 = .ok (.aload_n 0, 1) := by decide +kernel
theorem dX10_advances_116 : decode cX10_advances 116 = .ok (.dup, 1) := by decide +kernel
theorem dX10_advances_117 : decode cX10_advances 117 = .ok (.getfield 99, 3) := by decide +kernel
theorem dX10_advances_120 : decode cX10_advances 120 = .ok (.iconst 1, 1) := by decide +kernel
theorem dX10_advances_121 : decode cX10_advances 121 = .ok (.iadd, 1) := by decide +kernel
theorem dX10_advances_122 : decode cX10_advances 122 = .ok (.putfield 99, 3) := by decide +kernel
theorem dX10_advances_125 : decode cX10_advances 125 = .ok (.goto (-54), 3) := by decide +kernel
theorem dX10_advances_128 : decode cX10_advances 128 = .ok (.aload_n 0, 1) := by decide +kernel
theorem dX10_advances_129 : decode cX10_advances 129 = .ok (.iload_n 1, 1) := by decide +kernel
theorem dX10_advances_130 : decode cX10_advances 130 = .ok (.bipush 97, 2) := by decide +kernel
theorem dX10_advances_132 : decode cX10_advances 132 = .ok (.isub, 1) := by decide +kernel
theorem dX10_advances_133 : decode cX10_advances 133 = .ok (.putfield 112, 3) := by decide +kernel
theorem dX10_advances_136 : decode cX10_advances 136 = .ok (.aload_n 0, 1) := by decide +kernel
theorem dX10_advances_137 : decode cX10_advances 137 = .ok (.iload 4, 2) := by decide +kernel
theorem dX10_advances_139 : decode cX10_advances 139 = .ok (.iconst 4, 1) := by decide +kernel
theorem dX10_advances_140 : decode cX10_advances 140 = .ok (.if_icmp .le 8, 3) := by decide +kernel
theorem dX10_advances_143 : decode cX10_advances 143 = .ok (.bipush 8, 2) := by decide +kernel
theorem dX10_advances_145 : decode cX10_advances 145 = .ok (.goto 98, 3) := by decide +kernel
theorem dX10_advances_148 : decode cX10_advances 148 = .ok (.lload_n 2, 1) := by decide +kernel
theorem dX10_advances_149 : decode cX10_advances 149 = .ok (.bipush 111, 2) := by decide +kernel
theorem dX10_advances_151 : decode cX10_advances 151 = .ok (.bipush 117, 2) := by decide +kernel
theorem dX10_advances_153 : decode cX10_advances 153 = .ok (.bipush 116, 2) := by decide +kernel
theorem dX10_advances_155 : decode cX10_advances 155 = .ok (.iconst 0, 1) := by decide +kernel
theorem dX10_advances_156 : decode cX10_advances 156 = .ok (.invokestatic 115, 3) := by decide +kernel
theorem dX10_advances_159 : decode cX10_advances 159 = .ok (.lcmp, 1) := by decide +kernel
theorem dX10_advances_160 : decode cX10_advances 160 = .ok (.ifCond .ne 7, 3) := by decide +kernel
theorem dX10_advances_163 : decode cX10_advances 163 = .ok (.iconst 1, 1) := by decide +kernel
theorem dX10_advances_164 : decode cX10_advances 164 = .ok (.goto 79, 3) := by decide +kernel
theorem dX10_advances_167 : decode cX10_advances 167 = .ok (.lload_n 2, 1) := by decide +kernel
theorem dX10_advances_168 : decode cX10_advances 168 = .ok (.bipush 105, 2) := by decide +kernel
theorem dX10_advances_170 : decode cX10_advances 170 = .ok (.bipush 102, 2) := by decide +kernel
theorem dX10_advances_172 : decode cX10_advances 172 = .ok (.iconst 0, 1) := by decide +kernel
theorem dX10_advances_173 : decode cX10_advances 173 = .ok (.iconst 0, 1) := by decide +kernel
theorem dX10_advances_174 : decode cX10_advances 174 = .ok (.invokestatic 115, 3) := by decide +kernel
theorem dX10_advances_177 : decode cX10_advances 177 = .ok (.lcmp, 1) := by decide +kernel
theorem dX10_advances_178 : decode cX10_advances 178 = .ok (.ifCond .ne 7, 3) := by decide +kernel
theorem dX10_advances_181 : decode cX10_advances 181 = .ok (.iconst 2, 1) := by decide +kernel
theorem dX10_advances_182 : decode cX10_advances 182 = .ok (.goto 61, 3) := by decide +kernel
theorem dX10_advances_185 : decode cX10_advances 185 = .ok (.lload_n 2, 1) := by decide +kernel
theorem dX10_advances_186 : decode cX10_advances 186 = .ok (.bipush 101, 2) := by decide +kernel
theorem dX10_advances_188 : decode cX10_advances 188 = .ok (.bipush 108, 2) := by decide +kernel
theorem dX10_advances_190 : decode cX10_advances 190 = .ok (.bipush 115, 2) := by decide +kernel
theorem dX10_advances_192 : decode cX10_advances 192 = .ok (.bipush 101, 2) := by decide +kernel
theorem dX10_advances_194 : decode cX10_advances 194 = .ok (.invokestatic 115, 3) := by decide +kernel
theorem dX10_advances_197 : decode cX10_advances 197 = .ok (.lcmp, 1) := by decide +kernel
theorem dX10_advances_198 : decode cX10_advances 198 = .ok (.ifCond .ne 7, 3) := by decide +kernel
theorem dX10_advances_201 : decode cX10_advances 201 = .ok (.iconst 3, 1) := by decide +kernel
theorem dX10_advances_202 : decode cX10_advances 202 = .ok (.goto 41, 3) := by decide +kernel
theorem dX10_advances_205 : decode cX10_advances 205 = .ok (.lload_n 2, 1) := by decide +kernel
theorem dX10_advances_206 : decode cX10_advances 206 = .ok (.bipush 108, 2) := by decide +kernel
theorem dX10_advances_208 : decode cX10_advances 208 = .ok (.bipush 111, 2) := by decide +kernel
theorem dX10_advances_210 : decode cX10_advances 210 = .ok (.bipush 111, 2) := by decide +kernel
theorem dX10_advances_212 : decode cX10_advances 212 = .ok (.bipush 112, 2) := by decide +kernel
theorem dX10_advances_214 : decode cX10_advances 214 = .ok (.invokestatic 115, 3) := by decide +kernel
theorem dX10_advances_217 : decode cX10_advances 217 = .ok (.lcmp, 1) := by decide +kernel
theorem dX10_advances_218 : decode cX10_advances 218 = .ok (.ifCond .ne 7, 3) := by decide +kernel
theorem dX10_advances_221 : decode cX10_advances 221 = .ok (.iconst 4, 1) := by decide +kernel
theorem dX10_advances_222 : decode cX10_advances 222 = .ok (.goto 21, 3) := by decide +kernel
theorem dX10_advances_225 : decode cX10_advances 225 = .ok (.iload 4, 2) := by decide +kernel
theorem dX10_advances_227 : decode cX10_advances 227 = .ok (.iconst 1, 1) := by decide +kernel
theorem dX10_advances_228 : decode cX10_advances 228 = .ok (.if_icmp .ne 13, 3) := by decide +kernel
theorem dX10_advances_231 : decode cX10_advances 231 = .ok (.iload_n 1, 1) := by decide +kernel
theorem dX10_advances_232 : decode cX10_advances 232 = .ok (.bipush 103, 2) := by decide +kernel
theorem dX10_advances_234 : decode cX10_advances 234 = .ok (.if_icmp .ge 7, 3) := by decide +kernel
theorem dX10_advances_237 : decode cX10_advances 237 = .ok (.iconst 5, 1) := by decide +kernel
theorem dX10_advances_238 : decode cX10_advances 238 = .ok (.goto 5, 3) := by decide +kernel
theorem dX10_advances_241 : decode cX10_advances 241 = .ok (.bipush 8, 2) := by decide +kernel
theorem dX10_advances_243 : decode cX10_advances 243 = .ok (.putfield 109, 3) := by decide +kernel
theorem dX10_advances_246 : decode cX10_advances 246 = .ok (.goto 185, 3) := by decide +kernel
theorem dX10_advances_249 : decode cX10_advances 249 = .ok (.iload_n 1, 1) := by decide +kernel
theorem dX10_advances_250 : decode cX10_advances 250 = .ok (.bipush 48, 2) := by decide +kernel
theorem dX10_advances_252 : decode cX10_advances 252 = .ok (.bipush 57, 2) := by decide +kernel
theorem dX10_advances_254 : decode cX10_advances 254 = .ok (.invokestatic 84, 3) := by decide +kernel
theorem dX10_advances_257 : decode cX10_advances 257 = .ok (.ifCond .eq 66, 3) := by decide +kernel
theorem dX10_advances_260 : decode cX10_advances 260 = .ok (.iconst 0, 1) := by decide +kernel
theorem dX10_advances_261 : decode cX10_advances 261 = .ok (.istore_n 2, 1) := by decide +kernel
theorem dX10_advances_262 : decode cX10_advances 262 = .ok (.aload_n 0, 1) := by decide +kernel
theorem dX10_advances_263 : decode cX10_advances 263 = .ok (.aload_n 0, 1) := by decide +kernel
theorem dX10_advances_264 : decode cX10_advances 264 = .ok (.getfield 99, 3) := by decide +kernel
theorem dX10_advances_267 : decode cX10_advances 267 = .ok (.invokevirtual 102, 3) := by decide +kernel
theorem dX10_advances_270 : decode cX10_advances 270 = .ok (.bipush 48, 2) := by decide +kernel
theorem dX10_advances_272 : decode cX10_advances 272 = .ok (.bipush 57, 2) := by decide +kernel
theorem dX10_advances_274 : decode cX10_advances 274 = .ok (.invokestatic 84, 3) := by decide +kernel
theorem dX10_advances_277 : decode cX10_advances 277 = .ok (.ifCond .eq 19, 3) := by decide +kernel
theorem dX10_advances_280 : decode cX10_advances 280 = .ok (.iinc 2 1, 3) := by decide +kernel
theorem dX10_advances_283 : decode cX10_advances 283 = .ok (.aload_n 0, 1) := by decide +kernel
theorem dX10_advances_284 : decode cX10_advances 284 = .ok (.dup, 1) := by decide +kernel
theorem dX10_advances_285 : decode cX10_advances 285 = .ok (.getfield 99, 3) := by decide +kernel
theorem dX10_advances_288 : decode cX10_advances 288 = .ok (.iconst 1, 1) := by decide +kernel
theorem dX10_advances_289 : decode cX10_advances 289 = .ok (.iadd, 1) := by decide +kernel
theorem dX10_advances_290 : decode cX10_advances 290 = .ok (.putfield 99, 3) := by decide +kernel
theorem dX10_advances_293 : decode cX10_advances 293 = .ok (.goto (-31), 3) := by decide +kernel
theorem dX10_advances_296 : decode cX10_advances 296 = .ok (.aload_n 0, 1) := by decide +kernel
theorem dX10_advances_297 : decode cX10_advances 297 = .ok (.iload_n 1, 1) := by decide +kernel
theorem dX10_advances_298 : decode cX10_advances 298 = .ok (.bipush 48, 2) := by decide +kernel
theorem dX10_advances_300 : decode cX10_advances 300 = .ok (.isub, 1) := by decide +kernel
theorem dX10_advances_301 : decode cX10_advances 301 = .ok (.putfield 112, 3) := by decide +kernel
theorem dX10_advances_304 : decode cX10_advances 304 = .ok (.aload_n 0, 1) := by decide +kernel
theorem dX10_advances_305 : decode cX10_advances 305 = .ok (.iload_n 2, 1) := by decide +kernel
theorem dX10_advances_306 : decode cX10_advances 306 = .ok (.iconst 1, 1) := by decide +kernel
theorem dX10_advances_307 : decode cX10_advances 307 = .ok (.if_icmp .le 8, 3) := by decide +kernel
theorem dX10_advances_310 : decode cX10_advances 310 = .ok (.bipush 8, 2) := by decide +kernel
theorem dX10_advances_312 : decode cX10_advances 312 = .ok (.goto 5, 3) := by decide +kernel
theorem dX10_advances_315 : decode cX10_advances 315 = .ok (.bipush 6, 2) := by decide +kernel
theorem dX10_advances_317 : decode cX10_advances 317 = .ok (.putfield 109, 3) := by decide +kernel
theorem dX10_advances_320 : decode cX10_advances 320 = .ok (.goto 111, 3) := by decide +kernel
theorem dX10_advances_323 : decode cX10_advances 323 = .ok (.aload_n 0, 1) := by decide +kernel
theorem dX10_advances_324 : decode cX10_advances 324 = .ok (.iload_n 1, 1) := by decide +kernel
theorem dX10_advances_325 : decode cX10_advances 325 = .ok (.putfield 112, 3) := by decide +kernel
theorem dX10_advances_328 : decode cX10_advances 328 = .ok (.aload_n 0, 1) := by decide +kernel
theorem dX10_advances_329 : decode cX10_advances 329 = .ok (.dup, 1) := by decide +kernel
theorem dX10_advances_330 : decode cX10_advances 330 = .ok (.getfield 99, 3) := by decide +kernel
theorem dX10_advances_333 : decode cX10_advances 333 = .ok (.iconst 1, 1) := by decide +kernel
theorem dX10_advances_334 : decode cX10_advances 334 = .ok (.iadd, 1) := by decide +kernel
theorem dX10_advances_335 : decode cX10_advances 335 = .ok (.putfield 99, 3) := by decide +kernel
theorem dX10_advances_338 : decode cX10_advances 338 = .ok (.iload_n 1, 1) := by decide +kernel
theorem dX10_advances_339 : decode cX10_advances 339 = .ok (.bipush 61, 2) := by decide +kernel
theorem dX10_advances_341 : decode cX10_advances 341 = .ok (.if_icmp .eq 69, 3) := by decide +kernel
theorem dX10_advances_344 : decode cX10_advances 344 = .ok (.iload_n 1, 1) := by decide +kernel
theorem dX10_advances_345 : decode cX10_advances 345 = .ok (.bipush 59, 2) := by decide +kernel
theorem dX10_advances_347 : decode cX10_advances 347 = .ok (.if_icmp .eq 63, 3) := by decide +kernel
theorem dX10_advances_350 : decode cX10_advances 350 = .ok (.iload_n 1, 1) := by decide +kernel
theorem dX10_advances_351 : decode cX10_advances 351 = .ok (.bipush 123, 2) := by decide +kernel
theorem dX10_advances_353 : decode cX10_advances 353 = .ok (.if_icmp .eq 57, 3) := by decide +kernel
theorem dX10_advances_356 : decode cX10_advances 356 = .ok (.iload_n 1, 1) := by decide +kernel
theorem dX10_advances_357 : decode cX10_advances 357 = .ok (.bipush 125, 2) := by decide +kernel
theorem dX10_advances_359 : decode cX10_advances 359 = .ok (.if_icmp .eq 51, 3) := by decide +kernel
theorem dX10_advances_362 : decode cX10_advances 362 = .ok (.iload_n 1, 1) := by decide +kernel
theorem dX10_advances_363 : decode cX10_advances 363 = .ok (.bipush 43, 2) := by decide +kernel
theorem dX10_advances_365 : decode cX10_advances 365 = .ok (.if_icmp .eq 45, 3) := by decide +kernel
theorem dX10_advances_368 : decode cX10_advances 368 = .ok (.iload_n 1, 1) := by decide +kernel
theorem dX10_advances_369 : decode cX10_advances 369 = .ok (.bipush 45, 2) := by decide +kernel
theorem dX10_advances_371 : decode cX10_advances 371 = .ok (.if_icmp .eq 39, 3) := by decide +kernel
theorem dX10_advances_374 : decode cX10_advances 374 = .ok (.iload_n 1, 1) := by decide +kernel
theorem dX10_advances_375 : decode cX10_advances 375 = .ok (.bipush 42, 2) := by decide +kernel
theorem dX10_advances_377 : decode cX10_advances 377 = .ok (.if_icmp .eq 33, 3) := by decide +kernel
theorem dX10_advances_380 : decode cX10_advances 380 = .ok (.iload_n 1, 1) := by decide +kernel
theorem dX10_advances_381 : decode cX10_advances 381 = .ok (.bipush 38, 2) := by decide +kernel
theorem dX10_advances_383 : decode cX10_advances 383 = .ok (.if_icmp .eq 27, 3) := by decide +kernel
theorem dX10_advances_386 : decode cX10_advances 386 = .ok (.iload_n 1, 1) := by decide +kernel
theorem dX10_advances_387 : decode cX10_advances 387 = .ok (.bipush 33, 2) := by decide +kernel
theorem dX10_advances_389 : decode cX10_advances 389 = .ok (.if_icmp .eq 21, 3) := by decide +kernel
theorem dX10_advances_392 : decode cX10_advances 392 = .ok (.iload_n 1, 1) := by decide +kernel
theorem dX10_advances_393 : decode cX10_advances 393 = .ok (.bipush 40, 2) := by decide +kernel
theorem dX10_advances_395 : decode cX10_advances 395 = .ok (.if_icmp .eq 15, 3) := by decide +kernel
theorem dX10_advances_398 : decode cX10_advances 398 = .ok (.iload_n 1, 1) := by decide +kernel
theorem dX10_advances_399 : decode cX10_advances 399 = .ok (.bipush 41, 2) := by decide +kernel
theorem dX10_advances_401 : decode cX10_advances 401 = .ok (.if_icmp .eq 9, 3) := by decide +kernel
theorem dX10_advances_404 : decode cX10_advances 404 = .ok (.iload_n 1, 1) := by decide +kernel
theorem dX10_advances_405 : decode cX10_advances 405 = .ok (.bipush 60, 2) := by decide +kernel
theorem dX10_advances_407 : decode cX10_advances 407 = .ok (.if_icmp .ne 7, 3) := by decide +kernel
theorem dX10_advances_410 : decode cX10_advances 410 = .ok (.iconst 1, 1) := by decide +kernel
theorem dX10_advances_411 : decode cX10_advances 411 = .ok (.goto 4, 3) := by decide +kernel
theorem dX10_advances_414 : decode cX10_advances 414 = .ok (.iconst 0, 1) := by decide +kernel
theorem dX10_advances_415 : decode cX10_advances 415 = .ok (.istore_n 2, 1) := by decide +kernel
theorem dX10_advances_416 : decode cX10_advances 416 = .ok (.aload_n 0, 1) := by decide +kernel
theorem dX10_advances_417 : decode cX10_advances 417 = .ok (.iload_n 2, 1) := by decide +kernel
theorem dX10_advances_418 : decode cX10_advances 418 = .ok (.ifCond .eq 8, 3) := by decide +kernel
theorem dX10_advances_421 : decode cX10_advances 421 = .ok (.bipush 7, 2) := by decide +kernel
theorem dX10_advances_423 : decode cX10_advances 423 = .ok (.goto 5, 3) := by decide +kernel
theorem dX10_advances_426 : decode cX10_advances 426 = .ok (.bipush 8, 2) := by decide +kernel
theorem dX10_advances_428 : decode cX10_advances 428 = .ok (.putfield 109, 3) := by decide +kernel
theorem dX10_advances_431 : decode cX10_advances 431 = .ok (.return_, 1) := by decide +kernel
theorem dX10_isWell_0 : decode cX10_isWell 0 = .ok (.aload_n 0, 1) := by decide +kernel
theorem dX10_isWell_1 : decode cX10_isWell 1 = .ok (.getfield 119, 3) := by decide +kernel
theorem dX10_isWell_4 : decode cX10_isWell 4 = .ok (.ifCond .ge 7, 3) := by decide +kernel
theorem dX10_isWell_7 : decode cX10_isWell 7 = .ok (.iconst 1, 1) := by decide +kernel
theorem dX10_isWell_8 : decode cX10_isWell 8 = .ok (.goto 4, 3) := by decide +kernel
theorem dX10_isWell_11 : decode cX10_isWell 11 = .ok (.iconst 0, 1) := by decide +kernel
theorem dX10_isWell_12 : decode cX10_isWell 12 = .ok (.ireturn, 1) := by decide +kernel
theorem dX10_fails_0 : decode cX10_fails 0 = .ok (.aload_n 0, 1) := by decide +kernel
theorem dX10_fails_1 : decode cX10_fails 1 = .ok (.aload_n 0, 1) := by decide +kernel
theorem dX10_fails_2 : decode cX10_fails 2 = .ok (.getfield 119, 3) := by decide +kernel
theorem dX10_fails_5 : decode cX10_fails 5 = .ok (.ifCond .ge 10, 3) := by decide +kernel
theorem dX10_fails_8 : decode cX10_fails 8 = .ok (.aload_n 0, 1) := by decide +kernel
theorem dX10_fails_9 : decode cX10_fails 9 = .ok (.getfield 106, 3) := by decide +kernel
theorem dX10_fails_12 : decode cX10_fails 12 = .ok (.goto 7, 3) := by decide +kernel
theorem dX10_fails_15 : decode cX10_fails 15 = .ok (.aload_n 0, 1) := by decide +kernel
theorem dX10_fails_16 : decode cX10_fails 16 = .ok (.getfield 119, 3) := by decide +kernel
theorem dX10_fails_19 : decode cX10_fails 19 = .ok (.putfield 119, 3) := by decide +kernel
theorem dX10_fails_22 : decode cX10_fails 22 = .ok (.return_, 1) := by decide +kernel
theorem chIwsX10_isSign_0 : ∀ w ∈ ([.code yX10_isSign cX10_isSign 2 (some .boolean)] : List Cond), w ∈ wsX10_isSign := fun _ h => (List.mem_cons.mpr (Or.inl (List.mem_singleton.mp h)))
theorem chIwsX10_isSign_1 : ∀ w ∈ ([.fieldLink RX10 109 "WatchedProgramsModel" "token" "I", .fieldLink RX10 112 "WatchedProgramsModel" "value" "I", .methodLink RX10 122 yX10_isWell, .instanceMethod yX10_isWell, .selects RX10 yX10_isWell yX10_isWell, .initialized RX10, .code yX10_isWell cX10_isWell 1 (some .boolean), .fieldLink RX10 119 "WatchedProgramsModel" "fault" "I"] : List Cond), w ∈ wsX10_isSign := fun _ h => (List.mem_cons_of_mem _ (List.mem_append_left _ h))
theorem chIwsX10_isSign_2 : ∀ w ∈ (wsX100 : List Cond), w ∈ wsX10_isSign := fun _ h => (List.mem_cons_of_mem _ (List.mem_append_right _ h))
def chwsX10_isSign : Nat → List Cond
  | 0 => [.code yX10_isSign cX10_isSign 2 (some .boolean)]
  | 1 => [.fieldLink RX10 109 "WatchedProgramsModel" "token" "I", .fieldLink RX10 112 "WatchedProgramsModel" "value" "I", .methodLink RX10 122 yX10_isWell, .instanceMethod yX10_isWell, .selects RX10 yX10_isWell yX10_isWell, .initialized RX10, .code yX10_isWell cX10_isWell 1 (some .boolean), .fieldLink RX10 119 "WatchedProgramsModel" "fault" "I"]
  | 2 => wsX100
  | _ => []
theorem chwsX10_isSign_in : ∀ (j : Nat) (w : Cond), w ∈ chwsX10_isSign j → w ∈ wsX10_isSign
  | 0, w, h => chIwsX10_isSign_0 w h
  | 1, w, h => chIwsX10_isSign_1 w h
  | 2, w, h => chIwsX10_isSign_2 w h
  | _ + 3, _, h => absurd h List.not_mem_nil
set_option maxRecDepth 20000 in
theorem ggX10_isSign_X10_isWell : GoodIn wsX10_isSign wsX10_isWell := goodIn_r2 chwsX10_isSign chwsX10_isSign_in _ [(1, 6), (1, 7), (2, 0), (2, 1), (2, 2), (2, 3), (2, 4), (2, 5), (2, 6), (2, 7), (2, 8), (2, 9), (2, 10), (2, 11), (2, 12), (2, 13), (2, 14), (2, 15), (2, 16), (2, 17), (2, 18), (2, 19), (2, 20), (2, 21), (2, 22), (2, 23), (2, 24), (2, 25), (2, 26), (2, 27), (2, 28), (2, 29), (2, 30), (2, 31), (2, 32), (2, 33), (2, 34), (2, 35), (2, 36), (2, 37), (2, 38), (2, 39)] rfl (by decide +kernel)
set_option maxRecDepth 20000 in
theorem gX10_isSign_X10_isWell : GoodIn wsX10_isSign (wsV RX10 122 RX10 yX10_isWell wsX10_isWell) := goodIn_app (goodIn_r2 chwsX10_isSign chwsX10_isSign_in _ [(1, 2), (1, 3), (1, 4), (1, 5)] rfl (by decide +kernel)) ggX10_isSign_X10_isWell
theorem dX10_isSign_0 : decode cX10_isSign 0 = .ok (.aload_n 0, 1) := by decide +kernel
theorem dX10_isSign_1 : decode cX10_isSign 1 = .ok (.invokevirtual 122, 3) := by decide +kernel
theorem dX10_isSign_4 : decode cX10_isSign 4 = .ok (.ifCond .eq 24, 3) := by decide +kernel
theorem dX10_isSign_7 : decode cX10_isSign 7 = .ok (.aload_n 0, 1) := by decide +kernel
theorem dX10_isSign_8 : decode cX10_isSign 8 = .ok (.getfield 109, 3) := by decide +kernel
theorem dX10_isSign_11 : decode cX10_isSign 11 = .ok (.bipush 7, 2) := by decide +kernel
theorem dX10_isSign_13 : decode cX10_isSign 13 = .ok (.if_icmp .ne 15, 3) := by decide +kernel
theorem dX10_isSign_16 : decode cX10_isSign 16 = .ok (.aload_n 0, 1) := by decide +kernel
theorem dX10_isSign_17 : decode cX10_isSign 17 = .ok (.getfield 112, 3) := by decide +kernel
theorem dX10_isSign_20 : decode cX10_isSign 20 = .ok (.iload_n 1, 1) := by decide +kernel
theorem dX10_isSign_21 : decode cX10_isSign 21 = .ok (.if_icmp .ne 7, 3) := by decide +kernel
theorem dX10_isSign_24 : decode cX10_isSign 24 = .ok (.iconst 1, 1) := by decide +kernel
theorem dX10_isSign_25 : decode cX10_isSign 25 = .ok (.goto 4, 3) := by decide +kernel
theorem dX10_isSign_28 : decode cX10_isSign 28 = .ok (.iconst 0, 1) := by decide +kernel
theorem dX10_isSign_29 : decode cX10_isSign 29 = .ok (.ireturn, 1) := by decide +kernel
theorem chIwsX10_takesSign_0 : ∀ w ∈ ([.code yX10_takesSign cX10_takesSign 2 none] : List Cond), w ∈ wsX10_takesSign := fun _ h => (List.mem_cons.mpr (Or.inl (List.mem_singleton.mp h)))
theorem chIwsX10_takesSign_1 : ∀ w ∈ (wsX10_takesSign_r1 : List Cond), w ∈ wsX10_takesSign := fun _ h => (List.mem_cons_of_mem _ (List.mem_append_left _ (List.mem_append_left _ h)))
theorem chIwsX10_takesSign_2 : ∀ w ∈ (wsX10_takesSign_r2 : List Cond), w ∈ wsX10_takesSign := fun _ h => (List.mem_cons_of_mem _ (List.mem_append_left _ (List.mem_append_right _ h)))
theorem chIwsX10_takesSign_3 : ∀ w ∈ (wsX100 : List Cond), w ∈ wsX10_takesSign := fun _ h => (List.mem_cons_of_mem _ (List.mem_append_right _ h))
def chwsX10_takesSign : Nat → List Cond
  | 0 => [.code yX10_takesSign cX10_takesSign 2 none]
  | 1 => wsX10_takesSign_r1
  | 2 => wsX10_takesSign_r2
  | 3 => wsX100
  | _ => []
theorem chwsX10_takesSign_in : ∀ (j : Nat) (w : Cond), w ∈ chwsX10_takesSign j → w ∈ wsX10_takesSign
  | 0, w, h => chIwsX10_takesSign_0 w h
  | 1, w, h => chIwsX10_takesSign_1 w h
  | 2, w, h => chIwsX10_takesSign_2 w h
  | 3, w, h => chIwsX10_takesSign_3 w h
  | _ + 4, _, h => absurd h List.not_mem_nil
set_option maxRecDepth 20000 in
theorem ggX10_takesSign_X10_isSign : GoodIn wsX10_takesSign wsX10_isSign := goodIn_r2 chwsX10_takesSign chwsX10_takesSign_in _ [(1, 4), (1, 5), (1, 6), (1, 7), (1, 8), (1, 9), (1, 3), (1, 10), (1, 11), (3, 0), (3, 1), (3, 2), (3, 3), (3, 4), (3, 5), (3, 6), (3, 7), (3, 8), (3, 9), (3, 10), (3, 11), (3, 12), (3, 13), (3, 14), (3, 15), (3, 16), (3, 17), (3, 18), (3, 19), (3, 20), (3, 21), (3, 22), (3, 23), (3, 24), (3, 25), (3, 26), (3, 27), (3, 28), (3, 29), (3, 30), (3, 31), (3, 32), (3, 33), (3, 34), (3, 35), (3, 36), (3, 37), (3, 38), (3, 39)] rfl (by decide +kernel)
set_option maxRecDepth 20000 in
theorem gX10_takesSign_X10_isSign : GoodIn wsX10_takesSign (wsV RX10 126 RX10 yX10_isSign wsX10_isSign) := goodIn_app (goodIn_r2 chwsX10_takesSign chwsX10_takesSign_in _ [(1, 0), (1, 1), (1, 2), (1, 3)] rfl (by decide +kernel)) ggX10_takesSign_X10_isSign
set_option maxRecDepth 20000 in
theorem ggX10_takesSign_X10_advances : GoodIn wsX10_takesSign wsX10_advances := goodIn_r2 chwsX10_takesSign chwsX10_takesSign_in _ [(1, 15), (1, 16), (1, 17), (1, 5), (1, 6), (1, 18), (1, 19), (1, 20), (1, 3), (1, 21), (1, 22), (1, 23), (2, 0), (2, 1), (2, 2), (2, 3), (2, 4), (2, 5), (2, 6), (2, 7), (2, 8), (2, 9), (3, 0), (3, 1), (3, 2), (3, 3), (3, 4), (3, 5), (3, 6), (3, 7), (3, 8), (3, 9), (3, 10), (3, 11), (3, 12), (3, 13), (3, 14), (3, 15), (3, 16), (3, 17), (3, 18), (3, 19), (3, 20), (3, 21), (3, 22), (3, 23), (3, 24), (3, 25), (3, 26), (3, 27), (3, 28), (3, 29), (3, 30), (3, 31), (3, 32), (3, 33), (3, 34), (3, 35), (3, 36), (3, 37), (3, 38), (3, 39)] rfl (by decide +kernel)
set_option maxRecDepth 20000 in
theorem gX10_takesSign_X10_advances : GoodIn wsX10_takesSign (wsV RX10 130 RX10 yX10_advances wsX10_advances) := goodIn_app (goodIn_r2 chwsX10_takesSign chwsX10_takesSign_in _ [(1, 12), (1, 13), (1, 14), (1, 3)] rfl (by decide +kernel)) ggX10_takesSign_X10_advances
set_option maxRecDepth 20000 in
theorem ggX10_takesSign_X10_fails : GoodIn wsX10_takesSign wsX10_fails := goodIn_r2 chwsX10_takesSign chwsX10_takesSign_in _ [(2, 13), (1, 11), (1, 17), (3, 0), (3, 1), (3, 2), (3, 3), (3, 4), (3, 5), (3, 6), (3, 7), (3, 8), (3, 9), (3, 10), (3, 11), (3, 12), (3, 13), (3, 14), (3, 15), (3, 16), (3, 17), (3, 18), (3, 19), (3, 20), (3, 21), (3, 22), (3, 23), (3, 24), (3, 25), (3, 26), (3, 27), (3, 28), (3, 29), (3, 30), (3, 31), (3, 32), (3, 33), (3, 34), (3, 35), (3, 36), (3, 37), (3, 38), (3, 39)] rfl (by decide +kernel)
set_option maxRecDepth 20000 in
theorem gX10_takesSign_X10_fails : GoodIn wsX10_takesSign (wsV RX10 133 RX10 yX10_fails wsX10_fails) := goodIn_app (goodIn_r2 chwsX10_takesSign chwsX10_takesSign_in _ [(2, 10), (2, 11), (2, 12), (1, 3)] rfl (by decide +kernel)) ggX10_takesSign_X10_fails
theorem dX10_takesSign_0 : decode cX10_takesSign 0 = .ok (.aload_n 0, 1) := by decide +kernel
theorem dX10_takesSign_1 : decode cX10_takesSign 1 = .ok (.iload_n 1, 1) := by decide +kernel
theorem dX10_takesSign_2 : decode cX10_takesSign 2 = .ok (.invokevirtual 126, 3) := by decide +kernel
theorem dX10_takesSign_5 : decode cX10_takesSign 5 = .ok (.ifCond .eq 10, 3) := by decide +kernel
theorem dX10_takesSign_8 : decode cX10_takesSign 8 = .ok (.aload_n 0, 1) := by decide +kernel
theorem dX10_takesSign_9 : decode cX10_takesSign 9 = .ok (.invokevirtual 130, 3) := by decide +kernel
theorem dX10_takesSign_12 : decode cX10_takesSign 12 = .ok (.goto 7, 3) := by decide +kernel
theorem dX10_takesSign_15 : decode cX10_takesSign 15 = .ok (.aload_n 0, 1) := by decide +kernel
theorem dX10_takesSign_16 : decode cX10_takesSign 16 = .ok (.invokevirtual 133, 3) := by decide +kernel
theorem dX10_takesSign_19 : decode cX10_takesSign 19 = .ok (.return_, 1) := by decide +kernel
theorem chIwsX10_takesNumber_0 : ∀ w ∈ ([.code yX10_takesNumber cX10_takesNumber 3 (some .int)] : List Cond), w ∈ wsX10_takesNumber := fun _ h => (List.mem_cons.mpr (Or.inl (List.mem_singleton.mp h)))
theorem chIwsX10_takesNumber_1 : ∀ w ∈ (wsX10_takesNumber_r1 : List Cond), w ∈ wsX10_takesNumber := fun _ h => (List.mem_cons_of_mem _ (List.mem_append_left _ (List.mem_append_left _ h)))
theorem chIwsX10_takesNumber_2 : ∀ w ∈ (wsX10_takesNumber_r2 : List Cond), w ∈ wsX10_takesNumber := fun _ h => (List.mem_cons_of_mem _ (List.mem_append_left _ (List.mem_append_right _ h)))
theorem chIwsX10_takesNumber_3 : ∀ w ∈ (wsX100 : List Cond), w ∈ wsX10_takesNumber := fun _ h => (List.mem_cons_of_mem _ (List.mem_append_right _ h))
def chwsX10_takesNumber : Nat → List Cond
  | 0 => [.code yX10_takesNumber cX10_takesNumber 3 (some .int)]
  | 1 => wsX10_takesNumber_r1
  | 2 => wsX10_takesNumber_r2
  | 3 => wsX100
  | _ => []
theorem chwsX10_takesNumber_in : ∀ (j : Nat) (w : Cond), w ∈ chwsX10_takesNumber j → w ∈ wsX10_takesNumber
  | 0, w, h => chIwsX10_takesNumber_0 w h
  | 1, w, h => chIwsX10_takesNumber_1 w h
  | 2, w, h => chIwsX10_takesNumber_2 w h
  | 3, w, h => chIwsX10_takesNumber_3 w h
  | _ + 4, _, h => absurd h List.not_mem_nil
set_option maxRecDepth 20000 in
theorem ggX10_takesNumber_X10_isWell : GoodIn wsX10_takesNumber wsX10_isWell := goodIn_r2 chwsX10_takesNumber chwsX10_takesNumber_in _ [(1, 6), (1, 7), (3, 0), (3, 1), (3, 2), (3, 3), (3, 4), (3, 5), (3, 6), (3, 7), (3, 8), (3, 9), (3, 10), (3, 11), (3, 12), (3, 13), (3, 14), (3, 15), (3, 16), (3, 17), (3, 18), (3, 19), (3, 20), (3, 21), (3, 22), (3, 23), (3, 24), (3, 25), (3, 26), (3, 27), (3, 28), (3, 29), (3, 30), (3, 31), (3, 32), (3, 33), (3, 34), (3, 35), (3, 36), (3, 37), (3, 38), (3, 39)] rfl (by decide +kernel)
set_option maxRecDepth 20000 in
theorem gX10_takesNumber_X10_isWell : GoodIn wsX10_takesNumber (wsV RX10 122 RX10 yX10_isWell wsX10_isWell) := goodIn_app (goodIn_r2 chwsX10_takesNumber chwsX10_takesNumber_in _ [(1, 2), (1, 3), (1, 4), (1, 5)] rfl (by decide +kernel)) ggX10_takesNumber_X10_isWell
set_option maxRecDepth 20000 in
theorem ggX10_takesNumber_X10_fails : GoodIn wsX10_takesNumber wsX10_fails := goodIn_r2 chwsX10_takesNumber chwsX10_takesNumber_in _ [(1, 11), (1, 7), (1, 12), (3, 0), (3, 1), (3, 2), (3, 3), (3, 4), (3, 5), (3, 6), (3, 7), (3, 8), (3, 9), (3, 10), (3, 11), (3, 12), (3, 13), (3, 14), (3, 15), (3, 16), (3, 17), (3, 18), (3, 19), (3, 20), (3, 21), (3, 22), (3, 23), (3, 24), (3, 25), (3, 26), (3, 27), (3, 28), (3, 29), (3, 30), (3, 31), (3, 32), (3, 33), (3, 34), (3, 35), (3, 36), (3, 37), (3, 38), (3, 39)] rfl (by decide +kernel)
set_option maxRecDepth 20000 in
theorem gX10_takesNumber_X10_fails : GoodIn wsX10_takesNumber (wsV RX10 133 RX10 yX10_fails wsX10_fails) := goodIn_app (goodIn_r2 chwsX10_takesNumber chwsX10_takesNumber_in _ [(1, 8), (1, 9), (1, 10), (1, 5)] rfl (by decide +kernel)) ggX10_takesNumber_X10_fails
set_option maxRecDepth 20000 in
theorem ggX10_takesNumber_X10_advances : GoodIn wsX10_takesNumber wsX10_advances := goodIn_r2 chwsX10_takesNumber chwsX10_takesNumber_in _ [(1, 16), (1, 17), (1, 12), (1, 0), (1, 1), (1, 18), (1, 19), (1, 20), (1, 5), (1, 21), (1, 22), (1, 23), (2, 0), (2, 1), (2, 2), (2, 3), (2, 4), (2, 5), (2, 6), (2, 7), (2, 8), (2, 9), (3, 0), (3, 1), (3, 2), (3, 3), (3, 4), (3, 5), (3, 6), (3, 7), (3, 8), (3, 9), (3, 10), (3, 11), (3, 12), (3, 13), (3, 14), (3, 15), (3, 16), (3, 17), (3, 18), (3, 19), (3, 20), (3, 21), (3, 22), (3, 23), (3, 24), (3, 25), (3, 26), (3, 27), (3, 28), (3, 29), (3, 30), (3, 31), (3, 32), (3, 33), (3, 34), (3, 35), (3, 36), (3, 37), (3, 38), (3, 39)] rfl (by decide +kernel)
set_option maxRecDepth 20000 in
theorem gX10_takesNumber_X10_advances : GoodIn wsX10_takesNumber (wsV RX10 130 RX10 yX10_advances wsX10_advances) := goodIn_app (goodIn_r2 chwsX10_takesNumber chwsX10_takesNumber_in _ [(1, 13), (1, 14), (1, 15), (1, 5)] rfl (by decide +kernel)) ggX10_takesNumber_X10_advances
theorem dX10_takesNumber_0 : decode cX10_takesNumber 0 = .ok (.aload_n 0, 1) := by decide +kernel
theorem dX10_takesNumber_1 : decode cX10_takesNumber 1 = .ok (.invokevirtual 122, 3) := by decide +kernel
theorem dX10_takesNumber_4 : decode cX10_takesNumber 4 = .ok (.ifCond .eq 20, 3) := by decide +kernel
theorem dX10_takesNumber_7 : decode cX10_takesNumber 7 = .ok (.aload_n 0, 1) := by decide +kernel
theorem dX10_takesNumber_8 : decode cX10_takesNumber 8 = .ok (.getfield 109, 3) := by decide +kernel
theorem dX10_takesNumber_11 : decode cX10_takesNumber 11 = .ok (.bipush 6, 2) := by decide +kernel
theorem dX10_takesNumber_13 : decode cX10_takesNumber 13 = .ok (.if_icmp .ne 11, 3) := by decide +kernel
theorem dX10_takesNumber_16 : decode cX10_takesNumber 16 = .ok (.aload_n 0, 1) := by decide +kernel
theorem dX10_takesNumber_17 : decode cX10_takesNumber 17 = .ok (.getfield 112, 3) := by decide +kernel
theorem dX10_takesNumber_20 : decode cX10_takesNumber 20 = .ok (.iload_n 1, 1) := by decide +kernel
theorem dX10_takesNumber_21 : decode cX10_takesNumber 21 = .ok (.if_icmp .le 9, 3) := by decide +kernel
theorem dX10_takesNumber_24 : decode cX10_takesNumber 24 = .ok (.aload_n 0, 1) := by decide +kernel
theorem dX10_takesNumber_25 : decode cX10_takesNumber 25 = .ok (.invokevirtual 133, 3) := by decide +kernel
theorem dX10_takesNumber_28 : decode cX10_takesNumber 28 = .ok (.iconst 0, 1) := by decide +kernel
theorem dX10_takesNumber_29 : decode cX10_takesNumber 29 = .ok (.ireturn, 1) := by decide +kernel
theorem dX10_takesNumber_30 : decode cX10_takesNumber 30 = .ok (.aload_n 0, 1) := by decide +kernel
theorem dX10_takesNumber_31 : decode cX10_takesNumber 31 = .ok (.getfield 112, 3) := by decide +kernel
theorem dX10_takesNumber_34 : decode cX10_takesNumber 34 = .ok (.istore_n 2, 1) := by decide +kernel
theorem dX10_takesNumber_35 : decode cX10_takesNumber 35 = .ok (.aload_n 0, 1) := by decide +kernel
theorem dX10_takesNumber_36 : decode cX10_takesNumber 36 = .ok (.invokevirtual 130, 3) := by decide +kernel
theorem dX10_takesNumber_39 : decode cX10_takesNumber 39 = .ok (.iload_n 2, 1) := by decide +kernel
theorem dX10_takesNumber_40 : decode cX10_takesNumber 40 = .ok (.ireturn, 1) := by decide +kernel
theorem dX10_puts_0 : decode cX10_puts 0 = .ok (.aload_n 0, 1) := by decide +kernel
theorem dX10_puts_1 : decode cX10_puts 1 = .ok (.getfield 19, 3) := by decide +kernel
theorem dX10_puts_4 : decode cX10_puts 4 = .ok (.sipush 300, 3) := by decide +kernel
theorem dX10_puts_7 : decode cX10_puts 7 = .ok (.aload_n 0, 1) := by decide +kernel
theorem dX10_puts_8 : decode cX10_puts 8 = .ok (.getfield 136, 3) := by decide +kernel
theorem dX10_puts_11 : decode cX10_puts 11 = .ok (.iadd, 1) := by decide +kernel
theorem dX10_puts_12 : decode cX10_puts 12 = .ok (.iload_n 1, 1) := by decide +kernel
theorem dX10_puts_13 : decode cX10_puts 13 = .ok (.iastore, 1) := by decide +kernel
theorem dX10_puts_14 : decode cX10_puts 14 = .ok (.aload_n 0, 1) := by decide +kernel
theorem dX10_puts_15 : decode cX10_puts 15 = .ok (.dup, 1) := by decide +kernel
theorem dX10_puts_16 : decode cX10_puts 16 = .ok (.getfield 136, 3) := by decide +kernel
theorem dX10_puts_19 : decode cX10_puts 19 = .ok (.iconst 1, 1) := by decide +kernel
theorem dX10_puts_20 : decode cX10_puts 20 = .ok (.iadd, 1) := by decide +kernel
theorem dX10_puts_21 : decode cX10_puts 21 = .ok (.putfield 136, 3) := by decide +kernel
theorem dX10_puts_24 : decode cX10_puts 24 = .ok (.return_, 1) := by decide +kernel
theorem dX10_close_0 : decode cX10_close 0 = .ok (.iload_n 0, 1) := by decide +kernel
theorem dX10_close_1 : decode cX10_close 1 = .ok (.bipush 42, 2) := by decide +kernel
theorem dX10_close_3 : decode cX10_close 3 = .ok (.if_icmp .eq 9, 3) := by decide +kernel
theorem dX10_close_6 : decode cX10_close 6 = .ok (.iload_n 0, 1) := by decide +kernel
theorem dX10_close_7 : decode cX10_close 7 = .ok (.bipush 38, 2) := by decide +kernel
theorem dX10_close_9 : decode cX10_close 9 = .ok (.if_icmp .ne 7, 3) := by decide +kernel
theorem dX10_close_12 : decode cX10_close 12 = .ok (.iconst 3, 1) := by decide +kernel
theorem dX10_close_13 : decode cX10_close 13 = .ok (.goto 36, 3) := by decide +kernel
theorem dX10_close_16 : decode cX10_close 16 = .ok (.iload_n 0, 1) := by decide +kernel
theorem dX10_close_17 : decode cX10_close 17 = .ok (.bipush 43, 2) := by decide +kernel
theorem dX10_close_19 : decode cX10_close 19 = .ok (.if_icmp .eq 9, 3) := by decide +kernel
theorem dX10_close_22 : decode cX10_close 22 = .ok (.iload_n 0, 1) := by decide +kernel
theorem dX10_close_23 : decode cX10_close 23 = .ok (.bipush 45, 2) := by decide +kernel
theorem dX10_close_25 : decode cX10_close 25 = .ok (.if_icmp .ne 7, 3) := by decide +kernel
theorem dX10_close_28 : decode cX10_close 28 = .ok (.iconst 2, 1) := by decide +kernel
theorem dX10_close_29 : decode cX10_close 29 = .ok (.goto 20, 3) := by decide +kernel
theorem dX10_close_32 : decode cX10_close 32 = .ok (.iload_n 0, 1) := by decide +kernel
theorem dX10_close_33 : decode cX10_close 33 = .ok (.bipush 60, 2) := by decide +kernel
theorem dX10_close_35 : decode cX10_close 35 = .ok (.if_icmp .eq 9, 3) := by decide +kernel
theorem dX10_close_38 : decode cX10_close 38 = .ok (.iload_n 0, 1) := by decide +kernel
theorem dX10_close_39 : decode cX10_close 39 = .ok (.bipush 61, 2) := by decide +kernel
theorem dX10_close_41 : decode cX10_close 41 = .ok (.if_icmp .ne 7, 3) := by decide +kernel
theorem dX10_close_44 : decode cX10_close 44 = .ok (.iconst 1, 1) := by decide +kernel
theorem dX10_close_45 : decode cX10_close 45 = .ok (.goto 4, 3) := by decide +kernel
theorem dX10_close_48 : decode cX10_close 48 = .ok (.iconst 0, 1) := by decide +kernel
theorem dX10_close_49 : decode cX10_close 49 = .ok (.ireturn, 1) := by decide +kernel
theorem chIwsX10_readsSum_0 : ∀ w ∈ ([.code yX10_readsSum cX10_readsSum 9 none] : List Cond), w ∈ wsX10_readsSum := fun _ h => (List.mem_cons.mpr (Or.inl (List.mem_singleton.mp h)))
theorem chIwsX10_readsSum_1 : ∀ w ∈ (wsX10_readsSum_r1 : List Cond), w ∈ wsX10_readsSum := fun _ h => (List.mem_cons_of_mem _ (List.mem_append_left _ (List.mem_append_left _ h)))
theorem chIwsX10_readsSum_2 : ∀ w ∈ (wsX10_readsSum_r2 : List Cond), w ∈ wsX10_readsSum := fun _ h => (List.mem_cons_of_mem _ (List.mem_append_left _ (List.mem_append_right _ (List.mem_append_left _ h))))
theorem chIwsX10_readsSum_3 : ∀ w ∈ (wsX10_readsSum_r3 : List Cond), w ∈ wsX10_readsSum := fun _ h => (List.mem_cons_of_mem _ (List.mem_append_left _ (List.mem_append_right _ (List.mem_append_right _ h))))
theorem chIwsX10_readsSum_4 : ∀ w ∈ (wsX100 : List Cond), w ∈ wsX10_readsSum := fun _ h => (List.mem_cons_of_mem _ (List.mem_append_right _ h))
def chwsX10_readsSum : Nat → List Cond
  | 0 => [.code yX10_readsSum cX10_readsSum 9 none]
  | 1 => wsX10_readsSum_r1
  | 2 => wsX10_readsSum_r2
  | 3 => wsX10_readsSum_r3
  | 4 => wsX100
  | _ => []
theorem chwsX10_readsSum_in : ∀ (j : Nat) (w : Cond), w ∈ chwsX10_readsSum j → w ∈ wsX10_readsSum
  | 0, w, h => chIwsX10_readsSum_0 w h
  | 1, w, h => chIwsX10_readsSum_1 w h
  | 2, w, h => chIwsX10_readsSum_2 w h
  | 3, w, h => chIwsX10_readsSum_3 w h
  | 4, w, h => chIwsX10_readsSum_4 w h
  | _ + 5, _, h => absurd h List.not_mem_nil
set_option maxRecDepth 20000 in
theorem ggX10_readsSum_X10_isWell : GoodIn wsX10_readsSum wsX10_isWell := goodIn_r2 chwsX10_readsSum chwsX10_readsSum_in _ [(1, 9), (1, 10), (4, 0), (4, 1), (4, 2), (4, 3), (4, 4), (4, 5), (4, 6), (4, 7), (4, 8), (4, 9), (4, 10), (4, 11), (4, 12), (4, 13), (4, 14), (4, 15), (4, 16), (4, 17), (4, 18), (4, 19), (4, 20), (4, 21), (4, 22), (4, 23), (4, 24), (4, 25), (4, 26), (4, 27), (4, 28), (4, 29), (4, 30), (4, 31), (4, 32), (4, 33), (4, 34), (4, 35), (4, 36), (4, 37), (4, 38), (4, 39)] rfl (by decide +kernel)
set_option maxRecDepth 20000 in
theorem gX10_readsSum_X10_isWell : GoodIn wsX10_readsSum (wsV RX10 122 RX10 yX10_isWell wsX10_isWell) := goodIn_app (goodIn_r2 chwsX10_readsSum chwsX10_readsSum_in _ [(1, 5), (1, 6), (1, 7), (1, 8)] rfl (by decide +kernel)) ggX10_readsSum_X10_isWell
set_option maxRecDepth 20000 in
theorem ggX10_readsSum_X10_isSign : GoodIn wsX10_readsSum wsX10_isSign := goodIn_r2 chwsX10_readsSum chwsX10_readsSum_in _ [(1, 14), (1, 2), (1, 3), (1, 5), (1, 6), (1, 7), (1, 8), (1, 9), (1, 10), (4, 0), (4, 1), (4, 2), (4, 3), (4, 4), (4, 5), (4, 6), (4, 7), (4, 8), (4, 9), (4, 10), (4, 11), (4, 12), (4, 13), (4, 14), (4, 15), (4, 16), (4, 17), (4, 18), (4, 19), (4, 20), (4, 21), (4, 22), (4, 23), (4, 24), (4, 25), (4, 26), (4, 27), (4, 28), (4, 29), (4, 30), (4, 31), (4, 32), (4, 33), (4, 34), (4, 35), (4, 36), (4, 37), (4, 38), (4, 39)] rfl (by decide +kernel)
set_option maxRecDepth 20000 in
theorem gX10_readsSum_X10_isSign : GoodIn wsX10_readsSum (wsV RX10 126 RX10 yX10_isSign wsX10_isSign) := goodIn_app (goodIn_r2 chwsX10_readsSum chwsX10_readsSum_in _ [(1, 11), (1, 12), (1, 13), (1, 8)] rfl (by decide +kernel)) ggX10_readsSum_X10_isSign
set_option maxRecDepth 20000 in
theorem ggX10_readsSum_X10_advances : GoodIn wsX10_readsSum wsX10_advances := goodIn_r2 chwsX10_readsSum chwsX10_readsSum_in _ [(1, 18), (1, 19), (1, 20), (1, 2), (1, 3), (1, 21), (1, 22), (1, 23), (1, 8), (2, 0), (2, 1), (2, 2), (2, 3), (2, 4), (2, 5), (2, 6), (2, 7), (2, 8), (2, 9), (2, 10), (2, 11), (2, 12), (4, 0), (4, 1), (4, 2), (4, 3), (4, 4), (4, 5), (4, 6), (4, 7), (4, 8), (4, 9), (4, 10), (4, 11), (4, 12), (4, 13), (4, 14), (4, 15), (4, 16), (4, 17), (4, 18), (4, 19), (4, 20), (4, 21), (4, 22), (4, 23), (4, 24), (4, 25), (4, 26), (4, 27), (4, 28), (4, 29), (4, 30), (4, 31), (4, 32), (4, 33), (4, 34), (4, 35), (4, 36), (4, 37), (4, 38), (4, 39)] rfl (by decide +kernel)
set_option maxRecDepth 20000 in
theorem gX10_readsSum_X10_advances : GoodIn wsX10_readsSum (wsV RX10 130 RX10 yX10_advances wsX10_advances) := goodIn_app (goodIn_r2 chwsX10_readsSum chwsX10_readsSum_in _ [(1, 15), (1, 16), (1, 17), (1, 8)] rfl (by decide +kernel)) ggX10_readsSum_X10_advances
set_option maxRecDepth 20000 in
theorem ggX10_readsSum_X10_puts : GoodIn wsX10_readsSum wsX10_puts := goodIn_r2 chwsX10_readsSum chwsX10_readsSum_in _ [(2, 16), (2, 17), (1, 1), (4, 0), (4, 1), (4, 2), (4, 3), (4, 4), (4, 5), (4, 6), (4, 7), (4, 8), (4, 9), (4, 10), (4, 11), (4, 12), (4, 13), (4, 14), (4, 15), (4, 16), (4, 17), (4, 18), (4, 19), (4, 20), (4, 21), (4, 22), (4, 23), (4, 24), (4, 25), (4, 26), (4, 27), (4, 28), (4, 29), (4, 30), (4, 31), (4, 32), (4, 33), (4, 34), (4, 35), (4, 36), (4, 37), (4, 38), (4, 39)] rfl (by decide +kernel)
set_option maxRecDepth 20000 in
theorem gX10_readsSum_X10_puts : GoodIn wsX10_readsSum (wsV RX10 139 RX10 yX10_puts wsX10_puts) := goodIn_app (goodIn_r2 chwsX10_readsSum chwsX10_readsSum_in _ [(2, 13), (2, 14), (2, 15), (1, 8)] rfl (by decide +kernel)) ggX10_readsSum_X10_puts
set_option maxRecDepth 20000 in
theorem ggX10_readsSum_X10_fails : GoodIn wsX10_readsSum wsX10_fails := goodIn_r2 chwsX10_readsSum chwsX10_readsSum_in _ [(2, 21), (1, 10), (1, 20), (4, 0), (4, 1), (4, 2), (4, 3), (4, 4), (4, 5), (4, 6), (4, 7), (4, 8), (4, 9), (4, 10), (4, 11), (4, 12), (4, 13), (4, 14), (4, 15), (4, 16), (4, 17), (4, 18), (4, 19), (4, 20), (4, 21), (4, 22), (4, 23), (4, 24), (4, 25), (4, 26), (4, 27), (4, 28), (4, 29), (4, 30), (4, 31), (4, 32), (4, 33), (4, 34), (4, 35), (4, 36), (4, 37), (4, 38), (4, 39)] rfl (by decide +kernel)
set_option maxRecDepth 20000 in
theorem gX10_readsSum_X10_fails : GoodIn wsX10_readsSum (wsV RX10 133 RX10 yX10_fails wsX10_fails) := goodIn_app (goodIn_r2 chwsX10_readsSum chwsX10_readsSum_in _ [(2, 18), (2, 19), (2, 20), (1, 8)] rfl (by decide +kernel)) ggX10_readsSum_X10_fails
set_option maxRecDepth 20000 in
theorem ggX10_readsSum_X10_close : GoodIn wsX10_readsSum wsX10_close := goodIn_r2 chwsX10_readsSum chwsX10_readsSum_in _ [(3, 0)] rfl (by decide +kernel)
set_option maxRecDepth 20000 in
theorem gX10_readsSum_X10_close : GoodIn wsX10_readsSum (va_wsS RX10 143 yX10_close wsX10_close) := goodIn_app (goodIn_r2 chwsX10_readsSum chwsX10_readsSum_in _ [(2, 22), (2, 23), (1, 8)] rfl (by decide +kernel)) ggX10_readsSum_X10_close
set_option maxRecDepth 20000 in
theorem ggX10_readsSum_X10_mayCompare : GoodIn wsX10_readsSum wsX10_mayCompare := goodIn_r2 chwsX10_readsSum chwsX10_readsSum_in _ [(3, 4), (1, 4), (2, 22), (2, 23), (1, 8), (3, 0), (4, 0), (4, 1), (4, 2), (4, 3), (4, 4), (4, 5), (4, 6), (4, 7), (4, 8), (4, 9), (4, 10), (4, 11), (4, 12), (4, 13), (4, 14), (4, 15), (4, 16), (4, 17), (4, 18), (4, 19), (4, 20), (4, 21), (4, 22), (4, 23), (4, 24), (4, 25), (4, 26), (4, 27), (4, 28), (4, 29), (4, 30), (4, 31), (4, 32), (4, 33), (4, 34), (4, 35), (4, 36), (4, 37), (4, 38), (4, 39)] rfl (by decide +kernel)
set_option maxRecDepth 20000 in
theorem gX10_readsSum_X10_mayCompare : GoodIn wsX10_readsSum (wsV RX10 146 RX10 yX10_mayCompare wsX10_mayCompare) := goodIn_app (goodIn_r2 chwsX10_readsSum chwsX10_readsSum_in _ [(3, 1), (3, 2), (3, 3), (1, 8)] rfl (by decide +kernel)) ggX10_readsSum_X10_mayCompare
set_option maxRecDepth 20000 in
theorem ggX10_readsSum_X10_hasOpen : GoodIn wsX10_readsSum wsX10_hasOpen := goodIn_r2 chwsX10_readsSum chwsX10_readsSum_in _ [(3, 8), (1, 4), (4, 0), (4, 1), (4, 2), (4, 3), (4, 4), (4, 5), (4, 6), (4, 7), (4, 8), (4, 9), (4, 10), (4, 11), (4, 12), (4, 13), (4, 14), (4, 15), (4, 16), (4, 17), (4, 18), (4, 19), (4, 20), (4, 21), (4, 22), (4, 23), (4, 24), (4, 25), (4, 26), (4, 27), (4, 28), (4, 29), (4, 30), (4, 31), (4, 32), (4, 33), (4, 34), (4, 35), (4, 36), (4, 37), (4, 38), (4, 39)] rfl (by decide +kernel)
set_option maxRecDepth 20000 in
theorem gX10_readsSum_X10_hasOpen : GoodIn wsX10_readsSum (wsV RX10 149 RX10 yX10_hasOpen wsX10_hasOpen) := goodIn_app (goodIn_r2 chwsX10_readsSum chwsX10_readsSum_in _ [(3, 5), (3, 6), (3, 7), (1, 8)] rfl (by decide +kernel)) ggX10_readsSum_X10_hasOpen
theorem dX10_readsSum_0 : decode cX10_readsSum 0 = .ok (.aload_n 0, 1) := by decide +kernel
theorem dX10_readsSum_1 : decode cX10_readsSum 1 = .ok (.getfield 16, 3) := by decide +kernel
theorem dX10_readsSum_4 : decode cX10_readsSum 4 = .ok (.iload_n 1, 1) := by decide +kernel
theorem dX10_readsSum_5 : decode cX10_readsSum 5 = .ok (.iconst 2, 1) := by decide +kernel
theorem dX10_readsSum_6 : decode cX10_readsSum 6 = .ok (.iadd, 1) := by decide +kernel
theorem dX10_readsSum_7 : decode cX10_readsSum 7 = .ok (.aload_n 0, 1) := by decide +kernel
theorem dX10_readsSum_8 : decode cX10_readsSum 8 = .ok (.getfield 136, 3) := by decide +kernel
theorem dX10_readsSum_11 : decode cX10_readsSum 11 = .ok (.iastore, 1) := by decide +kernel
theorem dX10_readsSum_12 : decode cX10_readsSum 12 = .ok (.iconst 0, 1) := by decide +kernel
theorem dX10_readsSum_13 : decode cX10_readsSum 13 = .ok (.istore_n 2, 1) := by decide +kernel
theorem dX10_readsSum_14 : decode cX10_readsSum 14 = .ok (.iconst 0, 1) := by decide +kernel
theorem dX10_readsSum_15 : decode cX10_readsSum 15 = .ok (.istore_n 3, 1) := by decide +kernel
theorem dX10_readsSum_16 : decode cX10_readsSum 16 = .ok (.iconst 0, 1) := by decide +kernel
theorem dX10_readsSum_17 : decode cX10_readsSum 17 = .ok (.istore 4, 2) := by decide +kernel
theorem dX10_readsSum_19 : decode cX10_readsSum 19 = .ok (.iconst 1, 1) := by decide +kernel
theorem dX10_readsSum_20 : decode cX10_readsSum 20 = .ok (.istore 5, 2) := by decide +kernel
theorem dX10_readsSum_22 : decode cX10_readsSum 22 = .ok (.iconst 1, 1) := by decide +kernel
theorem dX10_readsSum_23 : decode cX10_readsSum 23 = .ok (.istore 6, 2) := by decide +kernel
theorem dX10_readsSum_25 : decode cX10_readsSum 25 = .ok (.iload 6, 2) := by decide +kernel
theorem dX10_readsSum_27 : decode cX10_readsSum 27 = .ok (.ifCond .eq 378, 3) := by decide +kernel
theorem dX10_readsSum_30 : decode cX10_readsSum 30 = .ok (.aload_n 0, 1) := by decide +kernel
theorem dX10_readsSum_31 : decode cX10_readsSum 31 = .ok (.invokevirtual 122, 3) := by decide +kernel
theorem dX10_readsSum_34 : decode cX10_readsSum 34 = .ok (.ifCond .eq 371, 3) := by decide +kernel
theorem dX10_readsSum_37 : decode cX10_readsSum 37 = .ok (.iload 5, 2) := by decide +kernel
theorem dX10_readsSum_39 : decode cX10_readsSum 39 = .ok (.ifCond .eq 152, 3) := by decide +kernel
theorem dX10_readsSum_42 : decode cX10_readsSum 42 = .ok (.aload_n 0, 1) := by decide +kernel
theorem dX10_readsSum_43 : decode cX10_readsSum 43 = .ok (.bipush 33, 2) := by decide +kernel
theorem dX10_readsSum_45 : decode cX10_readsSum 45 = .ok (.invokevirtual 126, 3) := by decide +kernel
theorem dX10_readsSum_48 : decode cX10_readsSum 48 = .ok (.ifCond .ne 12, 3) := by decide +kernel
theorem dX10_readsSum_51 : decode cX10_readsSum 51 = .ok (.aload_n 0, 1) := by decide +kernel
theorem dX10_readsSum_52 : decode cX10_readsSum 52 = .ok (.bipush 40, 2) := by decide +kernel
theorem dX10_readsSum_54 : decode cX10_readsSum 54 = .ok (.invokevirtual 126, 3) := by decide +kernel
theorem dX10_readsSum_57 : decode cX10_readsSum 57 = .ok (.ifCond .eq 7, 3) := by decide +kernel
theorem dX10_readsSum_60 : decode cX10_readsSum 60 = .ok (.iconst 1, 1) := by decide +kernel
theorem dX10_readsSum_61 : decode cX10_readsSum 61 = .ok (.goto 4, 3) := by decide +kernel
theorem dX10_readsSum_64 : decode cX10_readsSum 64 = .ok (.iconst 0, 1) := by decide +kernel
theorem dX10_readsSum_65 : decode cX10_readsSum 65 = .ok (.istore 7, 2) := by decide +kernel
theorem dX10_readsSum_67 : decode cX10_readsSum 67 = .ok (.aload_n 0, 1) := by decide +kernel
theorem dX10_readsSum_68 : decode cX10_readsSum 68 = .ok (.getfield 109, 3) := by decide +kernel
theorem dX10_readsSum_71 : decode cX10_readsSum 71 = .ok (.iconst 5, 1) := by decide +kernel
theorem dX10_readsSum_72 : decode cX10_readsSum 72 = .ok (.if_icmp .eq 20, 3) := by decide +kernel
theorem dX10_readsSum_75 : decode cX10_readsSum 75 = .ok (.aload_n 0, 1) := by decide +kernel
theorem dX10_readsSum_76 : decode cX10_readsSum 76 = .ok (.getfield 109, 3) := by decide +kernel
theorem dX10_readsSum_79 : decode cX10_readsSum 79 = .ok (.bipush 6, 2) := by decide +kernel
theorem dX10_readsSum_81 : decode cX10_readsSum 81 = .ok (.if_icmp .ne 15, 3) := by decide +kernel
theorem dX10_readsSum_84 : decode cX10_readsSum 84 = .ok (.aload_n 0, 1) := by decide +kernel
theorem dX10_readsSum_85 : decode cX10_readsSum 85 = .ok (.getfield 112, 3) := by decide +kernel
theorem dX10_readsSum_88 : decode cX10_readsSum 88 = .ok (.iconst 4, 1) := by decide +kernel
theorem dX10_readsSum_89 : decode cX10_readsSum 89 = .ok (.if_icmp .ge 7, 3) := by decide +kernel
theorem dX10_readsSum_92 : decode cX10_readsSum 92 = .ok (.iconst 1, 1) := by decide +kernel
theorem dX10_readsSum_93 : decode cX10_readsSum 93 = .ok (.goto 4, 3) := by decide +kernel
theorem dX10_readsSum_96 : decode cX10_readsSum 96 = .ok (.iconst 0, 1) := by decide +kernel
theorem dX10_readsSum_97 : decode cX10_readsSum 97 = .ok (.istore 8, 2) := by decide +kernel
theorem dX10_readsSum_99 : decode cX10_readsSum 99 = .ok (.iload 7, 2) := by decide +kernel
theorem dX10_readsSum_101 : decode cX10_readsSum 101 = .ok (.ifCond .eq 32, 3) := by decide +kernel
theorem dX10_readsSum_104 : decode cX10_readsSum 104 = .ok (.iload_n 3, 1) := by decide +kernel
theorem dX10_readsSum_105 : decode cX10_readsSum 105 = .ok (.bipush 8, 2) := by decide +kernel
theorem dX10_readsSum_107 : decode cX10_readsSum 107 = .ok (.if_icmp .ge 26, 3) := by decide +kernel
theorem dX10_readsSum_110 : decode cX10_readsSum 110 = .ok (.aload_n 0, 1) := by decide +kernel
theorem dX10_readsSum_111 : decode cX10_readsSum 111 = .ok (.getfield 22, 3) := by decide +kernel
theorem dX10_readsSum_114 : decode cX10_readsSum 114 = .ok (.iload_n 2, 1) := by decide +kernel
theorem dX10_readsSum_115 : decode cX10_readsSum 115 = .ok (.aload_n 0, 1) := by decide +kernel
theorem dX10_readsSum_116 : decode cX10_readsSum 116 = .ok (.getfield 112, 3) := by decide +kernel
theorem dX10_readsSum_119 : decode cX10_readsSum 119 = .ok (.iastore, 1) := by decide +kernel
theorem dX10_readsSum_120 : decode cX10_readsSum 120 = .ok (.iinc 2 1, 3) := by decide +kernel
theorem dX10_readsSum_123 : decode cX10_readsSum 123 = .ok (.iinc 3 1, 3) := by decide +kernel
theorem dX10_readsSum_126 : decode cX10_readsSum 126 = .ok (.aload_n 0, 1) := by decide +kernel
theorem dX10_readsSum_127 : decode cX10_readsSum 127 = .ok (.invokevirtual 130, 3) := by decide +kernel
theorem dX10_readsSum_130 : decode cX10_readsSum 130 = .ok (.goto 58, 3) := by decide +kernel
theorem dX10_readsSum_133 : decode cX10_readsSum 133 = .ok (.iload 8, 2) := by decide +kernel
theorem dX10_readsSum_135 : decode cX10_readsSum 135 = .ok (.ifCond .eq 49, 3) := by decide +kernel
theorem dX10_readsSum_138 : decode cX10_readsSum 138 = .ok (.iload 4, 2) := by decide +kernel
theorem dX10_readsSum_140 : decode cX10_readsSum 140 = .ok (.bipush 24, 2) := by decide +kernel
theorem dX10_readsSum_142 : decode cX10_readsSum 142 = .ok (.if_icmp .ge 42, 3) := by decide +kernel
theorem dX10_readsSum_145 : decode cX10_readsSum 145 = .ok (.aload_n 0, 1) := by decide +kernel
theorem dX10_readsSum_146 : decode cX10_readsSum 146 = .ok (.aload_n 0, 1) := by decide +kernel
theorem dX10_readsSum_147 : decode cX10_readsSum 147 = .ok (.getfield 109, 3) := by decide +kernel
theorem dX10_readsSum_150 : decode cX10_readsSum 150 = .ok (.iconst 5, 1) := by decide +kernel
theorem dX10_readsSum_151 : decode cX10_readsSum 151 = .ok (.if_icmp .ne 13, 3) := by decide +kernel
theorem dX10_readsSum_154 : decode cX10_readsSum 154 = .ok (.bipush 10, 2) := by decide +kernel
theorem dX10_readsSum_156 : decode cX10_readsSum 156 = .ok (.aload_n 0, 1) := by decide +kernel
theorem dX10_readsSum_157 : decode cX10_readsSum 157 = .ok (.getfield 112, 3) := by decide +kernel
theorem dX10_readsSum_160 : decode cX10_readsSum 160 = .ok (.iadd, 1) := by decide +kernel
theorem dX10_readsSum_161 : decode cX10_readsSum 161 = .ok (.goto 7, 3) := by decide +kernel
theorem dX10_readsSum_164 : decode cX10_readsSum 164 = .ok (.aload_n 0, 1) := by decide +kernel
theorem dX10_readsSum_165 : decode cX10_readsSum 165 = .ok (.getfield 112, 3) := by decide +kernel
theorem dX10_readsSum_168 : decode cX10_readsSum 168 = .ok (.invokevirtual 139, 3) := by decide +kernel
theorem dX10_readsSum_171 : decode cX10_readsSum 171 = .ok (.iinc 4 1, 3) := by decide +kernel
theorem dX10_readsSum_174 : decode cX10_readsSum 174 = .ok (.iconst 0, 1) := by decide +kernel
theorem dX10_readsSum_175 : decode cX10_readsSum 175 = .ok (.istore 5, 2) := by decide +kernel
theorem dX10_readsSum_177 : decode cX10_readsSum 177 = .ok (.aload_n 0, 1) := by decide +kernel
theorem dX10_readsSum_178 : decode cX10_readsSum 178 = .ok (.invokevirtual 130, 3) := by decide +kernel
theorem dX10_readsSum_181 : decode cX10_readsSum 181 = .ok (.goto 7, 3) := by decide +kernel
theorem dX10_readsSum_184 : decode cX10_readsSum 184 = .ok (.aload_n 0, 1) := by decide +kernel
theorem dX10_readsSum_185 : decode cX10_readsSum 185 = .ok (.invokevirtual 133, 3) := by decide +kernel
theorem dX10_readsSum_188 : decode cX10_readsSum 188 = .ok (.goto 180, 3) := by decide +kernel
theorem dX10_readsSum_191 : decode cX10_readsSum 191 = .ok (.aload_n 0, 1) := by decide +kernel
theorem dX10_readsSum_192 : decode cX10_readsSum 192 = .ok (.getfield 109, 3) := by decide +kernel
theorem dX10_readsSum_195 : decode cX10_readsSum 195 = .ok (.bipush 7, 2) := by decide +kernel
theorem dX10_readsSum_197 : decode cX10_readsSum 197 = .ok (.if_icmp .ne 10, 3) := by decide +kernel
theorem dX10_readsSum_200 : decode cX10_readsSum 200 = .ok (.aload_n 0, 1) := by decide +kernel
theorem dX10_readsSum_201 : decode cX10_readsSum 201 = .ok (.getfield 112, 3) := by decide +kernel
theorem dX10_readsSum_204 : decode cX10_readsSum 204 = .ok (.goto 4, 3) := by decide +kernel
theorem dX10_readsSum_207 : decode cX10_readsSum 207 = .ok (.iconst 0, 1) := by decide +kernel
theorem dX10_readsSum_208 : decode cX10_readsSum 208 = .ok (.istore 7, 2) := by decide +kernel
theorem dX10_readsSum_210 : decode cX10_readsSum 210 = .ok (.iload 7, 2) := by decide +kernel
theorem dX10_readsSum_212 : decode cX10_readsSum 212 = .ok (.invokestatic 143, 3) := by decide +kernel
theorem dX10_readsSum_215 : decode cX10_readsSum 215 = .ok (.iconst 1, 1) := by decide +kernel
theorem dX10_readsSum_216 : decode cX10_readsSum 216 = .ok (.if_icmp .ne 7, 3) := by decide +kernel
theorem dX10_readsSum_219 : decode cX10_readsSum 219 = .ok (.iconst 1, 1) := by decide +kernel
theorem dX10_readsSum_220 : decode cX10_readsSum 220 = .ok (.goto 4, 3) := by decide +kernel
theorem dX10_readsSum_223 : decode cX10_readsSum 223 = .ok (.iconst 0, 1) := by decide +kernel
theorem dX10_readsSum_224 : decode cX10_readsSum 224 = .ok (.istore 8, 2) := by decide +kernel
theorem dX10_readsSum_226 : decode cX10_readsSum 226 = .ok (.iload 7, 2) := by decide +kernel
theorem dX10_readsSum_228 : decode cX10_readsSum 228 = .ok (.invokestatic 143, 3) := by decide +kernel
theorem dX10_readsSum_231 : decode cX10_readsSum 231 = .ok (.iconst 1, 1) := by decide +kernel
theorem dX10_readsSum_232 : decode cX10_readsSum 232 = .ok (.if_icmp .gt 16, 3) := by decide +kernel
theorem dX10_readsSum_235 : decode cX10_readsSum 235 = .ok (.iload 8, 2) := by decide +kernel
theorem dX10_readsSum_237 : decode cX10_readsSum 237 = .ok (.ifCond .eq 71, 3) := by decide +kernel
theorem dX10_readsSum_240 : decode cX10_readsSum 240 = .ok (.aload_n 0, 1) := by decide +kernel
theorem dX10_readsSum_241 : decode cX10_readsSum 241 = .ok (.iload_n 2, 1) := by decide +kernel
theorem dX10_readsSum_242 : decode cX10_readsSum 242 = .ok (.invokevirtual 146, 3) := by decide +kernel
theorem dX10_readsSum_245 : decode cX10_readsSum 245 = .ok (.ifCond .eq 63, 3) := by decide +kernel
theorem dX10_readsSum_248 : decode cX10_readsSum 248 = .ok (.iload_n 2, 1) := by decide +kernel
theorem dX10_readsSum_249 : decode cX10_readsSum 249 = .ok (.ifCond .le 38, 3) := by decide +kernel
theorem dX10_readsSum_252 : decode cX10_readsSum 252 = .ok (.aload_n 0, 1) := by decide +kernel
theorem dX10_readsSum_253 : decode cX10_readsSum 253 = .ok (.getfield 22, 3) := by decide +kernel
theorem dX10_readsSum_256 : decode cX10_readsSum 256 = .ok (.iload_n 2, 1) := by decide +kernel
theorem dX10_readsSum_257 : decode cX10_readsSum 257 = .ok (.iconst 1, 1) := by decide +kernel
theorem dX10_readsSum_258 : decode cX10_readsSum 258 = .ok (.isub, 1) := by decide +kernel
theorem dX10_readsSum_259 : decode cX10_readsSum 259 = .ok (.iaload, 1) := by decide +kernel
theorem dX10_readsSum_260 : decode cX10_readsSum 260 = .ok (.invokestatic 143, 3) := by decide +kernel
theorem dX10_readsSum_263 : decode cX10_readsSum 263 = .ok (.iload 7, 2) := by decide +kernel
theorem dX10_readsSum_265 : decode cX10_readsSum 265 = .ok (.invokestatic 143, 3) := by decide +kernel
theorem dX10_readsSum_268 : decode cX10_readsSum 268 = .ok (.if_icmp .lt 19, 3) := by decide +kernel
theorem dX10_readsSum_271 : decode cX10_readsSum 271 = .ok (.iinc 2 (-1), 3) := by decide +kernel
theorem dX10_readsSum_274 : decode cX10_readsSum 274 = .ok (.aload_n 0, 1) := by decide +kernel
theorem dX10_readsSum_275 : decode cX10_readsSum 275 = .ok (.aload_n 0, 1) := by decide +kernel
theorem dX10_readsSum_276 : decode cX10_readsSum 276 = .ok (.getfield 22, 3) := by decide +kernel
theorem dX10_readsSum_279 : decode cX10_readsSum 279 = .ok (.iload_n 2, 1) := by decide +kernel
theorem dX10_readsSum_280 : decode cX10_readsSum 280 = .ok (.iaload, 1) := by decide +kernel
theorem dX10_readsSum_281 : decode cX10_readsSum 281 = .ok (.invokevirtual 139, 3) := by decide +kernel
theorem dX10_readsSum_284 : decode cX10_readsSum 284 = .ok (.goto (-36), 3) := by decide +kernel
theorem dX10_readsSum_287 : decode cX10_readsSum 287 = .ok (.aload_n 0, 1) := by decide +kernel
theorem dX10_readsSum_288 : decode cX10_readsSum 288 = .ok (.getfield 22, 3) := by decide +kernel
theorem dX10_readsSum_291 : decode cX10_readsSum 291 = .ok (.iload_n 2, 1) := by decide +kernel
theorem dX10_readsSum_292 : decode cX10_readsSum 292 = .ok (.iload 7, 2) := by decide +kernel
theorem dX10_readsSum_294 : decode cX10_readsSum 294 = .ok (.iastore, 1) := by decide +kernel
theorem dX10_readsSum_295 : decode cX10_readsSum 295 = .ok (.iinc 2 1, 3) := by decide +kernel
theorem dX10_readsSum_298 : decode cX10_readsSum 298 = .ok (.iconst 1, 1) := by decide +kernel
theorem dX10_readsSum_299 : decode cX10_readsSum 299 = .ok (.istore 5, 2) := by decide +kernel
theorem dX10_readsSum_301 : decode cX10_readsSum 301 = .ok (.aload_n 0, 1) := by decide +kernel
theorem dX10_readsSum_302 : decode cX10_readsSum 302 = .ok (.invokevirtual 130, 3) := by decide +kernel
theorem dX10_readsSum_305 : decode cX10_readsSum 305 = .ok (.goto 63, 3) := by decide +kernel
theorem dX10_readsSum_308 : decode cX10_readsSum 308 = .ok (.iload 7, 2) := by decide +kernel
theorem dX10_readsSum_310 : decode cX10_readsSum 310 = .ok (.bipush 41, 2) := by decide +kernel
theorem dX10_readsSum_312 : decode cX10_readsSum 312 = .ok (.if_icmp .ne 53, 3) := by decide +kernel
theorem dX10_readsSum_315 : decode cX10_readsSum 315 = .ok (.aload_n 0, 1) := by decide +kernel
theorem dX10_readsSum_316 : decode cX10_readsSum 316 = .ok (.iload_n 2, 1) := by decide +kernel
theorem dX10_readsSum_317 : decode cX10_readsSum 317 = .ok (.invokevirtual 149, 3) := by decide +kernel
theorem dX10_readsSum_320 : decode cX10_readsSum 320 = .ok (.ifCond .eq 45, 3) := by decide +kernel
theorem dX10_readsSum_323 : decode cX10_readsSum 323 = .ok (.aload_n 0, 1) := by decide +kernel
theorem dX10_readsSum_324 : decode cX10_readsSum 324 = .ok (.getfield 22, 3) := by decide +kernel
theorem dX10_readsSum_327 : decode cX10_readsSum 327 = .ok (.iload_n 2, 1) := by decide +kernel
theorem dX10_readsSum_328 : decode cX10_readsSum 328 = .ok (.iconst 1, 1) := by decide +kernel
theorem dX10_readsSum_329 : decode cX10_readsSum 329 = .ok (.isub, 1) := by decide +kernel
theorem dX10_readsSum_330 : decode cX10_readsSum 330 = .ok (.iaload, 1) := by decide +kernel
theorem dX10_readsSum_331 : decode cX10_readsSum 331 = .ok (.bipush 40, 2) := by decide +kernel
theorem dX10_readsSum_333 : decode cX10_readsSum 333 = .ok (.if_icmp .eq 19, 3) := by decide +kernel
theorem dX10_readsSum_336 : decode cX10_readsSum 336 = .ok (.iinc 2 (-1), 3) := by decide +kernel
theorem dX10_readsSum_339 : decode cX10_readsSum 339 = .ok (.aload_n 0, 1) := by decide +kernel
theorem dX10_readsSum_340 : decode cX10_readsSum 340 = .ok (.aload_n 0, 1) := by decide +kernel
theorem dX10_readsSum_341 : decode cX10_readsSum 341 = .ok (.getfield 22, 3) := by decide +kernel
theorem dX10_readsSum_344 : decode cX10_readsSum 344 = .ok (.iload_n 2, 1) := by decide +kernel
theorem dX10_readsSum_345 : decode cX10_readsSum 345 = .ok (.iaload, 1) := by decide +kernel
theorem dX10_readsSum_346 : decode cX10_readsSum 346 = .ok (.invokevirtual 139, 3) := by decide +kernel
theorem dX10_readsSum_349 : decode cX10_readsSum 349 = .ok (.goto (-26), 3) := by decide +kernel
theorem dX10_readsSum_352 : decode cX10_readsSum 352 = .ok (.iinc 2 (-1), 3) := by decide +kernel
theorem dX10_readsSum_355 : decode cX10_readsSum 355 = .ok (.iinc 3 (-1), 3) := by decide +kernel
theorem dX10_readsSum_358 : decode cX10_readsSum 358 = .ok (.aload_n 0, 1) := by decide +kernel
theorem dX10_readsSum_359 : decode cX10_readsSum 359 = .ok (.invokevirtual 130, 3) := by decide +kernel
theorem dX10_readsSum_362 : decode cX10_readsSum 362 = .ok (.goto 6, 3) := by decide +kernel
theorem dX10_readsSum_365 : decode cX10_readsSum 365 = .ok (.iconst 0, 1) := by decide +kernel
theorem dX10_readsSum_366 : decode cX10_readsSum 366 = .ok (.istore 6, 2) := by decide +kernel
theorem dX10_readsSum_368 : decode cX10_readsSum 368 = .ok (.iload 5, 2) := by decide +kernel
theorem dX10_readsSum_370 : decode cX10_readsSum 370 = .ok (.ifCond .ne (-345), 3) := by decide +kernel
theorem dX10_readsSum_373 : decode cX10_readsSum 373 = .ok (.iload_n 2, 1) := by decide +kernel
theorem dX10_readsSum_374 : decode cX10_readsSum 374 = .ok (.ifCond .le (-349), 3) := by decide +kernel
theorem dX10_readsSum_377 : decode cX10_readsSum 377 = .ok (.aload_n 0, 1) := by decide +kernel
theorem dX10_readsSum_378 : decode cX10_readsSum 378 = .ok (.getfield 22, 3) := by decide +kernel
theorem dX10_readsSum_381 : decode cX10_readsSum 381 = .ok (.iload_n 2, 1) := by decide +kernel
theorem dX10_readsSum_382 : decode cX10_readsSum 382 = .ok (.iconst 1, 1) := by decide +kernel
theorem dX10_readsSum_383 : decode cX10_readsSum 383 = .ok (.isub, 1) := by decide +kernel
theorem dX10_readsSum_384 : decode cX10_readsSum 384 = .ok (.iaload, 1) := by decide +kernel
theorem dX10_readsSum_385 : decode cX10_readsSum 385 = .ok (.bipush 33, 2) := by decide +kernel
theorem dX10_readsSum_387 : decode cX10_readsSum 387 = .ok (.if_icmp .ne (-362), 3) := by decide +kernel
theorem dX10_readsSum_390 : decode cX10_readsSum 390 = .ok (.iinc 2 (-1), 3) := by decide +kernel
theorem dX10_readsSum_393 : decode cX10_readsSum 393 = .ok (.iinc 3 (-1), 3) := by decide +kernel
theorem dX10_readsSum_396 : decode cX10_readsSum 396 = .ok (.aload_n 0, 1) := by decide +kernel
theorem dX10_readsSum_397 : decode cX10_readsSum 397 = .ok (.bipush 33, 2) := by decide +kernel
theorem dX10_readsSum_399 : decode cX10_readsSum 399 = .ok (.invokevirtual 139, 3) := by decide +kernel
theorem dX10_readsSum_402 : decode cX10_readsSum 402 = .ok (.goto (-34), 3) := by decide +kernel
theorem dX10_readsSum_405 : decode cX10_readsSum 405 = .ok (.aload_n 0, 1) := by decide +kernel
theorem dX10_readsSum_406 : decode cX10_readsSum 406 = .ok (.invokevirtual 122, 3) := by decide +kernel
theorem dX10_readsSum_409 : decode cX10_readsSum 409 = .ok (.ifCond .eq 15, 3) := by decide +kernel
theorem dX10_readsSum_412 : decode cX10_readsSum 412 = .ok (.aload_n 0, 1) := by decide +kernel
theorem dX10_readsSum_413 : decode cX10_readsSum 413 = .ok (.iload_n 2, 1) := by decide +kernel
theorem dX10_readsSum_414 : decode cX10_readsSum 414 = .ok (.invokevirtual 149, 3) := by decide +kernel
theorem dX10_readsSum_417 : decode cX10_readsSum 417 = .ok (.ifCond .eq 7, 3) := by decide +kernel
theorem dX10_readsSum_420 : decode cX10_readsSum 420 = .ok (.aload_n 0, 1) := by decide +kernel
theorem dX10_readsSum_421 : decode cX10_readsSum 421 = .ok (.invokevirtual 133, 3) := by decide +kernel
theorem dX10_readsSum_424 : decode cX10_readsSum 424 = .ok (.aload_n 0, 1) := by decide +kernel
theorem dX10_readsSum_425 : decode cX10_readsSum 425 = .ok (.invokevirtual 122, 3) := by decide +kernel
theorem dX10_readsSum_428 : decode cX10_readsSum 428 = .ok (.ifCond .eq 23, 3) := by decide +kernel
theorem dX10_readsSum_431 : decode cX10_readsSum 431 = .ok (.iload_n 2, 1) := by decide +kernel
theorem dX10_readsSum_432 : decode cX10_readsSum 432 = .ok (.ifCond .le 19, 3) := by decide +kernel
theorem dX10_readsSum_435 : decode cX10_readsSum 435 = .ok (.iinc 2 (-1), 3) := by decide +kernel
theorem dX10_readsSum_438 : decode cX10_readsSum 438 = .ok (.aload_n 0, 1) := by decide +kernel
theorem dX10_readsSum_439 : decode cX10_readsSum 439 = .ok (.aload_n 0, 1) := by decide +kernel
theorem dX10_readsSum_440 : decode cX10_readsSum 440 = .ok (.getfield 22, 3) := by decide +kernel
theorem dX10_readsSum_443 : decode cX10_readsSum 443 = .ok (.iload_n 2, 1) := by decide +kernel
theorem dX10_readsSum_444 : decode cX10_readsSum 444 = .ok (.iaload, 1) := by decide +kernel
theorem dX10_readsSum_445 : decode cX10_readsSum 445 = .ok (.invokevirtual 139, 3) := by decide +kernel
theorem dX10_readsSum_448 : decode cX10_readsSum 448 = .ok (.goto (-24), 3) := by decide +kernel
theorem dX10_readsSum_451 : decode cX10_readsSum 451 = .ok (.aload_n 0, 1) := by decide +kernel
theorem dX10_readsSum_452 : decode cX10_readsSum 452 = .ok (.getfield 16, 3) := by decide +kernel
theorem dX10_readsSum_455 : decode cX10_readsSum 455 = .ok (.iload_n 1, 1) := by decide +kernel
theorem dX10_readsSum_456 : decode cX10_readsSum 456 = .ok (.iconst 3, 1) := by decide +kernel
theorem dX10_readsSum_457 : decode cX10_readsSum 457 = .ok (.iadd, 1) := by decide +kernel
theorem dX10_readsSum_458 : decode cX10_readsSum 458 = .ok (.aload_n 0, 1) := by decide +kernel
theorem dX10_readsSum_459 : decode cX10_readsSum 459 = .ok (.getfield 136, 3) := by decide +kernel
theorem dX10_readsSum_462 : decode cX10_readsSum 462 = .ok (.aload_n 0, 1) := by decide +kernel
theorem dX10_readsSum_463 : decode cX10_readsSum 463 = .ok (.getfield 16, 3) := by decide +kernel
theorem dX10_readsSum_466 : decode cX10_readsSum 466 = .ok (.iload_n 1, 1) := by decide +kernel
theorem dX10_readsSum_467 : decode cX10_readsSum 467 = .ok (.iconst 2, 1) := by decide +kernel
theorem dX10_readsSum_468 : decode cX10_readsSum 468 = .ok (.iadd, 1) := by decide +kernel
theorem dX10_readsSum_469 : decode cX10_readsSum 469 = .ok (.iaload, 1) := by decide +kernel
theorem dX10_readsSum_470 : decode cX10_readsSum 470 = .ok (.isub, 1) := by decide +kernel
theorem dX10_readsSum_471 : decode cX10_readsSum 471 = .ok (.iastore, 1) := by decide +kernel
theorem dX10_readsSum_472 : decode cX10_readsSum 472 = .ok (.return_, 1) := by decide +kernel
theorem dX10_hasOpen_0 : decode cX10_hasOpen 0 = .ok (.iconst 0, 1) := by decide +kernel
theorem dX10_hasOpen_1 : decode cX10_hasOpen 1 = .ok (.istore_n 2, 1) := by decide +kernel
theorem dX10_hasOpen_2 : decode cX10_hasOpen 2 = .ok (.iconst 0, 1) := by decide +kernel
theorem dX10_hasOpen_3 : decode cX10_hasOpen 3 = .ok (.istore_n 3, 1) := by decide +kernel
theorem dX10_hasOpen_4 : decode cX10_hasOpen 4 = .ok (.iload_n 3, 1) := by decide +kernel
theorem dX10_hasOpen_5 : decode cX10_hasOpen 5 = .ok (.iload_n 1, 1) := by decide +kernel
theorem dX10_hasOpen_6 : decode cX10_hasOpen 6 = .ok (.if_icmp .ge 28, 3) := by decide +kernel
theorem dX10_hasOpen_9 : decode cX10_hasOpen 9 = .ok (.iload_n 2, 1) := by decide +kernel
theorem dX10_hasOpen_10 : decode cX10_hasOpen 10 = .ok (.aload_n 0, 1) := by decide +kernel
theorem dX10_hasOpen_11 : decode cX10_hasOpen 11 = .ok (.getfield 22, 3) := by decide +kernel
theorem dX10_hasOpen_14 : decode cX10_hasOpen 14 = .ok (.iload_n 3, 1) := by decide +kernel
theorem dX10_hasOpen_15 : decode cX10_hasOpen 15 = .ok (.iaload, 1) := by decide +kernel
theorem dX10_hasOpen_16 : decode cX10_hasOpen 16 = .ok (.bipush 40, 2) := by decide +kernel
theorem dX10_hasOpen_18 : decode cX10_hasOpen 18 = .ok (.if_icmp .ne 7, 3) := by decide +kernel
theorem dX10_hasOpen_21 : decode cX10_hasOpen 21 = .ok (.iconst 1, 1) := by decide +kernel
theorem dX10_hasOpen_22 : decode cX10_hasOpen 22 = .ok (.goto 4, 3) := by decide +kernel
theorem dX10_hasOpen_25 : decode cX10_hasOpen 25 = .ok (.iconst 0, 1) := by decide +kernel
theorem dX10_hasOpen_26 : decode cX10_hasOpen 26 = .ok (.ior, 1) := by decide +kernel
theorem dX10_hasOpen_27 : decode cX10_hasOpen 27 = .ok (.istore_n 2, 1) := by decide +kernel
theorem dX10_hasOpen_28 : decode cX10_hasOpen 28 = .ok (.iinc 3 1, 3) := by decide +kernel
theorem dX10_hasOpen_31 : decode cX10_hasOpen 31 = .ok (.goto (-27), 3) := by decide +kernel
theorem dX10_hasOpen_34 : decode cX10_hasOpen 34 = .ok (.iload_n 2, 1) := by decide +kernel
theorem dX10_hasOpen_35 : decode cX10_hasOpen 35 = .ok (.ireturn, 1) := by decide +kernel
theorem chIwsX10_mayCompare_0 : ∀ w ∈ ([.code yX10_mayCompare cX10_mayCompare 3 (some .boolean)] : List Cond), w ∈ wsX10_mayCompare := fun _ h => (List.mem_cons.mpr (Or.inl (List.mem_singleton.mp h)))
theorem chIwsX10_mayCompare_1 : ∀ w ∈ ([.fieldLink RX10 22 "WatchedProgramsModel" "signs" "[I", .methodLink RX10 143 yX10_close, .static yX10_close, .initialized RX10, .code yX10_close cX10_close 1 (some .int)] : List Cond), w ∈ wsX10_mayCompare := fun _ h => (List.mem_cons_of_mem _ (List.mem_append_left _ h))
theorem chIwsX10_mayCompare_2 : ∀ w ∈ (wsX100 : List Cond), w ∈ wsX10_mayCompare := fun _ h => (List.mem_cons_of_mem _ (List.mem_append_right _ h))
def chwsX10_mayCompare : Nat → List Cond
  | 0 => [.code yX10_mayCompare cX10_mayCompare 3 (some .boolean)]
  | 1 => [.fieldLink RX10 22 "WatchedProgramsModel" "signs" "[I", .methodLink RX10 143 yX10_close, .static yX10_close, .initialized RX10, .code yX10_close cX10_close 1 (some .int)]
  | 2 => wsX100
  | _ => []
theorem chwsX10_mayCompare_in : ∀ (j : Nat) (w : Cond), w ∈ chwsX10_mayCompare j → w ∈ wsX10_mayCompare
  | 0, w, h => chIwsX10_mayCompare_0 w h
  | 1, w, h => chIwsX10_mayCompare_1 w h
  | 2, w, h => chIwsX10_mayCompare_2 w h
  | _ + 3, _, h => absurd h List.not_mem_nil
set_option maxRecDepth 20000 in
theorem ggX10_mayCompare_X10_close : GoodIn wsX10_mayCompare wsX10_close := goodIn_r2 chwsX10_mayCompare chwsX10_mayCompare_in _ [(1, 4)] rfl (by decide +kernel)
set_option maxRecDepth 20000 in
theorem gX10_mayCompare_X10_close : GoodIn wsX10_mayCompare (va_wsS RX10 143 yX10_close wsX10_close) := goodIn_app (goodIn_r2 chwsX10_mayCompare chwsX10_mayCompare_in _ [(1, 1), (1, 2), (1, 3)] rfl (by decide +kernel)) ggX10_mayCompare_X10_close
theorem dX10_mayCompare_0 : decode cX10_mayCompare 0 = .ok (.iload_n 1, 1) := by decide +kernel
theorem dX10_mayCompare_1 : decode cX10_mayCompare 1 = .ok (.iconst 1, 1) := by decide +kernel
theorem dX10_mayCompare_2 : decode cX10_mayCompare 2 = .ok (.isub, 1) := by decide +kernel
theorem dX10_mayCompare_3 : decode cX10_mayCompare 3 = .ok (.istore_n 2, 1) := by decide +kernel
theorem dX10_mayCompare_4 : decode cX10_mayCompare 4 = .ok (.iload_n 2, 1) := by decide +kernel
theorem dX10_mayCompare_5 : decode cX10_mayCompare 5 = .ok (.ifCond .lt 22, 3) := by decide +kernel
theorem dX10_mayCompare_8 : decode cX10_mayCompare 8 = .ok (.aload_n 0, 1) := by decide +kernel
theorem dX10_mayCompare_9 : decode cX10_mayCompare 9 = .ok (.getfield 22, 3) := by decide +kernel
theorem dX10_mayCompare_12 : decode cX10_mayCompare 12 = .ok (.iload_n 2, 1) := by decide +kernel
theorem dX10_mayCompare_13 : decode cX10_mayCompare 13 = .ok (.iaload, 1) := by decide +kernel
theorem dX10_mayCompare_14 : decode cX10_mayCompare 14 = .ok (.invokestatic 143, 3) := by decide +kernel
theorem dX10_mayCompare_17 : decode cX10_mayCompare 17 = .ok (.iconst 1, 1) := by decide +kernel
theorem dX10_mayCompare_18 : decode cX10_mayCompare 18 = .ok (.if_icmp .le 9, 3) := by decide +kernel
theorem dX10_mayCompare_21 : decode cX10_mayCompare 21 = .ok (.iinc 2 (-1), 3) := by decide +kernel
theorem dX10_mayCompare_24 : decode cX10_mayCompare 24 = .ok (.goto (-20), 3) := by decide +kernel
theorem dX10_mayCompare_27 : decode cX10_mayCompare 27 = .ok (.iload_n 2, 1) := by decide +kernel
theorem dX10_mayCompare_28 : decode cX10_mayCompare 28 = .ok (.ifCond .lt 18, 3) := by decide +kernel
theorem dX10_mayCompare_31 : decode cX10_mayCompare 31 = .ok (.aload_n 0, 1) := by decide +kernel
theorem dX10_mayCompare_32 : decode cX10_mayCompare 32 = .ok (.getfield 22, 3) := by decide +kernel
theorem dX10_mayCompare_35 : decode cX10_mayCompare 35 = .ok (.iload_n 2, 1) := by decide +kernel
theorem dX10_mayCompare_36 : decode cX10_mayCompare 36 = .ok (.iaload, 1) := by decide +kernel
theorem dX10_mayCompare_37 : decode cX10_mayCompare 37 = .ok (.bipush 40, 2) := by decide +kernel
theorem dX10_mayCompare_39 : decode cX10_mayCompare 39 = .ok (.if_icmp .ne 7, 3) := by decide +kernel
theorem dX10_mayCompare_42 : decode cX10_mayCompare 42 = .ok (.iconst 1, 1) := by decide +kernel
theorem dX10_mayCompare_43 : decode cX10_mayCompare 43 = .ok (.goto 4, 3) := by decide +kernel
theorem dX10_mayCompare_46 : decode cX10_mayCompare 46 = .ok (.iconst 0, 1) := by decide +kernel
theorem dX10_mayCompare_47 : decode cX10_mayCompare 47 = .ok (.ireturn, 1) := by decide +kernel
theorem dX10_begins_0 : decode cX10_begins 0 = .ok (.sipush 240, 3) := by decide +kernel
theorem dX10_begins_3 : decode cX10_begins 3 = .ok (.bipush 8, 2) := by decide +kernel
theorem dX10_begins_5 : decode cX10_begins 5 = .ok (.aload_n 0, 1) := by decide +kernel
theorem dX10_begins_6 : decode cX10_begins 6 = .ok (.getfield 152, 3) := by decide +kernel
theorem dX10_begins_9 : decode cX10_begins 9 = .ok (.imul, 1) := by decide +kernel
theorem dX10_begins_10 : decode cX10_begins 10 = .ok (.iadd, 1) := by decide +kernel
theorem dX10_begins_11 : decode cX10_begins 11 = .ok (.istore_n 3, 1) := by decide +kernel
theorem dX10_begins_12 : decode cX10_begins 12 = .ok (.aload_n 0, 1) := by decide +kernel
theorem dX10_begins_13 : decode cX10_begins 13 = .ok (.getfield 16, 3) := by decide +kernel
theorem dX10_begins_16 : decode cX10_begins 16 = .ok (.iload_n 3, 1) := by decide +kernel
theorem dX10_begins_17 : decode cX10_begins 17 = .ok (.iload_n 1, 1) := by decide +kernel
theorem dX10_begins_18 : decode cX10_begins 18 = .ok (.iastore, 1) := by decide +kernel
theorem dX10_begins_19 : decode cX10_begins 19 = .ok (.aload_n 0, 1) := by decide +kernel
theorem dX10_begins_20 : decode cX10_begins 20 = .ok (.getfield 16, 3) := by decide +kernel
theorem dX10_begins_23 : decode cX10_begins 23 = .ok (.iload_n 3, 1) := by decide +kernel
theorem dX10_begins_24 : decode cX10_begins 24 = .ok (.iconst 1, 1) := by decide +kernel
theorem dX10_begins_25 : decode cX10_begins 25 = .ok (.iadd, 1) := by decide +kernel
theorem dX10_begins_26 : decode cX10_begins 26 = .ok (.iload_n 2, 1) := by decide +kernel
theorem dX10_begins_27 : decode cX10_begins 27 = .ok (.iastore, 1) := by decide +kernel
theorem dX10_begins_28 : decode cX10_begins 28 = .ok (.aload_n 0, 1) := by decide +kernel
theorem dX10_begins_29 : decode cX10_begins 29 = .ok (.getfield 16, 3) := by decide +kernel
theorem dX10_begins_32 : decode cX10_begins 32 = .ok (.iload_n 3, 1) := by decide +kernel
theorem dX10_begins_33 : decode cX10_begins 33 = .ok (.iconst 3, 1) := by decide +kernel
theorem dX10_begins_34 : decode cX10_begins 34 = .ok (.iadd, 1) := by decide +kernel
theorem dX10_begins_35 : decode cX10_begins 35 = .ok (.iconst 0, 1) := by decide +kernel
theorem dX10_begins_36 : decode cX10_begins 36 = .ok (.iastore, 1) := by decide +kernel
theorem dX10_begins_37 : decode cX10_begins 37 = .ok (.aload_n 0, 1) := by decide +kernel
theorem dX10_begins_38 : decode cX10_begins 38 = .ok (.getfield 16, 3) := by decide +kernel
theorem dX10_begins_41 : decode cX10_begins 41 = .ok (.iload_n 3, 1) := by decide +kernel
theorem dX10_begins_42 : decode cX10_begins 42 = .ok (.iconst 4, 1) := by decide +kernel
theorem dX10_begins_43 : decode cX10_begins 43 = .ok (.iadd, 1) := by decide +kernel
theorem dX10_begins_44 : decode cX10_begins 44 = .ok (.iconst 0, 1) := by decide +kernel
theorem dX10_begins_45 : decode cX10_begins 45 = .ok (.iastore, 1) := by decide +kernel
theorem dX10_begins_46 : decode cX10_begins 46 = .ok (.aload_n 0, 1) := by decide +kernel
theorem dX10_begins_47 : decode cX10_begins 47 = .ok (.getfield 16, 3) := by decide +kernel
theorem dX10_begins_50 : decode cX10_begins 50 = .ok (.iload_n 3, 1) := by decide +kernel
theorem dX10_begins_51 : decode cX10_begins 51 = .ok (.iconst 5, 1) := by decide +kernel
theorem dX10_begins_52 : decode cX10_begins 52 = .ok (.iadd, 1) := by decide +kernel
theorem dX10_begins_53 : decode cX10_begins 53 = .ok (.iconst 0, 1) := by decide +kernel
theorem dX10_begins_54 : decode cX10_begins 54 = .ok (.iastore, 1) := by decide +kernel
theorem dX10_begins_55 : decode cX10_begins 55 = .ok (.aload_n 0, 1) := by decide +kernel
theorem dX10_begins_56 : decode cX10_begins 56 = .ok (.dup, 1) := by decide +kernel
theorem dX10_begins_57 : decode cX10_begins 57 = .ok (.getfield 152, 3) := by decide +kernel
theorem dX10_begins_60 : decode cX10_begins 60 = .ok (.iconst 1, 1) := by decide +kernel
theorem dX10_begins_61 : decode cX10_begins 61 = .ok (.iadd, 1) := by decide +kernel
theorem dX10_begins_62 : decode cX10_begins 62 = .ok (.putfield 152, 3) := by decide +kernel
theorem dX10_begins_65 : decode cX10_begins 65 = .ok (.iload_n 3, 1) := by decide +kernel
theorem dX10_begins_66 : decode cX10_begins 66 = .ok (.ireturn, 1) := by decide +kernel
theorem chIwsX10_read_0 : ∀ w ∈ ([.code yX10_read cX10_read 6 (some .int)] : List Cond), w ∈ wsX10_read := fun _ h => (List.mem_cons.mpr (Or.inl (List.mem_singleton.mp h)))
theorem chIwsX10_read_1 : ∀ w ∈ (wsX10_read_r1 : List Cond), w ∈ wsX10_read := fun _ h => (List.mem_cons_of_mem _ (List.mem_append_left _ (List.mem_append_left _ h)))
theorem chIwsX10_read_2 : ∀ w ∈ (wsX10_read_r2 : List Cond), w ∈ wsX10_read := fun _ h => (List.mem_cons_of_mem _ (List.mem_append_left _ (List.mem_append_right _ (List.mem_append_left _ h))))
theorem chIwsX10_read_3 : ∀ w ∈ (wsX10_read_r3 : List Cond), w ∈ wsX10_read := fun _ h => (List.mem_cons_of_mem _ (List.mem_append_left _ (List.mem_append_right _ (List.mem_append_right _ (List.mem_append_left _ h)))))
theorem chIwsX10_read_4 : ∀ w ∈ (wsX10_read_r4 : List Cond), w ∈ wsX10_read := fun _ h => (List.mem_cons_of_mem _ (List.mem_append_left _ (List.mem_append_right _ (List.mem_append_right _ (List.mem_append_right _ h)))))
theorem chIwsX10_read_5 : ∀ w ∈ (wsX100 : List Cond), w ∈ wsX10_read := fun _ h => (List.mem_cons_of_mem _ (List.mem_append_right _ h))
def chwsX10_read : Nat → List Cond
  | 0 => [.code yX10_read cX10_read 6 (some .int)]
  | 1 => wsX10_read_r1
  | 2 => wsX10_read_r2
  | 3 => wsX10_read_r3
  | 4 => wsX10_read_r4
  | 5 => wsX100
  | _ => []
theorem chwsX10_read_in : ∀ (j : Nat) (w : Cond), w ∈ chwsX10_read j → w ∈ wsX10_read
  | 0, w, h => chIwsX10_read_0 w h
  | 1, w, h => chIwsX10_read_1 w h
  | 2, w, h => chIwsX10_read_2 w h
  | 3, w, h => chIwsX10_read_3 w h
  | 4, w, h => chIwsX10_read_4 w h
  | 5, w, h => chIwsX10_read_5 w h
  | _ + 6, _, h => absurd h List.not_mem_nil
set_option maxRecDepth 20000 in
theorem ggX10_read_X10_advances : GoodIn wsX10_read wsX10_advances := goodIn_r2 chwsX10_read chwsX10_read_in _ [(1, 17), (1, 2), (1, 18), (1, 5), (1, 6), (1, 19), (1, 20), (1, 21), (1, 16), (1, 22), (1, 12), (1, 23), (2, 0), (2, 1), (2, 2), (2, 3), (2, 4), (2, 5), (2, 6), (2, 7), (2, 8), (2, 9), (5, 0), (5, 1), (5, 2), (5, 3), (5, 4), (5, 5), (5, 6), (5, 7), (5, 8), (5, 9), (5, 10), (5, 11), (5, 12), (5, 13), (5, 14), (5, 15), (5, 16), (5, 17), (5, 18), (5, 19), (5, 20), (5, 21), (5, 22), (5, 23), (5, 24), (5, 25), (5, 26), (5, 27), (5, 28), (5, 29), (5, 30), (5, 31), (5, 32), (5, 33), (5, 34), (5, 35), (5, 36), (5, 37), (5, 38), (5, 39)] rfl (by decide +kernel)
set_option maxRecDepth 20000 in
theorem gX10_read_X10_advances : GoodIn wsX10_read (wsV RX10 130 RX10 yX10_advances wsX10_advances) := goodIn_app (goodIn_r2 chwsX10_read chwsX10_read_in _ [(1, 13), (1, 14), (1, 15), (1, 16)] rfl (by decide +kernel)) ggX10_read_X10_advances
set_option maxRecDepth 20000 in
theorem ggX10_read_X10_isWell : GoodIn wsX10_read wsX10_isWell := goodIn_r2 chwsX10_read chwsX10_read_in _ [(2, 13), (1, 1), (5, 0), (5, 1), (5, 2), (5, 3), (5, 4), (5, 5), (5, 6), (5, 7), (5, 8), (5, 9), (5, 10), (5, 11), (5, 12), (5, 13), (5, 14), (5, 15), (5, 16), (5, 17), (5, 18), (5, 19), (5, 20), (5, 21), (5, 22), (5, 23), (5, 24), (5, 25), (5, 26), (5, 27), (5, 28), (5, 29), (5, 30), (5, 31), (5, 32), (5, 33), (5, 34), (5, 35), (5, 36), (5, 37), (5, 38), (5, 39)] rfl (by decide +kernel)
set_option maxRecDepth 20000 in
theorem gX10_read_X10_isWell : GoodIn wsX10_read (wsV RX10 122 RX10 yX10_isWell wsX10_isWell) := goodIn_app (goodIn_r2 chwsX10_read chwsX10_read_in _ [(2, 10), (2, 11), (2, 12), (1, 16)] rfl (by decide +kernel)) ggX10_read_X10_isWell
set_option maxRecDepth 20000 in
theorem ggX10_read_X10_begins : GoodIn wsX10_read wsX10_begins := goodIn_r2 chwsX10_read chwsX10_read_in _ [(2, 17), (1, 3), (1, 9), (5, 0), (5, 1), (5, 2), (5, 3), (5, 4), (5, 5), (5, 6), (5, 7), (5, 8), (5, 9), (5, 10), (5, 11), (5, 12), (5, 13), (5, 14), (5, 15), (5, 16), (5, 17), (5, 18), (5, 19), (5, 20), (5, 21), (5, 22), (5, 23), (5, 24), (5, 25), (5, 26), (5, 27), (5, 28), (5, 29), (5, 30), (5, 31), (5, 32), (5, 33), (5, 34), (5, 35), (5, 36), (5, 37), (5, 38), (5, 39)] rfl (by decide +kernel)
set_option maxRecDepth 20000 in
theorem gX10_read_X10_begins : GoodIn wsX10_read (wsV RX10 155 RX10 yX10_begins wsX10_begins) := goodIn_app (goodIn_r2 chwsX10_read chwsX10_read_in _ [(2, 14), (2, 15), (2, 16), (1, 16)] rfl (by decide +kernel)) ggX10_read_X10_begins
set_option maxRecDepth 20000 in
theorem ggX10_read_X10_takesSign : GoodIn wsX10_read wsX10_takesSign := goodIn_r2 chwsX10_read chwsX10_read_in _ [(2, 21), (2, 22), (2, 23), (3, 0), (1, 16), (3, 1), (1, 5), (1, 6), (2, 10), (2, 11), (2, 12), (2, 13), (1, 1), (1, 13), (1, 14), (1, 15), (1, 17), (1, 2), (1, 18), (1, 19), (1, 20), (1, 21), (1, 22), (1, 12), (1, 23), (2, 0), (2, 1), (2, 2), (2, 3), (2, 4), (2, 5), (2, 6), (2, 7), (2, 8), (2, 9), (3, 2), (3, 3), (3, 4), (3, 5), (5, 0), (5, 1), (5, 2), (5, 3), (5, 4), (5, 5), (5, 6), (5, 7), (5, 8), (5, 9), (5, 10), (5, 11), (5, 12), (5, 13), (5, 14), (5, 15), (5, 16), (5, 17), (5, 18), (5, 19), (5, 20), (5, 21), (5, 22), (5, 23), (5, 24), (5, 25), (5, 26), (5, 27), (5, 28), (5, 29), (5, 30), (5, 31), (5, 32), (5, 33), (5, 34), (5, 35), (5, 36), (5, 37), (5, 38), (5, 39)] rfl (by decide +kernel)
set_option maxRecDepth 20000 in
theorem gX10_read_X10_takesSign : GoodIn wsX10_read (wsV RX10 159 RX10 yX10_takesSign wsX10_takesSign) := goodIn_app (goodIn_r2 chwsX10_read chwsX10_read_in _ [(2, 18), (2, 19), (2, 20), (1, 16)] rfl (by decide +kernel)) ggX10_read_X10_takesSign
set_option maxRecDepth 20000 in
theorem ggX10_read_X10_readsSum : GoodIn wsX10_read wsX10_readsSum := goodIn_r2 chwsX10_read chwsX10_read_in _ [(3, 9), (1, 9), (1, 4), (1, 5), (1, 6), (3, 10), (2, 10), (2, 11), (2, 12), (1, 16), (2, 13), (1, 1), (2, 22), (2, 23), (3, 0), (3, 1), (1, 13), (1, 14), (1, 15), (1, 17), (1, 2), (1, 18), (1, 19), (1, 20), (1, 21), (1, 22), (1, 12), (1, 23), (2, 0), (2, 1), (2, 2), (2, 3), (2, 4), (2, 5), (2, 6), (2, 7), (2, 8), (2, 9), (3, 11), (3, 12), (3, 13), (3, 14), (1, 10), (3, 2), (3, 3), (3, 4), (3, 5), (3, 15), (3, 16), (3, 17), (3, 18), (3, 19), (3, 20), (3, 21), (3, 22), (3, 23), (4, 0), (4, 1), (5, 0), (5, 1), (5, 2), (5, 3), (5, 4), (5, 5), (5, 6), (5, 7), (5, 8), (5, 9), (5, 10), (5, 11), (5, 12), (5, 13), (5, 14), (5, 15), (5, 16), (5, 17), (5, 18), (5, 19), (5, 20), (5, 21), (5, 22), (5, 23), (5, 24), (5, 25), (5, 26), (5, 27), (5, 28), (5, 29), (5, 30), (5, 31), (5, 32), (5, 33), (5, 34), (5, 35), (5, 36), (5, 37), (5, 38), (5, 39)] rfl (by decide +kernel)
set_option maxRecDepth 20000 in
theorem gX10_read_X10_readsSum : GoodIn wsX10_read (wsV RX10 162 RX10 yX10_readsSum wsX10_readsSum) := goodIn_app (goodIn_r2 chwsX10_read chwsX10_read_in _ [(3, 6), (3, 7), (3, 8), (1, 16)] rfl (by decide +kernel)) ggX10_read_X10_readsSum
set_option maxRecDepth 20000 in
theorem ggX10_read_X10_takesNumber : GoodIn wsX10_read wsX10_takesNumber := goodIn_r2 chwsX10_read chwsX10_read_in _ [(4, 5), (1, 5), (1, 6), (2, 10), (2, 11), (2, 12), (1, 16), (2, 13), (1, 1), (3, 2), (3, 3), (3, 4), (3, 5), (1, 18), (1, 13), (1, 14), (1, 15), (1, 17), (1, 2), (1, 19), (1, 20), (1, 21), (1, 22), (1, 12), (1, 23), (2, 0), (2, 1), (2, 2), (2, 3), (2, 4), (2, 5), (2, 6), (2, 7), (2, 8), (2, 9), (5, 0), (5, 1), (5, 2), (5, 3), (5, 4), (5, 5), (5, 6), (5, 7), (5, 8), (5, 9), (5, 10), (5, 11), (5, 12), (5, 13), (5, 14), (5, 15), (5, 16), (5, 17), (5, 18), (5, 19), (5, 20), (5, 21), (5, 22), (5, 23), (5, 24), (5, 25), (5, 26), (5, 27), (5, 28), (5, 29), (5, 30), (5, 31), (5, 32), (5, 33), (5, 34), (5, 35), (5, 36), (5, 37), (5, 38), (5, 39)] rfl (by decide +kernel)
set_option maxRecDepth 20000 in
theorem gX10_read_X10_takesNumber : GoodIn wsX10_read (wsV RX10 165 RX10 yX10_takesNumber wsX10_takesNumber) := goodIn_app (goodIn_r2 chwsX10_read chwsX10_read_in _ [(4, 2), (4, 3), (4, 4), (1, 16)] rfl (by decide +kernel)) ggX10_read_X10_takesNumber
set_option maxRecDepth 20000 in
theorem ggX10_read_X10_isSign : GoodIn wsX10_read wsX10_isSign := goodIn_r2 chwsX10_read chwsX10_read_in _ [(3, 1), (1, 5), (1, 6), (2, 10), (2, 11), (2, 12), (1, 16), (2, 13), (1, 1), (5, 0), (5, 1), (5, 2), (5, 3), (5, 4), (5, 5), (5, 6), (5, 7), (5, 8), (5, 9), (5, 10), (5, 11), (5, 12), (5, 13), (5, 14), (5, 15), (5, 16), (5, 17), (5, 18), (5, 19), (5, 20), (5, 21), (5, 22), (5, 23), (5, 24), (5, 25), (5, 26), (5, 27), (5, 28), (5, 29), (5, 30), (5, 31), (5, 32), (5, 33), (5, 34), (5, 35), (5, 36), (5, 37), (5, 38), (5, 39)] rfl (by decide +kernel)
set_option maxRecDepth 20000 in
theorem gX10_read_X10_isSign : GoodIn wsX10_read (wsV RX10 126 RX10 yX10_isSign wsX10_isSign) := goodIn_app (goodIn_r2 chwsX10_read chwsX10_read_in _ [(2, 22), (2, 23), (3, 0), (1, 16)] rfl (by decide +kernel)) ggX10_read_X10_isSign
set_option maxRecDepth 20000 in
theorem ggX10_read_X10_fails : GoodIn wsX10_read wsX10_fails := goodIn_r2 chwsX10_read chwsX10_read_in _ [(3, 5), (1, 1), (1, 18), (5, 0), (5, 1), (5, 2), (5, 3), (5, 4), (5, 5), (5, 6), (5, 7), (5, 8), (5, 9), (5, 10), (5, 11), (5, 12), (5, 13), (5, 14), (5, 15), (5, 16), (5, 17), (5, 18), (5, 19), (5, 20), (5, 21), (5, 22), (5, 23), (5, 24), (5, 25), (5, 26), (5, 27), (5, 28), (5, 29), (5, 30), (5, 31), (5, 32), (5, 33), (5, 34), (5, 35), (5, 36), (5, 37), (5, 38), (5, 39)] rfl (by decide +kernel)
set_option maxRecDepth 20000 in
theorem gX10_read_X10_fails : GoodIn wsX10_read (wsV RX10 133 RX10 yX10_fails wsX10_fails) := goodIn_app (goodIn_r2 chwsX10_read chwsX10_read_in _ [(3, 2), (3, 3), (3, 4), (1, 16)] rfl (by decide +kernel)) ggX10_read_X10_fails
theorem dX10_read_0 : decode cX10_read 0 = .ok (.aload_n 0, 1) := by decide +kernel
theorem dX10_read_1 : decode cX10_read 1 = .ok (.iconst 0, 1) := by decide +kernel
theorem dX10_read_2 : decode cX10_read 2 = .ok (.putfield 80, 3) := by decide +kernel
theorem dX10_read_5 : decode cX10_read 5 = .ok (.aload_n 0, 1) := by decide +kernel
theorem dX10_read_6 : decode cX10_read 6 = .ok (.iconst (-1), 1) := by decide +kernel
theorem dX10_read_7 : decode cX10_read 7 = .ok (.putfield 119, 3) := by decide +kernel
theorem dX10_read_10 : decode cX10_read 10 = .ok (.aload_n 0, 1) := by decide +kernel
theorem dX10_read_11 : decode cX10_read 11 = .ok (.iconst 0, 1) := by decide +kernel
theorem dX10_read_12 : decode cX10_read 12 = .ok (.putfield 99, 3) := by decide +kernel
theorem dX10_read_15 : decode cX10_read 15 = .ok (.aload_n 0, 1) := by decide +kernel
theorem dX10_read_16 : decode cX10_read 16 = .ok (.iconst 0, 1) := by decide +kernel
theorem dX10_read_17 : decode cX10_read 17 = .ok (.putfield 152, 3) := by decide +kernel
theorem dX10_read_20 : decode cX10_read 20 = .ok (.aload_n 0, 1) := by decide +kernel
theorem dX10_read_21 : decode cX10_read 21 = .ok (.iconst 0, 1) := by decide +kernel
theorem dX10_read_22 : decode cX10_read 22 = .ok (.putfield 136, 3) := by decide +kernel
theorem dX10_read_25 : decode cX10_read 25 = .ok (.iconst 0, 1) := by decide +kernel
theorem dX10_read_26 : decode cX10_read 26 = .ok (.istore_n 1, 1) := by decide +kernel
theorem dX10_read_27 : decode cX10_read 27 = .ok (.aload_n 0, 1) := by decide +kernel
theorem dX10_read_28 : decode cX10_read 28 = .ok (.invokevirtual 130, 3) := by decide +kernel
theorem dX10_read_31 : decode cX10_read 31 = .ok (.aload_n 0, 1) := by decide +kernel
theorem dX10_read_32 : decode cX10_read 32 = .ok (.invokevirtual 122, 3) := by decide +kernel
theorem dX10_read_35 : decode cX10_read 35 = .ok (.ifCond .eq 406, 3) := by decide +kernel
theorem dX10_read_38 : decode cX10_read 38 = .ok (.aload_n 0, 1) := by decide +kernel
theorem dX10_read_39 : decode cX10_read 39 = .ok (.getfield 109, 3) := by decide +kernel
theorem dX10_read_42 : decode cX10_read 42 = .ok (.ifCond .ne 7, 3) := by decide +kernel
theorem dX10_read_45 : decode cX10_read 45 = .ok (.iload_n 1, 1) := by decide +kernel
theorem dX10_read_46 : decode cX10_read 46 = .ok (.ifCond .le 395, 3) := by decide +kernel
theorem dX10_read_49 : decode cX10_read 49 = .ok (.aload_n 0, 1) := by decide +kernel
theorem dX10_read_50 : decode cX10_read 50 = .ok (.getfield 109, 3) := by decide +kernel
theorem dX10_read_53 : decode cX10_read 53 = .ok (.iconst 5, 1) := by decide +kernel
theorem dX10_read_54 : decode cX10_read 54 = .ok (.if_icmp .eq 27, 3) := by decide +kernel
theorem dX10_read_57 : decode cX10_read 57 = .ok (.aload_n 0, 1) := by decide +kernel
theorem dX10_read_58 : decode cX10_read 58 = .ok (.getfield 109, 3) := by decide +kernel
theorem dX10_read_61 : decode cX10_read 61 = .ok (.iconst 1, 1) := by decide +kernel
theorem dX10_read_62 : decode cX10_read 62 = .ok (.if_icmp .eq 19, 3) := by decide +kernel
theorem dX10_read_65 : decode cX10_read 65 = .ok (.aload_n 0, 1) := by decide +kernel
theorem dX10_read_66 : decode cX10_read 66 = .ok (.getfield 109, 3) := by decide +kernel
theorem dX10_read_69 : decode cX10_read 69 = .ok (.iconst 2, 1) := by decide +kernel
theorem dX10_read_70 : decode cX10_read 70 = .ok (.if_icmp .eq 11, 3) := by decide +kernel
theorem dX10_read_73 : decode cX10_read 73 = .ok (.aload_n 0, 1) := by decide +kernel
theorem dX10_read_74 : decode cX10_read 74 = .ok (.getfield 109, 3) := by decide +kernel
theorem dX10_read_77 : decode cX10_read 77 = .ok (.iconst 4, 1) := by decide +kernel
theorem dX10_read_78 : decode cX10_read 78 = .ok (.if_icmp .ne 7, 3) := by decide +kernel
theorem dX10_read_81 : decode cX10_read 81 = .ok (.iconst 1, 1) := by decide +kernel
theorem dX10_read_82 : decode cX10_read 82 = .ok (.goto 4, 3) := by decide +kernel
theorem dX10_read_85 : decode cX10_read 85 = .ok (.iconst 0, 1) := by decide +kernel
theorem dX10_read_86 : decode cX10_read 86 = .ok (.istore_n 2, 1) := by decide +kernel
theorem dX10_read_87 : decode cX10_read 87 = .ok (.iload_n 2, 1) := by decide +kernel
theorem dX10_read_88 : decode cX10_read 88 = .ok (.ifCond .eq 204, 3) := by decide +kernel
theorem dX10_read_91 : decode cX10_read 91 = .ok (.aload_n 0, 1) := by decide +kernel
theorem dX10_read_92 : decode cX10_read 92 = .ok (.getfield 152, 3) := by decide +kernel
theorem dX10_read_95 : decode cX10_read 95 = .ok (.bipush 30, 2) := by decide +kernel
theorem dX10_read_97 : decode cX10_read 97 = .ok (.if_icmp .ge 195, 3) := by decide +kernel
theorem dX10_read_100 : decode cX10_read 100 = .ok (.aload_n 0, 1) := by decide +kernel
theorem dX10_read_101 : decode cX10_read 101 = .ok (.getfield 109, 3) := by decide +kernel
theorem dX10_read_104 : decode cX10_read 104 = .ok (.istore_n 3, 1) := by decide +kernel
theorem dX10_read_105 : decode cX10_read 105 = .ok (.aload_n 0, 1) := by decide +kernel
theorem dX10_read_106 : decode cX10_read 106 = .ok (.getfield 112, 3) := by decide +kernel
theorem dX10_read_109 : decode cX10_read 109 = .ok (.istore 4, 2) := by decide +kernel
theorem dX10_read_111 : decode cX10_read 111 = .ok (.aload_n 0, 1) := by decide +kernel
theorem dX10_read_112 : decode cX10_read 112 = .ok (.invokevirtual 130, 3) := by decide +kernel
theorem dX10_read_115 : decode cX10_read 115 = .ok (.iload_n 3, 1) := by decide +kernel
theorem dX10_read_116 : decode cX10_read 116 = .ok (.iconst 5, 1) := by decide +kernel
theorem dX10_read_117 : decode cX10_read 117 = .ok (.if_icmp .ne 40, 3) := by decide +kernel
theorem dX10_read_120 : decode cX10_read 120 = .ok (.aload_n 0, 1) := by decide +kernel
theorem dX10_read_121 : decode cX10_read 121 = .ok (.iconst 0, 1) := by decide +kernel
theorem dX10_read_122 : decode cX10_read 122 = .ok (.iload 4, 2) := by decide +kernel
theorem dX10_read_124 : decode cX10_read 124 = .ok (.invokevirtual 155, 3) := by decide +kernel
theorem dX10_read_127 : decode cX10_read 127 = .ok (.istore 5, 2) := by decide +kernel
theorem dX10_read_129 : decode cX10_read 129 = .ok (.aload_n 0, 1) := by decide +kernel
theorem dX10_read_130 : decode cX10_read 130 = .ok (.bipush 61, 2) := by decide +kernel
theorem dX10_read_132 : decode cX10_read 132 = .ok (.invokevirtual 159, 3) := by decide +kernel
theorem dX10_read_135 : decode cX10_read 135 = .ok (.aload_n 0, 1) := by decide +kernel
theorem dX10_read_136 : decode cX10_read 136 = .ok (.invokevirtual 122, 3) := by decide +kernel
theorem dX10_read_139 : decode cX10_read 139 = .ok (.ifCond .eq 9, 3) := by decide +kernel
theorem dX10_read_142 : decode cX10_read 142 = .ok (.aload_n 0, 1) := by decide +kernel
theorem dX10_read_143 : decode cX10_read 143 = .ok (.iload 5, 2) := by decide +kernel
theorem dX10_read_145 : decode cX10_read 145 = .ok (.invokevirtual 162, 3) := by decide +kernel
theorem dX10_read_148 : decode cX10_read 148 = .ok (.aload_n 0, 1) := by decide +kernel
theorem dX10_read_149 : decode cX10_read 149 = .ok (.bipush 59, 2) := by decide +kernel
theorem dX10_read_151 : decode cX10_read 151 = .ok (.invokevirtual 159, 3) := by decide +kernel
theorem dX10_read_154 : decode cX10_read 154 = .ok (.goto 135, 3) := by decide +kernel
theorem dX10_read_157 : decode cX10_read 157 = .ok (.iload_n 3, 1) := by decide +kernel
theorem dX10_read_158 : decode cX10_read 158 = .ok (.iconst 1, 1) := by decide +kernel
theorem dX10_read_159 : decode cX10_read 159 = .ok (.if_icmp .ne 37, 3) := by decide +kernel
theorem dX10_read_162 : decode cX10_read 162 = .ok (.aload_n 0, 1) := by decide +kernel
theorem dX10_read_163 : decode cX10_read 163 = .ok (.iconst 1, 1) := by decide +kernel
theorem dX10_read_164 : decode cX10_read 164 = .ok (.aload_n 0, 1) := by decide +kernel
theorem dX10_read_165 : decode cX10_read 165 = .ok (.iconst 3, 1) := by decide +kernel
theorem dX10_read_166 : decode cX10_read 166 = .ok (.invokevirtual 165, 3) := by decide +kernel
theorem dX10_read_169 : decode cX10_read 169 = .ok (.invokevirtual 155, 3) := by decide +kernel
theorem dX10_read_172 : decode cX10_read 172 = .ok (.istore 5, 2) := by decide +kernel
theorem dX10_read_174 : decode cX10_read 174 = .ok (.aload_n 0, 1) := by decide +kernel
theorem dX10_read_175 : decode cX10_read 175 = .ok (.invokevirtual 122, 3) := by decide +kernel
theorem dX10_read_178 : decode cX10_read 178 = .ok (.ifCond .eq 9, 3) := by decide +kernel
theorem dX10_read_181 : decode cX10_read 181 = .ok (.aload_n 0, 1) := by decide +kernel
theorem dX10_read_182 : decode cX10_read 182 = .ok (.iload 5, 2) := by decide +kernel
theorem dX10_read_184 : decode cX10_read 184 = .ok (.invokevirtual 162, 3) := by decide +kernel
theorem dX10_read_187 : decode cX10_read 187 = .ok (.aload_n 0, 1) := by decide +kernel
theorem dX10_read_188 : decode cX10_read 188 = .ok (.bipush 59, 2) := by decide +kernel
theorem dX10_read_190 : decode cX10_read 190 = .ok (.invokevirtual 159, 3) := by decide +kernel
theorem dX10_read_193 : decode cX10_read 193 = .ok (.goto 96, 3) := by decide +kernel
theorem dX10_read_196 : decode cX10_read 196 = .ok (.aload_n 0, 1) := by decide +kernel
theorem dX10_read_197 : decode cX10_read 197 = .ok (.iload_n 3, 1) := by decide +kernel
theorem dX10_read_198 : decode cX10_read 198 = .ok (.iconst 2, 1) := by decide +kernel
theorem dX10_read_199 : decode cX10_read 199 = .ok (.if_icmp .ne 7, 3) := by decide +kernel
theorem dX10_read_202 : decode cX10_read 202 = .ok (.iconst 2, 1) := by decide +kernel
theorem dX10_read_203 : decode cX10_read 203 = .ok (.goto 4, 3) := by decide +kernel
theorem dX10_read_206 : decode cX10_read 206 = .ok (.iconst 3, 1) := by decide +kernel
theorem dX10_read_207 : decode cX10_read 207 = .ok (.iload_n 3, 1) := by decide +kernel
theorem dX10_read_208 : decode cX10_read 208 = .ok (.iconst 2, 1) := by decide +kernel
theorem dX10_read_209 : decode cX10_read 209 = .ok (.if_icmp .ne 7, 3) := by decide +kernel
theorem dX10_read_212 : decode cX10_read 212 = .ok (.iconst 0, 1) := by decide +kernel
theorem dX10_read_213 : decode cX10_read 213 = .ok (.goto 9, 3) := by decide +kernel
theorem dX10_read_216 : decode cX10_read 216 = .ok (.aload_n 0, 1) := by decide +kernel
theorem dX10_read_217 : decode cX10_read 217 = .ok (.bipush 8, 2) := by decide +kernel
theorem dX10_read_219 : decode cX10_read 219 = .ok (.invokevirtual 165, 3) := by decide +kernel
theorem dX10_read_222 : decode cX10_read 222 = .ok (.invokevirtual 155, 3) := by decide +kernel
theorem dX10_read_225 : decode cX10_read 225 = .ok (.istore 5, 2) := by decide +kernel
theorem dX10_read_227 : decode cX10_read 227 = .ok (.iload_n 3, 1) := by decide +kernel
theorem dX10_read_228 : decode cX10_read 228 = .ok (.iconst 2, 1) := by decide +kernel
theorem dX10_read_229 : decode cX10_read 229 = .ok (.if_icmp .ne 16, 3) := by decide +kernel
theorem dX10_read_232 : decode cX10_read 232 = .ok (.aload_n 0, 1) := by decide +kernel
theorem dX10_read_233 : decode cX10_read 233 = .ok (.invokevirtual 122, 3) := by decide +kernel
theorem dX10_read_236 : decode cX10_read 236 = .ok (.ifCond .eq 9, 3) := by decide +kernel
theorem dX10_read_239 : decode cX10_read 239 = .ok (.aload_n 0, 1) := by decide +kernel
theorem dX10_read_240 : decode cX10_read 240 = .ok (.iload 5, 2) := by decide +kernel
theorem dX10_read_242 : decode cX10_read 242 = .ok (.invokevirtual 162, 3) := by decide +kernel
theorem dX10_read_245 : decode cX10_read 245 = .ok (.aload_n 0, 1) := by decide +kernel
theorem dX10_read_246 : decode cX10_read 246 = .ok (.bipush 123, 2) := by decide +kernel
theorem dX10_read_248 : decode cX10_read 248 = .ok (.invokevirtual 126, 3) := by decide +kernel
theorem dX10_read_251 : decode cX10_read 251 = .ok (.ifCond .eq 34, 3) := by decide +kernel
theorem dX10_read_254 : decode cX10_read 254 = .ok (.iload_n 1, 1) := by decide +kernel
theorem dX10_read_255 : decode cX10_read 255 = .ok (.bipush 6, 2) := by decide +kernel
theorem dX10_read_257 : decode cX10_read 257 = .ok (.if_icmp .ge 28, 3) := by decide +kernel
theorem dX10_read_260 : decode cX10_read 260 = .ok (.aload_n 0, 1) := by decide +kernel
theorem dX10_read_261 : decode cX10_read 261 = .ok (.getfield 28, 3) := by decide +kernel
theorem dX10_read_264 : decode cX10_read 264 = .ok (.iload_n 1, 1) := by decide +kernel
theorem dX10_read_265 : decode cX10_read 265 = .ok (.iload 5, 2) := by decide +kernel
theorem dX10_read_267 : decode cX10_read 267 = .ok (.iastore, 1) := by decide +kernel
theorem dX10_read_268 : decode cX10_read 268 = .ok (.aload_n 0, 1) := by decide +kernel
theorem dX10_read_269 : decode cX10_read 269 = .ok (.getfield 31, 3) := by decide +kernel
theorem dX10_read_272 : decode cX10_read 272 = .ok (.iload_n 1, 1) := by decide +kernel
theorem dX10_read_273 : decode cX10_read 273 = .ok (.iconst 0, 1) := by decide +kernel
theorem dX10_read_274 : decode cX10_read 274 = .ok (.iastore, 1) := by decide +kernel
theorem dX10_read_275 : decode cX10_read 275 = .ok (.iinc 1 1, 3) := by decide +kernel
theorem dX10_read_278 : decode cX10_read 278 = .ok (.aload_n 0, 1) := by decide +kernel
theorem dX10_read_279 : decode cX10_read 279 = .ok (.invokevirtual 130, 3) := by decide +kernel
theorem dX10_read_282 : decode cX10_read 282 = .ok (.goto 7, 3) := by decide +kernel
theorem dX10_read_285 : decode cX10_read 285 = .ok (.aload_n 0, 1) := by decide +kernel
theorem dX10_read_286 : decode cX10_read 286 = .ok (.invokevirtual 133, 3) := by decide +kernel
theorem dX10_read_289 : decode cX10_read 289 = .ok (.goto 149, 3) := by decide +kernel
theorem dX10_read_292 : decode cX10_read 292 = .ok (.aload_n 0, 1) := by decide +kernel
theorem dX10_read_293 : decode cX10_read 293 = .ok (.bipush 125, 2) := by decide +kernel
theorem dX10_read_295 : decode cX10_read 295 = .ok (.invokevirtual 126, 3) := by decide +kernel
theorem dX10_read_298 : decode cX10_read 298 = .ok (.ifCond .eq 136, 3) := by decide +kernel
theorem dX10_read_301 : decode cX10_read 301 = .ok (.iload_n 1, 1) := by decide +kernel
theorem dX10_read_302 : decode cX10_read 302 = .ok (.ifCond .le 132, 3) := by decide +kernel
theorem dX10_read_305 : decode cX10_read 305 = .ok (.aload_n 0, 1) := by decide +kernel
theorem dX10_read_306 : decode cX10_read 306 = .ok (.getfield 28, 3) := by decide +kernel
theorem dX10_read_309 : decode cX10_read 309 = .ok (.iload_n 1, 1) := by decide +kernel
theorem dX10_read_310 : decode cX10_read 310 = .ok (.iconst 1, 1) := by decide +kernel
theorem dX10_read_311 : decode cX10_read 311 = .ok (.isub, 1) := by decide +kernel
theorem dX10_read_312 : decode cX10_read 312 = .ok (.iaload, 1) := by decide +kernel
theorem dX10_read_313 : decode cX10_read 313 = .ok (.istore_n 3, 1) := by decide +kernel
theorem dX10_read_314 : decode cX10_read 314 = .ok (.aload_n 0, 1) := by decide +kernel
theorem dX10_read_315 : decode cX10_read 315 = .ok (.invokevirtual 130, 3) := by decide +kernel
theorem dX10_read_318 : decode cX10_read 318 = .ok (.aload_n 0, 1) := by decide +kernel
theorem dX10_read_319 : decode cX10_read 319 = .ok (.getfield 31, 3) := by decide +kernel
theorem dX10_read_322 : decode cX10_read 322 = .ok (.iload_n 1, 1) := by decide +kernel
theorem dX10_read_323 : decode cX10_read 323 = .ok (.iconst 1, 1) := by decide +kernel
theorem dX10_read_324 : decode cX10_read 324 = .ok (.isub, 1) := by decide +kernel
theorem dX10_read_325 : decode cX10_read 325 = .ok (.iaload, 1) := by decide +kernel
theorem dX10_read_326 : decode cX10_read 326 = .ok (.ifCond .ne 7, 3) := by decide +kernel
theorem dX10_read_329 : decode cX10_read 329 = .ok (.iconst 1, 1) := by decide +kernel
theorem dX10_read_330 : decode cX10_read 330 = .ok (.goto 4, 3) := by decide +kernel
theorem dX10_read_333 : decode cX10_read 333 = .ok (.iconst 0, 1) := by decide +kernel
theorem dX10_read_334 : decode cX10_read 334 = .ok (.istore 4, 2) := by decide +kernel
theorem dX10_read_336 : decode cX10_read 336 = .ok (.aload_n 0, 1) := by decide +kernel
theorem dX10_read_337 : decode cX10_read 337 = .ok (.getfield 16, 3) := by decide +kernel
theorem dX10_read_340 : decode cX10_read 340 = .ok (.iload_n 3, 1) := by decide +kernel
theorem dX10_read_341 : decode cX10_read 341 = .ok (.iconst 4, 1) := by decide +kernel
theorem dX10_read_342 : decode cX10_read 342 = .ok (.iadd, 1) := by decide +kernel
theorem dX10_read_343 : decode cX10_read 343 = .ok (.iload 4, 2) := by decide +kernel
theorem dX10_read_345 : decode cX10_read 345 = .ok (.ifCond .eq 10, 3) := by decide +kernel
theorem dX10_read_348 : decode cX10_read 348 = .ok (.aload_n 0, 1) := by decide +kernel
theorem dX10_read_349 : decode cX10_read 349 = .ok (.getfield 152, 3) := by decide +kernel
theorem dX10_read_352 : decode cX10_read 352 = .ok (.goto 11, 3) := by decide +kernel
theorem dX10_read_355 : decode cX10_read 355 = .ok (.aload_n 0, 1) := by decide +kernel
theorem dX10_read_356 : decode cX10_read 356 = .ok (.getfield 16, 3) := by decide +kernel
theorem dX10_read_359 : decode cX10_read 359 = .ok (.iload_n 3, 1) := by decide +kernel
theorem dX10_read_360 : decode cX10_read 360 = .ok (.iconst 4, 1) := by decide +kernel
theorem dX10_read_361 : decode cX10_read 361 = .ok (.iadd, 1) := by decide +kernel
theorem dX10_read_362 : decode cX10_read 362 = .ok (.iaload, 1) := by decide +kernel
theorem dX10_read_363 : decode cX10_read 363 = .ok (.iastore, 1) := by decide +kernel
theorem dX10_read_364 : decode cX10_read 364 = .ok (.aload_n 0, 1) := by decide +kernel
theorem dX10_read_365 : decode cX10_read 365 = .ok (.getfield 16, 3) := by decide +kernel
theorem dX10_read_368 : decode cX10_read 368 = .ok (.iload_n 3, 1) := by decide +kernel
theorem dX10_read_369 : decode cX10_read 369 = .ok (.iconst 5, 1) := by decide +kernel
theorem dX10_read_370 : decode cX10_read 370 = .ok (.iadd, 1) := by decide +kernel
theorem dX10_read_371 : decode cX10_read 371 = .ok (.aload_n 0, 1) := by decide +kernel
theorem dX10_read_372 : decode cX10_read 372 = .ok (.getfield 152, 3) := by decide +kernel
theorem dX10_read_375 : decode cX10_read 375 = .ok (.iastore, 1) := by decide +kernel
theorem dX10_read_376 : decode cX10_read 376 = .ok (.iload 4, 2) := by decide +kernel
theorem dX10_read_378 : decode cX10_read 378 = .ok (.ifCond .eq 50, 3) := by decide +kernel
theorem dX10_read_381 : decode cX10_read 381 = .ok (.aload_n 0, 1) := by decide +kernel
theorem dX10_read_382 : decode cX10_read 382 = .ok (.getfield 16, 3) := by decide +kernel
theorem dX10_read_385 : decode cX10_read 385 = .ok (.iload_n 3, 1) := by decide +kernel
theorem dX10_read_386 : decode cX10_read 386 = .ok (.iaload, 1) := by decide +kernel
theorem dX10_read_387 : decode cX10_read 387 = .ok (.iconst 2, 1) := by decide +kernel
theorem dX10_read_388 : decode cX10_read 388 = .ok (.if_icmp .ne 40, 3) := by decide +kernel
theorem dX10_read_391 : decode cX10_read 391 = .ok (.aload_n 0, 1) := by decide +kernel
theorem dX10_read_392 : decode cX10_read 392 = .ok (.invokevirtual 122, 3) := by decide +kernel
theorem dX10_read_395 : decode cX10_read 395 = .ok (.ifCond .eq 33, 3) := by decide +kernel
theorem dX10_read_398 : decode cX10_read 398 = .ok (.aload_n 0, 1) := by decide +kernel
theorem dX10_read_399 : decode cX10_read 399 = .ok (.getfield 109, 3) := by decide +kernel
theorem dX10_read_402 : decode cX10_read 402 = .ok (.iconst 3, 1) := by decide +kernel
theorem dX10_read_403 : decode cX10_read 403 = .ok (.if_icmp .ne 25, 3) := by decide +kernel
theorem dX10_read_406 : decode cX10_read 406 = .ok (.aload_n 0, 1) := by decide +kernel
theorem dX10_read_407 : decode cX10_read 407 = .ok (.invokevirtual 130, 3) := by decide +kernel
theorem dX10_read_410 : decode cX10_read 410 = .ok (.aload_n 0, 1) := by decide +kernel
theorem dX10_read_411 : decode cX10_read 411 = .ok (.bipush 123, 2) := by decide +kernel
theorem dX10_read_413 : decode cX10_read 413 = .ok (.invokevirtual 159, 3) := by decide +kernel
theorem dX10_read_416 : decode cX10_read 416 = .ok (.aload_n 0, 1) := by decide +kernel
theorem dX10_read_417 : decode cX10_read 417 = .ok (.getfield 31, 3) := by decide +kernel
theorem dX10_read_420 : decode cX10_read 420 = .ok (.iload_n 1, 1) := by decide +kernel
theorem dX10_read_421 : decode cX10_read 421 = .ok (.iconst 1, 1) := by decide +kernel
theorem dX10_read_422 : decode cX10_read 422 = .ok (.isub, 1) := by decide +kernel
theorem dX10_read_423 : decode cX10_read 423 = .ok (.iconst 1, 1) := by decide +kernel
theorem dX10_read_424 : decode cX10_read 424 = .ok (.iastore, 1) := by decide +kernel
theorem dX10_read_425 : decode cX10_read 425 = .ok (.goto 6, 3) := by decide +kernel
theorem dX10_read_428 : decode cX10_read 428 = .ok (.iinc 1 (-1), 3) := by decide +kernel
theorem dX10_read_431 : decode cX10_read 431 = .ok (.goto 7, 3) := by decide +kernel
theorem dX10_read_434 : decode cX10_read 434 = .ok (.aload_n 0, 1) := by decide +kernel
theorem dX10_read_435 : decode cX10_read 435 = .ok (.invokevirtual 133, 3) := by decide +kernel
theorem dX10_read_438 : decode cX10_read 438 = .ok (.goto (-407), 3) := by decide +kernel
theorem dX10_read_441 : decode cX10_read 441 = .ok (.aload_n 0, 1) := by decide +kernel
theorem dX10_read_442 : decode cX10_read 442 = .ok (.invokevirtual 122, 3) := by decide +kernel
theorem dX10_read_445 : decode cX10_read 445 = .ok (.ifCond .ne 11, 3) := by decide +kernel
theorem dX10_read_448 : decode cX10_read 448 = .ok (.bipush (-10), 2) := by decide +kernel
theorem dX10_read_450 : decode cX10_read 450 = .ok (.aload_n 0, 1) := by decide +kernel
theorem dX10_read_451 : decode cX10_read 451 = .ok (.getfield 119, 3) := by decide +kernel
theorem dX10_read_454 : decode cX10_read 454 = .ok (.isub, 1) := by decide +kernel
theorem dX10_read_455 : decode cX10_read 455 = .ok (.ireturn, 1) := by decide +kernel
theorem dX10_read_456 : decode cX10_read 456 = .ok (.iconst 0, 1) := by decide +kernel
theorem dX10_read_457 : decode cX10_read 457 = .ok (.istore_n 2, 1) := by decide +kernel
theorem dX10_read_458 : decode cX10_read 458 = .ok (.iload_n 2, 1) := by decide +kernel
theorem dX10_read_459 : decode cX10_read 459 = .ok (.sipush 240, 3) := by decide +kernel
theorem dX10_read_462 : decode cX10_read 462 = .ok (.if_icmp .ge 25, 3) := by decide +kernel
theorem dX10_read_465 : decode cX10_read 465 = .ok (.aload_n 0, 1) := by decide +kernel
theorem dX10_read_466 : decode cX10_read 466 = .ok (.getfield 16, 3) := by decide +kernel
theorem dX10_read_469 : decode cX10_read 469 = .ok (.iload_n 2, 1) := by decide +kernel
theorem dX10_read_470 : decode cX10_read 470 = .ok (.aload_n 0, 1) := by decide +kernel
theorem dX10_read_471 : decode cX10_read 471 = .ok (.getfield 16, 3) := by decide +kernel
theorem dX10_read_474 : decode cX10_read 474 = .ok (.sipush 240, 3) := by decide +kernel
theorem dX10_read_477 : decode cX10_read 477 = .ok (.iload_n 2, 1) := by decide +kernel
theorem dX10_read_478 : decode cX10_read 478 = .ok (.iadd, 1) := by decide +kernel
theorem dX10_read_479 : decode cX10_read 479 = .ok (.iaload, 1) := by decide +kernel
theorem dX10_read_480 : decode cX10_read 480 = .ok (.iastore, 1) := by decide +kernel
theorem dX10_read_481 : decode cX10_read 481 = .ok (.iinc 2 1, 3) := by decide +kernel
theorem dX10_read_484 : decode cX10_read 484 = .ok (.goto (-26), 3) := by decide +kernel
theorem dX10_read_487 : decode cX10_read 487 = .ok (.iconst 0, 1) := by decide +kernel
theorem dX10_read_488 : decode cX10_read 488 = .ok (.istore_n 2, 1) := by decide +kernel
theorem dX10_read_489 : decode cX10_read 489 = .ok (.iload_n 2, 1) := by decide +kernel
theorem dX10_read_490 : decode cX10_read 490 = .ok (.sipush 300, 3) := by decide +kernel
theorem dX10_read_493 : decode cX10_read 493 = .ok (.if_icmp .ge 25, 3) := by decide +kernel
theorem dX10_read_496 : decode cX10_read 496 = .ok (.aload_n 0, 1) := by decide +kernel
theorem dX10_read_497 : decode cX10_read 497 = .ok (.getfield 19, 3) := by decide +kernel
theorem dX10_read_500 : decode cX10_read 500 = .ok (.iload_n 2, 1) := by decide +kernel
theorem dX10_read_501 : decode cX10_read 501 = .ok (.aload_n 0, 1) := by decide +kernel
theorem dX10_read_502 : decode cX10_read 502 = .ok (.getfield 19, 3) := by decide +kernel
theorem dX10_read_505 : decode cX10_read 505 = .ok (.sipush 300, 3) := by decide +kernel
theorem dX10_read_508 : decode cX10_read 508 = .ok (.iload_n 2, 1) := by decide +kernel
theorem dX10_read_509 : decode cX10_read 509 = .ok (.iadd, 1) := by decide +kernel
theorem dX10_read_510 : decode cX10_read 510 = .ok (.iaload, 1) := by decide +kernel
theorem dX10_read_511 : decode cX10_read 511 = .ok (.iastore, 1) := by decide +kernel
theorem dX10_read_512 : decode cX10_read 512 = .ok (.iinc 2 1, 3) := by decide +kernel
theorem dX10_read_515 : decode cX10_read 515 = .ok (.goto (-26), 3) := by decide +kernel
theorem dX10_read_518 : decode cX10_read 518 = .ok (.aload_n 0, 1) := by decide +kernel
theorem dX10_read_519 : decode cX10_read 519 = .ok (.aload_n 0, 1) := by decide +kernel
theorem dX10_read_520 : decode cX10_read 520 = .ok (.getfield 152, 3) := by decide +kernel
theorem dX10_read_523 : decode cX10_read 523 = .ok (.putfield 168, 3) := by decide +kernel
theorem dX10_read_526 : decode cX10_read 526 = .ok (.aload_n 0, 1) := by decide +kernel
theorem dX10_read_527 : decode cX10_read 527 = .ok (.iconst 0, 1) := by decide +kernel
theorem dX10_read_528 : decode cX10_read 528 = .ok (.putfield 88, 3) := by decide +kernel
theorem dX10_read_531 : decode cX10_read 531 = .ok (.aload_n 0, 1) := by decide +kernel
theorem dX10_read_532 : decode cX10_read 532 = .ok (.getfield 168, 3) := by decide +kernel
theorem dX10_read_535 : decode cX10_read 535 = .ok (.ireturn, 1) := by decide +kernel
theorem dX10_valueOf_0 : decode cX10_valueOf 0 = .ok (.iconst 0, 1) := by decide +kernel
theorem dX10_valueOf_1 : decode cX10_valueOf 1 = .ok (.istore_n 2, 1) := by decide +kernel
theorem dX10_valueOf_2 : decode cX10_valueOf 2 = .ok (.aload_n 0, 1) := by decide +kernel
theorem dX10_valueOf_3 : decode cX10_valueOf 3 = .ok (.getfield 16, 3) := by decide +kernel
theorem dX10_valueOf_6 : decode cX10_valueOf 6 = .ok (.bipush 8, 2) := by decide +kernel
theorem dX10_valueOf_8 : decode cX10_valueOf 8 = .ok (.iload_n 1, 1) := by decide +kernel
theorem dX10_valueOf_9 : decode cX10_valueOf 9 = .ok (.imul, 1) := by decide +kernel
theorem dX10_valueOf_10 : decode cX10_valueOf 10 = .ok (.iconst 2, 1) := by decide +kernel
theorem dX10_valueOf_11 : decode cX10_valueOf 11 = .ok (.iadd, 1) := by decide +kernel
theorem dX10_valueOf_12 : decode cX10_valueOf 12 = .ok (.iaload, 1) := by decide +kernel
theorem dX10_valueOf_13 : decode cX10_valueOf 13 = .ok (.istore_n 3, 1) := by decide +kernel
theorem dX10_valueOf_14 : decode cX10_valueOf 14 = .ok (.iload_n 3, 1) := by decide +kernel
theorem dX10_valueOf_15 : decode cX10_valueOf 15 = .ok (.istore 4, 2) := by decide +kernel
theorem dX10_valueOf_17 : decode cX10_valueOf 17 = .ok (.iload 4, 2) := by decide +kernel
theorem dX10_valueOf_19 : decode cX10_valueOf 19 = .ok (.iload_n 3, 1) := by decide +kernel
theorem dX10_valueOf_20 : decode cX10_valueOf 20 = .ok (.aload_n 0, 1) := by decide +kernel
theorem dX10_valueOf_21 : decode cX10_valueOf 21 = .ok (.getfield 16, 3) := by decide +kernel
theorem dX10_valueOf_24 : decode cX10_valueOf 24 = .ok (.bipush 8, 2) := by decide +kernel
theorem dX10_valueOf_26 : decode cX10_valueOf 26 = .ok (.iload_n 1, 1) := by decide +kernel
theorem dX10_valueOf_27 : decode cX10_valueOf 27 = .ok (.imul, 1) := by decide +kernel
theorem dX10_valueOf_28 : decode cX10_valueOf 28 = .ok (.iconst 3, 1) := by decide +kernel
theorem dX10_valueOf_29 : decode cX10_valueOf 29 = .ok (.iadd, 1) := by decide +kernel
theorem dX10_valueOf_30 : decode cX10_valueOf 30 = .ok (.iaload, 1) := by decide +kernel
theorem dX10_valueOf_31 : decode cX10_valueOf 31 = .ok (.iadd, 1) := by decide +kernel
theorem dX10_valueOf_32 : decode cX10_valueOf 32 = .ok (.if_icmp .ge 230, 3) := by decide +kernel
theorem dX10_valueOf_35 : decode cX10_valueOf 35 = .ok (.aload_n 0, 1) := by decide +kernel
theorem dX10_valueOf_36 : decode cX10_valueOf 36 = .ok (.getfield 19, 3) := by decide +kernel
theorem dX10_valueOf_39 : decode cX10_valueOf 39 = .ok (.iload 4, 2) := by decide +kernel
theorem dX10_valueOf_41 : decode cX10_valueOf 41 = .ok (.iaload, 1) := by decide +kernel
theorem dX10_valueOf_42 : decode cX10_valueOf 42 = .ok (.istore 5, 2) := by decide +kernel
theorem dX10_valueOf_44 : decode cX10_valueOf 44 = .ok (.iload 5, 2) := by decide +kernel
theorem dX10_valueOf_46 : decode cX10_valueOf 46 = .ok (.iconst 4, 1) := by decide +kernel
theorem dX10_valueOf_47 : decode cX10_valueOf 47 = .ok (.if_icmp .ge 17, 3) := by decide +kernel
theorem dX10_valueOf_50 : decode cX10_valueOf 50 = .ok (.aload_n 0, 1) := by decide +kernel
theorem dX10_valueOf_51 : decode cX10_valueOf 51 = .ok (.getfield 25, 3) := by decide +kernel
theorem dX10_valueOf_54 : decode cX10_valueOf 54 = .ok (.iload_n 2, 1) := by decide +kernel
theorem dX10_valueOf_55 : decode cX10_valueOf 55 = .ok (.iload 5, 2) := by decide +kernel
theorem dX10_valueOf_57 : decode cX10_valueOf 57 = .ok (.iastore, 1) := by decide +kernel
theorem dX10_valueOf_58 : decode cX10_valueOf 58 = .ok (.iinc 2 1, 3) := by decide +kernel
theorem dX10_valueOf_61 : decode cX10_valueOf 61 = .ok (.goto 195, 3) := by decide +kernel
theorem dX10_valueOf_64 : decode cX10_valueOf 64 = .ok (.iload 5, 2) := by decide +kernel
theorem dX10_valueOf_66 : decode cX10_valueOf 66 = .ok (.bipush 16, 2) := by decide +kernel
theorem dX10_valueOf_68 : decode cX10_valueOf 68 = .ok (.if_icmp .ge 25, 3) := by decide +kernel
theorem dX10_valueOf_71 : decode cX10_valueOf 71 = .ok (.aload_n 0, 1) := by decide +kernel
theorem dX10_valueOf_72 : decode cX10_valueOf 72 = .ok (.getfield 25, 3) := by decide +kernel
theorem dX10_valueOf_75 : decode cX10_valueOf 75 = .ok (.iload_n 2, 1) := by decide +kernel
theorem dX10_valueOf_76 : decode cX10_valueOf 76 = .ok (.aload_n 0, 1) := by decide +kernel
theorem dX10_valueOf_77 : decode cX10_valueOf 77 = .ok (.getfield 43, 3) := by decide +kernel
theorem dX10_valueOf_80 : decode cX10_valueOf 80 = .ok (.iload 5, 2) := by decide +kernel
theorem dX10_valueOf_82 : decode cX10_valueOf 82 = .ok (.bipush 10, 2) := by decide +kernel
theorem dX10_valueOf_84 : decode cX10_valueOf 84 = .ok (.isub, 1) := by decide +kernel
theorem dX10_valueOf_85 : decode cX10_valueOf 85 = .ok (.iaload, 1) := by decide +kernel
theorem dX10_valueOf_86 : decode cX10_valueOf 86 = .ok (.iastore, 1) := by decide +kernel
theorem dX10_valueOf_87 : decode cX10_valueOf 87 = .ok (.iinc 2 1, 3) := by decide +kernel
theorem dX10_valueOf_90 : decode cX10_valueOf 90 = .ok (.goto 166, 3) := by decide +kernel
theorem dX10_valueOf_93 : decode cX10_valueOf 93 = .ok (.iload 5, 2) := by decide +kernel
theorem dX10_valueOf_95 : decode cX10_valueOf 95 = .ok (.bipush 33, 2) := by decide +kernel
theorem dX10_valueOf_97 : decode cX10_valueOf 97 = .ok (.if_icmp .ne 30, 3) := by decide +kernel
theorem dX10_valueOf_100 : decode cX10_valueOf 100 = .ok (.aload_n 0, 1) := by decide +kernel
theorem dX10_valueOf_101 : decode cX10_valueOf 101 = .ok (.getfield 25, 3) := by decide +kernel
theorem dX10_valueOf_104 : decode cX10_valueOf 104 = .ok (.iload_n 2, 1) := by decide +kernel
theorem dX10_valueOf_105 : decode cX10_valueOf 105 = .ok (.iconst 1, 1) := by decide +kernel
theorem dX10_valueOf_106 : decode cX10_valueOf 106 = .ok (.isub, 1) := by decide +kernel
theorem dX10_valueOf_107 : decode cX10_valueOf 107 = .ok (.aload_n 0, 1) := by decide +kernel
theorem dX10_valueOf_108 : decode cX10_valueOf 108 = .ok (.getfield 25, 3) := by decide +kernel
theorem dX10_valueOf_111 : decode cX10_valueOf 111 = .ok (.iload_n 2, 1) := by decide +kernel
theorem dX10_valueOf_112 : decode cX10_valueOf 112 = .ok (.iconst 1, 1) := by decide +kernel
theorem dX10_valueOf_113 : decode cX10_valueOf 113 = .ok (.isub, 1) := by decide +kernel
theorem dX10_valueOf_114 : decode cX10_valueOf 114 = .ok (.iaload, 1) := by decide +kernel
theorem dX10_valueOf_115 : decode cX10_valueOf 115 = .ok (.ifCond .ne 7, 3) := by decide +kernel
theorem dX10_valueOf_118 : decode cX10_valueOf 118 = .ok (.iconst 1, 1) := by decide +kernel
theorem dX10_valueOf_119 : decode cX10_valueOf 119 = .ok (.goto 4, 3) := by decide +kernel
theorem dX10_valueOf_122 : decode cX10_valueOf 122 = .ok (.iconst 0, 1) := by decide +kernel
theorem dX10_valueOf_123 : decode cX10_valueOf 123 = .ok (.iastore, 1) := by decide +kernel
theorem dX10_valueOf_124 : decode cX10_valueOf 124 = .ok (.goto 132, 3) := by decide +kernel
theorem dX10_valueOf_127 : decode cX10_valueOf 127 = .ok (.iinc 2 (-1), 3) := by decide +kernel
theorem dX10_valueOf_130 : decode cX10_valueOf 130 = .ok (.aload_n 0, 1) := by decide +kernel
theorem dX10_valueOf_131 : decode cX10_valueOf 131 = .ok (.getfield 25, 3) := by decide +kernel
theorem dX10_valueOf_134 : decode cX10_valueOf 134 = .ok (.iload_n 2, 1) := by decide +kernel
theorem dX10_valueOf_135 : decode cX10_valueOf 135 = .ok (.iconst 1, 1) := by decide +kernel
theorem dX10_valueOf_136 : decode cX10_valueOf 136 = .ok (.isub, 1) := by decide +kernel
theorem dX10_valueOf_137 : decode cX10_valueOf 137 = .ok (.iaload, 1) := by decide +kernel
theorem dX10_valueOf_138 : decode cX10_valueOf 138 = .ok (.istore 6, 2) := by decide +kernel
theorem dX10_valueOf_140 : decode cX10_valueOf 140 = .ok (.aload_n 0, 1) := by decide +kernel
theorem dX10_valueOf_141 : decode cX10_valueOf 141 = .ok (.getfield 25, 3) := by decide +kernel
theorem dX10_valueOf_144 : decode cX10_valueOf 144 = .ok (.iload_n 2, 1) := by decide +kernel
theorem dX10_valueOf_145 : decode cX10_valueOf 145 = .ok (.iaload, 1) := by decide +kernel
theorem dX10_valueOf_146 : decode cX10_valueOf 146 = .ok (.istore 7, 2) := by decide +kernel
theorem dX10_valueOf_148 : decode cX10_valueOf 148 = .ok (.aload_n 0, 1) := by decide +kernel
theorem dX10_valueOf_149 : decode cX10_valueOf 149 = .ok (.getfield 25, 3) := by decide +kernel
theorem dX10_valueOf_152 : decode cX10_valueOf 152 = .ok (.iload_n 2, 1) := by decide +kernel
theorem dX10_valueOf_153 : decode cX10_valueOf 153 = .ok (.iconst 1, 1) := by decide +kernel
theorem dX10_valueOf_154 : decode cX10_valueOf 154 = .ok (.isub, 1) := by decide +kernel
theorem dX10_valueOf_155 : decode cX10_valueOf 155 = .ok (.iload 5, 2) := by decide +kernel
theorem dX10_valueOf_157 : decode cX10_valueOf 157 = .ok (.bipush 43, 2) := by decide +kernel
theorem dX10_valueOf_159 : decode cX10_valueOf 159 = .ok (.if_icmp .ne 13, 3) := by decide +kernel
theorem dX10_valueOf_162 : decode cX10_valueOf 162 = .ok (.iload 6, 2) := by decide +kernel
theorem dX10_valueOf_164 : decode cX10_valueOf 164 = .ok (.iload 7, 2) := by decide +kernel
theorem dX10_valueOf_166 : decode cX10_valueOf 166 = .ok (.iadd, 1) := by decide +kernel
theorem dX10_valueOf_167 : decode cX10_valueOf 167 = .ok (.iconst 3, 1) := by decide +kernel
theorem dX10_valueOf_168 : decode cX10_valueOf 168 = .ok (.iand, 1) := by decide +kernel
theorem dX10_valueOf_169 : decode cX10_valueOf 169 = .ok (.goto 86, 3) := by decide +kernel
theorem dX10_valueOf_172 : decode cX10_valueOf 172 = .ok (.iload 5, 2) := by decide +kernel
theorem dX10_valueOf_174 : decode cX10_valueOf 174 = .ok (.bipush 45, 2) := by decide +kernel
theorem dX10_valueOf_176 : decode cX10_valueOf 176 = .ok (.if_icmp .ne 13, 3) := by decide +kernel
theorem dX10_valueOf_179 : decode cX10_valueOf 179 = .ok (.iload 6, 2) := by decide +kernel
theorem dX10_valueOf_181 : decode cX10_valueOf 181 = .ok (.iload 7, 2) := by decide +kernel
theorem dX10_valueOf_183 : decode cX10_valueOf 183 = .ok (.isub, 1) := by decide +kernel
theorem dX10_valueOf_184 : decode cX10_valueOf 184 = .ok (.iconst 3, 1) := by decide +kernel
theorem dX10_valueOf_185 : decode cX10_valueOf 185 = .ok (.iand, 1) := by decide +kernel
theorem dX10_valueOf_186 : decode cX10_valueOf 186 = .ok (.goto 69, 3) := by decide +kernel
theorem dX10_valueOf_189 : decode cX10_valueOf 189 = .ok (.iload 5, 2) := by decide +kernel
theorem dX10_valueOf_191 : decode cX10_valueOf 191 = .ok (.bipush 42, 2) := by decide +kernel
theorem dX10_valueOf_193 : decode cX10_valueOf 193 = .ok (.if_icmp .ne 13, 3) := by decide +kernel
theorem dX10_valueOf_196 : decode cX10_valueOf 196 = .ok (.iload 6, 2) := by decide +kernel
theorem dX10_valueOf_198 : decode cX10_valueOf 198 = .ok (.iload 7, 2) := by decide +kernel
theorem dX10_valueOf_200 : decode cX10_valueOf 200 = .ok (.imul, 1) := by decide +kernel
theorem dX10_valueOf_201 : decode cX10_valueOf 201 = .ok (.iconst 3, 1) := by decide +kernel
theorem dX10_valueOf_202 : decode cX10_valueOf 202 = .ok (.iand, 1) := by decide +kernel
theorem dX10_valueOf_203 : decode cX10_valueOf 203 = .ok (.goto 52, 3) := by decide +kernel
theorem dX10_valueOf_206 : decode cX10_valueOf 206 = .ok (.iload 5, 2) := by decide +kernel
theorem dX10_valueOf_208 : decode cX10_valueOf 208 = .ok (.bipush 38, 2) := by decide +kernel
theorem dX10_valueOf_210 : decode cX10_valueOf 210 = .ok (.if_icmp .ne 11, 3) := by decide +kernel
theorem dX10_valueOf_213 : decode cX10_valueOf 213 = .ok (.iload 6, 2) := by decide +kernel
theorem dX10_valueOf_215 : decode cX10_valueOf 215 = .ok (.iload 7, 2) := by decide +kernel
theorem dX10_valueOf_217 : decode cX10_valueOf 217 = .ok (.iand, 1) := by decide +kernel
theorem dX10_valueOf_218 : decode cX10_valueOf 218 = .ok (.goto 37, 3) := by decide +kernel
theorem dX10_valueOf_221 : decode cX10_valueOf 221 = .ok (.iload 5, 2) := by decide +kernel
theorem dX10_valueOf_223 : decode cX10_valueOf 223 = .ok (.bipush 60, 2) := by decide +kernel
theorem dX10_valueOf_225 : decode cX10_valueOf 225 = .ok (.if_icmp .ne 18, 3) := by decide +kernel
theorem dX10_valueOf_228 : decode cX10_valueOf 228 = .ok (.iload 6, 2) := by decide +kernel
theorem dX10_valueOf_230 : decode cX10_valueOf 230 = .ok (.iload 7, 2) := by decide +kernel
theorem dX10_valueOf_232 : decode cX10_valueOf 232 = .ok (.if_icmp .ge 7, 3) := by decide +kernel
theorem dX10_valueOf_235 : decode cX10_valueOf 235 = .ok (.iconst 1, 1) := by decide +kernel
theorem dX10_valueOf_236 : decode cX10_valueOf 236 = .ok (.goto 19, 3) := by decide +kernel
theorem dX10_valueOf_239 : decode cX10_valueOf 239 = .ok (.iconst 0, 1) := by decide +kernel
theorem dX10_valueOf_240 : decode cX10_valueOf 240 = .ok (.goto 15, 3) := by decide +kernel
theorem dX10_valueOf_243 : decode cX10_valueOf 243 = .ok (.iload 6, 2) := by decide +kernel
theorem dX10_valueOf_245 : decode cX10_valueOf 245 = .ok (.iload 7, 2) := by decide +kernel
theorem dX10_valueOf_247 : decode cX10_valueOf 247 = .ok (.if_icmp .ne 7, 3) := by decide +kernel
theorem dX10_valueOf_250 : decode cX10_valueOf 250 = .ok (.iconst 1, 1) := by decide +kernel
theorem dX10_valueOf_251 : decode cX10_valueOf 251 = .ok (.goto 4, 3) := by decide +kernel
theorem dX10_valueOf_254 : decode cX10_valueOf 254 = .ok (.iconst 0, 1) := by decide +kernel
theorem dX10_valueOf_255 : decode cX10_valueOf 255 = .ok (.iastore, 1) := by decide +kernel
theorem dX10_valueOf_256 : decode cX10_valueOf 256 = .ok (.iinc 4 1, 3) := by decide +kernel
theorem dX10_valueOf_259 : decode cX10_valueOf 259 = .ok (.goto (-242), 3) := by decide +kernel
theorem dX10_valueOf_262 : decode cX10_valueOf 262 = .ok (.aload_n 0, 1) := by decide +kernel
theorem dX10_valueOf_263 : decode cX10_valueOf 263 = .ok (.getfield 25, 3) := by decide +kernel
theorem dX10_valueOf_266 : decode cX10_valueOf 266 = .ok (.iconst 0, 1) := by decide +kernel
theorem dX10_valueOf_267 : decode cX10_valueOf 267 = .ok (.iaload, 1) := by decide +kernel
theorem dX10_valueOf_268 : decode cX10_valueOf 268 = .ok (.ireturn, 1) := by decide +kernel
theorem chIwsX10_runs_0 : ∀ w ∈ ([.code yX10_runs cX10_runs 7 none] : List Cond), w ∈ wsX10_runs := fun _ h => (List.mem_cons.mpr (Or.inl (List.mem_singleton.mp h)))
theorem chIwsX10_runs_1 : ∀ w ∈ ([.fieldLink RX10 171 "WatchedProgramsModel" "steps" "I", .fieldLink RX10 174 "WatchedProgramsModel" "came" "I", .fieldLink RX10 34 "WatchedProgramsModel" "blockEnd" "[I", .fieldLink RX10 37 "WatchedProgramsModel" "blockOf" "[I", .fieldLink RX10 40 "WatchedProgramsModel" "blockLeft" "[I", .fieldLink RX10 16 "WatchedProgramsModel" "statement" "[I", .fieldLink RX10 168 "WatchedProgramsModel" "many" "I", .fieldLink RX10 177 "WatchedProgramsModel" "passed" "I", .fieldLink RX10 43 "WatchedProgramsModel" "cell" "[I", .fieldLink RX10 46 "WatchedProgramsModel" "tape" "[I", .fieldLink RX10 49 "WatchedProgramsModel" "tapeLevel" "[I", .methodLink RX10 180 yX10_outsAhead, .instanceMethod yX10_outsAhead, .selects RX10 yX10_outsAhead yX10_outsAhead, .initialized RX10, .code yX10_outsAhead cX10_outsAhead 4 (some .int), .methodLink RX10 183 yX10_valueOf, .instanceMethod yX10_valueOf, .selects RX10 yX10_valueOf yX10_valueOf, .code yX10_valueOf cX10_valueOf 8 (some .int), .fieldLink RX10 19 "WatchedProgramsModel" "sum" "[I", .fieldLink RX10 25 "WatchedProgramsModel" "values" "[I"] : List Cond), w ∈ wsX10_runs := fun _ h => (List.mem_cons_of_mem _ (List.mem_append_left _ h))
theorem chIwsX10_runs_2 : ∀ w ∈ (wsX100 : List Cond), w ∈ wsX10_runs := fun _ h => (List.mem_cons_of_mem _ (List.mem_append_right _ h))
def chwsX10_runs : Nat → List Cond
  | 0 => [.code yX10_runs cX10_runs 7 none]
  | 1 => [.fieldLink RX10 171 "WatchedProgramsModel" "steps" "I", .fieldLink RX10 174 "WatchedProgramsModel" "came" "I", .fieldLink RX10 34 "WatchedProgramsModel" "blockEnd" "[I", .fieldLink RX10 37 "WatchedProgramsModel" "blockOf" "[I", .fieldLink RX10 40 "WatchedProgramsModel" "blockLeft" "[I", .fieldLink RX10 16 "WatchedProgramsModel" "statement" "[I", .fieldLink RX10 168 "WatchedProgramsModel" "many" "I", .fieldLink RX10 177 "WatchedProgramsModel" "passed" "I", .fieldLink RX10 43 "WatchedProgramsModel" "cell" "[I", .fieldLink RX10 46 "WatchedProgramsModel" "tape" "[I", .fieldLink RX10 49 "WatchedProgramsModel" "tapeLevel" "[I", .methodLink RX10 180 yX10_outsAhead, .instanceMethod yX10_outsAhead, .selects RX10 yX10_outsAhead yX10_outsAhead, .initialized RX10, .code yX10_outsAhead cX10_outsAhead 4 (some .int), .methodLink RX10 183 yX10_valueOf, .instanceMethod yX10_valueOf, .selects RX10 yX10_valueOf yX10_valueOf, .code yX10_valueOf cX10_valueOf 8 (some .int), .fieldLink RX10 19 "WatchedProgramsModel" "sum" "[I", .fieldLink RX10 25 "WatchedProgramsModel" "values" "[I"]
  | 2 => wsX100
  | _ => []
theorem chwsX10_runs_in : ∀ (j : Nat) (w : Cond), w ∈ chwsX10_runs j → w ∈ wsX10_runs
  | 0, w, h => chIwsX10_runs_0 w h
  | 1, w, h => chIwsX10_runs_1 w h
  | 2, w, h => chIwsX10_runs_2 w h
  | _ + 3, _, h => absurd h List.not_mem_nil
set_option maxRecDepth 20000 in
theorem ggX10_runs_X10_outsAhead : GoodIn wsX10_runs wsX10_outsAhead := goodIn_r2 chwsX10_runs chwsX10_runs_in _ [(1, 15), (1, 7), (1, 5), (2, 0), (2, 1), (2, 2), (2, 3), (2, 4), (2, 5), (2, 6), (2, 7), (2, 8), (2, 9), (2, 10), (2, 11), (2, 12), (2, 13), (2, 14), (2, 15), (2, 16), (2, 17), (2, 18), (2, 19), (2, 20), (2, 21), (2, 22), (2, 23), (2, 24), (2, 25), (2, 26), (2, 27), (2, 28), (2, 29), (2, 30), (2, 31), (2, 32), (2, 33), (2, 34), (2, 35), (2, 36), (2, 37), (2, 38), (2, 39)] rfl (by decide +kernel)
set_option maxRecDepth 20000 in
theorem gX10_runs_X10_outsAhead : GoodIn wsX10_runs (wsV RX10 180 RX10 yX10_outsAhead wsX10_outsAhead) := goodIn_app (goodIn_r2 chwsX10_runs chwsX10_runs_in _ [(1, 11), (1, 12), (1, 13), (1, 14)] rfl (by decide +kernel)) ggX10_runs_X10_outsAhead
set_option maxRecDepth 20000 in
theorem ggX10_runs_X10_valueOf : GoodIn wsX10_runs wsX10_valueOf := goodIn_r2 chwsX10_runs chwsX10_runs_in _ [(1, 19), (1, 5), (1, 20), (1, 21), (1, 8), (2, 0), (2, 1), (2, 2), (2, 3), (2, 4), (2, 5), (2, 6), (2, 7), (2, 8), (2, 9), (2, 10), (2, 11), (2, 12), (2, 13), (2, 14), (2, 15), (2, 16), (2, 17), (2, 18), (2, 19), (2, 20), (2, 21), (2, 22), (2, 23), (2, 24), (2, 25), (2, 26), (2, 27), (2, 28), (2, 29), (2, 30), (2, 31), (2, 32), (2, 33), (2, 34), (2, 35), (2, 36), (2, 37), (2, 38), (2, 39)] rfl (by decide +kernel)
set_option maxRecDepth 20000 in
theorem gX10_runs_X10_valueOf : GoodIn wsX10_runs (wsV RX10 183 RX10 yX10_valueOf wsX10_valueOf) := goodIn_app (goodIn_r2 chwsX10_runs chwsX10_runs_in _ [(1, 16), (1, 17), (1, 18), (1, 14)] rfl (by decide +kernel)) ggX10_runs_X10_valueOf
theorem dX10_runs_0 : decode cX10_runs 0 = .ok (.aload_n 0, 1) := by decide +kernel
theorem dX10_runs_1 : decode cX10_runs 1 = .ok (.iconst 0, 1) := by decide +kernel
theorem dX10_runs_2 : decode cX10_runs 2 = .ok (.putfield 171, 3) := by decide +kernel
theorem dX10_runs_5 : decode cX10_runs 5 = .ok (.aload_n 0, 1) := by decide +kernel
theorem dX10_runs_6 : decode cX10_runs 6 = .ok (.iconst 0, 1) := by decide +kernel
theorem dX10_runs_7 : decode cX10_runs 7 = .ok (.putfield 174, 3) := by decide +kernel
theorem dX10_runs_10 : decode cX10_runs 10 = .ok (.iconst 0, 1) := by decide +kernel
theorem dX10_runs_11 : decode cX10_runs 11 = .ok (.istore_n 1, 1) := by decide +kernel
theorem dX10_runs_12 : decode cX10_runs 12 = .ok (.iconst 0, 1) := by decide +kernel
theorem dX10_runs_13 : decode cX10_runs 13 = .ok (.istore_n 2, 1) := by decide +kernel
theorem dX10_runs_14 : decode cX10_runs 14 = .ok (.iconst 1, 1) := by decide +kernel
theorem dX10_runs_15 : decode cX10_runs 15 = .ok (.istore_n 3, 1) := by decide +kernel
theorem dX10_runs_16 : decode cX10_runs 16 = .ok (.iload_n 3, 1) := by decide +kernel
theorem dX10_runs_17 : decode cX10_runs 17 = .ok (.ifCond .eq 437, 3) := by decide +kernel
theorem dX10_runs_20 : decode cX10_runs 20 = .ok (.iload_n 1, 1) := by decide +kernel
theorem dX10_runs_21 : decode cX10_runs 21 = .ok (.ifCond .le 113, 3) := by decide +kernel
theorem dX10_runs_24 : decode cX10_runs 24 = .ok (.aload_n 0, 1) := by decide +kernel
theorem dX10_runs_25 : decode cX10_runs 25 = .ok (.getfield 34, 3) := by decide +kernel
theorem dX10_runs_28 : decode cX10_runs 28 = .ok (.iload_n 1, 1) := by decide +kernel
theorem dX10_runs_29 : decode cX10_runs 29 = .ok (.iconst 1, 1) := by decide +kernel
theorem dX10_runs_30 : decode cX10_runs 30 = .ok (.isub, 1) := by decide +kernel
theorem dX10_runs_31 : decode cX10_runs 31 = .ok (.iaload, 1) := by decide +kernel
theorem dX10_runs_32 : decode cX10_runs 32 = .ok (.iload_n 2, 1) := by decide +kernel
theorem dX10_runs_33 : decode cX10_runs 33 = .ok (.if_icmp .ne 101, 3) := by decide +kernel
theorem dX10_runs_36 : decode cX10_runs 36 = .ok (.bipush 8, 2) := by decide +kernel
theorem dX10_runs_38 : decode cX10_runs 38 = .ok (.aload_n 0, 1) := by decide +kernel
theorem dX10_runs_39 : decode cX10_runs 39 = .ok (.getfield 37, 3) := by decide +kernel
theorem dX10_runs_42 : decode cX10_runs 42 = .ok (.iload_n 1, 1) := by decide +kernel
theorem dX10_runs_43 : decode cX10_runs 43 = .ok (.iconst 1, 1) := by decide +kernel
theorem dX10_runs_44 : decode cX10_runs 44 = .ok (.isub, 1) := by decide +kernel
theorem dX10_runs_45 : decode cX10_runs 45 = .ok (.iaload, 1) := by decide +kernel
theorem dX10_runs_46 : decode cX10_runs 46 = .ok (.imul, 1) := by decide +kernel
theorem dX10_runs_47 : decode cX10_runs 47 = .ok (.istore 4, 2) := by decide +kernel
theorem dX10_runs_49 : decode cX10_runs 49 = .ok (.aload_n 0, 1) := by decide +kernel
theorem dX10_runs_50 : decode cX10_runs 50 = .ok (.getfield 40, 3) := by decide +kernel
theorem dX10_runs_53 : decode cX10_runs 53 = .ok (.iload_n 1, 1) := by decide +kernel
theorem dX10_runs_54 : decode cX10_runs 54 = .ok (.iconst 1, 1) := by decide +kernel
theorem dX10_runs_55 : decode cX10_runs 55 = .ok (.isub, 1) := by decide +kernel
theorem dX10_runs_56 : decode cX10_runs 56 = .ok (.dup2, 1) := by decide +kernel
theorem dX10_runs_57 : decode cX10_runs 57 = .ok (.iaload, 1) := by decide +kernel
theorem dX10_runs_58 : decode cX10_runs 58 = .ok (.iconst 1, 1) := by decide +kernel
theorem dX10_runs_59 : decode cX10_runs 59 = .ok (.isub, 1) := by decide +kernel
theorem dX10_runs_60 : decode cX10_runs 60 = .ok (.iastore, 1) := by decide +kernel
theorem dX10_runs_61 : decode cX10_runs 61 = .ok (.aload_n 0, 1) := by decide +kernel
theorem dX10_runs_62 : decode cX10_runs 62 = .ok (.getfield 16, 3) := by decide +kernel
theorem dX10_runs_65 : decode cX10_runs 65 = .ok (.iload 4, 2) := by decide +kernel
theorem dX10_runs_67 : decode cX10_runs 67 = .ok (.iaload, 1) := by decide +kernel
theorem dX10_runs_68 : decode cX10_runs 68 = .ok (.iconst 3, 1) := by decide +kernel
theorem dX10_runs_69 : decode cX10_runs 69 = .ok (.if_icmp .ne 49, 3) := by decide +kernel
theorem dX10_runs_72 : decode cX10_runs 72 = .ok (.aload_n 0, 1) := by decide +kernel
theorem dX10_runs_73 : decode cX10_runs 73 = .ok (.getfield 40, 3) := by decide +kernel
theorem dX10_runs_76 : decode cX10_runs 76 = .ok (.iload_n 1, 1) := by decide +kernel
theorem dX10_runs_77 : decode cX10_runs 77 = .ok (.iconst 1, 1) := by decide +kernel
theorem dX10_runs_78 : decode cX10_runs 78 = .ok (.isub, 1) := by decide +kernel
theorem dX10_runs_79 : decode cX10_runs 79 = .ok (.iaload, 1) := by decide +kernel
theorem dX10_runs_80 : decode cX10_runs 80 = .ok (.ifCond .le 38, 3) := by decide +kernel
theorem dX10_runs_83 : decode cX10_runs 83 = .ok (.aload_n 0, 1) := by decide +kernel
theorem dX10_runs_84 : decode cX10_runs 84 = .ok (.getfield 37, 3) := by decide +kernel
theorem dX10_runs_87 : decode cX10_runs 87 = .ok (.iload_n 1, 1) := by decide +kernel
theorem dX10_runs_88 : decode cX10_runs 88 = .ok (.iconst 1, 1) := by decide +kernel
theorem dX10_runs_89 : decode cX10_runs 89 = .ok (.isub, 1) := by decide +kernel
theorem dX10_runs_90 : decode cX10_runs 90 = .ok (.iaload, 1) := by decide +kernel
theorem dX10_runs_91 : decode cX10_runs 91 = .ok (.iconst 1, 1) := by decide +kernel
theorem dX10_runs_92 : decode cX10_runs 92 = .ok (.iadd, 1) := by decide +kernel
theorem dX10_runs_93 : decode cX10_runs 93 = .ok (.istore_n 2, 1) := by decide +kernel
theorem dX10_runs_94 : decode cX10_runs 94 = .ok (.iload_n 2, 1) := by decide +kernel
theorem dX10_runs_95 : decode cX10_runs 95 = .ok (.aload_n 0, 1) := by decide +kernel
theorem dX10_runs_96 : decode cX10_runs 96 = .ok (.getfield 34, 3) := by decide +kernel
theorem dX10_runs_99 : decode cX10_runs 99 = .ok (.iload_n 1, 1) := by decide +kernel
theorem dX10_runs_100 : decode cX10_runs 100 = .ok (.iconst 1, 1) := by decide +kernel
theorem dX10_runs_101 : decode cX10_runs 101 = .ok (.isub, 1) := by decide +kernel
theorem dX10_runs_102 : decode cX10_runs 102 = .ok (.iaload, 1) := by decide +kernel
theorem dX10_runs_103 : decode cX10_runs 103 = .ok (.if_icmp .ne 28, 3) := by decide +kernel
theorem dX10_runs_106 : decode cX10_runs 106 = .ok (.aload_n 0, 1) := by decide +kernel
theorem dX10_runs_107 : decode cX10_runs 107 = .ok (.getfield 40, 3) := by decide +kernel
theorem dX10_runs_110 : decode cX10_runs 110 = .ok (.iload_n 1, 1) := by decide +kernel
theorem dX10_runs_111 : decode cX10_runs 111 = .ok (.iconst 1, 1) := by decide +kernel
theorem dX10_runs_112 : decode cX10_runs 112 = .ok (.isub, 1) := by decide +kernel
theorem dX10_runs_113 : decode cX10_runs 113 = .ok (.iconst 1, 1) := by decide +kernel
theorem dX10_runs_114 : decode cX10_runs 114 = .ok (.iastore, 1) := by decide +kernel
theorem dX10_runs_115 : decode cX10_runs 115 = .ok (.goto 16, 3) := by decide +kernel
theorem dX10_runs_118 : decode cX10_runs 118 = .ok (.aload_n 0, 1) := by decide +kernel
theorem dX10_runs_119 : decode cX10_runs 119 = .ok (.getfield 16, 3) := by decide +kernel
theorem dX10_runs_122 : decode cX10_runs 122 = .ok (.iload 4, 2) := by decide +kernel
theorem dX10_runs_124 : decode cX10_runs 124 = .ok (.iconst 5, 1) := by decide +kernel
theorem dX10_runs_125 : decode cX10_runs 125 = .ok (.iadd, 1) := by decide +kernel
theorem dX10_runs_126 : decode cX10_runs 126 = .ok (.iaload, 1) := by decide +kernel
theorem dX10_runs_127 : decode cX10_runs 127 = .ok (.istore_n 2, 1) := by decide +kernel
theorem dX10_runs_128 : decode cX10_runs 128 = .ok (.iinc 1 (-1), 3) := by decide +kernel
theorem dX10_runs_131 : decode cX10_runs 131 = .ok (.goto (-111), 3) := by decide +kernel
theorem dX10_runs_134 : decode cX10_runs 134 = .ok (.iload_n 2, 1) := by decide +kernel
theorem dX10_runs_135 : decode cX10_runs 135 = .ok (.aload_n 0, 1) := by decide +kernel
theorem dX10_runs_136 : decode cX10_runs 136 = .ok (.getfield 168, 3) := by decide +kernel
theorem dX10_runs_139 : decode cX10_runs 139 = .ok (.if_icmp .ge 17, 3) := by decide +kernel
theorem dX10_runs_142 : decode cX10_runs 142 = .ok (.aload_n 0, 1) := by decide +kernel
theorem dX10_runs_143 : decode cX10_runs 143 = .ok (.getfield 171, 3) := by decide +kernel
theorem dX10_runs_146 : decode cX10_runs 146 = .ok (.sipush 400, 3) := by decide +kernel
theorem dX10_runs_149 : decode cX10_runs 149 = .ok (.if_icmp .ge 7, 3) := by decide +kernel
theorem dX10_runs_152 : decode cX10_runs 152 = .ok (.iconst 1, 1) := by decide +kernel
theorem dX10_runs_153 : decode cX10_runs 153 = .ok (.goto 4, 3) := by decide +kernel
theorem dX10_runs_156 : decode cX10_runs 156 = .ok (.iconst 0, 1) := by decide +kernel
theorem dX10_runs_157 : decode cX10_runs 157 = .ok (.istore_n 3, 1) := by decide +kernel
theorem dX10_runs_158 : decode cX10_runs 158 = .ok (.iload_n 3, 1) := by decide +kernel
theorem dX10_runs_159 : decode cX10_runs 159 = .ok (.ifCond .eq (-143), 3) := by decide +kernel
theorem dX10_runs_162 : decode cX10_runs 162 = .ok (.bipush 8, 2) := by decide +kernel
theorem dX10_runs_164 : decode cX10_runs 164 = .ok (.iload_n 2, 1) := by decide +kernel
theorem dX10_runs_165 : decode cX10_runs 165 = .ok (.imul, 1) := by decide +kernel
theorem dX10_runs_166 : decode cX10_runs 166 = .ok (.istore 4, 2) := by decide +kernel
theorem dX10_runs_168 : decode cX10_runs 168 = .ok (.aload_n 0, 1) := by decide +kernel
theorem dX10_runs_169 : decode cX10_runs 169 = .ok (.getfield 16, 3) := by decide +kernel
theorem dX10_runs_172 : decode cX10_runs 172 = .ok (.iload 4, 2) := by decide +kernel
theorem dX10_runs_174 : decode cX10_runs 174 = .ok (.iaload, 1) := by decide +kernel
theorem dX10_runs_175 : decode cX10_runs 175 = .ok (.iconst 1, 1) := by decide +kernel
theorem dX10_runs_176 : decode cX10_runs 176 = .ok (.if_icmp .ne 23, 3) := by decide +kernel
theorem dX10_runs_179 : decode cX10_runs 179 = .ok (.aload_n 0, 1) := by decide +kernel
theorem dX10_runs_180 : decode cX10_runs 180 = .ok (.getfield 177, 3) := by decide +kernel
theorem dX10_runs_183 : decode cX10_runs 183 = .ok (.aload_n 0, 1) := by decide +kernel
theorem dX10_runs_184 : decode cX10_runs 184 = .ok (.iload_n 2, 1) := by decide +kernel
theorem dX10_runs_185 : decode cX10_runs 185 = .ok (.invokevirtual 180, 3) := by decide +kernel
theorem dX10_runs_188 : decode cX10_runs 188 = .ok (.ishr, 1) := by decide +kernel
theorem dX10_runs_189 : decode cX10_runs 189 = .ok (.iconst 1, 1) := by decide +kernel
theorem dX10_runs_190 : decode cX10_runs 190 = .ok (.iand, 1) := by decide +kernel
theorem dX10_runs_191 : decode cX10_runs 191 = .ok (.iconst 1, 1) := by decide +kernel
theorem dX10_runs_192 : decode cX10_runs 192 = .ok (.if_icmp .ne 7, 3) := by decide +kernel
theorem dX10_runs_195 : decode cX10_runs 195 = .ok (.iconst 1, 1) := by decide +kernel
theorem dX10_runs_196 : decode cX10_runs 196 = .ok (.goto 4, 3) := by decide +kernel
theorem dX10_runs_199 : decode cX10_runs 199 = .ok (.iconst 0, 1) := by decide +kernel
theorem dX10_runs_200 : decode cX10_runs 200 = .ok (.istore 5, 2) := by decide +kernel
theorem dX10_runs_202 : decode cX10_runs 202 = .ok (.aload_n 0, 1) := by decide +kernel
theorem dX10_runs_203 : decode cX10_runs 203 = .ok (.dup, 1) := by decide +kernel
theorem dX10_runs_204 : decode cX10_runs 204 = .ok (.getfield 171, 3) := by decide +kernel
theorem dX10_runs_207 : decode cX10_runs 207 = .ok (.iload 5, 2) := by decide +kernel
theorem dX10_runs_209 : decode cX10_runs 209 = .ok (.ifCond .eq 7, 3) := by decide +kernel
theorem dX10_runs_212 : decode cX10_runs 212 = .ok (.iconst 0, 1) := by decide +kernel
theorem dX10_runs_213 : decode cX10_runs 213 = .ok (.goto 4, 3) := by decide +kernel
theorem dX10_runs_216 : decode cX10_runs 216 = .ok (.iconst 1, 1) := by decide +kernel
theorem dX10_runs_217 : decode cX10_runs 217 = .ok (.iadd, 1) := by decide +kernel
theorem dX10_runs_218 : decode cX10_runs 218 = .ok (.putfield 171, 3) := by decide +kernel
theorem dX10_runs_221 : decode cX10_runs 221 = .ok (.aload_n 0, 1) := by decide +kernel
theorem dX10_runs_222 : decode cX10_runs 222 = .ok (.getfield 16, 3) := by decide +kernel
theorem dX10_runs_225 : decode cX10_runs 225 = .ok (.iload 4, 2) := by decide +kernel
theorem dX10_runs_227 : decode cX10_runs 227 = .ok (.iaload, 1) := by decide +kernel
theorem dX10_runs_228 : decode cX10_runs 228 = .ok (.ifCond .ne 28, 3) := by decide +kernel
theorem dX10_runs_231 : decode cX10_runs 231 = .ok (.aload_n 0, 1) := by decide +kernel
theorem dX10_runs_232 : decode cX10_runs 232 = .ok (.getfield 43, 3) := by decide +kernel
theorem dX10_runs_235 : decode cX10_runs 235 = .ok (.aload_n 0, 1) := by decide +kernel
theorem dX10_runs_236 : decode cX10_runs 236 = .ok (.getfield 16, 3) := by decide +kernel
theorem dX10_runs_239 : decode cX10_runs 239 = .ok (.iload 4, 2) := by decide +kernel
theorem dX10_runs_241 : decode cX10_runs 241 = .ok (.iconst 1, 1) := by decide +kernel
theorem dX10_runs_242 : decode cX10_runs 242 = .ok (.iadd, 1) := by decide +kernel
theorem dX10_runs_243 : decode cX10_runs 243 = .ok (.iaload, 1) := by decide +kernel
theorem dX10_runs_244 : decode cX10_runs 244 = .ok (.aload_n 0, 1) := by decide +kernel
theorem dX10_runs_245 : decode cX10_runs 245 = .ok (.iload_n 2, 1) := by decide +kernel
theorem dX10_runs_246 : decode cX10_runs 246 = .ok (.invokevirtual 183, 3) := by decide +kernel
theorem dX10_runs_249 : decode cX10_runs 249 = .ok (.iastore, 1) := by decide +kernel
theorem dX10_runs_250 : decode cX10_runs 250 = .ok (.iinc 2 1, 3) := by decide +kernel
theorem dX10_runs_253 : decode cX10_runs 253 = .ok (.goto 198, 3) := by decide +kernel
theorem dX10_runs_256 : decode cX10_runs 256 = .ok (.aload_n 0, 1) := by decide +kernel
theorem dX10_runs_257 : decode cX10_runs 257 = .ok (.getfield 16, 3) := by decide +kernel
theorem dX10_runs_260 : decode cX10_runs 260 = .ok (.iload 4, 2) := by decide +kernel
theorem dX10_runs_262 : decode cX10_runs 262 = .ok (.iaload, 1) := by decide +kernel
theorem dX10_runs_263 : decode cX10_runs 263 = .ok (.iconst 1, 1) := by decide +kernel
theorem dX10_runs_264 : decode cX10_runs 264 = .ok (.if_icmp .ne 65, 3) := by decide +kernel
theorem dX10_runs_267 : decode cX10_runs 267 = .ok (.iload 5, 2) := by decide +kernel
theorem dX10_runs_269 : decode cX10_runs 269 = .ok (.ifCond .ne 54, 3) := by decide +kernel
theorem dX10_runs_272 : decode cX10_runs 272 = .ok (.aload_n 0, 1) := by decide +kernel
theorem dX10_runs_273 : decode cX10_runs 273 = .ok (.getfield 174, 3) := by decide +kernel
theorem dX10_runs_276 : decode cX10_runs 276 = .ok (.bipush 20, 2) := by decide +kernel
theorem dX10_runs_278 : decode cX10_runs 278 = .ok (.if_icmp .ge 35, 3) := by decide +kernel
theorem dX10_runs_281 : decode cX10_runs 281 = .ok (.aload_n 0, 1) := by decide +kernel
theorem dX10_runs_282 : decode cX10_runs 282 = .ok (.getfield 46, 3) := by decide +kernel
theorem dX10_runs_285 : decode cX10_runs 285 = .ok (.aload_n 0, 1) := by decide +kernel
theorem dX10_runs_286 : decode cX10_runs 286 = .ok (.getfield 174, 3) := by decide +kernel
theorem dX10_runs_289 : decode cX10_runs 289 = .ok (.aload_n 0, 1) := by decide +kernel
theorem dX10_runs_290 : decode cX10_runs 290 = .ok (.iload_n 2, 1) := by decide +kernel
theorem dX10_runs_291 : decode cX10_runs 291 = .ok (.invokevirtual 183, 3) := by decide +kernel
theorem dX10_runs_294 : decode cX10_runs 294 = .ok (.iastore, 1) := by decide +kernel
theorem dX10_runs_295 : decode cX10_runs 295 = .ok (.aload_n 0, 1) := by decide +kernel
theorem dX10_runs_296 : decode cX10_runs 296 = .ok (.getfield 49, 3) := by decide +kernel
theorem dX10_runs_299 : decode cX10_runs 299 = .ok (.aload_n 0, 1) := by decide +kernel
theorem dX10_runs_300 : decode cX10_runs 300 = .ok (.getfield 174, 3) := by decide +kernel
theorem dX10_runs_303 : decode cX10_runs 303 = .ok (.aload_n 0, 1) := by decide +kernel
theorem dX10_runs_304 : decode cX10_runs 304 = .ok (.getfield 16, 3) := by decide +kernel
theorem dX10_runs_307 : decode cX10_runs 307 = .ok (.iload 4, 2) := by decide +kernel
theorem dX10_runs_309 : decode cX10_runs 309 = .ok (.iconst 1, 1) := by decide +kernel
theorem dX10_runs_310 : decode cX10_runs 310 = .ok (.iadd, 1) := by decide +kernel
theorem dX10_runs_311 : decode cX10_runs 311 = .ok (.iaload, 1) := by decide +kernel
theorem dX10_runs_312 : decode cX10_runs 312 = .ok (.iastore, 1) := by decide +kernel
theorem dX10_runs_313 : decode cX10_runs 313 = .ok (.aload_n 0, 1) := by decide +kernel
theorem dX10_runs_314 : decode cX10_runs 314 = .ok (.dup, 1) := by decide +kernel
theorem dX10_runs_315 : decode cX10_runs 315 = .ok (.getfield 174, 3) := by decide +kernel
theorem dX10_runs_318 : decode cX10_runs 318 = .ok (.iconst 1, 1) := by decide +kernel
theorem dX10_runs_319 : decode cX10_runs 319 = .ok (.iadd, 1) := by decide +kernel
theorem dX10_runs_320 : decode cX10_runs 320 = .ok (.putfield 174, 3) := by decide +kernel
theorem dX10_runs_323 : decode cX10_runs 323 = .ok (.iinc 2 1, 3) := by decide +kernel
theorem dX10_runs_326 : decode cX10_runs 326 = .ok (.goto 125, 3) := by decide +kernel
theorem dX10_runs_329 : decode cX10_runs 329 = .ok (.aload_n 0, 1) := by decide +kernel
theorem dX10_runs_330 : decode cX10_runs 330 = .ok (.getfield 16, 3) := by decide +kernel
theorem dX10_runs_333 : decode cX10_runs 333 = .ok (.iload 4, 2) := by decide +kernel
theorem dX10_runs_335 : decode cX10_runs 335 = .ok (.iaload, 1) := by decide +kernel
theorem dX10_runs_336 : decode cX10_runs 336 = .ok (.iconst 2, 1) := by decide +kernel
theorem dX10_runs_337 : decode cX10_runs 337 = .ok (.if_icmp .ne 19, 3) := by decide +kernel
theorem dX10_runs_340 : decode cX10_runs 340 = .ok (.aload_n 0, 1) := by decide +kernel
theorem dX10_runs_341 : decode cX10_runs 341 = .ok (.iload_n 2, 1) := by decide +kernel
theorem dX10_runs_342 : decode cX10_runs 342 = .ok (.invokevirtual 183, 3) := by decide +kernel
theorem dX10_runs_345 : decode cX10_runs 345 = .ok (.ifCond .eq 7, 3) := by decide +kernel
theorem dX10_runs_348 : decode cX10_runs 348 = .ok (.iconst 1, 1) := by decide +kernel
theorem dX10_runs_349 : decode cX10_runs 349 = .ok (.goto 24, 3) := by decide +kernel
theorem dX10_runs_352 : decode cX10_runs 352 = .ok (.iconst 0, 1) := by decide +kernel
theorem dX10_runs_353 : decode cX10_runs 353 = .ok (.goto 20, 3) := by decide +kernel
theorem dX10_runs_356 : decode cX10_runs 356 = .ok (.aload_n 0, 1) := by decide +kernel
theorem dX10_runs_357 : decode cX10_runs 357 = .ok (.getfield 16, 3) := by decide +kernel
theorem dX10_runs_360 : decode cX10_runs 360 = .ok (.iload 4, 2) := by decide +kernel
theorem dX10_runs_362 : decode cX10_runs 362 = .ok (.iconst 1, 1) := by decide +kernel
theorem dX10_runs_363 : decode cX10_runs 363 = .ok (.iadd, 1) := by decide +kernel
theorem dX10_runs_364 : decode cX10_runs 364 = .ok (.iaload, 1) := by decide +kernel
theorem dX10_runs_365 : decode cX10_runs 365 = .ok (.ifCond .le 7, 3) := by decide +kernel
theorem dX10_runs_368 : decode cX10_runs 368 = .ok (.iconst 1, 1) := by decide +kernel
theorem dX10_runs_369 : decode cX10_runs 369 = .ok (.goto 4, 3) := by decide +kernel
theorem dX10_runs_372 : decode cX10_runs 372 = .ok (.iconst 0, 1) := by decide +kernel
theorem dX10_runs_373 : decode cX10_runs 373 = .ok (.istore 6, 2) := by decide +kernel
theorem dX10_runs_375 : decode cX10_runs 375 = .ok (.iload 6, 2) := by decide +kernel
theorem dX10_runs_377 : decode cX10_runs 377 = .ok (.ifCond .eq 64, 3) := by decide +kernel
theorem dX10_runs_380 : decode cX10_runs 380 = .ok (.aload_n 0, 1) := by decide +kernel
theorem dX10_runs_381 : decode cX10_runs 381 = .ok (.getfield 34, 3) := by decide +kernel
theorem dX10_runs_384 : decode cX10_runs 384 = .ok (.iload_n 1, 1) := by decide +kernel
theorem dX10_runs_385 : decode cX10_runs 385 = .ok (.aload_n 0, 1) := by decide +kernel
theorem dX10_runs_386 : decode cX10_runs 386 = .ok (.getfield 16, 3) := by decide +kernel
theorem dX10_runs_389 : decode cX10_runs 389 = .ok (.iload 4, 2) := by decide +kernel
theorem dX10_runs_391 : decode cX10_runs 391 = .ok (.iconst 4, 1) := by decide +kernel
theorem dX10_runs_392 : decode cX10_runs 392 = .ok (.iadd, 1) := by decide +kernel
theorem dX10_runs_393 : decode cX10_runs 393 = .ok (.iaload, 1) := by decide +kernel
theorem dX10_runs_394 : decode cX10_runs 394 = .ok (.iastore, 1) := by decide +kernel
theorem dX10_runs_395 : decode cX10_runs 395 = .ok (.aload_n 0, 1) := by decide +kernel
theorem dX10_runs_396 : decode cX10_runs 396 = .ok (.getfield 37, 3) := by decide +kernel
theorem dX10_runs_399 : decode cX10_runs 399 = .ok (.iload_n 1, 1) := by decide +kernel
theorem dX10_runs_400 : decode cX10_runs 400 = .ok (.iload_n 2, 1) := by decide +kernel
theorem dX10_runs_401 : decode cX10_runs 401 = .ok (.iastore, 1) := by decide +kernel
theorem dX10_runs_402 : decode cX10_runs 402 = .ok (.aload_n 0, 1) := by decide +kernel
theorem dX10_runs_403 : decode cX10_runs 403 = .ok (.getfield 40, 3) := by decide +kernel
theorem dX10_runs_406 : decode cX10_runs 406 = .ok (.iload_n 1, 1) := by decide +kernel
theorem dX10_runs_407 : decode cX10_runs 407 = .ok (.aload_n 0, 1) := by decide +kernel
theorem dX10_runs_408 : decode cX10_runs 408 = .ok (.getfield 16, 3) := by decide +kernel
theorem dX10_runs_411 : decode cX10_runs 411 = .ok (.iload 4, 2) := by decide +kernel
theorem dX10_runs_413 : decode cX10_runs 413 = .ok (.iaload, 1) := by decide +kernel
theorem dX10_runs_414 : decode cX10_runs 414 = .ok (.iconst 2, 1) := by decide +kernel
theorem dX10_runs_415 : decode cX10_runs 415 = .ok (.if_icmp .ne 7, 3) := by decide +kernel
theorem dX10_runs_418 : decode cX10_runs 418 = .ok (.iconst 1, 1) := by decide +kernel
theorem dX10_runs_419 : decode cX10_runs 419 = .ok (.goto 12, 3) := by decide +kernel
theorem dX10_runs_422 : decode cX10_runs 422 = .ok (.aload_n 0, 1) := by decide +kernel
theorem dX10_runs_423 : decode cX10_runs 423 = .ok (.getfield 16, 3) := by decide +kernel
theorem dX10_runs_426 : decode cX10_runs 426 = .ok (.iload 4, 2) := by decide +kernel
theorem dX10_runs_428 : decode cX10_runs 428 = .ok (.iconst 1, 1) := by decide +kernel
theorem dX10_runs_429 : decode cX10_runs 429 = .ok (.iadd, 1) := by decide +kernel
theorem dX10_runs_430 : decode cX10_runs 430 = .ok (.iaload, 1) := by decide +kernel
theorem dX10_runs_431 : decode cX10_runs 431 = .ok (.iastore, 1) := by decide +kernel
theorem dX10_runs_432 : decode cX10_runs 432 = .ok (.iinc 1 1, 3) := by decide +kernel
theorem dX10_runs_435 : decode cX10_runs 435 = .ok (.iinc 2 1, 3) := by decide +kernel
theorem dX10_runs_438 : decode cX10_runs 438 = .ok (.goto 13, 3) := by decide +kernel
theorem dX10_runs_441 : decode cX10_runs 441 = .ok (.aload_n 0, 1) := by decide +kernel
theorem dX10_runs_442 : decode cX10_runs 442 = .ok (.getfield 16, 3) := by decide +kernel
theorem dX10_runs_445 : decode cX10_runs 445 = .ok (.iload 4, 2) := by decide +kernel
theorem dX10_runs_447 : decode cX10_runs 447 = .ok (.iconst 4, 1) := by decide +kernel
theorem dX10_runs_448 : decode cX10_runs 448 = .ok (.iadd, 1) := by decide +kernel
theorem dX10_runs_449 : decode cX10_runs 449 = .ok (.iaload, 1) := by decide +kernel
theorem dX10_runs_450 : decode cX10_runs 450 = .ok (.istore_n 2, 1) := by decide +kernel
theorem dX10_runs_451 : decode cX10_runs 451 = .ok (.goto (-435), 3) := by decide +kernel
theorem dX10_runs_454 : decode cX10_runs 454 = .ok (.return_, 1) := by decide +kernel
theorem dX10_outsAhead_0 : decode cX10_outsAhead 0 = .ok (.aload_n 0, 1) := by decide +kernel
theorem dX10_outsAhead_1 : decode cX10_outsAhead 1 = .ok (.getfield 177, 3) := by decide +kernel
theorem dX10_outsAhead_4 : decode cX10_outsAhead 4 = .ok (.ifCond .ne 6, 3) := by decide +kernel
theorem dX10_outsAhead_7 : decode cX10_outsAhead 7 = .ok (.bipush 31, 2) := by decide +kernel
theorem dX10_outsAhead_9 : decode cX10_outsAhead 9 = .ok (.ireturn, 1) := by decide +kernel
theorem dX10_outsAhead_10 : decode cX10_outsAhead 10 = .ok (.iconst 0, 1) := by decide +kernel
theorem dX10_outsAhead_11 : decode cX10_outsAhead 11 = .ok (.istore_n 2, 1) := by decide +kernel
theorem dX10_outsAhead_12 : decode cX10_outsAhead 12 = .ok (.iconst 0, 1) := by decide +kernel
theorem dX10_outsAhead_13 : decode cX10_outsAhead 13 = .ok (.istore_n 3, 1) := by decide +kernel
theorem dX10_outsAhead_14 : decode cX10_outsAhead 14 = .ok (.iload_n 3, 1) := by decide +kernel
theorem dX10_outsAhead_15 : decode cX10_outsAhead 15 = .ok (.iload_n 1, 1) := by decide +kernel
theorem dX10_outsAhead_16 : decode cX10_outsAhead 16 = .ok (.if_icmp .ge 30, 3) := by decide +kernel
theorem dX10_outsAhead_19 : decode cX10_outsAhead 19 = .ok (.iload_n 2, 1) := by decide +kernel
theorem dX10_outsAhead_20 : decode cX10_outsAhead 20 = .ok (.aload_n 0, 1) := by decide +kernel
theorem dX10_outsAhead_21 : decode cX10_outsAhead 21 = .ok (.getfield 16, 3) := by decide +kernel
theorem dX10_outsAhead_24 : decode cX10_outsAhead 24 = .ok (.bipush 8, 2) := by decide +kernel
theorem dX10_outsAhead_26 : decode cX10_outsAhead 26 = .ok (.iload_n 3, 1) := by decide +kernel
theorem dX10_outsAhead_27 : decode cX10_outsAhead 27 = .ok (.imul, 1) := by decide +kernel
theorem dX10_outsAhead_28 : decode cX10_outsAhead 28 = .ok (.iaload, 1) := by decide +kernel
theorem dX10_outsAhead_29 : decode cX10_outsAhead 29 = .ok (.iconst 1, 1) := by decide +kernel
theorem dX10_outsAhead_30 : decode cX10_outsAhead 30 = .ok (.if_icmp .ne 7, 3) := by decide +kernel
theorem dX10_outsAhead_33 : decode cX10_outsAhead 33 = .ok (.iconst 1, 1) := by decide +kernel
theorem dX10_outsAhead_34 : decode cX10_outsAhead 34 = .ok (.goto 4, 3) := by decide +kernel
theorem dX10_outsAhead_37 : decode cX10_outsAhead 37 = .ok (.iconst 0, 1) := by decide +kernel
theorem dX10_outsAhead_38 : decode cX10_outsAhead 38 = .ok (.iadd, 1) := by decide +kernel
theorem dX10_outsAhead_39 : decode cX10_outsAhead 39 = .ok (.istore_n 2, 1) := by decide +kernel
theorem dX10_outsAhead_40 : decode cX10_outsAhead 40 = .ok (.iinc 3 1, 3) := by decide +kernel
theorem dX10_outsAhead_43 : decode cX10_outsAhead 43 = .ok (.goto (-29), 3) := by decide +kernel
theorem dX10_outsAhead_46 : decode cX10_outsAhead 46 = .ok (.iload_n 2, 1) := by decide +kernel
theorem dX10_outsAhead_47 : decode cX10_outsAhead 47 = .ok (.ireturn, 1) := by decide +kernel
theorem chIwsX10_run_0 : ∀ w ∈ ([.code yX10_run cX10_run 4 (some .int)] : List Cond), w ∈ wsX10_run := fun _ h => (List.mem_cons.mpr (Or.inl (List.mem_singleton.mp h)))
theorem chIwsX10_run_1 : ∀ w ∈ (wsX10_run_r1 : List Cond), w ∈ wsX10_run := fun _ h => (List.mem_cons_of_mem _ (List.mem_append_left _ (List.mem_append_left _ h)))
theorem chIwsX10_run_2 : ∀ w ∈ (wsX10_run_r2 : List Cond), w ∈ wsX10_run := fun _ h => (List.mem_cons_of_mem _ (List.mem_append_left _ (List.mem_append_right _ h)))
theorem chIwsX10_run_3 : ∀ w ∈ (wsX100 : List Cond), w ∈ wsX10_run := fun _ h => (List.mem_cons_of_mem _ (List.mem_append_right _ h))
def chwsX10_run : Nat → List Cond
  | 0 => [.code yX10_run cX10_run 4 (some .int)]
  | 1 => wsX10_run_r1
  | 2 => wsX10_run_r2
  | 3 => wsX100
  | _ => []
theorem chwsX10_run_in : ∀ (j : Nat) (w : Cond), w ∈ chwsX10_run j → w ∈ wsX10_run
  | 0, w, h => chIwsX10_run_0 w h
  | 1, w, h => chIwsX10_run_1 w h
  | 2, w, h => chIwsX10_run_2 w h
  | 3, w, h => chIwsX10_run_3 w h
  | _ + 4, _, h => absurd h List.not_mem_nil
set_option maxRecDepth 20000 in
theorem ggX10_run_X10_in : GoodIn wsX10_run wsX10_in := goodIn_r2 chwsX10_run chwsX10_run_in _ [(1, 14)] rfl (by decide +kernel)
set_option maxRecDepth 20000 in
theorem gX10_run_X10_in : GoodIn wsX10_run (va_wsS RX10 84 yX10_in wsX10_in) := goodIn_app (goodIn_r2 chwsX10_run chwsX10_run_in _ [(1, 11), (1, 12), (1, 13)] rfl (by decide +kernel)) ggX10_run_X10_in
set_option maxRecDepth 20000 in
theorem ggX10_run_X10_runs : GoodIn wsX10_run wsX10_runs := goodIn_r2 chwsX10_run chwsX10_run_in _ [(1, 18), (1, 3), (1, 5), (1, 19), (1, 20), (1, 21), (1, 22), (1, 23), (1, 2), (1, 1), (1, 8), (1, 10), (2, 0), (2, 1), (2, 2), (1, 13), (2, 3), (2, 4), (2, 5), (2, 6), (2, 7), (2, 8), (2, 9), (3, 0), (3, 1), (3, 2), (3, 3), (3, 4), (3, 5), (3, 6), (3, 7), (3, 8), (3, 9), (3, 10), (3, 11), (3, 12), (3, 13), (3, 14), (3, 15), (3, 16), (3, 17), (3, 18), (3, 19), (3, 20), (3, 21), (3, 22), (3, 23), (3, 24), (3, 25), (3, 26), (3, 27), (3, 28), (3, 29), (3, 30), (3, 31), (3, 32), (3, 33), (3, 34), (3, 35), (3, 36), (3, 37), (3, 38), (3, 39)] rfl (by decide +kernel)
set_option maxRecDepth 20000 in
theorem gX10_run_X10_runs : GoodIn wsX10_run (wsV RX10 186 RX10 yX10_runs wsX10_runs) := goodIn_app (goodIn_r2 chwsX10_run chwsX10_run_in _ [(1, 15), (1, 16), (1, 17), (1, 13)] rfl (by decide +kernel)) ggX10_run_X10_runs
theorem dX10_run_0 : decode cX10_run 0 = .ok (.aload_n 0, 1) := by decide +kernel
theorem dX10_run_1 : decode cX10_run 1 = .ok (.iconst 0, 1) := by decide +kernel
theorem dX10_run_2 : decode cX10_run 2 = .ok (.putfield 80, 3) := by decide +kernel
theorem dX10_run_5 : decode cX10_run 5 = .ok (.iload_n 1, 1) := by decide +kernel
theorem dX10_run_6 : decode cX10_run 6 = .ok (.iconst 0, 1) := by decide +kernel
theorem dX10_run_7 : decode cX10_run 7 = .ok (.sipush 4095, 3) := by decide +kernel
theorem dX10_run_10 : decode cX10_run 10 = .ok (.invokestatic 84, 3) := by decide +kernel
theorem dX10_run_13 : decode cX10_run 13 = .ok (.ifCond .ne 5, 3) := by decide +kernel
theorem dX10_run_16 : decode cX10_run 16 = .ok (.iconst (-1), 1) := by decide +kernel
theorem dX10_run_17 : decode cX10_run 17 = .ok (.ireturn, 1) := by decide +kernel
theorem dX10_run_18 : decode cX10_run 18 = .ok (.iconst 0, 1) := by decide +kernel
theorem dX10_run_19 : decode cX10_run 19 = .ok (.istore_n 2, 1) := by decide +kernel
theorem dX10_run_20 : decode cX10_run 20 = .ok (.iload_n 2, 1) := by decide +kernel
theorem dX10_run_21 : decode cX10_run 21 = .ok (.bipush 6, 2) := by decide +kernel
theorem dX10_run_23 : decode cX10_run 23 = .ok (.if_icmp .ge 22, 3) := by decide +kernel
theorem dX10_run_26 : decode cX10_run 26 = .ok (.aload_n 0, 1) := by decide +kernel
theorem dX10_run_27 : decode cX10_run 27 = .ok (.getfield 43, 3) := by decide +kernel
theorem dX10_run_30 : decode cX10_run 30 = .ok (.iload_n 2, 1) := by decide +kernel
theorem dX10_run_31 : decode cX10_run 31 = .ok (.iload_n 1, 1) := by decide +kernel
theorem dX10_run_32 : decode cX10_run 32 = .ok (.iconst 2, 1) := by decide +kernel
theorem dX10_run_33 : decode cX10_run 33 = .ok (.iload_n 2, 1) := by decide +kernel
theorem dX10_run_34 : decode cX10_run 34 = .ok (.imul, 1) := by decide +kernel
theorem dX10_run_35 : decode cX10_run 35 = .ok (.ishr, 1) := by decide +kernel
theorem dX10_run_36 : decode cX10_run 36 = .ok (.iconst 3, 1) := by decide +kernel
theorem dX10_run_37 : decode cX10_run 37 = .ok (.iand, 1) := by decide +kernel
theorem dX10_run_38 : decode cX10_run 38 = .ok (.iastore, 1) := by decide +kernel
theorem dX10_run_39 : decode cX10_run 39 = .ok (.iinc 2 1, 3) := by decide +kernel
theorem dX10_run_42 : decode cX10_run 42 = .ok (.goto (-22), 3) := by decide +kernel
theorem dX10_run_45 : decode cX10_run 45 = .ok (.aload_n 0, 1) := by decide +kernel
theorem dX10_run_46 : decode cX10_run 46 = .ok (.iconst 0, 1) := by decide +kernel
theorem dX10_run_47 : decode cX10_run 47 = .ok (.putfield 177, 3) := by decide +kernel
theorem dX10_run_50 : decode cX10_run 50 = .ok (.aload_n 0, 1) := by decide +kernel
theorem dX10_run_51 : decode cX10_run 51 = .ok (.invokevirtual 186, 3) := by decide +kernel
theorem dX10_run_54 : decode cX10_run 54 = .ok (.aload_n 0, 1) := by decide +kernel
theorem dX10_run_55 : decode cX10_run 55 = .ok (.aload_n 0, 1) := by decide +kernel
theorem dX10_run_56 : decode cX10_run 56 = .ok (.getfield 171, 3) := by decide +kernel
theorem dX10_run_59 : decode cX10_run 59 = .ok (.putfield 189, 3) := by decide +kernel
theorem dX10_run_62 : decode cX10_run 62 = .ok (.aload_n 0, 1) := by decide +kernel
theorem dX10_run_63 : decode cX10_run 63 = .ok (.aload_n 0, 1) := by decide +kernel
theorem dX10_run_64 : decode cX10_run 64 = .ok (.getfield 174, 3) := by decide +kernel
theorem dX10_run_67 : decode cX10_run 67 = .ok (.putfield 192, 3) := by decide +kernel
theorem dX10_run_70 : decode cX10_run 70 = .ok (.iconst 0, 1) := by decide +kernel
theorem dX10_run_71 : decode cX10_run 71 = .ok (.istore_n 2, 1) := by decide +kernel
theorem dX10_run_72 : decode cX10_run 72 = .ok (.iload_n 2, 1) := by decide +kernel
theorem dX10_run_73 : decode cX10_run 73 = .ok (.bipush 20, 2) := by decide +kernel
theorem dX10_run_75 : decode cX10_run 75 = .ok (.if_icmp .ge 33, 3) := by decide +kernel
theorem dX10_run_78 : decode cX10_run 78 = .ok (.aload_n 0, 1) := by decide +kernel
theorem dX10_run_79 : decode cX10_run 79 = .ok (.getfield 52, 3) := by decide +kernel
theorem dX10_run_82 : decode cX10_run 82 = .ok (.iload_n 2, 1) := by decide +kernel
theorem dX10_run_83 : decode cX10_run 83 = .ok (.aload_n 0, 1) := by decide +kernel
theorem dX10_run_84 : decode cX10_run 84 = .ok (.getfield 46, 3) := by decide +kernel
theorem dX10_run_87 : decode cX10_run 87 = .ok (.iload_n 2, 1) := by decide +kernel
theorem dX10_run_88 : decode cX10_run 88 = .ok (.iaload, 1) := by decide +kernel
theorem dX10_run_89 : decode cX10_run 89 = .ok (.iastore, 1) := by decide +kernel
theorem dX10_run_90 : decode cX10_run 90 = .ok (.aload_n 0, 1) := by decide +kernel
theorem dX10_run_91 : decode cX10_run 91 = .ok (.getfield 55, 3) := by decide +kernel
theorem dX10_run_94 : decode cX10_run 94 = .ok (.iload_n 2, 1) := by decide +kernel
theorem dX10_run_95 : decode cX10_run 95 = .ok (.aload_n 0, 1) := by decide +kernel
theorem dX10_run_96 : decode cX10_run 96 = .ok (.getfield 49, 3) := by decide +kernel
theorem dX10_run_99 : decode cX10_run 99 = .ok (.iload_n 2, 1) := by decide +kernel
theorem dX10_run_100 : decode cX10_run 100 = .ok (.iaload, 1) := by decide +kernel
theorem dX10_run_101 : decode cX10_run 101 = .ok (.iastore, 1) := by decide +kernel
theorem dX10_run_102 : decode cX10_run 102 = .ok (.iinc 2 1, 3) := by decide +kernel
theorem dX10_run_105 : decode cX10_run 105 = .ok (.goto (-33), 3) := by decide +kernel
theorem dX10_run_108 : decode cX10_run 108 = .ok (.iconst 0, 1) := by decide +kernel
theorem dX10_run_109 : decode cX10_run 109 = .ok (.istore_n 2, 1) := by decide +kernel
theorem dX10_run_110 : decode cX10_run 110 = .ok (.iconst 0, 1) := by decide +kernel
theorem dX10_run_111 : decode cX10_run 111 = .ok (.istore_n 3, 1) := by decide +kernel
theorem dX10_run_112 : decode cX10_run 112 = .ok (.iload_n 3, 1) := by decide +kernel
theorem dX10_run_113 : decode cX10_run 113 = .ok (.bipush 6, 2) := by decide +kernel
theorem dX10_run_115 : decode cX10_run 115 = .ok (.if_icmp .ge 22, 3) := by decide +kernel
theorem dX10_run_118 : decode cX10_run 118 = .ok (.iload_n 2, 1) := by decide +kernel
theorem dX10_run_119 : decode cX10_run 119 = .ok (.aload_n 0, 1) := by decide +kernel
theorem dX10_run_120 : decode cX10_run 120 = .ok (.getfield 43, 3) := by decide +kernel
theorem dX10_run_123 : decode cX10_run 123 = .ok (.iload_n 3, 1) := by decide +kernel
theorem dX10_run_124 : decode cX10_run 124 = .ok (.iaload, 1) := by decide +kernel
theorem dX10_run_125 : decode cX10_run 125 = .ok (.iconst 2, 1) := by decide +kernel
theorem dX10_run_126 : decode cX10_run 126 = .ok (.iload_n 3, 1) := by decide +kernel
theorem dX10_run_127 : decode cX10_run 127 = .ok (.imul, 1) := by decide +kernel
theorem dX10_run_128 : decode cX10_run 128 = .ok (.ishl, 1) := by decide +kernel
theorem dX10_run_129 : decode cX10_run 129 = .ok (.ior, 1) := by decide +kernel
theorem dX10_run_130 : decode cX10_run 130 = .ok (.istore_n 2, 1) := by decide +kernel
theorem dX10_run_131 : decode cX10_run 131 = .ok (.iinc 3 1, 3) := by decide +kernel
theorem dX10_run_134 : decode cX10_run 134 = .ok (.goto (-22), 3) := by decide +kernel
theorem dX10_run_137 : decode cX10_run 137 = .ok (.iload_n 2, 1) := by decide +kernel
theorem dX10_run_138 : decode cX10_run 138 = .ok (.ireturn, 1) := by decide +kernel
theorem dX10_least_0 : decode cX10_least 0 = .ok (.iload_n 0, 1) := by decide +kernel
theorem dX10_least_1 : decode cX10_least 1 = .ok (.iload_n 1, 1) := by decide +kernel
theorem dX10_least_2 : decode cX10_least 2 = .ok (.if_icmp .ge 7, 3) := by decide +kernel
theorem dX10_least_5 : decode cX10_least 5 = .ok (.iload_n 0, 1) := by decide +kernel
theorem dX10_least_6 : decode cX10_least 6 = .ok (.goto 4, 3) := by decide +kernel
theorem dX10_least_9 : decode cX10_least 9 = .ok (.iload_n 1, 1) := by decide +kernel
theorem dX10_least_10 : decode cX10_least 10 = .ok (.ireturn, 1) := by decide +kernel
theorem chIwsX10_ran_0 : ∀ w ∈ ([.code yX10_ran cX10_ran 2 (some .int)] : List Cond), w ∈ wsX10_ran := fun _ h => (List.mem_cons.mpr (Or.inl (List.mem_singleton.mp h)))
theorem chIwsX10_ran_1 : ∀ w ∈ ([.fieldLink RX10 80 "WatchedProgramsModel" "thrown" "I", .fieldLink RX10 189 "WatchedProgramsModel" "ranSteps" "I", .fieldLink RX10 192 "WatchedProgramsModel" "ranCame" "I", .methodLink RX10 195 yX10_least, .static yX10_least, .initialized RX10, .code yX10_least cX10_least 2 (some .int)] : List Cond), w ∈ wsX10_ran := fun _ h => (List.mem_cons_of_mem _ (List.mem_append_left _ h))
theorem chIwsX10_ran_2 : ∀ w ∈ (wsX100 : List Cond), w ∈ wsX10_ran := fun _ h => (List.mem_cons_of_mem _ (List.mem_append_right _ h))
def chwsX10_ran : Nat → List Cond
  | 0 => [.code yX10_ran cX10_ran 2 (some .int)]
  | 1 => [.fieldLink RX10 80 "WatchedProgramsModel" "thrown" "I", .fieldLink RX10 189 "WatchedProgramsModel" "ranSteps" "I", .fieldLink RX10 192 "WatchedProgramsModel" "ranCame" "I", .methodLink RX10 195 yX10_least, .static yX10_least, .initialized RX10, .code yX10_least cX10_least 2 (some .int)]
  | 2 => wsX100
  | _ => []
theorem chwsX10_ran_in : ∀ (j : Nat) (w : Cond), w ∈ chwsX10_ran j → w ∈ wsX10_ran
  | 0, w, h => chIwsX10_ran_0 w h
  | 1, w, h => chIwsX10_ran_1 w h
  | 2, w, h => chIwsX10_ran_2 w h
  | _ + 3, _, h => absurd h List.not_mem_nil
set_option maxRecDepth 20000 in
theorem ggX10_ran_X10_least : GoodIn wsX10_ran wsX10_least := goodIn_r2 chwsX10_ran chwsX10_ran_in _ [(1, 6)] rfl (by decide +kernel)
set_option maxRecDepth 20000 in
theorem gX10_ran_X10_least : GoodIn wsX10_ran (va_wsS RX10 195 yX10_least wsX10_least) := goodIn_app (goodIn_r2 chwsX10_ran chwsX10_ran_in _ [(1, 3), (1, 4), (1, 5)] rfl (by decide +kernel)) ggX10_ran_X10_least
theorem dX10_ran_0 : decode cX10_ran 0 = .ok (.aload_n 0, 1) := by decide +kernel
theorem dX10_ran_1 : decode cX10_ran 1 = .ok (.iconst 0, 1) := by decide +kernel
theorem dX10_ran_2 : decode cX10_ran 2 = .ok (.putfield 80, 3) := by decide +kernel
theorem dX10_ran_5 : decode cX10_ran 5 = .ok (.iload_n 1, 1) := by decide +kernel
theorem dX10_ran_6 : decode cX10_ran 6 = .ok (.ifCond .ne 10, 3) := by decide +kernel
theorem dX10_ran_9 : decode cX10_ran 9 = .ok (.aload_n 0, 1) := by decide +kernel
theorem dX10_ran_10 : decode cX10_ran 10 = .ok (.getfield 189, 3) := by decide +kernel
theorem dX10_ran_13 : decode cX10_ran 13 = .ok (.goto 33, 3) := by decide +kernel
theorem dX10_ran_16 : decode cX10_ran 16 = .ok (.iload_n 1, 1) := by decide +kernel
theorem dX10_ran_17 : decode cX10_ran 17 = .ok (.iconst 1, 1) := by decide +kernel
theorem dX10_ran_18 : decode cX10_ran 18 = .ok (.if_icmp .ne 10, 3) := by decide +kernel
theorem dX10_ran_21 : decode cX10_ran 21 = .ok (.aload_n 0, 1) := by decide +kernel
theorem dX10_ran_22 : decode cX10_ran 22 = .ok (.getfield 192, 3) := by decide +kernel
theorem dX10_ran_25 : decode cX10_ran 25 = .ok (.goto 21, 3) := by decide +kernel
theorem dX10_ran_28 : decode cX10_ran 28 = .ok (.iload_n 1, 1) := by decide +kernel
theorem dX10_ran_29 : decode cX10_ran 29 = .ok (.iconst 2, 1) := by decide +kernel
theorem dX10_ran_30 : decode cX10_ran 30 = .ok (.if_icmp .ne 15, 3) := by decide +kernel
theorem dX10_ran_33 : decode cX10_ran 33 = .ok (.aload_n 0, 1) := by decide +kernel
theorem dX10_ran_34 : decode cX10_ran 34 = .ok (.getfield 192, 3) := by decide +kernel
theorem dX10_ran_37 : decode cX10_ran 37 = .ok (.bipush 20, 2) := by decide +kernel
theorem dX10_ran_39 : decode cX10_ran 39 = .ok (.invokestatic 195, 3) := by decide +kernel
theorem dX10_ran_42 : decode cX10_ran 42 = .ok (.goto 4, 3) := by decide +kernel
theorem dX10_ran_45 : decode cX10_ran 45 = .ok (.iconst (-1), 1) := by decide +kernel
theorem dX10_ran_46 : decode cX10_ran 46 = .ok (.ireturn, 1) := by decide +kernel
theorem chIwsX10_tape_0 : ∀ w ∈ ([.code yX10_tape cX10_tape 3 (some .int)] : List Cond), w ∈ wsX10_tape := fun _ h => (List.mem_cons.mpr (Or.inl (List.mem_singleton.mp h)))
theorem chIwsX10_tape_1 : ∀ w ∈ ([.fieldLink RX10 80 "WatchedProgramsModel" "thrown" "I", .fieldLink RX10 192 "WatchedProgramsModel" "ranCame" "I", .fieldLink RX10 52 "WatchedProgramsModel" "ranTape" "[I", .fieldLink RX10 55 "WatchedProgramsModel" "ranLevel" "[I", .methodLink RX10 195 yX10_least, .static yX10_least, .initialized RX10, .code yX10_least cX10_least 2 (some .int), .methodLink RX10 84 yX10_in, .static yX10_in, .code yX10_in cX10_in 3 (some .boolean)] : List Cond), w ∈ wsX10_tape := fun _ h => (List.mem_cons_of_mem _ (List.mem_append_left _ h))
theorem chIwsX10_tape_2 : ∀ w ∈ (wsX100 : List Cond), w ∈ wsX10_tape := fun _ h => (List.mem_cons_of_mem _ (List.mem_append_right _ h))
def chwsX10_tape : Nat → List Cond
  | 0 => [.code yX10_tape cX10_tape 3 (some .int)]
  | 1 => [.fieldLink RX10 80 "WatchedProgramsModel" "thrown" "I", .fieldLink RX10 192 "WatchedProgramsModel" "ranCame" "I", .fieldLink RX10 52 "WatchedProgramsModel" "ranTape" "[I", .fieldLink RX10 55 "WatchedProgramsModel" "ranLevel" "[I", .methodLink RX10 195 yX10_least, .static yX10_least, .initialized RX10, .code yX10_least cX10_least 2 (some .int), .methodLink RX10 84 yX10_in, .static yX10_in, .code yX10_in cX10_in 3 (some .boolean)]
  | 2 => wsX100
  | _ => []
theorem chwsX10_tape_in : ∀ (j : Nat) (w : Cond), w ∈ chwsX10_tape j → w ∈ wsX10_tape
  | 0, w, h => chIwsX10_tape_0 w h
  | 1, w, h => chIwsX10_tape_1 w h
  | 2, w, h => chIwsX10_tape_2 w h
  | _ + 3, _, h => absurd h List.not_mem_nil
set_option maxRecDepth 20000 in
theorem ggX10_tape_X10_least : GoodIn wsX10_tape wsX10_least := goodIn_r2 chwsX10_tape chwsX10_tape_in _ [(1, 7)] rfl (by decide +kernel)
set_option maxRecDepth 20000 in
theorem gX10_tape_X10_least : GoodIn wsX10_tape (va_wsS RX10 195 yX10_least wsX10_least) := goodIn_app (goodIn_r2 chwsX10_tape chwsX10_tape_in _ [(1, 4), (1, 5), (1, 6)] rfl (by decide +kernel)) ggX10_tape_X10_least
set_option maxRecDepth 20000 in
theorem ggX10_tape_X10_in : GoodIn wsX10_tape wsX10_in := goodIn_r2 chwsX10_tape chwsX10_tape_in _ [(1, 10)] rfl (by decide +kernel)
set_option maxRecDepth 20000 in
theorem gX10_tape_X10_in : GoodIn wsX10_tape (va_wsS RX10 84 yX10_in wsX10_in) := goodIn_app (goodIn_r2 chwsX10_tape chwsX10_tape_in _ [(1, 8), (1, 9), (1, 6)] rfl (by decide +kernel)) ggX10_tape_X10_in
theorem dX10_tape_0 : decode cX10_tape 0 = .ok (.aload_n 0, 1) := by decide +kernel
theorem dX10_tape_1 : decode cX10_tape 1 = .ok (.iconst 0, 1) := by decide +kernel
theorem dX10_tape_2 : decode cX10_tape 2 = .ok (.putfield 80, 3) := by decide +kernel
theorem dX10_tape_5 : decode cX10_tape 5 = .ok (.iload_n 1, 1) := by decide +kernel
theorem dX10_tape_6 : decode cX10_tape 6 = .ok (.iconst 0, 1) := by decide +kernel
theorem dX10_tape_7 : decode cX10_tape 7 = .ok (.aload_n 0, 1) := by decide +kernel
theorem dX10_tape_8 : decode cX10_tape 8 = .ok (.getfield 192, 3) := by decide +kernel
theorem dX10_tape_11 : decode cX10_tape 11 = .ok (.bipush 20, 2) := by decide +kernel
theorem dX10_tape_13 : decode cX10_tape 13 = .ok (.invokestatic 195, 3) := by decide +kernel
theorem dX10_tape_16 : decode cX10_tape 16 = .ok (.iconst 1, 1) := by decide +kernel
theorem dX10_tape_17 : decode cX10_tape 17 = .ok (.isub, 1) := by decide +kernel
theorem dX10_tape_18 : decode cX10_tape 18 = .ok (.invokestatic 84, 3) := by decide +kernel
theorem dX10_tape_21 : decode cX10_tape 21 = .ok (.ifCond .eq 12, 3) := by decide +kernel
theorem dX10_tape_24 : decode cX10_tape 24 = .ok (.iload_n 2, 1) := by decide +kernel
theorem dX10_tape_25 : decode cX10_tape 25 = .ok (.iconst 0, 1) := by decide +kernel
theorem dX10_tape_26 : decode cX10_tape 26 = .ok (.iconst 1, 1) := by decide +kernel
theorem dX10_tape_27 : decode cX10_tape 27 = .ok (.invokestatic 84, 3) := by decide +kernel
theorem dX10_tape_30 : decode cX10_tape 30 = .ok (.ifCond .ne 7, 3) := by decide +kernel
theorem dX10_tape_33 : decode cX10_tape 33 = .ok (.iconst (-1), 1) := by decide +kernel
theorem dX10_tape_34 : decode cX10_tape 34 = .ok (.goto 22, 3) := by decide +kernel
theorem dX10_tape_37 : decode cX10_tape 37 = .ok (.iload_n 2, 1) := by decide +kernel
theorem dX10_tape_38 : decode cX10_tape 38 = .ok (.ifCond .ne 12, 3) := by decide +kernel
theorem dX10_tape_41 : decode cX10_tape 41 = .ok (.aload_n 0, 1) := by decide +kernel
theorem dX10_tape_42 : decode cX10_tape 42 = .ok (.getfield 52, 3) := by decide +kernel
theorem dX10_tape_45 : decode cX10_tape 45 = .ok (.iload_n 1, 1) := by decide +kernel
theorem dX10_tape_46 : decode cX10_tape 46 = .ok (.iaload, 1) := by decide +kernel
theorem dX10_tape_47 : decode cX10_tape 47 = .ok (.goto 9, 3) := by decide +kernel
theorem dX10_tape_50 : decode cX10_tape 50 = .ok (.aload_n 0, 1) := by decide +kernel
theorem dX10_tape_51 : decode cX10_tape 51 = .ok (.getfield 55, 3) := by decide +kernel
theorem dX10_tape_54 : decode cX10_tape 54 = .ok (.iload_n 1, 1) := by decide +kernel
theorem dX10_tape_55 : decode cX10_tape 55 = .ok (.iaload, 1) := by decide +kernel
theorem dX10_tape_56 : decode cX10_tape 56 = .ok (.ireturn, 1) := by decide +kernel
theorem chIwsX10_cells_0 : ∀ w ∈ ([.code yX10_cells cX10_cells 5 (some .int)] : List Cond), w ∈ wsX10_cells := fun _ h => (List.mem_cons.mpr (Or.inl (List.mem_singleton.mp h)))
theorem chIwsX10_cells_1 : ∀ w ∈ ([.fieldLink RX10 7 "WatchedProgramsModel" "level" "[I", .methodLink RX10 198 yX10_isWithin, .static yX10_isWithin, .initialized RX10, .code yX10_isWithin cX10_isWithin 2 (some .boolean)] : List Cond), w ∈ wsX10_cells := fun _ h => (List.mem_cons_of_mem _ (List.mem_append_left _ h))
theorem chIwsX10_cells_2 : ∀ w ∈ (wsX100 : List Cond), w ∈ wsX10_cells := fun _ h => (List.mem_cons_of_mem _ (List.mem_append_right _ h))
def chwsX10_cells : Nat → List Cond
  | 0 => [.code yX10_cells cX10_cells 5 (some .int)]
  | 1 => [.fieldLink RX10 7 "WatchedProgramsModel" "level" "[I", .methodLink RX10 198 yX10_isWithin, .static yX10_isWithin, .initialized RX10, .code yX10_isWithin cX10_isWithin 2 (some .boolean)]
  | 2 => wsX100
  | _ => []
theorem chwsX10_cells_in : ∀ (j : Nat) (w : Cond), w ∈ chwsX10_cells j → w ∈ wsX10_cells
  | 0, w, h => chIwsX10_cells_0 w h
  | 1, w, h => chIwsX10_cells_1 w h
  | 2, w, h => chIwsX10_cells_2 w h
  | _ + 3, _, h => absurd h List.not_mem_nil
set_option maxRecDepth 20000 in
theorem ggX10_cells_X10_isWithin : GoodIn wsX10_cells wsX10_isWithin := goodIn_r2 chwsX10_cells chwsX10_cells_in _ [(1, 4)] rfl (by decide +kernel)
set_option maxRecDepth 20000 in
theorem gX10_cells_X10_isWithin : GoodIn wsX10_cells (va_wsS RX10 198 yX10_isWithin wsX10_isWithin) := goodIn_app (goodIn_r2 chwsX10_cells chwsX10_cells_in _ [(1, 1), (1, 2), (1, 3)] rfl (by decide +kernel)) ggX10_cells_X10_isWithin
theorem dX10_cells_0 : decode cX10_cells 0 = .ok (.iconst 0, 1) := by decide +kernel
theorem dX10_cells_1 : decode cX10_cells 1 = .ok (.istore_n 3, 1) := by decide +kernel
theorem dX10_cells_2 : decode cX10_cells 2 = .ok (.iconst 0, 1) := by decide +kernel
theorem dX10_cells_3 : decode cX10_cells 3 = .ok (.istore 4, 2) := by decide +kernel
theorem dX10_cells_5 : decode cX10_cells 5 = .ok (.iload 4, 2) := by decide +kernel
theorem dX10_cells_7 : decode cX10_cells 7 = .ok (.bipush 6, 2) := by decide +kernel
theorem dX10_cells_9 : decode cX10_cells 9 = .ok (.if_icmp .ge 32, 3) := by decide +kernel
theorem dX10_cells_12 : decode cX10_cells 12 = .ok (.iload_n 3, 1) := by decide +kernel
theorem dX10_cells_13 : decode cX10_cells 13 = .ok (.aload_n 0, 1) := by decide +kernel
theorem dX10_cells_14 : decode cX10_cells 14 = .ok (.getfield 7, 3) := by decide +kernel
theorem dX10_cells_17 : decode cX10_cells 17 = .ok (.iload 4, 2) := by decide +kernel
theorem dX10_cells_19 : decode cX10_cells 19 = .ok (.iaload, 1) := by decide +kernel
theorem dX10_cells_20 : decode cX10_cells 20 = .ok (.iload_n 1, 1) := by decide +kernel
theorem dX10_cells_21 : decode cX10_cells 21 = .ok (.invokestatic 198, 3) := by decide +kernel
theorem dX10_cells_24 : decode cX10_cells 24 = .ok (.iload_n 2, 1) := by decide +kernel
theorem dX10_cells_25 : decode cX10_cells 25 = .ok (.if_icmp .ne 7, 3) := by decide +kernel
theorem dX10_cells_28 : decode cX10_cells 28 = .ok (.iconst 1, 1) := by decide +kernel
theorem dX10_cells_29 : decode cX10_cells 29 = .ok (.goto 4, 3) := by decide +kernel
theorem dX10_cells_32 : decode cX10_cells 32 = .ok (.iconst 0, 1) := by decide +kernel
theorem dX10_cells_33 : decode cX10_cells 33 = .ok (.iadd, 1) := by decide +kernel
theorem dX10_cells_34 : decode cX10_cells 34 = .ok (.istore_n 3, 1) := by decide +kernel
theorem dX10_cells_35 : decode cX10_cells 35 = .ok (.iinc 4 1, 3) := by decide +kernel
theorem dX10_cells_38 : decode cX10_cells 38 = .ok (.goto (-33), 3) := by decide +kernel
theorem dX10_cells_41 : decode cX10_cells 41 = .ok (.iload_n 3, 1) := by decide +kernel
theorem dX10_cells_42 : decode cX10_cells 42 = .ok (.ireturn, 1) := by decide +kernel
theorem chIwsX10_tells_0 : ∀ w ∈ ([.code yX10_tells cX10_tells 6 none] : List Cond), w ∈ wsX10_tells := fun _ h => (List.mem_cons.mpr (Or.inl (List.mem_singleton.mp h)))
theorem chIwsX10_tells_1 : ∀ w ∈ ([.fieldLink RX10 7 "WatchedProgramsModel" "level" "[I", .fieldLink RX10 43 "WatchedProgramsModel" "cell" "[I", .methodLink RX10 198 yX10_isWithin, .static yX10_isWithin, .initialized RX10, .code yX10_isWithin cX10_isWithin 2 (some .boolean)] : List Cond), w ∈ wsX10_tells := fun _ h => (List.mem_cons_of_mem _ (List.mem_append_left _ h))
theorem chIwsX10_tells_2 : ∀ w ∈ (wsX100 : List Cond), w ∈ wsX10_tells := fun _ h => (List.mem_cons_of_mem _ (List.mem_append_right _ h))
def chwsX10_tells : Nat → List Cond
  | 0 => [.code yX10_tells cX10_tells 6 none]
  | 1 => [.fieldLink RX10 7 "WatchedProgramsModel" "level" "[I", .fieldLink RX10 43 "WatchedProgramsModel" "cell" "[I", .methodLink RX10 198 yX10_isWithin, .static yX10_isWithin, .initialized RX10, .code yX10_isWithin cX10_isWithin 2 (some .boolean)]
  | 2 => wsX100
  | _ => []
theorem chwsX10_tells_in : ∀ (j : Nat) (w : Cond), w ∈ chwsX10_tells j → w ∈ wsX10_tells
  | 0, w, h => chIwsX10_tells_0 w h
  | 1, w, h => chIwsX10_tells_1 w h
  | 2, w, h => chIwsX10_tells_2 w h
  | _ + 3, _, h => absurd h List.not_mem_nil
set_option maxRecDepth 20000 in
theorem ggX10_tells_X10_isWithin : GoodIn wsX10_tells wsX10_isWithin := goodIn_r2 chwsX10_tells chwsX10_tells_in _ [(1, 5)] rfl (by decide +kernel)
set_option maxRecDepth 20000 in
theorem gX10_tells_X10_isWithin : GoodIn wsX10_tells (va_wsS RX10 198 yX10_isWithin wsX10_isWithin) := goodIn_app (goodIn_r2 chwsX10_tells chwsX10_tells_in _ [(1, 2), (1, 3), (1, 4)] rfl (by decide +kernel)) ggX10_tells_X10_isWithin
theorem dX10_tells_0 : decode cX10_tells 0 = .ok (.iload_n 3, 1) := by decide +kernel
theorem dX10_tells_1 : decode cX10_tells 1 = .ok (.istore 4, 2) := by decide +kernel
theorem dX10_tells_3 : decode cX10_tells 3 = .ok (.iconst 0, 1) := by decide +kernel
theorem dX10_tells_4 : decode cX10_tells 4 = .ok (.istore 5, 2) := by decide +kernel
theorem dX10_tells_6 : decode cX10_tells 6 = .ok (.iload 5, 2) := by decide +kernel
theorem dX10_tells_8 : decode cX10_tells 8 = .ok (.bipush 6, 2) := by decide +kernel
theorem dX10_tells_10 : decode cX10_tells 10 = .ok (.if_icmp .ge 41, 3) := by decide +kernel
theorem dX10_tells_13 : decode cX10_tells 13 = .ok (.aload_n 0, 1) := by decide +kernel
theorem dX10_tells_14 : decode cX10_tells 14 = .ok (.getfield 7, 3) := by decide +kernel
theorem dX10_tells_17 : decode cX10_tells 17 = .ok (.iload 5, 2) := by decide +kernel
theorem dX10_tells_19 : decode cX10_tells 19 = .ok (.iaload, 1) := by decide +kernel
theorem dX10_tells_20 : decode cX10_tells 20 = .ok (.iload_n 1, 1) := by decide +kernel
theorem dX10_tells_21 : decode cX10_tells 21 = .ok (.invokestatic 198, 3) := by decide +kernel
theorem dX10_tells_24 : decode cX10_tells 24 = .ok (.iload_n 2, 1) := by decide +kernel
theorem dX10_tells_25 : decode cX10_tells 25 = .ok (.if_icmp .ne 20, 3) := by decide +kernel
theorem dX10_tells_28 : decode cX10_tells 28 = .ok (.aload_n 0, 1) := by decide +kernel
theorem dX10_tells_29 : decode cX10_tells 29 = .ok (.getfield 43, 3) := by decide +kernel
theorem dX10_tells_32 : decode cX10_tells 32 = .ok (.iload 5, 2) := by decide +kernel
theorem dX10_tells_34 : decode cX10_tells 34 = .ok (.iload 4, 2) := by decide +kernel
theorem dX10_tells_36 : decode cX10_tells 36 = .ok (.iconst 3, 1) := by decide +kernel
theorem dX10_tells_37 : decode cX10_tells 37 = .ok (.iand, 1) := by decide +kernel
theorem dX10_tells_38 : decode cX10_tells 38 = .ok (.iastore, 1) := by decide +kernel
theorem dX10_tells_39 : decode cX10_tells 39 = .ok (.iload 4, 2) := by decide +kernel
theorem dX10_tells_41 : decode cX10_tells 41 = .ok (.iconst 2, 1) := by decide +kernel
theorem dX10_tells_42 : decode cX10_tells 42 = .ok (.ishr, 1) := by decide +kernel
theorem dX10_tells_43 : decode cX10_tells 43 = .ok (.istore 4, 2) := by decide +kernel
theorem dX10_tells_45 : decode cX10_tells 45 = .ok (.iinc 5 1, 3) := by decide +kernel
theorem dX10_tells_48 : decode cX10_tells 48 = .ok (.goto (-42), 3) := by decide +kernel
theorem dX10_tells_51 : decode cX10_tells 51 = .ok (.return_, 1) := by decide +kernel
theorem chIwsX10_sees_0 : ∀ w ∈ ([.code yX10_sees cX10_sees 12 none] : List Cond), w ∈ wsX10_sees := fun _ h => (List.mem_cons.mpr (Or.inl (List.mem_singleton.mp h)))
theorem chIwsX10_sees_1 : ∀ w ∈ ([.fieldLink RX10 7 "WatchedProgramsModel" "level" "[I", .constantLong RX10 202 (4), .fieldLink RX10 43 "WatchedProgramsModel" "cell" "[I", .fieldLink RX10 174 "WatchedProgramsModel" "came" "I", .fieldLink RX10 49 "WatchedProgramsModel" "tapeLevel" "[I", .constantLong RX10 204 (1152921504606846976), .fieldLink RX10 46 "WatchedProgramsModel" "tape" "[I", .fieldLink RX10 74 "WatchedProgramsModel" "sight" "[J", .methodLink RX10 198 yX10_isWithin, .static yX10_isWithin, .initialized RX10, .code yX10_isWithin cX10_isWithin 2 (some .boolean), .methodLink RX10 195 yX10_least, .static yX10_least, .code yX10_least cX10_least 2 (some .int)] : List Cond), w ∈ wsX10_sees := fun _ h => (List.mem_cons_of_mem _ (List.mem_append_left _ h))
theorem chIwsX10_sees_2 : ∀ w ∈ (wsX100 : List Cond), w ∈ wsX10_sees := fun _ h => (List.mem_cons_of_mem _ (List.mem_append_right _ h))
def chwsX10_sees : Nat → List Cond
  | 0 => [.code yX10_sees cX10_sees 12 none]
  | 1 => [.fieldLink RX10 7 "WatchedProgramsModel" "level" "[I", .constantLong RX10 202 (4), .fieldLink RX10 43 "WatchedProgramsModel" "cell" "[I", .fieldLink RX10 174 "WatchedProgramsModel" "came" "I", .fieldLink RX10 49 "WatchedProgramsModel" "tapeLevel" "[I", .constantLong RX10 204 (1152921504606846976), .fieldLink RX10 46 "WatchedProgramsModel" "tape" "[I", .fieldLink RX10 74 "WatchedProgramsModel" "sight" "[J", .methodLink RX10 198 yX10_isWithin, .static yX10_isWithin, .initialized RX10, .code yX10_isWithin cX10_isWithin 2 (some .boolean), .methodLink RX10 195 yX10_least, .static yX10_least, .code yX10_least cX10_least 2 (some .int)]
  | 2 => wsX100
  | _ => []
theorem chwsX10_sees_in : ∀ (j : Nat) (w : Cond), w ∈ chwsX10_sees j → w ∈ wsX10_sees
  | 0, w, h => chIwsX10_sees_0 w h
  | 1, w, h => chIwsX10_sees_1 w h
  | 2, w, h => chIwsX10_sees_2 w h
  | _ + 3, _, h => absurd h List.not_mem_nil
set_option maxRecDepth 20000 in
theorem ggX10_sees_X10_isWithin : GoodIn wsX10_sees wsX10_isWithin := goodIn_r2 chwsX10_sees chwsX10_sees_in _ [(1, 11)] rfl (by decide +kernel)
set_option maxRecDepth 20000 in
theorem gX10_sees_X10_isWithin : GoodIn wsX10_sees (va_wsS RX10 198 yX10_isWithin wsX10_isWithin) := goodIn_app (goodIn_r2 chwsX10_sees chwsX10_sees_in _ [(1, 8), (1, 9), (1, 10)] rfl (by decide +kernel)) ggX10_sees_X10_isWithin
set_option maxRecDepth 20000 in
theorem ggX10_sees_X10_least : GoodIn wsX10_sees wsX10_least := goodIn_r2 chwsX10_sees chwsX10_sees_in _ [(1, 14)] rfl (by decide +kernel)
set_option maxRecDepth 20000 in
theorem gX10_sees_X10_least : GoodIn wsX10_sees (va_wsS RX10 195 yX10_least wsX10_least) := goodIn_app (goodIn_r2 chwsX10_sees chwsX10_sees_in _ [(1, 12), (1, 13), (1, 10)] rfl (by decide +kernel)) ggX10_sees_X10_least
