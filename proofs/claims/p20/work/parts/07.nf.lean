theorem dX10_sees_0 : decode cX10_sees 0 = .ok (.lconst 1, 1) := by decide +kernel
theorem dX10_sees_1 : decode cX10_sees 1 = .ok (.lstore_n 3, 1) := by decide +kernel
theorem dX10_sees_2 : decode cX10_sees 2 = .ok (.lconst 1, 1) := by decide +kernel
theorem dX10_sees_3 : decode cX10_sees 3 = .ok (.lstore 5, 2) := by decide +kernel
theorem dX10_sees_5 : decode cX10_sees 5 = .ok (.lconst 1, 1) := by decide +kernel
theorem dX10_sees_6 : decode cX10_sees 6 = .ok (.lstore 7, 2) := by decide +kernel
theorem dX10_sees_8 : decode cX10_sees 8 = .ok (.iconst 0, 1) := by decide +kernel
theorem dX10_sees_9 : decode cX10_sees 9 = .ok (.istore 9, 2) := by decide +kernel
theorem dX10_sees_11 : decode cX10_sees 11 = .ok (.iload 9, 2) := by decide +kernel
theorem dX10_sees_13 : decode cX10_sees 13 = .ok (.bipush 6, 2) := by decide +kernel
theorem dX10_sees_15 : decode cX10_sees 15 = .ok (.if_icmp .ge 42, 3) := by decide +kernel
theorem dX10_sees_18 : decode cX10_sees 18 = .ok (.aload_n 0, 1) := by decide +kernel
theorem dX10_sees_19 : decode cX10_sees 19 = .ok (.getfield 7, 3) := by decide +kernel
theorem dX10_sees_22 : decode cX10_sees 22 = .ok (.iload 9, 2) := by decide +kernel
theorem dX10_sees_24 : decode cX10_sees 24 = .ok (.iaload, 1) := by decide +kernel
theorem dX10_sees_25 : decode cX10_sees 25 = .ok (.iload_n 1, 1) := by decide +kernel
theorem dX10_sees_26 : decode cX10_sees 26 = .ok (.invokestatic 198, 3) := by decide +kernel
theorem dX10_sees_29 : decode cX10_sees 29 = .ok (.ifCond .eq 20, 3) := by decide +kernel
theorem dX10_sees_32 : decode cX10_sees 32 = .ok (.ldc2_w 202, 3) := by decide +kernel
theorem dX10_sees_35 : decode cX10_sees 35 = .ok (.lload_n 3, 1) := by decide +kernel
theorem dX10_sees_36 : decode cX10_sees 36 = .ok (.lmul, 1) := by decide +kernel
theorem dX10_sees_37 : decode cX10_sees 37 = .ok (.aload_n 0, 1) := by decide +kernel
theorem dX10_sees_38 : decode cX10_sees 38 = .ok (.getfield 43, 3) := by decide +kernel
theorem dX10_sees_41 : decode cX10_sees 41 = .ok (.iload 9, 2) := by decide +kernel
theorem dX10_sees_43 : decode cX10_sees 43 = .ok (.iaload, 1) := by decide +kernel
theorem dX10_sees_44 : decode cX10_sees 44 = .ok (.i2l, 1) := by decide +kernel
theorem dX10_sees_45 : decode cX10_sees 45 = .ok (.ladd, 1) := by decide +kernel
theorem dX10_sees_46 : decode cX10_sees 46 = .ok (.goto 4, 3) := by decide +kernel
theorem dX10_sees_49 : decode cX10_sees 49 = .ok (.lload_n 3, 1) := by decide +kernel
theorem dX10_sees_50 : decode cX10_sees 50 = .ok (.lstore_n 3, 1) := by decide +kernel
theorem dX10_sees_51 : decode cX10_sees 51 = .ok (.iinc 9 1, 3) := by decide +kernel
theorem dX10_sees_54 : decode cX10_sees 54 = .ok (.goto (-43), 3) := by decide +kernel
theorem dX10_sees_57 : decode cX10_sees 57 = .ok (.aload_n 0, 1) := by decide +kernel
theorem dX10_sees_58 : decode cX10_sees 58 = .ok (.getfield 174, 3) := by decide +kernel
theorem dX10_sees_61 : decode cX10_sees 61 = .ok (.bipush 20, 2) := by decide +kernel
theorem dX10_sees_63 : decode cX10_sees 63 = .ok (.invokestatic 195, 3) := by decide +kernel
theorem dX10_sees_66 : decode cX10_sees 66 = .ok (.istore 9, 2) := by decide +kernel
theorem dX10_sees_68 : decode cX10_sees 68 = .ok (.iconst 0, 1) := by decide +kernel
theorem dX10_sees_69 : decode cX10_sees 69 = .ok (.istore 10, 2) := by decide +kernel
theorem dX10_sees_71 : decode cX10_sees 71 = .ok (.iload 10, 2) := by decide +kernel
theorem dX10_sees_73 : decode cX10_sees 73 = .ok (.iload 9, 2) := by decide +kernel
theorem dX10_sees_75 : decode cX10_sees 75 = .ok (.if_icmp .ge 93, 3) := by decide +kernel
theorem dX10_sees_78 : decode cX10_sees 78 = .ok (.aload_n 0, 1) := by decide +kernel
theorem dX10_sees_79 : decode cX10_sees 79 = .ok (.getfield 49, 3) := by decide +kernel
theorem dX10_sees_82 : decode cX10_sees 82 = .ok (.iload 10, 2) := by decide +kernel
theorem dX10_sees_84 : decode cX10_sees 84 = .ok (.iaload, 1) := by decide +kernel
theorem dX10_sees_85 : decode cX10_sees 85 = .ok (.iload_n 1, 1) := by decide +kernel
theorem dX10_sees_86 : decode cX10_sees 86 = .ok (.invokestatic 198, 3) := by decide +kernel
theorem dX10_sees_89 : decode cX10_sees 89 = .ok (.ifCond .eq 73, 3) := by decide +kernel
theorem dX10_sees_92 : decode cX10_sees 92 = .ok (.lload 5, 2) := by decide +kernel
theorem dX10_sees_94 : decode cX10_sees 94 = .ok (.ldc2_w 204, 3) := by decide +kernel
theorem dX10_sees_97 : decode cX10_sees 97 = .ok (.lcmp, 1) := by decide +kernel
theorem dX10_sees_98 : decode cX10_sees 98 = .ok (.ifCond .lt 7, 3) := by decide +kernel
theorem dX10_sees_101 : decode cX10_sees 101 = .ok (.iconst 1, 1) := by decide +kernel
theorem dX10_sees_102 : decode cX10_sees 102 = .ok (.goto 4, 3) := by decide +kernel
theorem dX10_sees_105 : decode cX10_sees 105 = .ok (.iconst 0, 1) := by decide +kernel
theorem dX10_sees_106 : decode cX10_sees 106 = .ok (.istore 11, 2) := by decide +kernel
theorem dX10_sees_108 : decode cX10_sees 108 = .ok (.iload 11, 2) := by decide +kernel
theorem dX10_sees_110 : decode cX10_sees 110 = .ok (.ifCond .eq 21, 3) := by decide +kernel
theorem dX10_sees_113 : decode cX10_sees 113 = .ok (.ldc2_w 202, 3) := by decide +kernel
theorem dX10_sees_116 : decode cX10_sees 116 = .ok (.lload 7, 2) := by decide +kernel
theorem dX10_sees_118 : decode cX10_sees 118 = .ok (.lmul, 1) := by decide +kernel
theorem dX10_sees_119 : decode cX10_sees 119 = .ok (.aload_n 0, 1) := by decide +kernel
theorem dX10_sees_120 : decode cX10_sees 120 = .ok (.getfield 46, 3) := by decide +kernel
theorem dX10_sees_123 : decode cX10_sees 123 = .ok (.iload 10, 2) := by decide +kernel
theorem dX10_sees_125 : decode cX10_sees 125 = .ok (.iaload, 1) := by decide +kernel
theorem dX10_sees_126 : decode cX10_sees 126 = .ok (.i2l, 1) := by decide +kernel
theorem dX10_sees_127 : decode cX10_sees 127 = .ok (.ladd, 1) := by decide +kernel
theorem dX10_sees_128 : decode cX10_sees 128 = .ok (.goto 5, 3) := by decide +kernel
theorem dX10_sees_131 : decode cX10_sees 131 = .ok (.lload 7, 2) := by decide +kernel
theorem dX10_sees_133 : decode cX10_sees 133 = .ok (.lstore 7, 2) := by decide +kernel
theorem dX10_sees_135 : decode cX10_sees 135 = .ok (.iload 11, 2) := by decide +kernel
theorem dX10_sees_137 : decode cX10_sees 137 = .ok (.ifCond .eq 8, 3) := by decide +kernel
theorem dX10_sees_140 : decode cX10_sees 140 = .ok (.lload 5, 2) := by decide +kernel
theorem dX10_sees_142 : decode cX10_sees 142 = .ok (.goto 18, 3) := by decide +kernel
theorem dX10_sees_145 : decode cX10_sees 145 = .ok (.ldc2_w 202, 3) := by decide +kernel
theorem dX10_sees_148 : decode cX10_sees 148 = .ok (.lload 5, 2) := by decide +kernel
theorem dX10_sees_150 : decode cX10_sees 150 = .ok (.lmul, 1) := by decide +kernel
theorem dX10_sees_151 : decode cX10_sees 151 = .ok (.aload_n 0, 1) := by decide +kernel
theorem dX10_sees_152 : decode cX10_sees 152 = .ok (.getfield 46, 3) := by decide +kernel
theorem dX10_sees_155 : decode cX10_sees 155 = .ok (.iload 10, 2) := by decide +kernel
theorem dX10_sees_157 : decode cX10_sees 157 = .ok (.iaload, 1) := by decide +kernel
theorem dX10_sees_158 : decode cX10_sees 158 = .ok (.i2l, 1) := by decide +kernel
theorem dX10_sees_159 : decode cX10_sees 159 = .ok (.ladd, 1) := by decide +kernel
theorem dX10_sees_160 : decode cX10_sees 160 = .ok (.lstore 5, 2) := by decide +kernel
theorem dX10_sees_162 : decode cX10_sees 162 = .ok (.iinc 10 1, 3) := by decide +kernel
theorem dX10_sees_165 : decode cX10_sees 165 = .ok (.goto (-94), 3) := by decide +kernel
theorem dX10_sees_168 : decode cX10_sees 168 = .ok (.aload_n 0, 1) := by decide +kernel
theorem dX10_sees_169 : decode cX10_sees 169 = .ok (.getfield 74, 3) := by decide +kernel
theorem dX10_sees_172 : decode cX10_sees 172 = .ok (.iload_n 2, 1) := by decide +kernel
theorem dX10_sees_173 : decode cX10_sees 173 = .ok (.lload_n 3, 1) := by decide +kernel
theorem dX10_sees_174 : decode cX10_sees 174 = .ok (.lastore, 1) := by decide +kernel
theorem dX10_sees_175 : decode cX10_sees 175 = .ok (.aload_n 0, 1) := by decide +kernel
theorem dX10_sees_176 : decode cX10_sees 176 = .ok (.getfield 74, 3) := by decide +kernel
theorem dX10_sees_179 : decode cX10_sees 179 = .ok (.iload_n 2, 1) := by decide +kernel
theorem dX10_sees_180 : decode cX10_sees 180 = .ok (.iconst 1, 1) := by decide +kernel
theorem dX10_sees_181 : decode cX10_sees 181 = .ok (.iadd, 1) := by decide +kernel
theorem dX10_sees_182 : decode cX10_sees 182 = .ok (.lload 5, 2) := by decide +kernel
theorem dX10_sees_184 : decode cX10_sees 184 = .ok (.lastore, 1) := by decide +kernel
theorem dX10_sees_185 : decode cX10_sees 185 = .ok (.aload_n 0, 1) := by decide +kernel
theorem dX10_sees_186 : decode cX10_sees 186 = .ok (.getfield 74, 3) := by decide +kernel
theorem dX10_sees_189 : decode cX10_sees 189 = .ok (.iload_n 2, 1) := by decide +kernel
theorem dX10_sees_190 : decode cX10_sees 190 = .ok (.iconst 2, 1) := by decide +kernel
theorem dX10_sees_191 : decode cX10_sees 191 = .ok (.iadd, 1) := by decide +kernel
theorem dX10_sees_192 : decode cX10_sees 192 = .ok (.lload 7, 2) := by decide +kernel
theorem dX10_sees_194 : decode cX10_sees 194 = .ok (.lastore, 1) := by decide +kernel
theorem dX10_sees_195 : decode cX10_sees 195 = .ok (.return_, 1) := by decide +kernel
theorem chIwsX10_takes_0 : ∀ w ∈ ([.code yX10_takes cX10_takes 6 none] : List Cond), w ∈ wsX10_takes := fun _ h => (List.mem_cons.mpr (Or.inl (List.mem_singleton.mp h)))
theorem chIwsX10_takes_1 : ∀ w ∈ ([.fieldLink RX10 58 "WatchedProgramsModel" "seen" "[J", .fieldLink RX10 74 "WatchedProgramsModel" "sight" "[J", .constantLong RX10 206 (1000003), .constantLong RX10 208 (2), .fieldLink RX10 210 "WatchedProgramsModel" "secrets" "I", .fieldLink RX10 68 "WatchedProgramsModel" "begin" "[I", .fieldLink RX10 71 "WatchedProgramsModel" "chain" "[I", .fieldLink RX10 62 "WatchedProgramsModel" "heapOf" "[I", .fieldLink RX10 65 "WatchedProgramsModel" "heapMany" "[I", .fieldLink RX10 216 "WatchedProgramsModel" "heaps" "I", .methodLink RX10 213 yX10_isLike, .instanceMethod yX10_isLike, .selects RX10 yX10_isLike yX10_isLike, .initialized RX10, .code yX10_isLike cX10_isLike 5 (some .boolean)] : List Cond), w ∈ wsX10_takes := fun _ h => (List.mem_cons_of_mem _ (List.mem_append_left _ h))
theorem chIwsX10_takes_2 : ∀ w ∈ (wsX100 : List Cond), w ∈ wsX10_takes := fun _ h => (List.mem_cons_of_mem _ (List.mem_append_right _ h))
def chwsX10_takes : Nat → List Cond
  | 0 => [.code yX10_takes cX10_takes 6 none]
  | 1 => [.fieldLink RX10 58 "WatchedProgramsModel" "seen" "[J", .fieldLink RX10 74 "WatchedProgramsModel" "sight" "[J", .constantLong RX10 206 (1000003), .constantLong RX10 208 (2), .fieldLink RX10 210 "WatchedProgramsModel" "secrets" "I", .fieldLink RX10 68 "WatchedProgramsModel" "begin" "[I", .fieldLink RX10 71 "WatchedProgramsModel" "chain" "[I", .fieldLink RX10 62 "WatchedProgramsModel" "heapOf" "[I", .fieldLink RX10 65 "WatchedProgramsModel" "heapMany" "[I", .fieldLink RX10 216 "WatchedProgramsModel" "heaps" "I", .methodLink RX10 213 yX10_isLike, .instanceMethod yX10_isLike, .selects RX10 yX10_isLike yX10_isLike, .initialized RX10, .code yX10_isLike cX10_isLike 5 (some .boolean)]
  | 2 => wsX100
  | _ => []
theorem chwsX10_takes_in : ∀ (j : Nat) (w : Cond), w ∈ chwsX10_takes j → w ∈ wsX10_takes
  | 0, w, h => chIwsX10_takes_0 w h
  | 1, w, h => chIwsX10_takes_1 w h
  | 2, w, h => chIwsX10_takes_2 w h
  | _ + 3, _, h => absurd h List.not_mem_nil
set_option maxRecDepth 20000 in
theorem ggX10_takes_X10_isLike : GoodIn wsX10_takes wsX10_isLike := goodIn_r2 chwsX10_takes chwsX10_takes_in _ [(1, 14), (1, 0), (2, 0), (2, 1), (2, 2), (2, 3), (2, 4), (2, 5), (2, 6), (2, 7), (2, 8), (2, 9), (2, 10), (2, 11), (2, 12), (2, 13), (2, 14), (2, 15), (2, 16), (2, 17), (2, 18), (2, 19), (2, 20), (2, 21), (2, 22), (2, 23), (2, 24), (2, 25), (2, 26), (2, 27), (2, 28), (2, 29), (2, 30), (2, 31), (2, 32), (2, 33), (2, 34), (2, 35), (2, 36), (2, 37), (2, 38), (2, 39)] rfl (by decide +kernel)
set_option maxRecDepth 20000 in
theorem gX10_takes_X10_isLike : GoodIn wsX10_takes (wsV RX10 213 RX10 yX10_isLike wsX10_isLike) := goodIn_app (goodIn_r2 chwsX10_takes chwsX10_takes_in _ [(1, 10), (1, 11), (1, 12), (1, 13)] rfl (by decide +kernel)) ggX10_takes_X10_isLike
theorem dX10_takes_0 : decode cX10_takes 0 = .ok (.lconst 0, 1) := by decide +kernel
theorem dX10_takes_1 : decode cX10_takes 1 = .ok (.lstore_n 2, 1) := by decide +kernel
theorem dX10_takes_2 : decode cX10_takes 2 = .ok (.iconst 0, 1) := by decide +kernel
theorem dX10_takes_3 : decode cX10_takes 3 = .ok (.istore 4, 2) := by decide +kernel
theorem dX10_takes_5 : decode cX10_takes 5 = .ok (.iload 4, 2) := by decide +kernel
theorem dX10_takes_7 : decode cX10_takes 7 = .ok (.bipush 6, 2) := by decide +kernel
theorem dX10_takes_9 : decode cX10_takes 9 = .ok (.if_icmp .ge 42, 3) := by decide +kernel
theorem dX10_takes_12 : decode cX10_takes 12 = .ok (.aload_n 0, 1) := by decide +kernel
theorem dX10_takes_13 : decode cX10_takes 13 = .ok (.getfield 58, 3) := by decide +kernel
theorem dX10_takes_16 : decode cX10_takes 16 = .ok (.bipush 6, 2) := by decide +kernel
theorem dX10_takes_18 : decode cX10_takes 18 = .ok (.iload_n 1, 1) := by decide +kernel
theorem dX10_takes_19 : decode cX10_takes 19 = .ok (.imul, 1) := by decide +kernel
theorem dX10_takes_20 : decode cX10_takes 20 = .ok (.iload 4, 2) := by decide +kernel
theorem dX10_takes_22 : decode cX10_takes 22 = .ok (.iadd, 1) := by decide +kernel
theorem dX10_takes_23 : decode cX10_takes 23 = .ok (.aload_n 0, 1) := by decide +kernel
theorem dX10_takes_24 : decode cX10_takes 24 = .ok (.getfield 74, 3) := by decide +kernel
theorem dX10_takes_27 : decode cX10_takes 27 = .ok (.iload 4, 2) := by decide +kernel
theorem dX10_takes_29 : decode cX10_takes 29 = .ok (.laload, 1) := by decide +kernel
theorem dX10_takes_30 : decode cX10_takes 30 = .ok (.lastore, 1) := by decide +kernel
theorem dX10_takes_31 : decode cX10_takes 31 = .ok (.ldc2_w 206, 3) := by decide +kernel
theorem dX10_takes_34 : decode cX10_takes 34 = .ok (.lload_n 2, 1) := by decide +kernel
theorem dX10_takes_35 : decode cX10_takes 35 = .ok (.lmul, 1) := by decide +kernel
theorem dX10_takes_36 : decode cX10_takes 36 = .ok (.aload_n 0, 1) := by decide +kernel
theorem dX10_takes_37 : decode cX10_takes 37 = .ok (.getfield 74, 3) := by decide +kernel
theorem dX10_takes_40 : decode cX10_takes 40 = .ok (.iload 4, 2) := by decide +kernel
theorem dX10_takes_42 : decode cX10_takes 42 = .ok (.laload, 1) := by decide +kernel
theorem dX10_takes_43 : decode cX10_takes 43 = .ok (.ladd, 1) := by decide +kernel
theorem dX10_takes_44 : decode cX10_takes 44 = .ok (.lstore_n 2, 1) := by decide +kernel
theorem dX10_takes_45 : decode cX10_takes 45 = .ok (.iinc 4 1, 3) := by decide +kernel
theorem dX10_takes_48 : decode cX10_takes 48 = .ok (.goto (-43), 3) := by decide +kernel
theorem dX10_takes_51 : decode cX10_takes 51 = .ok (.lload_n 2, 1) := by decide +kernel
theorem dX10_takes_52 : decode cX10_takes 52 = .ok (.lload_n 2, 1) := by decide +kernel
theorem dX10_takes_53 : decode cX10_takes 53 = .ok (.bipush 31, 2) := by decide +kernel
theorem dX10_takes_55 : decode cX10_takes 55 = .ok (.lushr, 1) := by decide +kernel
theorem dX10_takes_56 : decode cX10_takes 56 = .ok (.lxor, 1) := by decide +kernel
theorem dX10_takes_57 : decode cX10_takes 57 = .ok (.ldc2_w 208, 3) := by decide +kernel
theorem dX10_takes_60 : decode cX10_takes 60 = .ok (.aload_n 0, 1) := by decide +kernel
theorem dX10_takes_61 : decode cX10_takes 61 = .ok (.getfield 210, 3) := by decide +kernel
theorem dX10_takes_64 : decode cX10_takes 64 = .ok (.i2l, 1) := by decide +kernel
theorem dX10_takes_65 : decode cX10_takes 65 = .ok (.lmul, 1) := by decide +kernel
theorem dX10_takes_66 : decode cX10_takes 66 = .ok (.lconst 1, 1) := by decide +kernel
theorem dX10_takes_67 : decode cX10_takes 67 = .ok (.lsub, 1) := by decide +kernel
theorem dX10_takes_68 : decode cX10_takes 68 = .ok (.land, 1) := by decide +kernel
theorem dX10_takes_69 : decode cX10_takes 69 = .ok (.l2i, 1) := by decide +kernel
theorem dX10_takes_70 : decode cX10_takes 70 = .ok (.istore 4, 2) := by decide +kernel
theorem dX10_takes_72 : decode cX10_takes 72 = .ok (.aload_n 0, 1) := by decide +kernel
theorem dX10_takes_73 : decode cX10_takes 73 = .ok (.getfield 68, 3) := by decide +kernel
theorem dX10_takes_76 : decode cX10_takes 76 = .ok (.iload 4, 2) := by decide +kernel
theorem dX10_takes_78 : decode cX10_takes 78 = .ok (.iaload, 1) := by decide +kernel
theorem dX10_takes_79 : decode cX10_takes 79 = .ok (.istore 5, 2) := by decide +kernel
theorem dX10_takes_81 : decode cX10_takes 81 = .ok (.iload 5, 2) := by decide +kernel
theorem dX10_takes_83 : decode cX10_takes 83 = .ok (.bipush (-9), 2) := by decide +kernel
theorem dX10_takes_85 : decode cX10_takes 85 = .ok (.if_icmp .eq 25, 3) := by decide +kernel
theorem dX10_takes_88 : decode cX10_takes 88 = .ok (.aload_n 0, 1) := by decide +kernel
theorem dX10_takes_89 : decode cX10_takes 89 = .ok (.iload 5, 2) := by decide +kernel
theorem dX10_takes_91 : decode cX10_takes 91 = .ok (.iload_n 1, 1) := by decide +kernel
theorem dX10_takes_92 : decode cX10_takes 92 = .ok (.invokevirtual 213, 3) := by decide +kernel
theorem dX10_takes_95 : decode cX10_takes 95 = .ok (.ifCond .ne 15, 3) := by decide +kernel
theorem dX10_takes_98 : decode cX10_takes 98 = .ok (.aload_n 0, 1) := by decide +kernel
theorem dX10_takes_99 : decode cX10_takes 99 = .ok (.getfield 71, 3) := by decide +kernel
theorem dX10_takes_102 : decode cX10_takes 102 = .ok (.iload 5, 2) := by decide +kernel
theorem dX10_takes_104 : decode cX10_takes 104 = .ok (.iaload, 1) := by decide +kernel
theorem dX10_takes_105 : decode cX10_takes 105 = .ok (.istore 5, 2) := by decide +kernel
theorem dX10_takes_107 : decode cX10_takes 107 = .ok (.goto (-26), 3) := by decide +kernel
theorem dX10_takes_110 : decode cX10_takes 110 = .ok (.iload 5, 2) := by decide +kernel
theorem dX10_takes_112 : decode cX10_takes 112 = .ok (.bipush (-9), 2) := by decide +kernel
theorem dX10_takes_114 : decode cX10_takes 114 = .ok (.if_icmp .ne 51, 3) := by decide +kernel
theorem dX10_takes_117 : decode cX10_takes 117 = .ok (.aload_n 0, 1) := by decide +kernel
theorem dX10_takes_118 : decode cX10_takes 118 = .ok (.getfield 71, 3) := by decide +kernel
theorem dX10_takes_121 : decode cX10_takes 121 = .ok (.iload_n 1, 1) := by decide +kernel
theorem dX10_takes_122 : decode cX10_takes 122 = .ok (.aload_n 0, 1) := by decide +kernel
theorem dX10_takes_123 : decode cX10_takes 123 = .ok (.getfield 68, 3) := by decide +kernel
theorem dX10_takes_126 : decode cX10_takes 126 = .ok (.iload 4, 2) := by decide +kernel
theorem dX10_takes_128 : decode cX10_takes 128 = .ok (.iaload, 1) := by decide +kernel
theorem dX10_takes_129 : decode cX10_takes 129 = .ok (.iastore, 1) := by decide +kernel
theorem dX10_takes_130 : decode cX10_takes 130 = .ok (.aload_n 0, 1) := by decide +kernel
theorem dX10_takes_131 : decode cX10_takes 131 = .ok (.getfield 68, 3) := by decide +kernel
theorem dX10_takes_134 : decode cX10_takes 134 = .ok (.iload 4, 2) := by decide +kernel
theorem dX10_takes_136 : decode cX10_takes 136 = .ok (.iload_n 1, 1) := by decide +kernel
theorem dX10_takes_137 : decode cX10_takes 137 = .ok (.iastore, 1) := by decide +kernel
theorem dX10_takes_138 : decode cX10_takes 138 = .ok (.aload_n 0, 1) := by decide +kernel
theorem dX10_takes_139 : decode cX10_takes 139 = .ok (.getfield 62, 3) := by decide +kernel
theorem dX10_takes_142 : decode cX10_takes 142 = .ok (.iload_n 1, 1) := by decide +kernel
theorem dX10_takes_143 : decode cX10_takes 143 = .ok (.iload_n 1, 1) := by decide +kernel
theorem dX10_takes_144 : decode cX10_takes 144 = .ok (.iastore, 1) := by decide +kernel
theorem dX10_takes_145 : decode cX10_takes 145 = .ok (.aload_n 0, 1) := by decide +kernel
theorem dX10_takes_146 : decode cX10_takes 146 = .ok (.getfield 65, 3) := by decide +kernel
theorem dX10_takes_149 : decode cX10_takes 149 = .ok (.iload_n 1, 1) := by decide +kernel
theorem dX10_takes_150 : decode cX10_takes 150 = .ok (.iconst 1, 1) := by decide +kernel
theorem dX10_takes_151 : decode cX10_takes 151 = .ok (.iastore, 1) := by decide +kernel
theorem dX10_takes_152 : decode cX10_takes 152 = .ok (.aload_n 0, 1) := by decide +kernel
theorem dX10_takes_153 : decode cX10_takes 153 = .ok (.dup, 1) := by decide +kernel
theorem dX10_takes_154 : decode cX10_takes 154 = .ok (.getfield 216, 3) := by decide +kernel
theorem dX10_takes_157 : decode cX10_takes 157 = .ok (.iconst 1, 1) := by decide +kernel
theorem dX10_takes_158 : decode cX10_takes 158 = .ok (.iadd, 1) := by decide +kernel
theorem dX10_takes_159 : decode cX10_takes 159 = .ok (.putfield 216, 3) := by decide +kernel
theorem dX10_takes_162 : decode cX10_takes 162 = .ok (.goto 22, 3) := by decide +kernel
theorem dX10_takes_165 : decode cX10_takes 165 = .ok (.aload_n 0, 1) := by decide +kernel
theorem dX10_takes_166 : decode cX10_takes 166 = .ok (.getfield 62, 3) := by decide +kernel
theorem dX10_takes_169 : decode cX10_takes 169 = .ok (.iload_n 1, 1) := by decide +kernel
theorem dX10_takes_170 : decode cX10_takes 170 = .ok (.iload 5, 2) := by decide +kernel
theorem dX10_takes_172 : decode cX10_takes 172 = .ok (.iastore, 1) := by decide +kernel
theorem dX10_takes_173 : decode cX10_takes 173 = .ok (.aload_n 0, 1) := by decide +kernel
theorem dX10_takes_174 : decode cX10_takes 174 = .ok (.getfield 65, 3) := by decide +kernel
theorem dX10_takes_177 : decode cX10_takes 177 = .ok (.iload 5, 2) := by decide +kernel
theorem dX10_takes_179 : decode cX10_takes 179 = .ok (.dup2, 1) := by decide +kernel
theorem dX10_takes_180 : decode cX10_takes 180 = .ok (.iaload, 1) := by decide +kernel
theorem dX10_takes_181 : decode cX10_takes 181 = .ok (.iconst 1, 1) := by decide +kernel
theorem dX10_takes_182 : decode cX10_takes 182 = .ok (.iadd, 1) := by decide +kernel
theorem dX10_takes_183 : decode cX10_takes 183 = .ok (.iastore, 1) := by decide +kernel
theorem dX10_takes_184 : decode cX10_takes 184 = .ok (.return_, 1) := by decide +kernel
theorem dX10_isLike_0 : decode cX10_isLike 0 = .ok (.iconst 1, 1) := by decide +kernel
theorem dX10_isLike_1 : decode cX10_isLike 1 = .ok (.istore_n 3, 1) := by decide +kernel
theorem dX10_isLike_2 : decode cX10_isLike 2 = .ok (.iconst 0, 1) := by decide +kernel
theorem dX10_isLike_3 : decode cX10_isLike 3 = .ok (.istore 4, 2) := by decide +kernel
theorem dX10_isLike_5 : decode cX10_isLike 5 = .ok (.iload 4, 2) := by decide +kernel
theorem dX10_isLike_7 : decode cX10_isLike 7 = .ok (.bipush 6, 2) := by decide +kernel
theorem dX10_isLike_9 : decode cX10_isLike 9 = .ok (.if_icmp .ge 47, 3) := by decide +kernel
theorem dX10_isLike_12 : decode cX10_isLike 12 = .ok (.iload_n 3, 1) := by decide +kernel
theorem dX10_isLike_13 : decode cX10_isLike 13 = .ok (.ifCond .eq 43, 3) := by decide +kernel
theorem dX10_isLike_16 : decode cX10_isLike 16 = .ok (.aload_n 0, 1) := by decide +kernel
theorem dX10_isLike_17 : decode cX10_isLike 17 = .ok (.getfield 58, 3) := by decide +kernel
theorem dX10_isLike_20 : decode cX10_isLike 20 = .ok (.bipush 6, 2) := by decide +kernel
theorem dX10_isLike_22 : decode cX10_isLike 22 = .ok (.iload_n 1, 1) := by decide +kernel
theorem dX10_isLike_23 : decode cX10_isLike 23 = .ok (.imul, 1) := by decide +kernel
theorem dX10_isLike_24 : decode cX10_isLike 24 = .ok (.iload 4, 2) := by decide +kernel
theorem dX10_isLike_26 : decode cX10_isLike 26 = .ok (.iadd, 1) := by decide +kernel
theorem dX10_isLike_27 : decode cX10_isLike 27 = .ok (.laload, 1) := by decide +kernel
theorem dX10_isLike_28 : decode cX10_isLike 28 = .ok (.aload_n 0, 1) := by decide +kernel
theorem dX10_isLike_29 : decode cX10_isLike 29 = .ok (.getfield 58, 3) := by decide +kernel
theorem dX10_isLike_32 : decode cX10_isLike 32 = .ok (.bipush 6, 2) := by decide +kernel
theorem dX10_isLike_34 : decode cX10_isLike 34 = .ok (.iload_n 2, 1) := by decide +kernel
theorem dX10_isLike_35 : decode cX10_isLike 35 = .ok (.imul, 1) := by decide +kernel
theorem dX10_isLike_36 : decode cX10_isLike 36 = .ok (.iload 4, 2) := by decide +kernel
theorem dX10_isLike_38 : decode cX10_isLike 38 = .ok (.iadd, 1) := by decide +kernel
theorem dX10_isLike_39 : decode cX10_isLike 39 = .ok (.laload, 1) := by decide +kernel
theorem dX10_isLike_40 : decode cX10_isLike 40 = .ok (.lcmp, 1) := by decide +kernel
theorem dX10_isLike_41 : decode cX10_isLike 41 = .ok (.ifCond .ne 7, 3) := by decide +kernel
theorem dX10_isLike_44 : decode cX10_isLike 44 = .ok (.iconst 1, 1) := by decide +kernel
theorem dX10_isLike_45 : decode cX10_isLike 45 = .ok (.goto 4, 3) := by decide +kernel
theorem dX10_isLike_48 : decode cX10_isLike 48 = .ok (.iconst 0, 1) := by decide +kernel
theorem dX10_isLike_49 : decode cX10_isLike 49 = .ok (.istore_n 3, 1) := by decide +kernel
theorem dX10_isLike_50 : decode cX10_isLike 50 = .ok (.iinc 4 1, 3) := by decide +kernel
theorem dX10_isLike_53 : decode cX10_isLike 53 = .ok (.goto (-48), 3) := by decide +kernel
theorem dX10_isLike_56 : decode cX10_isLike 56 = .ok (.iload_n 3, 1) := by decide +kernel
theorem dX10_isLike_57 : decode cX10_isLike 57 = .ok (.ireturn, 1) := by decide +kernel
theorem dX10_clears_0 : decode cX10_clears 0 = .ok (.aload_n 0, 1) := by decide +kernel
theorem dX10_clears_1 : decode cX10_clears 1 = .ok (.iload_n 1, 1) := by decide +kernel
theorem dX10_clears_2 : decode cX10_clears 2 = .ok (.putfield 210, 3) := by decide +kernel
theorem dX10_clears_5 : decode cX10_clears 5 = .ok (.aload_n 0, 1) := by decide +kernel
theorem dX10_clears_6 : decode cX10_clears 6 = .ok (.iconst 0, 1) := by decide +kernel
theorem dX10_clears_7 : decode cX10_clears 7 = .ok (.putfield 216, 3) := by decide +kernel
theorem dX10_clears_10 : decode cX10_clears 10 = .ok (.iconst 0, 1) := by decide +kernel
theorem dX10_clears_11 : decode cX10_clears 11 = .ok (.istore_n 2, 1) := by decide +kernel
theorem dX10_clears_12 : decode cX10_clears 12 = .ok (.iload_n 2, 1) := by decide +kernel
theorem dX10_clears_13 : decode cX10_clears 13 = .ok (.iconst 2, 1) := by decide +kernel
theorem dX10_clears_14 : decode cX10_clears 14 = .ok (.iload_n 1, 1) := by decide +kernel
theorem dX10_clears_15 : decode cX10_clears 15 = .ok (.imul, 1) := by decide +kernel
theorem dX10_clears_16 : decode cX10_clears 16 = .ok (.if_icmp .ge 17, 3) := by decide +kernel
theorem dX10_clears_19 : decode cX10_clears 19 = .ok (.aload_n 0, 1) := by decide +kernel
theorem dX10_clears_20 : decode cX10_clears 20 = .ok (.getfield 68, 3) := by decide +kernel
theorem dX10_clears_23 : decode cX10_clears 23 = .ok (.iload_n 2, 1) := by decide +kernel
theorem dX10_clears_24 : decode cX10_clears 24 = .ok (.bipush (-9), 2) := by decide +kernel
theorem dX10_clears_26 : decode cX10_clears 26 = .ok (.iastore, 1) := by decide +kernel
theorem dX10_clears_27 : decode cX10_clears 27 = .ok (.iinc 2 1, 3) := by decide +kernel
theorem dX10_clears_30 : decode cX10_clears 30 = .ok (.goto (-18), 3) := by decide +kernel
theorem dX10_clears_33 : decode cX10_clears 33 = .ok (.iconst 0, 1) := by decide +kernel
theorem dX10_clears_34 : decode cX10_clears 34 = .ok (.istore_n 2, 1) := by decide +kernel
theorem dX10_clears_35 : decode cX10_clears 35 = .ok (.iload_n 2, 1) := by decide +kernel
theorem dX10_clears_36 : decode cX10_clears 36 = .ok (.bipush 6, 2) := by decide +kernel
theorem dX10_clears_38 : decode cX10_clears 38 = .ok (.if_icmp .ge 16, 3) := by decide +kernel
theorem dX10_clears_41 : decode cX10_clears 41 = .ok (.aload_n 0, 1) := by decide +kernel
theorem dX10_clears_42 : decode cX10_clears 42 = .ok (.getfield 74, 3) := by decide +kernel
theorem dX10_clears_45 : decode cX10_clears 45 = .ok (.iload_n 2, 1) := by decide +kernel
theorem dX10_clears_46 : decode cX10_clears 46 = .ok (.lconst 0, 1) := by decide +kernel
theorem dX10_clears_47 : decode cX10_clears 47 = .ok (.lastore, 1) := by decide +kernel
theorem dX10_clears_48 : decode cX10_clears 48 = .ok (.iinc 2 1, 3) := by decide +kernel
theorem dX10_clears_51 : decode cX10_clears 51 = .ok (.goto (-16), 3) := by decide +kernel
theorem dX10_clears_54 : decode cX10_clears 54 = .ok (.return_, 1) := by decide +kernel
theorem chIwsX10_learns_0 : ∀ w ∈ ([.code yX10_learns cX10_learns 8 none] : List Cond), w ∈ wsX10_learns := fun _ h => (List.mem_cons.mpr (Or.inl (List.mem_singleton.mp h)))
theorem chIwsX10_learns_1 : ∀ w ∈ (wsX10_learns_r1 : List Cond), w ∈ wsX10_learns := fun _ h => (List.mem_cons_of_mem _ (List.mem_append_left _ (List.mem_append_left _ h)))
theorem chIwsX10_learns_2 : ∀ w ∈ (wsX10_learns_r2 : List Cond), w ∈ wsX10_learns := fun _ h => (List.mem_cons_of_mem _ (List.mem_append_left _ (List.mem_append_right _ (List.mem_append_left _ h))))
theorem chIwsX10_learns_3 : ∀ w ∈ (wsX10_learns_r3 : List Cond), w ∈ wsX10_learns := fun _ h => (List.mem_cons_of_mem _ (List.mem_append_left _ (List.mem_append_right _ (List.mem_append_right _ h))))
theorem chIwsX10_learns_4 : ∀ w ∈ (wsX100 : List Cond), w ∈ wsX10_learns := fun _ h => (List.mem_cons_of_mem _ (List.mem_append_right _ h))
def chwsX10_learns : Nat → List Cond
  | 0 => [.code yX10_learns cX10_learns 8 none]
  | 1 => wsX10_learns_r1
  | 2 => wsX10_learns_r2
  | 3 => wsX10_learns_r3
  | 4 => wsX100
  | _ => []
theorem chwsX10_learns_in : ∀ (j : Nat) (w : Cond), w ∈ chwsX10_learns j → w ∈ wsX10_learns
  | 0, w, h => chIwsX10_learns_0 w h
  | 1, w, h => chIwsX10_learns_1 w h
  | 2, w, h => chIwsX10_learns_2 w h
  | 3, w, h => chIwsX10_learns_3 w h
  | 4, w, h => chIwsX10_learns_4 w h
  | _ + 5, _, h => absurd h List.not_mem_nil
set_option maxRecDepth 20000 in
theorem ggX10_learns_X10_cells : GoodIn wsX10_learns wsX10_cells := goodIn_r2 chwsX10_learns chwsX10_learns_in _ [(1, 8), (1, 9), (1, 10), (1, 11), (1, 7), (1, 12), (4, 0), (4, 1), (4, 2), (4, 3), (4, 4), (4, 5), (4, 6), (4, 7), (4, 8), (4, 9), (4, 10), (4, 11), (4, 12), (4, 13), (4, 14), (4, 15), (4, 16), (4, 17), (4, 18), (4, 19), (4, 20), (4, 21), (4, 22), (4, 23), (4, 24), (4, 25), (4, 26), (4, 27), (4, 28), (4, 29), (4, 30), (4, 31), (4, 32), (4, 33), (4, 34), (4, 35), (4, 36), (4, 37), (4, 38), (4, 39)] rfl (by decide +kernel)
set_option maxRecDepth 20000 in
theorem gX10_learns_X10_cells : GoodIn wsX10_learns (wsV RX10 219 RX10 yX10_cells wsX10_cells) := goodIn_app (goodIn_r2 chwsX10_learns chwsX10_learns_in _ [(1, 4), (1, 5), (1, 6), (1, 7)] rfl (by decide +kernel)) ggX10_learns_X10_cells
set_option maxRecDepth 20000 in
theorem ggX10_learns_X10_clears : GoodIn wsX10_learns wsX10_clears := goodIn_r2 chwsX10_learns chwsX10_learns_in _ [(1, 16), (1, 0), (1, 17), (1, 18), (1, 2), (4, 0), (4, 1), (4, 2), (4, 3), (4, 4), (4, 5), (4, 6), (4, 7), (4, 8), (4, 9), (4, 10), (4, 11), (4, 12), (4, 13), (4, 14), (4, 15), (4, 16), (4, 17), (4, 18), (4, 19), (4, 20), (4, 21), (4, 22), (4, 23), (4, 24), (4, 25), (4, 26), (4, 27), (4, 28), (4, 29), (4, 30), (4, 31), (4, 32), (4, 33), (4, 34), (4, 35), (4, 36), (4, 37), (4, 38), (4, 39)] rfl (by decide +kernel)
set_option maxRecDepth 20000 in
theorem gX10_learns_X10_clears : GoodIn wsX10_learns (wsV RX10 223 RX10 yX10_clears wsX10_clears) := goodIn_app (goodIn_r2 chwsX10_learns chwsX10_learns_in _ [(1, 13), (1, 14), (1, 15), (1, 7)] rfl (by decide +kernel)) ggX10_learns_X10_clears
set_option maxRecDepth 20000 in
theorem ggX10_learns_X10_tells : GoodIn wsX10_learns wsX10_tells := goodIn_r2 chwsX10_learns chwsX10_learns_in _ [(1, 22), (1, 9), (1, 23), (1, 10), (1, 11), (1, 7), (1, 12), (4, 0), (4, 1), (4, 2), (4, 3), (4, 4), (4, 5), (4, 6), (4, 7), (4, 8), (4, 9), (4, 10), (4, 11), (4, 12), (4, 13), (4, 14), (4, 15), (4, 16), (4, 17), (4, 18), (4, 19), (4, 20), (4, 21), (4, 22), (4, 23), (4, 24), (4, 25), (4, 26), (4, 27), (4, 28), (4, 29), (4, 30), (4, 31), (4, 32), (4, 33), (4, 34), (4, 35), (4, 36), (4, 37), (4, 38), (4, 39)] rfl (by decide +kernel)
set_option maxRecDepth 20000 in
theorem gX10_learns_X10_tells : GoodIn wsX10_learns (wsV RX10 226 RX10 yX10_tells wsX10_tells) := goodIn_app (goodIn_r2 chwsX10_learns chwsX10_learns_in _ [(1, 19), (1, 20), (1, 21), (1, 7)] rfl (by decide +kernel)) ggX10_learns_X10_tells
set_option maxRecDepth 20000 in
theorem ggX10_learns_X10_runs : GoodIn wsX10_learns wsX10_runs := goodIn_r2 chwsX10_learns chwsX10_learns_in _ [(2, 3), (1, 1), (2, 4), (2, 5), (2, 6), (2, 7), (2, 8), (2, 9), (2, 10), (1, 23), (2, 11), (2, 12), (2, 13), (2, 14), (2, 15), (1, 7), (2, 16), (2, 17), (2, 18), (2, 19), (2, 20), (2, 21), (2, 22), (4, 0), (4, 1), (4, 2), (4, 3), (4, 4), (4, 5), (4, 6), (4, 7), (4, 8), (4, 9), (4, 10), (4, 11), (4, 12), (4, 13), (4, 14), (4, 15), (4, 16), (4, 17), (4, 18), (4, 19), (4, 20), (4, 21), (4, 22), (4, 23), (4, 24), (4, 25), (4, 26), (4, 27), (4, 28), (4, 29), (4, 30), (4, 31), (4, 32), (4, 33), (4, 34), (4, 35), (4, 36), (4, 37), (4, 38), (4, 39)] rfl (by decide +kernel)
set_option maxRecDepth 20000 in
theorem gX10_learns_X10_runs : GoodIn wsX10_learns (wsV RX10 186 RX10 yX10_runs wsX10_runs) := goodIn_app (goodIn_r2 chwsX10_learns chwsX10_learns_in _ [(2, 0), (2, 1), (2, 2), (1, 7)] rfl (by decide +kernel)) ggX10_learns_X10_runs
set_option maxRecDepth 20000 in
theorem ggX10_learns_X10_sees : GoodIn wsX10_learns wsX10_sees := goodIn_r2 chwsX10_learns chwsX10_learns_in _ [(3, 2), (1, 9), (3, 3), (1, 23), (2, 4), (2, 12), (3, 4), (2, 11), (1, 2), (1, 10), (1, 11), (1, 7), (1, 12), (3, 5), (3, 6), (3, 7), (4, 0), (4, 1), (4, 2), (4, 3), (4, 4), (4, 5), (4, 6), (4, 7), (4, 8), (4, 9), (4, 10), (4, 11), (4, 12), (4, 13), (4, 14), (4, 15), (4, 16), (4, 17), (4, 18), (4, 19), (4, 20), (4, 21), (4, 22), (4, 23), (4, 24), (4, 25), (4, 26), (4, 27), (4, 28), (4, 29), (4, 30), (4, 31), (4, 32), (4, 33), (4, 34), (4, 35), (4, 36), (4, 37), (4, 38), (4, 39)] rfl (by decide +kernel)
set_option maxRecDepth 20000 in
theorem gX10_learns_X10_sees : GoodIn wsX10_learns (wsV RX10 230 RX10 yX10_sees wsX10_sees) := goodIn_app (goodIn_r2 chwsX10_learns chwsX10_learns_in _ [(2, 23), (3, 0), (3, 1), (1, 7)] rfl (by decide +kernel)) ggX10_learns_X10_sees
set_option maxRecDepth 20000 in
theorem ggX10_learns_X10_takes : GoodIn wsX10_learns wsX10_takes := goodIn_r2 chwsX10_learns chwsX10_learns_in _ [(3, 11), (3, 12), (1, 2), (3, 13), (3, 14), (1, 0), (1, 18), (3, 15), (3, 16), (3, 17), (1, 17), (3, 18), (3, 19), (3, 20), (1, 7), (3, 21), (4, 0), (4, 1), (4, 2), (4, 3), (4, 4), (4, 5), (4, 6), (4, 7), (4, 8), (4, 9), (4, 10), (4, 11), (4, 12), (4, 13), (4, 14), (4, 15), (4, 16), (4, 17), (4, 18), (4, 19), (4, 20), (4, 21), (4, 22), (4, 23), (4, 24), (4, 25), (4, 26), (4, 27), (4, 28), (4, 29), (4, 30), (4, 31), (4, 32), (4, 33), (4, 34), (4, 35), (4, 36), (4, 37), (4, 38), (4, 39)] rfl (by decide +kernel)
set_option maxRecDepth 20000 in
theorem gX10_learns_X10_takes : GoodIn wsX10_learns (wsV RX10 236 RX10 yX10_takes wsX10_takes) := goodIn_app (goodIn_r2 chwsX10_learns chwsX10_learns_in _ [(3, 8), (3, 9), (3, 10), (1, 7)] rfl (by decide +kernel)) ggX10_learns_X10_takes
theorem dX10_learns_0 : decode cX10_learns 0 = .ok (.aload_n 0, 1) := by decide +kernel
theorem dX10_learns_1 : decode cX10_learns 1 = .ok (.iconst 1, 1) := by decide +kernel
theorem dX10_learns_2 : decode cX10_learns 2 = .ok (.iconst 2, 1) := by decide +kernel
theorem dX10_learns_3 : decode cX10_learns 3 = .ok (.aload_n 0, 1) := by decide +kernel
theorem dX10_learns_4 : decode cX10_learns 4 = .ok (.iload_n 1, 1) := by decide +kernel
theorem dX10_learns_5 : decode cX10_learns 5 = .ok (.iconst 0, 1) := by decide +kernel
theorem dX10_learns_6 : decode cX10_learns 6 = .ok (.invokevirtual 219, 3) := by decide +kernel
theorem dX10_learns_9 : decode cX10_learns 9 = .ok (.imul, 1) := by decide +kernel
theorem dX10_learns_10 : decode cX10_learns 10 = .ok (.ishl, 1) := by decide +kernel
theorem dX10_learns_11 : decode cX10_learns 11 = .ok (.invokevirtual 223, 3) := by decide +kernel
theorem dX10_learns_14 : decode cX10_learns 14 = .ok (.iconst 0, 1) := by decide +kernel
theorem dX10_learns_15 : decode cX10_learns 15 = .ok (.istore 5, 2) := by decide +kernel
theorem dX10_learns_17 : decode cX10_learns 17 = .ok (.iload 5, 2) := by decide +kernel
theorem dX10_learns_19 : decode cX10_learns 19 = .ok (.aload_n 0, 1) := by decide +kernel
theorem dX10_learns_20 : decode cX10_learns 20 = .ok (.getfield 210, 3) := by decide +kernel
theorem dX10_learns_23 : decode cX10_learns 23 = .ok (.if_icmp .ge 128, 3) := by decide +kernel
theorem dX10_learns_26 : decode cX10_learns 26 = .ok (.iconst 0, 1) := by decide +kernel
theorem dX10_learns_27 : decode cX10_learns 27 = .ok (.istore 6, 2) := by decide +kernel
theorem dX10_learns_29 : decode cX10_learns 29 = .ok (.iconst 0, 1) := by decide +kernel
theorem dX10_learns_30 : decode cX10_learns 30 = .ok (.istore 7, 2) := by decide +kernel
theorem dX10_learns_32 : decode cX10_learns 32 = .ok (.iload 7, 2) := by decide +kernel
theorem dX10_learns_34 : decode cX10_learns 34 = .ok (.iload 4, 2) := by decide +kernel
theorem dX10_learns_36 : decode cX10_learns 36 = .ok (.ifCond .ge 7, 3) := by decide +kernel
theorem dX10_learns_39 : decode cX10_learns 39 = .ok (.iconst 1, 1) := by decide +kernel
theorem dX10_learns_40 : decode cX10_learns 40 = .ok (.goto 4, 3) := by decide +kernel
theorem dX10_learns_43 : decode cX10_learns 43 = .ok (.iconst 2, 1) := by decide +kernel
theorem dX10_learns_44 : decode cX10_learns 44 = .ok (.if_icmp .ge 95, 3) := by decide +kernel
theorem dX10_learns_47 : decode cX10_learns 47 = .ok (.aload_n 0, 1) := by decide +kernel
theorem dX10_learns_48 : decode cX10_learns 48 = .ok (.iload_n 1, 1) := by decide +kernel
theorem dX10_learns_49 : decode cX10_learns 49 = .ok (.iconst 1, 1) := by decide +kernel
theorem dX10_learns_50 : decode cX10_learns 50 = .ok (.iload 7, 2) := by decide +kernel
theorem dX10_learns_52 : decode cX10_learns 52 = .ok (.ifCond .ne 7, 3) := by decide +kernel
theorem dX10_learns_55 : decode cX10_learns 55 = .ok (.iload_n 3, 1) := by decide +kernel
theorem dX10_learns_56 : decode cX10_learns 56 = .ok (.goto 5, 3) := by decide +kernel
theorem dX10_learns_59 : decode cX10_learns 59 = .ok (.iload 4, 2) := by decide +kernel
theorem dX10_learns_61 : decode cX10_learns 61 = .ok (.invokevirtual 226, 3) := by decide +kernel
theorem dX10_learns_64 : decode cX10_learns 64 = .ok (.aload_n 0, 1) := by decide +kernel
theorem dX10_learns_65 : decode cX10_learns 65 = .ok (.iload_n 1, 1) := by decide +kernel
theorem dX10_learns_66 : decode cX10_learns 66 = .ok (.iconst 0, 1) := by decide +kernel
theorem dX10_learns_67 : decode cX10_learns 67 = .ok (.iload 5, 2) := by decide +kernel
theorem dX10_learns_69 : decode cX10_learns 69 = .ok (.invokevirtual 226, 3) := by decide +kernel
theorem dX10_learns_72 : decode cX10_learns 72 = .ok (.aload_n 0, 1) := by decide +kernel
theorem dX10_learns_73 : decode cX10_learns 73 = .ok (.invokevirtual 186, 3) := by decide +kernel
theorem dX10_learns_76 : decode cX10_learns 76 = .ok (.aload_n 0, 1) := by decide +kernel
theorem dX10_learns_77 : decode cX10_learns 77 = .ok (.iload_n 1, 1) := by decide +kernel
theorem dX10_learns_78 : decode cX10_learns 78 = .ok (.iconst 3, 1) := by decide +kernel
theorem dX10_learns_79 : decode cX10_learns 79 = .ok (.iload 7, 2) := by decide +kernel
theorem dX10_learns_81 : decode cX10_learns 81 = .ok (.imul, 1) := by decide +kernel
theorem dX10_learns_82 : decode cX10_learns 82 = .ok (.invokevirtual 230, 3) := by decide +kernel
theorem dX10_learns_85 : decode cX10_learns 85 = .ok (.sipush 512, 3) := by decide +kernel
theorem dX10_learns_88 : decode cX10_learns 88 = .ok (.iload 6, 2) := by decide +kernel
theorem dX10_learns_90 : decode cX10_learns 90 = .ok (.imul, 1) := by decide +kernel
theorem dX10_learns_91 : decode cX10_learns 91 = .ok (.iload_n 2, 1) := by decide +kernel
theorem dX10_learns_92 : decode cX10_learns 92 = .ok (.iconst 1, 1) := by decide +kernel
theorem dX10_learns_93 : decode cX10_learns 93 = .ok (.if_icmp .ne 10, 3) := by decide +kernel
theorem dX10_learns_96 : decode cX10_learns 96 = .ok (.aload_n 0, 1) := by decide +kernel
theorem dX10_learns_97 : decode cX10_learns 97 = .ok (.getfield 171, 3) := by decide +kernel
theorem dX10_learns_100 : decode cX10_learns 100 = .ok (.goto 4, 3) := by decide +kernel
theorem dX10_learns_103 : decode cX10_learns 103 = .ok (.iconst 0, 1) := by decide +kernel
theorem dX10_learns_104 : decode cX10_learns 104 = .ok (.iadd, 1) := by decide +kernel
theorem dX10_learns_105 : decode cX10_learns 105 = .ok (.istore 6, 2) := by decide +kernel
theorem dX10_learns_107 : decode cX10_learns 107 = .ok (.aload_n 0, 1) := by decide +kernel
theorem dX10_learns_108 : decode cX10_learns 108 = .ok (.getfield 74, 3) := by decide +kernel
theorem dX10_learns_111 : decode cX10_learns 111 = .ok (.iconst 3, 1) := by decide +kernel
theorem dX10_learns_112 : decode cX10_learns 112 = .ok (.iload 7, 2) := by decide +kernel
theorem dX10_learns_114 : decode cX10_learns 114 = .ok (.imul, 1) := by decide +kernel
theorem dX10_learns_115 : decode cX10_learns 115 = .ok (.ldc2_w 234, 3) := by decide +kernel
theorem dX10_learns_118 : decode cX10_learns 118 = .ok (.aload_n 0, 1) := by decide +kernel
theorem dX10_learns_119 : decode cX10_learns 119 = .ok (.getfield 74, 3) := by decide +kernel
theorem dX10_learns_122 : decode cX10_learns 122 = .ok (.iconst 3, 1) := by decide +kernel
theorem dX10_learns_123 : decode cX10_learns 123 = .ok (.iload 7, 2) := by decide +kernel
theorem dX10_learns_125 : decode cX10_learns 125 = .ok (.imul, 1) := by decide +kernel
theorem dX10_learns_126 : decode cX10_learns 126 = .ok (.laload, 1) := by decide +kernel
theorem dX10_learns_127 : decode cX10_learns 127 = .ok (.lmul, 1) := by decide +kernel
theorem dX10_learns_128 : decode cX10_learns 128 = .ok (.iload 6, 2) := by decide +kernel
theorem dX10_learns_130 : decode cX10_learns 130 = .ok (.i2l, 1) := by decide +kernel
theorem dX10_learns_131 : decode cX10_learns 131 = .ok (.ladd, 1) := by decide +kernel
theorem dX10_learns_132 : decode cX10_learns 132 = .ok (.lastore, 1) := by decide +kernel
theorem dX10_learns_133 : decode cX10_learns 133 = .ok (.iinc 7 1, 3) := by decide +kernel
theorem dX10_learns_136 : decode cX10_learns 136 = .ok (.goto (-104), 3) := by decide +kernel
theorem dX10_learns_139 : decode cX10_learns 139 = .ok (.aload_n 0, 1) := by decide +kernel
theorem dX10_learns_140 : decode cX10_learns 140 = .ok (.iload 5, 2) := by decide +kernel
theorem dX10_learns_142 : decode cX10_learns 142 = .ok (.invokevirtual 236, 3) := by decide +kernel
theorem dX10_learns_145 : decode cX10_learns 145 = .ok (.iinc 5 1, 3) := by decide +kernel
theorem dX10_learns_148 : decode cX10_learns 148 = .ok (.goto (-131), 3) := by decide +kernel
theorem dX10_learns_151 : decode cX10_learns 151 = .ok (.return_, 1) := by decide +kernel
set_option maxRecDepth 20000 in
theorem ggX10_isAsked_X10_in : GoodIn wsX10_isAsked wsX10_in := goodIn_r _ [4] rfl (by decide +kernel)
set_option maxRecDepth 20000 in
theorem gX10_isAsked_X10_in : GoodIn wsX10_isAsked (va_wsS RX10 84 yX10_in wsX10_in) := goodIn_app (goodIn_r _ [1, 2, 3] rfl (by decide +kernel)) ggX10_isAsked_X10_in
theorem dX10_isAsked_0 : decode cX10_isAsked 0 = .ok (.iload_n 1, 1) := by decide +kernel
theorem dX10_isAsked_1 : decode cX10_isAsked 1 = .ok (.iconst 0, 1) := by decide +kernel
theorem dX10_isAsked_2 : decode cX10_isAsked 2 = .ok (.iconst 3, 1) := by decide +kernel
theorem dX10_isAsked_3 : decode cX10_isAsked 3 = .ok (.invokestatic 84, 3) := by decide +kernel
theorem dX10_isAsked_6 : decode cX10_isAsked 6 = .ok (.ifCond .eq 16, 3) := by decide +kernel
theorem dX10_isAsked_9 : decode cX10_isAsked 9 = .ok (.iload_n 2, 1) := by decide +kernel
theorem dX10_isAsked_10 : decode cX10_isAsked 10 = .ok (.iconst 0, 1) := by decide +kernel
theorem dX10_isAsked_11 : decode cX10_isAsked 11 = .ok (.iconst 1, 1) := by decide +kernel
theorem dX10_isAsked_12 : decode cX10_isAsked 12 = .ok (.invokestatic 84, 3) := by decide +kernel
theorem dX10_isAsked_15 : decode cX10_isAsked 15 = .ok (.ifCond .eq 7, 3) := by decide +kernel
theorem dX10_isAsked_18 : decode cX10_isAsked 18 = .ok (.iconst 1, 1) := by decide +kernel
theorem dX10_isAsked_19 : decode cX10_isAsked 19 = .ok (.goto 4, 3) := by decide +kernel
theorem dX10_isAsked_22 : decode cX10_isAsked 22 = .ok (.iconst 0, 1) := by decide +kernel
theorem dX10_isAsked_23 : decode cX10_isAsked 23 = .ok (.ireturn, 1) := by decide +kernel
theorem chIwsX10_isOpen_0 : ∀ w ∈ ([.code yX10_isOpen cX10_isOpen 3 (some .boolean)] : List Cond), w ∈ wsX10_isOpen := fun _ h => (List.mem_cons.mpr (Or.inl (List.mem_singleton.mp h)))
theorem chIwsX10_isOpen_1 : ∀ w ∈ ([.methodLink RX10 219 yX10_cells, .instanceMethod yX10_cells, .selects RX10 yX10_cells yX10_cells, .initialized RX10, .code yX10_cells cX10_cells 5 (some .int), .fieldLink RX10 7 "WatchedProgramsModel" "level" "[I", .methodLink RX10 198 yX10_isWithin, .static yX10_isWithin, .code yX10_isWithin cX10_isWithin 2 (some .boolean), .methodLink RX10 84 yX10_in, .static yX10_in, .code yX10_in cX10_in 3 (some .boolean)] : List Cond), w ∈ wsX10_isOpen := fun _ h => (List.mem_cons_of_mem _ (List.mem_append_left _ h))
theorem chIwsX10_isOpen_2 : ∀ w ∈ (wsX100 : List Cond), w ∈ wsX10_isOpen := fun _ h => (List.mem_cons_of_mem _ (List.mem_append_right _ h))
def chwsX10_isOpen : Nat → List Cond
  | 0 => [.code yX10_isOpen cX10_isOpen 3 (some .boolean)]
  | 1 => [.methodLink RX10 219 yX10_cells, .instanceMethod yX10_cells, .selects RX10 yX10_cells yX10_cells, .initialized RX10, .code yX10_cells cX10_cells 5 (some .int), .fieldLink RX10 7 "WatchedProgramsModel" "level" "[I", .methodLink RX10 198 yX10_isWithin, .static yX10_isWithin, .code yX10_isWithin cX10_isWithin 2 (some .boolean), .methodLink RX10 84 yX10_in, .static yX10_in, .code yX10_in cX10_in 3 (some .boolean)]
  | 2 => wsX100
  | _ => []
theorem chwsX10_isOpen_in : ∀ (j : Nat) (w : Cond), w ∈ chwsX10_isOpen j → w ∈ wsX10_isOpen
  | 0, w, h => chIwsX10_isOpen_0 w h
  | 1, w, h => chIwsX10_isOpen_1 w h
  | 2, w, h => chIwsX10_isOpen_2 w h
  | _ + 3, _, h => absurd h List.not_mem_nil
set_option maxRecDepth 20000 in
theorem ggX10_isOpen_X10_cells : GoodIn wsX10_isOpen wsX10_cells := goodIn_r2 chwsX10_isOpen chwsX10_isOpen_in _ [(1, 4), (1, 5), (1, 6), (1, 7), (1, 3), (1, 8), (2, 0), (2, 1), (2, 2), (2, 3), (2, 4), (2, 5), (2, 6), (2, 7), (2, 8), (2, 9), (2, 10), (2, 11), (2, 12), (2, 13), (2, 14), (2, 15), (2, 16), (2, 17), (2, 18), (2, 19), (2, 20), (2, 21), (2, 22), (2, 23), (2, 24), (2, 25), (2, 26), (2, 27), (2, 28), (2, 29), (2, 30), (2, 31), (2, 32), (2, 33), (2, 34), (2, 35), (2, 36), (2, 37), (2, 38), (2, 39)] rfl (by decide +kernel)
set_option maxRecDepth 20000 in
theorem gX10_isOpen_X10_cells : GoodIn wsX10_isOpen (wsV RX10 219 RX10 yX10_cells wsX10_cells) := goodIn_app (goodIn_r2 chwsX10_isOpen chwsX10_isOpen_in _ [(1, 0), (1, 1), (1, 2), (1, 3)] rfl (by decide +kernel)) ggX10_isOpen_X10_cells
set_option maxRecDepth 20000 in
theorem ggX10_isOpen_X10_in : GoodIn wsX10_isOpen wsX10_in := goodIn_r2 chwsX10_isOpen chwsX10_isOpen_in _ [(1, 11)] rfl (by decide +kernel)
set_option maxRecDepth 20000 in
theorem gX10_isOpen_X10_in : GoodIn wsX10_isOpen (va_wsS RX10 84 yX10_in wsX10_in) := goodIn_app (goodIn_r2 chwsX10_isOpen chwsX10_isOpen_in _ [(1, 9), (1, 10), (1, 3)] rfl (by decide +kernel)) ggX10_isOpen_X10_in
theorem dX10_isOpen_0 : decode cX10_isOpen 0 = .ok (.iload_n 2, 1) := by decide +kernel
theorem dX10_isOpen_1 : decode cX10_isOpen 1 = .ok (.iconst 0, 1) := by decide +kernel
theorem dX10_isOpen_2 : decode cX10_isOpen 2 = .ok (.iconst 1, 1) := by decide +kernel
theorem dX10_isOpen_3 : decode cX10_isOpen 3 = .ok (.iconst 2, 1) := by decide +kernel
theorem dX10_isOpen_4 : decode cX10_isOpen 4 = .ok (.aload_n 0, 1) := by decide +kernel
theorem dX10_isOpen_5 : decode cX10_isOpen 5 = .ok (.iload_n 1, 1) := by decide +kernel
theorem dX10_isOpen_6 : decode cX10_isOpen 6 = .ok (.iconst 1, 1) := by decide +kernel
theorem dX10_isOpen_7 : decode cX10_isOpen 7 = .ok (.invokevirtual 219, 3) := by decide +kernel
theorem dX10_isOpen_10 : decode cX10_isOpen 10 = .ok (.imul, 1) := by decide +kernel
theorem dX10_isOpen_11 : decode cX10_isOpen 11 = .ok (.ishl, 1) := by decide +kernel
theorem dX10_isOpen_12 : decode cX10_isOpen 12 = .ok (.iconst 1, 1) := by decide +kernel
theorem dX10_isOpen_13 : decode cX10_isOpen 13 = .ok (.isub, 1) := by decide +kernel
theorem dX10_isOpen_14 : decode cX10_isOpen 14 = .ok (.invokestatic 84, 3) := by decide +kernel
theorem dX10_isOpen_17 : decode cX10_isOpen 17 = .ok (.ireturn, 1) := by decide +kernel
theorem chIwsX10_heaps_0 : ∀ w ∈ ([.code yX10_heaps cX10_heaps 7 (some .int)] : List Cond), w ∈ wsX10_heaps := fun _ h => (List.mem_cons.mpr (Or.inl (List.mem_singleton.mp h)))
theorem chIwsX10_heaps_1 : ∀ w ∈ (wsX10_heaps_r1 : List Cond), w ∈ wsX10_heaps := fun _ h => (List.mem_cons_of_mem _ (List.mem_append_left _ (List.mem_append_left _ h)))
theorem chIwsX10_heaps_2 : ∀ w ∈ (wsX10_heaps_r2 : List Cond), w ∈ wsX10_heaps := fun _ h => (List.mem_cons_of_mem _ (List.mem_append_left _ (List.mem_append_right _ (List.mem_append_left _ h))))
theorem chIwsX10_heaps_3 : ∀ w ∈ (wsX10_heaps_r3 : List Cond), w ∈ wsX10_heaps := fun _ h => (List.mem_cons_of_mem _ (List.mem_append_left _ (List.mem_append_right _ (List.mem_append_right _ (List.mem_append_left _ h)))))
theorem chIwsX10_heaps_4 : ∀ w ∈ (wsX10_heaps_r4 : List Cond), w ∈ wsX10_heaps := fun _ h => (List.mem_cons_of_mem _ (List.mem_append_left _ (List.mem_append_right _ (List.mem_append_right _ (List.mem_append_right _ h)))))
theorem chIwsX10_heaps_5 : ∀ w ∈ (wsX100 : List Cond), w ∈ wsX10_heaps := fun _ h => (List.mem_cons_of_mem _ (List.mem_append_right _ h))
def chwsX10_heaps : Nat → List Cond
  | 0 => [.code yX10_heaps cX10_heaps 7 (some .int)]
  | 1 => wsX10_heaps_r1
  | 2 => wsX10_heaps_r2
  | 3 => wsX10_heaps_r3
  | 4 => wsX10_heaps_r4
  | 5 => wsX100
  | _ => []
theorem chwsX10_heaps_in : ∀ (j : Nat) (w : Cond), w ∈ chwsX10_heaps j → w ∈ wsX10_heaps
  | 0, w, h => chIwsX10_heaps_0 w h
  | 1, w, h => chIwsX10_heaps_1 w h
  | 2, w, h => chIwsX10_heaps_2 w h
  | 3, w, h => chIwsX10_heaps_3 w h
  | 4, w, h => chIwsX10_heaps_4 w h
  | 5, w, h => chIwsX10_heaps_5 w h
  | _ + 6, _, h => absurd h List.not_mem_nil
set_option maxRecDepth 20000 in
theorem ggX10_heaps_X10_isAsked : GoodIn wsX10_heaps wsX10_isAsked := goodIn_r2 chwsX10_heaps chwsX10_heaps_in _ [(1, 10), (1, 11), (1, 12), (1, 9), (1, 13)] rfl (by decide +kernel)
set_option maxRecDepth 20000 in
theorem gX10_heaps_X10_isAsked : GoodIn wsX10_heaps (wsV RX10 239 RX10 yX10_isAsked wsX10_isAsked) := goodIn_app (goodIn_r2 chwsX10_heaps chwsX10_heaps_in _ [(1, 6), (1, 7), (1, 8), (1, 9)] rfl (by decide +kernel)) ggX10_heaps_X10_isAsked
set_option maxRecDepth 20000 in
theorem ggX10_heaps_X10_isOpen : GoodIn wsX10_heaps wsX10_isOpen := goodIn_r2 chwsX10_heaps chwsX10_heaps_in _ [(1, 17), (1, 18), (1, 19), (1, 20), (1, 9), (1, 21), (1, 22), (1, 23), (2, 0), (2, 1), (1, 11), (1, 12), (1, 13), (5, 0), (5, 1), (5, 2), (5, 3), (5, 4), (5, 5), (5, 6), (5, 7), (5, 8), (5, 9), (5, 10), (5, 11), (5, 12), (5, 13), (5, 14), (5, 15), (5, 16), (5, 17), (5, 18), (5, 19), (5, 20), (5, 21), (5, 22), (5, 23), (5, 24), (5, 25), (5, 26), (5, 27), (5, 28), (5, 29), (5, 30), (5, 31), (5, 32), (5, 33), (5, 34), (5, 35), (5, 36), (5, 37), (5, 38), (5, 39)] rfl (by decide +kernel)
set_option maxRecDepth 20000 in
theorem gX10_heaps_X10_isOpen : GoodIn wsX10_heaps (wsV RX10 242 RX10 yX10_isOpen wsX10_isOpen) := goodIn_app (goodIn_r2 chwsX10_heaps chwsX10_heaps_in _ [(1, 14), (1, 15), (1, 16), (1, 9)] rfl (by decide +kernel)) ggX10_heaps_X10_isOpen
set_option maxRecDepth 20000 in
theorem ggX10_heaps_X10_in : GoodIn wsX10_heaps wsX10_in := goodIn_r2 chwsX10_heaps chwsX10_heaps_in _ [(1, 13)] rfl (by decide +kernel)
set_option maxRecDepth 20000 in
theorem gX10_heaps_X10_in : GoodIn wsX10_heaps (va_wsS RX10 84 yX10_in wsX10_in) := goodIn_app (goodIn_r2 chwsX10_heaps chwsX10_heaps_in _ [(1, 11), (1, 12), (1, 9)] rfl (by decide +kernel)) ggX10_heaps_X10_in
set_option maxRecDepth 20000 in
theorem ggX10_heaps_X10_learns : GoodIn wsX10_heaps wsX10_learns := goodIn_r2 chwsX10_heaps chwsX10_heaps_in _ [(2, 5), (1, 3), (2, 6), (2, 7), (2, 8), (1, 18), (1, 19), (1, 20), (1, 9), (1, 21), (1, 22), (1, 23), (2, 0), (2, 1), (2, 9), (2, 10), (2, 11), (2, 12), (1, 2), (2, 13), (2, 14), (2, 15), (2, 16), (2, 17), (2, 18), (2, 19), (2, 20), (2, 21), (2, 22), (2, 23), (3, 0), (3, 1), (3, 2), (3, 3), (3, 4), (1, 1), (3, 5), (3, 6), (3, 7), (3, 8), (3, 9), (3, 10), (3, 11), (3, 12), (3, 13), (3, 14), (3, 15), (3, 16), (3, 17), (3, 18), (3, 19), (3, 20), (3, 21), (3, 22), (3, 23), (4, 0), (4, 1), (4, 2), (4, 3), (4, 4), (4, 5), (4, 6), (4, 7), (4, 8), (4, 9), (1, 4), (1, 5), (4, 10), (4, 11), (4, 12), (4, 13), (5, 0), (5, 1), (5, 2), (5, 3), (5, 4), (5, 5), (5, 6), (5, 7), (5, 8), (5, 9), (5, 10), (5, 11), (5, 12), (5, 13), (5, 14), (5, 15), (5, 16), (5, 17), (5, 18), (5, 19), (5, 20), (5, 21), (5, 22), (5, 23), (5, 24), (5, 25), (5, 26), (5, 27), (5, 28), (5, 29), (5, 30), (5, 31), (5, 32), (5, 33), (5, 34), (5, 35), (5, 36), (5, 37), (5, 38), (5, 39)] rfl (by decide +kernel)
set_option maxRecDepth 20000 in
theorem gX10_heaps_X10_learns : GoodIn wsX10_heaps (wsV RX10 245 RX10 yX10_learns wsX10_learns) := goodIn_app (goodIn_r2 chwsX10_heaps chwsX10_heaps_in _ [(2, 2), (2, 3), (2, 4), (1, 9)] rfl (by decide +kernel)) ggX10_heaps_X10_learns
theorem dX10_heaps_0 : decode cX10_heaps 0 = .ok (.aload_n 0, 1) := by decide +kernel
theorem dX10_heaps_1 : decode cX10_heaps 1 = .ok (.iconst 0, 1) := by decide +kernel
theorem dX10_heaps_2 : decode cX10_heaps 2 = .ok (.putfield 80, 3) := by decide +kernel
theorem dX10_heaps_5 : decode cX10_heaps 5 = .ok (.aload_n 0, 1) := by decide +kernel
theorem dX10_heaps_6 : decode cX10_heaps 6 = .ok (.iload_n 1, 1) := by decide +kernel
theorem dX10_heaps_7 : decode cX10_heaps 7 = .ok (.iload_n 2, 1) := by decide +kernel
theorem dX10_heaps_8 : decode cX10_heaps 8 = .ok (.invokevirtual 239, 3) := by decide +kernel
theorem dX10_heaps_11 : decode cX10_heaps 11 = .ok (.ifCond .eq 22, 3) := by decide +kernel
theorem dX10_heaps_14 : decode cX10_heaps 14 = .ok (.aload_n 0, 1) := by decide +kernel
theorem dX10_heaps_15 : decode cX10_heaps 15 = .ok (.iload_n 1, 1) := by decide +kernel
theorem dX10_heaps_16 : decode cX10_heaps 16 = .ok (.iload_n 3, 1) := by decide +kernel
theorem dX10_heaps_17 : decode cX10_heaps 17 = .ok (.invokevirtual 242, 3) := by decide +kernel
theorem dX10_heaps_20 : decode cX10_heaps 20 = .ok (.ifCond .eq 13, 3) := by decide +kernel
theorem dX10_heaps_23 : decode cX10_heaps 23 = .ok (.iload 4, 2) := by decide +kernel
theorem dX10_heaps_25 : decode cX10_heaps 25 = .ok (.iconst 0, 1) := by decide +kernel
theorem dX10_heaps_26 : decode cX10_heaps 26 = .ok (.iconst 1, 1) := by decide +kernel
theorem dX10_heaps_27 : decode cX10_heaps 27 = .ok (.invokestatic 84, 3) := by decide +kernel
theorem dX10_heaps_30 : decode cX10_heaps 30 = .ok (.ifCond .ne 5, 3) := by decide +kernel
theorem dX10_heaps_33 : decode cX10_heaps 33 = .ok (.iconst (-1), 1) := by decide +kernel
theorem dX10_heaps_34 : decode cX10_heaps 34 = .ok (.ireturn, 1) := by decide +kernel
theorem dX10_heaps_35 : decode cX10_heaps 35 = .ok (.aload_n 0, 1) := by decide +kernel
theorem dX10_heaps_36 : decode cX10_heaps 36 = .ok (.iconst 0, 1) := by decide +kernel
theorem dX10_heaps_37 : decode cX10_heaps 37 = .ok (.putfield 177, 3) := by decide +kernel
theorem dX10_heaps_40 : decode cX10_heaps 40 = .ok (.aload_n 0, 1) := by decide +kernel
theorem dX10_heaps_41 : decode cX10_heaps 41 = .ok (.iload_n 1, 1) := by decide +kernel
theorem dX10_heaps_42 : decode cX10_heaps 42 = .ok (.iload_n 2, 1) := by decide +kernel
theorem dX10_heaps_43 : decode cX10_heaps 43 = .ok (.iload_n 3, 1) := by decide +kernel
theorem dX10_heaps_44 : decode cX10_heaps 44 = .ok (.iconst (-1), 1) := by decide +kernel
theorem dX10_heaps_45 : decode cX10_heaps 45 = .ok (.invokevirtual 245, 3) := by decide +kernel
theorem dX10_heaps_48 : decode cX10_heaps 48 = .ok (.iload 4, 2) := by decide +kernel
theorem dX10_heaps_50 : decode cX10_heaps 50 = .ok (.ifCond .ne 8, 3) := by decide +kernel
theorem dX10_heaps_53 : decode cX10_heaps 53 = .ok (.aload_n 0, 1) := by decide +kernel
theorem dX10_heaps_54 : decode cX10_heaps 54 = .ok (.getfield 216, 3) := by decide +kernel
theorem dX10_heaps_57 : decode cX10_heaps 57 = .ok (.ireturn, 1) := by decide +kernel
theorem dX10_heaps_58 : decode cX10_heaps 58 = .ok (.iconst 0, 1) := by decide +kernel
theorem dX10_heaps_59 : decode cX10_heaps 59 = .ok (.istore 5, 2) := by decide +kernel
theorem dX10_heaps_61 : decode cX10_heaps 61 = .ok (.iconst 0, 1) := by decide +kernel
theorem dX10_heaps_62 : decode cX10_heaps 62 = .ok (.istore 6, 2) := by decide +kernel
theorem dX10_heaps_64 : decode cX10_heaps 64 = .ok (.iload 6, 2) := by decide +kernel
theorem dX10_heaps_66 : decode cX10_heaps 66 = .ok (.aload_n 0, 1) := by decide +kernel
theorem dX10_heaps_67 : decode cX10_heaps 67 = .ok (.getfield 210, 3) := by decide +kernel
theorem dX10_heaps_70 : decode cX10_heaps 70 = .ok (.if_icmp .ge 47, 3) := by decide +kernel
theorem dX10_heaps_73 : decode cX10_heaps 73 = .ok (.aload_n 0, 1) := by decide +kernel
theorem dX10_heaps_74 : decode cX10_heaps 74 = .ok (.getfield 62, 3) := by decide +kernel
theorem dX10_heaps_77 : decode cX10_heaps 77 = .ok (.iload 6, 2) := by decide +kernel
theorem dX10_heaps_79 : decode cX10_heaps 79 = .ok (.iaload, 1) := by decide +kernel
theorem dX10_heaps_80 : decode cX10_heaps 80 = .ok (.iload 6, 2) := by decide +kernel
theorem dX10_heaps_82 : decode cX10_heaps 82 = .ok (.if_icmp .ne 25, 3) := by decide +kernel
theorem dX10_heaps_85 : decode cX10_heaps 85 = .ok (.aload_n 0, 1) := by decide +kernel
theorem dX10_heaps_86 : decode cX10_heaps 86 = .ok (.getfield 65, 3) := by decide +kernel
theorem dX10_heaps_89 : decode cX10_heaps 89 = .ok (.iload 6, 2) := by decide +kernel
theorem dX10_heaps_91 : decode cX10_heaps 91 = .ok (.iaload, 1) := by decide +kernel
theorem dX10_heaps_92 : decode cX10_heaps 92 = .ok (.iload 5, 2) := by decide +kernel
theorem dX10_heaps_94 : decode cX10_heaps 94 = .ok (.if_icmp .le 13, 3) := by decide +kernel
theorem dX10_heaps_97 : decode cX10_heaps 97 = .ok (.aload_n 0, 1) := by decide +kernel
theorem dX10_heaps_98 : decode cX10_heaps 98 = .ok (.getfield 65, 3) := by decide +kernel
theorem dX10_heaps_101 : decode cX10_heaps 101 = .ok (.iload 6, 2) := by decide +kernel
theorem dX10_heaps_103 : decode cX10_heaps 103 = .ok (.iaload, 1) := by decide +kernel
theorem dX10_heaps_104 : decode cX10_heaps 104 = .ok (.goto 5, 3) := by decide +kernel
theorem dX10_heaps_107 : decode cX10_heaps 107 = .ok (.iload 5, 2) := by decide +kernel
theorem dX10_heaps_109 : decode cX10_heaps 109 = .ok (.istore 5, 2) := by decide +kernel
theorem dX10_heaps_111 : decode cX10_heaps 111 = .ok (.iinc 6 1, 3) := by decide +kernel
theorem dX10_heaps_114 : decode cX10_heaps 114 = .ok (.goto (-50), 3) := by decide +kernel
theorem dX10_heaps_117 : decode cX10_heaps 117 = .ok (.iload 5, 2) := by decide +kernel
theorem dX10_heaps_119 : decode cX10_heaps 119 = .ok (.ireturn, 1) := by decide +kernel
theorem chIwsX10_heap_0 : ∀ w ∈ ([.code yX10_heap cX10_heap 6 (some .int)] : List Cond), w ∈ wsX10_heap := fun _ h => (List.mem_cons.mpr (Or.inl (List.mem_singleton.mp h)))
theorem chIwsX10_heap_1 : ∀ w ∈ (wsX10_heap_r1 : List Cond), w ∈ wsX10_heap := fun _ h => (List.mem_cons_of_mem _ (List.mem_append_left _ (List.mem_append_left _ h)))
theorem chIwsX10_heap_2 : ∀ w ∈ (wsX10_heap_r2 : List Cond), w ∈ wsX10_heap := fun _ h => (List.mem_cons_of_mem _ (List.mem_append_left _ (List.mem_append_right _ (List.mem_append_left _ h))))
theorem chIwsX10_heap_3 : ∀ w ∈ (wsX10_heap_r3 : List Cond), w ∈ wsX10_heap := fun _ h => (List.mem_cons_of_mem _ (List.mem_append_left _ (List.mem_append_right _ (List.mem_append_right _ (List.mem_append_left _ h)))))
theorem chIwsX10_heap_4 : ∀ w ∈ (wsX10_heap_r4 : List Cond), w ∈ wsX10_heap := fun _ h => (List.mem_cons_of_mem _ (List.mem_append_left _ (List.mem_append_right _ (List.mem_append_right _ (List.mem_append_right _ h)))))
theorem chIwsX10_heap_5 : ∀ w ∈ (wsX100 : List Cond), w ∈ wsX10_heap := fun _ h => (List.mem_cons_of_mem _ (List.mem_append_right _ h))
def chwsX10_heap : Nat → List Cond
  | 0 => [.code yX10_heap cX10_heap 6 (some .int)]
  | 1 => wsX10_heap_r1
  | 2 => wsX10_heap_r2
  | 3 => wsX10_heap_r3
  | 4 => wsX10_heap_r4
  | 5 => wsX100
  | _ => []
theorem chwsX10_heap_in : ∀ (j : Nat) (w : Cond), w ∈ chwsX10_heap j → w ∈ wsX10_heap
  | 0, w, h => chIwsX10_heap_0 w h
  | 1, w, h => chIwsX10_heap_1 w h
  | 2, w, h => chIwsX10_heap_2 w h
  | 3, w, h => chIwsX10_heap_3 w h
  | 4, w, h => chIwsX10_heap_4 w h
  | 5, w, h => chIwsX10_heap_5 w h
  | _ + 6, _, h => absurd h List.not_mem_nil
set_option maxRecDepth 20000 in
theorem ggX10_heap_X10_isAsked : GoodIn wsX10_heap wsX10_isAsked := goodIn_r2 chwsX10_heap chwsX10_heap_in _ [(1, 8), (1, 9), (1, 10), (1, 7), (1, 11)] rfl (by decide +kernel)
set_option maxRecDepth 20000 in
theorem gX10_heap_X10_isAsked : GoodIn wsX10_heap (wsV RX10 239 RX10 yX10_isAsked wsX10_isAsked) := goodIn_app (goodIn_r2 chwsX10_heap chwsX10_heap_in _ [(1, 4), (1, 5), (1, 6), (1, 7)] rfl (by decide +kernel)) ggX10_heap_X10_isAsked
set_option maxRecDepth 20000 in
theorem ggX10_heap_X10_isOpen : GoodIn wsX10_heap wsX10_isOpen := goodIn_r2 chwsX10_heap chwsX10_heap_in _ [(1, 15), (1, 16), (1, 17), (1, 18), (1, 7), (1, 19), (1, 20), (1, 21), (1, 22), (1, 23), (1, 9), (1, 10), (1, 11), (5, 0), (5, 1), (5, 2), (5, 3), (5, 4), (5, 5), (5, 6), (5, 7), (5, 8), (5, 9), (5, 10), (5, 11), (5, 12), (5, 13), (5, 14), (5, 15), (5, 16), (5, 17), (5, 18), (5, 19), (5, 20), (5, 21), (5, 22), (5, 23), (5, 24), (5, 25), (5, 26), (5, 27), (5, 28), (5, 29), (5, 30), (5, 31), (5, 32), (5, 33), (5, 34), (5, 35), (5, 36), (5, 37), (5, 38), (5, 39)] rfl (by decide +kernel)
set_option maxRecDepth 20000 in
theorem gX10_heap_X10_isOpen : GoodIn wsX10_heap (wsV RX10 242 RX10 yX10_isOpen wsX10_isOpen) := goodIn_app (goodIn_r2 chwsX10_heap chwsX10_heap_in _ [(1, 12), (1, 13), (1, 14), (1, 7)] rfl (by decide +kernel)) ggX10_heap_X10_isOpen
set_option maxRecDepth 20000 in
theorem ggX10_heap_X10_cells : GoodIn wsX10_heap wsX10_cells := goodIn_r2 chwsX10_heap chwsX10_heap_in _ [(1, 19), (1, 20), (1, 21), (1, 22), (1, 7), (1, 23), (5, 0), (5, 1), (5, 2), (5, 3), (5, 4), (5, 5), (5, 6), (5, 7), (5, 8), (5, 9), (5, 10), (5, 11), (5, 12), (5, 13), (5, 14), (5, 15), (5, 16), (5, 17), (5, 18), (5, 19), (5, 20), (5, 21), (5, 22), (5, 23), (5, 24), (5, 25), (5, 26), (5, 27), (5, 28), (5, 29), (5, 30), (5, 31), (5, 32), (5, 33), (5, 34), (5, 35), (5, 36), (5, 37), (5, 38), (5, 39)] rfl (by decide +kernel)
set_option maxRecDepth 20000 in
theorem gX10_heap_X10_cells : GoodIn wsX10_heap (wsV RX10 219 RX10 yX10_cells wsX10_cells) := goodIn_app (goodIn_r2 chwsX10_heap chwsX10_heap_in _ [(1, 16), (1, 17), (1, 18), (1, 7)] rfl (by decide +kernel)) ggX10_heap_X10_cells
set_option maxRecDepth 20000 in
theorem ggX10_heap_X10_in : GoodIn wsX10_heap wsX10_in := goodIn_r2 chwsX10_heap chwsX10_heap_in _ [(1, 11)] rfl (by decide +kernel)
set_option maxRecDepth 20000 in
theorem gX10_heap_X10_in : GoodIn wsX10_heap (va_wsS RX10 84 yX10_in wsX10_in) := goodIn_app (goodIn_r2 chwsX10_heap chwsX10_heap_in _ [(1, 9), (1, 10), (1, 7)] rfl (by decide +kernel)) ggX10_heap_X10_in
set_option maxRecDepth 20000 in
theorem ggX10_heap_X10_learns : GoodIn wsX10_heap wsX10_learns := goodIn_r2 chwsX10_heap chwsX10_heap_in _ [(2, 3), (2, 4), (2, 5), (2, 6), (2, 7), (1, 16), (1, 17), (1, 18), (1, 7), (1, 19), (1, 20), (1, 21), (1, 22), (1, 23), (2, 8), (2, 9), (2, 10), (2, 11), (2, 12), (2, 13), (2, 14), (2, 15), (2, 16), (2, 17), (2, 18), (2, 19), (2, 20), (2, 21), (2, 22), (2, 23), (3, 0), (3, 1), (3, 2), (3, 3), (3, 4), (1, 1), (3, 5), (3, 6), (3, 7), (3, 8), (3, 9), (3, 10), (3, 11), (3, 12), (3, 13), (3, 14), (3, 15), (3, 16), (3, 17), (3, 18), (3, 19), (3, 20), (3, 21), (3, 22), (3, 23), (4, 0), (4, 1), (4, 2), (4, 3), (4, 4), (4, 5), (4, 6), (4, 7), (4, 8), (4, 9), (1, 3), (1, 2), (4, 10), (4, 11), (4, 12), (4, 13), (5, 0), (5, 1), (5, 2), (5, 3), (5, 4), (5, 5), (5, 6), (5, 7), (5, 8), (5, 9), (5, 10), (5, 11), (5, 12), (5, 13), (5, 14), (5, 15), (5, 16), (5, 17), (5, 18), (5, 19), (5, 20), (5, 21), (5, 22), (5, 23), (5, 24), (5, 25), (5, 26), (5, 27), (5, 28), (5, 29), (5, 30), (5, 31), (5, 32), (5, 33), (5, 34), (5, 35), (5, 36), (5, 37), (5, 38), (5, 39)] rfl (by decide +kernel)
set_option maxRecDepth 20000 in
theorem gX10_heap_X10_learns : GoodIn wsX10_heap (wsV RX10 245 RX10 yX10_learns wsX10_learns) := goodIn_app (goodIn_r2 chwsX10_heap chwsX10_heap_in _ [(2, 0), (2, 1), (2, 2), (1, 7)] rfl (by decide +kernel)) ggX10_heap_X10_learns
theorem dX10_heap_0 : decode cX10_heap 0 = .ok (.aload_n 0, 1) := by decide +kernel
theorem dX10_heap_1 : decode cX10_heap 1 = .ok (.iconst 0, 1) := by decide +kernel
theorem dX10_heap_2 : decode cX10_heap 2 = .ok (.putfield 80, 3) := by decide +kernel
theorem dX10_heap_5 : decode cX10_heap 5 = .ok (.aload_n 0, 1) := by decide +kernel
theorem dX10_heap_6 : decode cX10_heap 6 = .ok (.iload_n 1, 1) := by decide +kernel
theorem dX10_heap_7 : decode cX10_heap 7 = .ok (.iload_n 2, 1) := by decide +kernel
theorem dX10_heap_8 : decode cX10_heap 8 = .ok (.invokevirtual 239, 3) := by decide +kernel
theorem dX10_heap_11 : decode cX10_heap 11 = .ok (.ifCond .eq 43, 3) := by decide +kernel
theorem dX10_heap_14 : decode cX10_heap 14 = .ok (.aload_n 0, 1) := by decide +kernel
theorem dX10_heap_15 : decode cX10_heap 15 = .ok (.iload_n 1, 1) := by decide +kernel
theorem dX10_heap_16 : decode cX10_heap 16 = .ok (.iload_n 3, 1) := by decide +kernel
theorem dX10_heap_17 : decode cX10_heap 17 = .ok (.invokevirtual 242, 3) := by decide +kernel
theorem dX10_heap_20 : decode cX10_heap 20 = .ok (.ifCond .eq 34, 3) := by decide +kernel
theorem dX10_heap_23 : decode cX10_heap 23 = .ok (.iload 4, 2) := by decide +kernel
theorem dX10_heap_25 : decode cX10_heap 25 = .ok (.iconst 0, 1) := by decide +kernel
theorem dX10_heap_26 : decode cX10_heap 26 = .ok (.iconst 1, 1) := by decide +kernel
theorem dX10_heap_27 : decode cX10_heap 27 = .ok (.iconst 2, 1) := by decide +kernel
theorem dX10_heap_28 : decode cX10_heap 28 = .ok (.aload_n 0, 1) := by decide +kernel
theorem dX10_heap_29 : decode cX10_heap 29 = .ok (.iload_n 1, 1) := by decide +kernel
theorem dX10_heap_30 : decode cX10_heap 30 = .ok (.iconst 0, 1) := by decide +kernel
theorem dX10_heap_31 : decode cX10_heap 31 = .ok (.invokevirtual 219, 3) := by decide +kernel
theorem dX10_heap_34 : decode cX10_heap 34 = .ok (.imul, 1) := by decide +kernel
theorem dX10_heap_35 : decode cX10_heap 35 = .ok (.ishl, 1) := by decide +kernel
theorem dX10_heap_36 : decode cX10_heap 36 = .ok (.iconst 1, 1) := by decide +kernel
theorem dX10_heap_37 : decode cX10_heap 37 = .ok (.isub, 1) := by decide +kernel
theorem dX10_heap_38 : decode cX10_heap 38 = .ok (.invokestatic 84, 3) := by decide +kernel
theorem dX10_heap_41 : decode cX10_heap 41 = .ok (.ifCond .eq 13, 3) := by decide +kernel
theorem dX10_heap_44 : decode cX10_heap 44 = .ok (.iload 5, 2) := by decide +kernel
theorem dX10_heap_46 : decode cX10_heap 46 = .ok (.iconst 0, 1) := by decide +kernel
theorem dX10_heap_47 : decode cX10_heap 47 = .ok (.iconst 1, 1) := by decide +kernel
theorem dX10_heap_48 : decode cX10_heap 48 = .ok (.invokestatic 84, 3) := by decide +kernel
theorem dX10_heap_51 : decode cX10_heap 51 = .ok (.ifCond .ne 5, 3) := by decide +kernel
theorem dX10_heap_54 : decode cX10_heap 54 = .ok (.iconst (-1), 1) := by decide +kernel
theorem dX10_heap_55 : decode cX10_heap 55 = .ok (.ireturn, 1) := by decide +kernel
theorem dX10_heap_56 : decode cX10_heap 56 = .ok (.aload_n 0, 1) := by decide +kernel
theorem dX10_heap_57 : decode cX10_heap 57 = .ok (.iconst 0, 1) := by decide +kernel
theorem dX10_heap_58 : decode cX10_heap 58 = .ok (.putfield 177, 3) := by decide +kernel
theorem dX10_heap_61 : decode cX10_heap 61 = .ok (.aload_n 0, 1) := by decide +kernel
theorem dX10_heap_62 : decode cX10_heap 62 = .ok (.iload_n 1, 1) := by decide +kernel
theorem dX10_heap_63 : decode cX10_heap 63 = .ok (.iload_n 2, 1) := by decide +kernel
theorem dX10_heap_64 : decode cX10_heap 64 = .ok (.iload_n 3, 1) := by decide +kernel
theorem dX10_heap_65 : decode cX10_heap 65 = .ok (.iconst (-1), 1) := by decide +kernel
theorem dX10_heap_66 : decode cX10_heap 66 = .ok (.invokevirtual 245, 3) := by decide +kernel
theorem dX10_heap_69 : decode cX10_heap 69 = .ok (.iload 5, 2) := by decide +kernel
theorem dX10_heap_71 : decode cX10_heap 71 = .ok (.ifCond .ne 18, 3) := by decide +kernel
theorem dX10_heap_74 : decode cX10_heap 74 = .ok (.aload_n 0, 1) := by decide +kernel
theorem dX10_heap_75 : decode cX10_heap 75 = .ok (.getfield 65, 3) := by decide +kernel
theorem dX10_heap_78 : decode cX10_heap 78 = .ok (.aload_n 0, 1) := by decide +kernel
theorem dX10_heap_79 : decode cX10_heap 79 = .ok (.getfield 62, 3) := by decide +kernel
theorem dX10_heap_82 : decode cX10_heap 82 = .ok (.iload 4, 2) := by decide +kernel
theorem dX10_heap_84 : decode cX10_heap 84 = .ok (.iaload, 1) := by decide +kernel
theorem dX10_heap_85 : decode cX10_heap 85 = .ok (.iaload, 1) := by decide +kernel
theorem dX10_heap_86 : decode cX10_heap 86 = .ok (.goto 10, 3) := by decide +kernel
theorem dX10_heap_89 : decode cX10_heap 89 = .ok (.aload_n 0, 1) := by decide +kernel
theorem dX10_heap_90 : decode cX10_heap 90 = .ok (.getfield 62, 3) := by decide +kernel
theorem dX10_heap_93 : decode cX10_heap 93 = .ok (.iload 4, 2) := by decide +kernel
theorem dX10_heap_95 : decode cX10_heap 95 = .ok (.iaload, 1) := by decide +kernel
theorem dX10_heap_96 : decode cX10_heap 96 = .ok (.ireturn, 1) := by decide +kernel
theorem chIwsX10_pairOf_0 : ∀ w ∈ ([.code yX10_pairOf cX10_pairOf 5 (some .int)] : List Cond), w ∈ wsX10_pairOf := fun _ h => (List.mem_cons.mpr (Or.inl (List.mem_singleton.mp h)))
theorem chIwsX10_pairOf_1 : ∀ w ∈ (wsX10_pairOf_r1 : List Cond), w ∈ wsX10_pairOf := fun _ h => (List.mem_cons_of_mem _ (List.mem_append_left _ (List.mem_append_left _ h)))
theorem chIwsX10_pairOf_2 : ∀ w ∈ (wsX10_pairOf_r2 : List Cond), w ∈ wsX10_pairOf := fun _ h => (List.mem_cons_of_mem _ (List.mem_append_left _ (List.mem_append_right _ (List.mem_append_left _ h))))
theorem chIwsX10_pairOf_3 : ∀ w ∈ (wsX10_pairOf_r3 : List Cond), w ∈ wsX10_pairOf := fun _ h => (List.mem_cons_of_mem _ (List.mem_append_left _ (List.mem_append_right _ (List.mem_append_right _ (List.mem_append_left _ h)))))
theorem chIwsX10_pairOf_4 : ∀ w ∈ (wsX10_pairOf_r4 : List Cond), w ∈ wsX10_pairOf := fun _ h => (List.mem_cons_of_mem _ (List.mem_append_left _ (List.mem_append_right _ (List.mem_append_right _ (List.mem_append_right _ h)))))
theorem chIwsX10_pairOf_5 : ∀ w ∈ (wsX100 : List Cond), w ∈ wsX10_pairOf := fun _ h => (List.mem_cons_of_mem _ (List.mem_append_right _ h))
def chwsX10_pairOf : Nat → List Cond
  | 0 => [.code yX10_pairOf cX10_pairOf 5 (some .int)]
  | 1 => wsX10_pairOf_r1
  | 2 => wsX10_pairOf_r2
  | 3 => wsX10_pairOf_r3
  | 4 => wsX10_pairOf_r4
  | 5 => wsX100
  | _ => []
theorem chwsX10_pairOf_in : ∀ (j : Nat) (w : Cond), w ∈ chwsX10_pairOf j → w ∈ wsX10_pairOf
  | 0, w, h => chIwsX10_pairOf_0 w h
  | 1, w, h => chIwsX10_pairOf_1 w h
  | 2, w, h => chIwsX10_pairOf_2 w h
  | 3, w, h => chIwsX10_pairOf_3 w h
  | 4, w, h => chIwsX10_pairOf_4 w h
  | 5, w, h => chIwsX10_pairOf_5 w h
  | _ + 6, _, h => absurd h List.not_mem_nil
set_option maxRecDepth 20000 in
theorem ggX10_pairOf_X10_cells : GoodIn wsX10_pairOf wsX10_cells := goodIn_r2 chwsX10_pairOf chwsX10_pairOf_in _ [(1, 5), (1, 6), (1, 7), (1, 8), (1, 4), (1, 9), (5, 0), (5, 1), (5, 2), (5, 3), (5, 4), (5, 5), (5, 6), (5, 7), (5, 8), (5, 9), (5, 10), (5, 11), (5, 12), (5, 13), (5, 14), (5, 15), (5, 16), (5, 17), (5, 18), (5, 19), (5, 20), (5, 21), (5, 22), (5, 23), (5, 24), (5, 25), (5, 26), (5, 27), (5, 28), (5, 29), (5, 30), (5, 31), (5, 32), (5, 33), (5, 34), (5, 35), (5, 36), (5, 37), (5, 38), (5, 39)] rfl (by decide +kernel)
set_option maxRecDepth 20000 in
theorem gX10_pairOf_X10_cells : GoodIn wsX10_pairOf (wsV RX10 219 RX10 yX10_cells wsX10_cells) := goodIn_app (goodIn_r2 chwsX10_pairOf chwsX10_pairOf_in _ [(1, 1), (1, 2), (1, 3), (1, 4)] rfl (by decide +kernel)) ggX10_pairOf_X10_cells
set_option maxRecDepth 20000 in
theorem ggX10_pairOf_X10_learns : GoodIn wsX10_pairOf wsX10_learns := goodIn_r2 chwsX10_pairOf chwsX10_pairOf_in _ [(1, 13), (1, 14), (1, 15), (1, 16), (1, 17), (1, 1), (1, 2), (1, 3), (1, 4), (1, 5), (1, 6), (1, 7), (1, 8), (1, 9), (1, 18), (1, 19), (1, 20), (1, 21), (1, 0), (1, 22), (1, 23), (2, 0), (2, 1), (2, 2), (2, 3), (2, 4), (2, 5), (2, 6), (2, 7), (2, 8), (2, 9), (2, 10), (2, 11), (2, 12), (2, 13), (2, 14), (2, 15), (2, 16), (2, 17), (2, 18), (2, 19), (2, 20), (2, 21), (2, 22), (2, 23), (3, 0), (3, 1), (3, 2), (3, 3), (3, 4), (3, 5), (3, 6), (3, 7), (3, 8), (3, 9), (3, 10), (3, 11), (3, 12), (3, 13), (3, 14), (3, 15), (3, 16), (3, 17), (3, 18), (3, 19), (3, 20), (3, 21), (3, 22), (3, 23), (4, 0), (4, 1), (5, 0), (5, 1), (5, 2), (5, 3), (5, 4), (5, 5), (5, 6), (5, 7), (5, 8), (5, 9), (5, 10), (5, 11), (5, 12), (5, 13), (5, 14), (5, 15), (5, 16), (5, 17), (5, 18), (5, 19), (5, 20), (5, 21), (5, 22), (5, 23), (5, 24), (5, 25), (5, 26), (5, 27), (5, 28), (5, 29), (5, 30), (5, 31), (5, 32), (5, 33), (5, 34), (5, 35), (5, 36), (5, 37), (5, 38), (5, 39)] rfl (by decide +kernel)
set_option maxRecDepth 20000 in
theorem gX10_pairOf_X10_learns : GoodIn wsX10_pairOf (wsV RX10 245 RX10 yX10_learns wsX10_learns) := goodIn_app (goodIn_r2 chwsX10_pairOf chwsX10_pairOf_in _ [(1, 10), (1, 11), (1, 12), (1, 4)] rfl (by decide +kernel)) ggX10_pairOf_X10_learns
theorem dX10_pairOf_0 : decode cX10_pairOf 0 = .ok (.iconst 1, 1) := by decide +kernel
theorem dX10_pairOf_1 : decode cX10_pairOf 1 = .ok (.iconst 2, 1) := by decide +kernel
theorem dX10_pairOf_2 : decode cX10_pairOf 2 = .ok (.aload_n 0, 1) := by decide +kernel
theorem dX10_pairOf_3 : decode cX10_pairOf 3 = .ok (.iload_n 1, 1) := by decide +kernel
theorem dX10_pairOf_4 : decode cX10_pairOf 4 = .ok (.iconst 1, 1) := by decide +kernel
theorem dX10_pairOf_5 : decode cX10_pairOf 5 = .ok (.invokevirtual 219, 3) := by decide +kernel
theorem dX10_pairOf_8 : decode cX10_pairOf 8 = .ok (.imul, 1) := by decide +kernel
theorem dX10_pairOf_9 : decode cX10_pairOf 9 = .ok (.ishl, 1) := by decide +kernel
theorem dX10_pairOf_10 : decode cX10_pairOf 10 = .ok (.istore_n 3, 1) := by decide +kernel
theorem dX10_pairOf_11 : decode cX10_pairOf 11 = .ok (.iconst 0, 1) := by decide +kernel
theorem dX10_pairOf_12 : decode cX10_pairOf 12 = .ok (.istore 4, 2) := by decide +kernel
theorem dX10_pairOf_14 : decode cX10_pairOf 14 = .ok (.iload 4, 2) := by decide +kernel
theorem dX10_pairOf_16 : decode cX10_pairOf 16 = .ok (.iload_n 3, 1) := by decide +kernel
theorem dX10_pairOf_17 : decode cX10_pairOf 17 = .ok (.if_icmp .ge 29, 3) := by decide +kernel
theorem dX10_pairOf_20 : decode cX10_pairOf 20 = .ok (.aload_n 0, 1) := by decide +kernel
theorem dX10_pairOf_21 : decode cX10_pairOf 21 = .ok (.iload_n 1, 1) := by decide +kernel
theorem dX10_pairOf_22 : decode cX10_pairOf 22 = .ok (.iload_n 2, 1) := by decide +kernel
theorem dX10_pairOf_23 : decode cX10_pairOf 23 = .ok (.iload 4, 2) := by decide +kernel
theorem dX10_pairOf_25 : decode cX10_pairOf 25 = .ok (.iconst (-1), 1) := by decide +kernel
theorem dX10_pairOf_26 : decode cX10_pairOf 26 = .ok (.invokevirtual 245, 3) := by decide +kernel
theorem dX10_pairOf_29 : decode cX10_pairOf 29 = .ok (.aload_n 0, 1) := by decide +kernel
theorem dX10_pairOf_30 : decode cX10_pairOf 30 = .ok (.getfield 216, 3) := by decide +kernel
theorem dX10_pairOf_33 : decode cX10_pairOf 33 = .ok (.iconst 1, 1) := by decide +kernel
theorem dX10_pairOf_34 : decode cX10_pairOf 34 = .ok (.if_icmp .le 6, 3) := by decide +kernel
theorem dX10_pairOf_37 : decode cX10_pairOf 37 = .ok (.iload 4, 2) := by decide +kernel
theorem dX10_pairOf_39 : decode cX10_pairOf 39 = .ok (.ireturn, 1) := by decide +kernel
theorem dX10_pairOf_40 : decode cX10_pairOf 40 = .ok (.iinc 4 1, 3) := by decide +kernel
theorem dX10_pairOf_43 : decode cX10_pairOf 43 = .ok (.goto (-29), 3) := by decide +kernel
theorem dX10_pairOf_46 : decode cX10_pairOf 46 = .ok (.bipush (-9), 2) := by decide +kernel
theorem dX10_pairOf_48 : decode cX10_pairOf 48 = .ok (.ireturn, 1) := by decide +kernel
theorem chIwsX10_safe_0 : ∀ w ∈ ([.code yX10_safe cX10_safe 3 (some .int)] : List Cond), w ∈ wsX10_safe := fun _ h => (List.mem_cons.mpr (Or.inl (List.mem_singleton.mp h)))
theorem chIwsX10_safe_1 : ∀ w ∈ (wsX10_safe_r1 : List Cond), w ∈ wsX10_safe := fun _ h => (List.mem_cons_of_mem _ (List.mem_append_left _ (List.mem_append_left _ h)))
theorem chIwsX10_safe_2 : ∀ w ∈ (wsX10_safe_r2 : List Cond), w ∈ wsX10_safe := fun _ h => (List.mem_cons_of_mem _ (List.mem_append_left _ (List.mem_append_right _ (List.mem_append_left _ h))))
theorem chIwsX10_safe_3 : ∀ w ∈ (wsX10_safe_r3 : List Cond), w ∈ wsX10_safe := fun _ h => (List.mem_cons_of_mem _ (List.mem_append_left _ (List.mem_append_right _ (List.mem_append_right _ (List.mem_append_left _ h)))))
theorem chIwsX10_safe_4 : ∀ w ∈ (wsX10_safe_r4 : List Cond), w ∈ wsX10_safe := fun _ h => (List.mem_cons_of_mem _ (List.mem_append_left _ (List.mem_append_right _ (List.mem_append_right _ (List.mem_append_right _ h)))))
theorem chIwsX10_safe_5 : ∀ w ∈ (wsX100 : List Cond), w ∈ wsX10_safe := fun _ h => (List.mem_cons_of_mem _ (List.mem_append_right _ h))
def chwsX10_safe : Nat → List Cond
  | 0 => [.code yX10_safe cX10_safe 3 (some .int)]
  | 1 => wsX10_safe_r1
  | 2 => wsX10_safe_r2
  | 3 => wsX10_safe_r3
  | 4 => wsX10_safe_r4
  | 5 => wsX100
  | _ => []
theorem chwsX10_safe_in : ∀ (j : Nat) (w : Cond), w ∈ chwsX10_safe j → w ∈ wsX10_safe
  | 0, w, h => chIwsX10_safe_0 w h
  | 1, w, h => chIwsX10_safe_1 w h
  | 2, w, h => chIwsX10_safe_2 w h
  | 3, w, h => chIwsX10_safe_3 w h
  | 4, w, h => chIwsX10_safe_4 w h
  | 5, w, h => chIwsX10_safe_5 w h
  | _ + 6, _, h => absurd h List.not_mem_nil
set_option maxRecDepth 20000 in
theorem ggX10_safe_X10_isAsked : GoodIn wsX10_safe wsX10_isAsked := goodIn_r2 chwsX10_safe chwsX10_safe_in _ [(1, 6), (1, 7), (1, 8), (1, 5), (1, 9)] rfl (by decide +kernel)
set_option maxRecDepth 20000 in
theorem gX10_safe_X10_isAsked : GoodIn wsX10_safe (wsV RX10 239 RX10 yX10_isAsked wsX10_isAsked) := goodIn_app (goodIn_r2 chwsX10_safe chwsX10_safe_in _ [(1, 2), (1, 3), (1, 4), (1, 5)] rfl (by decide +kernel)) ggX10_safe_X10_isAsked
set_option maxRecDepth 20000 in
theorem ggX10_safe_X10_pairOf : GoodIn wsX10_safe wsX10_pairOf := goodIn_r2 chwsX10_safe chwsX10_safe_in _ [(1, 13), (1, 14), (1, 15), (1, 16), (1, 17), (1, 5), (1, 18), (1, 19), (1, 20), (1, 21), (1, 22), (1, 23), (2, 0), (2, 1), (2, 2), (2, 3), (2, 4), (2, 5), (2, 6), (2, 7), (2, 8), (2, 9), (2, 10), (2, 11), (2, 12), (2, 13), (2, 14), (2, 15), (2, 16), (2, 17), (2, 18), (2, 19), (2, 20), (2, 21), (2, 22), (2, 23), (3, 0), (3, 1), (3, 2), (1, 1), (3, 3), (3, 4), (3, 5), (3, 6), (3, 7), (3, 8), (3, 9), (3, 10), (3, 11), (3, 12), (3, 13), (3, 14), (3, 15), (3, 16), (3, 17), (3, 18), (3, 19), (3, 20), (3, 21), (3, 22), (3, 23), (4, 0), (4, 1), (4, 2), (4, 3), (4, 4), (4, 5), (4, 6), (4, 7), (4, 8), (4, 9), (4, 10), (4, 11), (4, 12), (4, 13), (5, 0), (5, 1), (5, 2), (5, 3), (5, 4), (5, 5), (5, 6), (5, 7), (5, 8), (5, 9), (5, 10), (5, 11), (5, 12), (5, 13), (5, 14), (5, 15), (5, 16), (5, 17), (5, 18), (5, 19), (5, 20), (5, 21), (5, 22), (5, 23), (5, 24), (5, 25), (5, 26), (5, 27), (5, 28), (5, 29), (5, 30), (5, 31), (5, 32), (5, 33), (5, 34), (5, 35), (5, 36), (5, 37), (5, 38), (5, 39)] rfl (by decide +kernel)
set_option maxRecDepth 20000 in
theorem gX10_safe_X10_pairOf : GoodIn wsX10_safe (wsV RX10 249 RX10 yX10_pairOf wsX10_pairOf) := goodIn_app (goodIn_r2 chwsX10_safe chwsX10_safe_in _ [(1, 10), (1, 11), (1, 12), (1, 5)] rfl (by decide +kernel)) ggX10_safe_X10_pairOf
theorem dX10_safe_0 : decode cX10_safe 0 = .ok (.aload_n 0, 1) := by decide +kernel
theorem dX10_safe_1 : decode cX10_safe 1 = .ok (.iconst 0, 1) := by decide +kernel
theorem dX10_safe_2 : decode cX10_safe 2 = .ok (.putfield 80, 3) := by decide +kernel
theorem dX10_safe_5 : decode cX10_safe 5 = .ok (.aload_n 0, 1) := by decide +kernel
theorem dX10_safe_6 : decode cX10_safe 6 = .ok (.iload_n 1, 1) := by decide +kernel
theorem dX10_safe_7 : decode cX10_safe 7 = .ok (.iload_n 2, 1) := by decide +kernel
theorem dX10_safe_8 : decode cX10_safe 8 = .ok (.invokevirtual 239, 3) := by decide +kernel
theorem dX10_safe_11 : decode cX10_safe 11 = .ok (.ifCond .ne 5, 3) := by decide +kernel
theorem dX10_safe_14 : decode cX10_safe 14 = .ok (.iconst (-1), 1) := by decide +kernel
theorem dX10_safe_15 : decode cX10_safe 15 = .ok (.ireturn, 1) := by decide +kernel
theorem dX10_safe_16 : decode cX10_safe 16 = .ok (.aload_n 0, 1) := by decide +kernel
theorem dX10_safe_17 : decode cX10_safe 17 = .ok (.iconst 0, 1) := by decide +kernel
theorem dX10_safe_18 : decode cX10_safe 18 = .ok (.putfield 177, 3) := by decide +kernel
theorem dX10_safe_21 : decode cX10_safe 21 = .ok (.aload_n 0, 1) := by decide +kernel
theorem dX10_safe_22 : decode cX10_safe 22 = .ok (.iload_n 1, 1) := by decide +kernel
theorem dX10_safe_23 : decode cX10_safe 23 = .ok (.iload_n 2, 1) := by decide +kernel
theorem dX10_safe_24 : decode cX10_safe 24 = .ok (.invokevirtual 249, 3) := by decide +kernel
theorem dX10_safe_27 : decode cX10_safe 27 = .ok (.bipush (-9), 2) := by decide +kernel
theorem dX10_safe_29 : decode cX10_safe 29 = .ok (.if_icmp .ne 7, 3) := by decide +kernel
theorem dX10_safe_32 : decode cX10_safe 32 = .ok (.iconst 1, 1) := by decide +kernel
theorem dX10_safe_33 : decode cX10_safe 33 = .ok (.goto 4, 3) := by decide +kernel
theorem dX10_safe_36 : decode cX10_safe 36 = .ok (.iconst 0, 1) := by decide +kernel
theorem dX10_safe_37 : decode cX10_safe 37 = .ok (.ireturn, 1) := by decide +kernel
theorem chIwsX10_pair_0 : ∀ w ∈ ([.code yX10_pair cX10_pair 6 (some .int)] : List Cond), w ∈ wsX10_pair := fun _ h => (List.mem_cons.mpr (Or.inl (List.mem_singleton.mp h)))
theorem chIwsX10_pair_1 : ∀ w ∈ (wsX10_pair_r1 : List Cond), w ∈ wsX10_pair := fun _ h => (List.mem_cons_of_mem _ (List.mem_append_left _ (List.mem_append_left _ h)))
theorem chIwsX10_pair_2 : ∀ w ∈ (wsX10_pair_r2 : List Cond), w ∈ wsX10_pair := fun _ h => (List.mem_cons_of_mem _ (List.mem_append_left _ (List.mem_append_right _ (List.mem_append_left _ h))))
theorem chIwsX10_pair_3 : ∀ w ∈ (wsX10_pair_r3 : List Cond), w ∈ wsX10_pair := fun _ h => (List.mem_cons_of_mem _ (List.mem_append_left _ (List.mem_append_right _ (List.mem_append_right _ (List.mem_append_left _ h)))))
theorem chIwsX10_pair_4 : ∀ w ∈ (wsX10_pair_r4 : List Cond), w ∈ wsX10_pair := fun _ h => (List.mem_cons_of_mem _ (List.mem_append_left _ (List.mem_append_right _ (List.mem_append_right _ (List.mem_append_right _ h)))))
theorem chIwsX10_pair_5 : ∀ w ∈ (wsX100 : List Cond), w ∈ wsX10_pair := fun _ h => (List.mem_cons_of_mem _ (List.mem_append_right _ h))
def chwsX10_pair : Nat → List Cond
  | 0 => [.code yX10_pair cX10_pair 6 (some .int)]
  | 1 => wsX10_pair_r1
  | 2 => wsX10_pair_r2
  | 3 => wsX10_pair_r3
  | 4 => wsX10_pair_r4
  | 5 => wsX100
  | _ => []
theorem chwsX10_pair_in : ∀ (j : Nat) (w : Cond), w ∈ chwsX10_pair j → w ∈ wsX10_pair
  | 0, w, h => chIwsX10_pair_0 w h
  | 1, w, h => chIwsX10_pair_1 w h
  | 2, w, h => chIwsX10_pair_2 w h
  | 3, w, h => chIwsX10_pair_3 w h
  | 4, w, h => chIwsX10_pair_4 w h
  | 5, w, h => chIwsX10_pair_5 w h
  | _ + 6, _, h => absurd h List.not_mem_nil
set_option maxRecDepth 20000 in
theorem ggX10_pair_X10_isAsked : GoodIn wsX10_pair wsX10_isAsked := goodIn_r2 chwsX10_pair chwsX10_pair_in _ [(1, 7), (1, 8), (1, 9), (1, 6), (1, 10)] rfl (by decide +kernel)
set_option maxRecDepth 20000 in
theorem gX10_pair_X10_isAsked : GoodIn wsX10_pair (wsV RX10 239 RX10 yX10_isAsked wsX10_isAsked) := goodIn_app (goodIn_r2 chwsX10_pair chwsX10_pair_in _ [(1, 3), (1, 4), (1, 5), (1, 6)] rfl (by decide +kernel)) ggX10_pair_X10_isAsked
set_option maxRecDepth 20000 in
theorem ggX10_pair_X10_in : GoodIn wsX10_pair wsX10_in := goodIn_r2 chwsX10_pair chwsX10_pair_in _ [(1, 10)] rfl (by decide +kernel)
set_option maxRecDepth 20000 in
theorem gX10_pair_X10_in : GoodIn wsX10_pair (va_wsS RX10 84 yX10_in wsX10_in) := goodIn_app (goodIn_r2 chwsX10_pair chwsX10_pair_in _ [(1, 8), (1, 9), (1, 6)] rfl (by decide +kernel)) ggX10_pair_X10_in
set_option maxRecDepth 20000 in
theorem ggX10_pair_X10_pairOf : GoodIn wsX10_pair wsX10_pairOf := goodIn_r2 chwsX10_pair chwsX10_pair_in _ [(1, 14), (1, 15), (1, 16), (1, 17), (1, 18), (1, 6), (1, 19), (1, 20), (1, 21), (1, 22), (1, 23), (2, 0), (2, 1), (2, 2), (2, 3), (2, 4), (2, 5), (2, 6), (2, 7), (2, 8), (2, 9), (2, 10), (2, 11), (2, 12), (2, 13), (2, 14), (2, 15), (2, 16), (2, 17), (2, 18), (2, 19), (2, 20), (2, 21), (2, 22), (2, 23), (3, 0), (3, 1), (3, 2), (3, 3), (1, 1), (3, 4), (3, 5), (3, 6), (3, 7), (3, 8), (3, 9), (3, 10), (3, 11), (3, 12), (3, 13), (3, 14), (3, 15), (3, 16), (3, 17), (3, 18), (3, 19), (3, 20), (3, 21), (3, 22), (3, 23), (4, 0), (4, 1), (4, 2), (4, 3), (4, 4), (4, 5), (4, 6), (4, 7), (4, 8), (1, 2), (4, 9), (4, 10), (4, 11), (4, 12), (4, 13), (5, 0), (5, 1), (5, 2), (5, 3), (5, 4), (5, 5), (5, 6), (5, 7), (5, 8), (5, 9), (5, 10), (5, 11), (5, 12), (5, 13), (5, 14), (5, 15), (5, 16), (5, 17), (5, 18), (5, 19), (5, 20), (5, 21), (5, 22), (5, 23), (5, 24), (5, 25), (5, 26), (5, 27), (5, 28), (5, 29), (5, 30), (5, 31), (5, 32), (5, 33), (5, 34), (5, 35), (5, 36), (5, 37), (5, 38), (5, 39)] rfl (by decide +kernel)
set_option maxRecDepth 20000 in
theorem gX10_pair_X10_pairOf : GoodIn wsX10_pair (wsV RX10 249 RX10 yX10_pairOf wsX10_pairOf) := goodIn_app (goodIn_r2 chwsX10_pair chwsX10_pair_in _ [(1, 11), (1, 12), (1, 13), (1, 6)] rfl (by decide +kernel)) ggX10_pair_X10_pairOf
