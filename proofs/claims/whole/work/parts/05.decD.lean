theorem dX8_turns_0 : decode cX8_turns 0 = .ok (.aload_n 0, 1) := by decide +kernel
theorem dX8_turns_1 : decode cX8_turns 1 = .ok (.iload_n 1, 1) := by decide +kernel
theorem dX8_turns_2 : decode cX8_turns 2 = .ok (.iconst 1, 1) := by decide +kernel
theorem dX8_turns_3 : decode cX8_turns 3 = .ok (.iadd, 1) := by decide +kernel
theorem dX8_turns_4 : decode cX8_turns 4 = .ok (.iaload, 1) := by decide +kernel
theorem dX8_turns_5 : decode cX8_turns 5 = .ok (.istore 4, 2) := by decide +kernel
theorem dX8_turns_7 : decode cX8_turns 7 = .ok (.aload_n 0, 1) := by decide +kernel
theorem dX8_turns_8 : decode cX8_turns 8 = .ok (.iload_n 1, 1) := by decide +kernel
theorem dX8_turns_9 : decode cX8_turns 9 = .ok (.iconst 2, 1) := by decide +kernel
theorem dX8_turns_10 : decode cX8_turns 10 = .ok (.iadd, 1) := by decide +kernel
theorem dX8_turns_11 : decode cX8_turns 11 = .ok (.iaload, 1) := by decide +kernel
theorem dX8_turns_12 : decode cX8_turns 12 = .ok (.istore 5, 2) := by decide +kernel
theorem dX8_turns_14 : decode cX8_turns 14 = .ok (.aload_n 0, 1) := by decide +kernel
theorem dX8_turns_15 : decode cX8_turns 15 = .ok (.iload_n 1, 1) := by decide +kernel
theorem dX8_turns_16 : decode cX8_turns 16 = .ok (.iconst 3, 1) := by decide +kernel
theorem dX8_turns_17 : decode cX8_turns 17 = .ok (.iadd, 1) := by decide +kernel
theorem dX8_turns_18 : decode cX8_turns 18 = .ok (.iaload, 1) := by decide +kernel
theorem dX8_turns_19 : decode cX8_turns 19 = .ok (.istore 6, 2) := by decide +kernel
theorem dX8_turns_21 : decode cX8_turns 21 = .ok (.aload_n 3, 1) := by decide +kernel
theorem dX8_turns_22 : decode cX8_turns 22 = .ok (.iload_n 2, 1) := by decide +kernel
theorem dX8_turns_23 : decode cX8_turns 23 = .ok (.iconst 2, 1) := by decide +kernel
theorem dX8_turns_24 : decode cX8_turns 24 = .ok (.if_icmp .ne 8, 3) := by decide +kernel
theorem dX8_turns_27 : decode cX8_turns 27 = .ok (.iload 4, 2) := by decide +kernel
theorem dX8_turns_29 : decode cX8_turns 29 = .ok (.goto 5, 3) := by decide +kernel
theorem dX8_turns_32 : decode cX8_turns 32 = .ok (.iload 5, 2) := by decide +kernel
theorem dX8_turns_34 : decode cX8_turns 34 = .ok (.iload_n 2, 1) := by decide +kernel
theorem dX8_turns_35 : decode cX8_turns 35 = .ok (.ifCond .ne 8, 3) := by decide +kernel
theorem dX8_turns_38 : decode cX8_turns 38 = .ok (.iload 4, 2) := by decide +kernel
theorem dX8_turns_40 : decode cX8_turns 40 = .ok (.goto 15, 3) := by decide +kernel
theorem dX8_turns_43 : decode cX8_turns 43 = .ok (.iload_n 2, 1) := by decide +kernel
theorem dX8_turns_44 : decode cX8_turns 44 = .ok (.iconst 1, 1) := by decide +kernel
theorem dX8_turns_45 : decode cX8_turns 45 = .ok (.if_icmp .ne 8, 3) := by decide +kernel
theorem dX8_turns_48 : decode cX8_turns 48 = .ok (.iload 6, 2) := by decide +kernel
theorem dX8_turns_50 : decode cX8_turns 50 = .ok (.goto 5, 3) := by decide +kernel
theorem dX8_turns_53 : decode cX8_turns 53 = .ok (.iload 5, 2) := by decide +kernel
theorem dX8_turns_55 : decode cX8_turns 55 = .ok (.iload_n 2, 1) := by decide +kernel
theorem dX8_turns_56 : decode cX8_turns 56 = .ok (.iconst 1, 1) := by decide +kernel
theorem dX8_turns_57 : decode cX8_turns 57 = .ok (.if_icmp .ne 8, 3) := by decide +kernel
theorem dX8_turns_60 : decode cX8_turns 60 = .ok (.iload 4, 2) := by decide +kernel
theorem dX8_turns_62 : decode cX8_turns 62 = .ok (.goto 5, 3) := by decide +kernel
theorem dX8_turns_65 : decode cX8_turns 65 = .ok (.iload 6, 2) := by decide +kernel
theorem dX8_turns_67 : decode cX8_turns 67 = .ok (.invokestatic 127, 3) := by decide +kernel
theorem dX8_turns_70 : decode cX8_turns 70 = .ok (.iconst 0, 1) := by decide +kernel
theorem dX8_turns_71 : decode cX8_turns 71 = .ok (.istore 7, 2) := by decide +kernel
theorem dX8_turns_73 : decode cX8_turns 73 = .ok (.iload 7, 2) := by decide +kernel
theorem dX8_turns_75 : decode cX8_turns 75 = .ok (.aload_n 3, 1) := by decide +kernel
theorem dX8_turns_76 : decode cX8_turns 76 = .ok (.iconst 1, 1) := by decide +kernel
theorem dX8_turns_77 : decode cX8_turns 77 = .ok (.iaload, 1) := by decide +kernel
theorem dX8_turns_78 : decode cX8_turns 78 = .ok (.if_icmp .ge 107, 3) := by decide +kernel
theorem dX8_turns_81 : decode cX8_turns 81 = .ok (.iconst 0, 1) := by decide +kernel
theorem dX8_turns_82 : decode cX8_turns 82 = .ok (.istore 8, 2) := by decide +kernel
theorem dX8_turns_84 : decode cX8_turns 84 = .ok (.iload 8, 2) := by decide +kernel
theorem dX8_turns_86 : decode cX8_turns 86 = .ok (.aload_n 3, 1) := by decide +kernel
theorem dX8_turns_87 : decode cX8_turns 87 = .ok (.iconst 2, 1) := by decide +kernel
theorem dX8_turns_88 : decode cX8_turns 88 = .ok (.iaload, 1) := by decide +kernel
theorem dX8_turns_89 : decode cX8_turns 89 = .ok (.if_icmp .ge 90, 3) := by decide +kernel
theorem dX8_turns_92 : decode cX8_turns 92 = .ok (.iload_n 2, 1) := by decide +kernel
theorem dX8_turns_93 : decode cX8_turns 93 = .ok (.iconst 2, 1) := by decide +kernel
theorem dX8_turns_94 : decode cX8_turns 94 = .ok (.if_icmp .ne 30, 3) := by decide +kernel
theorem dX8_turns_97 : decode cX8_turns 97 = .ok (.iload 6, 2) := by decide +kernel
theorem dX8_turns_99 : decode cX8_turns 99 = .ok (.aload_n 0, 1) := by decide +kernel
theorem dX8_turns_100 : decode cX8_turns 100 = .ok (.iload_n 1, 1) := by decide +kernel
theorem dX8_turns_101 : decode cX8_turns 101 = .ok (.iload 4, 2) := by decide +kernel
theorem dX8_turns_103 : decode cX8_turns 103 = .ok (.iconst 1, 1) := by decide +kernel
theorem dX8_turns_104 : decode cX8_turns 104 = .ok (.isub, 1) := by decide +kernel
theorem dX8_turns_105 : decode cX8_turns 105 = .ok (.iload 7, 2) := by decide +kernel
theorem dX8_turns_107 : decode cX8_turns 107 = .ok (.isub, 1) := by decide +kernel
theorem dX8_turns_108 : decode cX8_turns 108 = .ok (.iload 5, 2) := by decide +kernel
theorem dX8_turns_110 : decode cX8_turns 110 = .ok (.iconst 1, 1) := by decide +kernel
theorem dX8_turns_111 : decode cX8_turns 111 = .ok (.isub, 1) := by decide +kernel
theorem dX8_turns_112 : decode cX8_turns 112 = .ok (.iload 8, 2) := by decide +kernel
theorem dX8_turns_114 : decode cX8_turns 114 = .ok (.isub, 1) := by decide +kernel
theorem dX8_turns_115 : decode cX8_turns 115 = .ok (.invokestatic 139, 3) := by decide +kernel
theorem dX8_turns_118 : decode cX8_turns 118 = .ok (.iadd, 1) := by decide +kernel
theorem dX8_turns_119 : decode cX8_turns 119 = .ok (.iaload, 1) := by decide +kernel
theorem dX8_turns_120 : decode cX8_turns 120 = .ok (.isub, 1) := by decide +kernel
theorem dX8_turns_121 : decode cX8_turns 121 = .ok (.goto 4, 3) := by decide +kernel
theorem dX8_turns_124 : decode cX8_turns 124 = .ok (.iconst 0, 1) := by decide +kernel
theorem dX8_turns_125 : decode cX8_turns 125 = .ok (.istore 9, 2) := by decide +kernel
theorem dX8_turns_127 : decode cX8_turns 127 = .ok (.aload_n 3, 1) := by decide +kernel
theorem dX8_turns_128 : decode cX8_turns 128 = .ok (.iload 7, 2) := by decide +kernel
theorem dX8_turns_130 : decode cX8_turns 130 = .ok (.iload 8, 2) := by decide +kernel
theorem dX8_turns_132 : decode cX8_turns 132 = .ok (.invokestatic 139, 3) := by decide +kernel
theorem dX8_turns_135 : decode cX8_turns 135 = .ok (.iload_n 2, 1) := by decide +kernel
theorem dX8_turns_136 : decode cX8_turns 136 = .ok (.ifCond .ne 17, 3) := by decide +kernel
theorem dX8_turns_139 : decode cX8_turns 139 = .ok (.aload_n 0, 1) := by decide +kernel
theorem dX8_turns_140 : decode cX8_turns 140 = .ok (.iload_n 1, 1) := by decide +kernel
theorem dX8_turns_141 : decode cX8_turns 141 = .ok (.iload 8, 2) := by decide +kernel
theorem dX8_turns_143 : decode cX8_turns 143 = .ok (.iload 7, 2) := by decide +kernel
theorem dX8_turns_145 : decode cX8_turns 145 = .ok (.invokestatic 139, 3) := by decide +kernel
theorem dX8_turns_148 : decode cX8_turns 148 = .ok (.iadd, 1) := by decide +kernel
theorem dX8_turns_149 : decode cX8_turns 149 = .ok (.iaload, 1) := by decide +kernel
theorem dX8_turns_150 : decode cX8_turns 150 = .ok (.goto 22, 3) := by decide +kernel
theorem dX8_turns_153 : decode cX8_turns 153 = .ok (.iload_n 2, 1) := by decide +kernel
theorem dX8_turns_154 : decode cX8_turns 154 = .ok (.iconst 1, 1) := by decide +kernel
theorem dX8_turns_155 : decode cX8_turns 155 = .ok (.if_icmp .ne 15, 3) := by decide +kernel
theorem dX8_turns_158 : decode cX8_turns 158 = .ok (.aload_n 0, 1) := by decide +kernel
theorem dX8_turns_159 : decode cX8_turns 159 = .ok (.iload_n 1, 1) := by decide +kernel
theorem dX8_turns_160 : decode cX8_turns 160 = .ok (.iload 7, 2) := by decide +kernel
theorem dX8_turns_162 : decode cX8_turns 162 = .ok (.iload 8, 2) := by decide +kernel
theorem dX8_turns_164 : decode cX8_turns 164 = .ok (.invokestatic 218, 3) := by decide +kernel
theorem dX8_turns_167 : decode cX8_turns 167 = .ok (.goto 5, 3) := by decide +kernel
theorem dX8_turns_170 : decode cX8_turns 170 = .ok (.iload 9, 2) := by decide +kernel
theorem dX8_turns_172 : decode cX8_turns 172 = .ok (.iastore, 1) := by decide +kernel
theorem dX8_turns_173 : decode cX8_turns 173 = .ok (.iinc 8 1, 3) := by decide +kernel
theorem dX8_turns_176 : decode cX8_turns 176 = .ok (.goto (-92), 3) := by decide +kernel
theorem dX8_turns_179 : decode cX8_turns 179 = .ok (.iinc 7 1, 3) := by decide +kernel
theorem dX8_turns_182 : decode cX8_turns 182 = .ok (.goto (-109), 3) := by decide +kernel
theorem dX8_turns_185 : decode cX8_turns 185 = .ok (.return_, 1) := by decide +kernel
set_option maxRecDepth 20000 in
theorem ggX8_turn_X8_isHeap : GoodIn wsX8_turn wsX8_isHeap := goodIn_r _ [8, 2, 9, 10, 7, 11, 12, 13, 14, 43, 44, 45, 46, 47, 48, 49, 50, 51, 52, 53, 54, 55, 56, 57, 58, 59, 60, 61, 62, 63, 64, 65, 66, 67, 68, 69, 70, 71] (by decide +kernel) (by decide +kernel)
set_option maxRecDepth 20000 in
theorem gX8_turn_X8_isHeap : GoodIn wsX8_turn (wsV RX8 205 RX8 yX8_isHeap wsX8_isHeap) := goodIn_app (goodIn_of _ (by decide +kernel)) ggX8_turn_X8_isHeap
set_option maxRecDepth 20000 in
theorem ggX8_turn_X8_in : GoodIn wsX8_turn wsX8_in := goodIn_r _ [14] (by decide +kernel) (by decide +kernel)
set_option maxRecDepth 20000 in
theorem gX8_turn_X8_in : GoodIn wsX8_turn (va_wsS RX8 82 yX8_in wsX8_in) := goodIn_app (goodIn_of _ (by decide +kernel)) ggX8_turn_X8_in
set_option maxRecDepth 20000 in
theorem ggX8_turn_X8_isPlace : GoodIn wsX8_turn wsX8_isPlace := goodIn_r _ [11, 12, 13, 7, 14] (by decide +kernel) (by decide +kernel)
set_option maxRecDepth 20000 in
theorem gX8_turn_X8_isPlace : GoodIn wsX8_turn (va_wsS RX8 86 yX8_isPlace wsX8_isPlace) := goodIn_app (goodIn_of _ (by decide +kernel)) ggX8_turn_X8_isPlace
set_option maxRecDepth 20000 in
theorem ggX8_turn_X8_turns : GoodIn wsX8_turn wsX8_turns := goodIn_r _ [17, 18, 19, 7, 20, 21, 22, 23, 24, 25, 26] (by decide +kernel) (by decide +kernel)
set_option maxRecDepth 20000 in
theorem gX8_turn_X8_turns : GoodIn wsX8_turn (va_wsS RX8 222 yX8_turns wsX8_turns) := goodIn_app (goodIn_of _ (by decide +kernel)) ggX8_turn_X8_turns
set_option maxRecDepth 20000 in
theorem ggX8_turn_X8_comes : GoodIn wsX8_turn wsX8_comes := goodIn_r _ [30, 3, 2, 31, 32, 33, 7, 34, 35, 36, 37, 38, 39, 40, 41, 42, 43, 44, 45, 46, 47, 48, 49, 50, 51, 52, 53, 54, 55, 56, 57, 58, 59, 60, 61, 62, 63, 64, 65, 66, 67, 68, 69, 70, 71] (by decide +kernel) (by decide +kernel)
set_option maxRecDepth 20000 in
theorem gX8_turn_X8_comes : GoodIn wsX8_turn (wsV RX8 168 RX8 yX8_comes wsX8_comes) := goodIn_app (goodIn_of _ (by decide +kernel)) ggX8_turn_X8_comes
theorem dX8_turn_0 : decode cX8_turn 0 = .ok (.aload_n 0, 1) := by decide +kernel
theorem dX8_turn_1 : decode cX8_turn 1 = .ok (.iload_n 1, 1) := by decide +kernel
theorem dX8_turn_2 : decode cX8_turn 2 = .ok (.invokevirtual 205, 3) := by decide +kernel
theorem dX8_turn_5 : decode cX8_turn 5 = .ok (.ifCond .eq 19, 3) := by decide +kernel
theorem dX8_turn_8 : decode cX8_turn 8 = .ok (.iload_n 2, 1) := by decide +kernel
theorem dX8_turn_9 : decode cX8_turn 9 = .ok (.iconst 0, 1) := by decide +kernel
theorem dX8_turn_10 : decode cX8_turn 10 = .ok (.iconst 2, 1) := by decide +kernel
theorem dX8_turn_11 : decode cX8_turn 11 = .ok (.invokestatic 82, 3) := by decide +kernel
theorem dX8_turn_14 : decode cX8_turn 14 = .ok (.ifCond .eq 10, 3) := by decide +kernel
theorem dX8_turn_17 : decode cX8_turn 17 = .ok (.iload_n 3, 1) := by decide +kernel
theorem dX8_turn_18 : decode cX8_turn 18 = .ok (.invokestatic 86, 3) := by decide +kernel
theorem dX8_turn_21 : decode cX8_turn 21 = .ok (.ifCond .ne 6, 3) := by decide +kernel
theorem dX8_turn_24 : decode cX8_turn 24 = .ok (.ldc 105, 2) := by decide +kernel
theorem dX8_turn_26 : decode cX8_turn 26 = .ok (.ireturn, 1) := by decide +kernel
theorem dX8_turn_27 : decode cX8_turn 27 = .ok (.aload_n 0, 1) := by decide +kernel
theorem dX8_turn_28 : decode cX8_turn 28 = .ok (.getfield 7, 3) := by decide +kernel
theorem dX8_turn_31 : decode cX8_turn 31 = .ok (.bipush 20, 2) := by decide +kernel
theorem dX8_turn_33 : decode cX8_turn 33 = .ok (.iload_n 1, 1) := by decide +kernel
theorem dX8_turn_34 : decode cX8_turn 34 = .ok (.imul, 1) := by decide +kernel
theorem dX8_turn_35 : decode cX8_turn 35 = .ok (.iload_n 2, 1) := by decide +kernel
theorem dX8_turn_36 : decode cX8_turn 36 = .ok (.aload_n 0, 1) := by decide +kernel
theorem dX8_turn_37 : decode cX8_turn 37 = .ok (.getfield 26, 3) := by decide +kernel
theorem dX8_turn_40 : decode cX8_turn 40 = .ok (.invokestatic 222, 3) := by decide +kernel
theorem dX8_turn_43 : decode cX8_turn 43 = .ok (.aload_n 0, 1) := by decide +kernel
theorem dX8_turn_44 : decode cX8_turn 44 = .ok (.iload_n 3, 1) := by decide +kernel
theorem dX8_turn_45 : decode cX8_turn 45 = .ok (.invokevirtual 168, 3) := by decide +kernel
theorem dX8_turn_48 : decode cX8_turn 48 = .ok (.ireturn, 1) := by decide +kernel
set_option maxRecDepth 20000 in
theorem ggX8_areAlike_X8_isSame : GoodIn wsX8_areAlike wsX8_isSame := goodIn_r _ [5] (by decide +kernel) (by decide +kernel)
set_option maxRecDepth 20000 in
theorem gX8_areAlike_X8_isSame : GoodIn wsX8_areAlike (va_wsS RX8 181 yX8_isSame wsX8_isSame) := goodIn_app (goodIn_of _ (by decide +kernel)) ggX8_areAlike_X8_isSame
theorem dX8_areAlike_0 : decode cX8_areAlike 0 = .ok (.aload_n 0, 1) := by decide +kernel
theorem dX8_areAlike_1 : decode cX8_areAlike 1 = .ok (.getfield 7, 3) := by decide +kernel
theorem dX8_areAlike_4 : decode cX8_areAlike 4 = .ok (.bipush 20, 2) := by decide +kernel
theorem dX8_areAlike_6 : decode cX8_areAlike 6 = .ok (.iload_n 1, 1) := by decide +kernel
theorem dX8_areAlike_7 : decode cX8_areAlike 7 = .ok (.imul, 1) := by decide +kernel
theorem dX8_areAlike_8 : decode cX8_areAlike 8 = .ok (.iconst 1, 1) := by decide +kernel
theorem dX8_areAlike_9 : decode cX8_areAlike 9 = .ok (.iadd, 1) := by decide +kernel
theorem dX8_areAlike_10 : decode cX8_areAlike 10 = .ok (.aload_n 0, 1) := by decide +kernel
theorem dX8_areAlike_11 : decode cX8_areAlike 11 = .ok (.getfield 7, 3) := by decide +kernel
theorem dX8_areAlike_14 : decode cX8_areAlike 14 = .ok (.bipush 20, 2) := by decide +kernel
theorem dX8_areAlike_16 : decode cX8_areAlike 16 = .ok (.iload_n 2, 1) := by decide +kernel
theorem dX8_areAlike_17 : decode cX8_areAlike 17 = .ok (.imul, 1) := by decide +kernel
theorem dX8_areAlike_18 : decode cX8_areAlike 18 = .ok (.iconst 1, 1) := by decide +kernel
theorem dX8_areAlike_19 : decode cX8_areAlike 19 = .ok (.iadd, 1) := by decide +kernel
theorem dX8_areAlike_20 : decode cX8_areAlike 20 = .ok (.iconst 3, 1) := by decide +kernel
theorem dX8_areAlike_21 : decode cX8_areAlike 21 = .ok (.invokestatic 181, 3) := by decide +kernel
theorem dX8_areAlike_24 : decode cX8_areAlike 24 = .ok (.ireturn, 1) := by decide +kernel
set_option maxRecDepth 20000 in
theorem ggX8_join_X8_isHeap : GoodIn wsX8_join wsX8_isHeap := goodIn_r _ [9, 3, 10, 11, 8, 12, 13, 14, 15, 39, 40, 41, 42, 43, 44, 45, 46, 47, 48, 49, 50, 51, 52, 53, 54, 55, 56, 57, 58, 59, 60, 61, 62, 63, 64, 65, 66, 67] (by decide +kernel) (by decide +kernel)
set_option maxRecDepth 20000 in
theorem gX8_join_X8_isHeap : GoodIn wsX8_join (wsV RX8 205 RX8 yX8_isHeap wsX8_isHeap) := goodIn_app (goodIn_of _ (by decide +kernel)) ggX8_join_X8_isHeap
set_option maxRecDepth 20000 in
theorem ggX8_join_X8_in : GoodIn wsX8_join wsX8_in := goodIn_r _ [15] (by decide +kernel) (by decide +kernel)
set_option maxRecDepth 20000 in
theorem gX8_join_X8_in : GoodIn wsX8_join (va_wsS RX8 82 yX8_in wsX8_in) := goodIn_app (goodIn_of _ (by decide +kernel)) ggX8_join_X8_in
set_option maxRecDepth 20000 in
theorem ggX8_join_X8_isPlace : GoodIn wsX8_join wsX8_isPlace := goodIn_r _ [12, 13, 14, 8, 15] (by decide +kernel) (by decide +kernel)
set_option maxRecDepth 20000 in
theorem gX8_join_X8_isPlace : GoodIn wsX8_join (va_wsS RX8 86 yX8_isPlace wsX8_isPlace) := goodIn_app (goodIn_of _ (by decide +kernel)) ggX8_join_X8_isPlace
set_option maxRecDepth 20000 in
theorem ggX8_join_X8_areAlike : GoodIn wsX8_join wsX8_areAlike := goodIn_r _ [19, 3, 20, 21, 8, 22, 39, 40, 41, 42, 43, 44, 45, 46, 47, 48, 49, 50, 51, 52, 53, 54, 55, 56, 57, 58, 59, 60, 61, 62, 63, 64, 65, 66, 67] (by decide +kernel) (by decide +kernel)
set_option maxRecDepth 20000 in
theorem gX8_join_X8_areAlike : GoodIn wsX8_join (wsV RX8 226 RX8 yX8_areAlike wsX8_areAlike) := goodIn_app (goodIn_of _ (by decide +kernel)) ggX8_join_X8_areAlike
set_option maxRecDepth 20000 in
theorem ggX8_join_X8_bring : GoodIn wsX8_join wsX8_bring := goodIn_r _ [25] (by decide +kernel) (by decide +kernel)
set_option maxRecDepth 20000 in
theorem gX8_join_X8_bring : GoodIn wsX8_join (va_wsS RX8 93 yX8_bring wsX8_bring) := goodIn_app (goodIn_of _ (by decide +kernel)) ggX8_join_X8_bring
set_option maxRecDepth 20000 in
theorem ggX8_join_X8_comes : GoodIn wsX8_join wsX8_comes := goodIn_r _ [29, 4, 3, 30, 31, 32, 8, 33, 34, 35, 23, 24, 25, 36, 37, 38, 39, 40, 41, 42, 43, 44, 45, 46, 47, 48, 49, 50, 51, 52, 53, 54, 55, 56, 57, 58, 59, 60, 61, 62, 63, 64, 65, 66, 67] (by decide +kernel) (by decide +kernel)
set_option maxRecDepth 20000 in
theorem gX8_join_X8_comes : GoodIn wsX8_join (wsV RX8 168 RX8 yX8_comes wsX8_comes) := goodIn_app (goodIn_of _ (by decide +kernel)) ggX8_join_X8_comes
theorem dX8_join_0 : decode cX8_join 0 = .ok (.aload_n 0, 1) := by decide +kernel
theorem dX8_join_1 : decode cX8_join 1 = .ok (.iload_n 1, 1) := by decide +kernel
theorem dX8_join_2 : decode cX8_join 2 = .ok (.invokevirtual 205, 3) := by decide +kernel
theorem dX8_join_5 : decode cX8_join 5 = .ok (.ifCond .eq 28, 3) := by decide +kernel
theorem dX8_join_8 : decode cX8_join 8 = .ok (.aload_n 0, 1) := by decide +kernel
theorem dX8_join_9 : decode cX8_join 9 = .ok (.iload_n 2, 1) := by decide +kernel
theorem dX8_join_10 : decode cX8_join 10 = .ok (.invokevirtual 205, 3) := by decide +kernel
theorem dX8_join_13 : decode cX8_join 13 = .ok (.ifCond .eq 20, 3) := by decide +kernel
theorem dX8_join_16 : decode cX8_join 16 = .ok (.iload_n 3, 1) := by decide +kernel
theorem dX8_join_17 : decode cX8_join 17 = .ok (.iconst 0, 1) := by decide +kernel
theorem dX8_join_18 : decode cX8_join 18 = .ok (.iconst 1, 1) := by decide +kernel
theorem dX8_join_19 : decode cX8_join 19 = .ok (.invokestatic 82, 3) := by decide +kernel
theorem dX8_join_22 : decode cX8_join 22 = .ok (.ifCond .eq 11, 3) := by decide +kernel
theorem dX8_join_25 : decode cX8_join 25 = .ok (.iload 4, 2) := by decide +kernel
theorem dX8_join_27 : decode cX8_join 27 = .ok (.invokestatic 86, 3) := by decide +kernel
theorem dX8_join_30 : decode cX8_join 30 = .ok (.ifCond .ne 6, 3) := by decide +kernel
theorem dX8_join_33 : decode cX8_join 33 = .ok (.ldc 105, 2) := by decide +kernel
theorem dX8_join_35 : decode cX8_join 35 = .ok (.ireturn, 1) := by decide +kernel
theorem dX8_join_36 : decode cX8_join 36 = .ok (.aload_n 0, 1) := by decide +kernel
theorem dX8_join_37 : decode cX8_join 37 = .ok (.iload_n 1, 1) := by decide +kernel
theorem dX8_join_38 : decode cX8_join 38 = .ok (.iload_n 2, 1) := by decide +kernel
theorem dX8_join_39 : decode cX8_join 39 = .ok (.invokevirtual 226, 3) := by decide +kernel
theorem dX8_join_42 : decode cX8_join 42 = .ok (.ifCond .ne 6, 3) := by decide +kernel
theorem dX8_join_45 : decode cX8_join 45 = .ok (.ldc 104, 2) := by decide +kernel
theorem dX8_join_47 : decode cX8_join 47 = .ok (.ireturn, 1) := by decide +kernel
theorem dX8_join_48 : decode cX8_join 48 = .ok (.aload_n 0, 1) := by decide +kernel
theorem dX8_join_49 : decode cX8_join 49 = .ok (.getfield 7, 3) := by decide +kernel
theorem dX8_join_52 : decode cX8_join 52 = .ok (.bipush 20, 2) := by decide +kernel
theorem dX8_join_54 : decode cX8_join 54 = .ok (.iload_n 1, 1) := by decide +kernel
theorem dX8_join_55 : decode cX8_join 55 = .ok (.imul, 1) := by decide +kernel
theorem dX8_join_56 : decode cX8_join 56 = .ok (.aload_n 0, 1) := by decide +kernel
theorem dX8_join_57 : decode cX8_join 57 = .ok (.getfield 26, 3) := by decide +kernel
theorem dX8_join_60 : decode cX8_join 60 = .ok (.iconst 0, 1) := by decide +kernel
theorem dX8_join_61 : decode cX8_join 61 = .ok (.bipush 20, 2) := by decide +kernel
theorem dX8_join_63 : decode cX8_join 63 = .ok (.invokestatic 93, 3) := by decide +kernel
theorem dX8_join_66 : decode cX8_join 66 = .ok (.iconst 4, 1) := by decide +kernel
theorem dX8_join_67 : decode cX8_join 67 = .ok (.istore 5, 2) := by decide +kernel
theorem dX8_join_69 : decode cX8_join 69 = .ok (.iload 5, 2) := by decide +kernel
theorem dX8_join_71 : decode cX8_join 71 = .ok (.bipush 20, 2) := by decide +kernel
theorem dX8_join_73 : decode cX8_join 73 = .ok (.if_icmp .ge 90, 3) := by decide +kernel
theorem dX8_join_76 : decode cX8_join 76 = .ok (.aload_n 0, 1) := by decide +kernel
theorem dX8_join_77 : decode cX8_join 77 = .ok (.getfield 7, 3) := by decide +kernel
theorem dX8_join_80 : decode cX8_join 80 = .ok (.bipush 20, 2) := by decide +kernel
theorem dX8_join_82 : decode cX8_join 82 = .ok (.iload_n 2, 1) := by decide +kernel
theorem dX8_join_83 : decode cX8_join 83 = .ok (.imul, 1) := by decide +kernel
theorem dX8_join_84 : decode cX8_join 84 = .ok (.iload 5, 2) := by decide +kernel
theorem dX8_join_86 : decode cX8_join 86 = .ok (.iadd, 1) := by decide +kernel
theorem dX8_join_87 : decode cX8_join 87 = .ok (.iaload, 1) := by decide +kernel
theorem dX8_join_88 : decode cX8_join 88 = .ok (.istore 6, 2) := by decide +kernel
theorem dX8_join_90 : decode cX8_join 90 = .ok (.iload_n 3, 1) := by decide +kernel
theorem dX8_join_91 : decode cX8_join 91 = .ok (.ifCond .ne 23, 3) := by decide +kernel
theorem dX8_join_94 : decode cX8_join 94 = .ok (.iload 6, 2) := by decide +kernel
theorem dX8_join_96 : decode cX8_join 96 = .ok (.aload_n 0, 1) := by decide +kernel
theorem dX8_join_97 : decode cX8_join 97 = .ok (.getfield 26, 3) := by decide +kernel
theorem dX8_join_100 : decode cX8_join 100 = .ok (.iload 5, 2) := by decide +kernel
theorem dX8_join_102 : decode cX8_join 102 = .ok (.iaload, 1) := by decide +kernel
theorem dX8_join_103 : decode cX8_join 103 = .ok (.if_icmp .le 7, 3) := by decide +kernel
theorem dX8_join_106 : decode cX8_join 106 = .ok (.iconst 1, 1) := by decide +kernel
theorem dX8_join_107 : decode cX8_join 107 = .ok (.goto 24, 3) := by decide +kernel
theorem dX8_join_110 : decode cX8_join 110 = .ok (.iconst 0, 1) := by decide +kernel
theorem dX8_join_111 : decode cX8_join 111 = .ok (.goto 20, 3) := by decide +kernel
theorem dX8_join_114 : decode cX8_join 114 = .ok (.iload 6, 2) := by decide +kernel
theorem dX8_join_116 : decode cX8_join 116 = .ok (.aload_n 0, 1) := by decide +kernel
theorem dX8_join_117 : decode cX8_join 117 = .ok (.getfield 26, 3) := by decide +kernel
theorem dX8_join_120 : decode cX8_join 120 = .ok (.iload 5, 2) := by decide +kernel
theorem dX8_join_122 : decode cX8_join 122 = .ok (.iaload, 1) := by decide +kernel
theorem dX8_join_123 : decode cX8_join 123 = .ok (.if_icmp .ge 7, 3) := by decide +kernel
theorem dX8_join_126 : decode cX8_join 126 = .ok (.iconst 1, 1) := by decide +kernel
theorem dX8_join_127 : decode cX8_join 127 = .ok (.goto 4, 3) := by decide +kernel
theorem dX8_join_130 : decode cX8_join 130 = .ok (.iconst 0, 1) := by decide +kernel
theorem dX8_join_131 : decode cX8_join 131 = .ok (.istore 7, 2) := by decide +kernel
theorem dX8_join_133 : decode cX8_join 133 = .ok (.aload_n 0, 1) := by decide +kernel
theorem dX8_join_134 : decode cX8_join 134 = .ok (.getfield 26, 3) := by decide +kernel
theorem dX8_join_137 : decode cX8_join 137 = .ok (.iload 5, 2) := by decide +kernel
theorem dX8_join_139 : decode cX8_join 139 = .ok (.iload 7, 2) := by decide +kernel
theorem dX8_join_141 : decode cX8_join 141 = .ok (.ifCond .eq 8, 3) := by decide +kernel
theorem dX8_join_144 : decode cX8_join 144 = .ok (.iload 6, 2) := by decide +kernel
theorem dX8_join_146 : decode cX8_join 146 = .ok (.goto 10, 3) := by decide +kernel
theorem dX8_join_149 : decode cX8_join 149 = .ok (.aload_n 0, 1) := by decide +kernel
theorem dX8_join_150 : decode cX8_join 150 = .ok (.getfield 26, 3) := by decide +kernel
theorem dX8_join_153 : decode cX8_join 153 = .ok (.iload 5, 2) := by decide +kernel
theorem dX8_join_155 : decode cX8_join 155 = .ok (.iaload, 1) := by decide +kernel
theorem dX8_join_156 : decode cX8_join 156 = .ok (.iastore, 1) := by decide +kernel
theorem dX8_join_157 : decode cX8_join 157 = .ok (.iinc 5 1, 3) := by decide +kernel
theorem dX8_join_160 : decode cX8_join 160 = .ok (.goto (-91), 3) := by decide +kernel
theorem dX8_join_163 : decode cX8_join 163 = .ok (.aload_n 0, 1) := by decide +kernel
theorem dX8_join_164 : decode cX8_join 164 = .ok (.iload 4, 2) := by decide +kernel
theorem dX8_join_166 : decode cX8_join 166 = .ok (.invokevirtual 168, 3) := by decide +kernel
theorem dX8_join_169 : decode cX8_join 169 = .ok (.ireturn, 1) := by decide +kernel
set_option maxRecDepth 20000 in
theorem ggX8_drop_X8_isHeap : GoodIn wsX8_drop wsX8_isHeap := goodIn_r _ [7, 2, 8, 9, 6, 10, 11, 12, 13, 26, 27, 28, 29, 30, 31, 32, 33, 34, 35, 36, 37, 38, 39, 40, 41, 42, 43, 44, 45, 46, 47, 48, 49, 50, 51, 52, 53, 54] (by decide +kernel) (by decide +kernel)
set_option maxRecDepth 20000 in
theorem gX8_drop_X8_isHeap : GoodIn wsX8_drop (wsV RX8 205 RX8 yX8_isHeap wsX8_isHeap) := goodIn_app (goodIn_of _ (by decide +kernel)) ggX8_drop_X8_isHeap
set_option maxRecDepth 20000 in
theorem ggX8_drop_X8_notes : GoodIn wsX8_drop wsX8_notes := goodIn_r _ [17, 18, 19, 2, 20, 21, 6, 22, 26, 27, 28, 29, 30, 31, 32, 33, 34, 35, 36, 37, 38, 39, 40, 41, 42, 43, 44, 45, 46, 47, 48, 49, 50, 51, 52, 53, 54] (by decide +kernel) (by decide +kernel)
set_option maxRecDepth 20000 in
theorem gX8_drop_X8_notes : GoodIn wsX8_drop (wsV RX8 97 RX8 yX8_notes wsX8_notes) := goodIn_app (goodIn_of _ (by decide +kernel)) ggX8_drop_X8_notes
set_option maxRecDepth 20000 in
theorem ggX8_drop_X8_volume : GoodIn wsX8_drop wsX8_volume := goodIn_r _ [25] (by decide +kernel) (by decide +kernel)
set_option maxRecDepth 20000 in
theorem gX8_drop_X8_volume : GoodIn wsX8_drop (va_wsS RX8 100 yX8_volume wsX8_volume) := goodIn_app (goodIn_of _ (by decide +kernel)) ggX8_drop_X8_volume
theorem dX8_drop_0 : decode cX8_drop 0 = .ok (.aload_n 0, 1) := by decide +kernel
theorem dX8_drop_1 : decode cX8_drop 1 = .ok (.iload_n 1, 1) := by decide +kernel
theorem dX8_drop_2 : decode cX8_drop 2 = .ok (.invokevirtual 205, 3) := by decide +kernel
theorem dX8_drop_5 : decode cX8_drop 5 = .ok (.ifCond .ne 6, 3) := by decide +kernel
theorem dX8_drop_8 : decode cX8_drop 8 = .ok (.ldc 105, 2) := by decide +kernel
theorem dX8_drop_10 : decode cX8_drop 10 = .ok (.ireturn, 1) := by decide +kernel
theorem dX8_drop_11 : decode cX8_drop 11 = .ok (.aload_n 0, 1) := by decide +kernel
theorem dX8_drop_12 : decode cX8_drop 12 = .ok (.invokevirtual 97, 3) := by decide +kernel
theorem dX8_drop_15 : decode cX8_drop 15 = .ok (.aload_n 0, 1) := by decide +kernel
theorem dX8_drop_16 : decode cX8_drop 16 = .ok (.getfield 7, 3) := by decide +kernel
theorem dX8_drop_19 : decode cX8_drop 19 = .ok (.bipush 20, 2) := by decide +kernel
theorem dX8_drop_21 : decode cX8_drop 21 = .ok (.iload_n 1, 1) := by decide +kernel
theorem dX8_drop_22 : decode cX8_drop 22 = .ok (.imul, 1) := by decide +kernel
theorem dX8_drop_23 : decode cX8_drop 23 = .ok (.invokestatic 100, 3) := by decide +kernel
theorem dX8_drop_26 : decode cX8_drop 26 = .ok (.istore_n 2, 1) := by decide +kernel
theorem dX8_drop_27 : decode cX8_drop 27 = .ok (.iconst 0, 1) := by decide +kernel
theorem dX8_drop_28 : decode cX8_drop 28 = .ok (.istore_n 3, 1) := by decide +kernel
theorem dX8_drop_29 : decode cX8_drop 29 = .ok (.iload_n 3, 1) := by decide +kernel
theorem dX8_drop_30 : decode cX8_drop 30 = .ok (.bipush 20, 2) := by decide +kernel
theorem dX8_drop_32 : decode cX8_drop 32 = .ok (.if_icmp .ge 21, 3) := by decide +kernel
theorem dX8_drop_35 : decode cX8_drop 35 = .ok (.aload_n 0, 1) := by decide +kernel
theorem dX8_drop_36 : decode cX8_drop 36 = .ok (.getfield 7, 3) := by decide +kernel
theorem dX8_drop_39 : decode cX8_drop 39 = .ok (.bipush 20, 2) := by decide +kernel
theorem dX8_drop_41 : decode cX8_drop 41 = .ok (.iload_n 1, 1) := by decide +kernel
theorem dX8_drop_42 : decode cX8_drop 42 = .ok (.imul, 1) := by decide +kernel
theorem dX8_drop_43 : decode cX8_drop 43 = .ok (.iload_n 3, 1) := by decide +kernel
theorem dX8_drop_44 : decode cX8_drop 44 = .ok (.iadd, 1) := by decide +kernel
theorem dX8_drop_45 : decode cX8_drop 45 = .ok (.iconst 0, 1) := by decide +kernel
theorem dX8_drop_46 : decode cX8_drop 46 = .ok (.iastore, 1) := by decide +kernel
theorem dX8_drop_47 : decode cX8_drop 47 = .ok (.iinc 3 1, 3) := by decide +kernel
theorem dX8_drop_50 : decode cX8_drop 50 = .ok (.goto (-21), 3) := by decide +kernel
theorem dX8_drop_53 : decode cX8_drop 53 = .ok (.iload_n 2, 1) := by decide +kernel
theorem dX8_drop_54 : decode cX8_drop 54 = .ok (.ireturn, 1) := by decide +kernel
set_option maxRecDepth 20000 in
theorem ggX8_height_X8_isSpot : GoodIn wsX8_height wsX8_isSpot := goodIn_r _ [7, 1, 8, 9, 10, 6, 11, 12, 13, 14, 15, 16, 17, 21, 22, 23, 24, 25, 26, 27, 28, 29, 30, 31, 32, 33, 34, 35, 36, 37, 38, 39, 40, 41, 42, 43, 44, 45, 46, 47, 48, 49] (by decide +kernel) (by decide +kernel)
set_option maxRecDepth 20000 in
theorem gX8_height_X8_isSpot : GoodIn wsX8_height (wsV RX8 208 RX8 yX8_isSpot wsX8_isSpot) := goodIn_app (goodIn_of _ (by decide +kernel)) ggX8_height_X8_isSpot
set_option maxRecDepth 20000 in
theorem ggX8_height_X8_at : GoodIn wsX8_height wsX8_at := goodIn_r _ [20] (by decide +kernel) (by decide +kernel)
set_option maxRecDepth 20000 in
theorem gX8_height_X8_at : GoodIn wsX8_height (va_wsS RX8 139 yX8_at wsX8_at) := goodIn_app (goodIn_of _ (by decide +kernel)) ggX8_height_X8_at
theorem dX8_height_0 : decode cX8_height 0 = .ok (.aload_n 0, 1) := by decide +kernel
theorem dX8_height_1 : decode cX8_height 1 = .ok (.iload_n 1, 1) := by decide +kernel
theorem dX8_height_2 : decode cX8_height 2 = .ok (.iload_n 2, 1) := by decide +kernel
theorem dX8_height_3 : decode cX8_height 3 = .ok (.iload_n 3, 1) := by decide +kernel
theorem dX8_height_4 : decode cX8_height 4 = .ok (.invokevirtual 208, 3) := by decide +kernel
theorem dX8_height_7 : decode cX8_height 7 = .ok (.ifCond .eq 21, 3) := by decide +kernel
theorem dX8_height_10 : decode cX8_height 10 = .ok (.aload_n 0, 1) := by decide +kernel
theorem dX8_height_11 : decode cX8_height 11 = .ok (.getfield 7, 3) := by decide +kernel
theorem dX8_height_14 : decode cX8_height 14 = .ok (.bipush 20, 2) := by decide +kernel
theorem dX8_height_16 : decode cX8_height 16 = .ok (.iload_n 1, 1) := by decide +kernel
theorem dX8_height_17 : decode cX8_height 17 = .ok (.imul, 1) := by decide +kernel
theorem dX8_height_18 : decode cX8_height 18 = .ok (.iload_n 2, 1) := by decide +kernel
theorem dX8_height_19 : decode cX8_height 19 = .ok (.iload_n 3, 1) := by decide +kernel
theorem dX8_height_20 : decode cX8_height 20 = .ok (.invokestatic 139, 3) := by decide +kernel
theorem dX8_height_23 : decode cX8_height 23 = .ok (.iadd, 1) := by decide +kernel
theorem dX8_height_24 : decode cX8_height 24 = .ok (.iaload, 1) := by decide +kernel
theorem dX8_height_25 : decode cX8_height 25 = .ok (.goto 5, 3) := by decide +kernel
theorem dX8_height_28 : decode cX8_height 28 = .ok (.ldc 105, 2) := by decide +kernel
theorem dX8_height_30 : decode cX8_height 30 = .ok (.ireturn, 1) := by decide +kernel
set_option maxRecDepth 20000 in
theorem ggX8_trace_X8_at : GoodIn wsX8_trace wsX8_at := goodIn_r _ [5] (by decide +kernel) (by decide +kernel)
set_option maxRecDepth 20000 in
theorem gX8_trace_X8_at : GoodIn wsX8_trace (va_wsS RX8 139 yX8_at wsX8_at) := goodIn_app (goodIn_of _ (by decide +kernel)) ggX8_trace_X8_at
theorem dX8_trace_0 : decode cX8_trace 0 = .ok (.iconst 0, 1) := by decide +kernel
theorem dX8_trace_1 : decode cX8_trace 1 = .ok (.istore_n 2, 1) := by decide +kernel
theorem dX8_trace_2 : decode cX8_trace 2 = .ok (.iconst 0, 1) := by decide +kernel
theorem dX8_trace_3 : decode cX8_trace 3 = .ok (.istore_n 3, 1) := by decide +kernel
theorem dX8_trace_4 : decode cX8_trace 4 = .ok (.iload_n 3, 1) := by decide +kernel
theorem dX8_trace_5 : decode cX8_trace 5 = .ok (.iconst 4, 1) := by decide +kernel
theorem dX8_trace_6 : decode cX8_trace 6 = .ok (.if_icmp .ge 24, 3) := by decide +kernel
theorem dX8_trace_9 : decode cX8_trace 9 = .ok (.iload_n 2, 1) := by decide +kernel
theorem dX8_trace_10 : decode cX8_trace 10 = .ok (.aload_n 0, 1) := by decide +kernel
theorem dX8_trace_11 : decode cX8_trace 11 = .ok (.getfield 7, 3) := by decide +kernel
theorem dX8_trace_14 : decode cX8_trace 14 = .ok (.iload_n 1, 1) := by decide +kernel
theorem dX8_trace_15 : decode cX8_trace 15 = .ok (.iload_n 3, 1) := by decide +kernel
theorem dX8_trace_16 : decode cX8_trace 16 = .ok (.iload_n 3, 1) := by decide +kernel
theorem dX8_trace_17 : decode cX8_trace 17 = .ok (.invokestatic 139, 3) := by decide +kernel
theorem dX8_trace_20 : decode cX8_trace 20 = .ok (.iadd, 1) := by decide +kernel
theorem dX8_trace_21 : decode cX8_trace 21 = .ok (.iaload, 1) := by decide +kernel
theorem dX8_trace_22 : decode cX8_trace 22 = .ok (.iadd, 1) := by decide +kernel
theorem dX8_trace_23 : decode cX8_trace 23 = .ok (.istore_n 2, 1) := by decide +kernel
theorem dX8_trace_24 : decode cX8_trace 24 = .ok (.iinc 3 1, 3) := by decide +kernel
theorem dX8_trace_27 : decode cX8_trace 27 = .ok (.goto (-23), 3) := by decide +kernel
theorem dX8_trace_30 : decode cX8_trace 30 = .ok (.iload_n 2, 1) := by decide +kernel
theorem dX8_trace_31 : decode cX8_trace 31 = .ok (.ireturn, 1) := by decide +kernel
set_option maxRecDepth 20000 in
theorem ggX8_corners_X8_canLay : GoodIn wsX8_corners wsX8_canLay := goodIn_r _ [5, 6, 7, 4, 8] (by decide +kernel) (by decide +kernel)
set_option maxRecDepth 20000 in
theorem gX8_corners_X8_canLay : GoodIn wsX8_corners (va_wsS RX8 211 yX8_canLay wsX8_canLay) := goodIn_app (goodIn_of _ (by decide +kernel)) ggX8_corners_X8_canLay
set_option maxRecDepth 20000 in
theorem ggX8_corners_X8_canTake : GoodIn wsX8_corners wsX8_canTake := goodIn_r _ [11, 6, 7, 4, 8] (by decide +kernel) (by decide +kernel)
set_option maxRecDepth 20000 in
theorem gX8_corners_X8_canTake : GoodIn wsX8_corners (va_wsS RX8 215 yX8_canTake wsX8_canTake) := goodIn_app (goodIn_of _ (by decide +kernel)) ggX8_corners_X8_canTake
theorem dX8_corners_0 : decode cX8_corners 0 = .ok (.iconst 0, 1) := by decide +kernel
theorem dX8_corners_1 : decode cX8_corners 1 = .ok (.istore_n 3, 1) := by decide +kernel
theorem dX8_corners_2 : decode cX8_corners 2 = .ok (.iconst 0, 1) := by decide +kernel
theorem dX8_corners_3 : decode cX8_corners 3 = .ok (.istore 4, 2) := by decide +kernel
theorem dX8_corners_5 : decode cX8_corners 5 = .ok (.iload 4, 2) := by decide +kernel
theorem dX8_corners_7 : decode cX8_corners 7 = .ok (.aload_n 0, 1) := by decide +kernel
theorem dX8_corners_8 : decode cX8_corners 8 = .ok (.getfield 7, 3) := by decide +kernel
theorem dX8_corners_11 : decode cX8_corners 11 = .ok (.iload_n 1, 1) := by decide +kernel
theorem dX8_corners_12 : decode cX8_corners 12 = .ok (.iconst 1, 1) := by decide +kernel
theorem dX8_corners_13 : decode cX8_corners 13 = .ok (.iadd, 1) := by decide +kernel
theorem dX8_corners_14 : decode cX8_corners 14 = .ok (.iaload, 1) := by decide +kernel
theorem dX8_corners_15 : decode cX8_corners 15 = .ok (.if_icmp .ge 77, 3) := by decide +kernel
theorem dX8_corners_18 : decode cX8_corners 18 = .ok (.iconst 0, 1) := by decide +kernel
theorem dX8_corners_19 : decode cX8_corners 19 = .ok (.istore 5, 2) := by decide +kernel
theorem dX8_corners_21 : decode cX8_corners 21 = .ok (.iload 5, 2) := by decide +kernel
theorem dX8_corners_23 : decode cX8_corners 23 = .ok (.aload_n 0, 1) := by decide +kernel
theorem dX8_corners_24 : decode cX8_corners 24 = .ok (.getfield 7, 3) := by decide +kernel
theorem dX8_corners_27 : decode cX8_corners 27 = .ok (.iload_n 1, 1) := by decide +kernel
theorem dX8_corners_28 : decode cX8_corners 28 = .ok (.iconst 2, 1) := by decide +kernel
theorem dX8_corners_29 : decode cX8_corners 29 = .ok (.iadd, 1) := by decide +kernel
theorem dX8_corners_30 : decode cX8_corners 30 = .ok (.iaload, 1) := by decide +kernel
theorem dX8_corners_31 : decode cX8_corners 31 = .ok (.if_icmp .ge 55, 3) := by decide +kernel
theorem dX8_corners_34 : decode cX8_corners 34 = .ok (.iload_n 2, 1) := by decide +kernel
theorem dX8_corners_35 : decode cX8_corners 35 = .ok (.ifCond .eq 18, 3) := by decide +kernel
theorem dX8_corners_38 : decode cX8_corners 38 = .ok (.aload_n 0, 1) := by decide +kernel
theorem dX8_corners_39 : decode cX8_corners 39 = .ok (.getfield 7, 3) := by decide +kernel
theorem dX8_corners_42 : decode cX8_corners 42 = .ok (.iload_n 1, 1) := by decide +kernel
theorem dX8_corners_43 : decode cX8_corners 43 = .ok (.iload 4, 2) := by decide +kernel
theorem dX8_corners_45 : decode cX8_corners 45 = .ok (.iload 5, 2) := by decide +kernel
theorem dX8_corners_47 : decode cX8_corners 47 = .ok (.invokestatic 211, 3) := by decide +kernel
theorem dX8_corners_50 : decode cX8_corners 50 = .ok (.goto 15, 3) := by decide +kernel
theorem dX8_corners_53 : decode cX8_corners 53 = .ok (.aload_n 0, 1) := by decide +kernel
theorem dX8_corners_54 : decode cX8_corners 54 = .ok (.getfield 7, 3) := by decide +kernel
theorem dX8_corners_57 : decode cX8_corners 57 = .ok (.iload_n 1, 1) := by decide +kernel
theorem dX8_corners_58 : decode cX8_corners 58 = .ok (.iload 4, 2) := by decide +kernel
theorem dX8_corners_60 : decode cX8_corners 60 = .ok (.iload 5, 2) := by decide +kernel
theorem dX8_corners_62 : decode cX8_corners 62 = .ok (.invokestatic 215, 3) := by decide +kernel
theorem dX8_corners_65 : decode cX8_corners 65 = .ok (.istore 6, 2) := by decide +kernel
theorem dX8_corners_67 : decode cX8_corners 67 = .ok (.iload_n 3, 1) := by decide +kernel
theorem dX8_corners_68 : decode cX8_corners 68 = .ok (.iload 6, 2) := by decide +kernel
theorem dX8_corners_70 : decode cX8_corners 70 = .ok (.ifCond .eq 7, 3) := by decide +kernel
theorem dX8_corners_73 : decode cX8_corners 73 = .ok (.iconst 1, 1) := by decide +kernel
theorem dX8_corners_74 : decode cX8_corners 74 = .ok (.goto 4, 3) := by decide +kernel
theorem dX8_corners_77 : decode cX8_corners 77 = .ok (.iconst 0, 1) := by decide +kernel
theorem dX8_corners_78 : decode cX8_corners 78 = .ok (.iadd, 1) := by decide +kernel
theorem dX8_corners_79 : decode cX8_corners 79 = .ok (.istore_n 3, 1) := by decide +kernel
theorem dX8_corners_80 : decode cX8_corners 80 = .ok (.iinc 5 1, 3) := by decide +kernel
theorem dX8_corners_83 : decode cX8_corners 83 = .ok (.goto (-62), 3) := by decide +kernel
theorem dX8_corners_86 : decode cX8_corners 86 = .ok (.iinc 4 1, 3) := by decide +kernel
theorem dX8_corners_89 : decode cX8_corners 89 = .ok (.goto (-84), 3) := by decide +kernel
theorem dX8_corners_92 : decode cX8_corners 92 = .ok (.iload_n 3, 1) := by decide +kernel
theorem dX8_corners_93 : decode cX8_corners 93 = .ok (.ireturn, 1) := by decide +kernel
set_option maxRecDepth 20000 in
theorem ggX8_symmetries_X8_turns : GoodIn wsX8_symmetries wsX8_turns := goodIn_r _ [6, 7, 8, 5, 9, 10, 11, 12, 13, 14, 15] (by decide +kernel) (by decide +kernel)
set_option maxRecDepth 20000 in
theorem gX8_symmetries_X8_turns : GoodIn wsX8_symmetries (va_wsS RX8 222 yX8_turns wsX8_turns) := goodIn_app (goodIn_of _ (by decide +kernel)) ggX8_symmetries_X8_turns
set_option maxRecDepth 20000 in
theorem ggX8_symmetries_X8_isSame : GoodIn wsX8_symmetries wsX8_isSame := goodIn_r _ [18] (by decide +kernel) (by decide +kernel)
set_option maxRecDepth 20000 in
theorem gX8_symmetries_X8_isSame : GoodIn wsX8_symmetries (va_wsS RX8 181 yX8_isSame wsX8_isSame) := goodIn_app (goodIn_of _ (by decide +kernel)) ggX8_symmetries_X8_isSame
theorem dX8_symmetries_0 : decode cX8_symmetries 0 = .ok (.iconst 0, 1) := by decide +kernel
theorem dX8_symmetries_1 : decode cX8_symmetries 1 = .ok (.istore_n 3, 1) := by decide +kernel
theorem dX8_symmetries_2 : decode cX8_symmetries 2 = .ok (.iconst 0, 1) := by decide +kernel
theorem dX8_symmetries_3 : decode cX8_symmetries 3 = .ok (.istore 4, 2) := by decide +kernel
theorem dX8_symmetries_5 : decode cX8_symmetries 5 = .ok (.iload 4, 2) := by decide +kernel
theorem dX8_symmetries_7 : decode cX8_symmetries 7 = .ok (.iconst 3, 1) := by decide +kernel
theorem dX8_symmetries_8 : decode cX8_symmetries 8 = .ok (.if_icmp .ge 46, 3) := by decide +kernel
theorem dX8_symmetries_11 : decode cX8_symmetries 11 = .ok (.aload_n 1, 1) := by decide +kernel
theorem dX8_symmetries_12 : decode cX8_symmetries 12 = .ok (.iload_n 2, 1) := by decide +kernel
theorem dX8_symmetries_13 : decode cX8_symmetries 13 = .ok (.iload 4, 2) := by decide +kernel
theorem dX8_symmetries_15 : decode cX8_symmetries 15 = .ok (.aload_n 0, 1) := by decide +kernel
theorem dX8_symmetries_16 : decode cX8_symmetries 16 = .ok (.getfield 29, 3) := by decide +kernel
theorem dX8_symmetries_19 : decode cX8_symmetries 19 = .ok (.invokestatic 222, 3) := by decide +kernel
theorem dX8_symmetries_22 : decode cX8_symmetries 22 = .ok (.iload_n 3, 1) := by decide +kernel
theorem dX8_symmetries_23 : decode cX8_symmetries 23 = .ok (.aload_n 1, 1) := by decide +kernel
theorem dX8_symmetries_24 : decode cX8_symmetries 24 = .ok (.iload_n 2, 1) := by decide +kernel
theorem dX8_symmetries_25 : decode cX8_symmetries 25 = .ok (.aload_n 0, 1) := by decide +kernel
theorem dX8_symmetries_26 : decode cX8_symmetries 26 = .ok (.getfield 29, 3) := by decide +kernel
theorem dX8_symmetries_29 : decode cX8_symmetries 29 = .ok (.iconst 0, 1) := by decide +kernel
theorem dX8_symmetries_30 : decode cX8_symmetries 30 = .ok (.bipush 20, 2) := by decide +kernel
theorem dX8_symmetries_32 : decode cX8_symmetries 32 = .ok (.invokestatic 181, 3) := by decide +kernel
theorem dX8_symmetries_35 : decode cX8_symmetries 35 = .ok (.ifCond .eq 10, 3) := by decide +kernel
theorem dX8_symmetries_38 : decode cX8_symmetries 38 = .ok (.iconst 1, 1) := by decide +kernel
theorem dX8_symmetries_39 : decode cX8_symmetries 39 = .ok (.iload 4, 2) := by decide +kernel
theorem dX8_symmetries_41 : decode cX8_symmetries 41 = .ok (.ishl, 1) := by decide +kernel
theorem dX8_symmetries_42 : decode cX8_symmetries 42 = .ok (.goto 4, 3) := by decide +kernel
theorem dX8_symmetries_45 : decode cX8_symmetries 45 = .ok (.iconst 0, 1) := by decide +kernel
theorem dX8_symmetries_46 : decode cX8_symmetries 46 = .ok (.ior, 1) := by decide +kernel
theorem dX8_symmetries_47 : decode cX8_symmetries 47 = .ok (.istore_n 3, 1) := by decide +kernel
theorem dX8_symmetries_48 : decode cX8_symmetries 48 = .ok (.iinc 4 1, 3) := by decide +kernel
theorem dX8_symmetries_51 : decode cX8_symmetries 51 = .ok (.goto (-46), 3) := by decide +kernel
theorem dX8_symmetries_54 : decode cX8_symmetries 54 = .ok (.aload_n 1, 1) := by decide +kernel
theorem dX8_symmetries_55 : decode cX8_symmetries 55 = .ok (.iload_n 2, 1) := by decide +kernel
theorem dX8_symmetries_56 : decode cX8_symmetries 56 = .ok (.iconst 0, 1) := by decide +kernel
theorem dX8_symmetries_57 : decode cX8_symmetries 57 = .ok (.aload_n 0, 1) := by decide +kernel
theorem dX8_symmetries_58 : decode cX8_symmetries 58 = .ok (.getfield 29, 3) := by decide +kernel
theorem dX8_symmetries_61 : decode cX8_symmetries 61 = .ok (.invokestatic 222, 3) := by decide +kernel
theorem dX8_symmetries_64 : decode cX8_symmetries 64 = .ok (.aload_n 0, 1) := by decide +kernel
theorem dX8_symmetries_65 : decode cX8_symmetries 65 = .ok (.getfield 29, 3) := by decide +kernel
theorem dX8_symmetries_68 : decode cX8_symmetries 68 = .ok (.iconst 0, 1) := by decide +kernel
theorem dX8_symmetries_69 : decode cX8_symmetries 69 = .ok (.iconst 2, 1) := by decide +kernel
theorem dX8_symmetries_70 : decode cX8_symmetries 70 = .ok (.aload_n 0, 1) := by decide +kernel
theorem dX8_symmetries_71 : decode cX8_symmetries 71 = .ok (.getfield 41, 3) := by decide +kernel
theorem dX8_symmetries_74 : decode cX8_symmetries 74 = .ok (.invokestatic 222, 3) := by decide +kernel
theorem dX8_symmetries_77 : decode cX8_symmetries 77 = .ok (.iload_n 3, 1) := by decide +kernel
theorem dX8_symmetries_78 : decode cX8_symmetries 78 = .ok (.aload_n 1, 1) := by decide +kernel
theorem dX8_symmetries_79 : decode cX8_symmetries 79 = .ok (.iload_n 2, 1) := by decide +kernel
theorem dX8_symmetries_80 : decode cX8_symmetries 80 = .ok (.aload_n 0, 1) := by decide +kernel
theorem dX8_symmetries_81 : decode cX8_symmetries 81 = .ok (.getfield 41, 3) := by decide +kernel
theorem dX8_symmetries_84 : decode cX8_symmetries 84 = .ok (.iconst 0, 1) := by decide +kernel
theorem dX8_symmetries_85 : decode cX8_symmetries 85 = .ok (.bipush 20, 2) := by decide +kernel
theorem dX8_symmetries_87 : decode cX8_symmetries 87 = .ok (.invokestatic 181, 3) := by decide +kernel
theorem dX8_symmetries_90 : decode cX8_symmetries 90 = .ok (.ifCond .eq 8, 3) := by decide +kernel
theorem dX8_symmetries_93 : decode cX8_symmetries 93 = .ok (.bipush 8, 2) := by decide +kernel
theorem dX8_symmetries_95 : decode cX8_symmetries 95 = .ok (.goto 4, 3) := by decide +kernel
theorem dX8_symmetries_98 : decode cX8_symmetries 98 = .ok (.iconst 0, 1) := by decide +kernel
theorem dX8_symmetries_99 : decode cX8_symmetries 99 = .ok (.ior, 1) := by decide +kernel
theorem dX8_symmetries_100 : decode cX8_symmetries 100 = .ok (.ireturn, 1) := by decide +kernel
set_option maxRecDepth 20000 in
theorem ggX8_laysKin_X8_bring : GoodIn wsX8_laysKin wsX8_bring := goodIn_r _ [8] (by decide +kernel) (by decide +kernel)
set_option maxRecDepth 20000 in
theorem gX8_laysKin_X8_bring : GoodIn wsX8_laysKin (va_wsS RX8 93 yX8_bring wsX8_bring) := goodIn_app (goodIn_of _ (by decide +kernel)) ggX8_laysKin_X8_bring
set_option maxRecDepth 20000 in
theorem ggX8_laysKin_X8_turns : GoodIn wsX8_laysKin wsX8_turns := goodIn_r _ [11, 12, 13, 7, 14, 15, 16, 17, 18, 19, 20] (by decide +kernel) (by decide +kernel)
set_option maxRecDepth 20000 in
theorem gX8_laysKin_X8_turns : GoodIn wsX8_laysKin (va_wsS RX8 222 yX8_turns wsX8_turns) := goodIn_app (goodIn_of _ (by decide +kernel)) ggX8_laysKin_X8_turns
set_option maxRecDepth 20000 in
theorem ggX8_laysKin_X8_isSame : GoodIn wsX8_laysKin wsX8_isSame := goodIn_r _ [23] (by decide +kernel) (by decide +kernel)
set_option maxRecDepth 20000 in
theorem gX8_laysKin_X8_isSame : GoodIn wsX8_laysKin (va_wsS RX8 181 yX8_isSame wsX8_isSame) := goodIn_app (goodIn_of _ (by decide +kernel)) ggX8_laysKin_X8_isSame
theorem dX8_laysKin_0 : decode cX8_laysKin 0 = .ok (.aload_n 0, 1) := by decide +kernel
theorem dX8_laysKin_1 : decode cX8_laysKin 1 = .ok (.getfield 7, 3) := by decide +kernel
theorem dX8_laysKin_4 : decode cX8_laysKin 4 = .ok (.iload_n 1, 1) := by decide +kernel
theorem dX8_laysKin_5 : decode cX8_laysKin 5 = .ok (.aload_n 0, 1) := by decide +kernel
theorem dX8_laysKin_6 : decode cX8_laysKin 6 = .ok (.getfield 44, 3) := by decide +kernel
theorem dX8_laysKin_9 : decode cX8_laysKin 9 = .ok (.iconst 0, 1) := by decide +kernel
theorem dX8_laysKin_10 : decode cX8_laysKin 10 = .ok (.bipush 20, 2) := by decide +kernel
theorem dX8_laysKin_12 : decode cX8_laysKin 12 = .ok (.invokestatic 93, 3) := by decide +kernel
theorem dX8_laysKin_15 : decode cX8_laysKin 15 = .ok (.aload_n 0, 1) := by decide +kernel
theorem dX8_laysKin_16 : decode cX8_laysKin 16 = .ok (.iconst 1, 1) := by decide +kernel
theorem dX8_laysKin_17 : decode cX8_laysKin 17 = .ok (.putfield 229, 3) := by decide +kernel
theorem dX8_laysKin_20 : decode cX8_laysKin 20 = .ok (.iconst 0, 1) := by decide +kernel
theorem dX8_laysKin_21 : decode cX8_laysKin 21 = .ok (.istore_n 2, 1) := by decide +kernel
theorem dX8_laysKin_22 : decode cX8_laysKin 22 = .ok (.iload_n 2, 1) := by decide +kernel
theorem dX8_laysKin_23 : decode cX8_laysKin 23 = .ok (.aload_n 0, 1) := by decide +kernel
theorem dX8_laysKin_24 : decode cX8_laysKin 24 = .ok (.getfield 229, 3) := by decide +kernel
theorem dX8_laysKin_27 : decode cX8_laysKin 27 = .ok (.if_icmp .ge 142, 3) := by decide +kernel
theorem dX8_laysKin_30 : decode cX8_laysKin 30 = .ok (.iconst 0, 1) := by decide +kernel
theorem dX8_laysKin_31 : decode cX8_laysKin 31 = .ok (.istore_n 3, 1) := by decide +kernel
theorem dX8_laysKin_32 : decode cX8_laysKin 32 = .ok (.iload_n 3, 1) := by decide +kernel
theorem dX8_laysKin_33 : decode cX8_laysKin 33 = .ok (.iconst 3, 1) := by decide +kernel
theorem dX8_laysKin_34 : decode cX8_laysKin 34 = .ok (.if_icmp .ge 129, 3) := by decide +kernel
theorem dX8_laysKin_37 : decode cX8_laysKin 37 = .ok (.aload_n 0, 1) := by decide +kernel
theorem dX8_laysKin_38 : decode cX8_laysKin 38 = .ok (.getfield 44, 3) := by decide +kernel
theorem dX8_laysKin_41 : decode cX8_laysKin 41 = .ok (.bipush 20, 2) := by decide +kernel
theorem dX8_laysKin_43 : decode cX8_laysKin 43 = .ok (.iload_n 2, 1) := by decide +kernel
theorem dX8_laysKin_44 : decode cX8_laysKin 44 = .ok (.imul, 1) := by decide +kernel
theorem dX8_laysKin_45 : decode cX8_laysKin 45 = .ok (.iload_n 3, 1) := by decide +kernel
theorem dX8_laysKin_46 : decode cX8_laysKin 46 = .ok (.aload_n 0, 1) := by decide +kernel
theorem dX8_laysKin_47 : decode cX8_laysKin 47 = .ok (.getfield 29, 3) := by decide +kernel
theorem dX8_laysKin_50 : decode cX8_laysKin 50 = .ok (.invokestatic 222, 3) := by decide +kernel
theorem dX8_laysKin_53 : decode cX8_laysKin 53 = .ok (.aload_n 0, 1) := by decide +kernel
theorem dX8_laysKin_54 : decode cX8_laysKin 54 = .ok (.getfield 229, 3) := by decide +kernel
theorem dX8_laysKin_57 : decode cX8_laysKin 57 = .ok (.bipush 12, 2) := by decide +kernel
theorem dX8_laysKin_59 : decode cX8_laysKin 59 = .ok (.if_icmp .ge 7, 3) := by decide +kernel
theorem dX8_laysKin_62 : decode cX8_laysKin 62 = .ok (.iconst 1, 1) := by decide +kernel
theorem dX8_laysKin_63 : decode cX8_laysKin 63 = .ok (.goto 4, 3) := by decide +kernel
theorem dX8_laysKin_66 : decode cX8_laysKin 66 = .ok (.iconst 0, 1) := by decide +kernel
theorem dX8_laysKin_67 : decode cX8_laysKin 67 = .ok (.istore 4, 2) := by decide +kernel
theorem dX8_laysKin_69 : decode cX8_laysKin 69 = .ok (.iconst 0, 1) := by decide +kernel
theorem dX8_laysKin_70 : decode cX8_laysKin 70 = .ok (.istore 5, 2) := by decide +kernel
theorem dX8_laysKin_72 : decode cX8_laysKin 72 = .ok (.iload 5, 2) := by decide +kernel
theorem dX8_laysKin_74 : decode cX8_laysKin 74 = .ok (.aload_n 0, 1) := by decide +kernel
theorem dX8_laysKin_75 : decode cX8_laysKin 75 = .ok (.getfield 229, 3) := by decide +kernel
theorem dX8_laysKin_78 : decode cX8_laysKin 78 = .ok (.if_icmp .ge 43, 3) := by decide +kernel
theorem dX8_laysKin_81 : decode cX8_laysKin 81 = .ok (.iload 4, 2) := by decide +kernel
theorem dX8_laysKin_83 : decode cX8_laysKin 83 = .ok (.ifCond .eq 29, 3) := by decide +kernel
theorem dX8_laysKin_86 : decode cX8_laysKin 86 = .ok (.aload_n 0, 1) := by decide +kernel
theorem dX8_laysKin_87 : decode cX8_laysKin 87 = .ok (.getfield 44, 3) := by decide +kernel
theorem dX8_laysKin_90 : decode cX8_laysKin 90 = .ok (.bipush 20, 2) := by decide +kernel
theorem dX8_laysKin_92 : decode cX8_laysKin 92 = .ok (.iload 5, 2) := by decide +kernel
theorem dX8_laysKin_94 : decode cX8_laysKin 94 = .ok (.imul, 1) := by decide +kernel
theorem dX8_laysKin_95 : decode cX8_laysKin 95 = .ok (.aload_n 0, 1) := by decide +kernel
theorem dX8_laysKin_96 : decode cX8_laysKin 96 = .ok (.getfield 29, 3) := by decide +kernel
theorem dX8_laysKin_99 : decode cX8_laysKin 99 = .ok (.iconst 0, 1) := by decide +kernel
theorem dX8_laysKin_100 : decode cX8_laysKin 100 = .ok (.bipush 20, 2) := by decide +kernel
theorem dX8_laysKin_102 : decode cX8_laysKin 102 = .ok (.invokestatic 181, 3) := by decide +kernel
theorem dX8_laysKin_105 : decode cX8_laysKin 105 = .ok (.ifCond .ne 7, 3) := by decide +kernel
theorem dX8_laysKin_108 : decode cX8_laysKin 108 = .ok (.iconst 1, 1) := by decide +kernel
theorem dX8_laysKin_109 : decode cX8_laysKin 109 = .ok (.goto 4, 3) := by decide +kernel
theorem dX8_laysKin_112 : decode cX8_laysKin 112 = .ok (.iconst 0, 1) := by decide +kernel
theorem dX8_laysKin_113 : decode cX8_laysKin 113 = .ok (.istore 4, 2) := by decide +kernel
theorem dX8_laysKin_115 : decode cX8_laysKin 115 = .ok (.iinc 5 1, 3) := by decide +kernel
theorem dX8_laysKin_118 : decode cX8_laysKin 118 = .ok (.goto (-46), 3) := by decide +kernel
theorem dX8_laysKin_121 : decode cX8_laysKin 121 = .ok (.iload 4, 2) := by decide +kernel
theorem dX8_laysKin_123 : decode cX8_laysKin 123 = .ok (.ifCond .eq 34, 3) := by decide +kernel
theorem dX8_laysKin_126 : decode cX8_laysKin 126 = .ok (.aload_n 0, 1) := by decide +kernel
theorem dX8_laysKin_127 : decode cX8_laysKin 127 = .ok (.getfield 29, 3) := by decide +kernel
theorem dX8_laysKin_130 : decode cX8_laysKin 130 = .ok (.iconst 0, 1) := by decide +kernel
theorem dX8_laysKin_131 : decode cX8_laysKin 131 = .ok (.aload_n 0, 1) := by decide +kernel
theorem dX8_laysKin_132 : decode cX8_laysKin 132 = .ok (.getfield 44, 3) := by decide +kernel
theorem dX8_laysKin_135 : decode cX8_laysKin 135 = .ok (.bipush 20, 2) := by decide +kernel
theorem dX8_laysKin_137 : decode cX8_laysKin 137 = .ok (.aload_n 0, 1) := by decide +kernel
theorem dX8_laysKin_138 : decode cX8_laysKin 138 = .ok (.getfield 229, 3) := by decide +kernel
theorem dX8_laysKin_141 : decode cX8_laysKin 141 = .ok (.imul, 1) := by decide +kernel
theorem dX8_laysKin_142 : decode cX8_laysKin 142 = .ok (.bipush 20, 2) := by decide +kernel
theorem dX8_laysKin_144 : decode cX8_laysKin 144 = .ok (.invokestatic 93, 3) := by decide +kernel
theorem dX8_laysKin_147 : decode cX8_laysKin 147 = .ok (.aload_n 0, 1) := by decide +kernel
theorem dX8_laysKin_148 : decode cX8_laysKin 148 = .ok (.dup, 1) := by decide +kernel
theorem dX8_laysKin_149 : decode cX8_laysKin 149 = .ok (.getfield 229, 3) := by decide +kernel
theorem dX8_laysKin_152 : decode cX8_laysKin 152 = .ok (.iconst 1, 1) := by decide +kernel
theorem dX8_laysKin_153 : decode cX8_laysKin 153 = .ok (.iadd, 1) := by decide +kernel
theorem dX8_laysKin_154 : decode cX8_laysKin 154 = .ok (.putfield 229, 3) := by decide +kernel
theorem dX8_laysKin_157 : decode cX8_laysKin 157 = .ok (.iinc 3 1, 3) := by decide +kernel
theorem dX8_laysKin_160 : decode cX8_laysKin 160 = .ok (.goto (-128), 3) := by decide +kernel
theorem dX8_laysKin_163 : decode cX8_laysKin 163 = .ok (.iinc 2 1, 3) := by decide +kernel
theorem dX8_laysKin_166 : decode cX8_laysKin 166 = .ok (.goto (-144), 3) := by decide +kernel
theorem dX8_laysKin_169 : decode cX8_laysKin 169 = .ok (.return_, 1) := by decide +kernel
theorem dX8_isAhead_0 : decode cX8_isAhead 0 = .ok (.iconst 0, 1) := by decide +kernel
theorem dX8_isAhead_1 : decode cX8_isAhead 1 = .ok (.istore_n 3, 1) := by decide +kernel
theorem dX8_isAhead_2 : decode cX8_isAhead 2 = .ok (.iload_n 3, 1) := by decide +kernel
theorem dX8_isAhead_3 : decode cX8_isAhead 3 = .ok (.bipush 19, 2) := by decide +kernel
theorem dX8_isAhead_5 : decode cX8_isAhead 5 = .ok (.if_icmp .ge 34, 3) := by decide +kernel
theorem dX8_isAhead_8 : decode cX8_isAhead 8 = .ok (.aload_n 0, 1) := by decide +kernel
theorem dX8_isAhead_9 : decode cX8_isAhead 9 = .ok (.getfield 44, 3) := by decide +kernel
theorem dX8_isAhead_12 : decode cX8_isAhead 12 = .ok (.bipush 20, 2) := by decide +kernel
theorem dX8_isAhead_14 : decode cX8_isAhead 14 = .ok (.iload_n 1, 1) := by decide +kernel
theorem dX8_isAhead_15 : decode cX8_isAhead 15 = .ok (.imul, 1) := by decide +kernel
theorem dX8_isAhead_16 : decode cX8_isAhead 16 = .ok (.iload_n 3, 1) := by decide +kernel
theorem dX8_isAhead_17 : decode cX8_isAhead 17 = .ok (.iadd, 1) := by decide +kernel
theorem dX8_isAhead_18 : decode cX8_isAhead 18 = .ok (.iaload, 1) := by decide +kernel
theorem dX8_isAhead_19 : decode cX8_isAhead 19 = .ok (.aload_n 0, 1) := by decide +kernel
theorem dX8_isAhead_20 : decode cX8_isAhead 20 = .ok (.getfield 44, 3) := by decide +kernel
theorem dX8_isAhead_23 : decode cX8_isAhead 23 = .ok (.bipush 20, 2) := by decide +kernel
theorem dX8_isAhead_25 : decode cX8_isAhead 25 = .ok (.iload_n 2, 1) := by decide +kernel
theorem dX8_isAhead_26 : decode cX8_isAhead 26 = .ok (.imul, 1) := by decide +kernel
theorem dX8_isAhead_27 : decode cX8_isAhead 27 = .ok (.iload_n 3, 1) := by decide +kernel
theorem dX8_isAhead_28 : decode cX8_isAhead 28 = .ok (.iadd, 1) := by decide +kernel
theorem dX8_isAhead_29 : decode cX8_isAhead 29 = .ok (.iaload, 1) := by decide +kernel
theorem dX8_isAhead_30 : decode cX8_isAhead 30 = .ok (.if_icmp .ne 9, 3) := by decide +kernel
theorem dX8_isAhead_33 : decode cX8_isAhead 33 = .ok (.iinc 3 1, 3) := by decide +kernel
theorem dX8_isAhead_36 : decode cX8_isAhead 36 = .ok (.goto (-34), 3) := by decide +kernel
theorem dX8_isAhead_39 : decode cX8_isAhead 39 = .ok (.aload_n 0, 1) := by decide +kernel
theorem dX8_isAhead_40 : decode cX8_isAhead 40 = .ok (.getfield 44, 3) := by decide +kernel
theorem dX8_isAhead_43 : decode cX8_isAhead 43 = .ok (.bipush 20, 2) := by decide +kernel
theorem dX8_isAhead_45 : decode cX8_isAhead 45 = .ok (.iload_n 1, 1) := by decide +kernel
theorem dX8_isAhead_46 : decode cX8_isAhead 46 = .ok (.imul, 1) := by decide +kernel
theorem dX8_isAhead_47 : decode cX8_isAhead 47 = .ok (.iload_n 3, 1) := by decide +kernel
theorem dX8_isAhead_48 : decode cX8_isAhead 48 = .ok (.iadd, 1) := by decide +kernel
theorem dX8_isAhead_49 : decode cX8_isAhead 49 = .ok (.iaload, 1) := by decide +kernel
theorem dX8_isAhead_50 : decode cX8_isAhead 50 = .ok (.aload_n 0, 1) := by decide +kernel
theorem dX8_isAhead_51 : decode cX8_isAhead 51 = .ok (.getfield 44, 3) := by decide +kernel
theorem dX8_isAhead_54 : decode cX8_isAhead 54 = .ok (.bipush 20, 2) := by decide +kernel
theorem dX8_isAhead_56 : decode cX8_isAhead 56 = .ok (.iload_n 2, 1) := by decide +kernel
theorem dX8_isAhead_57 : decode cX8_isAhead 57 = .ok (.imul, 1) := by decide +kernel
theorem dX8_isAhead_58 : decode cX8_isAhead 58 = .ok (.iload_n 3, 1) := by decide +kernel
theorem dX8_isAhead_59 : decode cX8_isAhead 59 = .ok (.iadd, 1) := by decide +kernel
theorem dX8_isAhead_60 : decode cX8_isAhead 60 = .ok (.iaload, 1) := by decide +kernel
theorem dX8_isAhead_61 : decode cX8_isAhead 61 = .ok (.if_icmp .ge 7, 3) := by decide +kernel
theorem dX8_isAhead_64 : decode cX8_isAhead 64 = .ok (.iconst 1, 1) := by decide +kernel
theorem dX8_isAhead_65 : decode cX8_isAhead 65 = .ok (.goto 4, 3) := by decide +kernel
theorem dX8_isAhead_68 : decode cX8_isAhead 68 = .ok (.iconst 0, 1) := by decide +kernel
theorem dX8_isAhead_69 : decode cX8_isAhead 69 = .ok (.ireturn, 1) := by decide +kernel
set_option maxRecDepth 20000 in
theorem ggX8_kin_X8_isHeap : GoodIn wsX8_kin wsX8_isHeap := goodIn_r _ [9, 10, 11, 12, 8, 13, 14, 15, 16, 67, 68, 69, 70, 71, 72, 73, 74, 75, 76, 77, 78, 79, 80, 81, 82, 83, 84, 85, 86, 87, 88, 89, 90, 91, 92, 93, 94, 95] (by decide +kernel) (by decide +kernel)
set_option maxRecDepth 20000 in
theorem gX8_kin_X8_isHeap : GoodIn wsX8_kin (wsV RX8 205 RX8 yX8_isHeap wsX8_isHeap) := goodIn_app (goodIn_of _ (by decide +kernel)) ggX8_kin_X8_isHeap
set_option maxRecDepth 20000 in
theorem ggX8_kin_X8_laysKin : GoodIn wsX8_kin wsX8_laysKin := goodIn_r _ [20, 10, 3, 2, 21, 22, 23, 8, 24, 25, 26, 27, 28, 29, 30, 31, 32, 33, 34, 35, 36, 37, 38, 39, 67, 68, 69, 70, 71, 72, 73, 74, 75, 76, 77, 78, 79, 80, 81, 82, 83, 84, 85, 86, 87, 88, 89, 90, 91, 92, 93, 94, 95] (by decide +kernel) (by decide +kernel)
set_option maxRecDepth 20000 in
theorem gX8_kin_X8_laysKin : GoodIn wsX8_kin (wsV RX8 232 RX8 yX8_laysKin wsX8_laysKin) := goodIn_app (goodIn_of _ (by decide +kernel)) ggX8_kin_X8_laysKin
set_option maxRecDepth 20000 in
theorem ggX8_kin_X8_isAhead : GoodIn wsX8_kin wsX8_isAhead := goodIn_r _ [43, 3, 67, 68, 69, 70, 71, 72, 73, 74, 75, 76, 77, 78, 79, 80, 81, 82, 83, 84, 85, 86, 87, 88, 89, 90, 91, 92, 93, 94, 95] (by decide +kernel) (by decide +kernel)
set_option maxRecDepth 20000 in
theorem gX8_kin_X8_isAhead : GoodIn wsX8_kin (wsV RX8 235 RX8 yX8_isAhead wsX8_isAhead) := goodIn_app (goodIn_of _ (by decide +kernel)) ggX8_kin_X8_isAhead
set_option maxRecDepth 20000 in
theorem ggX8_kin_X8_numberOf : GoodIn wsX8_kin wsX8_numberOf := goodIn_r _ [47, 48, 49, 50, 51, 52, 8, 53, 54, 55, 56, 57, 58, 59, 60, 61, 62, 63, 64, 65, 66, 31, 32, 33, 37, 38, 39, 67, 68, 69, 70, 71, 72, 73, 74, 75, 76, 77, 78, 79, 80, 81, 82, 83, 84, 85, 86, 87, 88, 89, 90, 91, 92, 93, 94, 95] (by decide +kernel) (by decide +kernel)
set_option maxRecDepth 20000 in
theorem gX8_kin_X8_numberOf : GoodIn wsX8_kin (wsV RX8 238 RX8 yX8_numberOf wsX8_numberOf) := goodIn_app (goodIn_of _ (by decide +kernel)) ggX8_kin_X8_numberOf
theorem dX8_kin_0 : decode cX8_kin 0 = .ok (.aload_n 0, 1) := by decide +kernel
theorem dX8_kin_1 : decode cX8_kin 1 = .ok (.iload_n 1, 1) := by decide +kernel
theorem dX8_kin_2 : decode cX8_kin 2 = .ok (.invokevirtual 205, 3) := by decide +kernel
theorem dX8_kin_5 : decode cX8_kin 5 = .ok (.ifCond .eq 7, 3) := by decide +kernel
theorem dX8_kin_8 : decode cX8_kin 8 = .ok (.iload_n 2, 1) := by decide +kernel
theorem dX8_kin_9 : decode cX8_kin 9 = .ok (.ifCond .ge 6, 3) := by decide +kernel
theorem dX8_kin_12 : decode cX8_kin 12 = .ok (.ldc 105, 2) := by decide +kernel
theorem dX8_kin_14 : decode cX8_kin 14 = .ok (.ireturn, 1) := by decide +kernel
theorem dX8_kin_15 : decode cX8_kin 15 = .ok (.aload_n 0, 1) := by decide +kernel
theorem dX8_kin_16 : decode cX8_kin 16 = .ok (.bipush 20, 2) := by decide +kernel
theorem dX8_kin_18 : decode cX8_kin 18 = .ok (.iload_n 1, 1) := by decide +kernel
theorem dX8_kin_19 : decode cX8_kin 19 = .ok (.imul, 1) := by decide +kernel
theorem dX8_kin_20 : decode cX8_kin 20 = .ok (.invokevirtual 232, 3) := by decide +kernel
theorem dX8_kin_23 : decode cX8_kin 23 = .ok (.iconst 0, 1) := by decide +kernel
theorem dX8_kin_24 : decode cX8_kin 24 = .ok (.istore_n 3, 1) := by decide +kernel
theorem dX8_kin_25 : decode cX8_kin 25 = .ok (.iload_n 3, 1) := by decide +kernel
theorem dX8_kin_26 : decode cX8_kin 26 = .ok (.aload_n 0, 1) := by decide +kernel
theorem dX8_kin_27 : decode cX8_kin 27 = .ok (.getfield 229, 3) := by decide +kernel
theorem dX8_kin_30 : decode cX8_kin 30 = .ok (.if_icmp .ge 69, 3) := by decide +kernel
theorem dX8_kin_33 : decode cX8_kin 33 = .ok (.iconst 0, 1) := by decide +kernel
theorem dX8_kin_34 : decode cX8_kin 34 = .ok (.istore 4, 2) := by decide +kernel
theorem dX8_kin_36 : decode cX8_kin 36 = .ok (.iconst 0, 1) := by decide +kernel
theorem dX8_kin_37 : decode cX8_kin 37 = .ok (.istore 5, 2) := by decide +kernel
theorem dX8_kin_39 : decode cX8_kin 39 = .ok (.iload 5, 2) := by decide +kernel
theorem dX8_kin_41 : decode cX8_kin 41 = .ok (.aload_n 0, 1) := by decide +kernel
theorem dX8_kin_42 : decode cX8_kin 42 = .ok (.getfield 229, 3) := by decide +kernel
theorem dX8_kin_45 : decode cX8_kin 45 = .ok (.if_icmp .ge 29, 3) := by decide +kernel
theorem dX8_kin_48 : decode cX8_kin 48 = .ok (.iload 4, 2) := by decide +kernel
theorem dX8_kin_50 : decode cX8_kin 50 = .ok (.aload_n 0, 1) := by decide +kernel
theorem dX8_kin_51 : decode cX8_kin 51 = .ok (.iload 5, 2) := by decide +kernel
theorem dX8_kin_53 : decode cX8_kin 53 = .ok (.iload_n 3, 1) := by decide +kernel
theorem dX8_kin_54 : decode cX8_kin 54 = .ok (.invokevirtual 235, 3) := by decide +kernel
theorem dX8_kin_57 : decode cX8_kin 57 = .ok (.ifCond .eq 7, 3) := by decide +kernel
theorem dX8_kin_60 : decode cX8_kin 60 = .ok (.iconst 1, 1) := by decide +kernel
theorem dX8_kin_61 : decode cX8_kin 61 = .ok (.goto 4, 3) := by decide +kernel
theorem dX8_kin_64 : decode cX8_kin 64 = .ok (.iconst 0, 1) := by decide +kernel
theorem dX8_kin_65 : decode cX8_kin 65 = .ok (.iadd, 1) := by decide +kernel
theorem dX8_kin_66 : decode cX8_kin 66 = .ok (.istore 4, 2) := by decide +kernel
theorem dX8_kin_68 : decode cX8_kin 68 = .ok (.iinc 5 1, 3) := by decide +kernel
theorem dX8_kin_71 : decode cX8_kin 71 = .ok (.goto (-32), 3) := by decide +kernel
theorem dX8_kin_74 : decode cX8_kin 74 = .ok (.iload 4, 2) := by decide +kernel
theorem dX8_kin_76 : decode cX8_kin 76 = .ok (.iload_n 2, 1) := by decide +kernel
theorem dX8_kin_77 : decode cX8_kin 77 = .ok (.if_icmp .ne 16, 3) := by decide +kernel
theorem dX8_kin_80 : decode cX8_kin 80 = .ok (.aload_n 0, 1) := by decide +kernel
theorem dX8_kin_81 : decode cX8_kin 81 = .ok (.aload_n 0, 1) := by decide +kernel
theorem dX8_kin_82 : decode cX8_kin 82 = .ok (.getfield 44, 3) := by decide +kernel
theorem dX8_kin_85 : decode cX8_kin 85 = .ok (.bipush 20, 2) := by decide +kernel
theorem dX8_kin_87 : decode cX8_kin 87 = .ok (.iload_n 3, 1) := by decide +kernel
theorem dX8_kin_88 : decode cX8_kin 88 = .ok (.imul, 1) := by decide +kernel
theorem dX8_kin_89 : decode cX8_kin 89 = .ok (.invokevirtual 238, 3) := by decide +kernel
theorem dX8_kin_92 : decode cX8_kin 92 = .ok (.ireturn, 1) := by decide +kernel
theorem dX8_kin_93 : decode cX8_kin 93 = .ok (.iinc 3 1, 3) := by decide +kernel
theorem dX8_kin_96 : decode cX8_kin 96 = .ok (.goto (-71), 3) := by decide +kernel
theorem dX8_kin_99 : decode cX8_kin 99 = .ok (.ldc 241, 2) := by decide +kernel
theorem dX8_kin_101 : decode cX8_kin 101 = .ok (.ireturn, 1) := by decide +kernel
set_option maxRecDepth 20000 in
theorem ggX8_kinOf_X8_laysKin : GoodIn wsX8_kinOf wsX8_laysKin := goodIn_r _ [6, 7, 8, 1, 9, 10, 11, 5, 12, 13, 14, 15, 16, 17, 18, 19, 20, 21, 22, 23, 24, 25, 26, 27, 28, 29, 30, 31, 32, 33, 34, 35, 36, 37, 38, 39, 40, 41, 42, 43, 44, 45, 46, 47, 48, 49, 50, 51, 52, 53, 54, 55, 56] (by decide +kernel) (by decide +kernel)
set_option maxRecDepth 20000 in
theorem gX8_kinOf_X8_laysKin : GoodIn wsX8_kinOf (wsV RX8 232 RX8 yX8_laysKin wsX8_laysKin) := goodIn_app (goodIn_of _ (by decide +kernel)) ggX8_kinOf_X8_laysKin
theorem dX8_kinOf_0 : decode cX8_kinOf 0 = .ok (.aload_n 0, 1) := by decide +kernel
theorem dX8_kinOf_1 : decode cX8_kinOf 1 = .ok (.iload_n 1, 1) := by decide +kernel
theorem dX8_kinOf_2 : decode cX8_kinOf 2 = .ok (.invokevirtual 232, 3) := by decide +kernel
theorem dX8_kinOf_5 : decode cX8_kinOf 5 = .ok (.aload_n 0, 1) := by decide +kernel
theorem dX8_kinOf_6 : decode cX8_kinOf 6 = .ok (.getfield 229, 3) := by decide +kernel
theorem dX8_kinOf_9 : decode cX8_kinOf 9 = .ok (.ireturn, 1) := by decide +kernel
set_option maxRecDepth 20000 in
theorem ggX8_whole_X8_isHeap : GoodIn wsX8_whole wsX8_isHeap := goodIn_r _ [7, 2, 8, 9, 6, 10, 11, 12, 13, 88, 89, 90, 91, 92, 93, 94, 95, 96, 97, 98, 99, 100, 101, 102, 103, 104, 105, 106, 107, 108, 109, 110, 111, 112, 113, 114, 115, 116] (by decide +kernel) (by decide +kernel)
set_option maxRecDepth 20000 in
theorem gX8_whole_X8_isHeap : GoodIn wsX8_whole (wsV RX8 205 RX8 yX8_isHeap wsX8_isHeap) := goodIn_app (goodIn_of _ (by decide +kernel)) ggX8_whole_X8_isHeap
set_option maxRecDepth 20000 in
theorem ggX8_whole_X8_volume : GoodIn wsX8_whole wsX8_volume := goodIn_r _ [16] (by decide +kernel) (by decide +kernel)
set_option maxRecDepth 20000 in
theorem gX8_whole_X8_volume : GoodIn wsX8_whole (va_wsS RX8 100 yX8_volume wsX8_volume) := goodIn_app (goodIn_of _ (by decide +kernel)) ggX8_whole_X8_volume
set_option maxRecDepth 20000 in
theorem ggX8_whole_X8_numberOf : GoodIn wsX8_whole wsX8_numberOf := goodIn_r _ [20, 21, 22, 23, 24, 25, 6, 26, 27, 28, 29, 30, 31, 32, 33, 34, 35, 36, 37, 38, 39, 40, 41, 42, 43, 44, 45, 88, 89, 90, 91, 92, 93, 94, 95, 96, 97, 98, 99, 100, 101, 102, 103, 104, 105, 106, 107, 108, 109, 110, 111, 112, 113, 114, 115, 116] (by decide +kernel) (by decide +kernel)
set_option maxRecDepth 20000 in
theorem gX8_whole_X8_numberOf : GoodIn wsX8_whole (wsV RX8 238 RX8 yX8_numberOf wsX8_numberOf) := goodIn_app (goodIn_of _ (by decide +kernel)) ggX8_whole_X8_numberOf
set_option maxRecDepth 20000 in
theorem ggX8_whole_X8_trace : GoodIn wsX8_whole wsX8_trace := goodIn_r _ [49, 2, 40, 41, 6, 42, 88, 89, 90, 91, 92, 93, 94, 95, 96, 97, 98, 99, 100, 101, 102, 103, 104, 105, 106, 107, 108, 109, 110, 111, 112, 113, 114, 115, 116] (by decide +kernel) (by decide +kernel)
set_option maxRecDepth 20000 in
theorem gX8_whole_X8_trace : GoodIn wsX8_whole (wsV RX8 242 RX8 yX8_trace wsX8_trace) := goodIn_app (goodIn_of _ (by decide +kernel)) ggX8_whole_X8_trace
set_option maxRecDepth 20000 in
theorem ggX8_whole_X8_corners : GoodIn wsX8_whole wsX8_corners := goodIn_r _ [53, 2, 54, 55, 6, 56, 40, 41, 42, 57, 58, 59, 88, 89, 90, 91, 92, 93, 94, 95, 96, 97, 98, 99, 100, 101, 102, 103, 104, 105, 106, 107, 108, 109, 110, 111, 112, 113, 114, 115, 116] (by decide +kernel) (by decide +kernel)
set_option maxRecDepth 20000 in
theorem gX8_whole_X8_corners : GoodIn wsX8_whole (wsV RX8 245 RX8 yX8_corners wsX8_corners) := goodIn_app (goodIn_of _ (by decide +kernel)) ggX8_whole_X8_corners
set_option maxRecDepth 20000 in
theorem ggX8_whole_X8_symmetries : GoodIn wsX8_whole wsX8_symmetries := goodIn_r _ [63, 64, 65, 66, 67, 6, 68, 69, 70, 71, 40, 41, 42, 72, 73, 74, 43, 44, 45, 88, 89, 90, 91, 92, 93, 94, 95, 96, 97, 98, 99, 100, 101, 102, 103, 104, 105, 106, 107, 108, 109, 110, 111, 112, 113, 114, 115, 116] (by decide +kernel) (by decide +kernel)
set_option maxRecDepth 20000 in
theorem gX8_whole_X8_symmetries : GoodIn wsX8_whole (wsV RX8 249 RX8 yX8_symmetries wsX8_symmetries) := goodIn_app (goodIn_of _ (by decide +kernel)) ggX8_whole_X8_symmetries
set_option maxRecDepth 20000 in
theorem ggX8_whole_X8_kinOf : GoodIn wsX8_whole wsX8_kinOf := goodIn_r _ [78, 79, 80, 81, 82, 6, 83, 2, 84, 64, 85, 86, 87, 66, 67, 68, 69, 70, 71, 40, 41, 42, 72, 73, 74, 43, 44, 45, 88, 89, 90, 91, 92, 93, 94, 95, 96, 97, 98, 99, 100, 101, 102, 103, 104, 105, 106, 107, 108, 109, 110, 111, 112, 113, 114, 115, 116] (by decide +kernel) (by decide +kernel)
set_option maxRecDepth 20000 in
theorem gX8_whole_X8_kinOf : GoodIn wsX8_whole (wsV RX8 252 RX8 yX8_kinOf wsX8_kinOf) := goodIn_app (goodIn_of _ (by decide +kernel)) ggX8_whole_X8_kinOf
theorem dX8_whole_0 : decode cX8_whole 0 = .ok (.aload_n 0, 1) := by decide +kernel
theorem dX8_whole_1 : decode cX8_whole 1 = .ok (.iload_n 1, 1) := by decide +kernel
theorem dX8_whole_2 : decode cX8_whole 2 = .ok (.invokevirtual 205, 3) := by decide +kernel
theorem dX8_whole_5 : decode cX8_whole 5 = .ok (.ifCond .ne 6, 3) := by decide +kernel
theorem dX8_whole_8 : decode cX8_whole 8 = .ok (.ldc 105, 2) := by decide +kernel
theorem dX8_whole_10 : decode cX8_whole 10 = .ok (.ireturn, 1) := by decide +kernel
theorem dX8_whole_11 : decode cX8_whole 11 = .ok (.bipush 20, 2) := by decide +kernel
theorem dX8_whole_13 : decode cX8_whole 13 = .ok (.iload_n 1, 1) := by decide +kernel
theorem dX8_whole_14 : decode cX8_whole 14 = .ok (.imul, 1) := by decide +kernel
theorem dX8_whole_15 : decode cX8_whole 15 = .ok (.istore_n 3, 1) := by decide +kernel
theorem dX8_whole_16 : decode cX8_whole 16 = .ok (.iload_n 2, 1) := by decide +kernel
theorem dX8_whole_17 : decode cX8_whole 17 = .ok (.tableswitch 124 0 9 #[55, 55, 55, 66, 75, 85, 91, 91, 108, 118], 55) := by decide +kernel
theorem dX8_whole_72 : decode cX8_whole 72 = .ok (.aload_n 0, 1) := by decide +kernel
theorem dX8_whole_73 : decode cX8_whole 73 = .ok (.getfield 7, 3) := by decide +kernel
theorem dX8_whole_76 : decode cX8_whole 76 = .ok (.iload_n 3, 1) := by decide +kernel
theorem dX8_whole_77 : decode cX8_whole 77 = .ok (.iconst 1, 1) := by decide +kernel
theorem dX8_whole_78 : decode cX8_whole 78 = .ok (.iadd, 1) := by decide +kernel
theorem dX8_whole_79 : decode cX8_whole 79 = .ok (.iload_n 2, 1) := by decide +kernel
theorem dX8_whole_80 : decode cX8_whole 80 = .ok (.iadd, 1) := by decide +kernel
theorem dX8_whole_81 : decode cX8_whole 81 = .ok (.iaload, 1) := by decide +kernel
theorem dX8_whole_82 : decode cX8_whole 82 = .ok (.ireturn, 1) := by decide +kernel
theorem dX8_whole_83 : decode cX8_whole 83 = .ok (.aload_n 0, 1) := by decide +kernel
theorem dX8_whole_84 : decode cX8_whole 84 = .ok (.getfield 7, 3) := by decide +kernel
theorem dX8_whole_87 : decode cX8_whole 87 = .ok (.iload_n 3, 1) := by decide +kernel
theorem dX8_whole_88 : decode cX8_whole 88 = .ok (.invokestatic 100, 3) := by decide +kernel
theorem dX8_whole_91 : decode cX8_whole 91 = .ok (.ireturn, 1) := by decide +kernel
theorem dX8_whole_92 : decode cX8_whole 92 = .ok (.aload_n 0, 1) := by decide +kernel
theorem dX8_whole_93 : decode cX8_whole 93 = .ok (.aload_n 0, 1) := by decide +kernel
theorem dX8_whole_94 : decode cX8_whole 94 = .ok (.getfield 7, 3) := by decide +kernel
theorem dX8_whole_97 : decode cX8_whole 97 = .ok (.iload_n 3, 1) := by decide +kernel
theorem dX8_whole_98 : decode cX8_whole 98 = .ok (.invokevirtual 238, 3) := by decide +kernel
theorem dX8_whole_101 : decode cX8_whole 101 = .ok (.ireturn, 1) := by decide +kernel
theorem dX8_whole_102 : decode cX8_whole 102 = .ok (.aload_n 0, 1) := by decide +kernel
theorem dX8_whole_103 : decode cX8_whole 103 = .ok (.iload_n 3, 1) := by decide +kernel
theorem dX8_whole_104 : decode cX8_whole 104 = .ok (.invokevirtual 242, 3) := by decide +kernel
theorem dX8_whole_107 : decode cX8_whole 107 = .ok (.ireturn, 1) := by decide +kernel
theorem dX8_whole_108 : decode cX8_whole 108 = .ok (.aload_n 0, 1) := by decide +kernel
theorem dX8_whole_109 : decode cX8_whole 109 = .ok (.iload_n 3, 1) := by decide +kernel
theorem dX8_whole_110 : decode cX8_whole 110 = .ok (.iload_n 2, 1) := by decide +kernel
theorem dX8_whole_111 : decode cX8_whole 111 = .ok (.bipush 6, 2) := by decide +kernel
theorem dX8_whole_113 : decode cX8_whole 113 = .ok (.if_icmp .ne 7, 3) := by decide +kernel
theorem dX8_whole_116 : decode cX8_whole 116 = .ok (.iconst 1, 1) := by decide +kernel
theorem dX8_whole_117 : decode cX8_whole 117 = .ok (.goto 4, 3) := by decide +kernel
theorem dX8_whole_120 : decode cX8_whole 120 = .ok (.iconst 0, 1) := by decide +kernel
theorem dX8_whole_121 : decode cX8_whole 121 = .ok (.invokevirtual 245, 3) := by decide +kernel
theorem dX8_whole_124 : decode cX8_whole 124 = .ok (.ireturn, 1) := by decide +kernel
theorem dX8_whole_125 : decode cX8_whole 125 = .ok (.aload_n 0, 1) := by decide +kernel
theorem dX8_whole_126 : decode cX8_whole 126 = .ok (.aload_n 0, 1) := by decide +kernel
theorem dX8_whole_127 : decode cX8_whole 127 = .ok (.getfield 7, 3) := by decide +kernel
theorem dX8_whole_130 : decode cX8_whole 130 = .ok (.iload_n 3, 1) := by decide +kernel
theorem dX8_whole_131 : decode cX8_whole 131 = .ok (.invokevirtual 249, 3) := by decide +kernel
theorem dX8_whole_134 : decode cX8_whole 134 = .ok (.ireturn, 1) := by decide +kernel
theorem dX8_whole_135 : decode cX8_whole 135 = .ok (.aload_n 0, 1) := by decide +kernel
theorem dX8_whole_136 : decode cX8_whole 136 = .ok (.iload_n 3, 1) := by decide +kernel
theorem dX8_whole_137 : decode cX8_whole 137 = .ok (.invokevirtual 252, 3) := by decide +kernel
theorem dX8_whole_140 : decode cX8_whole 140 = .ok (.ireturn, 1) := by decide +kernel
theorem dX8_whole_141 : decode cX8_whole 141 = .ok (.ldc 105, 2) := by decide +kernel
theorem dX8_whole_143 : decode cX8_whole 143 = .ok (.ireturn, 1) := by decide +kernel
set_option maxRecDepth 20000 in
theorem ggX8_path_X8_isHeap : GoodIn wsX8_path wsX8_isHeap := goodIn_r _ [8, 1, 9, 10, 7, 11, 12, 13, 14, 18, 19, 20, 21, 22, 23, 24, 25, 26, 27, 28, 29, 30, 31, 32, 33, 34, 35, 36, 37, 38, 39, 40, 41, 42, 43, 44, 45, 46] (by decide +kernel) (by decide +kernel)
set_option maxRecDepth 20000 in
theorem gX8_path_X8_isHeap : GoodIn wsX8_path (wsV RX8 205 RX8 yX8_isHeap wsX8_isHeap) := goodIn_app (goodIn_of _ (by decide +kernel)) ggX8_path_X8_isHeap
set_option maxRecDepth 20000 in
theorem ggX8_path_X8_in : GoodIn wsX8_path wsX8_in := goodIn_r _ [14] (by decide +kernel) (by decide +kernel)
set_option maxRecDepth 20000 in
theorem gX8_path_X8_in : GoodIn wsX8_path (va_wsS RX8 82 yX8_in wsX8_in) := goodIn_app (goodIn_of _ (by decide +kernel)) ggX8_path_X8_in
set_option maxRecDepth 20000 in
theorem ggX8_path_X8_at : GoodIn wsX8_path wsX8_at := goodIn_r _ [17] (by decide +kernel) (by decide +kernel)
set_option maxRecDepth 20000 in
theorem gX8_path_X8_at : GoodIn wsX8_path (va_wsS RX8 139 yX8_at wsX8_at) := goodIn_app (goodIn_of _ (by decide +kernel)) ggX8_path_X8_at
theorem dX8_path_0 : decode cX8_path 0 = .ok (.aload_n 0, 1) := by decide +kernel
theorem dX8_path_1 : decode cX8_path 1 = .ok (.iload_n 1, 1) := by decide +kernel
theorem dX8_path_2 : decode cX8_path 2 = .ok (.invokevirtual 205, 3) := by decide +kernel
theorem dX8_path_5 : decode cX8_path 5 = .ok (.ifCond .eq 28, 3) := by decide +kernel
theorem dX8_path_8 : decode cX8_path 8 = .ok (.iload_n 2, 1) := by decide +kernel
theorem dX8_path_9 : decode cX8_path 9 = .ok (.iconst 0, 1) := by decide +kernel
theorem dX8_path_10 : decode cX8_path 10 = .ok (.aload_n 0, 1) := by decide +kernel
theorem dX8_path_11 : decode cX8_path 11 = .ok (.getfield 7, 3) := by decide +kernel
theorem dX8_path_14 : decode cX8_path 14 = .ok (.bipush 20, 2) := by decide +kernel
theorem dX8_path_16 : decode cX8_path 16 = .ok (.iload_n 1, 1) := by decide +kernel
theorem dX8_path_17 : decode cX8_path 17 = .ok (.imul, 1) := by decide +kernel
theorem dX8_path_18 : decode cX8_path 18 = .ok (.iconst 1, 1) := by decide +kernel
theorem dX8_path_19 : decode cX8_path 19 = .ok (.iadd, 1) := by decide +kernel
theorem dX8_path_20 : decode cX8_path 20 = .ok (.iaload, 1) := by decide +kernel
theorem dX8_path_21 : decode cX8_path 21 = .ok (.iconst 1, 1) := by decide +kernel
theorem dX8_path_22 : decode cX8_path 22 = .ok (.isub, 1) := by decide +kernel
theorem dX8_path_23 : decode cX8_path 23 = .ok (.invokestatic 82, 3) := by decide +kernel
theorem dX8_path_26 : decode cX8_path 26 = .ok (.ifCond .eq 7, 3) := by decide +kernel
theorem dX8_path_29 : decode cX8_path 29 = .ok (.iload_n 3, 1) := by decide +kernel
theorem dX8_path_30 : decode cX8_path 30 = .ok (.ifCond .ge 6, 3) := by decide +kernel
theorem dX8_path_33 : decode cX8_path 33 = .ok (.ldc 105, 2) := by decide +kernel
theorem dX8_path_35 : decode cX8_path 35 = .ok (.ireturn, 1) := by decide +kernel
theorem dX8_path_36 : decode cX8_path 36 = .ok (.bipush 20, 2) := by decide +kernel
theorem dX8_path_38 : decode cX8_path 38 = .ok (.iload_n 1, 1) := by decide +kernel
theorem dX8_path_39 : decode cX8_path 39 = .ok (.imul, 1) := by decide +kernel
theorem dX8_path_40 : decode cX8_path 40 = .ok (.istore 4, 2) := by decide +kernel
theorem dX8_path_42 : decode cX8_path 42 = .ok (.aload_n 0, 1) := by decide +kernel
theorem dX8_path_43 : decode cX8_path 43 = .ok (.getfield 7, 3) := by decide +kernel
theorem dX8_path_46 : decode cX8_path 46 = .ok (.iload 4, 2) := by decide +kernel
theorem dX8_path_48 : decode cX8_path 48 = .ok (.iconst 2, 1) := by decide +kernel
theorem dX8_path_49 : decode cX8_path 49 = .ok (.iadd, 1) := by decide +kernel
theorem dX8_path_50 : decode cX8_path 50 = .ok (.iaload, 1) := by decide +kernel
theorem dX8_path_51 : decode cX8_path 51 = .ok (.istore 5, 2) := by decide +kernel
theorem dX8_path_53 : decode cX8_path 53 = .ok (.aload_n 0, 1) := by decide +kernel
theorem dX8_path_54 : decode cX8_path 54 = .ok (.getfield 7, 3) := by decide +kernel
theorem dX8_path_57 : decode cX8_path 57 = .ok (.iload 4, 2) := by decide +kernel
theorem dX8_path_59 : decode cX8_path 59 = .ok (.iconst 3, 1) := by decide +kernel
theorem dX8_path_60 : decode cX8_path 60 = .ok (.iadd, 1) := by decide +kernel
theorem dX8_path_61 : decode cX8_path 61 = .ok (.iaload, 1) := by decide +kernel
theorem dX8_path_62 : decode cX8_path 62 = .ok (.istore 6, 2) := by decide +kernel
theorem dX8_path_64 : decode cX8_path 64 = .ok (.iconst 0, 1) := by decide +kernel
theorem dX8_path_65 : decode cX8_path 65 = .ok (.istore 7, 2) := by decide +kernel
theorem dX8_path_67 : decode cX8_path 67 = .ok (.iload 7, 2) := by decide +kernel
theorem dX8_path_69 : decode cX8_path 69 = .ok (.iload 5, 2) := by decide +kernel
theorem dX8_path_71 : decode cX8_path 71 = .ok (.if_icmp .ge 36, 3) := by decide +kernel
theorem dX8_path_74 : decode cX8_path 74 = .ok (.iload_n 3, 1) := by decide +kernel
theorem dX8_path_75 : decode cX8_path 75 = .ok (.iload 7, 2) := by decide +kernel
theorem dX8_path_77 : decode cX8_path 77 = .ok (.iload 6, 2) := by decide +kernel
theorem dX8_path_79 : decode cX8_path 79 = .ok (.iadd, 1) := by decide +kernel
theorem dX8_path_80 : decode cX8_path 80 = .ok (.aload_n 0, 1) := by decide +kernel
theorem dX8_path_81 : decode cX8_path 81 = .ok (.getfield 7, 3) := by decide +kernel
theorem dX8_path_84 : decode cX8_path 84 = .ok (.iload 4, 2) := by decide +kernel
theorem dX8_path_86 : decode cX8_path 86 = .ok (.iload_n 2, 1) := by decide +kernel
theorem dX8_path_87 : decode cX8_path 87 = .ok (.iload 7, 2) := by decide +kernel
theorem dX8_path_89 : decode cX8_path 89 = .ok (.invokestatic 139, 3) := by decide +kernel
theorem dX8_path_92 : decode cX8_path 92 = .ok (.iadd, 1) := by decide +kernel
theorem dX8_path_93 : decode cX8_path 93 = .ok (.iaload, 1) := by decide +kernel
theorem dX8_path_94 : decode cX8_path 94 = .ok (.isub, 1) := by decide +kernel
theorem dX8_path_95 : decode cX8_path 95 = .ok (.if_icmp .ne 6, 3) := by decide +kernel
theorem dX8_path_98 : decode cX8_path 98 = .ok (.bipush 101, 2) := by decide +kernel
theorem dX8_path_100 : decode cX8_path 100 = .ok (.ireturn, 1) := by decide +kernel
theorem dX8_path_101 : decode cX8_path 101 = .ok (.iinc 7 1, 3) := by decide +kernel
theorem dX8_path_104 : decode cX8_path 104 = .ok (.goto (-37), 3) := by decide +kernel
theorem dX8_path_107 : decode cX8_path 107 = .ok (.iload_n 3, 1) := by decide +kernel
theorem dX8_path_108 : decode cX8_path 108 = .ok (.iload 5, 2) := by decide +kernel
theorem dX8_path_110 : decode cX8_path 110 = .ok (.iload 6, 2) := by decide +kernel
theorem dX8_path_112 : decode cX8_path 112 = .ok (.iadd, 1) := by decide +kernel
theorem dX8_path_113 : decode cX8_path 113 = .ok (.if_icmp .ge 8, 3) := by decide +kernel
theorem dX8_path_116 : decode cX8_path 116 = .ok (.bipush 110, 2) := by decide +kernel
theorem dX8_path_118 : decode cX8_path 118 = .ok (.goto 5, 3) := by decide +kernel
theorem dX8_path_121 : decode cX8_path 121 = .ok (.ldc 241, 2) := by decide +kernel
theorem dX8_path_123 : decode cX8_path 123 = .ok (.ireturn, 1) := by decide +kernel
set_option maxRecDepth 20000 in
theorem ggX8_slice_X8_isHeap : GoodIn wsX8_slice wsX8_isHeap := goodIn_r _ [8, 2, 9, 10, 7, 11, 12, 13, 14, 18, 19, 20, 21, 22, 23, 24, 25, 26, 27, 28, 29, 30, 31, 32, 33, 34, 35, 36, 37, 38, 39, 40, 41, 42, 43, 44, 45, 46] (by decide +kernel) (by decide +kernel)
set_option maxRecDepth 20000 in
theorem gX8_slice_X8_isHeap : GoodIn wsX8_slice (wsV RX8 205 RX8 yX8_isHeap wsX8_isHeap) := goodIn_app (goodIn_of _ (by decide +kernel)) ggX8_slice_X8_isHeap
set_option maxRecDepth 20000 in
theorem ggX8_slice_X8_in : GoodIn wsX8_slice wsX8_in := goodIn_r _ [14] (by decide +kernel) (by decide +kernel)
set_option maxRecDepth 20000 in
theorem gX8_slice_X8_in : GoodIn wsX8_slice (va_wsS RX8 82 yX8_in wsX8_in) := goodIn_app (goodIn_of _ (by decide +kernel)) ggX8_slice_X8_in
set_option maxRecDepth 20000 in
theorem ggX8_slice_X8_at : GoodIn wsX8_slice wsX8_at := goodIn_r _ [17] (by decide +kernel) (by decide +kernel)
set_option maxRecDepth 20000 in
theorem gX8_slice_X8_at : GoodIn wsX8_slice (va_wsS RX8 139 yX8_at wsX8_at) := goodIn_app (goodIn_of _ (by decide +kernel)) ggX8_slice_X8_at
theorem dX8_slice_0 : decode cX8_slice 0 = .ok (.aload_n 0, 1) := by decide +kernel
theorem dX8_slice_1 : decode cX8_slice 1 = .ok (.iload_n 1, 1) := by decide +kernel
theorem dX8_slice_2 : decode cX8_slice 2 = .ok (.invokevirtual 205, 3) := by decide +kernel
theorem dX8_slice_5 : decode cX8_slice 5 = .ok (.ifCond .eq 7, 3) := by decide +kernel
theorem dX8_slice_8 : decode cX8_slice 8 = .ok (.iload_n 3, 1) := by decide +kernel
theorem dX8_slice_9 : decode cX8_slice 9 = .ok (.ifCond .ge 6, 3) := by decide +kernel
theorem dX8_slice_12 : decode cX8_slice 12 = .ok (.ldc 105, 2) := by decide +kernel
theorem dX8_slice_14 : decode cX8_slice 14 = .ok (.ireturn, 1) := by decide +kernel
theorem dX8_slice_15 : decode cX8_slice 15 = .ok (.bipush 20, 2) := by decide +kernel
theorem dX8_slice_17 : decode cX8_slice 17 = .ok (.iload_n 1, 1) := by decide +kernel
theorem dX8_slice_18 : decode cX8_slice 18 = .ok (.imul, 1) := by decide +kernel
theorem dX8_slice_19 : decode cX8_slice 19 = .ok (.istore 4, 2) := by decide +kernel
theorem dX8_slice_21 : decode cX8_slice 21 = .ok (.iload_n 2, 1) := by decide +kernel
theorem dX8_slice_22 : decode cX8_slice 22 = .ok (.iconst 1, 1) := by decide +kernel
theorem dX8_slice_23 : decode cX8_slice 23 = .ok (.aload_n 0, 1) := by decide +kernel
theorem dX8_slice_24 : decode cX8_slice 24 = .ok (.getfield 7, 3) := by decide +kernel
theorem dX8_slice_27 : decode cX8_slice 27 = .ok (.iload 4, 2) := by decide +kernel
theorem dX8_slice_29 : decode cX8_slice 29 = .ok (.iconst 1, 1) := by decide +kernel
theorem dX8_slice_30 : decode cX8_slice 30 = .ok (.iadd, 1) := by decide +kernel
theorem dX8_slice_31 : decode cX8_slice 31 = .ok (.iaload, 1) := by decide +kernel
theorem dX8_slice_32 : decode cX8_slice 32 = .ok (.isub, 1) := by decide +kernel
theorem dX8_slice_33 : decode cX8_slice 33 = .ok (.aload_n 0, 1) := by decide +kernel
theorem dX8_slice_34 : decode cX8_slice 34 = .ok (.getfield 7, 3) := by decide +kernel
theorem dX8_slice_37 : decode cX8_slice 37 = .ok (.iload 4, 2) := by decide +kernel
theorem dX8_slice_39 : decode cX8_slice 39 = .ok (.iconst 2, 1) := by decide +kernel
theorem dX8_slice_40 : decode cX8_slice 40 = .ok (.iadd, 1) := by decide +kernel
theorem dX8_slice_41 : decode cX8_slice 41 = .ok (.iaload, 1) := by decide +kernel
theorem dX8_slice_42 : decode cX8_slice 42 = .ok (.iconst 1, 1) := by decide +kernel
theorem dX8_slice_43 : decode cX8_slice 43 = .ok (.isub, 1) := by decide +kernel
theorem dX8_slice_44 : decode cX8_slice 44 = .ok (.invokestatic 82, 3) := by decide +kernel
theorem dX8_slice_47 : decode cX8_slice 47 = .ok (.ifCond .ne 6, 3) := by decide +kernel
theorem dX8_slice_50 : decode cX8_slice 50 = .ok (.ldc 105, 2) := by decide +kernel
theorem dX8_slice_52 : decode cX8_slice 52 = .ok (.ireturn, 1) := by decide +kernel
theorem dX8_slice_53 : decode cX8_slice 53 = .ok (.iload_n 3, 1) := by decide +kernel
theorem dX8_slice_54 : decode cX8_slice 54 = .ok (.iload_n 2, 1) := by decide +kernel
theorem dX8_slice_55 : decode cX8_slice 55 = .ok (.ifCond .ge 8, 3) := by decide +kernel
theorem dX8_slice_58 : decode cX8_slice 58 = .ok (.iload_n 2, 1) := by decide +kernel
theorem dX8_slice_59 : decode cX8_slice 59 = .ok (.ineg, 1) := by decide +kernel
theorem dX8_slice_60 : decode cX8_slice 60 = .ok (.goto 4, 3) := by decide +kernel
theorem dX8_slice_63 : decode cX8_slice 63 = .ok (.iconst 0, 1) := by decide +kernel
theorem dX8_slice_64 : decode cX8_slice 64 = .ok (.iadd, 1) := by decide +kernel
theorem dX8_slice_65 : decode cX8_slice 65 = .ok (.istore 5, 2) := by decide +kernel
theorem dX8_slice_67 : decode cX8_slice 67 = .ok (.iload_n 3, 1) := by decide +kernel
theorem dX8_slice_68 : decode cX8_slice 68 = .ok (.iconst 4, 1) := by decide +kernel
theorem dX8_slice_69 : decode cX8_slice 69 = .ok (.if_icmp .ge 37, 3) := by decide +kernel
theorem dX8_slice_72 : decode cX8_slice 72 = .ok (.iload 5, 2) := by decide +kernel
theorem dX8_slice_74 : decode cX8_slice 74 = .ok (.aload_n 0, 1) := by decide +kernel
theorem dX8_slice_75 : decode cX8_slice 75 = .ok (.getfield 7, 3) := by decide +kernel
theorem dX8_slice_78 : decode cX8_slice 78 = .ok (.iload 4, 2) := by decide +kernel
theorem dX8_slice_80 : decode cX8_slice 80 = .ok (.iconst 1, 1) := by decide +kernel
theorem dX8_slice_81 : decode cX8_slice 81 = .ok (.iadd, 1) := by decide +kernel
theorem dX8_slice_82 : decode cX8_slice 82 = .ok (.iaload, 1) := by decide +kernel
theorem dX8_slice_83 : decode cX8_slice 83 = .ok (.if_icmp .ge 23, 3) := by decide +kernel
theorem dX8_slice_86 : decode cX8_slice 86 = .ok (.iload 5, 2) := by decide +kernel
theorem dX8_slice_88 : decode cX8_slice 88 = .ok (.iload_n 2, 1) := by decide +kernel
theorem dX8_slice_89 : decode cX8_slice 89 = .ok (.iadd, 1) := by decide +kernel
theorem dX8_slice_90 : decode cX8_slice 90 = .ok (.aload_n 0, 1) := by decide +kernel
theorem dX8_slice_91 : decode cX8_slice 91 = .ok (.getfield 7, 3) := by decide +kernel
theorem dX8_slice_94 : decode cX8_slice 94 = .ok (.iload 4, 2) := by decide +kernel
theorem dX8_slice_96 : decode cX8_slice 96 = .ok (.iconst 2, 1) := by decide +kernel
theorem dX8_slice_97 : decode cX8_slice 97 = .ok (.iadd, 1) := by decide +kernel
theorem dX8_slice_98 : decode cX8_slice 98 = .ok (.iaload, 1) := by decide +kernel
theorem dX8_slice_99 : decode cX8_slice 99 = .ok (.if_icmp .ge 7, 3) := by decide +kernel
theorem dX8_slice_102 : decode cX8_slice 102 = .ok (.iconst 1, 1) := by decide +kernel
theorem dX8_slice_103 : decode cX8_slice 103 = .ok (.goto 4, 3) := by decide +kernel
theorem dX8_slice_106 : decode cX8_slice 106 = .ok (.iconst 0, 1) := by decide +kernel
theorem dX8_slice_107 : decode cX8_slice 107 = .ok (.istore 6, 2) := by decide +kernel
theorem dX8_slice_109 : decode cX8_slice 109 = .ok (.iload 6, 2) := by decide +kernel
theorem dX8_slice_111 : decode cX8_slice 111 = .ok (.ifCond .eq 23, 3) := by decide +kernel
theorem dX8_slice_114 : decode cX8_slice 114 = .ok (.aload_n 0, 1) := by decide +kernel
theorem dX8_slice_115 : decode cX8_slice 115 = .ok (.getfield 7, 3) := by decide +kernel
theorem dX8_slice_118 : decode cX8_slice 118 = .ok (.iload 4, 2) := by decide +kernel
theorem dX8_slice_120 : decode cX8_slice 120 = .ok (.iload 5, 2) := by decide +kernel
theorem dX8_slice_122 : decode cX8_slice 122 = .ok (.iload 5, 2) := by decide +kernel
theorem dX8_slice_124 : decode cX8_slice 124 = .ok (.iload_n 2, 1) := by decide +kernel
theorem dX8_slice_125 : decode cX8_slice 125 = .ok (.iadd, 1) := by decide +kernel
theorem dX8_slice_126 : decode cX8_slice 126 = .ok (.invokestatic 139, 3) := by decide +kernel
theorem dX8_slice_129 : decode cX8_slice 129 = .ok (.iadd, 1) := by decide +kernel
theorem dX8_slice_130 : decode cX8_slice 130 = .ok (.iaload, 1) := by decide +kernel
theorem dX8_slice_131 : decode cX8_slice 131 = .ok (.goto 5, 3) := by decide +kernel
theorem dX8_slice_134 : decode cX8_slice 134 = .ok (.ldc 241, 2) := by decide +kernel
theorem dX8_slice_136 : decode cX8_slice 136 = .ok (.ireturn, 1) := by decide +kernel
set_option maxRecDepth 20000 in
theorem ggX8_heightBy_X8_at : GoodIn wsX8_heightBy wsX8_at := goodIn_r _ [5] (by decide +kernel) (by decide +kernel)
set_option maxRecDepth 20000 in
theorem gX8_heightBy_X8_at : GoodIn wsX8_heightBy (va_wsS RX8 139 yX8_at wsX8_at) := goodIn_app (goodIn_of _ (by decide +kernel)) ggX8_heightBy_X8_at
theorem dX8_heightBy_0 : decode cX8_heightBy 0 = .ok (.iload_n 2, 1) := by decide +kernel
theorem dX8_heightBy_1 : decode cX8_heightBy 1 = .ok (.ifCond .lt 7, 3) := by decide +kernel
theorem dX8_heightBy_4 : decode cX8_heightBy 4 = .ok (.iload_n 3, 1) := by decide +kernel
theorem dX8_heightBy_5 : decode cX8_heightBy 5 = .ok (.ifCond .ge 12, 3) := by decide +kernel
theorem dX8_heightBy_8 : decode cX8_heightBy 8 = .ok (.aload_n 0, 1) := by decide +kernel
theorem dX8_heightBy_9 : decode cX8_heightBy 9 = .ok (.getfield 7, 3) := by decide +kernel
theorem dX8_heightBy_12 : decode cX8_heightBy 12 = .ok (.iload_n 1, 1) := by decide +kernel
theorem dX8_heightBy_13 : decode cX8_heightBy 13 = .ok (.iconst 3, 1) := by decide +kernel
theorem dX8_heightBy_14 : decode cX8_heightBy 14 = .ok (.iadd, 1) := by decide +kernel
theorem dX8_heightBy_15 : decode cX8_heightBy 15 = .ok (.iaload, 1) := by decide +kernel
theorem dX8_heightBy_16 : decode cX8_heightBy 16 = .ok (.ireturn, 1) := by decide +kernel
theorem dX8_heightBy_17 : decode cX8_heightBy 17 = .ok (.iload_n 2, 1) := by decide +kernel
theorem dX8_heightBy_18 : decode cX8_heightBy 18 = .ok (.aload_n 0, 1) := by decide +kernel
theorem dX8_heightBy_19 : decode cX8_heightBy 19 = .ok (.getfield 7, 3) := by decide +kernel
theorem dX8_heightBy_22 : decode cX8_heightBy 22 = .ok (.iload_n 1, 1) := by decide +kernel
theorem dX8_heightBy_23 : decode cX8_heightBy 23 = .ok (.iconst 1, 1) := by decide +kernel
theorem dX8_heightBy_24 : decode cX8_heightBy 24 = .ok (.iadd, 1) := by decide +kernel
theorem dX8_heightBy_25 : decode cX8_heightBy 25 = .ok (.iaload, 1) := by decide +kernel
theorem dX8_heightBy_26 : decode cX8_heightBy 26 = .ok (.if_icmp .ge 30, 3) := by decide +kernel
theorem dX8_heightBy_29 : decode cX8_heightBy 29 = .ok (.iload_n 3, 1) := by decide +kernel
theorem dX8_heightBy_30 : decode cX8_heightBy 30 = .ok (.aload_n 0, 1) := by decide +kernel
theorem dX8_heightBy_31 : decode cX8_heightBy 31 = .ok (.getfield 7, 3) := by decide +kernel
theorem dX8_heightBy_34 : decode cX8_heightBy 34 = .ok (.iload_n 1, 1) := by decide +kernel
theorem dX8_heightBy_35 : decode cX8_heightBy 35 = .ok (.iconst 2, 1) := by decide +kernel
theorem dX8_heightBy_36 : decode cX8_heightBy 36 = .ok (.iadd, 1) := by decide +kernel
theorem dX8_heightBy_37 : decode cX8_heightBy 37 = .ok (.iaload, 1) := by decide +kernel
theorem dX8_heightBy_38 : decode cX8_heightBy 38 = .ok (.if_icmp .ge 18, 3) := by decide +kernel
theorem dX8_heightBy_41 : decode cX8_heightBy 41 = .ok (.aload_n 0, 1) := by decide +kernel
theorem dX8_heightBy_42 : decode cX8_heightBy 42 = .ok (.getfield 7, 3) := by decide +kernel
theorem dX8_heightBy_45 : decode cX8_heightBy 45 = .ok (.iload_n 1, 1) := by decide +kernel
theorem dX8_heightBy_46 : decode cX8_heightBy 46 = .ok (.iload_n 2, 1) := by decide +kernel
theorem dX8_heightBy_47 : decode cX8_heightBy 47 = .ok (.iload_n 3, 1) := by decide +kernel
theorem dX8_heightBy_48 : decode cX8_heightBy 48 = .ok (.invokestatic 139, 3) := by decide +kernel
theorem dX8_heightBy_51 : decode cX8_heightBy 51 = .ok (.iadd, 1) := by decide +kernel
theorem dX8_heightBy_52 : decode cX8_heightBy 52 = .ok (.iaload, 1) := by decide +kernel
theorem dX8_heightBy_53 : decode cX8_heightBy 53 = .ok (.goto 4, 3) := by decide +kernel
theorem dX8_heightBy_56 : decode cX8_heightBy 56 = .ok (.iconst 0, 1) := by decide +kernel
theorem dX8_heightBy_57 : decode cX8_heightBy 57 = .ok (.ireturn, 1) := by decide +kernel
set_option maxRecDepth 20000 in
theorem ggX8_isSide_X8_heightBy : GoodIn wsX8_isSide wsX8_heightBy := goodIn_r _ [5, 6, 7, 8, 4, 9, 10, 11, 12, 13, 14, 15, 16, 17, 18, 19, 20, 21, 22, 23, 24, 25, 26, 27, 28, 29, 30, 31, 32, 33, 34, 35, 36, 37, 38] (by decide +kernel) (by decide +kernel)
set_option maxRecDepth 20000 in
theorem gX8_isSide_X8_heightBy : GoodIn wsX8_isSide (wsV RX8 255 RX8 yX8_heightBy wsX8_heightBy) := goodIn_app (goodIn_of _ (by decide +kernel)) ggX8_isSide_X8_heightBy
theorem dX8_isSide_0 : decode cX8_isSide 0 = .ok (.iload 4, 2) := by decide +kernel
theorem dX8_isSide_2 : decode cX8_isSide 2 = .ok (.iconst 2, 1) := by decide +kernel
theorem dX8_isSide_3 : decode cX8_isSide 3 = .ok (.iload_n 3, 1) := by decide +kernel
theorem dX8_isSide_4 : decode cX8_isSide 4 = .ok (.iload_n 2, 1) := by decide +kernel
theorem dX8_isSide_5 : decode cX8_isSide 5 = .ok (.isub, 1) := by decide +kernel
theorem dX8_isSide_6 : decode cX8_isSide 6 = .ok (.imul, 1) := by decide +kernel
theorem dX8_isSide_7 : decode cX8_isSide 7 = .ok (.iconst 1, 1) := by decide +kernel
theorem dX8_isSide_8 : decode cX8_isSide 8 = .ok (.isub, 1) := by decide +kernel
theorem dX8_isSide_9 : decode cX8_isSide 9 = .ok (.if_icmp .ne 7, 3) := by decide +kernel
theorem dX8_isSide_12 : decode cX8_isSide 12 = .ok (.iconst 1, 1) := by decide +kernel
theorem dX8_isSide_13 : decode cX8_isSide 13 = .ok (.goto 4, 3) := by decide +kernel
theorem dX8_isSide_16 : decode cX8_isSide 16 = .ok (.iconst 0, 1) := by decide +kernel
theorem dX8_isSide_17 : decode cX8_isSide 17 = .ok (.istore 6, 2) := by decide +kernel
theorem dX8_isSide_19 : decode cX8_isSide 19 = .ok (.aload_n 0, 1) := by decide +kernel
theorem dX8_isSide_20 : decode cX8_isSide 20 = .ok (.iload_n 1, 1) := by decide +kernel
theorem dX8_isSide_21 : decode cX8_isSide 21 = .ok (.iload_n 2, 1) := by decide +kernel
theorem dX8_isSide_22 : decode cX8_isSide 22 = .ok (.iload_n 3, 1) := by decide +kernel
theorem dX8_isSide_23 : decode cX8_isSide 23 = .ok (.invokevirtual 255, 3) := by decide +kernel
theorem dX8_isSide_26 : decode cX8_isSide 26 = .ok (.istore 7, 2) := by decide +kernel
theorem dX8_isSide_28 : decode cX8_isSide 28 = .ok (.iload 6, 2) := by decide +kernel
theorem dX8_isSide_30 : decode cX8_isSide 30 = .ok (.ifCond .eq 15, 3) := by decide +kernel
theorem dX8_isSide_33 : decode cX8_isSide 33 = .ok (.aload_n 0, 1) := by decide +kernel
theorem dX8_isSide_34 : decode cX8_isSide 34 = .ok (.iload_n 1, 1) := by decide +kernel
theorem dX8_isSide_35 : decode cX8_isSide 35 = .ok (.iload_n 2, 1) := by decide +kernel
theorem dX8_isSide_36 : decode cX8_isSide 36 = .ok (.iconst 1, 1) := by decide +kernel
theorem dX8_isSide_37 : decode cX8_isSide 37 = .ok (.iadd, 1) := by decide +kernel
theorem dX8_isSide_38 : decode cX8_isSide 38 = .ok (.iload_n 3, 1) := by decide +kernel
theorem dX8_isSide_39 : decode cX8_isSide 39 = .ok (.invokevirtual 255, 3) := by decide +kernel
theorem dX8_isSide_42 : decode cX8_isSide 42 = .ok (.goto 12, 3) := by decide +kernel
theorem dX8_isSide_45 : decode cX8_isSide 45 = .ok (.aload_n 0, 1) := by decide +kernel
theorem dX8_isSide_46 : decode cX8_isSide 46 = .ok (.iload_n 1, 1) := by decide +kernel
theorem dX8_isSide_47 : decode cX8_isSide 47 = .ok (.iload_n 2, 1) := by decide +kernel
theorem dX8_isSide_48 : decode cX8_isSide 48 = .ok (.iload_n 3, 1) := by decide +kernel
theorem dX8_isSide_49 : decode cX8_isSide 49 = .ok (.iconst 1, 1) := by decide +kernel
theorem dX8_isSide_50 : decode cX8_isSide 50 = .ok (.iadd, 1) := by decide +kernel
theorem dX8_isSide_51 : decode cX8_isSide 51 = .ok (.invokevirtual 255, 3) := by decide +kernel
theorem dX8_isSide_54 : decode cX8_isSide 54 = .ok (.istore 8, 2) := by decide +kernel
theorem dX8_isSide_56 : decode cX8_isSide 56 = .ok (.iconst 0, 1) := by decide +kernel
theorem dX8_isSide_57 : decode cX8_isSide 57 = .ok (.istore 9, 2) := by decide +kernel
theorem dX8_isSide_59 : decode cX8_isSide 59 = .ok (.iload 8, 2) := by decide +kernel
theorem dX8_isSide_61 : decode cX8_isSide 61 = .ok (.iconst 1, 1) := by decide +kernel
theorem dX8_isSide_62 : decode cX8_isSide 62 = .ok (.iadd, 1) := by decide +kernel
theorem dX8_isSide_63 : decode cX8_isSide 63 = .ok (.istore 10, 2) := by decide +kernel
theorem dX8_isSide_65 : decode cX8_isSide 65 = .ok (.iload 10, 2) := by decide +kernel
theorem dX8_isSide_67 : decode cX8_isSide 67 = .ok (.iload 7, 2) := by decide +kernel
theorem dX8_isSide_69 : decode cX8_isSide 69 = .ok (.if_icmp .gt 40, 3) := by decide +kernel
theorem dX8_isSide_72 : decode cX8_isSide 72 = .ok (.iload 9, 2) := by decide +kernel
theorem dX8_isSide_74 : decode cX8_isSide 74 = .ok (.ifCond .ne 22, 3) := by decide +kernel
theorem dX8_isSide_77 : decode cX8_isSide 77 = .ok (.iload 5, 2) := by decide +kernel
theorem dX8_isSide_79 : decode cX8_isSide 79 = .ok (.iconst 4, 1) := by decide +kernel
theorem dX8_isSide_80 : decode cX8_isSide 80 = .ok (.iload 10, 2) := by decide +kernel
theorem dX8_isSide_82 : decode cX8_isSide 82 = .ok (.imul, 1) := by decide +kernel
theorem dX8_isSide_83 : decode cX8_isSide 83 = .ok (.iconst 2, 1) := by decide +kernel
theorem dX8_isSide_84 : decode cX8_isSide 84 = .ok (.iload_n 2, 1) := by decide +kernel
theorem dX8_isSide_85 : decode cX8_isSide 85 = .ok (.imul, 1) := by decide +kernel
theorem dX8_isSide_86 : decode cX8_isSide 86 = .ok (.isub, 1) := by decide +kernel
theorem dX8_isSide_87 : decode cX8_isSide 87 = .ok (.iconst 2, 1) := by decide +kernel
theorem dX8_isSide_88 : decode cX8_isSide 88 = .ok (.iload_n 3, 1) := by decide +kernel
theorem dX8_isSide_89 : decode cX8_isSide 89 = .ok (.imul, 1) := by decide +kernel
theorem dX8_isSide_90 : decode cX8_isSide 90 = .ok (.isub, 1) := by decide +kernel
theorem dX8_isSide_91 : decode cX8_isSide 91 = .ok (.iconst 5, 1) := by decide +kernel
theorem dX8_isSide_92 : decode cX8_isSide 92 = .ok (.isub, 1) := by decide +kernel
theorem dX8_isSide_93 : decode cX8_isSide 93 = .ok (.if_icmp .ne 7, 3) := by decide +kernel
theorem dX8_isSide_96 : decode cX8_isSide 96 = .ok (.iconst 1, 1) := by decide +kernel
theorem dX8_isSide_97 : decode cX8_isSide 97 = .ok (.goto 4, 3) := by decide +kernel
theorem dX8_isSide_100 : decode cX8_isSide 100 = .ok (.iconst 0, 1) := by decide +kernel
theorem dX8_isSide_101 : decode cX8_isSide 101 = .ok (.istore 9, 2) := by decide +kernel
theorem dX8_isSide_103 : decode cX8_isSide 103 = .ok (.iinc 10 1, 3) := by decide +kernel
theorem dX8_isSide_106 : decode cX8_isSide 106 = .ok (.goto (-41), 3) := by decide +kernel
theorem dX8_isSide_109 : decode cX8_isSide 109 = .ok (.iload 9, 2) := by decide +kernel
theorem dX8_isSide_111 : decode cX8_isSide 111 = .ok (.ireturn, 1) := by decide +kernel
set_option maxRecDepth 20000 in
theorem ggX8_faceAt_X8_at : GoodIn wsX8_faceAt wsX8_at := goodIn_r _ [5] (by decide +kernel) (by decide +kernel)
set_option maxRecDepth 20000 in
theorem gX8_faceAt_X8_at : GoodIn wsX8_faceAt (va_wsS RX8 139 yX8_at wsX8_at) := goodIn_app (goodIn_of _ (by decide +kernel)) ggX8_faceAt_X8_at
set_option maxRecDepth 20000 in
theorem ggX8_faceAt_X8_isSide : GoodIn wsX8_faceAt wsX8_isSide := goodIn_r _ [9, 10, 11, 12, 4, 13, 1, 2, 3, 5, 14, 15, 16, 17, 18, 19, 20, 21, 22, 23, 24, 25, 26, 27, 28, 29, 30, 31, 32, 33, 34, 35, 36, 37, 38, 39, 40, 41, 42] (by decide +kernel) (by decide +kernel)
set_option maxRecDepth 20000 in
theorem gX8_faceAt_X8_isSide : GoodIn wsX8_faceAt (wsV RX8 258 RX8 yX8_isSide wsX8_isSide) := goodIn_app (goodIn_of _ (by decide +kernel)) ggX8_faceAt_X8_isSide
theorem dX8_faceAt_0 : decode cX8_faceAt 0 = .ok (.iconst 2, 1) := by decide +kernel
theorem dX8_faceAt_1 : decode cX8_faceAt 1 = .ok (.iload_n 3, 1) := by decide +kernel
theorem dX8_faceAt_2 : decode cX8_faceAt 2 = .ok (.iload_n 2, 1) := by decide +kernel
theorem dX8_faceAt_3 : decode cX8_faceAt 3 = .ok (.isub, 1) := by decide +kernel
theorem dX8_faceAt_4 : decode cX8_faceAt 4 = .ok (.imul, 1) := by decide +kernel
theorem dX8_faceAt_5 : decode cX8_faceAt 5 = .ok (.istore 6, 2) := by decide +kernel
theorem dX8_faceAt_7 : decode cX8_faceAt 7 = .ok (.iload_n 2, 1) := by decide +kernel
theorem dX8_faceAt_8 : decode cX8_faceAt 8 = .ok (.ifCond .lt 45, 3) := by decide +kernel
theorem dX8_faceAt_11 : decode cX8_faceAt 11 = .ok (.iload_n 3, 1) := by decide +kernel
theorem dX8_faceAt_12 : decode cX8_faceAt 12 = .ok (.ifCond .lt 41, 3) := by decide +kernel
theorem dX8_faceAt_15 : decode cX8_faceAt 15 = .ok (.iload 4, 2) := by decide +kernel
theorem dX8_faceAt_17 : decode cX8_faceAt 17 = .ok (.iload 6, 2) := by decide +kernel
theorem dX8_faceAt_19 : decode cX8_faceAt 19 = .ok (.if_icmp .ne 34, 3) := by decide +kernel
theorem dX8_faceAt_22 : decode cX8_faceAt 22 = .ok (.iload 5, 2) := by decide +kernel
theorem dX8_faceAt_24 : decode cX8_faceAt 24 = .ok (.iconst 4, 1) := by decide +kernel
theorem dX8_faceAt_25 : decode cX8_faceAt 25 = .ok (.aload_n 0, 1) := by decide +kernel
theorem dX8_faceAt_26 : decode cX8_faceAt 26 = .ok (.getfield 7, 3) := by decide +kernel
theorem dX8_faceAt_29 : decode cX8_faceAt 29 = .ok (.iload_n 1, 1) := by decide +kernel
theorem dX8_faceAt_30 : decode cX8_faceAt 30 = .ok (.iload_n 2, 1) := by decide +kernel
theorem dX8_faceAt_31 : decode cX8_faceAt 31 = .ok (.iload_n 3, 1) := by decide +kernel
theorem dX8_faceAt_32 : decode cX8_faceAt 32 = .ok (.invokestatic 139, 3) := by decide +kernel
theorem dX8_faceAt_35 : decode cX8_faceAt 35 = .ok (.iadd, 1) := by decide +kernel
theorem dX8_faceAt_36 : decode cX8_faceAt 36 = .ok (.iaload, 1) := by decide +kernel
theorem dX8_faceAt_37 : decode cX8_faceAt 37 = .ok (.imul, 1) := by decide +kernel
theorem dX8_faceAt_38 : decode cX8_faceAt 38 = .ok (.iconst 2, 1) := by decide +kernel
theorem dX8_faceAt_39 : decode cX8_faceAt 39 = .ok (.iload_n 2, 1) := by decide +kernel
theorem dX8_faceAt_40 : decode cX8_faceAt 40 = .ok (.imul, 1) := by decide +kernel
theorem dX8_faceAt_41 : decode cX8_faceAt 41 = .ok (.isub, 1) := by decide +kernel
theorem dX8_faceAt_42 : decode cX8_faceAt 42 = .ok (.iconst 2, 1) := by decide +kernel
theorem dX8_faceAt_43 : decode cX8_faceAt 43 = .ok (.iload_n 3, 1) := by decide +kernel
theorem dX8_faceAt_44 : decode cX8_faceAt 44 = .ok (.imul, 1) := by decide +kernel
theorem dX8_faceAt_45 : decode cX8_faceAt 45 = .ok (.isub, 1) := by decide +kernel
theorem dX8_faceAt_46 : decode cX8_faceAt 46 = .ok (.iconst 2, 1) := by decide +kernel
theorem dX8_faceAt_47 : decode cX8_faceAt 47 = .ok (.isub, 1) := by decide +kernel
theorem dX8_faceAt_48 : decode cX8_faceAt 48 = .ok (.if_icmp .ne 5, 3) := by decide +kernel
theorem dX8_faceAt_51 : decode cX8_faceAt 51 = .ok (.iconst 1, 1) := by decide +kernel
theorem dX8_faceAt_52 : decode cX8_faceAt 52 = .ok (.ireturn, 1) := by decide +kernel
theorem dX8_faceAt_53 : decode cX8_faceAt 53 = .ok (.iload_n 3, 1) := by decide +kernel
theorem dX8_faceAt_54 : decode cX8_faceAt 54 = .ok (.ifCond .lt 28, 3) := by decide +kernel
theorem dX8_faceAt_57 : decode cX8_faceAt 57 = .ok (.iload 4, 2) := by decide +kernel
theorem dX8_faceAt_59 : decode cX8_faceAt 59 = .ok (.iload 6, 2) := by decide +kernel
theorem dX8_faceAt_61 : decode cX8_faceAt 61 = .ok (.iconst 1, 1) := by decide +kernel
theorem dX8_faceAt_62 : decode cX8_faceAt 62 = .ok (.isub, 1) := by decide +kernel
theorem dX8_faceAt_63 : decode cX8_faceAt 63 = .ok (.if_icmp .ne 19, 3) := by decide +kernel
theorem dX8_faceAt_66 : decode cX8_faceAt 66 = .ok (.aload_n 0, 1) := by decide +kernel
theorem dX8_faceAt_67 : decode cX8_faceAt 67 = .ok (.iload_n 1, 1) := by decide +kernel
theorem dX8_faceAt_68 : decode cX8_faceAt 68 = .ok (.iload_n 2, 1) := by decide +kernel
theorem dX8_faceAt_69 : decode cX8_faceAt 69 = .ok (.iload_n 3, 1) := by decide +kernel
theorem dX8_faceAt_70 : decode cX8_faceAt 70 = .ok (.iload 4, 2) := by decide +kernel
theorem dX8_faceAt_72 : decode cX8_faceAt 72 = .ok (.iload 5, 2) := by decide +kernel
theorem dX8_faceAt_74 : decode cX8_faceAt 74 = .ok (.invokevirtual 258, 3) := by decide +kernel
theorem dX8_faceAt_77 : decode cX8_faceAt 77 = .ok (.ifCond .eq 5, 3) := by decide +kernel
theorem dX8_faceAt_80 : decode cX8_faceAt 80 = .ok (.iconst 2, 1) := by decide +kernel
theorem dX8_faceAt_81 : decode cX8_faceAt 81 = .ok (.ireturn, 1) := by decide +kernel
theorem dX8_faceAt_82 : decode cX8_faceAt 82 = .ok (.iload_n 2, 1) := by decide +kernel
theorem dX8_faceAt_83 : decode cX8_faceAt 83 = .ok (.ifCond .lt 30, 3) := by decide +kernel
theorem dX8_faceAt_86 : decode cX8_faceAt 86 = .ok (.iload 4, 2) := by decide +kernel
theorem dX8_faceAt_88 : decode cX8_faceAt 88 = .ok (.iload 6, 2) := by decide +kernel
theorem dX8_faceAt_90 : decode cX8_faceAt 90 = .ok (.iconst 1, 1) := by decide +kernel
theorem dX8_faceAt_91 : decode cX8_faceAt 91 = .ok (.iadd, 1) := by decide +kernel
theorem dX8_faceAt_92 : decode cX8_faceAt 92 = .ok (.if_icmp .ne 21, 3) := by decide +kernel
theorem dX8_faceAt_95 : decode cX8_faceAt 95 = .ok (.aload_n 0, 1) := by decide +kernel
theorem dX8_faceAt_96 : decode cX8_faceAt 96 = .ok (.iload_n 1, 1) := by decide +kernel
theorem dX8_faceAt_97 : decode cX8_faceAt 97 = .ok (.iload_n 2, 1) := by decide +kernel
theorem dX8_faceAt_98 : decode cX8_faceAt 98 = .ok (.iload_n 3, 1) := by decide +kernel
theorem dX8_faceAt_99 : decode cX8_faceAt 99 = .ok (.iload 4, 2) := by decide +kernel
theorem dX8_faceAt_101 : decode cX8_faceAt 101 = .ok (.iload 5, 2) := by decide +kernel
theorem dX8_faceAt_103 : decode cX8_faceAt 103 = .ok (.invokevirtual 258, 3) := by decide +kernel
theorem dX8_faceAt_106 : decode cX8_faceAt 106 = .ok (.ifCond .eq 7, 3) := by decide +kernel
theorem dX8_faceAt_109 : decode cX8_faceAt 109 = .ok (.iconst 3, 1) := by decide +kernel
theorem dX8_faceAt_110 : decode cX8_faceAt 110 = .ok (.goto 4, 3) := by decide +kernel
theorem dX8_faceAt_113 : decode cX8_faceAt 113 = .ok (.iconst 0, 1) := by decide +kernel
theorem dX8_faceAt_114 : decode cX8_faceAt 114 = .ok (.ireturn, 1) := by decide +kernel
set_option maxRecDepth 20000 in
theorem ggX8_face_X8_isHeap : GoodIn wsX8_face wsX8_isHeap := goodIn_r _ [7, 2, 8, 9, 6, 10, 11, 12, 13, 29, 30, 31, 32, 33, 34, 35, 36, 37, 38, 39, 40, 41, 42, 43, 44, 45, 46, 47, 48, 49, 50, 51, 52, 53, 54, 55, 56, 57] (by decide +kernel) (by decide +kernel)
set_option maxRecDepth 20000 in
theorem gX8_face_X8_isHeap : GoodIn wsX8_face (wsV RX8 205 RX8 yX8_isHeap wsX8_isHeap) := goodIn_app (goodIn_of _ (by decide +kernel)) ggX8_face_X8_isHeap
set_option maxRecDepth 20000 in
theorem ggX8_face_X8_faceAt : GoodIn wsX8_face wsX8_faceAt := goodIn_r _ [17, 2, 18, 19, 6, 20, 21, 22, 23, 24, 25, 26, 27, 28, 29, 30, 31, 32, 33, 34, 35, 36, 37, 38, 39, 40, 41, 42, 43, 44, 45, 46, 47, 48, 49, 50, 51, 52, 53, 54, 55, 56, 57] (by decide +kernel) (by decide +kernel)
set_option maxRecDepth 20000 in
theorem gX8_face_X8_faceAt : GoodIn wsX8_face (wsV RX8 262 RX8 yX8_faceAt wsX8_faceAt) := goodIn_app (goodIn_of _ (by decide +kernel)) ggX8_face_X8_faceAt
theorem dX8_face_0 : decode cX8_face 0 = .ok (.aload_n 0, 1) := by decide +kernel
theorem dX8_face_1 : decode cX8_face 1 = .ok (.iload_n 1, 1) := by decide +kernel
theorem dX8_face_2 : decode cX8_face 2 = .ok (.invokevirtual 205, 3) := by decide +kernel
theorem dX8_face_5 : decode cX8_face 5 = .ok (.ifCond .ne 6, 3) := by decide +kernel
theorem dX8_face_8 : decode cX8_face 8 = .ok (.ldc 105, 2) := by decide +kernel
theorem dX8_face_10 : decode cX8_face 10 = .ok (.ireturn, 1) := by decide +kernel
theorem dX8_face_11 : decode cX8_face 11 = .ok (.bipush 20, 2) := by decide +kernel
theorem dX8_face_13 : decode cX8_face 13 = .ok (.iload_n 1, 1) := by decide +kernel
theorem dX8_face_14 : decode cX8_face 14 = .ok (.imul, 1) := by decide +kernel
theorem dX8_face_15 : decode cX8_face 15 = .ok (.istore 4, 2) := by decide +kernel
theorem dX8_face_17 : decode cX8_face 17 = .ok (.iconst 0, 1) := by decide +kernel
theorem dX8_face_18 : decode cX8_face 18 = .ok (.istore 5, 2) := by decide +kernel
theorem dX8_face_20 : decode cX8_face 20 = .ok (.iconst (-1), 1) := by decide +kernel
theorem dX8_face_21 : decode cX8_face 21 = .ok (.istore 6, 2) := by decide +kernel
theorem dX8_face_23 : decode cX8_face 23 = .ok (.iload 6, 2) := by decide +kernel
theorem dX8_face_25 : decode cX8_face 25 = .ok (.aload_n 0, 1) := by decide +kernel
theorem dX8_face_26 : decode cX8_face 26 = .ok (.getfield 7, 3) := by decide +kernel
theorem dX8_face_29 : decode cX8_face 29 = .ok (.iload 4, 2) := by decide +kernel
theorem dX8_face_31 : decode cX8_face 31 = .ok (.iconst 1, 1) := by decide +kernel
theorem dX8_face_32 : decode cX8_face 32 = .ok (.iadd, 1) := by decide +kernel
theorem dX8_face_33 : decode cX8_face 33 = .ok (.iaload, 1) := by decide +kernel
theorem dX8_face_34 : decode cX8_face 34 = .ok (.if_icmp .ge 56, 3) := by decide +kernel
theorem dX8_face_37 : decode cX8_face 37 = .ok (.iconst (-1), 1) := by decide +kernel
theorem dX8_face_38 : decode cX8_face 38 = .ok (.istore 7, 2) := by decide +kernel
theorem dX8_face_40 : decode cX8_face 40 = .ok (.iload 7, 2) := by decide +kernel
theorem dX8_face_42 : decode cX8_face 42 = .ok (.aload_n 0, 1) := by decide +kernel
theorem dX8_face_43 : decode cX8_face 43 = .ok (.getfield 7, 3) := by decide +kernel
theorem dX8_face_46 : decode cX8_face 46 = .ok (.iload 4, 2) := by decide +kernel
theorem dX8_face_48 : decode cX8_face 48 = .ok (.iconst 2, 1) := by decide +kernel
theorem dX8_face_49 : decode cX8_face 49 = .ok (.iadd, 1) := by decide +kernel
theorem dX8_face_50 : decode cX8_face 50 = .ok (.iaload, 1) := by decide +kernel
theorem dX8_face_51 : decode cX8_face 51 = .ok (.if_icmp .ge 33, 3) := by decide +kernel
theorem dX8_face_54 : decode cX8_face 54 = .ok (.iload 5, 2) := by decide +kernel
theorem dX8_face_56 : decode cX8_face 56 = .ok (.ifCond .le 8, 3) := by decide +kernel
theorem dX8_face_59 : decode cX8_face 59 = .ok (.iload 5, 2) := by decide +kernel
theorem dX8_face_61 : decode cX8_face 61 = .ok (.goto 15, 3) := by decide +kernel
theorem dX8_face_64 : decode cX8_face 64 = .ok (.aload_n 0, 1) := by decide +kernel
theorem dX8_face_65 : decode cX8_face 65 = .ok (.iload 4, 2) := by decide +kernel
theorem dX8_face_67 : decode cX8_face 67 = .ok (.iload 6, 2) := by decide +kernel
theorem dX8_face_69 : decode cX8_face 69 = .ok (.iload 7, 2) := by decide +kernel
theorem dX8_face_71 : decode cX8_face 71 = .ok (.iload_n 2, 1) := by decide +kernel
theorem dX8_face_72 : decode cX8_face 72 = .ok (.iload_n 3, 1) := by decide +kernel
theorem dX8_face_73 : decode cX8_face 73 = .ok (.invokevirtual 262, 3) := by decide +kernel
theorem dX8_face_76 : decode cX8_face 76 = .ok (.istore 5, 2) := by decide +kernel
theorem dX8_face_78 : decode cX8_face 78 = .ok (.iinc 7 1, 3) := by decide +kernel
theorem dX8_face_81 : decode cX8_face 81 = .ok (.goto (-41), 3) := by decide +kernel
theorem dX8_face_84 : decode cX8_face 84 = .ok (.iinc 6 1, 3) := by decide +kernel
theorem dX8_face_87 : decode cX8_face 87 = .ok (.goto (-64), 3) := by decide +kernel
theorem dX8_face_90 : decode cX8_face 90 = .ok (.iload 5, 2) := by decide +kernel
theorem dX8_face_92 : decode cX8_face 92 = .ok (.ireturn, 1) := by decide +kernel
theorem dX8_cubeAt_0 : decode cX8_cubeAt 0 = .ok (.iconst 0, 1) := by decide +kernel
theorem dX8_cubeAt_1 : decode cX8_cubeAt 1 = .ok (.istore 5, 2) := by decide +kernel
theorem dX8_cubeAt_3 : decode cX8_cubeAt 3 = .ok (.iload 5, 2) := by decide +kernel
theorem dX8_cubeAt_5 : decode cX8_cubeAt 5 = .ok (.iload_n 1, 1) := by decide +kernel
theorem dX8_cubeAt_6 : decode cX8_cubeAt 6 = .ok (.if_icmp .ge 36, 3) := by decide +kernel
theorem dX8_cubeAt_9 : decode cX8_cubeAt 9 = .ok (.aload_n 0, 1) := by decide +kernel
theorem dX8_cubeAt_10 : decode cX8_cubeAt 10 = .ok (.getfield 47, 3) := by decide +kernel
theorem dX8_cubeAt_13 : decode cX8_cubeAt 13 = .ok (.iload 5, 2) := by decide +kernel
theorem dX8_cubeAt_15 : decode cX8_cubeAt 15 = .ok (.iaload, 1) := by decide +kernel
theorem dX8_cubeAt_16 : decode cX8_cubeAt 16 = .ok (.bipush 100, 2) := by decide +kernel
theorem dX8_cubeAt_18 : decode cX8_cubeAt 18 = .ok (.iload_n 2, 1) := by decide +kernel
theorem dX8_cubeAt_19 : decode cX8_cubeAt 19 = .ok (.imul, 1) := by decide +kernel
theorem dX8_cubeAt_20 : decode cX8_cubeAt 20 = .ok (.bipush 10, 2) := by decide +kernel
theorem dX8_cubeAt_22 : decode cX8_cubeAt 22 = .ok (.iload_n 3, 1) := by decide +kernel
theorem dX8_cubeAt_23 : decode cX8_cubeAt 23 = .ok (.imul, 1) := by decide +kernel
theorem dX8_cubeAt_24 : decode cX8_cubeAt 24 = .ok (.iadd, 1) := by decide +kernel
theorem dX8_cubeAt_25 : decode cX8_cubeAt 25 = .ok (.iload 4, 2) := by decide +kernel
theorem dX8_cubeAt_27 : decode cX8_cubeAt 27 = .ok (.iadd, 1) := by decide +kernel
theorem dX8_cubeAt_28 : decode cX8_cubeAt 28 = .ok (.if_icmp .ne 8, 3) := by decide +kernel
theorem dX8_cubeAt_31 : decode cX8_cubeAt 31 = .ok (.iconst 1, 1) := by decide +kernel
theorem dX8_cubeAt_32 : decode cX8_cubeAt 32 = .ok (.iload 5, 2) := by decide +kernel
theorem dX8_cubeAt_34 : decode cX8_cubeAt 34 = .ok (.ishl, 1) := by decide +kernel
theorem dX8_cubeAt_35 : decode cX8_cubeAt 35 = .ok (.ireturn, 1) := by decide +kernel
theorem dX8_cubeAt_36 : decode cX8_cubeAt 36 = .ok (.iinc 5 1, 3) := by decide +kernel
theorem dX8_cubeAt_39 : decode cX8_cubeAt 39 = .ok (.goto (-36), 3) := by decide +kernel
theorem dX8_cubeAt_42 : decode cX8_cubeAt 42 = .ok (.iconst 0, 1) := by decide +kernel
theorem dX8_cubeAt_43 : decode cX8_cubeAt 43 = .ok (.ireturn, 1) := by decide +kernel
set_option maxRecDepth 20000 in
theorem ggX8_laysCubes_X8_at : GoodIn wsX8_laysCubes wsX8_at := goodIn_r _ [7] (by decide +kernel) (by decide +kernel)
set_option maxRecDepth 20000 in
theorem gX8_laysCubes_X8_at : GoodIn wsX8_laysCubes (va_wsS RX8 139 yX8_at wsX8_at) := goodIn_app (goodIn_of _ (by decide +kernel)) ggX8_laysCubes_X8_at
set_option maxRecDepth 20000 in
theorem ggX8_laysCubes_X8_cubeAt : GoodIn wsX8_laysCubes wsX8_cubeAt := goodIn_r _ [11, 2, 12, 13, 14, 15, 16, 17, 18, 19, 20, 21, 22, 23, 24, 25, 26, 27, 28, 29, 30, 31, 32, 33, 34, 35, 36, 37, 38, 39, 40] (by decide +kernel) (by decide +kernel)
set_option maxRecDepth 20000 in
theorem gX8_laysCubes_X8_cubeAt : GoodIn wsX8_laysCubes (wsV RX8 266 RX8 yX8_cubeAt wsX8_cubeAt) := goodIn_app (goodIn_of _ (by decide +kernel)) ggX8_laysCubes_X8_cubeAt
theorem dX8_laysCubes_0 : decode cX8_laysCubes 0 = .ok (.iconst 0, 1) := by decide +kernel
theorem dX8_laysCubes_1 : decode cX8_laysCubes 1 = .ok (.istore_n 2, 1) := by decide +kernel
theorem dX8_laysCubes_2 : decode cX8_laysCubes 2 = .ok (.iconst 0, 1) := by decide +kernel
theorem dX8_laysCubes_3 : decode cX8_laysCubes 3 = .ok (.istore_n 3, 1) := by decide +kernel
theorem dX8_laysCubes_4 : decode cX8_laysCubes 4 = .ok (.iload_n 3, 1) := by decide +kernel
theorem dX8_laysCubes_5 : decode cX8_laysCubes 5 = .ok (.aload_n 0, 1) := by decide +kernel
theorem dX8_laysCubes_6 : decode cX8_laysCubes 6 = .ok (.getfield 7, 3) := by decide +kernel
theorem dX8_laysCubes_9 : decode cX8_laysCubes 9 = .ok (.iload_n 1, 1) := by decide +kernel
theorem dX8_laysCubes_10 : decode cX8_laysCubes 10 = .ok (.iconst 1, 1) := by decide +kernel
theorem dX8_laysCubes_11 : decode cX8_laysCubes 11 = .ok (.iadd, 1) := by decide +kernel
theorem dX8_laysCubes_12 : decode cX8_laysCubes 12 = .ok (.iaload, 1) := by decide +kernel
theorem dX8_laysCubes_13 : decode cX8_laysCubes 13 = .ok (.if_icmp .ge 124, 3) := by decide +kernel
theorem dX8_laysCubes_16 : decode cX8_laysCubes 16 = .ok (.iconst 0, 1) := by decide +kernel
theorem dX8_laysCubes_17 : decode cX8_laysCubes 17 = .ok (.istore 4, 2) := by decide +kernel
theorem dX8_laysCubes_19 : decode cX8_laysCubes 19 = .ok (.iload 4, 2) := by decide +kernel
theorem dX8_laysCubes_21 : decode cX8_laysCubes 21 = .ok (.aload_n 0, 1) := by decide +kernel
theorem dX8_laysCubes_22 : decode cX8_laysCubes 22 = .ok (.getfield 7, 3) := by decide +kernel
theorem dX8_laysCubes_25 : decode cX8_laysCubes 25 = .ok (.iload_n 1, 1) := by decide +kernel
theorem dX8_laysCubes_26 : decode cX8_laysCubes 26 = .ok (.iconst 2, 1) := by decide +kernel
theorem dX8_laysCubes_27 : decode cX8_laysCubes 27 = .ok (.iadd, 1) := by decide +kernel
theorem dX8_laysCubes_28 : decode cX8_laysCubes 28 = .ok (.iaload, 1) := by decide +kernel
theorem dX8_laysCubes_29 : decode cX8_laysCubes 29 = .ok (.if_icmp .ge 102, 3) := by decide +kernel
theorem dX8_laysCubes_32 : decode cX8_laysCubes 32 = .ok (.iconst 0, 1) := by decide +kernel
theorem dX8_laysCubes_33 : decode cX8_laysCubes 33 = .ok (.istore 5, 2) := by decide +kernel
theorem dX8_laysCubes_35 : decode cX8_laysCubes 35 = .ok (.iload 5, 2) := by decide +kernel
theorem dX8_laysCubes_37 : decode cX8_laysCubes 37 = .ok (.aload_n 0, 1) := by decide +kernel
theorem dX8_laysCubes_38 : decode cX8_laysCubes 38 = .ok (.getfield 7, 3) := by decide +kernel
theorem dX8_laysCubes_41 : decode cX8_laysCubes 41 = .ok (.iload_n 1, 1) := by decide +kernel
theorem dX8_laysCubes_42 : decode cX8_laysCubes 42 = .ok (.iload_n 3, 1) := by decide +kernel
theorem dX8_laysCubes_43 : decode cX8_laysCubes 43 = .ok (.iload 4, 2) := by decide +kernel
theorem dX8_laysCubes_45 : decode cX8_laysCubes 45 = .ok (.invokestatic 139, 3) := by decide +kernel
theorem dX8_laysCubes_48 : decode cX8_laysCubes 48 = .ok (.iadd, 1) := by decide +kernel
theorem dX8_laysCubes_49 : decode cX8_laysCubes 49 = .ok (.iaload, 1) := by decide +kernel
theorem dX8_laysCubes_50 : decode cX8_laysCubes 50 = .ok (.if_icmp .ge 75, 3) := by decide +kernel
theorem dX8_laysCubes_53 : decode cX8_laysCubes 53 = .ok (.aload_n 0, 1) := by decide +kernel
theorem dX8_laysCubes_54 : decode cX8_laysCubes 54 = .ok (.getfield 47, 3) := by decide +kernel
theorem dX8_laysCubes_57 : decode cX8_laysCubes 57 = .ok (.iload_n 2, 1) := by decide +kernel
theorem dX8_laysCubes_58 : decode cX8_laysCubes 58 = .ok (.bipush 100, 2) := by decide +kernel
theorem dX8_laysCubes_60 : decode cX8_laysCubes 60 = .ok (.iload_n 3, 1) := by decide +kernel
theorem dX8_laysCubes_61 : decode cX8_laysCubes 61 = .ok (.imul, 1) := by decide +kernel
theorem dX8_laysCubes_62 : decode cX8_laysCubes 62 = .ok (.bipush 10, 2) := by decide +kernel
theorem dX8_laysCubes_64 : decode cX8_laysCubes 64 = .ok (.iload 4, 2) := by decide +kernel
theorem dX8_laysCubes_66 : decode cX8_laysCubes 66 = .ok (.imul, 1) := by decide +kernel
theorem dX8_laysCubes_67 : decode cX8_laysCubes 67 = .ok (.iadd, 1) := by decide +kernel
theorem dX8_laysCubes_68 : decode cX8_laysCubes 68 = .ok (.iload 5, 2) := by decide +kernel
theorem dX8_laysCubes_70 : decode cX8_laysCubes 70 = .ok (.iadd, 1) := by decide +kernel
theorem dX8_laysCubes_71 : decode cX8_laysCubes 71 = .ok (.iastore, 1) := by decide +kernel
theorem dX8_laysCubes_72 : decode cX8_laysCubes 72 = .ok (.aload_n 0, 1) := by decide +kernel
theorem dX8_laysCubes_73 : decode cX8_laysCubes 73 = .ok (.getfield 50, 3) := by decide +kernel
theorem dX8_laysCubes_76 : decode cX8_laysCubes 76 = .ok (.iload_n 2, 1) := by decide +kernel
theorem dX8_laysCubes_77 : decode cX8_laysCubes 77 = .ok (.aload_n 0, 1) := by decide +kernel
theorem dX8_laysCubes_78 : decode cX8_laysCubes 78 = .ok (.iload_n 2, 1) := by decide +kernel
theorem dX8_laysCubes_79 : decode cX8_laysCubes 79 = .ok (.iload_n 3, 1) := by decide +kernel
theorem dX8_laysCubes_80 : decode cX8_laysCubes 80 = .ok (.iconst 1, 1) := by decide +kernel
theorem dX8_laysCubes_81 : decode cX8_laysCubes 81 = .ok (.isub, 1) := by decide +kernel
theorem dX8_laysCubes_82 : decode cX8_laysCubes 82 = .ok (.iload 4, 2) := by decide +kernel
theorem dX8_laysCubes_84 : decode cX8_laysCubes 84 = .ok (.iload 5, 2) := by decide +kernel
theorem dX8_laysCubes_86 : decode cX8_laysCubes 86 = .ok (.invokevirtual 266, 3) := by decide +kernel
theorem dX8_laysCubes_89 : decode cX8_laysCubes 89 = .ok (.aload_n 0, 1) := by decide +kernel
theorem dX8_laysCubes_90 : decode cX8_laysCubes 90 = .ok (.iload_n 2, 1) := by decide +kernel
theorem dX8_laysCubes_91 : decode cX8_laysCubes 91 = .ok (.iload_n 3, 1) := by decide +kernel
theorem dX8_laysCubes_92 : decode cX8_laysCubes 92 = .ok (.iload 4, 2) := by decide +kernel
theorem dX8_laysCubes_94 : decode cX8_laysCubes 94 = .ok (.iconst 1, 1) := by decide +kernel
theorem dX8_laysCubes_95 : decode cX8_laysCubes 95 = .ok (.isub, 1) := by decide +kernel
theorem dX8_laysCubes_96 : decode cX8_laysCubes 96 = .ok (.iload 5, 2) := by decide +kernel
theorem dX8_laysCubes_98 : decode cX8_laysCubes 98 = .ok (.invokevirtual 266, 3) := by decide +kernel
theorem dX8_laysCubes_101 : decode cX8_laysCubes 101 = .ok (.ior, 1) := by decide +kernel
theorem dX8_laysCubes_102 : decode cX8_laysCubes 102 = .ok (.aload_n 0, 1) := by decide +kernel
theorem dX8_laysCubes_103 : decode cX8_laysCubes 103 = .ok (.iload_n 2, 1) := by decide +kernel
theorem dX8_laysCubes_104 : decode cX8_laysCubes 104 = .ok (.iload_n 3, 1) := by decide +kernel
theorem dX8_laysCubes_105 : decode cX8_laysCubes 105 = .ok (.iload 4, 2) := by decide +kernel
theorem dX8_laysCubes_107 : decode cX8_laysCubes 107 = .ok (.iload 5, 2) := by decide +kernel
theorem dX8_laysCubes_109 : decode cX8_laysCubes 109 = .ok (.iconst 1, 1) := by decide +kernel
theorem dX8_laysCubes_110 : decode cX8_laysCubes 110 = .ok (.isub, 1) := by decide +kernel
theorem dX8_laysCubes_111 : decode cX8_laysCubes 111 = .ok (.invokevirtual 266, 3) := by decide +kernel
theorem dX8_laysCubes_114 : decode cX8_laysCubes 114 = .ok (.ior, 1) := by decide +kernel
theorem dX8_laysCubes_115 : decode cX8_laysCubes 115 = .ok (.iastore, 1) := by decide +kernel
theorem dX8_laysCubes_116 : decode cX8_laysCubes 116 = .ok (.iinc 2 1, 3) := by decide +kernel
theorem dX8_laysCubes_119 : decode cX8_laysCubes 119 = .ok (.iinc 5 1, 3) := by decide +kernel
theorem dX8_laysCubes_122 : decode cX8_laysCubes 122 = .ok (.goto (-87), 3) := by decide +kernel
theorem dX8_laysCubes_125 : decode cX8_laysCubes 125 = .ok (.iinc 4 1, 3) := by decide +kernel
theorem dX8_laysCubes_128 : decode cX8_laysCubes 128 = .ok (.goto (-109), 3) := by decide +kernel
theorem dX8_laysCubes_131 : decode cX8_laysCubes 131 = .ok (.iinc 3 1, 3) := by decide +kernel
theorem dX8_laysCubes_134 : decode cX8_laysCubes 134 = .ok (.goto (-130), 3) := by decide +kernel
theorem dX8_laysCubes_137 : decode cX8_laysCubes 137 = .ok (.iload_n 2, 1) := by decide +kernel
theorem dX8_laysCubes_138 : decode cX8_laysCubes 138 = .ok (.ireturn, 1) := by decide +kernel
set_option maxRecDepth 20000 in
theorem ggX8_orders_X8_isHeap : GoodIn wsX8_orders wsX8_isHeap := goodIn_r _ [10, 2, 11, 12, 9, 13, 14, 15, 16, 32, 33, 34, 35, 36, 37, 38, 39, 40, 41, 42, 43, 44, 45, 46, 47, 48, 49, 50, 51, 52, 53, 54, 55, 56, 57, 58, 59, 60] (by decide +kernel) (by decide +kernel)
set_option maxRecDepth 20000 in
theorem gX8_orders_X8_isHeap : GoodIn wsX8_orders (wsV RX8 205 RX8 yX8_isHeap wsX8_isHeap) := goodIn_app (goodIn_of _ (by decide +kernel)) ggX8_orders_X8_isHeap
set_option maxRecDepth 20000 in
theorem ggX8_orders_X8_volume : GoodIn wsX8_orders wsX8_volume := goodIn_r _ [19] (by decide +kernel) (by decide +kernel)
set_option maxRecDepth 20000 in
theorem gX8_orders_X8_volume : GoodIn wsX8_orders (va_wsS RX8 100 yX8_volume wsX8_volume) := goodIn_app (goodIn_of _ (by decide +kernel)) ggX8_orders_X8_volume
set_option maxRecDepth 20000 in
theorem ggX8_orders_X8_laysCubes : GoodIn wsX8_orders wsX8_laysCubes := goodIn_r _ [23, 2, 24, 5, 25, 26, 9, 27, 28, 29, 30, 31, 32, 33, 34, 35, 36, 37, 38, 39, 40, 41, 42, 43, 44, 45, 46, 47, 48, 49, 50, 51, 52, 53, 54, 55, 56, 57, 58, 59, 60] (by decide +kernel) (by decide +kernel)
set_option maxRecDepth 20000 in
theorem gX8_orders_X8_laysCubes : GoodIn wsX8_orders (wsV RX8 270 RX8 yX8_laysCubes wsX8_laysCubes) := goodIn_app (goodIn_of _ (by decide +kernel)) ggX8_orders_X8_laysCubes
theorem dX8_orders_0 : decode cX8_orders 0 = .ok (.aload_n 0, 1) := by decide +kernel
theorem dX8_orders_1 : decode cX8_orders 1 = .ok (.iload_n 1, 1) := by decide +kernel
theorem dX8_orders_2 : decode cX8_orders 2 = .ok (.invokevirtual 205, 3) := by decide +kernel
theorem dX8_orders_5 : decode cX8_orders 5 = .ok (.ifCond .ne 6, 3) := by decide +kernel
theorem dX8_orders_8 : decode cX8_orders 8 = .ok (.ldc 105, 2) := by decide +kernel
theorem dX8_orders_10 : decode cX8_orders 10 = .ok (.ireturn, 1) := by decide +kernel
theorem dX8_orders_11 : decode cX8_orders 11 = .ok (.aload_n 0, 1) := by decide +kernel
theorem dX8_orders_12 : decode cX8_orders 12 = .ok (.getfield 7, 3) := by decide +kernel
theorem dX8_orders_15 : decode cX8_orders 15 = .ok (.bipush 20, 2) := by decide +kernel
theorem dX8_orders_17 : decode cX8_orders 17 = .ok (.iload_n 1, 1) := by decide +kernel
theorem dX8_orders_18 : decode cX8_orders 18 = .ok (.imul, 1) := by decide +kernel
theorem dX8_orders_19 : decode cX8_orders 19 = .ok (.invokestatic 100, 3) := by decide +kernel
theorem dX8_orders_22 : decode cX8_orders 22 = .ok (.bipush 8, 2) := by decide +kernel
theorem dX8_orders_24 : decode cX8_orders 24 = .ok (.if_icmp .le 6, 3) := by decide +kernel
theorem dX8_orders_27 : decode cX8_orders 27 = .ok (.ldc 109, 2) := by decide +kernel
theorem dX8_orders_29 : decode cX8_orders 29 = .ok (.ireturn, 1) := by decide +kernel
theorem dX8_orders_30 : decode cX8_orders 30 = .ok (.aload_n 0, 1) := by decide +kernel
theorem dX8_orders_31 : decode cX8_orders 31 = .ok (.bipush 20, 2) := by decide +kernel
theorem dX8_orders_33 : decode cX8_orders 33 = .ok (.iload_n 1, 1) := by decide +kernel
theorem dX8_orders_34 : decode cX8_orders 34 = .ok (.imul, 1) := by decide +kernel
theorem dX8_orders_35 : decode cX8_orders 35 = .ok (.invokevirtual 270, 3) := by decide +kernel
theorem dX8_orders_38 : decode cX8_orders 38 = .ok (.istore_n 2, 1) := by decide +kernel
theorem dX8_orders_39 : decode cX8_orders 39 = .ok (.iconst 0, 1) := by decide +kernel
theorem dX8_orders_40 : decode cX8_orders 40 = .ok (.istore_n 3, 1) := by decide +kernel
theorem dX8_orders_41 : decode cX8_orders 41 = .ok (.iload_n 3, 1) := by decide +kernel
theorem dX8_orders_42 : decode cX8_orders 42 = .ok (.iconst 1, 1) := by decide +kernel
theorem dX8_orders_43 : decode cX8_orders 43 = .ok (.iload_n 2, 1) := by decide +kernel
theorem dX8_orders_44 : decode cX8_orders 44 = .ok (.ishl, 1) := by decide +kernel
theorem dX8_orders_45 : decode cX8_orders 45 = .ok (.if_icmp .ge 101, 3) := by decide +kernel
theorem dX8_orders_48 : decode cX8_orders 48 = .ok (.aload_n 0, 1) := by decide +kernel
theorem dX8_orders_49 : decode cX8_orders 49 = .ok (.getfield 53, 3) := by decide +kernel
theorem dX8_orders_52 : decode cX8_orders 52 = .ok (.iload_n 3, 1) := by decide +kernel
theorem dX8_orders_53 : decode cX8_orders 53 = .ok (.iload_n 3, 1) := by decide +kernel
theorem dX8_orders_54 : decode cX8_orders 54 = .ok (.ifCond .ne 7, 3) := by decide +kernel
theorem dX8_orders_57 : decode cX8_orders 57 = .ok (.iconst 1, 1) := by decide +kernel
theorem dX8_orders_58 : decode cX8_orders 58 = .ok (.goto 4, 3) := by decide +kernel
theorem dX8_orders_61 : decode cX8_orders 61 = .ok (.iconst 0, 1) := by decide +kernel
theorem dX8_orders_62 : decode cX8_orders 62 = .ok (.iastore, 1) := by decide +kernel
theorem dX8_orders_63 : decode cX8_orders 63 = .ok (.iconst 0, 1) := by decide +kernel
theorem dX8_orders_64 : decode cX8_orders 64 = .ok (.istore 4, 2) := by decide +kernel
theorem dX8_orders_66 : decode cX8_orders 66 = .ok (.iload 4, 2) := by decide +kernel
theorem dX8_orders_68 : decode cX8_orders 68 = .ok (.iload_n 2, 1) := by decide +kernel
theorem dX8_orders_69 : decode cX8_orders 69 = .ok (.if_icmp .ge 71, 3) := by decide +kernel
theorem dX8_orders_72 : decode cX8_orders 72 = .ok (.iload_n 3, 1) := by decide +kernel
theorem dX8_orders_73 : decode cX8_orders 73 = .ok (.iload 4, 2) := by decide +kernel
theorem dX8_orders_75 : decode cX8_orders 75 = .ok (.ishr, 1) := by decide +kernel
theorem dX8_orders_76 : decode cX8_orders 76 = .ok (.iconst 1, 1) := by decide +kernel
theorem dX8_orders_77 : decode cX8_orders 77 = .ok (.iand, 1) := by decide +kernel
theorem dX8_orders_78 : decode cX8_orders 78 = .ok (.iconst 1, 1) := by decide +kernel
theorem dX8_orders_79 : decode cX8_orders 79 = .ok (.if_icmp .ne 21, 3) := by decide +kernel
theorem dX8_orders_82 : decode cX8_orders 82 = .ok (.aload_n 0, 1) := by decide +kernel
theorem dX8_orders_83 : decode cX8_orders 83 = .ok (.getfield 50, 3) := by decide +kernel
theorem dX8_orders_86 : decode cX8_orders 86 = .ok (.iload 4, 2) := by decide +kernel
theorem dX8_orders_88 : decode cX8_orders 88 = .ok (.iaload, 1) := by decide +kernel
theorem dX8_orders_89 : decode cX8_orders 89 = .ok (.iload_n 3, 1) := by decide +kernel
theorem dX8_orders_90 : decode cX8_orders 90 = .ok (.iconst (-1), 1) := by decide +kernel
theorem dX8_orders_91 : decode cX8_orders 91 = .ok (.ixor, 1) := by decide +kernel
theorem dX8_orders_92 : decode cX8_orders 92 = .ok (.iand, 1) := by decide +kernel
theorem dX8_orders_93 : decode cX8_orders 93 = .ok (.ifCond .ne 7, 3) := by decide +kernel
theorem dX8_orders_96 : decode cX8_orders 96 = .ok (.iconst 1, 1) := by decide +kernel
theorem dX8_orders_97 : decode cX8_orders 97 = .ok (.goto 4, 3) := by decide +kernel
theorem dX8_orders_100 : decode cX8_orders 100 = .ok (.iconst 0, 1) := by decide +kernel
theorem dX8_orders_101 : decode cX8_orders 101 = .ok (.istore 5, 2) := by decide +kernel
theorem dX8_orders_103 : decode cX8_orders 103 = .ok (.aload_n 0, 1) := by decide +kernel
theorem dX8_orders_104 : decode cX8_orders 104 = .ok (.getfield 53, 3) := by decide +kernel
theorem dX8_orders_107 : decode cX8_orders 107 = .ok (.iload_n 3, 1) := by decide +kernel
theorem dX8_orders_108 : decode cX8_orders 108 = .ok (.dup2, 1) := by decide +kernel
theorem dX8_orders_109 : decode cX8_orders 109 = .ok (.iaload, 1) := by decide +kernel
theorem dX8_orders_110 : decode cX8_orders 110 = .ok (.iload 5, 2) := by decide +kernel
theorem dX8_orders_112 : decode cX8_orders 112 = .ok (.ifCond .eq 19, 3) := by decide +kernel
theorem dX8_orders_115 : decode cX8_orders 115 = .ok (.aload_n 0, 1) := by decide +kernel
theorem dX8_orders_116 : decode cX8_orders 116 = .ok (.getfield 53, 3) := by decide +kernel
theorem dX8_orders_119 : decode cX8_orders 119 = .ok (.iload_n 3, 1) := by decide +kernel
theorem dX8_orders_120 : decode cX8_orders 120 = .ok (.iconst 1, 1) := by decide +kernel
theorem dX8_orders_121 : decode cX8_orders 121 = .ok (.iload 4, 2) := by decide +kernel
theorem dX8_orders_123 : decode cX8_orders 123 = .ok (.ishl, 1) := by decide +kernel
theorem dX8_orders_124 : decode cX8_orders 124 = .ok (.iconst (-1), 1) := by decide +kernel
theorem dX8_orders_125 : decode cX8_orders 125 = .ok (.ixor, 1) := by decide +kernel
theorem dX8_orders_126 : decode cX8_orders 126 = .ok (.iand, 1) := by decide +kernel
theorem dX8_orders_127 : decode cX8_orders 127 = .ok (.iaload, 1) := by decide +kernel
theorem dX8_orders_128 : decode cX8_orders 128 = .ok (.goto 4, 3) := by decide +kernel
theorem dX8_orders_131 : decode cX8_orders 131 = .ok (.iconst 0, 1) := by decide +kernel
theorem dX8_orders_132 : decode cX8_orders 132 = .ok (.iadd, 1) := by decide +kernel
theorem dX8_orders_133 : decode cX8_orders 133 = .ok (.iastore, 1) := by decide +kernel
theorem dX8_orders_134 : decode cX8_orders 134 = .ok (.iinc 4 1, 3) := by decide +kernel
theorem dX8_orders_137 : decode cX8_orders 137 = .ok (.goto (-71), 3) := by decide +kernel
theorem dX8_orders_140 : decode cX8_orders 140 = .ok (.iinc 3 1, 3) := by decide +kernel
theorem dX8_orders_143 : decode cX8_orders 143 = .ok (.goto (-102), 3) := by decide +kernel
theorem dX8_orders_146 : decode cX8_orders 146 = .ok (.aload_n 0, 1) := by decide +kernel
theorem dX8_orders_147 : decode cX8_orders 147 = .ok (.getfield 53, 3) := by decide +kernel
theorem dX8_orders_150 : decode cX8_orders 150 = .ok (.iconst 1, 1) := by decide +kernel
theorem dX8_orders_151 : decode cX8_orders 151 = .ok (.iload_n 2, 1) := by decide +kernel
theorem dX8_orders_152 : decode cX8_orders 152 = .ok (.ishl, 1) := by decide +kernel
theorem dX8_orders_153 : decode cX8_orders 153 = .ok (.iconst 1, 1) := by decide +kernel
theorem dX8_orders_154 : decode cX8_orders 154 = .ok (.isub, 1) := by decide +kernel
theorem dX8_orders_155 : decode cX8_orders 155 = .ok (.iaload, 1) := by decide +kernel
theorem dX8_orders_156 : decode cX8_orders 156 = .ok (.ireturn, 1) := by decide +kernel
set_option maxRecDepth 20000 in
theorem ggX8_many_X8_isBox : GoodIn wsX8_many wsX8_isBox := goodIn_r _ [5, 6, 7, 4, 8] (by decide +kernel) (by decide +kernel)
set_option maxRecDepth 20000 in
theorem gX8_many_X8_isBox : GoodIn wsX8_many (va_wsS RX8 193 yX8_isBox wsX8_isBox) := goodIn_app (goodIn_of _ (by decide +kernel)) ggX8_many_X8_isBox
set_option maxRecDepth 20000 in
theorem ggX8_many_X8_lays : GoodIn wsX8_many wsX8_lays := goodIn_r _ [12, 13, 14, 15, 16, 17, 4, 18, 19, 20, 21, 22, 23, 24, 25, 26, 27, 28, 29, 30, 31, 32, 33, 34, 35, 36, 37, 38, 39, 40, 41, 42, 43, 44, 45, 46, 47, 48, 49, 50, 51, 52] (by decide +kernel) (by decide +kernel)
set_option maxRecDepth 20000 in
theorem gX8_many_X8_lays : GoodIn wsX8_many (wsV RX8 185 RX8 yX8_lays wsX8_lays) := goodIn_app (goodIn_of _ (by decide +kernel)) ggX8_many_X8_lays
theorem dX8_many_0 : decode cX8_many 0 = .ok (.iload_n 1, 1) := by decide +kernel
theorem dX8_many_1 : decode cX8_many 1 = .ok (.iload_n 2, 1) := by decide +kernel
theorem dX8_many_2 : decode cX8_many 2 = .ok (.iload_n 3, 1) := by decide +kernel
theorem dX8_many_3 : decode cX8_many 3 = .ok (.invokestatic 193, 3) := by decide +kernel
theorem dX8_many_6 : decode cX8_many 6 = .ok (.ifCond .eq 13, 3) := by decide +kernel
theorem dX8_many_9 : decode cX8_many 9 = .ok (.aload_n 0, 1) := by decide +kernel
theorem dX8_many_10 : decode cX8_many 10 = .ok (.iload_n 1, 1) := by decide +kernel
theorem dX8_many_11 : decode cX8_many 11 = .ok (.iload_n 2, 1) := by decide +kernel
theorem dX8_many_12 : decode cX8_many 12 = .ok (.iload_n 3, 1) := by decide +kernel
theorem dX8_many_13 : decode cX8_many 13 = .ok (.invokevirtual 185, 3) := by decide +kernel
theorem dX8_many_16 : decode cX8_many 16 = .ok (.goto 5, 3) := by decide +kernel
theorem dX8_many_19 : decode cX8_many 19 = .ok (.ldc 105, 2) := by decide +kernel
theorem dX8_many_21 : decode cX8_many 21 = .ok (.ireturn, 1) := by decide +kernel
theorem dX8_chosen_0 : decode cX8_chosen 0 = .ok (.iload_n 1, 1) := by decide +kernel
theorem dX8_chosen_1 : decode cX8_chosen 1 = .ok (.ifCond .lt 8, 3) := by decide +kernel
theorem dX8_chosen_4 : decode cX8_chosen 4 = .ok (.iload_n 1, 1) := by decide +kernel
theorem dX8_chosen_5 : decode cX8_chosen 5 = .ok (.iload_n 0, 1) := by decide +kernel
theorem dX8_chosen_6 : decode cX8_chosen 6 = .ok (.if_icmp .le 7, 3) := by decide +kernel
theorem dX8_chosen_9 : decode cX8_chosen 9 = .ok (.lconst 0, 1) := by decide +kernel
theorem dX8_chosen_10 : decode cX8_chosen 10 = .ok (.goto 4, 3) := by decide +kernel
theorem dX8_chosen_13 : decode cX8_chosen 13 = .ok (.lconst 1, 1) := by decide +kernel
theorem dX8_chosen_14 : decode cX8_chosen 14 = .ok (.lstore_n 2, 1) := by decide +kernel
theorem dX8_chosen_15 : decode cX8_chosen 15 = .ok (.iconst 0, 1) := by decide +kernel
theorem dX8_chosen_16 : decode cX8_chosen 16 = .ok (.istore 4, 2) := by decide +kernel
theorem dX8_chosen_18 : decode cX8_chosen 18 = .ok (.iload 4, 2) := by decide +kernel
theorem dX8_chosen_20 : decode cX8_chosen 20 = .ok (.iload_n 1, 1) := by decide +kernel
theorem dX8_chosen_21 : decode cX8_chosen 21 = .ok (.if_icmp .ge 29, 3) := by decide +kernel
theorem dX8_chosen_24 : decode cX8_chosen 24 = .ok (.lload_n 2, 1) := by decide +kernel
theorem dX8_chosen_25 : decode cX8_chosen 25 = .ok (.lconst 0, 1) := by decide +kernel
theorem dX8_chosen_26 : decode cX8_chosen 26 = .ok (.lcmp, 1) := by decide +kernel
theorem dX8_chosen_27 : decode cX8_chosen 27 = .ok (.ifCond .le 23, 3) := by decide +kernel
theorem dX8_chosen_30 : decode cX8_chosen 30 = .ok (.lload_n 2, 1) := by decide +kernel
theorem dX8_chosen_31 : decode cX8_chosen 31 = .ok (.iload_n 0, 1) := by decide +kernel
theorem dX8_chosen_32 : decode cX8_chosen 32 = .ok (.iload 4, 2) := by decide +kernel
theorem dX8_chosen_34 : decode cX8_chosen 34 = .ok (.isub, 1) := by decide +kernel
theorem dX8_chosen_35 : decode cX8_chosen 35 = .ok (.i2l, 1) := by decide +kernel
theorem dX8_chosen_36 : decode cX8_chosen 36 = .ok (.lmul, 1) := by decide +kernel
theorem dX8_chosen_37 : decode cX8_chosen 37 = .ok (.iload 4, 2) := by decide +kernel
theorem dX8_chosen_39 : decode cX8_chosen 39 = .ok (.iconst 1, 1) := by decide +kernel
theorem dX8_chosen_40 : decode cX8_chosen 40 = .ok (.iadd, 1) := by decide +kernel
theorem dX8_chosen_41 : decode cX8_chosen 41 = .ok (.i2l, 1) := by decide +kernel
theorem dX8_chosen_42 : decode cX8_chosen 42 = .ok (.ldiv, 1) := by decide +kernel
theorem dX8_chosen_43 : decode cX8_chosen 43 = .ok (.lstore_n 2, 1) := by decide +kernel
theorem dX8_chosen_44 : decode cX8_chosen 44 = .ok (.iinc 4 1, 3) := by decide +kernel
theorem dX8_chosen_47 : decode cX8_chosen 47 = .ok (.goto (-29), 3) := by decide +kernel
theorem dX8_chosen_50 : decode cX8_chosen 50 = .ok (.lload_n 2, 1) := by decide +kernel
theorem dX8_chosen_51 : decode cX8_chosen 51 = .ok (.lreturn, 1) := by decide +kernel
set_option maxRecDepth 20000 in
theorem ggX8_determinant_X8_chosen : GoodIn wsX8_determinant wsX8_chosen := goodIn_r _ [4] (by decide +kernel) (by decide +kernel)
set_option maxRecDepth 20000 in
theorem gX8_determinant_X8_chosen : GoodIn wsX8_determinant (va_wsS RX8 273 yX8_chosen wsX8_chosen) := goodIn_app (goodIn_of _ (by decide +kernel)) ggX8_determinant_X8_chosen
theorem dX8_determinant_0 : decode cX8_determinant 0 = .ok (.lconst 0, 1) := by decide +kernel
theorem dX8_determinant_1 : decode cX8_determinant 1 = .ok (.lstore 4, 2) := by decide +kernel
theorem dX8_determinant_3 : decode cX8_determinant 3 = .ok (.iconst 1, 1) := by decide +kernel
theorem dX8_determinant_4 : decode cX8_determinant 4 = .ok (.istore 6, 2) := by decide +kernel
theorem dX8_determinant_6 : decode cX8_determinant 6 = .ok (.iconst 0, 1) := by decide +kernel
theorem dX8_determinant_7 : decode cX8_determinant 7 = .ok (.istore 7, 2) := by decide +kernel
theorem dX8_determinant_9 : decode cX8_determinant 9 = .ok (.iload 7, 2) := by decide +kernel
theorem dX8_determinant_11 : decode cX8_determinant 11 = .ok (.iload_n 3, 1) := by decide +kernel
theorem dX8_determinant_12 : decode cX8_determinant 12 = .ok (.if_icmp .ge 15, 3) := by decide +kernel
theorem dX8_determinant_15 : decode cX8_determinant 15 = .ok (.iload 6, 2) := by decide +kernel
theorem dX8_determinant_17 : decode cX8_determinant 17 = .ok (.iload_n 3, 1) := by decide +kernel
theorem dX8_determinant_18 : decode cX8_determinant 18 = .ok (.imul, 1) := by decide +kernel
theorem dX8_determinant_19 : decode cX8_determinant 19 = .ok (.istore 6, 2) := by decide +kernel
theorem dX8_determinant_21 : decode cX8_determinant 21 = .ok (.iinc 7 1, 3) := by decide +kernel
theorem dX8_determinant_24 : decode cX8_determinant 24 = .ok (.goto (-15), 3) := by decide +kernel
theorem dX8_determinant_27 : decode cX8_determinant 27 = .ok (.iconst 0, 1) := by decide +kernel
theorem dX8_determinant_28 : decode cX8_determinant 28 = .ok (.istore 7, 2) := by decide +kernel
theorem dX8_determinant_30 : decode cX8_determinant 30 = .ok (.iload 7, 2) := by decide +kernel
theorem dX8_determinant_32 : decode cX8_determinant 32 = .ok (.iload 6, 2) := by decide +kernel
theorem dX8_determinant_34 : decode cX8_determinant 34 = .ok (.if_icmp .ge 134, 3) := by decide +kernel
theorem dX8_determinant_37 : decode cX8_determinant 37 = .ok (.iload 7, 2) := by decide +kernel
theorem dX8_determinant_39 : decode cX8_determinant 39 = .ok (.istore 8, 2) := by decide +kernel
theorem dX8_determinant_41 : decode cX8_determinant 41 = .ok (.iconst 0, 1) := by decide +kernel
theorem dX8_determinant_42 : decode cX8_determinant 42 = .ok (.istore 9, 2) := by decide +kernel
theorem dX8_determinant_44 : decode cX8_determinant 44 = .ok (.lconst 1, 1) := by decide +kernel
theorem dX8_determinant_45 : decode cX8_determinant 45 = .ok (.lstore 10, 2) := by decide +kernel
theorem dX8_determinant_47 : decode cX8_determinant 47 = .ok (.iconst 0, 1) := by decide +kernel
theorem dX8_determinant_48 : decode cX8_determinant 48 = .ok (.istore 12, 2) := by decide +kernel
theorem dX8_determinant_50 : decode cX8_determinant 50 = .ok (.iload 12, 2) := by decide +kernel
theorem dX8_determinant_52 : decode cX8_determinant 52 = .ok (.iload_n 3, 1) := by decide +kernel
theorem dX8_determinant_53 : decode cX8_determinant 53 = .ok (.if_icmp .ge 102, 3) := by decide +kernel
theorem dX8_determinant_56 : decode cX8_determinant 56 = .ok (.iload 8, 2) := by decide +kernel
theorem dX8_determinant_58 : decode cX8_determinant 58 = .ok (.iload_n 3, 1) := by decide +kernel
theorem dX8_determinant_59 : decode cX8_determinant 59 = .ok (.irem, 1) := by decide +kernel
theorem dX8_determinant_60 : decode cX8_determinant 60 = .ok (.istore 13, 2) := by decide +kernel
theorem dX8_determinant_62 : decode cX8_determinant 62 = .ok (.iload 8, 2) := by decide +kernel
theorem dX8_determinant_64 : decode cX8_determinant 64 = .ok (.iload_n 3, 1) := by decide +kernel
theorem dX8_determinant_65 : decode cX8_determinant 65 = .ok (.idiv, 1) := by decide +kernel
theorem dX8_determinant_66 : decode cX8_determinant 66 = .ok (.istore 8, 2) := by decide +kernel
theorem dX8_determinant_68 : decode cX8_determinant 68 = .ok (.iload 13, 2) := by decide +kernel
theorem dX8_determinant_70 : decode cX8_determinant 70 = .ok (.iconst 1, 1) := by decide +kernel
theorem dX8_determinant_71 : decode cX8_determinant 71 = .ok (.iadd, 1) := by decide +kernel
theorem dX8_determinant_72 : decode cX8_determinant 72 = .ok (.istore 14, 2) := by decide +kernel
theorem dX8_determinant_74 : decode cX8_determinant 74 = .ok (.iload 14, 2) := by decide +kernel
theorem dX8_determinant_76 : decode cX8_determinant 76 = .ok (.iload_n 3, 1) := by decide +kernel
theorem dX8_determinant_77 : decode cX8_determinant 77 = .ok (.if_icmp .ge 30, 3) := by decide +kernel
theorem dX8_determinant_80 : decode cX8_determinant 80 = .ok (.iload 9, 2) := by decide +kernel
theorem dX8_determinant_82 : decode cX8_determinant 82 = .ok (.iload 14, 2) := by decide +kernel
theorem dX8_determinant_84 : decode cX8_determinant 84 = .ok (.ishr, 1) := by decide +kernel
theorem dX8_determinant_85 : decode cX8_determinant 85 = .ok (.iconst 1, 1) := by decide +kernel
theorem dX8_determinant_86 : decode cX8_determinant 86 = .ok (.iand, 1) := by decide +kernel
theorem dX8_determinant_87 : decode cX8_determinant 87 = .ok (.iconst 1, 1) := by decide +kernel
theorem dX8_determinant_88 : decode cX8_determinant 88 = .ok (.if_icmp .ne 9, 3) := by decide +kernel
theorem dX8_determinant_91 : decode cX8_determinant 91 = .ok (.lload 10, 2) := by decide +kernel
theorem dX8_determinant_93 : decode cX8_determinant 93 = .ok (.lneg, 1) := by decide +kernel
theorem dX8_determinant_94 : decode cX8_determinant 94 = .ok (.goto 5, 3) := by decide +kernel
theorem dX8_determinant_97 : decode cX8_determinant 97 = .ok (.lload 10, 2) := by decide +kernel
theorem dX8_determinant_99 : decode cX8_determinant 99 = .ok (.lstore 10, 2) := by decide +kernel
theorem dX8_determinant_101 : decode cX8_determinant 101 = .ok (.iinc 14 1, 3) := by decide +kernel
theorem dX8_determinant_104 : decode cX8_determinant 104 = .ok (.goto (-30), 3) := by decide +kernel
theorem dX8_determinant_107 : decode cX8_determinant 107 = .ok (.iload 9, 2) := by decide +kernel
theorem dX8_determinant_109 : decode cX8_determinant 109 = .ok (.iload 13, 2) := by decide +kernel
theorem dX8_determinant_111 : decode cX8_determinant 111 = .ok (.ishr, 1) := by decide +kernel
theorem dX8_determinant_112 : decode cX8_determinant 112 = .ok (.iconst 1, 1) := by decide +kernel
theorem dX8_determinant_113 : decode cX8_determinant 113 = .ok (.iand, 1) := by decide +kernel
theorem dX8_determinant_114 : decode cX8_determinant 114 = .ok (.iconst 1, 1) := by decide +kernel
theorem dX8_determinant_115 : decode cX8_determinant 115 = .ok (.if_icmp .ne 7, 3) := by decide +kernel
theorem dX8_determinant_118 : decode cX8_determinant 118 = .ok (.lconst 0, 1) := by decide +kernel
theorem dX8_determinant_119 : decode cX8_determinant 119 = .ok (.goto 19, 3) := by decide +kernel
theorem dX8_determinant_122 : decode cX8_determinant 122 = .ok (.lload 10, 2) := by decide +kernel
theorem dX8_determinant_124 : decode cX8_determinant 124 = .ok (.iload_n 1, 1) := by decide +kernel
theorem dX8_determinant_125 : decode cX8_determinant 125 = .ok (.iload_n 2, 1) := by decide +kernel
theorem dX8_determinant_126 : decode cX8_determinant 126 = .ok (.iadd, 1) := by decide +kernel
theorem dX8_determinant_127 : decode cX8_determinant 127 = .ok (.iload_n 2, 1) := by decide +kernel
theorem dX8_determinant_128 : decode cX8_determinant 128 = .ok (.iload 13, 2) := by decide +kernel
theorem dX8_determinant_130 : decode cX8_determinant 130 = .ok (.iadd, 1) := by decide +kernel
theorem dX8_determinant_131 : decode cX8_determinant 131 = .ok (.iload 12, 2) := by decide +kernel
theorem dX8_determinant_133 : decode cX8_determinant 133 = .ok (.isub, 1) := by decide +kernel
theorem dX8_determinant_134 : decode cX8_determinant 134 = .ok (.invokestatic 273, 3) := by decide +kernel
theorem dX8_determinant_137 : decode cX8_determinant 137 = .ok (.lmul, 1) := by decide +kernel
theorem dX8_determinant_138 : decode cX8_determinant 138 = .ok (.lstore 10, 2) := by decide +kernel
theorem dX8_determinant_140 : decode cX8_determinant 140 = .ok (.iload 9, 2) := by decide +kernel
theorem dX8_determinant_142 : decode cX8_determinant 142 = .ok (.iconst 1, 1) := by decide +kernel
theorem dX8_determinant_143 : decode cX8_determinant 143 = .ok (.iload 13, 2) := by decide +kernel
theorem dX8_determinant_145 : decode cX8_determinant 145 = .ok (.ishl, 1) := by decide +kernel
theorem dX8_determinant_146 : decode cX8_determinant 146 = .ok (.ior, 1) := by decide +kernel
theorem dX8_determinant_147 : decode cX8_determinant 147 = .ok (.istore 9, 2) := by decide +kernel
theorem dX8_determinant_149 : decode cX8_determinant 149 = .ok (.iinc 12 1, 3) := by decide +kernel
theorem dX8_determinant_152 : decode cX8_determinant 152 = .ok (.goto (-102), 3) := by decide +kernel
theorem dX8_determinant_155 : decode cX8_determinant 155 = .ok (.lload 4, 2) := by decide +kernel
theorem dX8_determinant_157 : decode cX8_determinant 157 = .ok (.lload 10, 2) := by decide +kernel
theorem dX8_determinant_159 : decode cX8_determinant 159 = .ok (.ladd, 1) := by decide +kernel
theorem dX8_determinant_160 : decode cX8_determinant 160 = .ok (.lstore 4, 2) := by decide +kernel
theorem dX8_determinant_162 : decode cX8_determinant 162 = .ok (.iinc 7 1, 3) := by decide +kernel
theorem dX8_determinant_165 : decode cX8_determinant 165 = .ok (.goto (-135), 3) := by decide +kernel
theorem dX8_determinant_168 : decode cX8_determinant 168 = .ok (.lload 4, 2) := by decide +kernel
theorem dX8_determinant_170 : decode cX8_determinant 170 = .ok (.lreturn, 1) := by decide +kernel
set_option maxRecDepth 20000 in
theorem ggX8_minor_X8_isBox : GoodIn wsX8_minor wsX8_isBox := goodIn_r _ [5, 6, 7, 4, 8] (by decide +kernel) (by decide +kernel)
set_option maxRecDepth 20000 in
theorem gX8_minor_X8_isBox : GoodIn wsX8_minor (va_wsS RX8 193 yX8_isBox wsX8_isBox) := goodIn_app (goodIn_of _ (by decide +kernel)) ggX8_minor_X8_isBox
set_option maxRecDepth 20000 in
theorem ggX8_minor_X8_in : GoodIn wsX8_minor wsX8_in := goodIn_r _ [8] (by decide +kernel) (by decide +kernel)
set_option maxRecDepth 20000 in
theorem gX8_minor_X8_in : GoodIn wsX8_minor (va_wsS RX8 82 yX8_in wsX8_in) := goodIn_app (goodIn_of _ (by decide +kernel)) ggX8_minor_X8_in
set_option maxRecDepth 20000 in
theorem ggX8_minor_X8_determinant : GoodIn wsX8_minor wsX8_determinant := goodIn_r _ [12, 13, 14, 4, 15] (by decide +kernel) (by decide +kernel)
set_option maxRecDepth 20000 in
theorem gX8_minor_X8_determinant : GoodIn wsX8_minor (wsV RX8 277 RX8 yX8_determinant wsX8_determinant) := goodIn_app (goodIn_of _ (by decide +kernel)) ggX8_minor_X8_determinant
theorem dX8_minor_0 : decode cX8_minor 0 = .ok (.iload_n 1, 1) := by decide +kernel
theorem dX8_minor_1 : decode cX8_minor 1 = .ok (.iload_n 2, 1) := by decide +kernel
theorem dX8_minor_2 : decode cX8_minor 2 = .ok (.iload_n 3, 1) := by decide +kernel
theorem dX8_minor_3 : decode cX8_minor 3 = .ok (.invokestatic 193, 3) := by decide +kernel
theorem dX8_minor_6 : decode cX8_minor 6 = .ok (.ifCond .eq 24, 3) := by decide +kernel
theorem dX8_minor_9 : decode cX8_minor 9 = .ok (.iload 4, 2) := by decide +kernel
theorem dX8_minor_11 : decode cX8_minor 11 = .ok (.iconst 0, 1) := by decide +kernel
theorem dX8_minor_12 : decode cX8_minor 12 = .ok (.iload_n 1, 1) := by decide +kernel
theorem dX8_minor_13 : decode cX8_minor 13 = .ok (.invokestatic 82, 3) := by decide +kernel
theorem dX8_minor_16 : decode cX8_minor 16 = .ok (.ifCond .eq 14, 3) := by decide +kernel
theorem dX8_minor_19 : decode cX8_minor 19 = .ok (.aload_n 0, 1) := by decide +kernel
theorem dX8_minor_20 : decode cX8_minor 20 = .ok (.iload_n 2, 1) := by decide +kernel
theorem dX8_minor_21 : decode cX8_minor 21 = .ok (.iload_n 3, 1) := by decide +kernel
theorem dX8_minor_22 : decode cX8_minor 22 = .ok (.iload 4, 2) := by decide +kernel
theorem dX8_minor_24 : decode cX8_minor 24 = .ok (.invokevirtual 277, 3) := by decide +kernel
theorem dX8_minor_27 : decode cX8_minor 27 = .ok (.goto 6, 3) := by decide +kernel
theorem dX8_minor_30 : decode cX8_minor 30 = .ok (.ldc2_w 281, 3) := by decide +kernel
theorem dX8_minor_33 : decode cX8_minor 33 = .ok (.lreturn, 1) := by decide +kernel
theorem dX8_sumOf_0 : decode cX8_sumOf 0 = .ok (.aload_n 0, 1) := by decide +kernel
theorem dX8_sumOf_1 : decode cX8_sumOf 1 = .ok (.getfield 35, 3) := by decide +kernel
theorem dX8_sumOf_4 : decode cX8_sumOf 4 = .ok (.iconst 4, 1) := by decide +kernel
theorem dX8_sumOf_5 : decode cX8_sumOf 5 = .ok (.iload_n 1, 1) := by decide +kernel
theorem dX8_sumOf_6 : decode cX8_sumOf 6 = .ok (.imul, 1) := by decide +kernel
theorem dX8_sumOf_7 : decode cX8_sumOf 7 = .ok (.iaload, 1) := by decide +kernel
theorem dX8_sumOf_8 : decode cX8_sumOf 8 = .ok (.aload_n 0, 1) := by decide +kernel
theorem dX8_sumOf_9 : decode cX8_sumOf 9 = .ok (.getfield 35, 3) := by decide +kernel
theorem dX8_sumOf_12 : decode cX8_sumOf 12 = .ok (.iconst 4, 1) := by decide +kernel
theorem dX8_sumOf_13 : decode cX8_sumOf 13 = .ok (.iload_n 1, 1) := by decide +kernel
theorem dX8_sumOf_14 : decode cX8_sumOf 14 = .ok (.imul, 1) := by decide +kernel
theorem dX8_sumOf_15 : decode cX8_sumOf 15 = .ok (.iconst 1, 1) := by decide +kernel
theorem dX8_sumOf_16 : decode cX8_sumOf 16 = .ok (.iadd, 1) := by decide +kernel
theorem dX8_sumOf_17 : decode cX8_sumOf 17 = .ok (.iaload, 1) := by decide +kernel
theorem dX8_sumOf_18 : decode cX8_sumOf 18 = .ok (.iadd, 1) := by decide +kernel
theorem dX8_sumOf_19 : decode cX8_sumOf 19 = .ok (.aload_n 0, 1) := by decide +kernel
theorem dX8_sumOf_20 : decode cX8_sumOf 20 = .ok (.getfield 35, 3) := by decide +kernel
theorem dX8_sumOf_23 : decode cX8_sumOf 23 = .ok (.iconst 4, 1) := by decide +kernel
theorem dX8_sumOf_24 : decode cX8_sumOf 24 = .ok (.iload_n 1, 1) := by decide +kernel
theorem dX8_sumOf_25 : decode cX8_sumOf 25 = .ok (.imul, 1) := by decide +kernel
theorem dX8_sumOf_26 : decode cX8_sumOf 26 = .ok (.iconst 2, 1) := by decide +kernel
theorem dX8_sumOf_27 : decode cX8_sumOf 27 = .ok (.iadd, 1) := by decide +kernel
theorem dX8_sumOf_28 : decode cX8_sumOf 28 = .ok (.iaload, 1) := by decide +kernel
theorem dX8_sumOf_29 : decode cX8_sumOf 29 = .ok (.iadd, 1) := by decide +kernel
theorem dX8_sumOf_30 : decode cX8_sumOf 30 = .ok (.aload_n 0, 1) := by decide +kernel
theorem dX8_sumOf_31 : decode cX8_sumOf 31 = .ok (.getfield 35, 3) := by decide +kernel
theorem dX8_sumOf_34 : decode cX8_sumOf 34 = .ok (.iconst 4, 1) := by decide +kernel
theorem dX8_sumOf_35 : decode cX8_sumOf 35 = .ok (.iload_n 1, 1) := by decide +kernel
theorem dX8_sumOf_36 : decode cX8_sumOf 36 = .ok (.imul, 1) := by decide +kernel
theorem dX8_sumOf_37 : decode cX8_sumOf 37 = .ok (.iconst 3, 1) := by decide +kernel
theorem dX8_sumOf_38 : decode cX8_sumOf 38 = .ok (.iadd, 1) := by decide +kernel
theorem dX8_sumOf_39 : decode cX8_sumOf 39 = .ok (.iaload, 1) := by decide +kernel
theorem dX8_sumOf_40 : decode cX8_sumOf 40 = .ok (.iadd, 1) := by decide +kernel
theorem dX8_sumOf_41 : decode cX8_sumOf 41 = .ok (.ireturn, 1) := by decide +kernel
set_option maxRecDepth 20000 in
theorem ggX8_countVolume_X8_sumOf : GoodIn wsX8_countVolume wsX8_sumOf := goodIn_r _ [8, 9, 17, 18, 19, 20, 21, 22, 23, 24, 25, 26, 27, 28, 29, 30, 31, 32, 33, 34, 35, 36, 37, 38, 39, 40, 41, 42, 43, 44, 45] (by decide +kernel) (by decide +kernel)
set_option maxRecDepth 20000 in
theorem gX8_countVolume_X8_sumOf : GoodIn wsX8_countVolume (wsV RX8 283 RX8 yX8_sumOf wsX8_sumOf) := goodIn_app (goodIn_of _ (by decide +kernel)) ggX8_countVolume_X8_sumOf
set_option maxRecDepth 20000 in
theorem ggX8_countVolume_X8_isUnder : GoodIn wsX8_countVolume wsX8_isUnder := goodIn_r _ [13, 9, 17, 18, 19, 20, 21, 22, 23, 24, 25, 26, 27, 28, 29, 30, 31, 32, 33, 34, 35, 36, 37, 38, 39, 40, 41, 42, 43, 44, 45] (by decide +kernel) (by decide +kernel)
set_option maxRecDepth 20000 in
theorem gX8_countVolume_X8_isUnder : GoodIn wsX8_countVolume (wsV RX8 178 RX8 yX8_isUnder wsX8_isUnder) := goodIn_app (goodIn_of _ (by decide +kernel)) ggX8_countVolume_X8_isUnder
set_option maxRecDepth 20000 in
theorem ggX8_countVolume_X8_bring : GoodIn wsX8_countVolume wsX8_bring := goodIn_r _ [16] (by decide +kernel) (by decide +kernel)
set_option maxRecDepth 20000 in
theorem gX8_countVolume_X8_bring : GoodIn wsX8_countVolume (va_wsS RX8 93 yX8_bring wsX8_bring) := goodIn_app (goodIn_of _ (by decide +kernel)) ggX8_countVolume_X8_bring
theorem dX8_countVolume_0 : decode cX8_countVolume 0 = .ok (.iconst 0, 1) := by decide +kernel
theorem dX8_countVolume_1 : decode cX8_countVolume 1 = .ok (.istore 4, 2) := by decide +kernel
theorem dX8_countVolume_3 : decode cX8_countVolume 3 = .ok (.iload 4, 2) := by decide +kernel
theorem dX8_countVolume_5 : decode cX8_countVolume 5 = .ok (.sipush 3430, 3) := by decide +kernel
theorem dX8_countVolume_8 : decode cX8_countVolume 8 = .ok (.if_icmp .ge 17, 3) := by decide +kernel
theorem dX8_countVolume_11 : decode cX8_countVolume 11 = .ok (.aload_n 0, 1) := by decide +kernel
theorem dX8_countVolume_12 : decode cX8_countVolume 12 = .ok (.getfield 56, 3) := by decide +kernel
theorem dX8_countVolume_15 : decode cX8_countVolume 15 = .ok (.iload 4, 2) := by decide +kernel
theorem dX8_countVolume_17 : decode cX8_countVolume 17 = .ok (.iconst 0, 1) := by decide +kernel
theorem dX8_countVolume_18 : decode cX8_countVolume 18 = .ok (.iastore, 1) := by decide +kernel
theorem dX8_countVolume_19 : decode cX8_countVolume 19 = .ok (.iinc 4 1, 3) := by decide +kernel
theorem dX8_countVolume_22 : decode cX8_countVolume 22 = .ok (.goto (-19), 3) := by decide +kernel
theorem dX8_countVolume_25 : decode cX8_countVolume 25 = .ok (.aload_n 0, 1) := by decide +kernel
theorem dX8_countVolume_26 : decode cX8_countVolume 26 = .ok (.getfield 56, 3) := by decide +kernel
theorem dX8_countVolume_29 : decode cX8_countVolume 29 = .ok (.bipush 49, 2) := by decide +kernel
theorem dX8_countVolume_31 : decode cX8_countVolume 31 = .ok (.aload_n 0, 1) := by decide +kernel
theorem dX8_countVolume_32 : decode cX8_countVolume 32 = .ok (.getfield 172, 3) := by decide +kernel
theorem dX8_countVolume_35 : decode cX8_countVolume 35 = .ok (.iconst 1, 1) := by decide +kernel
theorem dX8_countVolume_36 : decode cX8_countVolume 36 = .ok (.isub, 1) := by decide +kernel
theorem dX8_countVolume_37 : decode cX8_countVolume 37 = .ok (.imul, 1) := by decide +kernel
theorem dX8_countVolume_38 : decode cX8_countVolume 38 = .ok (.iconst 1, 1) := by decide +kernel
theorem dX8_countVolume_39 : decode cX8_countVolume 39 = .ok (.iastore, 1) := by decide +kernel
theorem dX8_countVolume_40 : decode cX8_countVolume 40 = .ok (.iconst 0, 1) := by decide +kernel
theorem dX8_countVolume_41 : decode cX8_countVolume 41 = .ok (.istore 4, 2) := by decide +kernel
theorem dX8_countVolume_43 : decode cX8_countVolume 43 = .ok (.iload 4, 2) := by decide +kernel
theorem dX8_countVolume_45 : decode cX8_countVolume 45 = .ok (.iload_n 1, 1) := by decide +kernel
theorem dX8_countVolume_46 : decode cX8_countVolume 46 = .ok (.if_icmp .ge 155, 3) := by decide +kernel
theorem dX8_countVolume_49 : decode cX8_countVolume 49 = .ok (.iconst 0, 1) := by decide +kernel
theorem dX8_countVolume_50 : decode cX8_countVolume 50 = .ok (.istore 5, 2) := by decide +kernel
theorem dX8_countVolume_52 : decode cX8_countVolume 52 = .ok (.iload 5, 2) := by decide +kernel
theorem dX8_countVolume_54 : decode cX8_countVolume 54 = .ok (.sipush 3430, 3) := by decide +kernel
theorem dX8_countVolume_57 : decode cX8_countVolume 57 = .ok (.if_icmp .ge 17, 3) := by decide +kernel
theorem dX8_countVolume_60 : decode cX8_countVolume 60 = .ok (.aload_n 0, 1) := by decide +kernel
theorem dX8_countVolume_61 : decode cX8_countVolume 61 = .ok (.getfield 59, 3) := by decide +kernel
theorem dX8_countVolume_64 : decode cX8_countVolume 64 = .ok (.iload 5, 2) := by decide +kernel
theorem dX8_countVolume_66 : decode cX8_countVolume 66 = .ok (.iconst 0, 1) := by decide +kernel
theorem dX8_countVolume_67 : decode cX8_countVolume 67 = .ok (.iastore, 1) := by decide +kernel
theorem dX8_countVolume_68 : decode cX8_countVolume 68 = .ok (.iinc 5 1, 3) := by decide +kernel
theorem dX8_countVolume_71 : decode cX8_countVolume 71 = .ok (.goto (-19), 3) := by decide +kernel
theorem dX8_countVolume_74 : decode cX8_countVolume 74 = .ok (.iconst 0, 1) := by decide +kernel
theorem dX8_countVolume_75 : decode cX8_countVolume 75 = .ok (.istore 5, 2) := by decide +kernel
theorem dX8_countVolume_77 : decode cX8_countVolume 77 = .ok (.iload 5, 2) := by decide +kernel
theorem dX8_countVolume_79 : decode cX8_countVolume 79 = .ok (.aload_n 0, 1) := by decide +kernel
theorem dX8_countVolume_80 : decode cX8_countVolume 80 = .ok (.getfield 172, 3) := by decide +kernel
theorem dX8_countVolume_83 : decode cX8_countVolume 83 = .ok (.if_icmp .ge 96, 3) := by decide +kernel
theorem dX8_countVolume_86 : decode cX8_countVolume 86 = .ok (.iconst 0, 1) := by decide +kernel
theorem dX8_countVolume_87 : decode cX8_countVolume 87 = .ok (.istore 6, 2) := by decide +kernel
theorem dX8_countVolume_89 : decode cX8_countVolume 89 = .ok (.iload 6, 2) := by decide +kernel
theorem dX8_countVolume_91 : decode cX8_countVolume 91 = .ok (.iload 5, 2) := by decide +kernel
theorem dX8_countVolume_93 : decode cX8_countVolume 93 = .ok (.if_icmp .gt 80, 3) := by decide +kernel
theorem dX8_countVolume_96 : decode cX8_countVolume 96 = .ok (.aload_n 0, 1) := by decide +kernel
theorem dX8_countVolume_97 : decode cX8_countVolume 97 = .ok (.iload 6, 2) := by decide +kernel
theorem dX8_countVolume_99 : decode cX8_countVolume 99 = .ok (.invokevirtual 283, 3) := by decide +kernel
theorem dX8_countVolume_102 : decode cX8_countVolume 102 = .ok (.istore 7, 2) := by decide +kernel
theorem dX8_countVolume_104 : decode cX8_countVolume 104 = .ok (.iconst 0, 1) := by decide +kernel
theorem dX8_countVolume_105 : decode cX8_countVolume 105 = .ok (.istore 8, 2) := by decide +kernel
theorem dX8_countVolume_107 : decode cX8_countVolume 107 = .ok (.iload 8, 2) := by decide +kernel
theorem dX8_countVolume_109 : decode cX8_countVolume 109 = .ok (.iload 7, 2) := by decide +kernel
theorem dX8_countVolume_111 : decode cX8_countVolume 111 = .ok (.iadd, 1) := by decide +kernel
theorem dX8_countVolume_112 : decode cX8_countVolume 112 = .ok (.bipush 48, 2) := by decide +kernel
theorem dX8_countVolume_114 : decode cX8_countVolume 114 = .ok (.if_icmp .gt 53, 3) := by decide +kernel
theorem dX8_countVolume_117 : decode cX8_countVolume 117 = .ok (.aload_n 0, 1) := by decide +kernel
theorem dX8_countVolume_118 : decode cX8_countVolume 118 = .ok (.iload 6, 2) := by decide +kernel
theorem dX8_countVolume_120 : decode cX8_countVolume 120 = .ok (.iload 5, 2) := by decide +kernel
theorem dX8_countVolume_122 : decode cX8_countVolume 122 = .ok (.iload_n 2, 1) := by decide +kernel
theorem dX8_countVolume_123 : decode cX8_countVolume 123 = .ok (.invokevirtual 178, 3) := by decide +kernel
theorem dX8_countVolume_126 : decode cX8_countVolume 126 = .ok (.ifCond .eq 41, 3) := by decide +kernel
theorem dX8_countVolume_129 : decode cX8_countVolume 129 = .ok (.aload_n 0, 1) := by decide +kernel
theorem dX8_countVolume_130 : decode cX8_countVolume 130 = .ok (.getfield 59, 3) := by decide +kernel
theorem dX8_countVolume_133 : decode cX8_countVolume 133 = .ok (.bipush 49, 2) := by decide +kernel
theorem dX8_countVolume_135 : decode cX8_countVolume 135 = .ok (.iload 6, 2) := by decide +kernel
theorem dX8_countVolume_137 : decode cX8_countVolume 137 = .ok (.imul, 1) := by decide +kernel
theorem dX8_countVolume_138 : decode cX8_countVolume 138 = .ok (.iload 8, 2) := by decide +kernel
theorem dX8_countVolume_140 : decode cX8_countVolume 140 = .ok (.iadd, 1) := by decide +kernel
theorem dX8_countVolume_141 : decode cX8_countVolume 141 = .ok (.iload 7, 2) := by decide +kernel
theorem dX8_countVolume_143 : decode cX8_countVolume 143 = .ok (.iadd, 1) := by decide +kernel
theorem dX8_countVolume_144 : decode cX8_countVolume 144 = .ok (.dup2, 1) := by decide +kernel
theorem dX8_countVolume_145 : decode cX8_countVolume 145 = .ok (.iaload, 1) := by decide +kernel
theorem dX8_countVolume_146 : decode cX8_countVolume 146 = .ok (.aload_n 0, 1) := by decide +kernel
theorem dX8_countVolume_147 : decode cX8_countVolume 147 = .ok (.getfield 56, 3) := by decide +kernel
theorem dX8_countVolume_150 : decode cX8_countVolume 150 = .ok (.bipush 49, 2) := by decide +kernel
theorem dX8_countVolume_152 : decode cX8_countVolume 152 = .ok (.iload 5, 2) := by decide +kernel
theorem dX8_countVolume_154 : decode cX8_countVolume 154 = .ok (.imul, 1) := by decide +kernel
theorem dX8_countVolume_155 : decode cX8_countVolume 155 = .ok (.iload 8, 2) := by decide +kernel
theorem dX8_countVolume_157 : decode cX8_countVolume 157 = .ok (.iadd, 1) := by decide +kernel
theorem dX8_countVolume_158 : decode cX8_countVolume 158 = .ok (.iaload, 1) := by decide +kernel
theorem dX8_countVolume_159 : decode cX8_countVolume 159 = .ok (.iadd, 1) := by decide +kernel
theorem dX8_countVolume_160 : decode cX8_countVolume 160 = .ok (.iastore, 1) := by decide +kernel
theorem dX8_countVolume_161 : decode cX8_countVolume 161 = .ok (.iinc 8 1, 3) := by decide +kernel
theorem dX8_countVolume_164 : decode cX8_countVolume 164 = .ok (.goto (-57), 3) := by decide +kernel
theorem dX8_countVolume_167 : decode cX8_countVolume 167 = .ok (.iinc 6 1, 3) := by decide +kernel
theorem dX8_countVolume_170 : decode cX8_countVolume 170 = .ok (.goto (-81), 3) := by decide +kernel
theorem dX8_countVolume_173 : decode cX8_countVolume 173 = .ok (.iinc 5 1, 3) := by decide +kernel
theorem dX8_countVolume_176 : decode cX8_countVolume 176 = .ok (.goto (-99), 3) := by decide +kernel
theorem dX8_countVolume_179 : decode cX8_countVolume 179 = .ok (.aload_n 0, 1) := by decide +kernel
theorem dX8_countVolume_180 : decode cX8_countVolume 180 = .ok (.getfield 59, 3) := by decide +kernel
theorem dX8_countVolume_183 : decode cX8_countVolume 183 = .ok (.iconst 0, 1) := by decide +kernel
theorem dX8_countVolume_184 : decode cX8_countVolume 184 = .ok (.aload_n 0, 1) := by decide +kernel
theorem dX8_countVolume_185 : decode cX8_countVolume 185 = .ok (.getfield 56, 3) := by decide +kernel
theorem dX8_countVolume_188 : decode cX8_countVolume 188 = .ok (.iconst 0, 1) := by decide +kernel
theorem dX8_countVolume_189 : decode cX8_countVolume 189 = .ok (.sipush 3430, 3) := by decide +kernel
theorem dX8_countVolume_192 : decode cX8_countVolume 192 = .ok (.invokestatic 93, 3) := by decide +kernel
theorem dX8_countVolume_195 : decode cX8_countVolume 195 = .ok (.iinc 4 1, 3) := by decide +kernel
theorem dX8_countVolume_198 : decode cX8_countVolume 198 = .ok (.goto (-155), 3) := by decide +kernel
theorem dX8_countVolume_201 : decode cX8_countVolume 201 = .ok (.iconst 0, 1) := by decide +kernel
theorem dX8_countVolume_202 : decode cX8_countVolume 202 = .ok (.istore 4, 2) := by decide +kernel
theorem dX8_countVolume_204 : decode cX8_countVolume 204 = .ok (.iconst 0, 1) := by decide +kernel
theorem dX8_countVolume_205 : decode cX8_countVolume 205 = .ok (.istore 5, 2) := by decide +kernel
theorem dX8_countVolume_207 : decode cX8_countVolume 207 = .ok (.iload 5, 2) := by decide +kernel
theorem dX8_countVolume_209 : decode cX8_countVolume 209 = .ok (.aload_n 0, 1) := by decide +kernel
theorem dX8_countVolume_210 : decode cX8_countVolume 210 = .ok (.getfield 172, 3) := by decide +kernel
theorem dX8_countVolume_213 : decode cX8_countVolume 213 = .ok (.if_icmp .ge 26, 3) := by decide +kernel
theorem dX8_countVolume_216 : decode cX8_countVolume 216 = .ok (.iload 4, 2) := by decide +kernel
theorem dX8_countVolume_218 : decode cX8_countVolume 218 = .ok (.aload_n 0, 1) := by decide +kernel
theorem dX8_countVolume_219 : decode cX8_countVolume 219 = .ok (.getfield 56, 3) := by decide +kernel
theorem dX8_countVolume_222 : decode cX8_countVolume 222 = .ok (.bipush 49, 2) := by decide +kernel
theorem dX8_countVolume_224 : decode cX8_countVolume 224 = .ok (.iload 5, 2) := by decide +kernel
theorem dX8_countVolume_226 : decode cX8_countVolume 226 = .ok (.imul, 1) := by decide +kernel
theorem dX8_countVolume_227 : decode cX8_countVolume 227 = .ok (.iload_n 3, 1) := by decide +kernel
theorem dX8_countVolume_228 : decode cX8_countVolume 228 = .ok (.iadd, 1) := by decide +kernel
theorem dX8_countVolume_229 : decode cX8_countVolume 229 = .ok (.iaload, 1) := by decide +kernel
theorem dX8_countVolume_230 : decode cX8_countVolume 230 = .ok (.iadd, 1) := by decide +kernel
theorem dX8_countVolume_231 : decode cX8_countVolume 231 = .ok (.istore 4, 2) := by decide +kernel
theorem dX8_countVolume_233 : decode cX8_countVolume 233 = .ok (.iinc 5 1, 3) := by decide +kernel
theorem dX8_countVolume_236 : decode cX8_countVolume 236 = .ok (.goto (-29), 3) := by decide +kernel
theorem dX8_countVolume_239 : decode cX8_countVolume 239 = .ok (.iload 4, 2) := by decide +kernel
theorem dX8_countVolume_241 : decode cX8_countVolume 241 = .ok (.ireturn, 1) := by decide +kernel
set_option maxRecDepth 20000 in
theorem ggX8_series_X8_isBox : GoodIn wsX8_series wsX8_isBox := goodIn_r _ [7, 8, 9, 6, 10] (by decide +kernel) (by decide +kernel)
set_option maxRecDepth 20000 in
theorem gX8_series_X8_isBox : GoodIn wsX8_series (va_wsS RX8 193 yX8_isBox wsX8_isBox) := goodIn_app (goodIn_of _ (by decide +kernel)) ggX8_series_X8_isBox
set_option maxRecDepth 20000 in
theorem ggX8_series_X8_laysRows : GoodIn wsX8_series wsX8_laysRows := goodIn_r _ [14, 2, 3, 32, 33, 34, 35, 36, 37, 38, 39, 40, 41, 42, 43, 44, 45, 46, 47, 48, 49, 50, 51, 52, 53, 54, 55, 56, 57, 58, 59, 60] (by decide +kernel) (by decide +kernel)
set_option maxRecDepth 20000 in
theorem gX8_series_X8_laysRows : GoodIn wsX8_series (wsV RX8 175 RX8 yX8_laysRows wsX8_laysRows) := goodIn_app (goodIn_of _ (by decide +kernel)) ggX8_series_X8_laysRows
set_option maxRecDepth 20000 in
theorem ggX8_series_X8_countVolume : GoodIn wsX8_series wsX8_countVolume := goodIn_r _ [18, 19, 2, 20, 21, 22, 23, 6, 24, 3, 25, 26, 27, 28, 29, 30, 31, 32, 33, 34, 35, 36, 37, 38, 39, 40, 41, 42, 43, 44, 45, 46, 47, 48, 49, 50, 51, 52, 53, 54, 55, 56, 57, 58, 59, 60] (by decide +kernel) (by decide +kernel)
set_option maxRecDepth 20000 in
theorem gX8_series_X8_countVolume : GoodIn wsX8_series (wsV RX8 286 RX8 yX8_countVolume wsX8_countVolume) := goodIn_app (goodIn_of _ (by decide +kernel)) ggX8_series_X8_countVolume
theorem dX8_series_0 : decode cX8_series 0 = .ok (.iload_n 1, 1) := by decide +kernel
theorem dX8_series_1 : decode cX8_series 1 = .ok (.iload_n 2, 1) := by decide +kernel
theorem dX8_series_2 : decode cX8_series 2 = .ok (.iload_n 3, 1) := by decide +kernel
theorem dX8_series_3 : decode cX8_series 3 = .ok (.invokestatic 193, 3) := by decide +kernel
theorem dX8_series_6 : decode cX8_series 6 = .ok (.ifCond .eq 8, 3) := by decide +kernel
theorem dX8_series_9 : decode cX8_series 9 = .ok (.iload 4, 2) := by decide +kernel
theorem dX8_series_11 : decode cX8_series 11 = .ok (.ifCond .ge 6, 3) := by decide +kernel
theorem dX8_series_14 : decode cX8_series 14 = .ok (.ldc 105, 2) := by decide +kernel
theorem dX8_series_16 : decode cX8_series 16 = .ok (.ireturn, 1) := by decide +kernel
theorem dX8_series_17 : decode cX8_series 17 = .ok (.iload 4, 2) := by decide +kernel
theorem dX8_series_19 : decode cX8_series 19 = .ok (.bipush 48, 2) := by decide +kernel
theorem dX8_series_21 : decode cX8_series 21 = .ok (.if_icmp .le 5, 3) := by decide +kernel
theorem dX8_series_24 : decode cX8_series 24 = .ok (.iconst 0, 1) := by decide +kernel
theorem dX8_series_25 : decode cX8_series 25 = .ok (.ireturn, 1) := by decide +kernel
theorem dX8_series_26 : decode cX8_series 26 = .ok (.aload_n 0, 1) := by decide +kernel
theorem dX8_series_27 : decode cX8_series 27 = .ok (.iload_n 2, 1) := by decide +kernel
theorem dX8_series_28 : decode cX8_series 28 = .ok (.iload_n 3, 1) := by decide +kernel
theorem dX8_series_29 : decode cX8_series 29 = .ok (.invokevirtual 175, 3) := by decide +kernel
theorem dX8_series_32 : decode cX8_series 32 = .ok (.iconst 0, 1) := by decide +kernel
theorem dX8_series_33 : decode cX8_series 33 = .ok (.istore 5, 2) := by decide +kernel
theorem dX8_series_35 : decode cX8_series 35 = .ok (.iload 5, 2) := by decide +kernel
theorem dX8_series_37 : decode cX8_series 37 = .ok (.aload_n 0, 1) := by decide +kernel
theorem dX8_series_38 : decode cX8_series 38 = .ok (.getfield 172, 3) := by decide +kernel
theorem dX8_series_41 : decode cX8_series 41 = .ok (.if_icmp .ge 37, 3) := by decide +kernel
theorem dX8_series_44 : decode cX8_series 44 = .ok (.iload_n 2, 1) := by decide +kernel
theorem dX8_series_45 : decode cX8_series 45 = .ok (.istore 6, 2) := by decide +kernel
theorem dX8_series_47 : decode cX8_series 47 = .ok (.iload 6, 2) := by decide +kernel
theorem dX8_series_49 : decode cX8_series 49 = .ok (.iconst 4, 1) := by decide +kernel
theorem dX8_series_50 : decode cX8_series 50 = .ok (.if_icmp .ge 22, 3) := by decide +kernel
theorem dX8_series_53 : decode cX8_series 53 = .ok (.aload_n 0, 1) := by decide +kernel
theorem dX8_series_54 : decode cX8_series 54 = .ok (.getfield 35, 3) := by decide +kernel
theorem dX8_series_57 : decode cX8_series 57 = .ok (.iconst 4, 1) := by decide +kernel
theorem dX8_series_58 : decode cX8_series 58 = .ok (.iload 5, 2) := by decide +kernel
theorem dX8_series_60 : decode cX8_series 60 = .ok (.imul, 1) := by decide +kernel
theorem dX8_series_61 : decode cX8_series 61 = .ok (.iload 6, 2) := by decide +kernel
theorem dX8_series_63 : decode cX8_series 63 = .ok (.iadd, 1) := by decide +kernel
theorem dX8_series_64 : decode cX8_series 64 = .ok (.iconst 0, 1) := by decide +kernel
theorem dX8_series_65 : decode cX8_series 65 = .ok (.iastore, 1) := by decide +kernel
theorem dX8_series_66 : decode cX8_series 66 = .ok (.iinc 6 1, 3) := by decide +kernel
theorem dX8_series_69 : decode cX8_series 69 = .ok (.goto (-22), 3) := by decide +kernel
theorem dX8_series_72 : decode cX8_series 72 = .ok (.iinc 5 1, 3) := by decide +kernel
theorem dX8_series_75 : decode cX8_series 75 = .ok (.goto (-40), 3) := by decide +kernel
theorem dX8_series_78 : decode cX8_series 78 = .ok (.aload_n 0, 1) := by decide +kernel
theorem dX8_series_79 : decode cX8_series 79 = .ok (.iload_n 1, 1) := by decide +kernel
theorem dX8_series_80 : decode cX8_series 80 = .ok (.iload_n 2, 1) := by decide +kernel
theorem dX8_series_81 : decode cX8_series 81 = .ok (.iload 4, 2) := by decide +kernel
theorem dX8_series_83 : decode cX8_series 83 = .ok (.invokevirtual 286, 3) := by decide +kernel
theorem dX8_series_86 : decode cX8_series 86 = .ok (.ireturn, 1) := by decide +kernel
theorem dX8_power_0 : decode cX8_power 0 = .ok (.lconst 1, 1) := by decide +kernel
theorem dX8_power_1 : decode cX8_power 1 = .ok (.lstore_n 2, 1) := by decide +kernel
theorem dX8_power_2 : decode cX8_power 2 = .ok (.iconst 0, 1) := by decide +kernel
theorem dX8_power_3 : decode cX8_power 3 = .ok (.istore 4, 2) := by decide +kernel
theorem dX8_power_5 : decode cX8_power 5 = .ok (.iload 4, 2) := by decide +kernel
theorem dX8_power_7 : decode cX8_power 7 = .ok (.iload_n 1, 1) := by decide +kernel
theorem dX8_power_8 : decode cX8_power 8 = .ok (.if_icmp .ge 18, 3) := by decide +kernel
theorem dX8_power_11 : decode cX8_power 11 = .ok (.lload_n 2, 1) := by decide +kernel
theorem dX8_power_12 : decode cX8_power 12 = .ok (.iload_n 0, 1) := by decide +kernel
theorem dX8_power_13 : decode cX8_power 13 = .ok (.i2l, 1) := by decide +kernel
theorem dX8_power_14 : decode cX8_power 14 = .ok (.lmul, 1) := by decide +kernel
theorem dX8_power_15 : decode cX8_power 15 = .ok (.ldc2_w 289, 3) := by decide +kernel
theorem dX8_power_18 : decode cX8_power 18 = .ok (.lrem, 1) := by decide +kernel
theorem dX8_power_19 : decode cX8_power 19 = .ok (.lstore_n 2, 1) := by decide +kernel
theorem dX8_power_20 : decode cX8_power 20 = .ok (.iinc 4 1, 3) := by decide +kernel
theorem dX8_power_23 : decode cX8_power 23 = .ok (.goto (-18), 3) := by decide +kernel
theorem dX8_power_26 : decode cX8_power 26 = .ok (.lload_n 2, 1) := by decide +kernel
theorem dX8_power_27 : decode cX8_power 27 = .ok (.lreturn, 1) := by decide +kernel
theorem dX8_exponent_0 : decode cX8_exponent 0 = .ok (.iconst 0, 1) := by decide +kernel
theorem dX8_exponent_1 : decode cX8_exponent 1 = .ok (.istore 6, 2) := by decide +kernel
theorem dX8_exponent_3 : decode cX8_exponent 3 = .ok (.iconst 0, 1) := by decide +kernel
theorem dX8_exponent_4 : decode cX8_exponent 4 = .ok (.istore 7, 2) := by decide +kernel
theorem dX8_exponent_6 : decode cX8_exponent 6 = .ok (.iconst 0, 1) := by decide +kernel
theorem dX8_exponent_7 : decode cX8_exponent 7 = .ok (.istore 8, 2) := by decide +kernel
theorem dX8_exponent_9 : decode cX8_exponent 9 = .ok (.iload 8, 2) := by decide +kernel
theorem dX8_exponent_11 : decode cX8_exponent 11 = .ok (.iload 5, 2) := by decide +kernel
theorem dX8_exponent_13 : decode cX8_exponent 13 = .ok (.if_icmp .ge 51, 3) := by decide +kernel
theorem dX8_exponent_16 : decode cX8_exponent 16 = .ok (.iload 6, 2) := by decide +kernel
theorem dX8_exponent_18 : decode cX8_exponent 18 = .ok (.aload_n 0, 1) := by decide +kernel
theorem dX8_exponent_19 : decode cX8_exponent 19 = .ok (.getfield 35, 3) := by decide +kernel
theorem dX8_exponent_22 : decode cX8_exponent 22 = .ok (.iconst 4, 1) := by decide +kernel
theorem dX8_exponent_23 : decode cX8_exponent 23 = .ok (.iload 4, 2) := by decide +kernel
theorem dX8_exponent_25 : decode cX8_exponent 25 = .ok (.imul, 1) := by decide +kernel
theorem dX8_exponent_26 : decode cX8_exponent 26 = .ok (.iload 8, 2) := by decide +kernel
theorem dX8_exponent_28 : decode cX8_exponent 28 = .ok (.iadd, 1) := by decide +kernel
theorem dX8_exponent_29 : decode cX8_exponent 29 = .ok (.iaload, 1) := by decide +kernel
theorem dX8_exponent_30 : decode cX8_exponent 30 = .ok (.iadd, 1) := by decide +kernel
theorem dX8_exponent_31 : decode cX8_exponent 31 = .ok (.istore 6, 2) := by decide +kernel
theorem dX8_exponent_33 : decode cX8_exponent 33 = .ok (.iload 7, 2) := by decide +kernel
theorem dX8_exponent_35 : decode cX8_exponent 35 = .ok (.aload_n 0, 1) := by decide +kernel
theorem dX8_exponent_36 : decode cX8_exponent 36 = .ok (.getfield 35, 3) := by decide +kernel
theorem dX8_exponent_39 : decode cX8_exponent 39 = .ok (.iconst 4, 1) := by decide +kernel
theorem dX8_exponent_40 : decode cX8_exponent 40 = .ok (.iload 4, 2) := by decide +kernel
theorem dX8_exponent_42 : decode cX8_exponent 42 = .ok (.imul, 1) := by decide +kernel
theorem dX8_exponent_43 : decode cX8_exponent 43 = .ok (.iload 8, 2) := by decide +kernel
theorem dX8_exponent_45 : decode cX8_exponent 45 = .ok (.iadd, 1) := by decide +kernel
theorem dX8_exponent_46 : decode cX8_exponent 46 = .ok (.iaload, 1) := by decide +kernel
theorem dX8_exponent_47 : decode cX8_exponent 47 = .ok (.ifCond .le 7, 3) := by decide +kernel
theorem dX8_exponent_50 : decode cX8_exponent 50 = .ok (.iconst 1, 1) := by decide +kernel
theorem dX8_exponent_51 : decode cX8_exponent 51 = .ok (.goto 4, 3) := by decide +kernel
theorem dX8_exponent_54 : decode cX8_exponent 54 = .ok (.iconst 0, 1) := by decide +kernel
theorem dX8_exponent_55 : decode cX8_exponent 55 = .ok (.iadd, 1) := by decide +kernel
theorem dX8_exponent_56 : decode cX8_exponent 56 = .ok (.istore 7, 2) := by decide +kernel
theorem dX8_exponent_58 : decode cX8_exponent 58 = .ok (.iinc 8 1, 3) := by decide +kernel
theorem dX8_exponent_61 : decode cX8_exponent 61 = .ok (.goto (-52), 3) := by decide +kernel
theorem dX8_exponent_64 : decode cX8_exponent 64 = .ok (.iload_n 1, 1) := by decide +kernel
theorem dX8_exponent_65 : decode cX8_exponent 65 = .ok (.tableswitch 71 1 4 #[31, 34, 56, 59], 31) := by decide +kernel
theorem dX8_exponent_96 : decode cX8_exponent 96 = .ok (.iload 6, 2) := by decide +kernel
theorem dX8_exponent_98 : decode cX8_exponent 98 = .ok (.ireturn, 1) := by decide +kernel
theorem dX8_exponent_99 : decode cX8_exponent 99 = .ok (.iload_n 2, 1) := by decide +kernel
theorem dX8_exponent_100 : decode cX8_exponent 100 = .ok (.iload 5, 2) := by decide +kernel
theorem dX8_exponent_102 : decode cX8_exponent 102 = .ok (.if_icmp .ge 17, 3) := by decide +kernel
theorem dX8_exponent_105 : decode cX8_exponent 105 = .ok (.aload_n 0, 1) := by decide +kernel
theorem dX8_exponent_106 : decode cX8_exponent 106 = .ok (.getfield 35, 3) := by decide +kernel
theorem dX8_exponent_109 : decode cX8_exponent 109 = .ok (.iconst 4, 1) := by decide +kernel
theorem dX8_exponent_110 : decode cX8_exponent 110 = .ok (.iload 4, 2) := by decide +kernel
theorem dX8_exponent_112 : decode cX8_exponent 112 = .ok (.imul, 1) := by decide +kernel
theorem dX8_exponent_113 : decode cX8_exponent 113 = .ok (.iload_n 2, 1) := by decide +kernel
theorem dX8_exponent_114 : decode cX8_exponent 114 = .ok (.iadd, 1) := by decide +kernel
theorem dX8_exponent_115 : decode cX8_exponent 115 = .ok (.iaload, 1) := by decide +kernel
theorem dX8_exponent_116 : decode cX8_exponent 116 = .ok (.goto 4, 3) := by decide +kernel
theorem dX8_exponent_119 : decode cX8_exponent 119 = .ok (.iconst 0, 1) := by decide +kernel
theorem dX8_exponent_120 : decode cX8_exponent 120 = .ok (.ireturn, 1) := by decide +kernel
theorem dX8_exponent_121 : decode cX8_exponent 121 = .ok (.iload 7, 2) := by decide +kernel
theorem dX8_exponent_123 : decode cX8_exponent 123 = .ok (.ireturn, 1) := by decide +kernel
theorem dX8_exponent_124 : decode cX8_exponent 124 = .ok (.iload 4, 2) := by decide +kernel
theorem dX8_exponent_126 : decode cX8_exponent 126 = .ok (.iload_n 3, 1) := by decide +kernel
theorem dX8_exponent_127 : decode cX8_exponent 127 = .ok (.if_icmp .ne 7, 3) := by decide +kernel
theorem dX8_exponent_130 : decode cX8_exponent 130 = .ok (.iconst 0, 1) := by decide +kernel
theorem dX8_exponent_131 : decode cX8_exponent 131 = .ok (.goto 4, 3) := by decide +kernel
theorem dX8_exponent_134 : decode cX8_exponent 134 = .ok (.iconst 1, 1) := by decide +kernel
theorem dX8_exponent_135 : decode cX8_exponent 135 = .ok (.ireturn, 1) := by decide +kernel
theorem dX8_exponent_136 : decode cX8_exponent 136 = .ok (.iconst 0, 1) := by decide +kernel
theorem dX8_exponent_137 : decode cX8_exponent 137 = .ok (.ireturn, 1) := by decide +kernel
theorem dX8_beginsSums_0 : decode cX8_beginsSums 0 = .ok (.iconst 0, 1) := by decide +kernel
theorem dX8_beginsSums_1 : decode cX8_beginsSums 1 = .ok (.istore_n 1, 1) := by decide +kernel
theorem dX8_beginsSums_2 : decode cX8_beginsSums 2 = .ok (.iload_n 1, 1) := by decide +kernel
theorem dX8_beginsSums_3 : decode cX8_beginsSums 3 = .ok (.aload_n 0, 1) := by decide +kernel
theorem dX8_beginsSums_4 : decode cX8_beginsSums 4 = .ok (.getfield 172, 3) := by decide +kernel
theorem dX8_beginsSums_7 : decode cX8_beginsSums 7 = .ok (.if_icmp .ge 30, 3) := by decide +kernel
theorem dX8_beginsSums_10 : decode cX8_beginsSums 10 = .ok (.aload_n 0, 1) := by decide +kernel
theorem dX8_beginsSums_11 : decode cX8_beginsSums 11 = .ok (.getfield 62, 3) := by decide +kernel
theorem dX8_beginsSums_14 : decode cX8_beginsSums 14 = .ok (.iload_n 1, 1) := by decide +kernel
theorem dX8_beginsSums_15 : decode cX8_beginsSums 15 = .ok (.iload_n 1, 1) := by decide +kernel
theorem dX8_beginsSums_16 : decode cX8_beginsSums 16 = .ok (.aload_n 0, 1) := by decide +kernel
theorem dX8_beginsSums_17 : decode cX8_beginsSums 17 = .ok (.getfield 172, 3) := by decide +kernel
theorem dX8_beginsSums_20 : decode cX8_beginsSums 20 = .ok (.iconst 1, 1) := by decide +kernel
theorem dX8_beginsSums_21 : decode cX8_beginsSums 21 = .ok (.isub, 1) := by decide +kernel
theorem dX8_beginsSums_22 : decode cX8_beginsSums 22 = .ok (.if_icmp .ne 7, 3) := by decide +kernel
theorem dX8_beginsSums_25 : decode cX8_beginsSums 25 = .ok (.lconst 1, 1) := by decide +kernel
theorem dX8_beginsSums_26 : decode cX8_beginsSums 26 = .ok (.goto 4, 3) := by decide +kernel
theorem dX8_beginsSums_29 : decode cX8_beginsSums 29 = .ok (.lconst 0, 1) := by decide +kernel
theorem dX8_beginsSums_30 : decode cX8_beginsSums 30 = .ok (.lastore, 1) := by decide +kernel
theorem dX8_beginsSums_31 : decode cX8_beginsSums 31 = .ok (.iinc 1 1, 3) := by decide +kernel
theorem dX8_beginsSums_34 : decode cX8_beginsSums 34 = .ok (.goto (-32), 3) := by decide +kernel
theorem dX8_beginsSums_37 : decode cX8_beginsSums 37 = .ok (.return_, 1) := by decide +kernel
theorem dX8_nextRow_0 : decode cX8_nextRow 0 = .ok (.iconst 0, 1) := by decide +kernel
theorem dX8_nextRow_1 : decode cX8_nextRow 1 = .ok (.istore_n 1, 1) := by decide +kernel
theorem dX8_nextRow_2 : decode cX8_nextRow 2 = .ok (.iload_n 1, 1) := by decide +kernel
theorem dX8_nextRow_3 : decode cX8_nextRow 3 = .ok (.aload_n 0, 1) := by decide +kernel
theorem dX8_nextRow_4 : decode cX8_nextRow 4 = .ok (.getfield 172, 3) := by decide +kernel
theorem dX8_nextRow_7 : decode cX8_nextRow 7 = .ok (.if_icmp .ge 21, 3) := by decide +kernel
theorem dX8_nextRow_10 : decode cX8_nextRow 10 = .ok (.aload_n 0, 1) := by decide +kernel
theorem dX8_nextRow_11 : decode cX8_nextRow 11 = .ok (.getfield 62, 3) := by decide +kernel
theorem dX8_nextRow_14 : decode cX8_nextRow 14 = .ok (.iload_n 1, 1) := by decide +kernel
theorem dX8_nextRow_15 : decode cX8_nextRow 15 = .ok (.aload_n 0, 1) := by decide +kernel
theorem dX8_nextRow_16 : decode cX8_nextRow 16 = .ok (.getfield 66, 3) := by decide +kernel
theorem dX8_nextRow_19 : decode cX8_nextRow 19 = .ok (.iload_n 1, 1) := by decide +kernel
theorem dX8_nextRow_20 : decode cX8_nextRow 20 = .ok (.laload, 1) := by decide +kernel
theorem dX8_nextRow_21 : decode cX8_nextRow 21 = .ok (.lastore, 1) := by decide +kernel
theorem dX8_nextRow_22 : decode cX8_nextRow 22 = .ok (.iinc 1 1, 3) := by decide +kernel
theorem dX8_nextRow_25 : decode cX8_nextRow 25 = .ok (.goto (-23), 3) := by decide +kernel
theorem dX8_nextRow_28 : decode cX8_nextRow 28 = .ok (.return_, 1) := by decide +kernel
theorem dX8_allSums_0 : decode cX8_allSums 0 = .ok (.lconst 0, 1) := by decide +kernel
theorem dX8_allSums_1 : decode cX8_allSums 1 = .ok (.lstore_n 1, 1) := by decide +kernel
theorem dX8_allSums_2 : decode cX8_allSums 2 = .ok (.iconst 0, 1) := by decide +kernel
theorem dX8_allSums_3 : decode cX8_allSums 3 = .ok (.istore_n 3, 1) := by decide +kernel
theorem dX8_allSums_4 : decode cX8_allSums 4 = .ok (.iload_n 3, 1) := by decide +kernel
theorem dX8_allSums_5 : decode cX8_allSums 5 = .ok (.aload_n 0, 1) := by decide +kernel
theorem dX8_allSums_6 : decode cX8_allSums 6 = .ok (.getfield 172, 3) := by decide +kernel
theorem dX8_allSums_9 : decode cX8_allSums 9 = .ok (.if_icmp .ge 18, 3) := by decide +kernel
theorem dX8_allSums_12 : decode cX8_allSums 12 = .ok (.lload_n 1, 1) := by decide +kernel
theorem dX8_allSums_13 : decode cX8_allSums 13 = .ok (.aload_n 0, 1) := by decide +kernel
theorem dX8_allSums_14 : decode cX8_allSums 14 = .ok (.getfield 62, 3) := by decide +kernel
theorem dX8_allSums_17 : decode cX8_allSums 17 = .ok (.iload_n 3, 1) := by decide +kernel
theorem dX8_allSums_18 : decode cX8_allSums 18 = .ok (.laload, 1) := by decide +kernel
theorem dX8_allSums_19 : decode cX8_allSums 19 = .ok (.ladd, 1) := by decide +kernel
theorem dX8_allSums_20 : decode cX8_allSums 20 = .ok (.lstore_n 1, 1) := by decide +kernel
theorem dX8_allSums_21 : decode cX8_allSums 21 = .ok (.iinc 3 1, 3) := by decide +kernel
theorem dX8_allSums_24 : decode cX8_allSums 24 = .ok (.goto (-20), 3) := by decide +kernel
theorem dX8_allSums_27 : decode cX8_allSums 27 = .ok (.lload_n 1, 1) := by decide +kernel
theorem dX8_allSums_28 : decode cX8_allSums 28 = .ok (.lreturn, 1) := by decide +kernel
set_option maxRecDepth 20000 in
theorem ggX8_weighed_X8_isBox : GoodIn wsX8_weighed wsX8_isBox := goodIn_r _ [9, 10, 11, 8, 12] (by decide +kernel) (by decide +kernel)
set_option maxRecDepth 20000 in
theorem gX8_weighed_X8_isBox : GoodIn wsX8_weighed (va_wsS RX8 193 yX8_isBox wsX8_isBox) := goodIn_app (goodIn_of _ (by decide +kernel)) ggX8_weighed_X8_isBox
set_option maxRecDepth 20000 in
theorem ggX8_weighed_X8_in : GoodIn wsX8_weighed wsX8_in := goodIn_r _ [12] (by decide +kernel) (by decide +kernel)
set_option maxRecDepth 20000 in
theorem gX8_weighed_X8_in : GoodIn wsX8_weighed (va_wsS RX8 82 yX8_in wsX8_in) := goodIn_app (goodIn_of _ (by decide +kernel)) ggX8_weighed_X8_in
set_option maxRecDepth 20000 in
theorem ggX8_weighed_X8_laysRows : GoodIn wsX8_weighed wsX8_laysRows := goodIn_r _ [16, 2, 17, 41, 42, 43, 44, 45, 46, 47, 48, 49, 50, 51, 52, 53, 54, 55, 56, 57, 58, 59, 60, 61, 62, 63, 64, 65, 66, 67, 68, 69] (by decide +kernel) (by decide +kernel)
set_option maxRecDepth 20000 in
theorem gX8_weighed_X8_laysRows : GoodIn wsX8_weighed (wsV RX8 175 RX8 yX8_laysRows wsX8_laysRows) := goodIn_app (goodIn_of _ (by decide +kernel)) ggX8_weighed_X8_laysRows
set_option maxRecDepth 20000 in
theorem ggX8_weighed_X8_beginsSums : GoodIn wsX8_weighed wsX8_beginsSums := goodIn_r _ [21, 2, 4, 41, 42, 43, 44, 45, 46, 47, 48, 49, 50, 51, 52, 53, 54, 55, 56, 57, 58, 59, 60, 61, 62, 63, 64, 65, 66, 67, 68, 69] (by decide +kernel) (by decide +kernel)
set_option maxRecDepth 20000 in
theorem gX8_weighed_X8_beginsSums : GoodIn wsX8_weighed (wsV RX8 291 RX8 yX8_beginsSums wsX8_beginsSums) := goodIn_app (goodIn_of _ (by decide +kernel)) ggX8_weighed_X8_beginsSums
set_option maxRecDepth 20000 in
theorem ggX8_weighed_X8_isUnder : GoodIn wsX8_weighed wsX8_isUnder := goodIn_r _ [25, 17, 41, 42, 43, 44, 45, 46, 47, 48, 49, 50, 51, 52, 53, 54, 55, 56, 57, 58, 59, 60, 61, 62, 63, 64, 65, 66, 67, 68, 69] (by decide +kernel) (by decide +kernel)
set_option maxRecDepth 20000 in
theorem gX8_weighed_X8_isUnder : GoodIn wsX8_weighed (wsV RX8 178 RX8 yX8_isUnder wsX8_isUnder) := goodIn_app (goodIn_of _ (by decide +kernel)) ggX8_weighed_X8_isUnder
set_option maxRecDepth 20000 in
theorem ggX8_weighed_X8_exponent : GoodIn wsX8_weighed wsX8_exponent := goodIn_r _ [29, 17, 41, 42, 43, 44, 45, 46, 47, 48, 49, 50, 51, 52, 53, 54, 55, 56, 57, 58, 59, 60, 61, 62, 63, 64, 65, 66, 67, 68, 69] (by decide +kernel) (by decide +kernel)
set_option maxRecDepth 20000 in
theorem gX8_weighed_X8_exponent : GoodIn wsX8_weighed (wsV RX8 294 RX8 yX8_exponent wsX8_exponent) := goodIn_app (goodIn_of _ (by decide +kernel)) ggX8_weighed_X8_exponent
set_option maxRecDepth 20000 in
theorem ggX8_weighed_X8_power : GoodIn wsX8_weighed wsX8_power := goodIn_r _ [32, 5] (by decide +kernel) (by decide +kernel)
set_option maxRecDepth 20000 in
theorem gX8_weighed_X8_power : GoodIn wsX8_weighed (va_wsS RX8 297 yX8_power wsX8_power) := goodIn_app (goodIn_of _ (by decide +kernel)) ggX8_weighed_X8_power
set_option maxRecDepth 20000 in
theorem ggX8_weighed_X8_nextRow : GoodIn wsX8_weighed wsX8_nextRow := goodIn_r _ [36, 2, 4, 3, 41, 42, 43, 44, 45, 46, 47, 48, 49, 50, 51, 52, 53, 54, 55, 56, 57, 58, 59, 60, 61, 62, 63, 64, 65, 66, 67, 68, 69] (by decide +kernel) (by decide +kernel)
set_option maxRecDepth 20000 in
theorem gX8_weighed_X8_nextRow : GoodIn wsX8_weighed (wsV RX8 300 RX8 yX8_nextRow wsX8_nextRow) := goodIn_app (goodIn_of _ (by decide +kernel)) ggX8_weighed_X8_nextRow
set_option maxRecDepth 20000 in
theorem ggX8_weighed_X8_allSums : GoodIn wsX8_weighed wsX8_allSums := goodIn_r _ [40, 2, 4, 41, 42, 43, 44, 45, 46, 47, 48, 49, 50, 51, 52, 53, 54, 55, 56, 57, 58, 59, 60, 61, 62, 63, 64, 65, 66, 67, 68, 69] (by decide +kernel) (by decide +kernel)
set_option maxRecDepth 20000 in
theorem gX8_weighed_X8_allSums : GoodIn wsX8_weighed (wsV RX8 303 RX8 yX8_allSums wsX8_allSums) := goodIn_app (goodIn_of _ (by decide +kernel)) ggX8_weighed_X8_allSums
theorem dX8_weighed_0 : decode cX8_weighed 0 = .ok (.iload_n 1, 1) := by decide +kernel
theorem dX8_weighed_1 : decode cX8_weighed 1 = .ok (.iload_n 2, 1) := by decide +kernel
theorem dX8_weighed_2 : decode cX8_weighed 2 = .ok (.iload_n 3, 1) := by decide +kernel
theorem dX8_weighed_3 : decode cX8_weighed 3 = .ok (.invokestatic 193, 3) := by decide +kernel
theorem dX8_weighed_6 : decode cX8_weighed 6 = .ok (.ifCond .eq 24, 3) := by decide +kernel
theorem dX8_weighed_9 : decode cX8_weighed 9 = .ok (.iload 4, 2) := by decide +kernel
theorem dX8_weighed_11 : decode cX8_weighed 11 = .ok (.iconst 0, 1) := by decide +kernel
theorem dX8_weighed_12 : decode cX8_weighed 12 = .ok (.iconst 4, 1) := by decide +kernel
theorem dX8_weighed_13 : decode cX8_weighed 13 = .ok (.invokestatic 82, 3) := by decide +kernel
theorem dX8_weighed_16 : decode cX8_weighed 16 = .ok (.ifCond .eq 14, 3) := by decide +kernel
theorem dX8_weighed_19 : decode cX8_weighed 19 = .ok (.iload 5, 2) := by decide +kernel
theorem dX8_weighed_21 : decode cX8_weighed 21 = .ok (.iconst 1, 1) := by decide +kernel
theorem dX8_weighed_22 : decode cX8_weighed 22 = .ok (.bipush 9, 2) := by decide +kernel
theorem dX8_weighed_24 : decode cX8_weighed 24 = .ok (.invokestatic 82, 3) := by decide +kernel
theorem dX8_weighed_27 : decode cX8_weighed 27 = .ok (.ifCond .ne 6, 3) := by decide +kernel
theorem dX8_weighed_30 : decode cX8_weighed 30 = .ok (.ldc 105, 2) := by decide +kernel
theorem dX8_weighed_32 : decode cX8_weighed 32 = .ok (.ireturn, 1) := by decide +kernel
theorem dX8_weighed_33 : decode cX8_weighed 33 = .ok (.aload_n 0, 1) := by decide +kernel
theorem dX8_weighed_34 : decode cX8_weighed 34 = .ok (.iload_n 2, 1) := by decide +kernel
theorem dX8_weighed_35 : decode cX8_weighed 35 = .ok (.iload_n 3, 1) := by decide +kernel
theorem dX8_weighed_36 : decode cX8_weighed 36 = .ok (.invokevirtual 175, 3) := by decide +kernel
theorem dX8_weighed_39 : decode cX8_weighed 39 = .ok (.aload_n 0, 1) := by decide +kernel
theorem dX8_weighed_40 : decode cX8_weighed 40 = .ok (.invokevirtual 291, 3) := by decide +kernel
theorem dX8_weighed_43 : decode cX8_weighed 43 = .ok (.iconst 0, 1) := by decide +kernel
theorem dX8_weighed_44 : decode cX8_weighed 44 = .ok (.istore 6, 2) := by decide +kernel
theorem dX8_weighed_46 : decode cX8_weighed 46 = .ok (.iload 6, 2) := by decide +kernel
theorem dX8_weighed_48 : decode cX8_weighed 48 = .ok (.iload_n 1, 1) := by decide +kernel
theorem dX8_weighed_49 : decode cX8_weighed 49 = .ok (.if_icmp .ge 135, 3) := by decide +kernel
theorem dX8_weighed_52 : decode cX8_weighed 52 = .ok (.iconst 0, 1) := by decide +kernel
theorem dX8_weighed_53 : decode cX8_weighed 53 = .ok (.istore 7, 2) := by decide +kernel
theorem dX8_weighed_55 : decode cX8_weighed 55 = .ok (.iload 7, 2) := by decide +kernel
theorem dX8_weighed_57 : decode cX8_weighed 57 = .ok (.aload_n 0, 1) := by decide +kernel
theorem dX8_weighed_58 : decode cX8_weighed 58 = .ok (.getfield 172, 3) := by decide +kernel
theorem dX8_weighed_61 : decode cX8_weighed 61 = .ok (.if_icmp .ge 113, 3) := by decide +kernel
theorem dX8_weighed_64 : decode cX8_weighed 64 = .ok (.aload_n 0, 1) := by decide +kernel
theorem dX8_weighed_65 : decode cX8_weighed 65 = .ok (.getfield 66, 3) := by decide +kernel
theorem dX8_weighed_68 : decode cX8_weighed 68 = .ok (.iload 7, 2) := by decide +kernel
theorem dX8_weighed_70 : decode cX8_weighed 70 = .ok (.lconst 0, 1) := by decide +kernel
theorem dX8_weighed_71 : decode cX8_weighed 71 = .ok (.lastore, 1) := by decide +kernel
theorem dX8_weighed_72 : decode cX8_weighed 72 = .ok (.iload 7, 2) := by decide +kernel
theorem dX8_weighed_74 : decode cX8_weighed 74 = .ok (.istore 8, 2) := by decide +kernel
theorem dX8_weighed_76 : decode cX8_weighed 76 = .ok (.iload 8, 2) := by decide +kernel
theorem dX8_weighed_78 : decode cX8_weighed 78 = .ok (.aload_n 0, 1) := by decide +kernel
theorem dX8_weighed_79 : decode cX8_weighed 79 = .ok (.getfield 172, 3) := by decide +kernel
theorem dX8_weighed_82 : decode cX8_weighed 82 = .ok (.if_icmp .ge 86, 3) := by decide +kernel
theorem dX8_weighed_85 : decode cX8_weighed 85 = .ok (.aload_n 0, 1) := by decide +kernel
theorem dX8_weighed_86 : decode cX8_weighed 86 = .ok (.getfield 62, 3) := by decide +kernel
theorem dX8_weighed_89 : decode cX8_weighed 89 = .ok (.iload 8, 2) := by decide +kernel
theorem dX8_weighed_91 : decode cX8_weighed 91 = .ok (.laload, 1) := by decide +kernel
theorem dX8_weighed_92 : decode cX8_weighed 92 = .ok (.lconst 0, 1) := by decide +kernel
theorem dX8_weighed_93 : decode cX8_weighed 93 = .ok (.lcmp, 1) := by decide +kernel
theorem dX8_weighed_94 : decode cX8_weighed 94 = .ok (.ifCond .le 44, 3) := by decide +kernel
theorem dX8_weighed_97 : decode cX8_weighed 97 = .ok (.aload_n 0, 1) := by decide +kernel
theorem dX8_weighed_98 : decode cX8_weighed 98 = .ok (.iload 7, 2) := by decide +kernel
theorem dX8_weighed_100 : decode cX8_weighed 100 = .ok (.iload 8, 2) := by decide +kernel
theorem dX8_weighed_102 : decode cX8_weighed 102 = .ok (.iload_n 2, 1) := by decide +kernel
theorem dX8_weighed_103 : decode cX8_weighed 103 = .ok (.invokevirtual 178, 3) := by decide +kernel
theorem dX8_weighed_106 : decode cX8_weighed 106 = .ok (.ifCond .eq 32, 3) := by decide +kernel
theorem dX8_weighed_109 : decode cX8_weighed 109 = .ok (.aload_n 0, 1) := by decide +kernel
theorem dX8_weighed_110 : decode cX8_weighed 110 = .ok (.getfield 62, 3) := by decide +kernel
theorem dX8_weighed_113 : decode cX8_weighed 113 = .ok (.iload 8, 2) := by decide +kernel
theorem dX8_weighed_115 : decode cX8_weighed 115 = .ok (.laload, 1) := by decide +kernel
theorem dX8_weighed_116 : decode cX8_weighed 116 = .ok (.iload 5, 2) := by decide +kernel
theorem dX8_weighed_118 : decode cX8_weighed 118 = .ok (.aload_n 0, 1) := by decide +kernel
theorem dX8_weighed_119 : decode cX8_weighed 119 = .ok (.iload 4, 2) := by decide +kernel
theorem dX8_weighed_121 : decode cX8_weighed 121 = .ok (.iload 6, 2) := by decide +kernel
theorem dX8_weighed_123 : decode cX8_weighed 123 = .ok (.iload 8, 2) := by decide +kernel
theorem dX8_weighed_125 : decode cX8_weighed 125 = .ok (.iload 7, 2) := by decide +kernel
theorem dX8_weighed_127 : decode cX8_weighed 127 = .ok (.iload_n 2, 1) := by decide +kernel
theorem dX8_weighed_128 : decode cX8_weighed 128 = .ok (.invokevirtual 294, 3) := by decide +kernel
theorem dX8_weighed_131 : decode cX8_weighed 131 = .ok (.invokestatic 297, 3) := by decide +kernel
theorem dX8_weighed_134 : decode cX8_weighed 134 = .ok (.lmul, 1) := by decide +kernel
theorem dX8_weighed_135 : decode cX8_weighed 135 = .ok (.goto 4, 3) := by decide +kernel
theorem dX8_weighed_138 : decode cX8_weighed 138 = .ok (.lconst 0, 1) := by decide +kernel
theorem dX8_weighed_139 : decode cX8_weighed 139 = .ok (.lstore 9, 2) := by decide +kernel
theorem dX8_weighed_141 : decode cX8_weighed 141 = .ok (.aload_n 0, 1) := by decide +kernel
theorem dX8_weighed_142 : decode cX8_weighed 142 = .ok (.getfield 66, 3) := by decide +kernel
theorem dX8_weighed_145 : decode cX8_weighed 145 = .ok (.iload 7, 2) := by decide +kernel
theorem dX8_weighed_147 : decode cX8_weighed 147 = .ok (.aload_n 0, 1) := by decide +kernel
theorem dX8_weighed_148 : decode cX8_weighed 148 = .ok (.getfield 66, 3) := by decide +kernel
theorem dX8_weighed_151 : decode cX8_weighed 151 = .ok (.iload 7, 2) := by decide +kernel
theorem dX8_weighed_153 : decode cX8_weighed 153 = .ok (.laload, 1) := by decide +kernel
theorem dX8_weighed_154 : decode cX8_weighed 154 = .ok (.lload 9, 2) := by decide +kernel
theorem dX8_weighed_156 : decode cX8_weighed 156 = .ok (.ladd, 1) := by decide +kernel
theorem dX8_weighed_157 : decode cX8_weighed 157 = .ok (.ldc2_w 289, 3) := by decide +kernel
theorem dX8_weighed_160 : decode cX8_weighed 160 = .ok (.lrem, 1) := by decide +kernel
theorem dX8_weighed_161 : decode cX8_weighed 161 = .ok (.lastore, 1) := by decide +kernel
theorem dX8_weighed_162 : decode cX8_weighed 162 = .ok (.iinc 8 1, 3) := by decide +kernel
theorem dX8_weighed_165 : decode cX8_weighed 165 = .ok (.goto (-89), 3) := by decide +kernel
theorem dX8_weighed_168 : decode cX8_weighed 168 = .ok (.iinc 7 1, 3) := by decide +kernel
theorem dX8_weighed_171 : decode cX8_weighed 171 = .ok (.goto (-116), 3) := by decide +kernel
theorem dX8_weighed_174 : decode cX8_weighed 174 = .ok (.aload_n 0, 1) := by decide +kernel
theorem dX8_weighed_175 : decode cX8_weighed 175 = .ok (.invokevirtual 300, 3) := by decide +kernel
theorem dX8_weighed_178 : decode cX8_weighed 178 = .ok (.iinc 6 1, 3) := by decide +kernel
theorem dX8_weighed_181 : decode cX8_weighed 181 = .ok (.goto (-135), 3) := by decide +kernel
theorem dX8_weighed_184 : decode cX8_weighed 184 = .ok (.aload_n 0, 1) := by decide +kernel
theorem dX8_weighed_185 : decode cX8_weighed 185 = .ok (.invokevirtual 303, 3) := by decide +kernel
theorem dX8_weighed_188 : decode cX8_weighed 188 = .ok (.ldc2_w 289, 3) := by decide +kernel
theorem dX8_weighed_191 : decode cX8_weighed 191 = .ok (.lrem, 1) := by decide +kernel
theorem dX8_weighed_192 : decode cX8_weighed 192 = .ok (.l2i, 1) := by decide +kernel
theorem dX8_weighed_193 : decode cX8_weighed 193 = .ok (.ireturn, 1) := by decide +kernel
set_option maxRecDepth 20000 in
theorem ggX8_symmetric_X8_isBox : GoodIn wsX8_symmetric wsX8_isBox := goodIn_r _ [7, 8, 9, 6, 10] (by decide +kernel) (by decide +kernel)
set_option maxRecDepth 20000 in
theorem gX8_symmetric_X8_isBox : GoodIn wsX8_symmetric (va_wsS RX8 193 yX8_isBox wsX8_isBox) := goodIn_app (goodIn_of _ (by decide +kernel)) ggX8_symmetric_X8_isBox
set_option maxRecDepth 20000 in
theorem ggX8_symmetric_X8_in : GoodIn wsX8_symmetric wsX8_in := goodIn_r _ [10] (by decide +kernel) (by decide +kernel)
set_option maxRecDepth 20000 in
theorem gX8_symmetric_X8_in : GoodIn wsX8_symmetric (va_wsS RX8 82 yX8_in wsX8_in) := goodIn_app (goodIn_of _ (by decide +kernel)) ggX8_symmetric_X8_in
set_option maxRecDepth 20000 in
theorem ggX8_symmetric_X8_lays : GoodIn wsX8_symmetric wsX8_lays := goodIn_r _ [14, 15, 16, 17, 18, 19, 6, 20, 21, 22, 23, 24, 25, 54, 55, 56, 57, 58, 59, 60, 61, 62, 63, 64, 65, 66, 67, 68, 69, 70, 71, 72, 73, 74, 75, 76, 77, 78, 79, 80, 81, 82] (by decide +kernel) (by decide +kernel)
set_option maxRecDepth 20000 in
theorem gX8_symmetric_X8_lays : GoodIn wsX8_symmetric (wsV RX8 185 RX8 yX8_lays wsX8_lays) := goodIn_app (goodIn_of _ (by decide +kernel)) ggX8_symmetric_X8_lays
set_option maxRecDepth 20000 in
theorem ggX8_symmetric_X8_makes : GoodIn wsX8_symmetric wsX8_makes := goodIn_r _ [29, 3, 15, 16, 21, 30, 31, 6, 32, 22, 23, 24, 25, 33, 34, 35, 36, 37, 38, 54, 55, 56, 57, 58, 59, 60, 61, 62, 63, 64, 65, 66, 67, 68, 69, 70, 71, 72, 73, 74, 75, 76, 77, 78, 79, 80, 81, 82] (by decide +kernel) (by decide +kernel)
set_option maxRecDepth 20000 in
theorem gX8_symmetric_X8_makes : GoodIn wsX8_symmetric (wsV RX8 196 RX8 yX8_makes wsX8_makes) := goodIn_app (goodIn_of _ (by decide +kernel)) ggX8_symmetric_X8_makes
set_option maxRecDepth 20000 in
theorem ggX8_symmetric_X8_symmetries : GoodIn wsX8_symmetric wsX8_symmetries := goodIn_r _ [42, 43, 44, 45, 46, 6, 47, 30, 31, 32, 33, 34, 35, 48, 49, 50, 51, 52, 53, 54, 55, 56, 57, 58, 59, 60, 61, 62, 63, 64, 65, 66, 67, 68, 69, 70, 71, 72, 73, 74, 75, 76, 77, 78, 79, 80, 81, 82] (by decide +kernel) (by decide +kernel)
set_option maxRecDepth 20000 in
theorem gX8_symmetric_X8_symmetries : GoodIn wsX8_symmetric (wsV RX8 249 RX8 yX8_symmetries wsX8_symmetries) := goodIn_app (goodIn_of _ (by decide +kernel)) ggX8_symmetric_X8_symmetries
theorem dX8_symmetric_0 : decode cX8_symmetric 0 = .ok (.iload_n 1, 1) := by decide +kernel
theorem dX8_symmetric_1 : decode cX8_symmetric 1 = .ok (.iload_n 2, 1) := by decide +kernel
theorem dX8_symmetric_2 : decode cX8_symmetric 2 = .ok (.iload_n 3, 1) := by decide +kernel
theorem dX8_symmetric_3 : decode cX8_symmetric 3 = .ok (.invokestatic 193, 3) := by decide +kernel
theorem dX8_symmetric_6 : decode cX8_symmetric 6 = .ok (.ifCond .eq 14, 3) := by decide +kernel
theorem dX8_symmetric_9 : decode cX8_symmetric 9 = .ok (.iload 4, 2) := by decide +kernel
theorem dX8_symmetric_11 : decode cX8_symmetric 11 = .ok (.iconst 0, 1) := by decide +kernel
theorem dX8_symmetric_12 : decode cX8_symmetric 12 = .ok (.bipush 15, 2) := by decide +kernel
theorem dX8_symmetric_14 : decode cX8_symmetric 14 = .ok (.invokestatic 82, 3) := by decide +kernel
theorem dX8_symmetric_17 : decode cX8_symmetric 17 = .ok (.ifCond .ne 6, 3) := by decide +kernel
theorem dX8_symmetric_20 : decode cX8_symmetric 20 = .ok (.ldc 105, 2) := by decide +kernel
theorem dX8_symmetric_22 : decode cX8_symmetric 22 = .ok (.ireturn, 1) := by decide +kernel
theorem dX8_symmetric_23 : decode cX8_symmetric 23 = .ok (.aload_n 0, 1) := by decide +kernel
theorem dX8_symmetric_24 : decode cX8_symmetric 24 = .ok (.iload_n 1, 1) := by decide +kernel
theorem dX8_symmetric_25 : decode cX8_symmetric 25 = .ok (.iload_n 2, 1) := by decide +kernel
theorem dX8_symmetric_26 : decode cX8_symmetric 26 = .ok (.iload_n 3, 1) := by decide +kernel
theorem dX8_symmetric_27 : decode cX8_symmetric 27 = .ok (.invokevirtual 185, 3) := by decide +kernel
theorem dX8_symmetric_30 : decode cX8_symmetric 30 = .ok (.istore 5, 2) := by decide +kernel
theorem dX8_symmetric_32 : decode cX8_symmetric 32 = .ok (.iload 5, 2) := by decide +kernel
theorem dX8_symmetric_34 : decode cX8_symmetric 34 = .ok (.sipush 1000, 3) := by decide +kernel
theorem dX8_symmetric_37 : decode cX8_symmetric 37 = .ok (.if_icmp .le 6, 3) := by decide +kernel
theorem dX8_symmetric_40 : decode cX8_symmetric 40 = .ok (.ldc 109, 2) := by decide +kernel
theorem dX8_symmetric_42 : decode cX8_symmetric 42 = .ok (.ireturn, 1) := by decide +kernel
theorem dX8_symmetric_43 : decode cX8_symmetric 43 = .ok (.iconst 0, 1) := by decide +kernel
theorem dX8_symmetric_44 : decode cX8_symmetric 44 = .ok (.istore 6, 2) := by decide +kernel
theorem dX8_symmetric_46 : decode cX8_symmetric 46 = .ok (.iconst 0, 1) := by decide +kernel
theorem dX8_symmetric_47 : decode cX8_symmetric 47 = .ok (.istore 7, 2) := by decide +kernel
theorem dX8_symmetric_49 : decode cX8_symmetric 49 = .ok (.iload 7, 2) := by decide +kernel
theorem dX8_symmetric_51 : decode cX8_symmetric 51 = .ok (.iload 5, 2) := by decide +kernel
theorem dX8_symmetric_53 : decode cX8_symmetric 53 = .ok (.if_icmp .ge 45, 3) := by decide +kernel
theorem dX8_symmetric_56 : decode cX8_symmetric 56 = .ok (.aload_n 0, 1) := by decide +kernel
theorem dX8_symmetric_57 : decode cX8_symmetric 57 = .ok (.iload_n 1, 1) := by decide +kernel
theorem dX8_symmetric_58 : decode cX8_symmetric 58 = .ok (.iload_n 2, 1) := by decide +kernel
theorem dX8_symmetric_59 : decode cX8_symmetric 59 = .ok (.iload_n 3, 1) := by decide +kernel
theorem dX8_symmetric_60 : decode cX8_symmetric 60 = .ok (.iload 7, 2) := by decide +kernel
theorem dX8_symmetric_62 : decode cX8_symmetric 62 = .ok (.invokevirtual 196, 3) := by decide +kernel
theorem dX8_symmetric_65 : decode cX8_symmetric 65 = .ok (.iload 6, 2) := by decide +kernel
theorem dX8_symmetric_67 : decode cX8_symmetric 67 = .ok (.iload 4, 2) := by decide +kernel
theorem dX8_symmetric_69 : decode cX8_symmetric 69 = .ok (.aload_n 0, 1) := by decide +kernel
theorem dX8_symmetric_70 : decode cX8_symmetric 70 = .ok (.aload_n 0, 1) := by decide +kernel
theorem dX8_symmetric_71 : decode cX8_symmetric 71 = .ok (.getfield 26, 3) := by decide +kernel
theorem dX8_symmetric_74 : decode cX8_symmetric 74 = .ok (.iconst 0, 1) := by decide +kernel
theorem dX8_symmetric_75 : decode cX8_symmetric 75 = .ok (.invokevirtual 249, 3) := by decide +kernel
theorem dX8_symmetric_78 : decode cX8_symmetric 78 = .ok (.iconst (-1), 1) := by decide +kernel
theorem dX8_symmetric_79 : decode cX8_symmetric 79 = .ok (.ixor, 1) := by decide +kernel
theorem dX8_symmetric_80 : decode cX8_symmetric 80 = .ok (.iand, 1) := by decide +kernel
theorem dX8_symmetric_81 : decode cX8_symmetric 81 = .ok (.ifCond .ne 7, 3) := by decide +kernel
theorem dX8_symmetric_84 : decode cX8_symmetric 84 = .ok (.iconst 1, 1) := by decide +kernel
theorem dX8_symmetric_85 : decode cX8_symmetric 85 = .ok (.goto 4, 3) := by decide +kernel
theorem dX8_symmetric_88 : decode cX8_symmetric 88 = .ok (.iconst 0, 1) := by decide +kernel
theorem dX8_symmetric_89 : decode cX8_symmetric 89 = .ok (.iadd, 1) := by decide +kernel
theorem dX8_symmetric_90 : decode cX8_symmetric 90 = .ok (.istore 6, 2) := by decide +kernel
theorem dX8_symmetric_92 : decode cX8_symmetric 92 = .ok (.iinc 7 1, 3) := by decide +kernel
theorem dX8_symmetric_95 : decode cX8_symmetric 95 = .ok (.goto (-46), 3) := by decide +kernel
theorem dX8_symmetric_98 : decode cX8_symmetric 98 = .ok (.iload 6, 2) := by decide +kernel
theorem dX8_symmetric_100 : decode cX8_symmetric 100 = .ok (.ireturn, 1) := by decide +kernel
set_option maxRecDepth 20000 in
theorem ggX8_isBetween_X8_at : GoodIn wsX8_isBetween wsX8_at := goodIn_r _ [6] (by decide +kernel) (by decide +kernel)
set_option maxRecDepth 20000 in
theorem gX8_isBetween_X8_at : GoodIn wsX8_isBetween (va_wsS RX8 139 yX8_at wsX8_at) := goodIn_app (goodIn_of _ (by decide +kernel)) ggX8_isBetween_X8_at
theorem dX8_isBetween_0 : decode cX8_isBetween 0 = .ok (.iconst 1, 1) := by decide +kernel
theorem dX8_isBetween_1 : decode cX8_isBetween 1 = .ok (.istore 5, 2) := by decide +kernel
theorem dX8_isBetween_3 : decode cX8_isBetween 3 = .ok (.iconst 0, 1) := by decide +kernel
theorem dX8_isBetween_4 : decode cX8_isBetween 4 = .ok (.istore 6, 2) := by decide +kernel
theorem dX8_isBetween_6 : decode cX8_isBetween 6 = .ok (.iload 6, 2) := by decide +kernel
theorem dX8_isBetween_8 : decode cX8_isBetween 8 = .ok (.aload_n 0, 1) := by decide +kernel
theorem dX8_isBetween_9 : decode cX8_isBetween 9 = .ok (.getfield 7, 3) := by decide +kernel
theorem dX8_isBetween_12 : decode cX8_isBetween 12 = .ok (.bipush 20, 2) := by decide +kernel
theorem dX8_isBetween_14 : decode cX8_isBetween 14 = .ok (.iload_n 2, 1) := by decide +kernel
theorem dX8_isBetween_15 : decode cX8_isBetween 15 = .ok (.imul, 1) := by decide +kernel
theorem dX8_isBetween_16 : decode cX8_isBetween 16 = .ok (.iconst 2, 1) := by decide +kernel
theorem dX8_isBetween_17 : decode cX8_isBetween 17 = .ok (.iadd, 1) := by decide +kernel
theorem dX8_isBetween_18 : decode cX8_isBetween 18 = .ok (.iaload, 1) := by decide +kernel
theorem dX8_isBetween_19 : decode cX8_isBetween 19 = .ok (.if_icmp .ge 78, 3) := by decide +kernel
theorem dX8_isBetween_22 : decode cX8_isBetween 22 = .ok (.aload_n 0, 1) := by decide +kernel
theorem dX8_isBetween_23 : decode cX8_isBetween 23 = .ok (.getfield 35, 3) := by decide +kernel
theorem dX8_isBetween_26 : decode cX8_isBetween 26 = .ok (.iconst 4, 1) := by decide +kernel
theorem dX8_isBetween_27 : decode cX8_isBetween 27 = .ok (.iload_n 1, 1) := by decide +kernel
theorem dX8_isBetween_28 : decode cX8_isBetween 28 = .ok (.imul, 1) := by decide +kernel
theorem dX8_isBetween_29 : decode cX8_isBetween 29 = .ok (.iload 6, 2) := by decide +kernel
theorem dX8_isBetween_31 : decode cX8_isBetween 31 = .ok (.iadd, 1) := by decide +kernel
theorem dX8_isBetween_32 : decode cX8_isBetween 32 = .ok (.iaload, 1) := by decide +kernel
theorem dX8_isBetween_33 : decode cX8_isBetween 33 = .ok (.istore 7, 2) := by decide +kernel
theorem dX8_isBetween_35 : decode cX8_isBetween 35 = .ok (.iload 5, 2) := by decide +kernel
theorem dX8_isBetween_37 : decode cX8_isBetween 37 = .ok (.ifCond .eq 51, 3) := by decide +kernel
theorem dX8_isBetween_40 : decode cX8_isBetween 40 = .ok (.iload 7, 2) := by decide +kernel
theorem dX8_isBetween_42 : decode cX8_isBetween 42 = .ok (.aload_n 0, 1) := by decide +kernel
theorem dX8_isBetween_43 : decode cX8_isBetween 43 = .ok (.getfield 7, 3) := by decide +kernel
theorem dX8_isBetween_46 : decode cX8_isBetween 46 = .ok (.bipush 20, 2) := by decide +kernel
theorem dX8_isBetween_48 : decode cX8_isBetween 48 = .ok (.iload_n 2, 1) := by decide +kernel
theorem dX8_isBetween_49 : decode cX8_isBetween 49 = .ok (.imul, 1) := by decide +kernel
theorem dX8_isBetween_50 : decode cX8_isBetween 50 = .ok (.iload 4, 2) := by decide +kernel
theorem dX8_isBetween_52 : decode cX8_isBetween 52 = .ok (.iload 6, 2) := by decide +kernel
theorem dX8_isBetween_54 : decode cX8_isBetween 54 = .ok (.invokestatic 139, 3) := by decide +kernel
theorem dX8_isBetween_57 : decode cX8_isBetween 57 = .ok (.iadd, 1) := by decide +kernel
theorem dX8_isBetween_58 : decode cX8_isBetween 58 = .ok (.iaload, 1) := by decide +kernel
theorem dX8_isBetween_59 : decode cX8_isBetween 59 = .ok (.if_icmp .lt 29, 3) := by decide +kernel
theorem dX8_isBetween_62 : decode cX8_isBetween 62 = .ok (.iload 7, 2) := by decide +kernel
theorem dX8_isBetween_64 : decode cX8_isBetween 64 = .ok (.aload_n 0, 1) := by decide +kernel
theorem dX8_isBetween_65 : decode cX8_isBetween 65 = .ok (.getfield 7, 3) := by decide +kernel
theorem dX8_isBetween_68 : decode cX8_isBetween 68 = .ok (.bipush 20, 2) := by decide +kernel
theorem dX8_isBetween_70 : decode cX8_isBetween 70 = .ok (.iload_n 3, 1) := by decide +kernel
theorem dX8_isBetween_71 : decode cX8_isBetween 71 = .ok (.imul, 1) := by decide +kernel
theorem dX8_isBetween_72 : decode cX8_isBetween 72 = .ok (.iload 4, 2) := by decide +kernel
theorem dX8_isBetween_74 : decode cX8_isBetween 74 = .ok (.iload 6, 2) := by decide +kernel
theorem dX8_isBetween_76 : decode cX8_isBetween 76 = .ok (.invokestatic 139, 3) := by decide +kernel
theorem dX8_isBetween_79 : decode cX8_isBetween 79 = .ok (.iadd, 1) := by decide +kernel
theorem dX8_isBetween_80 : decode cX8_isBetween 80 = .ok (.iaload, 1) := by decide +kernel
theorem dX8_isBetween_81 : decode cX8_isBetween 81 = .ok (.if_icmp .gt 7, 3) := by decide +kernel
theorem dX8_isBetween_84 : decode cX8_isBetween 84 = .ok (.iconst 1, 1) := by decide +kernel
theorem dX8_isBetween_85 : decode cX8_isBetween 85 = .ok (.goto 4, 3) := by decide +kernel
theorem dX8_isBetween_88 : decode cX8_isBetween 88 = .ok (.iconst 0, 1) := by decide +kernel
theorem dX8_isBetween_89 : decode cX8_isBetween 89 = .ok (.istore 5, 2) := by decide +kernel
theorem dX8_isBetween_91 : decode cX8_isBetween 91 = .ok (.iinc 6 1, 3) := by decide +kernel
theorem dX8_isBetween_94 : decode cX8_isBetween 94 = .ok (.goto (-88), 3) := by decide +kernel
theorem dX8_isBetween_97 : decode cX8_isBetween 97 = .ok (.iload 5, 2) := by decide +kernel
theorem dX8_isBetween_99 : decode cX8_isBetween 99 = .ok (.ireturn, 1) := by decide +kernel
set_option maxRecDepth 20000 in
theorem ggX8_between_X8_isHeap : GoodIn wsX8_between wsX8_isHeap := goodIn_r _ [11, 3, 12, 13, 10, 14, 15, 16, 17, 53, 54, 55, 56, 57, 58, 59, 60, 61, 62, 63, 64, 65, 66, 67, 68, 69, 70, 71, 72, 73, 74, 75, 76, 77, 78, 79, 80, 81] (by decide +kernel) (by decide +kernel)
set_option maxRecDepth 20000 in
theorem gX8_between_X8_isHeap : GoodIn wsX8_between (wsV RX8 205 RX8 yX8_isHeap wsX8_isHeap) := goodIn_app (goodIn_of _ (by decide +kernel)) ggX8_between_X8_isHeap
set_option maxRecDepth 20000 in
theorem ggX8_between_X8_areAlike : GoodIn wsX8_between wsX8_areAlike := goodIn_r _ [21, 3, 22, 23, 10, 24, 53, 54, 55, 56, 57, 58, 59, 60, 61, 62, 63, 64, 65, 66, 67, 68, 69, 70, 71, 72, 73, 74, 75, 76, 77, 78, 79, 80, 81] (by decide +kernel) (by decide +kernel)
set_option maxRecDepth 20000 in
theorem gX8_between_X8_areAlike : GoodIn wsX8_between (wsV RX8 226 RX8 yX8_areAlike wsX8_areAlike) := goodIn_app (goodIn_of _ (by decide +kernel)) ggX8_between_X8_areAlike
set_option maxRecDepth 20000 in
theorem ggX8_between_X8_laysRows : GoodIn wsX8_between wsX8_laysRows := goodIn_r _ [28, 4, 29, 53, 54, 55, 56, 57, 58, 59, 60, 61, 62, 63, 64, 65, 66, 67, 68, 69, 70, 71, 72, 73, 74, 75, 76, 77, 78, 79, 80, 81] (by decide +kernel) (by decide +kernel)
set_option maxRecDepth 20000 in
theorem gX8_between_X8_laysRows : GoodIn wsX8_between (wsV RX8 175 RX8 yX8_laysRows wsX8_laysRows) := goodIn_app (goodIn_of _ (by decide +kernel)) ggX8_between_X8_laysRows
set_option maxRecDepth 20000 in
theorem ggX8_between_X8_beginsSums : GoodIn wsX8_between wsX8_beginsSums := goodIn_r _ [33, 4, 6, 53, 54, 55, 56, 57, 58, 59, 60, 61, 62, 63, 64, 65, 66, 67, 68, 69, 70, 71, 72, 73, 74, 75, 76, 77, 78, 79, 80, 81] (by decide +kernel) (by decide +kernel)
set_option maxRecDepth 20000 in
theorem gX8_between_X8_beginsSums : GoodIn wsX8_between (wsV RX8 291 RX8 yX8_beginsSums wsX8_beginsSums) := goodIn_app (goodIn_of _ (by decide +kernel)) ggX8_between_X8_beginsSums
set_option maxRecDepth 20000 in
theorem ggX8_between_X8_isBetween : GoodIn wsX8_between wsX8_isBetween := goodIn_r _ [37, 3, 29, 38, 39, 10, 40, 53, 54, 55, 56, 57, 58, 59, 60, 61, 62, 63, 64, 65, 66, 67, 68, 69, 70, 71, 72, 73, 74, 75, 76, 77, 78, 79, 80, 81] (by decide +kernel) (by decide +kernel)
set_option maxRecDepth 20000 in
theorem gX8_between_X8_isBetween : GoodIn wsX8_between (wsV RX8 307 RX8 yX8_isBetween wsX8_isBetween) := goodIn_app (goodIn_of _ (by decide +kernel)) ggX8_between_X8_isBetween
set_option maxRecDepth 20000 in
theorem ggX8_between_X8_isUnder : GoodIn wsX8_between wsX8_isUnder := goodIn_r _ [44, 29, 53, 54, 55, 56, 57, 58, 59, 60, 61, 62, 63, 64, 65, 66, 67, 68, 69, 70, 71, 72, 73, 74, 75, 76, 77, 78, 79, 80, 81] (by decide +kernel) (by decide +kernel)
set_option maxRecDepth 20000 in
theorem gX8_between_X8_isUnder : GoodIn wsX8_between (wsV RX8 178 RX8 yX8_isUnder wsX8_isUnder) := goodIn_app (goodIn_of _ (by decide +kernel)) ggX8_between_X8_isUnder
set_option maxRecDepth 20000 in
theorem ggX8_between_X8_nextRow : GoodIn wsX8_between wsX8_nextRow := goodIn_r _ [48, 4, 6, 5, 53, 54, 55, 56, 57, 58, 59, 60, 61, 62, 63, 64, 65, 66, 67, 68, 69, 70, 71, 72, 73, 74, 75, 76, 77, 78, 79, 80, 81] (by decide +kernel) (by decide +kernel)
set_option maxRecDepth 20000 in
theorem gX8_between_X8_nextRow : GoodIn wsX8_between (wsV RX8 300 RX8 yX8_nextRow wsX8_nextRow) := goodIn_app (goodIn_of _ (by decide +kernel)) ggX8_between_X8_nextRow
set_option maxRecDepth 20000 in
theorem ggX8_between_X8_allSums : GoodIn wsX8_between wsX8_allSums := goodIn_r _ [52, 4, 6, 53, 54, 55, 56, 57, 58, 59, 60, 61, 62, 63, 64, 65, 66, 67, 68, 69, 70, 71, 72, 73, 74, 75, 76, 77, 78, 79, 80, 81] (by decide +kernel) (by decide +kernel)
set_option maxRecDepth 20000 in
theorem gX8_between_X8_allSums : GoodIn wsX8_between (wsV RX8 303 RX8 yX8_allSums wsX8_allSums) := goodIn_app (goodIn_of _ (by decide +kernel)) ggX8_between_X8_allSums
theorem dX8_between_0 : decode cX8_between 0 = .ok (.aload_n 0, 1) := by decide +kernel
theorem dX8_between_1 : decode cX8_between 1 = .ok (.iload_n 1, 1) := by decide +kernel
theorem dX8_between_2 : decode cX8_between 2 = .ok (.invokevirtual 205, 3) := by decide +kernel
theorem dX8_between_5 : decode cX8_between 5 = .ok (.ifCond .eq 11, 3) := by decide +kernel
theorem dX8_between_8 : decode cX8_between 8 = .ok (.aload_n 0, 1) := by decide +kernel
theorem dX8_between_9 : decode cX8_between 9 = .ok (.iload_n 2, 1) := by decide +kernel
theorem dX8_between_10 : decode cX8_between 10 = .ok (.invokevirtual 205, 3) := by decide +kernel
theorem dX8_between_13 : decode cX8_between 13 = .ok (.ifCond .ne 6, 3) := by decide +kernel
theorem dX8_between_16 : decode cX8_between 16 = .ok (.ldc 105, 2) := by decide +kernel
theorem dX8_between_18 : decode cX8_between 18 = .ok (.ireturn, 1) := by decide +kernel
theorem dX8_between_19 : decode cX8_between 19 = .ok (.aload_n 0, 1) := by decide +kernel
theorem dX8_between_20 : decode cX8_between 20 = .ok (.iload_n 1, 1) := by decide +kernel
theorem dX8_between_21 : decode cX8_between 21 = .ok (.iload_n 2, 1) := by decide +kernel
theorem dX8_between_22 : decode cX8_between 22 = .ok (.invokevirtual 226, 3) := by decide +kernel
theorem dX8_between_25 : decode cX8_between 25 = .ok (.ifCond .ne 6, 3) := by decide +kernel
theorem dX8_between_28 : decode cX8_between 28 = .ok (.ldc 104, 2) := by decide +kernel
theorem dX8_between_30 : decode cX8_between 30 = .ok (.ireturn, 1) := by decide +kernel
theorem dX8_between_31 : decode cX8_between 31 = .ok (.aload_n 0, 1) := by decide +kernel
theorem dX8_between_32 : decode cX8_between 32 = .ok (.getfield 7, 3) := by decide +kernel
theorem dX8_between_35 : decode cX8_between 35 = .ok (.bipush 20, 2) := by decide +kernel
theorem dX8_between_37 : decode cX8_between 37 = .ok (.iload_n 1, 1) := by decide +kernel
theorem dX8_between_38 : decode cX8_between 38 = .ok (.imul, 1) := by decide +kernel
theorem dX8_between_39 : decode cX8_between 39 = .ok (.iconst 2, 1) := by decide +kernel
theorem dX8_between_40 : decode cX8_between 40 = .ok (.iadd, 1) := by decide +kernel
theorem dX8_between_41 : decode cX8_between 41 = .ok (.iaload, 1) := by decide +kernel
theorem dX8_between_42 : decode cX8_between 42 = .ok (.istore_n 3, 1) := by decide +kernel
theorem dX8_between_43 : decode cX8_between 43 = .ok (.aload_n 0, 1) := by decide +kernel
theorem dX8_between_44 : decode cX8_between 44 = .ok (.iload_n 3, 1) := by decide +kernel
theorem dX8_between_45 : decode cX8_between 45 = .ok (.aload_n 0, 1) := by decide +kernel
theorem dX8_between_46 : decode cX8_between 46 = .ok (.getfield 7, 3) := by decide +kernel
theorem dX8_between_49 : decode cX8_between 49 = .ok (.bipush 20, 2) := by decide +kernel
theorem dX8_between_51 : decode cX8_between 51 = .ok (.iload_n 1, 1) := by decide +kernel
theorem dX8_between_52 : decode cX8_between 52 = .ok (.imul, 1) := by decide +kernel
theorem dX8_between_53 : decode cX8_between 53 = .ok (.iconst 3, 1) := by decide +kernel
theorem dX8_between_54 : decode cX8_between 54 = .ok (.iadd, 1) := by decide +kernel
theorem dX8_between_55 : decode cX8_between 55 = .ok (.iaload, 1) := by decide +kernel
theorem dX8_between_56 : decode cX8_between 56 = .ok (.invokevirtual 175, 3) := by decide +kernel
theorem dX8_between_59 : decode cX8_between 59 = .ok (.aload_n 0, 1) := by decide +kernel
theorem dX8_between_60 : decode cX8_between 60 = .ok (.invokevirtual 291, 3) := by decide +kernel
theorem dX8_between_63 : decode cX8_between 63 = .ok (.iconst 0, 1) := by decide +kernel
theorem dX8_between_64 : decode cX8_between 64 = .ok (.istore 4, 2) := by decide +kernel
theorem dX8_between_66 : decode cX8_between 66 = .ok (.iload 4, 2) := by decide +kernel
theorem dX8_between_68 : decode cX8_between 68 = .ok (.aload_n 0, 1) := by decide +kernel
theorem dX8_between_69 : decode cX8_between 69 = .ok (.getfield 7, 3) := by decide +kernel
theorem dX8_between_72 : decode cX8_between 72 = .ok (.bipush 20, 2) := by decide +kernel
theorem dX8_between_74 : decode cX8_between 74 = .ok (.iload_n 1, 1) := by decide +kernel
theorem dX8_between_75 : decode cX8_between 75 = .ok (.imul, 1) := by decide +kernel
theorem dX8_between_76 : decode cX8_between 76 = .ok (.iconst 1, 1) := by decide +kernel
theorem dX8_between_77 : decode cX8_between 77 = .ok (.iadd, 1) := by decide +kernel
theorem dX8_between_78 : decode cX8_between 78 = .ok (.iaload, 1) := by decide +kernel
theorem dX8_between_79 : decode cX8_between 79 = .ok (.if_icmp .ge 104, 3) := by decide +kernel
theorem dX8_between_82 : decode cX8_between 82 = .ok (.iconst 0, 1) := by decide +kernel
theorem dX8_between_83 : decode cX8_between 83 = .ok (.istore 5, 2) := by decide +kernel
theorem dX8_between_85 : decode cX8_between 85 = .ok (.iload 5, 2) := by decide +kernel
theorem dX8_between_87 : decode cX8_between 87 = .ok (.aload_n 0, 1) := by decide +kernel
theorem dX8_between_88 : decode cX8_between 88 = .ok (.getfield 172, 3) := by decide +kernel
theorem dX8_between_91 : decode cX8_between 91 = .ok (.if_icmp .ge 82, 3) := by decide +kernel
theorem dX8_between_94 : decode cX8_between 94 = .ok (.aload_n 0, 1) := by decide +kernel
theorem dX8_between_95 : decode cX8_between 95 = .ok (.getfield 66, 3) := by decide +kernel
theorem dX8_between_98 : decode cX8_between 98 = .ok (.iload 5, 2) := by decide +kernel
theorem dX8_between_100 : decode cX8_between 100 = .ok (.lconst 0, 1) := by decide +kernel
theorem dX8_between_101 : decode cX8_between 101 = .ok (.lastore, 1) := by decide +kernel
theorem dX8_between_102 : decode cX8_between 102 = .ok (.iload 5, 2) := by decide +kernel
theorem dX8_between_104 : decode cX8_between 104 = .ok (.istore 6, 2) := by decide +kernel
theorem dX8_between_106 : decode cX8_between 106 = .ok (.iload 6, 2) := by decide +kernel
theorem dX8_between_108 : decode cX8_between 108 = .ok (.aload_n 0, 1) := by decide +kernel
theorem dX8_between_109 : decode cX8_between 109 = .ok (.getfield 172, 3) := by decide +kernel
theorem dX8_between_112 : decode cX8_between 112 = .ok (.if_icmp .ge 55, 3) := by decide +kernel
theorem dX8_between_115 : decode cX8_between 115 = .ok (.aload_n 0, 1) := by decide +kernel
theorem dX8_between_116 : decode cX8_between 116 = .ok (.getfield 66, 3) := by decide +kernel
theorem dX8_between_119 : decode cX8_between 119 = .ok (.iload 5, 2) := by decide +kernel
theorem dX8_between_121 : decode cX8_between 121 = .ok (.dup2, 1) := by decide +kernel
theorem dX8_between_122 : decode cX8_between 122 = .ok (.laload, 1) := by decide +kernel
theorem dX8_between_123 : decode cX8_between 123 = .ok (.aload_n 0, 1) := by decide +kernel
theorem dX8_between_124 : decode cX8_between 124 = .ok (.iload 5, 2) := by decide +kernel
theorem dX8_between_126 : decode cX8_between 126 = .ok (.iload_n 1, 1) := by decide +kernel
theorem dX8_between_127 : decode cX8_between 127 = .ok (.iload_n 2, 1) := by decide +kernel
theorem dX8_between_128 : decode cX8_between 128 = .ok (.iload 4, 2) := by decide +kernel
theorem dX8_between_130 : decode cX8_between 130 = .ok (.invokevirtual 307, 3) := by decide +kernel
theorem dX8_between_133 : decode cX8_between 133 = .ok (.ifCond .eq 25, 3) := by decide +kernel
theorem dX8_between_136 : decode cX8_between 136 = .ok (.aload_n 0, 1) := by decide +kernel
theorem dX8_between_137 : decode cX8_between 137 = .ok (.iload 5, 2) := by decide +kernel
theorem dX8_between_139 : decode cX8_between 139 = .ok (.iload 6, 2) := by decide +kernel
theorem dX8_between_141 : decode cX8_between 141 = .ok (.iload_n 3, 1) := by decide +kernel
theorem dX8_between_142 : decode cX8_between 142 = .ok (.invokevirtual 178, 3) := by decide +kernel
theorem dX8_between_145 : decode cX8_between 145 = .ok (.ifCond .eq 13, 3) := by decide +kernel
theorem dX8_between_148 : decode cX8_between 148 = .ok (.aload_n 0, 1) := by decide +kernel
theorem dX8_between_149 : decode cX8_between 149 = .ok (.getfield 62, 3) := by decide +kernel
theorem dX8_between_152 : decode cX8_between 152 = .ok (.iload 6, 2) := by decide +kernel
theorem dX8_between_154 : decode cX8_between 154 = .ok (.laload, 1) := by decide +kernel
theorem dX8_between_155 : decode cX8_between 155 = .ok (.goto 4, 3) := by decide +kernel
theorem dX8_between_158 : decode cX8_between 158 = .ok (.lconst 0, 1) := by decide +kernel
theorem dX8_between_159 : decode cX8_between 159 = .ok (.ladd, 1) := by decide +kernel
theorem dX8_between_160 : decode cX8_between 160 = .ok (.lastore, 1) := by decide +kernel
theorem dX8_between_161 : decode cX8_between 161 = .ok (.iinc 6 1, 3) := by decide +kernel
theorem dX8_between_164 : decode cX8_between 164 = .ok (.goto (-58), 3) := by decide +kernel
theorem dX8_between_167 : decode cX8_between 167 = .ok (.iinc 5 1, 3) := by decide +kernel
theorem dX8_between_170 : decode cX8_between 170 = .ok (.goto (-85), 3) := by decide +kernel
theorem dX8_between_173 : decode cX8_between 173 = .ok (.aload_n 0, 1) := by decide +kernel
theorem dX8_between_174 : decode cX8_between 174 = .ok (.invokevirtual 300, 3) := by decide +kernel
theorem dX8_between_177 : decode cX8_between 177 = .ok (.iinc 4 1, 3) := by decide +kernel
theorem dX8_between_180 : decode cX8_between 180 = .ok (.goto (-114), 3) := by decide +kernel
theorem dX8_between_183 : decode cX8_between 183 = .ok (.aload_n 0, 1) := by decide +kernel
theorem dX8_between_184 : decode cX8_between 184 = .ok (.invokevirtual 303, 3) := by decide +kernel
theorem dX8_between_187 : decode cX8_between 187 = .ok (.l2i, 1) := by decide +kernel
theorem dX8_between_188 : decode cX8_between 188 = .ok (.ireturn, 1) := by decide +kernel
theorem dX8_isStep_0 : decode cX8_isStep 0 = .ok (.iconst 0, 1) := by decide +kernel
theorem dX8_isStep_1 : decode cX8_isStep 1 = .ok (.istore_n 3, 1) := by decide +kernel
theorem dX8_isStep_2 : decode cX8_isStep 2 = .ok (.iconst 4, 1) := by decide +kernel
theorem dX8_isStep_3 : decode cX8_isStep 3 = .ok (.istore 4, 2) := by decide +kernel
theorem dX8_isStep_5 : decode cX8_isStep 5 = .ok (.iload 4, 2) := by decide +kernel
theorem dX8_isStep_7 : decode cX8_isStep 7 = .ok (.bipush 20, 2) := by decide +kernel
theorem dX8_isStep_9 : decode cX8_isStep 9 = .ok (.if_icmp .ge 52, 3) := by decide +kernel
theorem dX8_isStep_12 : decode cX8_isStep 12 = .ok (.aload_n 0, 1) := by decide +kernel
theorem dX8_isStep_13 : decode cX8_isStep 13 = .ok (.getfield 69, 3) := by decide +kernel
theorem dX8_isStep_16 : decode cX8_isStep 16 = .ok (.bipush 20, 2) := by decide +kernel
theorem dX8_isStep_18 : decode cX8_isStep 18 = .ok (.iload_n 1, 1) := by decide +kernel
theorem dX8_isStep_19 : decode cX8_isStep 19 = .ok (.imul, 1) := by decide +kernel
theorem dX8_isStep_20 : decode cX8_isStep 20 = .ok (.iload 4, 2) := by decide +kernel
theorem dX8_isStep_22 : decode cX8_isStep 22 = .ok (.iadd, 1) := by decide +kernel
theorem dX8_isStep_23 : decode cX8_isStep 23 = .ok (.iaload, 1) := by decide +kernel
theorem dX8_isStep_24 : decode cX8_isStep 24 = .ok (.aload_n 0, 1) := by decide +kernel
theorem dX8_isStep_25 : decode cX8_isStep 25 = .ok (.getfield 69, 3) := by decide +kernel
theorem dX8_isStep_28 : decode cX8_isStep 28 = .ok (.bipush 20, 2) := by decide +kernel
theorem dX8_isStep_30 : decode cX8_isStep 30 = .ok (.iload_n 2, 1) := by decide +kernel
theorem dX8_isStep_31 : decode cX8_isStep 31 = .ok (.imul, 1) := by decide +kernel
theorem dX8_isStep_32 : decode cX8_isStep 32 = .ok (.iload 4, 2) := by decide +kernel
theorem dX8_isStep_34 : decode cX8_isStep 34 = .ok (.iadd, 1) := by decide +kernel
theorem dX8_isStep_35 : decode cX8_isStep 35 = .ok (.iaload, 1) := by decide +kernel
theorem dX8_isStep_36 : decode cX8_isStep 36 = .ok (.isub, 1) := by decide +kernel
theorem dX8_isStep_37 : decode cX8_isStep 37 = .ok (.istore 5, 2) := by decide +kernel
theorem dX8_isStep_39 : decode cX8_isStep 39 = .ok (.iload_n 3, 1) := by decide +kernel
theorem dX8_isStep_40 : decode cX8_isStep 40 = .ok (.iload 5, 2) := by decide +kernel
theorem dX8_isStep_42 : decode cX8_isStep 42 = .ok (.ifCond .ge 9, 3) := by decide +kernel
theorem dX8_isStep_45 : decode cX8_isStep 45 = .ok (.iload 5, 2) := by decide +kernel
theorem dX8_isStep_47 : decode cX8_isStep 47 = .ok (.ineg, 1) := by decide +kernel
theorem dX8_isStep_48 : decode cX8_isStep 48 = .ok (.goto 5, 3) := by decide +kernel
theorem dX8_isStep_51 : decode cX8_isStep 51 = .ok (.iload 5, 2) := by decide +kernel
theorem dX8_isStep_53 : decode cX8_isStep 53 = .ok (.iadd, 1) := by decide +kernel
theorem dX8_isStep_54 : decode cX8_isStep 54 = .ok (.istore_n 3, 1) := by decide +kernel
theorem dX8_isStep_55 : decode cX8_isStep 55 = .ok (.iinc 4 1, 3) := by decide +kernel
theorem dX8_isStep_58 : decode cX8_isStep 58 = .ok (.goto (-53), 3) := by decide +kernel
theorem dX8_isStep_61 : decode cX8_isStep 61 = .ok (.iload_n 3, 1) := by decide +kernel
theorem dX8_isStep_62 : decode cX8_isStep 62 = .ok (.iconst 1, 1) := by decide +kernel
theorem dX8_isStep_63 : decode cX8_isStep 63 = .ok (.if_icmp .ne 7, 3) := by decide +kernel
theorem dX8_isStep_66 : decode cX8_isStep 66 = .ok (.iconst 1, 1) := by decide +kernel
theorem dX8_isStep_67 : decode cX8_isStep 67 = .ok (.goto 4, 3) := by decide +kernel
theorem dX8_isStep_70 : decode cX8_isStep 70 = .ok (.iconst 0, 1) := by decide +kernel
theorem dX8_isStep_71 : decode cX8_isStep 71 = .ok (.ireturn, 1) := by decide +kernel
set_option maxRecDepth 20000 in
theorem ggX8_wayFrom_X8_volume : GoodIn wsX8_wayFrom wsX8_volume := goodIn_r _ [8] (by decide +kernel) (by decide +kernel)
set_option maxRecDepth 20000 in
theorem gX8_wayFrom_X8_volume : GoodIn wsX8_wayFrom (va_wsS RX8 100 yX8_volume wsX8_volume) := goodIn_app (goodIn_of _ (by decide +kernel)) ggX8_wayFrom_X8_volume
set_option maxRecDepth 20000 in
theorem ggX8_wayFrom_X8_isStep : GoodIn wsX8_wayFrom wsX8_isStep := goodIn_r _ [12, 4, 13, 14, 15, 16, 17, 18, 19, 20, 21, 22, 23, 24, 25, 26, 27, 28, 29, 30, 31, 32, 33, 34, 35, 36, 37, 38, 39, 40, 41] (by decide +kernel) (by decide +kernel)
set_option maxRecDepth 20000 in
theorem gX8_wayFrom_X8_isStep : GoodIn wsX8_wayFrom (wsV RX8 311 RX8 yX8_isStep wsX8_isStep) := goodIn_app (goodIn_of _ (by decide +kernel)) ggX8_wayFrom_X8_isStep
theorem dX8_wayFrom_0 : decode cX8_wayFrom 0 = .ok (.iconst 0, 1) := by decide +kernel
theorem dX8_wayFrom_1 : decode cX8_wayFrom 1 = .ok (.istore 5, 2) := by decide +kernel
theorem dX8_wayFrom_3 : decode cX8_wayFrom 3 = .ok (.iload 5, 2) := by decide +kernel
theorem dX8_wayFrom_5 : decode cX8_wayFrom 5 = .ok (.iload_n 1, 1) := by decide +kernel
theorem dX8_wayFrom_6 : decode cX8_wayFrom 6 = .ok (.if_icmp .ge 18, 3) := by decide +kernel
theorem dX8_wayFrom_9 : decode cX8_wayFrom 9 = .ok (.aload_n 0, 1) := by decide +kernel
theorem dX8_wayFrom_10 : decode cX8_wayFrom 10 = .ok (.getfield 72, 3) := by decide +kernel
theorem dX8_wayFrom_13 : decode cX8_wayFrom 13 = .ok (.iload 5, 2) := by decide +kernel
theorem dX8_wayFrom_15 : decode cX8_wayFrom 15 = .ok (.ldc 241, 2) := by decide +kernel
theorem dX8_wayFrom_17 : decode cX8_wayFrom 17 = .ok (.iastore, 1) := by decide +kernel
theorem dX8_wayFrom_18 : decode cX8_wayFrom 18 = .ok (.iinc 5 1, 3) := by decide +kernel
theorem dX8_wayFrom_21 : decode cX8_wayFrom 21 = .ok (.goto (-18), 3) := by decide +kernel
theorem dX8_wayFrom_24 : decode cX8_wayFrom 24 = .ok (.iconst 1, 1) := by decide +kernel
theorem dX8_wayFrom_25 : decode cX8_wayFrom 25 = .ok (.istore 5, 2) := by decide +kernel
theorem dX8_wayFrom_27 : decode cX8_wayFrom 27 = .ok (.aload_n 0, 1) := by decide +kernel
theorem dX8_wayFrom_28 : decode cX8_wayFrom 28 = .ok (.getfield 75, 3) := by decide +kernel
theorem dX8_wayFrom_31 : decode cX8_wayFrom 31 = .ok (.iconst 0, 1) := by decide +kernel
theorem dX8_wayFrom_32 : decode cX8_wayFrom 32 = .ok (.iload_n 2, 1) := by decide +kernel
theorem dX8_wayFrom_33 : decode cX8_wayFrom 33 = .ok (.iastore, 1) := by decide +kernel
theorem dX8_wayFrom_34 : decode cX8_wayFrom 34 = .ok (.aload_n 0, 1) := by decide +kernel
theorem dX8_wayFrom_35 : decode cX8_wayFrom 35 = .ok (.getfield 72, 3) := by decide +kernel
theorem dX8_wayFrom_38 : decode cX8_wayFrom 38 = .ok (.iload_n 2, 1) := by decide +kernel
theorem dX8_wayFrom_39 : decode cX8_wayFrom 39 = .ok (.iconst 0, 1) := by decide +kernel
theorem dX8_wayFrom_40 : decode cX8_wayFrom 40 = .ok (.iastore, 1) := by decide +kernel
theorem dX8_wayFrom_41 : decode cX8_wayFrom 41 = .ok (.iconst 0, 1) := by decide +kernel
theorem dX8_wayFrom_42 : decode cX8_wayFrom 42 = .ok (.istore 6, 2) := by decide +kernel
theorem dX8_wayFrom_44 : decode cX8_wayFrom 44 = .ok (.iload 6, 2) := by decide +kernel
theorem dX8_wayFrom_46 : decode cX8_wayFrom 46 = .ok (.iload 5, 2) := by decide +kernel
theorem dX8_wayFrom_48 : decode cX8_wayFrom 48 = .ok (.if_icmp .ge 131, 3) := by decide +kernel
theorem dX8_wayFrom_51 : decode cX8_wayFrom 51 = .ok (.aload_n 0, 1) := by decide +kernel
theorem dX8_wayFrom_52 : decode cX8_wayFrom 52 = .ok (.getfield 75, 3) := by decide +kernel
theorem dX8_wayFrom_55 : decode cX8_wayFrom 55 = .ok (.iload 6, 2) := by decide +kernel
theorem dX8_wayFrom_57 : decode cX8_wayFrom 57 = .ok (.iaload, 1) := by decide +kernel
theorem dX8_wayFrom_58 : decode cX8_wayFrom 58 = .ok (.istore 7, 2) := by decide +kernel
theorem dX8_wayFrom_60 : decode cX8_wayFrom 60 = .ok (.iload 7, 2) := by decide +kernel
theorem dX8_wayFrom_62 : decode cX8_wayFrom 62 = .ok (.iload_n 2, 1) := by decide +kernel
theorem dX8_wayFrom_63 : decode cX8_wayFrom 63 = .ok (.if_icmp .eq 32, 3) := by decide +kernel
theorem dX8_wayFrom_66 : decode cX8_wayFrom 66 = .ok (.iload 7, 2) := by decide +kernel
theorem dX8_wayFrom_68 : decode cX8_wayFrom 68 = .ok (.iload_n 3, 1) := by decide +kernel
theorem dX8_wayFrom_69 : decode cX8_wayFrom 69 = .ok (.if_icmp .eq 30, 3) := by decide +kernel
theorem dX8_wayFrom_72 : decode cX8_wayFrom 72 = .ok (.iload 4, 2) := by decide +kernel
theorem dX8_wayFrom_74 : decode cX8_wayFrom 74 = .ok (.ifCond .eq 21, 3) := by decide +kernel
theorem dX8_wayFrom_77 : decode cX8_wayFrom 77 = .ok (.aload_n 0, 1) := by decide +kernel
theorem dX8_wayFrom_78 : decode cX8_wayFrom 78 = .ok (.getfield 69, 3) := by decide +kernel
theorem dX8_wayFrom_81 : decode cX8_wayFrom 81 = .ok (.bipush 20, 2) := by decide +kernel
theorem dX8_wayFrom_83 : decode cX8_wayFrom 83 = .ok (.iload 7, 2) := by decide +kernel
theorem dX8_wayFrom_85 : decode cX8_wayFrom 85 = .ok (.imul, 1) := by decide +kernel
theorem dX8_wayFrom_86 : decode cX8_wayFrom 86 = .ok (.invokestatic 100, 3) := by decide +kernel
theorem dX8_wayFrom_89 : decode cX8_wayFrom 89 = .ok (.iload 4, 2) := by decide +kernel
theorem dX8_wayFrom_91 : decode cX8_wayFrom 91 = .ok (.irem, 1) := by decide +kernel
theorem dX8_wayFrom_92 : decode cX8_wayFrom 92 = .ok (.ifCond .eq 7, 3) := by decide +kernel
theorem dX8_wayFrom_95 : decode cX8_wayFrom 95 = .ok (.iconst 1, 1) := by decide +kernel
theorem dX8_wayFrom_96 : decode cX8_wayFrom 96 = .ok (.goto 4, 3) := by decide +kernel
theorem dX8_wayFrom_99 : decode cX8_wayFrom 99 = .ok (.iconst 0, 1) := by decide +kernel
theorem dX8_wayFrom_100 : decode cX8_wayFrom 100 = .ok (.istore 8, 2) := by decide +kernel
theorem dX8_wayFrom_102 : decode cX8_wayFrom 102 = .ok (.iconst 0, 1) := by decide +kernel
theorem dX8_wayFrom_103 : decode cX8_wayFrom 103 = .ok (.istore 9, 2) := by decide +kernel
theorem dX8_wayFrom_105 : decode cX8_wayFrom 105 = .ok (.iload 9, 2) := by decide +kernel
theorem dX8_wayFrom_107 : decode cX8_wayFrom 107 = .ok (.iload_n 1, 1) := by decide +kernel
theorem dX8_wayFrom_108 : decode cX8_wayFrom 108 = .ok (.if_icmp .ge 65, 3) := by decide +kernel
theorem dX8_wayFrom_111 : decode cX8_wayFrom 111 = .ok (.iload 8, 2) := by decide +kernel
theorem dX8_wayFrom_113 : decode cX8_wayFrom 113 = .ok (.ifCond .eq 60, 3) := by decide +kernel
theorem dX8_wayFrom_116 : decode cX8_wayFrom 116 = .ok (.aload_n 0, 1) := by decide +kernel
theorem dX8_wayFrom_117 : decode cX8_wayFrom 117 = .ok (.getfield 72, 3) := by decide +kernel
theorem dX8_wayFrom_120 : decode cX8_wayFrom 120 = .ok (.iload 9, 2) := by decide +kernel
theorem dX8_wayFrom_122 : decode cX8_wayFrom 122 = .ok (.iaload, 1) := by decide +kernel
theorem dX8_wayFrom_123 : decode cX8_wayFrom 123 = .ok (.ldc 241, 2) := by decide +kernel
theorem dX8_wayFrom_125 : decode cX8_wayFrom 125 = .ok (.if_icmp .ne 42, 3) := by decide +kernel
theorem dX8_wayFrom_128 : decode cX8_wayFrom 128 = .ok (.aload_n 0, 1) := by decide +kernel
theorem dX8_wayFrom_129 : decode cX8_wayFrom 129 = .ok (.iload 7, 2) := by decide +kernel
theorem dX8_wayFrom_131 : decode cX8_wayFrom 131 = .ok (.iload 9, 2) := by decide +kernel
theorem dX8_wayFrom_133 : decode cX8_wayFrom 133 = .ok (.invokevirtual 311, 3) := by decide +kernel
theorem dX8_wayFrom_136 : decode cX8_wayFrom 136 = .ok (.ifCond .eq 31, 3) := by decide +kernel
theorem dX8_wayFrom_139 : decode cX8_wayFrom 139 = .ok (.aload_n 0, 1) := by decide +kernel
theorem dX8_wayFrom_140 : decode cX8_wayFrom 140 = .ok (.getfield 72, 3) := by decide +kernel
theorem dX8_wayFrom_143 : decode cX8_wayFrom 143 = .ok (.iload 9, 2) := by decide +kernel
theorem dX8_wayFrom_145 : decode cX8_wayFrom 145 = .ok (.aload_n 0, 1) := by decide +kernel
theorem dX8_wayFrom_146 : decode cX8_wayFrom 146 = .ok (.getfield 72, 3) := by decide +kernel
theorem dX8_wayFrom_149 : decode cX8_wayFrom 149 = .ok (.iload 7, 2) := by decide +kernel
theorem dX8_wayFrom_151 : decode cX8_wayFrom 151 = .ok (.iaload, 1) := by decide +kernel
theorem dX8_wayFrom_152 : decode cX8_wayFrom 152 = .ok (.iconst 1, 1) := by decide +kernel
theorem dX8_wayFrom_153 : decode cX8_wayFrom 153 = .ok (.iadd, 1) := by decide +kernel
theorem dX8_wayFrom_154 : decode cX8_wayFrom 154 = .ok (.iastore, 1) := by decide +kernel
theorem dX8_wayFrom_155 : decode cX8_wayFrom 155 = .ok (.aload_n 0, 1) := by decide +kernel
theorem dX8_wayFrom_156 : decode cX8_wayFrom 156 = .ok (.getfield 75, 3) := by decide +kernel
theorem dX8_wayFrom_159 : decode cX8_wayFrom 159 = .ok (.iload 5, 2) := by decide +kernel
theorem dX8_wayFrom_161 : decode cX8_wayFrom 161 = .ok (.iload 9, 2) := by decide +kernel
theorem dX8_wayFrom_163 : decode cX8_wayFrom 163 = .ok (.iastore, 1) := by decide +kernel
theorem dX8_wayFrom_164 : decode cX8_wayFrom 164 = .ok (.iinc 5 1, 3) := by decide +kernel
theorem dX8_wayFrom_167 : decode cX8_wayFrom 167 = .ok (.iinc 9 1, 3) := by decide +kernel
theorem dX8_wayFrom_170 : decode cX8_wayFrom 170 = .ok (.goto (-65), 3) := by decide +kernel
theorem dX8_wayFrom_173 : decode cX8_wayFrom 173 = .ok (.iinc 6 1, 3) := by decide +kernel
theorem dX8_wayFrom_176 : decode cX8_wayFrom 176 = .ok (.goto (-132), 3) := by decide +kernel
theorem dX8_wayFrom_179 : decode cX8_wayFrom 179 = .ok (.aload_n 0, 1) := by decide +kernel
theorem dX8_wayFrom_180 : decode cX8_wayFrom 180 = .ok (.getfield 72, 3) := by decide +kernel
theorem dX8_wayFrom_183 : decode cX8_wayFrom 183 = .ok (.iload_n 3, 1) := by decide +kernel
theorem dX8_wayFrom_184 : decode cX8_wayFrom 184 = .ok (.iaload, 1) := by decide +kernel
theorem dX8_wayFrom_185 : decode cX8_wayFrom 185 = .ok (.ireturn, 1) := by decide +kernel
set_option maxRecDepth 20000 in
theorem ggX8_way_X8_isHeap : GoodIn wsX8_way wsX8_isHeap := goodIn_r _ [11, 3, 12, 13, 10, 14, 15, 16, 17, 75, 76, 77, 78, 79, 80, 81, 82, 83, 84, 85, 86, 87, 88, 89, 90, 91, 92, 93, 94, 95, 96, 97, 98, 99, 100, 101, 102, 103] (by decide +kernel) (by decide +kernel)
set_option maxRecDepth 20000 in
theorem gX8_way_X8_isHeap : GoodIn wsX8_way (wsV RX8 205 RX8 yX8_isHeap wsX8_isHeap) := goodIn_app (goodIn_of _ (by decide +kernel)) ggX8_way_X8_isHeap
set_option maxRecDepth 20000 in
theorem ggX8_way_X8_in : GoodIn wsX8_way wsX8_in := goodIn_r _ [17] (by decide +kernel) (by decide +kernel)
set_option maxRecDepth 20000 in
theorem gX8_way_X8_in : GoodIn wsX8_way (va_wsS RX8 82 yX8_in wsX8_in) := goodIn_app (goodIn_of _ (by decide +kernel)) ggX8_way_X8_in
set_option maxRecDepth 20000 in
theorem ggX8_way_X8_areAlike : GoodIn wsX8_way wsX8_areAlike := goodIn_r _ [21, 3, 22, 23, 10, 24, 75, 76, 77, 78, 79, 80, 81, 82, 83, 84, 85, 86, 87, 88, 89, 90, 91, 92, 93, 94, 95, 96, 97, 98, 99, 100, 101, 102, 103] (by decide +kernel) (by decide +kernel)
set_option maxRecDepth 20000 in
theorem gX8_way_X8_areAlike : GoodIn wsX8_way (wsV RX8 226 RX8 yX8_areAlike wsX8_areAlike) := goodIn_app (goodIn_of _ (by decide +kernel)) ggX8_way_X8_areAlike
set_option maxRecDepth 20000 in
theorem ggX8_way_X8_numberOf : GoodIn wsX8_way wsX8_numberOf := goodIn_r _ [28, 29, 30, 31, 32, 33, 10, 34, 35, 36, 37, 38, 39, 40, 41, 42, 43, 44, 45, 46, 47, 48, 49, 50, 22, 23, 24, 75, 76, 77, 78, 79, 80, 81, 82, 83, 84, 85, 86, 87, 88, 89, 90, 91, 92, 93, 94, 95, 96, 97, 98, 99, 100, 101, 102, 103] (by decide +kernel) (by decide +kernel)
set_option maxRecDepth 20000 in
theorem gX8_way_X8_numberOf : GoodIn wsX8_way (wsV RX8 238 RX8 yX8_numberOf wsX8_numberOf) := goodIn_app (goodIn_of _ (by decide +kernel)) ggX8_way_X8_numberOf
set_option maxRecDepth 20000 in
theorem ggX8_way_X8_lays : GoodIn wsX8_way wsX8_lays := goodIn_r _ [34, 29, 30, 35, 36, 37, 10, 38, 39, 40, 41, 42, 43, 75, 76, 77, 78, 79, 80, 81, 82, 83, 84, 85, 86, 87, 88, 89, 90, 91, 92, 93, 94, 95, 96, 97, 98, 99, 100, 101, 102, 103] (by decide +kernel) (by decide +kernel)
set_option maxRecDepth 20000 in
theorem gX8_way_X8_lays : GoodIn wsX8_way (wsV RX8 185 RX8 yX8_lays wsX8_lays) := goodIn_app (goodIn_of _ (by decide +kernel)) ggX8_way_X8_lays
set_option maxRecDepth 20000 in
theorem ggX8_way_X8_makes : GoodIn wsX8_way wsX8_makes := goodIn_r _ [54, 5, 29, 30, 39, 55, 56, 10, 57, 40, 41, 42, 43, 48, 49, 50, 58, 59, 60, 75, 76, 77, 78, 79, 80, 81, 82, 83, 84, 85, 86, 87, 88, 89, 90, 91, 92, 93, 94, 95, 96, 97, 98, 99, 100, 101, 102, 103] (by decide +kernel) (by decide +kernel)
set_option maxRecDepth 20000 in
theorem gX8_way_X8_makes : GoodIn wsX8_way (wsV RX8 196 RX8 yX8_makes wsX8_makes) := goodIn_app (goodIn_of _ (by decide +kernel)) ggX8_way_X8_makes
set_option maxRecDepth 20000 in
theorem ggX8_way_X8_bring : GoodIn wsX8_way wsX8_bring := goodIn_r _ [60] (by decide +kernel) (by decide +kernel)
set_option maxRecDepth 20000 in
theorem gX8_way_X8_bring : GoodIn wsX8_way (va_wsS RX8 93 yX8_bring wsX8_bring) := goodIn_app (goodIn_of _ (by decide +kernel)) ggX8_way_X8_bring
set_option maxRecDepth 20000 in
theorem ggX8_way_X8_wayFrom : GoodIn wsX8_way wsX8_wayFrom := goodIn_r _ [64, 65, 66, 67, 6, 68, 69, 10, 70, 71, 72, 73, 74, 75, 76, 77, 78, 79, 80, 81, 82, 83, 84, 85, 86, 87, 88, 89, 90, 91, 92, 93, 94, 95, 96, 97, 98, 99, 100, 101, 102, 103] (by decide +kernel) (by decide +kernel)
set_option maxRecDepth 20000 in
theorem gX8_way_X8_wayFrom : GoodIn wsX8_way (wsV RX8 314 RX8 yX8_wayFrom wsX8_wayFrom) := goodIn_app (goodIn_of _ (by decide +kernel)) ggX8_way_X8_wayFrom
theorem dX8_way_0 : decode cX8_way 0 = .ok (.aload_n 0, 1) := by decide +kernel
theorem dX8_way_1 : decode cX8_way 1 = .ok (.iload_n 1, 1) := by decide +kernel
theorem dX8_way_2 : decode cX8_way 2 = .ok (.invokevirtual 205, 3) := by decide +kernel
theorem dX8_way_5 : decode cX8_way 5 = .ok (.ifCond .eq 21, 3) := by decide +kernel
theorem dX8_way_8 : decode cX8_way 8 = .ok (.aload_n 0, 1) := by decide +kernel
theorem dX8_way_9 : decode cX8_way 9 = .ok (.iload_n 2, 1) := by decide +kernel
theorem dX8_way_10 : decode cX8_way 10 = .ok (.invokevirtual 205, 3) := by decide +kernel
theorem dX8_way_13 : decode cX8_way 13 = .ok (.ifCond .eq 13, 3) := by decide +kernel
theorem dX8_way_16 : decode cX8_way 16 = .ok (.iload_n 3, 1) := by decide +kernel
theorem dX8_way_17 : decode cX8_way 17 = .ok (.iconst 0, 1) := by decide +kernel
theorem dX8_way_18 : decode cX8_way 18 = .ok (.bipush 9, 2) := by decide +kernel
theorem dX8_way_20 : decode cX8_way 20 = .ok (.invokestatic 82, 3) := by decide +kernel
theorem dX8_way_23 : decode cX8_way 23 = .ok (.ifCond .ne 6, 3) := by decide +kernel
theorem dX8_way_26 : decode cX8_way 26 = .ok (.ldc 105, 2) := by decide +kernel
theorem dX8_way_28 : decode cX8_way 28 = .ok (.ireturn, 1) := by decide +kernel
theorem dX8_way_29 : decode cX8_way 29 = .ok (.aload_n 0, 1) := by decide +kernel
theorem dX8_way_30 : decode cX8_way 30 = .ok (.iload_n 1, 1) := by decide +kernel
theorem dX8_way_31 : decode cX8_way 31 = .ok (.iload_n 2, 1) := by decide +kernel
theorem dX8_way_32 : decode cX8_way 32 = .ok (.invokevirtual 226, 3) := by decide +kernel
theorem dX8_way_35 : decode cX8_way 35 = .ok (.ifCond .ne 6, 3) := by decide +kernel
theorem dX8_way_38 : decode cX8_way 38 = .ok (.ldc 104, 2) := by decide +kernel
theorem dX8_way_40 : decode cX8_way 40 = .ok (.ireturn, 1) := by decide +kernel
theorem dX8_way_41 : decode cX8_way 41 = .ok (.aload_n 0, 1) := by decide +kernel
theorem dX8_way_42 : decode cX8_way 42 = .ok (.aload_n 0, 1) := by decide +kernel
theorem dX8_way_43 : decode cX8_way 43 = .ok (.getfield 7, 3) := by decide +kernel
theorem dX8_way_46 : decode cX8_way 46 = .ok (.bipush 20, 2) := by decide +kernel
theorem dX8_way_48 : decode cX8_way 48 = .ok (.iload_n 1, 1) := by decide +kernel
theorem dX8_way_49 : decode cX8_way 49 = .ok (.imul, 1) := by decide +kernel
theorem dX8_way_50 : decode cX8_way 50 = .ok (.invokevirtual 238, 3) := by decide +kernel
theorem dX8_way_53 : decode cX8_way 53 = .ok (.istore 4, 2) := by decide +kernel
theorem dX8_way_55 : decode cX8_way 55 = .ok (.aload_n 0, 1) := by decide +kernel
theorem dX8_way_56 : decode cX8_way 56 = .ok (.aload_n 0, 1) := by decide +kernel
theorem dX8_way_57 : decode cX8_way 57 = .ok (.getfield 7, 3) := by decide +kernel
theorem dX8_way_60 : decode cX8_way 60 = .ok (.bipush 20, 2) := by decide +kernel
theorem dX8_way_62 : decode cX8_way 62 = .ok (.iload_n 2, 1) := by decide +kernel
theorem dX8_way_63 : decode cX8_way 63 = .ok (.imul, 1) := by decide +kernel
theorem dX8_way_64 : decode cX8_way 64 = .ok (.invokevirtual 238, 3) := by decide +kernel
theorem dX8_way_67 : decode cX8_way 67 = .ok (.istore 5, 2) := by decide +kernel
theorem dX8_way_69 : decode cX8_way 69 = .ok (.aload_n 0, 1) := by decide +kernel
theorem dX8_way_70 : decode cX8_way 70 = .ok (.getfield 7, 3) := by decide +kernel
theorem dX8_way_73 : decode cX8_way 73 = .ok (.bipush 20, 2) := by decide +kernel
theorem dX8_way_75 : decode cX8_way 75 = .ok (.iload_n 1, 1) := by decide +kernel
theorem dX8_way_76 : decode cX8_way 76 = .ok (.imul, 1) := by decide +kernel
theorem dX8_way_77 : decode cX8_way 77 = .ok (.iconst 1, 1) := by decide +kernel
theorem dX8_way_78 : decode cX8_way 78 = .ok (.iadd, 1) := by decide +kernel
theorem dX8_way_79 : decode cX8_way 79 = .ok (.iaload, 1) := by decide +kernel
theorem dX8_way_80 : decode cX8_way 80 = .ok (.istore 6, 2) := by decide +kernel
theorem dX8_way_82 : decode cX8_way 82 = .ok (.aload_n 0, 1) := by decide +kernel
theorem dX8_way_83 : decode cX8_way 83 = .ok (.getfield 7, 3) := by decide +kernel
theorem dX8_way_86 : decode cX8_way 86 = .ok (.bipush 20, 2) := by decide +kernel
theorem dX8_way_88 : decode cX8_way 88 = .ok (.iload_n 1, 1) := by decide +kernel
theorem dX8_way_89 : decode cX8_way 89 = .ok (.imul, 1) := by decide +kernel
theorem dX8_way_90 : decode cX8_way 90 = .ok (.iconst 2, 1) := by decide +kernel
theorem dX8_way_91 : decode cX8_way 91 = .ok (.iadd, 1) := by decide +kernel
theorem dX8_way_92 : decode cX8_way 92 = .ok (.iaload, 1) := by decide +kernel
theorem dX8_way_93 : decode cX8_way 93 = .ok (.istore 7, 2) := by decide +kernel
theorem dX8_way_95 : decode cX8_way 95 = .ok (.aload_n 0, 1) := by decide +kernel
theorem dX8_way_96 : decode cX8_way 96 = .ok (.getfield 7, 3) := by decide +kernel
theorem dX8_way_99 : decode cX8_way 99 = .ok (.bipush 20, 2) := by decide +kernel
theorem dX8_way_101 : decode cX8_way 101 = .ok (.iload_n 1, 1) := by decide +kernel
theorem dX8_way_102 : decode cX8_way 102 = .ok (.imul, 1) := by decide +kernel
theorem dX8_way_103 : decode cX8_way 103 = .ok (.iconst 3, 1) := by decide +kernel
theorem dX8_way_104 : decode cX8_way 104 = .ok (.iadd, 1) := by decide +kernel
theorem dX8_way_105 : decode cX8_way 105 = .ok (.iaload, 1) := by decide +kernel
theorem dX8_way_106 : decode cX8_way 106 = .ok (.istore 8, 2) := by decide +kernel
theorem dX8_way_108 : decode cX8_way 108 = .ok (.aload_n 0, 1) := by decide +kernel
theorem dX8_way_109 : decode cX8_way 109 = .ok (.iload 6, 2) := by decide +kernel
theorem dX8_way_111 : decode cX8_way 111 = .ok (.iload 7, 2) := by decide +kernel
theorem dX8_way_113 : decode cX8_way 113 = .ok (.iload 8, 2) := by decide +kernel
theorem dX8_way_115 : decode cX8_way 115 = .ok (.invokevirtual 185, 3) := by decide +kernel
theorem dX8_way_118 : decode cX8_way 118 = .ok (.istore 9, 2) := by decide +kernel
theorem dX8_way_120 : decode cX8_way 120 = .ok (.iload 9, 2) := by decide +kernel
theorem dX8_way_122 : decode cX8_way 122 = .ok (.sipush 200, 3) := by decide +kernel
theorem dX8_way_125 : decode cX8_way 125 = .ok (.if_icmp .le 6, 3) := by decide +kernel
theorem dX8_way_128 : decode cX8_way 128 = .ok (.ldc 109, 2) := by decide +kernel
theorem dX8_way_130 : decode cX8_way 130 = .ok (.ireturn, 1) := by decide +kernel
theorem dX8_way_131 : decode cX8_way 131 = .ok (.iconst 0, 1) := by decide +kernel
theorem dX8_way_132 : decode cX8_way 132 = .ok (.istore 10, 2) := by decide +kernel
theorem dX8_way_134 : decode cX8_way 134 = .ok (.iload 10, 2) := by decide +kernel
theorem dX8_way_136 : decode cX8_way 136 = .ok (.iload 9, 2) := by decide +kernel
theorem dX8_way_138 : decode cX8_way 138 = .ok (.if_icmp .ge 40, 3) := by decide +kernel
theorem dX8_way_141 : decode cX8_way 141 = .ok (.aload_n 0, 1) := by decide +kernel
theorem dX8_way_142 : decode cX8_way 142 = .ok (.iload 6, 2) := by decide +kernel
theorem dX8_way_144 : decode cX8_way 144 = .ok (.iload 7, 2) := by decide +kernel
theorem dX8_way_146 : decode cX8_way 146 = .ok (.iload 8, 2) := by decide +kernel
theorem dX8_way_148 : decode cX8_way 148 = .ok (.iload 10, 2) := by decide +kernel
theorem dX8_way_150 : decode cX8_way 150 = .ok (.invokevirtual 196, 3) := by decide +kernel
theorem dX8_way_153 : decode cX8_way 153 = .ok (.aload_n 0, 1) := by decide +kernel
theorem dX8_way_154 : decode cX8_way 154 = .ok (.getfield 26, 3) := by decide +kernel
theorem dX8_way_157 : decode cX8_way 157 = .ok (.iconst 0, 1) := by decide +kernel
theorem dX8_way_158 : decode cX8_way 158 = .ok (.aload_n 0, 1) := by decide +kernel
theorem dX8_way_159 : decode cX8_way 159 = .ok (.getfield 69, 3) := by decide +kernel
theorem dX8_way_162 : decode cX8_way 162 = .ok (.bipush 20, 2) := by decide +kernel
theorem dX8_way_164 : decode cX8_way 164 = .ok (.iload 10, 2) := by decide +kernel
theorem dX8_way_166 : decode cX8_way 166 = .ok (.imul, 1) := by decide +kernel
theorem dX8_way_167 : decode cX8_way 167 = .ok (.bipush 20, 2) := by decide +kernel
theorem dX8_way_169 : decode cX8_way 169 = .ok (.invokestatic 93, 3) := by decide +kernel
theorem dX8_way_172 : decode cX8_way 172 = .ok (.iinc 10 1, 3) := by decide +kernel
theorem dX8_way_175 : decode cX8_way 175 = .ok (.goto (-41), 3) := by decide +kernel
theorem dX8_way_178 : decode cX8_way 178 = .ok (.aload_n 0, 1) := by decide +kernel
theorem dX8_way_179 : decode cX8_way 179 = .ok (.iload 9, 2) := by decide +kernel
theorem dX8_way_181 : decode cX8_way 181 = .ok (.iload 4, 2) := by decide +kernel
theorem dX8_way_183 : decode cX8_way 183 = .ok (.iload 5, 2) := by decide +kernel
theorem dX8_way_185 : decode cX8_way 185 = .ok (.iload_n 3, 1) := by decide +kernel
theorem dX8_way_186 : decode cX8_way 186 = .ok (.invokevirtual 314, 3) := by decide +kernel
theorem dX8_way_189 : decode cX8_way 189 = .ok (.ireturn, 1) := by decide +kernel
theorem dX8_heapsMany_0 : decode cX8_heapsMany 0 = .ok (.aload_n 0, 1) := by decide +kernel
theorem dX8_heapsMany_1 : decode cX8_heapsMany 1 = .ok (.getfield 7, 3) := by decide +kernel
theorem dX8_heapsMany_4 : decode cX8_heapsMany 4 = .ok (.iconst 0, 1) := by decide +kernel
theorem dX8_heapsMany_5 : decode cX8_heapsMany 5 = .ok (.iaload, 1) := by decide +kernel
theorem dX8_heapsMany_6 : decode cX8_heapsMany 6 = .ok (.aload_n 0, 1) := by decide +kernel
theorem dX8_heapsMany_7 : decode cX8_heapsMany 7 = .ok (.getfield 7, 3) := by decide +kernel
theorem dX8_heapsMany_10 : decode cX8_heapsMany 10 = .ok (.bipush 20, 2) := by decide +kernel
theorem dX8_heapsMany_12 : decode cX8_heapsMany 12 = .ok (.iaload, 1) := by decide +kernel
theorem dX8_heapsMany_13 : decode cX8_heapsMany 13 = .ok (.iadd, 1) := by decide +kernel
theorem dX8_heapsMany_14 : decode cX8_heapsMany 14 = .ok (.aload_n 0, 1) := by decide +kernel
theorem dX8_heapsMany_15 : decode cX8_heapsMany 15 = .ok (.getfield 7, 3) := by decide +kernel
theorem dX8_heapsMany_18 : decode cX8_heapsMany 18 = .ok (.bipush 40, 2) := by decide +kernel
theorem dX8_heapsMany_20 : decode cX8_heapsMany 20 = .ok (.iaload, 1) := by decide +kernel
theorem dX8_heapsMany_21 : decode cX8_heapsMany 21 = .ok (.iadd, 1) := by decide +kernel
theorem dX8_heapsMany_22 : decode cX8_heapsMany 22 = .ok (.aload_n 0, 1) := by decide +kernel
theorem dX8_heapsMany_23 : decode cX8_heapsMany 23 = .ok (.getfield 7, 3) := by decide +kernel
theorem dX8_heapsMany_26 : decode cX8_heapsMany 26 = .ok (.bipush 60, 2) := by decide +kernel
theorem dX8_heapsMany_28 : decode cX8_heapsMany 28 = .ok (.iaload, 1) := by decide +kernel
theorem dX8_heapsMany_29 : decode cX8_heapsMany 29 = .ok (.iadd, 1) := by decide +kernel
theorem dX8_heapsMany_30 : decode cX8_heapsMany 30 = .ok (.ireturn, 1) := by decide +kernel
set_option maxRecDepth 20000 in
theorem ggX8_image_X8_in : GoodIn wsX8_image wsX8_in := goodIn_r _ [8] (by decide +kernel) (by decide +kernel)
set_option maxRecDepth 20000 in
theorem gX8_image_X8_in : GoodIn wsX8_image (va_wsS RX8 82 yX8_in wsX8_in) := goodIn_app (goodIn_of _ (by decide +kernel)) ggX8_image_X8_in
set_option maxRecDepth 20000 in
theorem ggX8_image_X8_bring : GoodIn wsX8_image wsX8_bring := goodIn_r _ [11] (by decide +kernel) (by decide +kernel)
set_option maxRecDepth 20000 in
theorem gX8_image_X8_bring : GoodIn wsX8_image (va_wsS RX8 93 yX8_bring wsX8_bring) := goodIn_app (goodIn_of _ (by decide +kernel)) ggX8_image_X8_bring
set_option maxRecDepth 20000 in
theorem ggX8_image_X8_heapsMany : GoodIn wsX8_image wsX8_heapsMany := goodIn_r _ [15, 3, 16, 17, 18, 19, 20, 21, 22, 23, 24, 25, 26, 27, 28, 29, 30, 31, 32, 33, 34, 35, 36, 37, 38, 39, 40, 41, 42, 43, 44] (by decide +kernel) (by decide +kernel)
set_option maxRecDepth 20000 in
theorem gX8_image_X8_heapsMany : GoodIn wsX8_image (wsV RX8 317 RX8 yX8_heapsMany wsX8_heapsMany) := goodIn_app (goodIn_of _ (by decide +kernel)) ggX8_image_X8_heapsMany
theorem dX8_image_0 : decode cX8_image 0 = .ok (.iload_n 1, 1) := by decide +kernel
theorem dX8_image_1 : decode cX8_image 1 = .ok (.iconst 0, 1) := by decide +kernel
theorem dX8_image_2 : decode cX8_image 2 = .ok (.iconst 1, 1) := by decide +kernel
theorem dX8_image_3 : decode cX8_image 3 = .ok (.invokestatic 82, 3) := by decide +kernel
theorem dX8_image_6 : decode cX8_image 6 = .ok (.ifCond .ne 6, 3) := by decide +kernel
theorem dX8_image_9 : decode cX8_image 9 = .ok (.ldc 105, 2) := by decide +kernel
theorem dX8_image_11 : decode cX8_image 11 = .ok (.ireturn, 1) := by decide +kernel
theorem dX8_image_12 : decode cX8_image 12 = .ok (.aload_n 0, 1) := by decide +kernel
theorem dX8_image_13 : decode cX8_image 13 = .ok (.getfield 19, 3) := by decide +kernel
theorem dX8_image_16 : decode cX8_image 16 = .ok (.iload_n 1, 1) := by decide +kernel
theorem dX8_image_17 : decode cX8_image 17 = .ok (.iconst 1, 1) := by decide +kernel
theorem dX8_image_18 : decode cX8_image 18 = .ok (.bastore, 1) := by decide +kernel
theorem dX8_image_19 : decode cX8_image 19 = .ok (.aload_n 0, 1) := by decide +kernel
theorem dX8_image_20 : decode cX8_image 20 = .ok (.getfield 7, 3) := by decide +kernel
theorem dX8_image_23 : decode cX8_image 23 = .ok (.iconst 0, 1) := by decide +kernel
theorem dX8_image_24 : decode cX8_image 24 = .ok (.aload_n 0, 1) := by decide +kernel
theorem dX8_image_25 : decode cX8_image 25 = .ok (.getfield 16, 3) := by decide +kernel
theorem dX8_image_28 : decode cX8_image 28 = .ok (.bipush 80, 2) := by decide +kernel
theorem dX8_image_30 : decode cX8_image 30 = .ok (.iload_n 1, 1) := by decide +kernel
theorem dX8_image_31 : decode cX8_image 31 = .ok (.imul, 1) := by decide +kernel
theorem dX8_image_32 : decode cX8_image 32 = .ok (.bipush 80, 2) := by decide +kernel
theorem dX8_image_34 : decode cX8_image 34 = .ok (.invokestatic 93, 3) := by decide +kernel
theorem dX8_image_37 : decode cX8_image 37 = .ok (.aload_n 0, 1) := by decide +kernel
theorem dX8_image_38 : decode cX8_image 38 = .ok (.invokevirtual 317, 3) := by decide +kernel
theorem dX8_image_41 : decode cX8_image 41 = .ok (.ireturn, 1) := by decide +kernel
set_option maxRecDepth 20000 in
theorem ggX8_restore_X8_in : GoodIn wsX8_restore wsX8_in := goodIn_r _ [10] (by decide +kernel) (by decide +kernel)
set_option maxRecDepth 20000 in
theorem gX8_restore_X8_in : GoodIn wsX8_restore (va_wsS RX8 82 yX8_in wsX8_in) := goodIn_app (goodIn_of _ (by decide +kernel)) ggX8_restore_X8_in
set_option maxRecDepth 20000 in
theorem ggX8_restore_X8_bring : GoodIn wsX8_restore wsX8_bring := goodIn_r _ [13] (by decide +kernel) (by decide +kernel)
set_option maxRecDepth 20000 in
theorem gX8_restore_X8_bring : GoodIn wsX8_restore (va_wsS RX8 93 yX8_bring wsX8_bring) := goodIn_app (goodIn_of _ (by decide +kernel)) ggX8_restore_X8_bring
set_option maxRecDepth 20000 in
theorem ggX8_restore_X8_heapsMany : GoodIn wsX8_restore wsX8_heapsMany := goodIn_r _ [17, 5, 18, 19, 20, 21, 22, 23, 24, 25, 26, 27, 28, 29, 30, 31, 32, 33, 34, 35, 36, 37, 38, 39, 40, 41, 42, 43, 44, 45, 46] (by decide +kernel) (by decide +kernel)
set_option maxRecDepth 20000 in
theorem gX8_restore_X8_heapsMany : GoodIn wsX8_restore (wsV RX8 317 RX8 yX8_heapsMany wsX8_heapsMany) := goodIn_app (goodIn_of _ (by decide +kernel)) ggX8_restore_X8_heapsMany
theorem dX8_restore_0 : decode cX8_restore 0 = .ok (.iload_n 1, 1) := by decide +kernel
theorem dX8_restore_1 : decode cX8_restore 1 = .ok (.iconst 0, 1) := by decide +kernel
theorem dX8_restore_2 : decode cX8_restore 2 = .ok (.iconst 1, 1) := by decide +kernel
theorem dX8_restore_3 : decode cX8_restore 3 = .ok (.invokestatic 82, 3) := by decide +kernel
theorem dX8_restore_6 : decode cX8_restore 6 = .ok (.ifCond .ne 6, 3) := by decide +kernel
theorem dX8_restore_9 : decode cX8_restore 9 = .ok (.ldc 105, 2) := by decide +kernel
theorem dX8_restore_11 : decode cX8_restore 11 = .ok (.ireturn, 1) := by decide +kernel
theorem dX8_restore_12 : decode cX8_restore 12 = .ok (.aload_n 0, 1) := by decide +kernel
theorem dX8_restore_13 : decode cX8_restore 13 = .ok (.getfield 19, 3) := by decide +kernel
theorem dX8_restore_16 : decode cX8_restore 16 = .ok (.iload_n 1, 1) := by decide +kernel
theorem dX8_restore_17 : decode cX8_restore 17 = .ok (.baload, 1) := by decide +kernel
theorem dX8_restore_18 : decode cX8_restore 18 = .ok (.ifCond .ne 6, 3) := by decide +kernel
theorem dX8_restore_21 : decode cX8_restore 21 = .ok (.ldc 104, 2) := by decide +kernel
theorem dX8_restore_23 : decode cX8_restore 23 = .ok (.ireturn, 1) := by decide +kernel
theorem dX8_restore_24 : decode cX8_restore 24 = .ok (.aload_n 0, 1) := by decide +kernel
theorem dX8_restore_25 : decode cX8_restore 25 = .ok (.getfield 16, 3) := by decide +kernel
theorem dX8_restore_28 : decode cX8_restore 28 = .ok (.bipush 80, 2) := by decide +kernel
theorem dX8_restore_30 : decode cX8_restore 30 = .ok (.iload_n 1, 1) := by decide +kernel
theorem dX8_restore_31 : decode cX8_restore 31 = .ok (.imul, 1) := by decide +kernel
theorem dX8_restore_32 : decode cX8_restore 32 = .ok (.aload_n 0, 1) := by decide +kernel
theorem dX8_restore_33 : decode cX8_restore 33 = .ok (.getfield 7, 3) := by decide +kernel
theorem dX8_restore_36 : decode cX8_restore 36 = .ok (.iconst 0, 1) := by decide +kernel
theorem dX8_restore_37 : decode cX8_restore 37 = .ok (.bipush 80, 2) := by decide +kernel
theorem dX8_restore_39 : decode cX8_restore 39 = .ok (.invokestatic 93, 3) := by decide +kernel
theorem dX8_restore_42 : decode cX8_restore 42 = .ok (.aload_n 0, 1) := by decide +kernel
theorem dX8_restore_43 : decode cX8_restore 43 = .ok (.iconst 0, 1) := by decide +kernel
theorem dX8_restore_44 : decode cX8_restore 44 = .ok (.putfield 90, 3) := by decide +kernel
theorem dX8_restore_47 : decode cX8_restore 47 = .ok (.aload_n 0, 1) := by decide +kernel
theorem dX8_restore_48 : decode cX8_restore 48 = .ok (.invokevirtual 317, 3) := by decide +kernel
theorem dX8_restore_51 : decode cX8_restore 51 = .ok (.ireturn, 1) := by decide +kernel
set_option maxRecDepth 20000 in
theorem ggX8_count_X8_heapsMany : GoodIn wsX8_count wsX8_heapsMany := goodIn_r _ [9, 1, 13, 14, 15, 16, 17, 18, 19, 20, 21, 22, 23, 24, 25, 26, 27, 28, 29, 30, 31, 32, 33, 34, 35, 36, 37, 38, 39, 40, 41] (by decide +kernel) (by decide +kernel)
set_option maxRecDepth 20000 in
theorem gX8_count_X8_heapsMany : GoodIn wsX8_count (wsV RX8 317 RX8 yX8_heapsMany wsX8_heapsMany) := goodIn_app (goodIn_of _ (by decide +kernel)) ggX8_count_X8_heapsMany
set_option maxRecDepth 20000 in
theorem ggX8_count_X8_volume : GoodIn wsX8_count wsX8_volume := goodIn_r _ [12] (by decide +kernel) (by decide +kernel)
set_option maxRecDepth 20000 in
theorem gX8_count_X8_volume : GoodIn wsX8_count (va_wsS RX8 100 yX8_volume wsX8_volume) := goodIn_app (goodIn_of _ (by decide +kernel)) ggX8_count_X8_volume
theorem dX8_count_0 : decode cX8_count 0 = .ok (.iload_n 1, 1) := by decide +kernel
theorem dX8_count_1 : decode cX8_count 1 = .ok (.tableswitch 85 0 3 #[31, 36, 75, 80], 31) := by decide +kernel
theorem dX8_count_32 : decode cX8_count 32 = .ok (.aload_n 0, 1) := by decide +kernel
theorem dX8_count_33 : decode cX8_count 33 = .ok (.invokevirtual 317, 3) := by decide +kernel
theorem dX8_count_36 : decode cX8_count 36 = .ok (.ireturn, 1) := by decide +kernel
theorem dX8_count_37 : decode cX8_count 37 = .ok (.aload_n 0, 1) := by decide +kernel
theorem dX8_count_38 : decode cX8_count 38 = .ok (.getfield 7, 3) := by decide +kernel
theorem dX8_count_41 : decode cX8_count 41 = .ok (.iconst 0, 1) := by decide +kernel
theorem dX8_count_42 : decode cX8_count 42 = .ok (.invokestatic 100, 3) := by decide +kernel
theorem dX8_count_45 : decode cX8_count 45 = .ok (.aload_n 0, 1) := by decide +kernel
theorem dX8_count_46 : decode cX8_count 46 = .ok (.getfield 7, 3) := by decide +kernel
theorem dX8_count_49 : decode cX8_count 49 = .ok (.bipush 20, 2) := by decide +kernel
theorem dX8_count_51 : decode cX8_count 51 = .ok (.invokestatic 100, 3) := by decide +kernel
theorem dX8_count_54 : decode cX8_count 54 = .ok (.iadd, 1) := by decide +kernel
theorem dX8_count_55 : decode cX8_count 55 = .ok (.aload_n 0, 1) := by decide +kernel
theorem dX8_count_56 : decode cX8_count 56 = .ok (.getfield 7, 3) := by decide +kernel
theorem dX8_count_59 : decode cX8_count 59 = .ok (.bipush 40, 2) := by decide +kernel
theorem dX8_count_61 : decode cX8_count 61 = .ok (.invokestatic 100, 3) := by decide +kernel
theorem dX8_count_64 : decode cX8_count 64 = .ok (.iadd, 1) := by decide +kernel
theorem dX8_count_65 : decode cX8_count 65 = .ok (.aload_n 0, 1) := by decide +kernel
theorem dX8_count_66 : decode cX8_count 66 = .ok (.getfield 7, 3) := by decide +kernel
theorem dX8_count_69 : decode cX8_count 69 = .ok (.bipush 60, 2) := by decide +kernel
theorem dX8_count_71 : decode cX8_count 71 = .ok (.invokestatic 100, 3) := by decide +kernel
theorem dX8_count_74 : decode cX8_count 74 = .ok (.iadd, 1) := by decide +kernel
theorem dX8_count_75 : decode cX8_count 75 = .ok (.ireturn, 1) := by decide +kernel
theorem dX8_count_76 : decode cX8_count 76 = .ok (.aload_n 0, 1) := by decide +kernel
theorem dX8_count_77 : decode cX8_count 77 = .ok (.getfield 90, 3) := by decide +kernel
theorem dX8_count_80 : decode cX8_count 80 = .ok (.ireturn, 1) := by decide +kernel
theorem dX8_count_81 : decode cX8_count 81 = .ok (.aload_n 0, 1) := by decide +kernel
theorem dX8_count_82 : decode cX8_count 82 = .ok (.getfield 106, 3) := by decide +kernel
theorem dX8_count_85 : decode cX8_count 85 = .ok (.ireturn, 1) := by decide +kernel
theorem dX8_count_86 : decode cX8_count 86 = .ok (.ldc 105, 2) := by decide +kernel
theorem dX8_count_88 : decode cX8_count 88 = .ok (.ireturn, 1) := by decide +kernel
theorem dJ9_max_7cf53_0 : decode cJ9_max_7cf53 0 = .ok (.iload_n 0, 1) := by decide +kernel
theorem dJ9_max_7cf53_1 : decode cJ9_max_7cf53 1 = .ok (.iload_n 1, 1) := by decide +kernel
theorem dJ9_max_7cf53_2 : decode cJ9_max_7cf53 2 = .ok (.if_icmp .lt 7, 3) := by decide +kernel
theorem dJ9_max_7cf53_5 : decode cJ9_max_7cf53 5 = .ok (.iload_n 0, 1) := by decide +kernel
theorem dJ9_max_7cf53_6 : decode cJ9_max_7cf53 6 = .ok (.goto 4, 3) := by decide +kernel
theorem dJ9_max_7cf53_9 : decode cJ9_max_7cf53 9 = .ok (.iload_n 1, 1) := by decide +kernel
theorem dJ9_max_7cf53_10 : decode cJ9_max_7cf53 10 = .ok (.ireturn, 1) := by decide +kernel
theorem dJ9_min_7cf53_0 : decode cJ9_min_7cf53 0 = .ok (.iload_n 0, 1) := by decide +kernel
theorem dJ9_min_7cf53_1 : decode cJ9_min_7cf53 1 = .ok (.iload_n 1, 1) := by decide +kernel
theorem dJ9_min_7cf53_2 : decode cJ9_min_7cf53 2 = .ok (.if_icmp .gt 7, 3) := by decide +kernel
theorem dJ9_min_7cf53_5 : decode cJ9_min_7cf53 5 = .ok (.iload_n 0, 1) := by decide +kernel
theorem dJ9_min_7cf53_6 : decode cJ9_min_7cf53 6 = .ok (.goto 4, 3) := by decide +kernel
theorem dJ9_min_7cf53_9 : decode cJ9_min_7cf53 9 = .ok (.iload_n 1, 1) := by decide +kernel
theorem dJ9_min_7cf53_10 : decode cJ9_min_7cf53 10 = .ok (.ireturn, 1) := by decide +kernel
theorem dJ7_fill_d0a16_0 : decode cJ7_fill_d0a16 0 = .ok (.iconst 0, 1) := by decide +kernel
theorem dJ7_fill_d0a16_1 : decode cJ7_fill_d0a16 1 = .ok (.istore_n 3, 1) := by decide +kernel
theorem dJ7_fill_d0a16_2 : decode cJ7_fill_d0a16 2 = .ok (.aload_n 0, 1) := by decide +kernel
theorem dJ7_fill_d0a16_3 : decode cJ7_fill_d0a16 3 = .ok (.arraylength, 1) := by decide +kernel
theorem dJ7_fill_d0a16_4 : decode cJ7_fill_d0a16 4 = .ok (.istore 4, 2) := by decide +kernel
theorem dJ7_fill_d0a16_6 : decode cJ7_fill_d0a16 6 = .ok (.iload_n 3, 1) := by decide +kernel
theorem dJ7_fill_d0a16_7 : decode cJ7_fill_d0a16 7 = .ok (.iload 4, 2) := by decide +kernel
theorem dJ7_fill_d0a16_9 : decode cJ7_fill_d0a16 9 = .ok (.if_icmp .ge 13, 3) := by decide +kernel
theorem dJ7_fill_d0a16_12 : decode cJ7_fill_d0a16 12 = .ok (.aload_n 0, 1) := by decide +kernel
theorem dJ7_fill_d0a16_13 : decode cJ7_fill_d0a16 13 = .ok (.iload_n 3, 1) := by decide +kernel
theorem dJ7_fill_d0a16_14 : decode cJ7_fill_d0a16 14 = .ok (.lload_n 1, 1) := by decide +kernel
theorem dJ7_fill_d0a16_15 : decode cJ7_fill_d0a16 15 = .ok (.lastore, 1) := by decide +kernel
theorem dJ7_fill_d0a16_16 : decode cJ7_fill_d0a16 16 = .ok (.iinc 3 1, 3) := by decide +kernel
theorem dJ7_fill_d0a16_19 : decode cJ7_fill_d0a16 19 = .ok (.goto (-13), 3) := by decide +kernel
theorem dJ7_fill_d0a16_22 : decode cJ7_fill_d0a16 22 = .ok (.return_, 1) := by decide +kernel
theorem dJ7_fill_53178_0 : decode cJ7_fill_53178 0 = .ok (.iconst 0, 1) := by decide +kernel
theorem dJ7_fill_53178_1 : decode cJ7_fill_53178 1 = .ok (.istore_n 2, 1) := by decide +kernel
theorem dJ7_fill_53178_2 : decode cJ7_fill_53178 2 = .ok (.aload_n 0, 1) := by decide +kernel
theorem dJ7_fill_53178_3 : decode cJ7_fill_53178 3 = .ok (.arraylength, 1) := by decide +kernel
theorem dJ7_fill_53178_4 : decode cJ7_fill_53178 4 = .ok (.istore_n 3, 1) := by decide +kernel
theorem dJ7_fill_53178_5 : decode cJ7_fill_53178 5 = .ok (.iload_n 2, 1) := by decide +kernel
theorem dJ7_fill_53178_6 : decode cJ7_fill_53178 6 = .ok (.iload_n 3, 1) := by decide +kernel
theorem dJ7_fill_53178_7 : decode cJ7_fill_53178 7 = .ok (.if_icmp .ge 13, 3) := by decide +kernel
theorem dJ7_fill_53178_10 : decode cJ7_fill_53178 10 = .ok (.aload_n 0, 1) := by decide +kernel
theorem dJ7_fill_53178_11 : decode cJ7_fill_53178 11 = .ok (.iload_n 2, 1) := by decide +kernel
theorem dJ7_fill_53178_12 : decode cJ7_fill_53178 12 = .ok (.iload_n 1, 1) := by decide +kernel
theorem dJ7_fill_53178_13 : decode cJ7_fill_53178 13 = .ok (.iastore, 1) := by decide +kernel
theorem dJ7_fill_53178_14 : decode cJ7_fill_53178 14 = .ok (.iinc 2 1, 3) := by decide +kernel
theorem dJ7_fill_53178_17 : decode cJ7_fill_53178 17 = .ok (.goto (-12), 3) := by decide +kernel
theorem dJ7_fill_53178_20 : decode cJ7_fill_53178 20 = .ok (.return_, 1) := by decide +kernel
