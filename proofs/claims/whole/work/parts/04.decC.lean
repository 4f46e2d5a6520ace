theorem dX8_init_0 : decode cX8_init 0 = .ok (.aload_n 0, 1) := by decide +kernel
theorem dX8_init_1 : decode cX8_init 1 = .ok (.invokespecial 1, 3) := by decide +kernel
theorem dX8_init_4 : decode cX8_init 4 = .ok (.aload_n 0, 1) := by decide +kernel
theorem dX8_init_5 : decode cX8_init 5 = .ok (.bipush 80, 2) := by decide +kernel
theorem dX8_init_7 : decode cX8_init 7 = .ok (.newarray .int, 2) := by decide +kernel
theorem dX8_init_9 : decode cX8_init 9 = .ok (.putfield 7, 3) := by decide +kernel
theorem dX8_init_12 : decode cX8_init 12 = .ok (.aload_n 0, 1) := by decide +kernel
theorem dX8_init_13 : decode cX8_init 13 = .ok (.sipush 960, 3) := by decide +kernel
theorem dX8_init_16 : decode cX8_init 16 = .ok (.newarray .int, 2) := by decide +kernel
theorem dX8_init_18 : decode cX8_init 18 = .ok (.putfield 13, 3) := by decide +kernel
theorem dX8_init_21 : decode cX8_init 21 = .ok (.aload_n 0, 1) := by decide +kernel
theorem dX8_init_22 : decode cX8_init 22 = .ok (.sipush 160, 3) := by decide +kernel
theorem dX8_init_25 : decode cX8_init 25 = .ok (.newarray .int, 2) := by decide +kernel
theorem dX8_init_27 : decode cX8_init 27 = .ok (.putfield 16, 3) := by decide +kernel
theorem dX8_init_30 : decode cX8_init 30 = .ok (.aload_n 0, 1) := by decide +kernel
theorem dX8_init_31 : decode cX8_init 31 = .ok (.iconst 2, 1) := by decide +kernel
theorem dX8_init_32 : decode cX8_init 32 = .ok (.newarray .boolean, 2) := by decide +kernel
theorem dX8_init_34 : decode cX8_init 34 = .ok (.putfield 19, 3) := by decide +kernel
theorem dX8_init_37 : decode cX8_init 37 = .ok (.aload_n 0, 1) := by decide +kernel
theorem dX8_init_38 : decode cX8_init 38 = .ok (.bipush 60, 2) := by decide +kernel
theorem dX8_init_40 : decode cX8_init 40 = .ok (.newarray .int, 2) := by decide +kernel
theorem dX8_init_42 : decode cX8_init 42 = .ok (.putfield 23, 3) := by decide +kernel
theorem dX8_init_45 : decode cX8_init 45 = .ok (.aload_n 0, 1) := by decide +kernel
theorem dX8_init_46 : decode cX8_init 46 = .ok (.bipush 20, 2) := by decide +kernel
theorem dX8_init_48 : decode cX8_init 48 = .ok (.newarray .int, 2) := by decide +kernel
theorem dX8_init_50 : decode cX8_init 50 = .ok (.putfield 26, 3) := by decide +kernel
theorem dX8_init_53 : decode cX8_init 53 = .ok (.aload_n 0, 1) := by decide +kernel
theorem dX8_init_54 : decode cX8_init 54 = .ok (.bipush 20, 2) := by decide +kernel
theorem dX8_init_56 : decode cX8_init 56 = .ok (.newarray .int, 2) := by decide +kernel
theorem dX8_init_58 : decode cX8_init 58 = .ok (.putfield 29, 3) := by decide +kernel
theorem dX8_init_61 : decode cX8_init 61 = .ok (.aload_n 0, 1) := by decide +kernel
theorem dX8_init_62 : decode cX8_init 62 = .ok (.bipush 16, 2) := by decide +kernel
theorem dX8_init_64 : decode cX8_init 64 = .ok (.newarray .boolean, 2) := by decide +kernel
theorem dX8_init_66 : decode cX8_init 66 = .ok (.putfield 32, 3) := by decide +kernel
theorem dX8_init_69 : decode cX8_init 69 = .ok (.aload_n 0, 1) := by decide +kernel
theorem dX8_init_70 : decode cX8_init 70 = .ok (.sipush 280, 3) := by decide +kernel
theorem dX8_init_73 : decode cX8_init 73 = .ok (.newarray .int, 2) := by decide +kernel
theorem dX8_init_75 : decode cX8_init 75 = .ok (.putfield 35, 3) := by decide +kernel
theorem dX8_init_78 : decode cX8_init 78 = .ok (.aload_n 0, 1) := by decide +kernel
theorem dX8_init_79 : decode cX8_init 79 = .ok (.sipush 350, 3) := by decide +kernel
theorem dX8_init_82 : decode cX8_init 82 = .ok (.newarray .int, 2) := by decide +kernel
theorem dX8_init_84 : decode cX8_init 84 = .ok (.putfield 38, 3) := by decide +kernel
theorem dX8_init_87 : decode cX8_init 87 = .ok (.aload_n 0, 1) := by decide +kernel
theorem dX8_init_88 : decode cX8_init 88 = .ok (.bipush 20, 2) := by decide +kernel
theorem dX8_init_90 : decode cX8_init 90 = .ok (.newarray .int, 2) := by decide +kernel
theorem dX8_init_92 : decode cX8_init 92 = .ok (.putfield 41, 3) := by decide +kernel
theorem dX8_init_95 : decode cX8_init 95 = .ok (.aload_n 0, 1) := by decide +kernel
theorem dX8_init_96 : decode cX8_init 96 = .ok (.sipush 260, 3) := by decide +kernel
theorem dX8_init_99 : decode cX8_init 99 = .ok (.newarray .int, 2) := by decide +kernel
theorem dX8_init_101 : decode cX8_init 101 = .ok (.putfield 44, 3) := by decide +kernel
theorem dX8_init_104 : decode cX8_init 104 = .ok (.aload_n 0, 1) := by decide +kernel
theorem dX8_init_105 : decode cX8_init 105 = .ok (.bipush 8, 2) := by decide +kernel
theorem dX8_init_107 : decode cX8_init 107 = .ok (.newarray .int, 2) := by decide +kernel
theorem dX8_init_109 : decode cX8_init 109 = .ok (.putfield 47, 3) := by decide +kernel
theorem dX8_init_112 : decode cX8_init 112 = .ok (.aload_n 0, 1) := by decide +kernel
theorem dX8_init_113 : decode cX8_init 113 = .ok (.bipush 8, 2) := by decide +kernel
theorem dX8_init_115 : decode cX8_init 115 = .ok (.newarray .int, 2) := by decide +kernel
theorem dX8_init_117 : decode cX8_init 117 = .ok (.putfield 50, 3) := by decide +kernel
theorem dX8_init_120 : decode cX8_init 120 = .ok (.aload_n 0, 1) := by decide +kernel
theorem dX8_init_121 : decode cX8_init 121 = .ok (.sipush 256, 3) := by decide +kernel
theorem dX8_init_124 : decode cX8_init 124 = .ok (.newarray .int, 2) := by decide +kernel
theorem dX8_init_126 : decode cX8_init 126 = .ok (.putfield 53, 3) := by decide +kernel
theorem dX8_init_129 : decode cX8_init 129 = .ok (.aload_n 0, 1) := by decide +kernel
theorem dX8_init_130 : decode cX8_init 130 = .ok (.sipush 3430, 3) := by decide +kernel
theorem dX8_init_133 : decode cX8_init 133 = .ok (.newarray .int, 2) := by decide +kernel
theorem dX8_init_135 : decode cX8_init 135 = .ok (.putfield 56, 3) := by decide +kernel
theorem dX8_init_138 : decode cX8_init 138 = .ok (.aload_n 0, 1) := by decide +kernel
theorem dX8_init_139 : decode cX8_init 139 = .ok (.sipush 3430, 3) := by decide +kernel
theorem dX8_init_142 : decode cX8_init 142 = .ok (.newarray .int, 2) := by decide +kernel
theorem dX8_init_144 : decode cX8_init 144 = .ok (.putfield 59, 3) := by decide +kernel
theorem dX8_init_147 : decode cX8_init 147 = .ok (.aload_n 0, 1) := by decide +kernel
theorem dX8_init_148 : decode cX8_init 148 = .ok (.bipush 70, 2) := by decide +kernel
theorem dX8_init_150 : decode cX8_init 150 = .ok (.newarray .long, 2) := by decide +kernel
theorem dX8_init_152 : decode cX8_init 152 = .ok (.putfield 62, 3) := by decide +kernel
theorem dX8_init_155 : decode cX8_init 155 = .ok (.aload_n 0, 1) := by decide +kernel
theorem dX8_init_156 : decode cX8_init 156 = .ok (.bipush 70, 2) := by decide +kernel
theorem dX8_init_158 : decode cX8_init 158 = .ok (.newarray .long, 2) := by decide +kernel
theorem dX8_init_160 : decode cX8_init 160 = .ok (.putfield 66, 3) := by decide +kernel
theorem dX8_init_163 : decode cX8_init 163 = .ok (.aload_n 0, 1) := by decide +kernel
theorem dX8_init_164 : decode cX8_init 164 = .ok (.sipush 4000, 3) := by decide +kernel
theorem dX8_init_167 : decode cX8_init 167 = .ok (.newarray .int, 2) := by decide +kernel
theorem dX8_init_169 : decode cX8_init 169 = .ok (.putfield 69, 3) := by decide +kernel
theorem dX8_init_172 : decode cX8_init 172 = .ok (.aload_n 0, 1) := by decide +kernel
theorem dX8_init_173 : decode cX8_init 173 = .ok (.sipush 200, 3) := by decide +kernel
theorem dX8_init_176 : decode cX8_init 176 = .ok (.newarray .int, 2) := by decide +kernel
theorem dX8_init_178 : decode cX8_init 178 = .ok (.putfield 72, 3) := by decide +kernel
theorem dX8_init_181 : decode cX8_init 181 = .ok (.aload_n 0, 1) := by decide +kernel
theorem dX8_init_182 : decode cX8_init 182 = .ok (.sipush 200, 3) := by decide +kernel
theorem dX8_init_185 : decode cX8_init 185 = .ok (.newarray .int, 2) := by decide +kernel
theorem dX8_init_187 : decode cX8_init 187 = .ok (.putfield 75, 3) := by decide +kernel
theorem dX8_init_190 : decode cX8_init 190 = .ok (.aload_n 0, 1) := by decide +kernel
theorem dX8_init_191 : decode cX8_init 191 = .ok (.iconst 0, 1) := by decide +kernel
theorem dX8_init_192 : decode cX8_init 192 = .ok (.putfield 78, 3) := by decide +kernel
theorem dX8_init_195 : decode cX8_init 195 = .ok (.return_, 1) := by decide +kernel
theorem dX8_in_0 : decode cX8_in 0 = .ok (.iload_n 0, 1) := by decide +kernel
theorem dX8_in_1 : decode cX8_in 1 = .ok (.iload_n 1, 1) := by decide +kernel
theorem dX8_in_2 : decode cX8_in 2 = .ok (.if_icmp .lt 12, 3) := by decide +kernel
theorem dX8_in_5 : decode cX8_in 5 = .ok (.iload_n 0, 1) := by decide +kernel
theorem dX8_in_6 : decode cX8_in 6 = .ok (.iload_n 2, 1) := by decide +kernel
theorem dX8_in_7 : decode cX8_in 7 = .ok (.if_icmp .gt 7, 3) := by decide +kernel
theorem dX8_in_10 : decode cX8_in 10 = .ok (.iconst 1, 1) := by decide +kernel
theorem dX8_in_11 : decode cX8_in 11 = .ok (.goto 4, 3) := by decide +kernel
theorem dX8_in_14 : decode cX8_in 14 = .ok (.iconst 0, 1) := by decide +kernel
theorem dX8_in_15 : decode cX8_in 15 = .ok (.ireturn, 1) := by decide +kernel
theorem dX8_bring_0 : decode cX8_bring 0 = .ok (.iconst 0, 1) := by decide +kernel
theorem dX8_bring_1 : decode cX8_bring 1 = .ok (.istore 5, 2) := by decide +kernel
theorem dX8_bring_3 : decode cX8_bring 3 = .ok (.iload 5, 2) := by decide +kernel
theorem dX8_bring_5 : decode cX8_bring 5 = .ok (.iload 4, 2) := by decide +kernel
theorem dX8_bring_7 : decode cX8_bring 7 = .ok (.if_icmp .ge 21, 3) := by decide +kernel
theorem dX8_bring_10 : decode cX8_bring 10 = .ok (.aload_n 2, 1) := by decide +kernel
theorem dX8_bring_11 : decode cX8_bring 11 = .ok (.iload_n 3, 1) := by decide +kernel
theorem dX8_bring_12 : decode cX8_bring 12 = .ok (.iload 5, 2) := by decide +kernel
theorem dX8_bring_14 : decode cX8_bring 14 = .ok (.iadd, 1) := by decide +kernel
theorem dX8_bring_15 : decode cX8_bring 15 = .ok (.aload_n 0, 1) := by decide +kernel
theorem dX8_bring_16 : decode cX8_bring 16 = .ok (.iload_n 1, 1) := by decide +kernel
theorem dX8_bring_17 : decode cX8_bring 17 = .ok (.iload 5, 2) := by decide +kernel
theorem dX8_bring_19 : decode cX8_bring 19 = .ok (.iadd, 1) := by decide +kernel
theorem dX8_bring_20 : decode cX8_bring 20 = .ok (.iaload, 1) := by decide +kernel
theorem dX8_bring_21 : decode cX8_bring 21 = .ok (.iastore, 1) := by decide +kernel
theorem dX8_bring_22 : decode cX8_bring 22 = .ok (.iinc 5 1, 3) := by decide +kernel
theorem dX8_bring_25 : decode cX8_bring 25 = .ok (.goto (-22), 3) := by decide +kernel
theorem dX8_bring_28 : decode cX8_bring 28 = .ok (.return_, 1) := by decide +kernel
set_option maxRecDepth 20000 in
theorem ggX8_isBox_X8_in : GoodIn wsX8_isBox wsX8_in := goodIn_r _ [4] (by decide +kernel) (by decide +kernel)
set_option maxRecDepth 20000 in
theorem gX8_isBox_X8_in : GoodIn wsX8_isBox (va_wsS RX8 82 yX8_in wsX8_in) := goodIn_app (goodIn_of _ (by decide +kernel)) ggX8_isBox_X8_in
theorem dX8_isBox_0 : decode cX8_isBox 0 = .ok (.iload_n 0, 1) := by decide +kernel
theorem dX8_isBox_1 : decode cX8_isBox 1 = .ok (.iconst 1, 1) := by decide +kernel
theorem dX8_isBox_2 : decode cX8_isBox 2 = .ok (.iconst 4, 1) := by decide +kernel
theorem dX8_isBox_3 : decode cX8_isBox 3 = .ok (.invokestatic 82, 3) := by decide +kernel
theorem dX8_isBox_6 : decode cX8_isBox 6 = .ok (.ifCond .eq 35, 3) := by decide +kernel
theorem dX8_isBox_9 : decode cX8_isBox 9 = .ok (.iload_n 1, 1) := by decide +kernel
theorem dX8_isBox_10 : decode cX8_isBox 10 = .ok (.iconst 1, 1) := by decide +kernel
theorem dX8_isBox_11 : decode cX8_isBox 11 = .ok (.iconst 4, 1) := by decide +kernel
theorem dX8_isBox_12 : decode cX8_isBox 12 = .ok (.invokestatic 82, 3) := by decide +kernel
theorem dX8_isBox_15 : decode cX8_isBox 15 = .ok (.ifCond .eq 26, 3) := by decide +kernel
theorem dX8_isBox_18 : decode cX8_isBox 18 = .ok (.iload_n 2, 1) := by decide +kernel
theorem dX8_isBox_19 : decode cX8_isBox 19 = .ok (.iconst 1, 1) := by decide +kernel
theorem dX8_isBox_20 : decode cX8_isBox 20 = .ok (.iconst 4, 1) := by decide +kernel
theorem dX8_isBox_21 : decode cX8_isBox 21 = .ok (.invokestatic 82, 3) := by decide +kernel
theorem dX8_isBox_24 : decode cX8_isBox 24 = .ok (.ifCond .eq 17, 3) := by decide +kernel
theorem dX8_isBox_27 : decode cX8_isBox 27 = .ok (.iload_n 0, 1) := by decide +kernel
theorem dX8_isBox_28 : decode cX8_isBox 28 = .ok (.iload_n 1, 1) := by decide +kernel
theorem dX8_isBox_29 : decode cX8_isBox 29 = .ok (.imul, 1) := by decide +kernel
theorem dX8_isBox_30 : decode cX8_isBox 30 = .ok (.iload_n 2, 1) := by decide +kernel
theorem dX8_isBox_31 : decode cX8_isBox 31 = .ok (.imul, 1) := by decide +kernel
theorem dX8_isBox_32 : decode cX8_isBox 32 = .ok (.bipush 48, 2) := by decide +kernel
theorem dX8_isBox_34 : decode cX8_isBox 34 = .ok (.if_icmp .gt 7, 3) := by decide +kernel
theorem dX8_isBox_37 : decode cX8_isBox 37 = .ok (.iconst 1, 1) := by decide +kernel
theorem dX8_isBox_38 : decode cX8_isBox 38 = .ok (.goto 4, 3) := by decide +kernel
theorem dX8_isBox_41 : decode cX8_isBox 41 = .ok (.iconst 0, 1) := by decide +kernel
theorem dX8_isBox_42 : decode cX8_isBox 42 = .ok (.ireturn, 1) := by decide +kernel
set_option maxRecDepth 20000 in
theorem ggX8_isPlace_X8_in : GoodIn wsX8_isPlace wsX8_in := goodIn_r _ [4] (by decide +kernel) (by decide +kernel)
set_option maxRecDepth 20000 in
theorem gX8_isPlace_X8_in : GoodIn wsX8_isPlace (va_wsS RX8 82 yX8_in wsX8_in) := goodIn_app (goodIn_of _ (by decide +kernel)) ggX8_isPlace_X8_in
theorem dX8_isPlace_0 : decode cX8_isPlace 0 = .ok (.iload_n 0, 1) := by decide +kernel
theorem dX8_isPlace_1 : decode cX8_isPlace 1 = .ok (.iconst 0, 1) := by decide +kernel
theorem dX8_isPlace_2 : decode cX8_isPlace 2 = .ok (.iconst 3, 1) := by decide +kernel
theorem dX8_isPlace_3 : decode cX8_isPlace 3 = .ok (.invokestatic 82, 3) := by decide +kernel
theorem dX8_isPlace_6 : decode cX8_isPlace 6 = .ok (.ireturn, 1) := by decide +kernel
set_option maxRecDepth 20000 in
theorem ggX8_isHeap_X8_isPlace : GoodIn wsX8_isHeap wsX8_isPlace := goodIn_r _ [5, 6, 7, 4, 8] (by decide +kernel) (by decide +kernel)
set_option maxRecDepth 20000 in
theorem gX8_isHeap_X8_isPlace : GoodIn wsX8_isHeap (va_wsS RX8 86 yX8_isPlace wsX8_isPlace) := goodIn_app (goodIn_of _ (by decide +kernel)) ggX8_isHeap_X8_isPlace
theorem dX8_isHeap_0 : decode cX8_isHeap 0 = .ok (.iload_n 1, 1) := by decide +kernel
theorem dX8_isHeap_1 : decode cX8_isHeap 1 = .ok (.invokestatic 86, 3) := by decide +kernel
theorem dX8_isHeap_4 : decode cX8_isHeap 4 = .ok (.ifCond .eq 20, 3) := by decide +kernel
theorem dX8_isHeap_7 : decode cX8_isHeap 7 = .ok (.aload_n 0, 1) := by decide +kernel
theorem dX8_isHeap_8 : decode cX8_isHeap 8 = .ok (.getfield 7, 3) := by decide +kernel
theorem dX8_isHeap_11 : decode cX8_isHeap 11 = .ok (.bipush 20, 2) := by decide +kernel
theorem dX8_isHeap_13 : decode cX8_isHeap 13 = .ok (.iload_n 1, 1) := by decide +kernel
theorem dX8_isHeap_14 : decode cX8_isHeap 14 = .ok (.imul, 1) := by decide +kernel
theorem dX8_isHeap_15 : decode cX8_isHeap 15 = .ok (.iaload, 1) := by decide +kernel
theorem dX8_isHeap_16 : decode cX8_isHeap 16 = .ok (.iconst 1, 1) := by decide +kernel
theorem dX8_isHeap_17 : decode cX8_isHeap 17 = .ok (.if_icmp .ne 7, 3) := by decide +kernel
theorem dX8_isHeap_20 : decode cX8_isHeap 20 = .ok (.iconst 1, 1) := by decide +kernel
theorem dX8_isHeap_21 : decode cX8_isHeap 21 = .ok (.goto 4, 3) := by decide +kernel
theorem dX8_isHeap_24 : decode cX8_isHeap 24 = .ok (.iconst 0, 1) := by decide +kernel
theorem dX8_isHeap_25 : decode cX8_isHeap 25 = .ok (.ireturn, 1) := by decide +kernel
theorem dX8_at_0 : decode cX8_at 0 = .ok (.iconst 4, 1) := by decide +kernel
theorem dX8_at_1 : decode cX8_at 1 = .ok (.iconst 4, 1) := by decide +kernel
theorem dX8_at_2 : decode cX8_at 2 = .ok (.iload_n 0, 1) := by decide +kernel
theorem dX8_at_3 : decode cX8_at 3 = .ok (.imul, 1) := by decide +kernel
theorem dX8_at_4 : decode cX8_at 4 = .ok (.iadd, 1) := by decide +kernel
theorem dX8_at_5 : decode cX8_at 5 = .ok (.iload_n 1, 1) := by decide +kernel
theorem dX8_at_6 : decode cX8_at 6 = .ok (.iadd, 1) := by decide +kernel
theorem dX8_at_7 : decode cX8_at 7 = .ok (.ireturn, 1) := by decide +kernel
theorem dX8_volume_0 : decode cX8_volume 0 = .ok (.iconst 0, 1) := by decide +kernel
theorem dX8_volume_1 : decode cX8_volume 1 = .ok (.istore_n 2, 1) := by decide +kernel
theorem dX8_volume_2 : decode cX8_volume 2 = .ok (.iconst 0, 1) := by decide +kernel
theorem dX8_volume_3 : decode cX8_volume 3 = .ok (.istore_n 3, 1) := by decide +kernel
theorem dX8_volume_4 : decode cX8_volume 4 = .ok (.iload_n 3, 1) := by decide +kernel
theorem dX8_volume_5 : decode cX8_volume 5 = .ok (.bipush 16, 2) := by decide +kernel
theorem dX8_volume_7 : decode cX8_volume 7 = .ok (.if_icmp .ge 19, 3) := by decide +kernel
theorem dX8_volume_10 : decode cX8_volume 10 = .ok (.iload_n 2, 1) := by decide +kernel
theorem dX8_volume_11 : decode cX8_volume 11 = .ok (.aload_n 0, 1) := by decide +kernel
theorem dX8_volume_12 : decode cX8_volume 12 = .ok (.iload_n 1, 1) := by decide +kernel
theorem dX8_volume_13 : decode cX8_volume 13 = .ok (.iconst 4, 1) := by decide +kernel
theorem dX8_volume_14 : decode cX8_volume 14 = .ok (.iadd, 1) := by decide +kernel
theorem dX8_volume_15 : decode cX8_volume 15 = .ok (.iload_n 3, 1) := by decide +kernel
theorem dX8_volume_16 : decode cX8_volume 16 = .ok (.iadd, 1) := by decide +kernel
theorem dX8_volume_17 : decode cX8_volume 17 = .ok (.iaload, 1) := by decide +kernel
theorem dX8_volume_18 : decode cX8_volume 18 = .ok (.iadd, 1) := by decide +kernel
theorem dX8_volume_19 : decode cX8_volume 19 = .ok (.istore_n 2, 1) := by decide +kernel
theorem dX8_volume_20 : decode cX8_volume 20 = .ok (.iinc 3 1, 3) := by decide +kernel
theorem dX8_volume_23 : decode cX8_volume 23 = .ok (.goto (-19), 3) := by decide +kernel
theorem dX8_volume_26 : decode cX8_volume 26 = .ok (.iload_n 2, 1) := by decide +kernel
theorem dX8_volume_27 : decode cX8_volume 27 = .ok (.ireturn, 1) := by decide +kernel
theorem dX8_begins_0 : decode cX8_begins 0 = .ok (.iconst 0, 1) := by decide +kernel
theorem dX8_begins_1 : decode cX8_begins 1 = .ok (.istore 4, 2) := by decide +kernel
theorem dX8_begins_3 : decode cX8_begins 3 = .ok (.iload 4, 2) := by decide +kernel
theorem dX8_begins_5 : decode cX8_begins 5 = .ok (.bipush 20, 2) := by decide +kernel
theorem dX8_begins_7 : decode cX8_begins 7 = .ok (.if_icmp .ge 14, 3) := by decide +kernel
theorem dX8_begins_10 : decode cX8_begins 10 = .ok (.aload_n 0, 1) := by decide +kernel
theorem dX8_begins_11 : decode cX8_begins 11 = .ok (.iload 4, 2) := by decide +kernel
theorem dX8_begins_13 : decode cX8_begins 13 = .ok (.iconst 0, 1) := by decide +kernel
theorem dX8_begins_14 : decode cX8_begins 14 = .ok (.iastore, 1) := by decide +kernel
theorem dX8_begins_15 : decode cX8_begins 15 = .ok (.iinc 4 1, 3) := by decide +kernel
theorem dX8_begins_18 : decode cX8_begins 18 = .ok (.goto (-15), 3) := by decide +kernel
theorem dX8_begins_21 : decode cX8_begins 21 = .ok (.aload_n 0, 1) := by decide +kernel
theorem dX8_begins_22 : decode cX8_begins 22 = .ok (.iconst 0, 1) := by decide +kernel
theorem dX8_begins_23 : decode cX8_begins 23 = .ok (.iconst 1, 1) := by decide +kernel
theorem dX8_begins_24 : decode cX8_begins 24 = .ok (.iastore, 1) := by decide +kernel
theorem dX8_begins_25 : decode cX8_begins 25 = .ok (.aload_n 0, 1) := by decide +kernel
theorem dX8_begins_26 : decode cX8_begins 26 = .ok (.iconst 1, 1) := by decide +kernel
theorem dX8_begins_27 : decode cX8_begins 27 = .ok (.iload_n 1, 1) := by decide +kernel
theorem dX8_begins_28 : decode cX8_begins 28 = .ok (.iastore, 1) := by decide +kernel
theorem dX8_begins_29 : decode cX8_begins 29 = .ok (.aload_n 0, 1) := by decide +kernel
theorem dX8_begins_30 : decode cX8_begins 30 = .ok (.iconst 2, 1) := by decide +kernel
theorem dX8_begins_31 : decode cX8_begins 31 = .ok (.iload_n 2, 1) := by decide +kernel
theorem dX8_begins_32 : decode cX8_begins 32 = .ok (.iastore, 1) := by decide +kernel
theorem dX8_begins_33 : decode cX8_begins 33 = .ok (.aload_n 0, 1) := by decide +kernel
theorem dX8_begins_34 : decode cX8_begins 34 = .ok (.iconst 3, 1) := by decide +kernel
theorem dX8_begins_35 : decode cX8_begins 35 = .ok (.iload_n 3, 1) := by decide +kernel
theorem dX8_begins_36 : decode cX8_begins 36 = .ok (.iastore, 1) := by decide +kernel
theorem dX8_begins_37 : decode cX8_begins 37 = .ok (.return_, 1) := by decide +kernel
theorem dX8_isSame_0 : decode cX8_isSame 0 = .ok (.iconst 1, 1) := by decide +kernel
theorem dX8_isSame_1 : decode cX8_isSame 1 = .ok (.istore 5, 2) := by decide +kernel
theorem dX8_isSame_3 : decode cX8_isSame 3 = .ok (.iconst 0, 1) := by decide +kernel
theorem dX8_isSame_4 : decode cX8_isSame 4 = .ok (.istore 6, 2) := by decide +kernel
theorem dX8_isSame_6 : decode cX8_isSame 6 = .ok (.iload 6, 2) := by decide +kernel
theorem dX8_isSame_8 : decode cX8_isSame 8 = .ok (.iload 4, 2) := by decide +kernel
theorem dX8_isSame_10 : decode cX8_isSame 10 = .ok (.if_icmp .ge 36, 3) := by decide +kernel
theorem dX8_isSame_13 : decode cX8_isSame 13 = .ok (.iload 5, 2) := by decide +kernel
theorem dX8_isSame_15 : decode cX8_isSame 15 = .ok (.ifCond .eq 22, 3) := by decide +kernel
theorem dX8_isSame_18 : decode cX8_isSame 18 = .ok (.aload_n 0, 1) := by decide +kernel
theorem dX8_isSame_19 : decode cX8_isSame 19 = .ok (.iload_n 1, 1) := by decide +kernel
theorem dX8_isSame_20 : decode cX8_isSame 20 = .ok (.iload 6, 2) := by decide +kernel
theorem dX8_isSame_22 : decode cX8_isSame 22 = .ok (.iadd, 1) := by decide +kernel
theorem dX8_isSame_23 : decode cX8_isSame 23 = .ok (.iaload, 1) := by decide +kernel
theorem dX8_isSame_24 : decode cX8_isSame 24 = .ok (.aload_n 2, 1) := by decide +kernel
theorem dX8_isSame_25 : decode cX8_isSame 25 = .ok (.iload_n 3, 1) := by decide +kernel
theorem dX8_isSame_26 : decode cX8_isSame 26 = .ok (.iload 6, 2) := by decide +kernel
theorem dX8_isSame_28 : decode cX8_isSame 28 = .ok (.iadd, 1) := by decide +kernel
theorem dX8_isSame_29 : decode cX8_isSame 29 = .ok (.iaload, 1) := by decide +kernel
theorem dX8_isSame_30 : decode cX8_isSame 30 = .ok (.if_icmp .ne 7, 3) := by decide +kernel
theorem dX8_isSame_33 : decode cX8_isSame 33 = .ok (.iconst 1, 1) := by decide +kernel
theorem dX8_isSame_34 : decode cX8_isSame 34 = .ok (.goto 4, 3) := by decide +kernel
theorem dX8_isSame_37 : decode cX8_isSame 37 = .ok (.iconst 0, 1) := by decide +kernel
theorem dX8_isSame_38 : decode cX8_isSame 38 = .ok (.istore 5, 2) := by decide +kernel
theorem dX8_isSame_40 : decode cX8_isSame 40 = .ok (.iinc 6 1, 3) := by decide +kernel
theorem dX8_isSame_43 : decode cX8_isSame 43 = .ok (.goto (-37), 3) := by decide +kernel
theorem dX8_isSame_46 : decode cX8_isSame 46 = .ok (.iload 5, 2) := by decide +kernel
theorem dX8_isSame_48 : decode cX8_isSame 48 = .ok (.ireturn, 1) := by decide +kernel
set_option maxRecDepth 20000 in
theorem ggX8_notes_X8_bring : GoodIn wsX8_notes wsX8_bring := goodIn_r _ [7] (by decide +kernel) (by decide +kernel)
set_option maxRecDepth 20000 in
theorem gX8_notes_X8_bring : GoodIn wsX8_notes (va_wsS RX8 93 yX8_bring wsX8_bring) := goodIn_app (goodIn_of _ (by decide +kernel)) ggX8_notes_X8_bring
theorem dX8_notes_0 : decode cX8_notes 0 = .ok (.aload_n 0, 1) := by decide +kernel
theorem dX8_notes_1 : decode cX8_notes 1 = .ok (.getfield 90, 3) := by decide +kernel
theorem dX8_notes_4 : decode cX8_notes 4 = .ok (.bipush 12, 2) := by decide +kernel
theorem dX8_notes_6 : decode cX8_notes 6 = .ok (.if_icmp .ne 30, 3) := by decide +kernel
theorem dX8_notes_9 : decode cX8_notes 9 = .ok (.aload_n 0, 1) := by decide +kernel
theorem dX8_notes_10 : decode cX8_notes 10 = .ok (.getfield 13, 3) := by decide +kernel
theorem dX8_notes_13 : decode cX8_notes 13 = .ok (.bipush 80, 2) := by decide +kernel
theorem dX8_notes_15 : decode cX8_notes 15 = .ok (.aload_n 0, 1) := by decide +kernel
theorem dX8_notes_16 : decode cX8_notes 16 = .ok (.getfield 13, 3) := by decide +kernel
theorem dX8_notes_19 : decode cX8_notes 19 = .ok (.iconst 0, 1) := by decide +kernel
theorem dX8_notes_20 : decode cX8_notes 20 = .ok (.sipush 880, 3) := by decide +kernel
theorem dX8_notes_23 : decode cX8_notes 23 = .ok (.invokestatic 93, 3) := by decide +kernel
theorem dX8_notes_26 : decode cX8_notes 26 = .ok (.aload_n 0, 1) := by decide +kernel
theorem dX8_notes_27 : decode cX8_notes 27 = .ok (.dup, 1) := by decide +kernel
theorem dX8_notes_28 : decode cX8_notes 28 = .ok (.getfield 90, 3) := by decide +kernel
theorem dX8_notes_31 : decode cX8_notes 31 = .ok (.iconst 1, 1) := by decide +kernel
theorem dX8_notes_32 : decode cX8_notes 32 = .ok (.isub, 1) := by decide +kernel
theorem dX8_notes_33 : decode cX8_notes 33 = .ok (.putfield 90, 3) := by decide +kernel
theorem dX8_notes_36 : decode cX8_notes 36 = .ok (.aload_n 0, 1) := by decide +kernel
theorem dX8_notes_37 : decode cX8_notes 37 = .ok (.getfield 7, 3) := by decide +kernel
theorem dX8_notes_40 : decode cX8_notes 40 = .ok (.iconst 0, 1) := by decide +kernel
theorem dX8_notes_41 : decode cX8_notes 41 = .ok (.aload_n 0, 1) := by decide +kernel
theorem dX8_notes_42 : decode cX8_notes 42 = .ok (.getfield 13, 3) := by decide +kernel
theorem dX8_notes_45 : decode cX8_notes 45 = .ok (.bipush 80, 2) := by decide +kernel
theorem dX8_notes_47 : decode cX8_notes 47 = .ok (.aload_n 0, 1) := by decide +kernel
theorem dX8_notes_48 : decode cX8_notes 48 = .ok (.getfield 90, 3) := by decide +kernel
theorem dX8_notes_51 : decode cX8_notes 51 = .ok (.imul, 1) := by decide +kernel
theorem dX8_notes_52 : decode cX8_notes 52 = .ok (.bipush 80, 2) := by decide +kernel
theorem dX8_notes_54 : decode cX8_notes 54 = .ok (.invokestatic 93, 3) := by decide +kernel
theorem dX8_notes_57 : decode cX8_notes 57 = .ok (.aload_n 0, 1) := by decide +kernel
theorem dX8_notes_58 : decode cX8_notes 58 = .ok (.dup, 1) := by decide +kernel
theorem dX8_notes_59 : decode cX8_notes 59 = .ok (.getfield 90, 3) := by decide +kernel
theorem dX8_notes_62 : decode cX8_notes 62 = .ok (.iconst 1, 1) := by decide +kernel
theorem dX8_notes_63 : decode cX8_notes 63 = .ok (.iadd, 1) := by decide +kernel
theorem dX8_notes_64 : decode cX8_notes 64 = .ok (.putfield 90, 3) := by decide +kernel
theorem dX8_notes_67 : decode cX8_notes 67 = .ok (.return_, 1) := by decide +kernel
set_option maxRecDepth 20000 in
theorem ggX8_comes_X8_notes : GoodIn wsX8_comes wsX8_notes := goodIn_r _ [7, 8, 9, 2, 10, 11, 6, 12, 16, 17, 18, 19, 20, 21, 22, 23, 24, 25, 26, 27, 28, 29, 30, 31, 32, 33, 34, 35, 36, 37, 38, 39, 40, 41, 42, 43, 44] (by decide +kernel) (by decide +kernel)
set_option maxRecDepth 20000 in
theorem gX8_comes_X8_notes : GoodIn wsX8_comes (wsV RX8 97 RX8 yX8_notes wsX8_notes) := goodIn_app (goodIn_of _ (by decide +kernel)) ggX8_comes_X8_notes
set_option maxRecDepth 20000 in
theorem ggX8_comes_X8_bring : GoodIn wsX8_comes wsX8_bring := goodIn_r _ [12] (by decide +kernel) (by decide +kernel)
set_option maxRecDepth 20000 in
theorem gX8_comes_X8_bring : GoodIn wsX8_comes (va_wsS RX8 93 yX8_bring wsX8_bring) := goodIn_app (goodIn_of _ (by decide +kernel)) ggX8_comes_X8_bring
set_option maxRecDepth 20000 in
theorem ggX8_comes_X8_volume : GoodIn wsX8_comes wsX8_volume := goodIn_r _ [15] (by decide +kernel) (by decide +kernel)
set_option maxRecDepth 20000 in
theorem gX8_comes_X8_volume : GoodIn wsX8_comes (va_wsS RX8 100 yX8_volume wsX8_volume) := goodIn_app (goodIn_of _ (by decide +kernel)) ggX8_comes_X8_volume
theorem dX8_comes_0 : decode cX8_comes 0 = .ok (.aload_n 0, 1) := by decide +kernel
theorem dX8_comes_1 : decode cX8_comes 1 = .ok (.invokevirtual 97, 3) := by decide +kernel
theorem dX8_comes_4 : decode cX8_comes 4 = .ok (.aload_n 0, 1) := by decide +kernel
theorem dX8_comes_5 : decode cX8_comes 5 = .ok (.getfield 26, 3) := by decide +kernel
theorem dX8_comes_8 : decode cX8_comes 8 = .ok (.iconst 0, 1) := by decide +kernel
theorem dX8_comes_9 : decode cX8_comes 9 = .ok (.aload_n 0, 1) := by decide +kernel
theorem dX8_comes_10 : decode cX8_comes 10 = .ok (.getfield 7, 3) := by decide +kernel
theorem dX8_comes_13 : decode cX8_comes 13 = .ok (.bipush 20, 2) := by decide +kernel
theorem dX8_comes_15 : decode cX8_comes 15 = .ok (.iload_n 1, 1) := by decide +kernel
theorem dX8_comes_16 : decode cX8_comes 16 = .ok (.imul, 1) := by decide +kernel
theorem dX8_comes_17 : decode cX8_comes 17 = .ok (.bipush 20, 2) := by decide +kernel
theorem dX8_comes_19 : decode cX8_comes 19 = .ok (.invokestatic 93, 3) := by decide +kernel
theorem dX8_comes_22 : decode cX8_comes 22 = .ok (.aload_n 0, 1) := by decide +kernel
theorem dX8_comes_23 : decode cX8_comes 23 = .ok (.getfield 26, 3) := by decide +kernel
theorem dX8_comes_26 : decode cX8_comes 26 = .ok (.iconst 0, 1) := by decide +kernel
theorem dX8_comes_27 : decode cX8_comes 27 = .ok (.invokestatic 100, 3) := by decide +kernel
theorem dX8_comes_30 : decode cX8_comes 30 = .ok (.ireturn, 1) := by decide +kernel
set_option maxRecDepth 20000 in
theorem ggX8_undo_X8_bring : GoodIn wsX8_undo wsX8_bring := goodIn_r _ [8] (by decide +kernel) (by decide +kernel)
set_option maxRecDepth 20000 in
theorem gX8_undo_X8_bring : GoodIn wsX8_undo (va_wsS RX8 93 yX8_bring wsX8_bring) := goodIn_app (goodIn_of _ (by decide +kernel)) ggX8_undo_X8_bring
theorem dX8_undo_0 : decode cX8_undo 0 = .ok (.aload_n 0, 1) := by decide +kernel
theorem dX8_undo_1 : decode cX8_undo 1 = .ok (.getfield 90, 3) := by decide +kernel
theorem dX8_undo_4 : decode cX8_undo 4 = .ok (.ifCond .ne 6, 3) := by decide +kernel
theorem dX8_undo_7 : decode cX8_undo 7 = .ok (.ldc 104, 2) := by decide +kernel
theorem dX8_undo_9 : decode cX8_undo 9 = .ok (.ireturn, 1) := by decide +kernel
theorem dX8_undo_10 : decode cX8_undo 10 = .ok (.aload_n 0, 1) := by decide +kernel
theorem dX8_undo_11 : decode cX8_undo 11 = .ok (.dup, 1) := by decide +kernel
theorem dX8_undo_12 : decode cX8_undo 12 = .ok (.getfield 90, 3) := by decide +kernel
theorem dX8_undo_15 : decode cX8_undo 15 = .ok (.iconst 1, 1) := by decide +kernel
theorem dX8_undo_16 : decode cX8_undo 16 = .ok (.isub, 1) := by decide +kernel
theorem dX8_undo_17 : decode cX8_undo 17 = .ok (.putfield 90, 3) := by decide +kernel
theorem dX8_undo_20 : decode cX8_undo 20 = .ok (.aload_n 0, 1) := by decide +kernel
theorem dX8_undo_21 : decode cX8_undo 21 = .ok (.getfield 13, 3) := by decide +kernel
theorem dX8_undo_24 : decode cX8_undo 24 = .ok (.bipush 80, 2) := by decide +kernel
theorem dX8_undo_26 : decode cX8_undo 26 = .ok (.aload_n 0, 1) := by decide +kernel
theorem dX8_undo_27 : decode cX8_undo 27 = .ok (.getfield 90, 3) := by decide +kernel
theorem dX8_undo_30 : decode cX8_undo 30 = .ok (.imul, 1) := by decide +kernel
theorem dX8_undo_31 : decode cX8_undo 31 = .ok (.aload_n 0, 1) := by decide +kernel
theorem dX8_undo_32 : decode cX8_undo 32 = .ok (.getfield 7, 3) := by decide +kernel
theorem dX8_undo_35 : decode cX8_undo 35 = .ok (.iconst 0, 1) := by decide +kernel
theorem dX8_undo_36 : decode cX8_undo 36 = .ok (.bipush 80, 2) := by decide +kernel
theorem dX8_undo_38 : decode cX8_undo 38 = .ok (.invokestatic 93, 3) := by decide +kernel
theorem dX8_undo_41 : decode cX8_undo 41 = .ok (.aload_n 0, 1) := by decide +kernel
theorem dX8_undo_42 : decode cX8_undo 42 = .ok (.getfield 90, 3) := by decide +kernel
theorem dX8_undo_45 : decode cX8_undo 45 = .ok (.ireturn, 1) := by decide +kernel
set_option maxRecDepth 20000 in
theorem ggX8_feed_X8_in : GoodIn wsX8_feed wsX8_in := goodIn_r _ [8] (by decide +kernel) (by decide +kernel)
set_option maxRecDepth 20000 in
theorem gX8_feed_X8_in : GoodIn wsX8_feed (va_wsS RX8 82 yX8_in wsX8_in) := goodIn_app (goodIn_of _ (by decide +kernel)) ggX8_feed_X8_in
theorem dX8_feed_0 : decode cX8_feed 0 = .ok (.iload_n 1, 1) := by decide +kernel
theorem dX8_feed_1 : decode cX8_feed 1 = .ok (.iconst 0, 1) := by decide +kernel
theorem dX8_feed_2 : decode cX8_feed 2 = .ok (.sipush 255, 3) := by decide +kernel
theorem dX8_feed_5 : decode cX8_feed 5 = .ok (.invokestatic 82, 3) := by decide +kernel
theorem dX8_feed_8 : decode cX8_feed 8 = .ok (.ifCond .ne 6, 3) := by decide +kernel
theorem dX8_feed_11 : decode cX8_feed 11 = .ok (.ldc 105, 2) := by decide +kernel
theorem dX8_feed_13 : decode cX8_feed 13 = .ok (.ireturn, 1) := by decide +kernel
theorem dX8_feed_14 : decode cX8_feed 14 = .ok (.aload_n 0, 1) := by decide +kernel
theorem dX8_feed_15 : decode cX8_feed 15 = .ok (.getfield 106, 3) := by decide +kernel
theorem dX8_feed_18 : decode cX8_feed 18 = .ok (.bipush 60, 2) := by decide +kernel
theorem dX8_feed_20 : decode cX8_feed 20 = .ok (.if_icmp .ne 6, 3) := by decide +kernel
theorem dX8_feed_23 : decode cX8_feed 23 = .ok (.ldc 109, 2) := by decide +kernel
theorem dX8_feed_25 : decode cX8_feed 25 = .ok (.ireturn, 1) := by decide +kernel
theorem dX8_feed_26 : decode cX8_feed 26 = .ok (.aload_n 0, 1) := by decide +kernel
theorem dX8_feed_27 : decode cX8_feed 27 = .ok (.getfield 23, 3) := by decide +kernel
theorem dX8_feed_30 : decode cX8_feed 30 = .ok (.aload_n 0, 1) := by decide +kernel
theorem dX8_feed_31 : decode cX8_feed 31 = .ok (.getfield 106, 3) := by decide +kernel
theorem dX8_feed_34 : decode cX8_feed 34 = .ok (.iload_n 1, 1) := by decide +kernel
theorem dX8_feed_35 : decode cX8_feed 35 = .ok (.iastore, 1) := by decide +kernel
theorem dX8_feed_36 : decode cX8_feed 36 = .ok (.aload_n 0, 1) := by decide +kernel
theorem dX8_feed_37 : decode cX8_feed 37 = .ok (.dup, 1) := by decide +kernel
theorem dX8_feed_38 : decode cX8_feed 38 = .ok (.getfield 106, 3) := by decide +kernel
theorem dX8_feed_41 : decode cX8_feed 41 = .ok (.iconst 1, 1) := by decide +kernel
theorem dX8_feed_42 : decode cX8_feed 42 = .ok (.iadd, 1) := by decide +kernel
theorem dX8_feed_43 : decode cX8_feed 43 = .ok (.putfield 106, 3) := by decide +kernel
theorem dX8_feed_46 : decode cX8_feed 46 = .ok (.aload_n 0, 1) := by decide +kernel
theorem dX8_feed_47 : decode cX8_feed 47 = .ok (.getfield 106, 3) := by decide +kernel
theorem dX8_feed_50 : decode cX8_feed 50 = .ok (.ireturn, 1) := by decide +kernel
theorem dX8_here_0 : decode cX8_here 0 = .ok (.aload_n 0, 1) := by decide +kernel
theorem dX8_here_1 : decode cX8_here 1 = .ok (.getfield 110, 3) := by decide +kernel
theorem dX8_here_4 : decode cX8_here 4 = .ok (.aload_n 0, 1) := by decide +kernel
theorem dX8_here_5 : decode cX8_here 5 = .ok (.getfield 106, 3) := by decide +kernel
theorem dX8_here_8 : decode cX8_here 8 = .ok (.if_icmp .ge 15, 3) := by decide +kernel
theorem dX8_here_11 : decode cX8_here 11 = .ok (.aload_n 0, 1) := by decide +kernel
theorem dX8_here_12 : decode cX8_here 12 = .ok (.getfield 23, 3) := by decide +kernel
theorem dX8_here_15 : decode cX8_here 15 = .ok (.aload_n 0, 1) := by decide +kernel
theorem dX8_here_16 : decode cX8_here 16 = .ok (.getfield 110, 3) := by decide +kernel
theorem dX8_here_19 : decode cX8_here 19 = .ok (.iaload, 1) := by decide +kernel
theorem dX8_here_20 : decode cX8_here 20 = .ok (.goto 4, 3) := by decide +kernel
theorem dX8_here_23 : decode cX8_here 23 = .ok (.iconst (-1), 1) := by decide +kernel
theorem dX8_here_24 : decode cX8_here 24 = .ok (.ireturn, 1) := by decide +kernel
theorem dX8_fails_0 : decode cX8_fails 0 = .ok (.aload_n 0, 1) := by decide +kernel
theorem dX8_fails_1 : decode cX8_fails 1 = .ok (.aload_n 0, 1) := by decide +kernel
theorem dX8_fails_2 : decode cX8_fails 2 = .ok (.getfield 113, 3) := by decide +kernel
theorem dX8_fails_5 : decode cX8_fails 5 = .ok (.ifCond .ne 7, 3) := by decide +kernel
theorem dX8_fails_8 : decode cX8_fails 8 = .ok (.iload_n 1, 1) := by decide +kernel
theorem dX8_fails_9 : decode cX8_fails 9 = .ok (.goto 7, 3) := by decide +kernel
theorem dX8_fails_12 : decode cX8_fails 12 = .ok (.aload_n 0, 1) := by decide +kernel
theorem dX8_fails_13 : decode cX8_fails 13 = .ok (.getfield 113, 3) := by decide +kernel
theorem dX8_fails_16 : decode cX8_fails 16 = .ok (.putfield 113, 3) := by decide +kernel
theorem dX8_fails_19 : decode cX8_fails 19 = .ok (.return_, 1) := by decide +kernel
theorem dX8_goes_0 : decode cX8_goes 0 = .ok (.aload_n 0, 1) := by decide +kernel
theorem dX8_goes_1 : decode cX8_goes 1 = .ok (.dup, 1) := by decide +kernel
theorem dX8_goes_2 : decode cX8_goes 2 = .ok (.getfield 110, 3) := by decide +kernel
theorem dX8_goes_5 : decode cX8_goes 5 = .ok (.aload_n 0, 1) := by decide +kernel
theorem dX8_goes_6 : decode cX8_goes 6 = .ok (.getfield 113, 3) := by decide +kernel
theorem dX8_goes_9 : decode cX8_goes 9 = .ok (.ifCond .ne 7, 3) := by decide +kernel
theorem dX8_goes_12 : decode cX8_goes 12 = .ok (.iconst 1, 1) := by decide +kernel
theorem dX8_goes_13 : decode cX8_goes 13 = .ok (.goto 4, 3) := by decide +kernel
theorem dX8_goes_16 : decode cX8_goes 16 = .ok (.iconst 0, 1) := by decide +kernel
theorem dX8_goes_17 : decode cX8_goes 17 = .ok (.iadd, 1) := by decide +kernel
theorem dX8_goes_18 : decode cX8_goes 18 = .ok (.putfield 110, 3) := by decide +kernel
theorem dX8_goes_21 : decode cX8_goes 21 = .ok (.return_, 1) := by decide +kernel
set_option maxRecDepth 20000 in
theorem ggX8_takes_X8_here : GoodIn wsX8_takes wsX8_here := goodIn_r _ [5, 6, 7, 8, 18, 19, 20, 21, 22, 23, 24, 25, 26, 27, 28, 29, 30, 31, 32, 33, 34, 35, 36, 37, 38, 39, 40, 41, 42, 43, 44, 45, 46] (by decide +kernel) (by decide +kernel)
set_option maxRecDepth 20000 in
theorem gX8_takes_X8_here : GoodIn wsX8_takes (wsV RX8 116 RX8 yX8_here wsX8_here) := goodIn_app (goodIn_of _ (by decide +kernel)) ggX8_takes_X8_here
set_option maxRecDepth 20000 in
theorem ggX8_takes_X8_fails : GoodIn wsX8_takes wsX8_fails := goodIn_r _ [12, 13, 18, 19, 20, 21, 22, 23, 24, 25, 26, 27, 28, 29, 30, 31, 32, 33, 34, 35, 36, 37, 38, 39, 40, 41, 42, 43, 44, 45, 46] (by decide +kernel) (by decide +kernel)
set_option maxRecDepth 20000 in
theorem gX8_takes_X8_fails : GoodIn wsX8_takes (wsV RX8 120 RX8 yX8_fails wsX8_fails) := goodIn_app (goodIn_of _ (by decide +kernel)) ggX8_takes_X8_fails
set_option maxRecDepth 20000 in
theorem ggX8_takes_X8_goes : GoodIn wsX8_takes wsX8_goes := goodIn_r _ [17, 6, 13, 18, 19, 20, 21, 22, 23, 24, 25, 26, 27, 28, 29, 30, 31, 32, 33, 34, 35, 36, 37, 38, 39, 40, 41, 42, 43, 44, 45, 46] (by decide +kernel) (by decide +kernel)
set_option maxRecDepth 20000 in
theorem gX8_takes_X8_goes : GoodIn wsX8_takes (wsV RX8 124 RX8 yX8_goes wsX8_goes) := goodIn_app (goodIn_of _ (by decide +kernel)) ggX8_takes_X8_goes
theorem dX8_takes_0 : decode cX8_takes 0 = .ok (.aload_n 0, 1) := by decide +kernel
theorem dX8_takes_1 : decode cX8_takes 1 = .ok (.invokevirtual 116, 3) := by decide +kernel
theorem dX8_takes_4 : decode cX8_takes 4 = .ok (.iload_n 1, 1) := by decide +kernel
theorem dX8_takes_5 : decode cX8_takes 5 = .ok (.if_icmp .eq 8, 3) := by decide +kernel
theorem dX8_takes_8 : decode cX8_takes 8 = .ok (.aload_n 0, 1) := by decide +kernel
theorem dX8_takes_9 : decode cX8_takes 9 = .ok (.iconst 1, 1) := by decide +kernel
theorem dX8_takes_10 : decode cX8_takes 10 = .ok (.invokevirtual 120, 3) := by decide +kernel
theorem dX8_takes_13 : decode cX8_takes 13 = .ok (.aload_n 0, 1) := by decide +kernel
theorem dX8_takes_14 : decode cX8_takes 14 = .ok (.invokevirtual 124, 3) := by decide +kernel
theorem dX8_takes_17 : decode cX8_takes 17 = .ok (.return_, 1) := by decide +kernel
set_option maxRecDepth 20000 in
theorem ggX8_digit_X8_here : GoodIn wsX8_digit wsX8_here := goodIn_r _ [6, 7, 8, 9, 17, 18, 19, 20, 21, 22, 23, 24, 25, 26, 27, 28, 29, 30, 31, 32, 33, 34, 35, 36, 37, 38, 39, 40, 41, 42, 43, 44, 45] (by decide +kernel) (by decide +kernel)
set_option maxRecDepth 20000 in
theorem gX8_digit_X8_here : GoodIn wsX8_digit (wsV RX8 116 RX8 yX8_here wsX8_here) := goodIn_app (goodIn_of _ (by decide +kernel)) ggX8_digit_X8_here
set_option maxRecDepth 20000 in
theorem ggX8_digit_X8_in : GoodIn wsX8_digit wsX8_in := goodIn_r _ [12] (by decide +kernel) (by decide +kernel)
set_option maxRecDepth 20000 in
theorem gX8_digit_X8_in : GoodIn wsX8_digit (va_wsS RX8 82 yX8_in wsX8_in) := goodIn_app (goodIn_of _ (by decide +kernel)) ggX8_digit_X8_in
set_option maxRecDepth 20000 in
theorem ggX8_digit_X8_fails : GoodIn wsX8_digit wsX8_fails := goodIn_r _ [16, 1, 17, 18, 19, 20, 21, 22, 23, 24, 25, 26, 27, 28, 29, 30, 31, 32, 33, 34, 35, 36, 37, 38, 39, 40, 41, 42, 43, 44, 45] (by decide +kernel) (by decide +kernel)
set_option maxRecDepth 20000 in
theorem gX8_digit_X8_fails : GoodIn wsX8_digit (wsV RX8 120 RX8 yX8_fails wsX8_fails) := goodIn_app (goodIn_of _ (by decide +kernel)) ggX8_digit_X8_fails
theorem dX8_digit_0 : decode cX8_digit 0 = .ok (.aload_n 0, 1) := by decide +kernel
theorem dX8_digit_1 : decode cX8_digit 1 = .ok (.invokevirtual 116, 3) := by decide +kernel
theorem dX8_digit_4 : decode cX8_digit 4 = .ok (.bipush 48, 2) := by decide +kernel
theorem dX8_digit_6 : decode cX8_digit 6 = .ok (.isub, 1) := by decide +kernel
theorem dX8_digit_7 : decode cX8_digit 7 = .ok (.istore_n 3, 1) := by decide +kernel
theorem dX8_digit_8 : decode cX8_digit 8 = .ok (.iload_n 3, 1) := by decide +kernel
theorem dX8_digit_9 : decode cX8_digit 9 = .ok (.iconst 0, 1) := by decide +kernel
theorem dX8_digit_10 : decode cX8_digit 10 = .ok (.bipush 9, 2) := by decide +kernel
theorem dX8_digit_12 : decode cX8_digit 12 = .ok (.invokestatic 82, 3) := by decide +kernel
theorem dX8_digit_15 : decode cX8_digit 15 = .ok (.ifCond .ne 8, 3) := by decide +kernel
theorem dX8_digit_18 : decode cX8_digit 18 = .ok (.aload_n 0, 1) := by decide +kernel
theorem dX8_digit_19 : decode cX8_digit 19 = .ok (.iconst 1, 1) := by decide +kernel
theorem dX8_digit_20 : decode cX8_digit 20 = .ok (.invokevirtual 120, 3) := by decide +kernel
theorem dX8_digit_23 : decode cX8_digit 23 = .ok (.iload_n 3, 1) := by decide +kernel
theorem dX8_digit_24 : decode cX8_digit 24 = .ok (.iload_n 1, 1) := by decide +kernel
theorem dX8_digit_25 : decode cX8_digit 25 = .ok (.iload_n 2, 1) := by decide +kernel
theorem dX8_digit_26 : decode cX8_digit 26 = .ok (.invokestatic 82, 3) := by decide +kernel
theorem dX8_digit_29 : decode cX8_digit 29 = .ok (.ifCond .ne 8, 3) := by decide +kernel
theorem dX8_digit_32 : decode cX8_digit 32 = .ok (.aload_n 0, 1) := by decide +kernel
theorem dX8_digit_33 : decode cX8_digit 33 = .ok (.iconst 2, 1) := by decide +kernel
theorem dX8_digit_34 : decode cX8_digit 34 = .ok (.invokevirtual 120, 3) := by decide +kernel
theorem dX8_digit_37 : decode cX8_digit 37 = .ok (.aload_n 0, 1) := by decide +kernel
theorem dX8_digit_38 : decode cX8_digit 38 = .ok (.getfield 113, 3) := by decide +kernel
theorem dX8_digit_41 : decode cX8_digit 41 = .ok (.ifCond .ne 7, 3) := by decide +kernel
theorem dX8_digit_44 : decode cX8_digit 44 = .ok (.iload_n 3, 1) := by decide +kernel
theorem dX8_digit_45 : decode cX8_digit 45 = .ok (.goto 4, 3) := by decide +kernel
theorem dX8_digit_48 : decode cX8_digit 48 = .ok (.iconst (-1), 1) := by decide +kernel
theorem dX8_digit_49 : decode cX8_digit 49 = .ok (.ireturn, 1) := by decide +kernel
set_option maxRecDepth 20000 in
theorem ggX8_readsBox_X8_begins : GoodIn wsX8_readsBox wsX8_begins := goodIn_r _ [6] (by decide +kernel) (by decide +kernel)
set_option maxRecDepth 20000 in
theorem gX8_readsBox_X8_begins : GoodIn wsX8_readsBox (va_wsS RX8 127 yX8_begins wsX8_begins) := goodIn_app (goodIn_of _ (by decide +kernel)) ggX8_readsBox_X8_begins
set_option maxRecDepth 20000 in
theorem ggX8_readsBox_X8_digit : GoodIn wsX8_readsBox wsX8_digit := goodIn_r _ [10, 2, 11, 12, 13, 5, 14, 15, 16, 17, 18, 19, 20, 21, 22, 23, 24, 29, 30, 31, 32, 33, 34, 35, 36, 37, 38, 39, 40, 41, 42, 43, 44, 45, 46, 47, 48, 49, 50, 51, 52, 53, 54, 55, 56, 57] (by decide +kernel) (by decide +kernel)
set_option maxRecDepth 20000 in
theorem gX8_readsBox_X8_digit : GoodIn wsX8_readsBox (wsV RX8 131 RX8 yX8_digit wsX8_digit) := goodIn_app (goodIn_of _ (by decide +kernel)) ggX8_readsBox_X8_digit
set_option maxRecDepth 20000 in
theorem ggX8_readsBox_X8_fails : GoodIn wsX8_readsBox wsX8_fails := goodIn_r _ [24, 2, 29, 30, 31, 32, 33, 34, 35, 36, 37, 38, 39, 40, 41, 42, 43, 44, 45, 46, 47, 48, 49, 50, 51, 52, 53, 54, 55, 56, 57] (by decide +kernel) (by decide +kernel)
set_option maxRecDepth 20000 in
theorem gX8_readsBox_X8_fails : GoodIn wsX8_readsBox (wsV RX8 120 RX8 yX8_fails wsX8_fails) := goodIn_app (goodIn_of _ (by decide +kernel)) ggX8_readsBox_X8_fails
set_option maxRecDepth 20000 in
theorem ggX8_readsBox_X8_goes : GoodIn wsX8_readsBox wsX8_goes := goodIn_r _ [28, 15, 2, 29, 30, 31, 32, 33, 34, 35, 36, 37, 38, 39, 40, 41, 42, 43, 44, 45, 46, 47, 48, 49, 50, 51, 52, 53, 54, 55, 56, 57] (by decide +kernel) (by decide +kernel)
set_option maxRecDepth 20000 in
theorem gX8_readsBox_X8_goes : GoodIn wsX8_readsBox (wsV RX8 124 RX8 yX8_goes wsX8_goes) := goodIn_app (goodIn_of _ (by decide +kernel)) ggX8_readsBox_X8_goes
theorem dX8_readsBox_0 : decode cX8_readsBox 0 = .ok (.aload_n 0, 1) := by decide +kernel
theorem dX8_readsBox_1 : decode cX8_readsBox 1 = .ok (.getfield 26, 3) := by decide +kernel
theorem dX8_readsBox_4 : decode cX8_readsBox 4 = .ok (.iconst 0, 1) := by decide +kernel
theorem dX8_readsBox_5 : decode cX8_readsBox 5 = .ok (.iconst 0, 1) := by decide +kernel
theorem dX8_readsBox_6 : decode cX8_readsBox 6 = .ok (.iconst 0, 1) := by decide +kernel
theorem dX8_readsBox_7 : decode cX8_readsBox 7 = .ok (.invokestatic 127, 3) := by decide +kernel
theorem dX8_readsBox_10 : decode cX8_readsBox 10 = .ok (.iconst 1, 1) := by decide +kernel
theorem dX8_readsBox_11 : decode cX8_readsBox 11 = .ok (.istore_n 1, 1) := by decide +kernel
theorem dX8_readsBox_12 : decode cX8_readsBox 12 = .ok (.iload_n 1, 1) := by decide +kernel
theorem dX8_readsBox_13 : decode cX8_readsBox 13 = .ok (.iconst 3, 1) := by decide +kernel
theorem dX8_readsBox_14 : decode cX8_readsBox 14 = .ok (.if_icmp .gt 67, 3) := by decide +kernel
theorem dX8_readsBox_17 : decode cX8_readsBox 17 = .ok (.aload_n 0, 1) := by decide +kernel
theorem dX8_readsBox_18 : decode cX8_readsBox 18 = .ok (.getfield 26, 3) := by decide +kernel
theorem dX8_readsBox_21 : decode cX8_readsBox 21 = .ok (.iload_n 1, 1) := by decide +kernel
theorem dX8_readsBox_22 : decode cX8_readsBox 22 = .ok (.aload_n 0, 1) := by decide +kernel
theorem dX8_readsBox_23 : decode cX8_readsBox 23 = .ok (.iconst 1, 1) := by decide +kernel
theorem dX8_readsBox_24 : decode cX8_readsBox 24 = .ok (.iconst 4, 1) := by decide +kernel
theorem dX8_readsBox_25 : decode cX8_readsBox 25 = .ok (.invokevirtual 131, 3) := by decide +kernel
theorem dX8_readsBox_28 : decode cX8_readsBox 28 = .ok (.iastore, 1) := by decide +kernel
theorem dX8_readsBox_29 : decode cX8_readsBox 29 = .ok (.iload_n 1, 1) := by decide +kernel
theorem dX8_readsBox_30 : decode cX8_readsBox 30 = .ok (.iconst 3, 1) := by decide +kernel
theorem dX8_readsBox_31 : decode cX8_readsBox 31 = .ok (.if_icmp .ne 40, 3) := by decide +kernel
theorem dX8_readsBox_34 : decode cX8_readsBox 34 = .ok (.aload_n 0, 1) := by decide +kernel
theorem dX8_readsBox_35 : decode cX8_readsBox 35 = .ok (.getfield 113, 3) := by decide +kernel
theorem dX8_readsBox_38 : decode cX8_readsBox 38 = .ok (.ifCond .ne 33, 3) := by decide +kernel
theorem dX8_readsBox_41 : decode cX8_readsBox 41 = .ok (.aload_n 0, 1) := by decide +kernel
theorem dX8_readsBox_42 : decode cX8_readsBox 42 = .ok (.getfield 26, 3) := by decide +kernel
theorem dX8_readsBox_45 : decode cX8_readsBox 45 = .ok (.iconst 1, 1) := by decide +kernel
theorem dX8_readsBox_46 : decode cX8_readsBox 46 = .ok (.iaload, 1) := by decide +kernel
theorem dX8_readsBox_47 : decode cX8_readsBox 47 = .ok (.aload_n 0, 1) := by decide +kernel
theorem dX8_readsBox_48 : decode cX8_readsBox 48 = .ok (.getfield 26, 3) := by decide +kernel
theorem dX8_readsBox_51 : decode cX8_readsBox 51 = .ok (.iconst 2, 1) := by decide +kernel
theorem dX8_readsBox_52 : decode cX8_readsBox 52 = .ok (.iaload, 1) := by decide +kernel
theorem dX8_readsBox_53 : decode cX8_readsBox 53 = .ok (.imul, 1) := by decide +kernel
theorem dX8_readsBox_54 : decode cX8_readsBox 54 = .ok (.aload_n 0, 1) := by decide +kernel
theorem dX8_readsBox_55 : decode cX8_readsBox 55 = .ok (.getfield 26, 3) := by decide +kernel
theorem dX8_readsBox_58 : decode cX8_readsBox 58 = .ok (.iconst 3, 1) := by decide +kernel
theorem dX8_readsBox_59 : decode cX8_readsBox 59 = .ok (.iaload, 1) := by decide +kernel
theorem dX8_readsBox_60 : decode cX8_readsBox 60 = .ok (.imul, 1) := by decide +kernel
theorem dX8_readsBox_61 : decode cX8_readsBox 61 = .ok (.bipush 48, 2) := by decide +kernel
theorem dX8_readsBox_63 : decode cX8_readsBox 63 = .ok (.if_icmp .le 8, 3) := by decide +kernel
theorem dX8_readsBox_66 : decode cX8_readsBox 66 = .ok (.aload_n 0, 1) := by decide +kernel
theorem dX8_readsBox_67 : decode cX8_readsBox 67 = .ok (.iconst 2, 1) := by decide +kernel
theorem dX8_readsBox_68 : decode cX8_readsBox 68 = .ok (.invokevirtual 120, 3) := by decide +kernel
theorem dX8_readsBox_71 : decode cX8_readsBox 71 = .ok (.aload_n 0, 1) := by decide +kernel
theorem dX8_readsBox_72 : decode cX8_readsBox 72 = .ok (.invokevirtual 124, 3) := by decide +kernel
theorem dX8_readsBox_75 : decode cX8_readsBox 75 = .ok (.iinc 1 1, 3) := by decide +kernel
theorem dX8_readsBox_78 : decode cX8_readsBox 78 = .ok (.goto (-66), 3) := by decide +kernel
theorem dX8_readsBox_81 : decode cX8_readsBox 81 = .ok (.return_, 1) := by decide +kernel
set_option maxRecDepth 20000 in
theorem ggX8_isToldAt_X8_in : GoodIn wsX8_isToldAt wsX8_in := goodIn_r _ [5] (by decide +kernel) (by decide +kernel)
set_option maxRecDepth 20000 in
theorem gX8_isToldAt_X8_in : GoodIn wsX8_isToldAt (va_wsS RX8 82 yX8_in wsX8_in) := goodIn_app (goodIn_of _ (by decide +kernel)) ggX8_isToldAt_X8_in
theorem dX8_isToldAt_0 : decode cX8_isToldAt 0 = .ok (.iload_n 1, 1) := by decide +kernel
theorem dX8_isToldAt_1 : decode cX8_isToldAt 1 = .ok (.iconst 0, 1) := by decide +kernel
theorem dX8_isToldAt_2 : decode cX8_isToldAt 2 = .ok (.iconst 3, 1) := by decide +kernel
theorem dX8_isToldAt_3 : decode cX8_isToldAt 3 = .ok (.invokestatic 82, 3) := by decide +kernel
theorem dX8_isToldAt_6 : decode cX8_isToldAt 6 = .ok (.ifCond .eq 29, 3) := by decide +kernel
theorem dX8_isToldAt_9 : decode cX8_isToldAt 9 = .ok (.iload_n 2, 1) := by decide +kernel
theorem dX8_isToldAt_10 : decode cX8_isToldAt 10 = .ok (.iconst 0, 1) := by decide +kernel
theorem dX8_isToldAt_11 : decode cX8_isToldAt 11 = .ok (.iconst 3, 1) := by decide +kernel
theorem dX8_isToldAt_12 : decode cX8_isToldAt 12 = .ok (.invokestatic 82, 3) := by decide +kernel
theorem dX8_isToldAt_15 : decode cX8_isToldAt 15 = .ok (.ifCond .eq 20, 3) := by decide +kernel
theorem dX8_isToldAt_18 : decode cX8_isToldAt 18 = .ok (.aload_n 0, 1) := by decide +kernel
theorem dX8_isToldAt_19 : decode cX8_isToldAt 19 = .ok (.getfield 32, 3) := by decide +kernel
theorem dX8_isToldAt_22 : decode cX8_isToldAt 22 = .ok (.iconst 4, 1) := by decide +kernel
theorem dX8_isToldAt_23 : decode cX8_isToldAt 23 = .ok (.iload_n 1, 1) := by decide +kernel
theorem dX8_isToldAt_24 : decode cX8_isToldAt 24 = .ok (.imul, 1) := by decide +kernel
theorem dX8_isToldAt_25 : decode cX8_isToldAt 25 = .ok (.iload_n 2, 1) := by decide +kernel
theorem dX8_isToldAt_26 : decode cX8_isToldAt 26 = .ok (.iadd, 1) := by decide +kernel
theorem dX8_isToldAt_27 : decode cX8_isToldAt 27 = .ok (.baload, 1) := by decide +kernel
theorem dX8_isToldAt_28 : decode cX8_isToldAt 28 = .ok (.ifCond .eq 7, 3) := by decide +kernel
theorem dX8_isToldAt_31 : decode cX8_isToldAt 31 = .ok (.iconst 1, 1) := by decide +kernel
theorem dX8_isToldAt_32 : decode cX8_isToldAt 32 = .ok (.goto 4, 3) := by decide +kernel
theorem dX8_isToldAt_35 : decode cX8_isToldAt 35 = .ok (.iconst 0, 1) := by decide +kernel
theorem dX8_isToldAt_36 : decode cX8_isToldAt 36 = .ok (.ireturn, 1) := by decide +kernel
set_option maxRecDepth 20000 in
theorem ggX8_readsHeight_X8_digit : GoodIn wsX8_readsHeight wsX8_digit := goodIn_r _ [8, 2, 9, 10, 11, 7, 12, 13, 14, 15, 16, 17, 18, 19, 20, 21, 22, 34, 35, 36, 37, 38, 39, 40, 41, 42, 43, 44, 45, 46, 47, 48, 49, 50, 51, 52, 53, 54, 55, 56, 57, 58, 59, 60, 61, 62] (by decide +kernel) (by decide +kernel)
set_option maxRecDepth 20000 in
theorem gX8_readsHeight_X8_digit : GoodIn wsX8_readsHeight (wsV RX8 131 RX8 yX8_digit wsX8_digit) := goodIn_app (goodIn_of _ (by decide +kernel)) ggX8_readsHeight_X8_digit
set_option maxRecDepth 20000 in
theorem ggX8_readsHeight_X8_isToldAt : GoodIn wsX8_readsHeight wsX8_isToldAt := goodIn_r _ [26, 3, 16, 17, 7, 18, 34, 35, 36, 37, 38, 39, 40, 41, 42, 43, 44, 45, 46, 47, 48, 49, 50, 51, 52, 53, 54, 55, 56, 57, 58, 59, 60, 61, 62] (by decide +kernel) (by decide +kernel)
set_option maxRecDepth 20000 in
theorem gX8_readsHeight_X8_isToldAt : GoodIn wsX8_readsHeight (wsV RX8 135 RX8 yX8_isToldAt wsX8_isToldAt) := goodIn_app (goodIn_of _ (by decide +kernel)) ggX8_readsHeight_X8_isToldAt
set_option maxRecDepth 20000 in
theorem ggX8_readsHeight_X8_at : GoodIn wsX8_readsHeight wsX8_at := goodIn_r _ [29] (by decide +kernel) (by decide +kernel)
set_option maxRecDepth 20000 in
theorem gX8_readsHeight_X8_at : GoodIn wsX8_readsHeight (va_wsS RX8 139 yX8_at wsX8_at) := goodIn_app (goodIn_of _ (by decide +kernel)) ggX8_readsHeight_X8_at
set_option maxRecDepth 20000 in
theorem ggX8_readsHeight_X8_fails : GoodIn wsX8_readsHeight wsX8_fails := goodIn_r _ [22, 2, 34, 35, 36, 37, 38, 39, 40, 41, 42, 43, 44, 45, 46, 47, 48, 49, 50, 51, 52, 53, 54, 55, 56, 57, 58, 59, 60, 61, 62] (by decide +kernel) (by decide +kernel)
set_option maxRecDepth 20000 in
theorem gX8_readsHeight_X8_fails : GoodIn wsX8_readsHeight (wsV RX8 120 RX8 yX8_fails wsX8_fails) := goodIn_app (goodIn_of _ (by decide +kernel)) ggX8_readsHeight_X8_fails
set_option maxRecDepth 20000 in
theorem ggX8_readsHeight_X8_goes : GoodIn wsX8_readsHeight wsX8_goes := goodIn_r _ [33, 13, 2, 34, 35, 36, 37, 38, 39, 40, 41, 42, 43, 44, 45, 46, 47, 48, 49, 50, 51, 52, 53, 54, 55, 56, 57, 58, 59, 60, 61, 62] (by decide +kernel) (by decide +kernel)
set_option maxRecDepth 20000 in
theorem gX8_readsHeight_X8_goes : GoodIn wsX8_readsHeight (wsV RX8 124 RX8 yX8_goes wsX8_goes) := goodIn_app (goodIn_of _ (by decide +kernel)) ggX8_readsHeight_X8_goes
theorem dX8_readsHeight_0 : decode cX8_readsHeight 0 = .ok (.aload_n 0, 1) := by decide +kernel
theorem dX8_readsHeight_1 : decode cX8_readsHeight 1 = .ok (.iconst 0, 1) := by decide +kernel
theorem dX8_readsHeight_2 : decode cX8_readsHeight 2 = .ok (.aload_n 0, 1) := by decide +kernel
theorem dX8_readsHeight_3 : decode cX8_readsHeight 3 = .ok (.getfield 26, 3) := by decide +kernel
theorem dX8_readsHeight_6 : decode cX8_readsHeight 6 = .ok (.iconst 3, 1) := by decide +kernel
theorem dX8_readsHeight_7 : decode cX8_readsHeight 7 = .ok (.iaload, 1) := by decide +kernel
theorem dX8_readsHeight_8 : decode cX8_readsHeight 8 = .ok (.invokevirtual 131, 3) := by decide +kernel
theorem dX8_readsHeight_11 : decode cX8_readsHeight 11 = .ok (.istore_n 3, 1) := by decide +kernel
theorem dX8_readsHeight_12 : decode cX8_readsHeight 12 = .ok (.aload_n 0, 1) := by decide +kernel
theorem dX8_readsHeight_13 : decode cX8_readsHeight 13 = .ok (.getfield 113, 3) := by decide +kernel
theorem dX8_readsHeight_16 : decode cX8_readsHeight 16 = .ok (.ifCond .ne 140, 3) := by decide +kernel
theorem dX8_readsHeight_19 : decode cX8_readsHeight 19 = .ok (.aload_n 0, 1) := by decide +kernel
theorem dX8_readsHeight_20 : decode cX8_readsHeight 20 = .ok (.iload_n 1, 1) := by decide +kernel
theorem dX8_readsHeight_21 : decode cX8_readsHeight 21 = .ok (.iconst 1, 1) := by decide +kernel
theorem dX8_readsHeight_22 : decode cX8_readsHeight 22 = .ok (.isub, 1) := by decide +kernel
theorem dX8_readsHeight_23 : decode cX8_readsHeight 23 = .ok (.iload_n 2, 1) := by decide +kernel
theorem dX8_readsHeight_24 : decode cX8_readsHeight 24 = .ok (.invokevirtual 135, 3) := by decide +kernel
theorem dX8_readsHeight_27 : decode cX8_readsHeight 27 = .ok (.ifCond .eq 19, 3) := by decide +kernel
theorem dX8_readsHeight_30 : decode cX8_readsHeight 30 = .ok (.iload_n 3, 1) := by decide +kernel
theorem dX8_readsHeight_31 : decode cX8_readsHeight 31 = .ok (.aload_n 0, 1) := by decide +kernel
theorem dX8_readsHeight_32 : decode cX8_readsHeight 32 = .ok (.getfield 26, 3) := by decide +kernel
theorem dX8_readsHeight_35 : decode cX8_readsHeight 35 = .ok (.iload_n 1, 1) := by decide +kernel
theorem dX8_readsHeight_36 : decode cX8_readsHeight 36 = .ok (.iconst 1, 1) := by decide +kernel
theorem dX8_readsHeight_37 : decode cX8_readsHeight 37 = .ok (.isub, 1) := by decide +kernel
theorem dX8_readsHeight_38 : decode cX8_readsHeight 38 = .ok (.iload_n 2, 1) := by decide +kernel
theorem dX8_readsHeight_39 : decode cX8_readsHeight 39 = .ok (.invokestatic 139, 3) := by decide +kernel
theorem dX8_readsHeight_42 : decode cX8_readsHeight 42 = .ok (.iaload, 1) := by decide +kernel
theorem dX8_readsHeight_43 : decode cX8_readsHeight 43 = .ok (.if_icmp .gt 30, 3) := by decide +kernel
theorem dX8_readsHeight_46 : decode cX8_readsHeight 46 = .ok (.aload_n 0, 1) := by decide +kernel
theorem dX8_readsHeight_47 : decode cX8_readsHeight 47 = .ok (.iload_n 1, 1) := by decide +kernel
theorem dX8_readsHeight_48 : decode cX8_readsHeight 48 = .ok (.iload_n 2, 1) := by decide +kernel
theorem dX8_readsHeight_49 : decode cX8_readsHeight 49 = .ok (.iconst 1, 1) := by decide +kernel
theorem dX8_readsHeight_50 : decode cX8_readsHeight 50 = .ok (.isub, 1) := by decide +kernel
theorem dX8_readsHeight_51 : decode cX8_readsHeight 51 = .ok (.invokevirtual 135, 3) := by decide +kernel
theorem dX8_readsHeight_54 : decode cX8_readsHeight 54 = .ok (.ifCond .eq 23, 3) := by decide +kernel
theorem dX8_readsHeight_57 : decode cX8_readsHeight 57 = .ok (.iload_n 3, 1) := by decide +kernel
theorem dX8_readsHeight_58 : decode cX8_readsHeight 58 = .ok (.aload_n 0, 1) := by decide +kernel
theorem dX8_readsHeight_59 : decode cX8_readsHeight 59 = .ok (.getfield 26, 3) := by decide +kernel
theorem dX8_readsHeight_62 : decode cX8_readsHeight 62 = .ok (.iload_n 1, 1) := by decide +kernel
theorem dX8_readsHeight_63 : decode cX8_readsHeight 63 = .ok (.iload_n 2, 1) := by decide +kernel
theorem dX8_readsHeight_64 : decode cX8_readsHeight 64 = .ok (.iconst 1, 1) := by decide +kernel
theorem dX8_readsHeight_65 : decode cX8_readsHeight 65 = .ok (.isub, 1) := by decide +kernel
theorem dX8_readsHeight_66 : decode cX8_readsHeight 66 = .ok (.invokestatic 139, 3) := by decide +kernel
theorem dX8_readsHeight_69 : decode cX8_readsHeight 69 = .ok (.iaload, 1) := by decide +kernel
theorem dX8_readsHeight_70 : decode cX8_readsHeight 70 = .ok (.if_icmp .le 7, 3) := by decide +kernel
theorem dX8_readsHeight_73 : decode cX8_readsHeight 73 = .ok (.iconst 1, 1) := by decide +kernel
theorem dX8_readsHeight_74 : decode cX8_readsHeight 74 = .ok (.goto 4, 3) := by decide +kernel
theorem dX8_readsHeight_77 : decode cX8_readsHeight 77 = .ok (.iconst 0, 1) := by decide +kernel
theorem dX8_readsHeight_78 : decode cX8_readsHeight 78 = .ok (.istore 4, 2) := by decide +kernel
theorem dX8_readsHeight_80 : decode cX8_readsHeight 80 = .ok (.aload_n 0, 1) := by decide +kernel
theorem dX8_readsHeight_81 : decode cX8_readsHeight 81 = .ok (.iload_n 1, 1) := by decide +kernel
theorem dX8_readsHeight_82 : decode cX8_readsHeight 82 = .ok (.iconst 1, 1) := by decide +kernel
theorem dX8_readsHeight_83 : decode cX8_readsHeight 83 = .ok (.iadd, 1) := by decide +kernel
theorem dX8_readsHeight_84 : decode cX8_readsHeight 84 = .ok (.iload_n 2, 1) := by decide +kernel
theorem dX8_readsHeight_85 : decode cX8_readsHeight 85 = .ok (.invokevirtual 135, 3) := by decide +kernel
theorem dX8_readsHeight_88 : decode cX8_readsHeight 88 = .ok (.ifCond .eq 19, 3) := by decide +kernel
theorem dX8_readsHeight_91 : decode cX8_readsHeight 91 = .ok (.iload_n 3, 1) := by decide +kernel
theorem dX8_readsHeight_92 : decode cX8_readsHeight 92 = .ok (.aload_n 0, 1) := by decide +kernel
theorem dX8_readsHeight_93 : decode cX8_readsHeight 93 = .ok (.getfield 26, 3) := by decide +kernel
theorem dX8_readsHeight_96 : decode cX8_readsHeight 96 = .ok (.iload_n 1, 1) := by decide +kernel
theorem dX8_readsHeight_97 : decode cX8_readsHeight 97 = .ok (.iconst 1, 1) := by decide +kernel
theorem dX8_readsHeight_98 : decode cX8_readsHeight 98 = .ok (.iadd, 1) := by decide +kernel
theorem dX8_readsHeight_99 : decode cX8_readsHeight 99 = .ok (.iload_n 2, 1) := by decide +kernel
theorem dX8_readsHeight_100 : decode cX8_readsHeight 100 = .ok (.invokestatic 139, 3) := by decide +kernel
theorem dX8_readsHeight_103 : decode cX8_readsHeight 103 = .ok (.iaload, 1) := by decide +kernel
theorem dX8_readsHeight_104 : decode cX8_readsHeight 104 = .ok (.if_icmp .lt 30, 3) := by decide +kernel
theorem dX8_readsHeight_107 : decode cX8_readsHeight 107 = .ok (.aload_n 0, 1) := by decide +kernel
theorem dX8_readsHeight_108 : decode cX8_readsHeight 108 = .ok (.iload_n 1, 1) := by decide +kernel
theorem dX8_readsHeight_109 : decode cX8_readsHeight 109 = .ok (.iload_n 2, 1) := by decide +kernel
theorem dX8_readsHeight_110 : decode cX8_readsHeight 110 = .ok (.iconst 1, 1) := by decide +kernel
theorem dX8_readsHeight_111 : decode cX8_readsHeight 111 = .ok (.iadd, 1) := by decide +kernel
theorem dX8_readsHeight_112 : decode cX8_readsHeight 112 = .ok (.invokevirtual 135, 3) := by decide +kernel
theorem dX8_readsHeight_115 : decode cX8_readsHeight 115 = .ok (.ifCond .eq 23, 3) := by decide +kernel
theorem dX8_readsHeight_118 : decode cX8_readsHeight 118 = .ok (.iload_n 3, 1) := by decide +kernel
theorem dX8_readsHeight_119 : decode cX8_readsHeight 119 = .ok (.aload_n 0, 1) := by decide +kernel
theorem dX8_readsHeight_120 : decode cX8_readsHeight 120 = .ok (.getfield 26, 3) := by decide +kernel
theorem dX8_readsHeight_123 : decode cX8_readsHeight 123 = .ok (.iload_n 1, 1) := by decide +kernel
theorem dX8_readsHeight_124 : decode cX8_readsHeight 124 = .ok (.iload_n 2, 1) := by decide +kernel
theorem dX8_readsHeight_125 : decode cX8_readsHeight 125 = .ok (.iconst 1, 1) := by decide +kernel
theorem dX8_readsHeight_126 : decode cX8_readsHeight 126 = .ok (.iadd, 1) := by decide +kernel
theorem dX8_readsHeight_127 : decode cX8_readsHeight 127 = .ok (.invokestatic 139, 3) := by decide +kernel
theorem dX8_readsHeight_130 : decode cX8_readsHeight 130 = .ok (.iaload, 1) := by decide +kernel
theorem dX8_readsHeight_131 : decode cX8_readsHeight 131 = .ok (.if_icmp .ge 7, 3) := by decide +kernel
theorem dX8_readsHeight_134 : decode cX8_readsHeight 134 = .ok (.iconst 1, 1) := by decide +kernel
theorem dX8_readsHeight_135 : decode cX8_readsHeight 135 = .ok (.goto 4, 3) := by decide +kernel
theorem dX8_readsHeight_138 : decode cX8_readsHeight 138 = .ok (.iconst 0, 1) := by decide +kernel
theorem dX8_readsHeight_139 : decode cX8_readsHeight 139 = .ok (.istore 5, 2) := by decide +kernel
theorem dX8_readsHeight_141 : decode cX8_readsHeight 141 = .ok (.iload 4, 2) := by decide +kernel
theorem dX8_readsHeight_143 : decode cX8_readsHeight 143 = .ok (.ifCond .ne 8, 3) := by decide +kernel
theorem dX8_readsHeight_146 : decode cX8_readsHeight 146 = .ok (.iload 5, 2) := by decide +kernel
theorem dX8_readsHeight_148 : decode cX8_readsHeight 148 = .ok (.ifCond .eq 8, 3) := by decide +kernel
theorem dX8_readsHeight_151 : decode cX8_readsHeight 151 = .ok (.aload_n 0, 1) := by decide +kernel
theorem dX8_readsHeight_152 : decode cX8_readsHeight 152 = .ok (.iconst 2, 1) := by decide +kernel
theorem dX8_readsHeight_153 : decode cX8_readsHeight 153 = .ok (.invokevirtual 120, 3) := by decide +kernel
theorem dX8_readsHeight_156 : decode cX8_readsHeight 156 = .ok (.aload_n 0, 1) := by decide +kernel
theorem dX8_readsHeight_157 : decode cX8_readsHeight 157 = .ok (.getfield 113, 3) := by decide +kernel
theorem dX8_readsHeight_160 : decode cX8_readsHeight 160 = .ok (.ifCond .ne 25, 3) := by decide +kernel
theorem dX8_readsHeight_163 : decode cX8_readsHeight 163 = .ok (.aload_n 0, 1) := by decide +kernel
theorem dX8_readsHeight_164 : decode cX8_readsHeight 164 = .ok (.getfield 26, 3) := by decide +kernel
theorem dX8_readsHeight_167 : decode cX8_readsHeight 167 = .ok (.iload_n 1, 1) := by decide +kernel
theorem dX8_readsHeight_168 : decode cX8_readsHeight 168 = .ok (.iload_n 2, 1) := by decide +kernel
theorem dX8_readsHeight_169 : decode cX8_readsHeight 169 = .ok (.invokestatic 139, 3) := by decide +kernel
theorem dX8_readsHeight_172 : decode cX8_readsHeight 172 = .ok (.iload_n 3, 1) := by decide +kernel
theorem dX8_readsHeight_173 : decode cX8_readsHeight 173 = .ok (.iastore, 1) := by decide +kernel
theorem dX8_readsHeight_174 : decode cX8_readsHeight 174 = .ok (.aload_n 0, 1) := by decide +kernel
theorem dX8_readsHeight_175 : decode cX8_readsHeight 175 = .ok (.getfield 32, 3) := by decide +kernel
theorem dX8_readsHeight_178 : decode cX8_readsHeight 178 = .ok (.iconst 4, 1) := by decide +kernel
theorem dX8_readsHeight_179 : decode cX8_readsHeight 179 = .ok (.iload_n 1, 1) := by decide +kernel
theorem dX8_readsHeight_180 : decode cX8_readsHeight 180 = .ok (.imul, 1) := by decide +kernel
theorem dX8_readsHeight_181 : decode cX8_readsHeight 181 = .ok (.iload_n 2, 1) := by decide +kernel
theorem dX8_readsHeight_182 : decode cX8_readsHeight 182 = .ok (.iadd, 1) := by decide +kernel
theorem dX8_readsHeight_183 : decode cX8_readsHeight 183 = .ok (.iconst 1, 1) := by decide +kernel
theorem dX8_readsHeight_184 : decode cX8_readsHeight 184 = .ok (.bastore, 1) := by decide +kernel
theorem dX8_readsHeight_185 : decode cX8_readsHeight 185 = .ok (.aload_n 0, 1) := by decide +kernel
theorem dX8_readsHeight_186 : decode cX8_readsHeight 186 = .ok (.invokevirtual 124, 3) := by decide +kernel
theorem dX8_readsHeight_189 : decode cX8_readsHeight 189 = .ok (.return_, 1) := by decide +kernel
set_option maxRecDepth 20000 in
theorem ggX8_readsRows_X8_readsHeight : GoodIn wsX8_readsRows wsX8_readsHeight := goodIn_r _ [7, 1, 2, 8, 9, 10, 11, 6, 12, 13, 14, 15, 16, 17, 18, 19, 20, 21, 22, 23, 24, 25, 26, 27, 28, 29, 30, 31, 32, 33, 34, 35, 36, 37, 38, 39, 40, 41, 42, 43, 44, 45, 46, 47, 48, 49, 50, 51, 52, 53, 54, 55, 56, 57, 58, 59, 60, 61, 62, 63, 64, 65, 66] (by decide +kernel) (by decide +kernel)
set_option maxRecDepth 20000 in
theorem gX8_readsRows_X8_readsHeight : GoodIn wsX8_readsRows (wsV RX8 142 RX8 yX8_readsHeight wsX8_readsHeight) := goodIn_app (goodIn_of _ (by decide +kernel)) ggX8_readsRows_X8_readsHeight
theorem dX8_readsRows_0 : decode cX8_readsRows 0 = .ok (.iconst 0, 1) := by decide +kernel
theorem dX8_readsRows_1 : decode cX8_readsRows 1 = .ok (.istore_n 1, 1) := by decide +kernel
theorem dX8_readsRows_2 : decode cX8_readsRows 2 = .ok (.iload_n 1, 1) := by decide +kernel
theorem dX8_readsRows_3 : decode cX8_readsRows 3 = .ok (.aload_n 0, 1) := by decide +kernel
theorem dX8_readsRows_4 : decode cX8_readsRows 4 = .ok (.getfield 26, 3) := by decide +kernel
theorem dX8_readsRows_7 : decode cX8_readsRows 7 = .ok (.iconst 1, 1) := by decide +kernel
theorem dX8_readsRows_8 : decode cX8_readsRows 8 = .ok (.iaload, 1) := by decide +kernel
theorem dX8_readsRows_9 : decode cX8_readsRows 9 = .ok (.aload_n 0, 1) := by decide +kernel
theorem dX8_readsRows_10 : decode cX8_readsRows 10 = .ok (.getfield 26, 3) := by decide +kernel
theorem dX8_readsRows_13 : decode cX8_readsRows 13 = .ok (.iconst 2, 1) := by decide +kernel
theorem dX8_readsRows_14 : decode cX8_readsRows 14 = .ok (.iaload, 1) := by decide +kernel
theorem dX8_readsRows_15 : decode cX8_readsRows 15 = .ok (.imul, 1) := by decide +kernel
theorem dX8_readsRows_16 : decode cX8_readsRows 16 = .ok (.if_icmp .ge 36, 3) := by decide +kernel
theorem dX8_readsRows_19 : decode cX8_readsRows 19 = .ok (.aload_n 0, 1) := by decide +kernel
theorem dX8_readsRows_20 : decode cX8_readsRows 20 = .ok (.getfield 113, 3) := by decide +kernel
theorem dX8_readsRows_23 : decode cX8_readsRows 23 = .ok (.ifCond .ne 29, 3) := by decide +kernel
theorem dX8_readsRows_26 : decode cX8_readsRows 26 = .ok (.aload_n 0, 1) := by decide +kernel
theorem dX8_readsRows_27 : decode cX8_readsRows 27 = .ok (.iload_n 1, 1) := by decide +kernel
theorem dX8_readsRows_28 : decode cX8_readsRows 28 = .ok (.aload_n 0, 1) := by decide +kernel
theorem dX8_readsRows_29 : decode cX8_readsRows 29 = .ok (.getfield 26, 3) := by decide +kernel
theorem dX8_readsRows_32 : decode cX8_readsRows 32 = .ok (.iconst 2, 1) := by decide +kernel
theorem dX8_readsRows_33 : decode cX8_readsRows 33 = .ok (.iaload, 1) := by decide +kernel
theorem dX8_readsRows_34 : decode cX8_readsRows 34 = .ok (.idiv, 1) := by decide +kernel
theorem dX8_readsRows_35 : decode cX8_readsRows 35 = .ok (.iload_n 1, 1) := by decide +kernel
theorem dX8_readsRows_36 : decode cX8_readsRows 36 = .ok (.aload_n 0, 1) := by decide +kernel
theorem dX8_readsRows_37 : decode cX8_readsRows 37 = .ok (.getfield 26, 3) := by decide +kernel
theorem dX8_readsRows_40 : decode cX8_readsRows 40 = .ok (.iconst 2, 1) := by decide +kernel
theorem dX8_readsRows_41 : decode cX8_readsRows 41 = .ok (.iaload, 1) := by decide +kernel
theorem dX8_readsRows_42 : decode cX8_readsRows 42 = .ok (.irem, 1) := by decide +kernel
theorem dX8_readsRows_43 : decode cX8_readsRows 43 = .ok (.invokevirtual 142, 3) := by decide +kernel
theorem dX8_readsRows_46 : decode cX8_readsRows 46 = .ok (.iinc 1 1, 3) := by decide +kernel
theorem dX8_readsRows_49 : decode cX8_readsRows 49 = .ok (.goto (-47), 3) := by decide +kernel
theorem dX8_readsRows_52 : decode cX8_readsRows 52 = .ok (.return_, 1) := by decide +kernel
set_option maxRecDepth 20000 in
theorem ggX8_readsDiagonals_X8_in : GoodIn wsX8_readsDiagonals wsX8_in := goodIn_r _ [6] (by decide +kernel) (by decide +kernel)
set_option maxRecDepth 20000 in
theorem gX8_readsDiagonals_X8_in : GoodIn wsX8_readsDiagonals (va_wsS RX8 82 yX8_in wsX8_in) := goodIn_app (goodIn_of _ (by decide +kernel)) ggX8_readsDiagonals_X8_in
set_option maxRecDepth 20000 in
theorem ggX8_readsDiagonals_X8_readsHeight : GoodIn wsX8_readsDiagonals wsX8_readsHeight := goodIn_r _ [10, 1, 2, 11, 12, 13, 14, 5, 15, 16, 17, 18, 19, 20, 21, 22, 3, 4, 6, 23, 24, 25, 26, 27, 28, 29, 30, 31, 32, 33, 34, 35, 36, 37, 38, 39, 40, 41, 42, 43, 44, 45, 46, 47, 48, 49, 50, 51, 52, 53, 54, 55, 56, 57, 58, 59, 60, 61, 62, 63, 64, 65, 66] (by decide +kernel) (by decide +kernel)
set_option maxRecDepth 20000 in
theorem gX8_readsDiagonals_X8_readsHeight : GoodIn wsX8_readsDiagonals (wsV RX8 142 RX8 yX8_readsHeight wsX8_readsHeight) := goodIn_app (goodIn_of _ (by decide +kernel)) ggX8_readsDiagonals_X8_readsHeight
theorem dX8_readsDiagonals_0 : decode cX8_readsDiagonals 0 = .ok (.iconst 1, 1) := by decide +kernel
theorem dX8_readsDiagonals_1 : decode cX8_readsDiagonals 1 = .ok (.aload_n 0, 1) := by decide +kernel
theorem dX8_readsDiagonals_2 : decode cX8_readsDiagonals 2 = .ok (.getfield 26, 3) := by decide +kernel
theorem dX8_readsDiagonals_5 : decode cX8_readsDiagonals 5 = .ok (.iconst 1, 1) := by decide +kernel
theorem dX8_readsDiagonals_6 : decode cX8_readsDiagonals 6 = .ok (.iaload, 1) := by decide +kernel
theorem dX8_readsDiagonals_7 : decode cX8_readsDiagonals 7 = .ok (.isub, 1) := by decide +kernel
theorem dX8_readsDiagonals_8 : decode cX8_readsDiagonals 8 = .ok (.istore_n 1, 1) := by decide +kernel
theorem dX8_readsDiagonals_9 : decode cX8_readsDiagonals 9 = .ok (.iload_n 1, 1) := by decide +kernel
theorem dX8_readsDiagonals_10 : decode cX8_readsDiagonals 10 = .ok (.aload_n 0, 1) := by decide +kernel
theorem dX8_readsDiagonals_11 : decode cX8_readsDiagonals 11 = .ok (.getfield 26, 3) := by decide +kernel
theorem dX8_readsDiagonals_14 : decode cX8_readsDiagonals 14 = .ok (.iconst 2, 1) := by decide +kernel
theorem dX8_readsDiagonals_15 : decode cX8_readsDiagonals 15 = .ok (.iaload, 1) := by decide +kernel
theorem dX8_readsDiagonals_16 : decode cX8_readsDiagonals 16 = .ok (.if_icmp .ge 60, 3) := by decide +kernel
theorem dX8_readsDiagonals_19 : decode cX8_readsDiagonals 19 = .ok (.iconst 0, 1) := by decide +kernel
theorem dX8_readsDiagonals_20 : decode cX8_readsDiagonals 20 = .ok (.istore_n 2, 1) := by decide +kernel
theorem dX8_readsDiagonals_21 : decode cX8_readsDiagonals 21 = .ok (.iload_n 2, 1) := by decide +kernel
theorem dX8_readsDiagonals_22 : decode cX8_readsDiagonals 22 = .ok (.aload_n 0, 1) := by decide +kernel
theorem dX8_readsDiagonals_23 : decode cX8_readsDiagonals 23 = .ok (.getfield 26, 3) := by decide +kernel
theorem dX8_readsDiagonals_26 : decode cX8_readsDiagonals 26 = .ok (.iconst 1, 1) := by decide +kernel
theorem dX8_readsDiagonals_27 : decode cX8_readsDiagonals 27 = .ok (.iaload, 1) := by decide +kernel
theorem dX8_readsDiagonals_28 : decode cX8_readsDiagonals 28 = .ok (.if_icmp .ge 42, 3) := by decide +kernel
theorem dX8_readsDiagonals_31 : decode cX8_readsDiagonals 31 = .ok (.iload_n 2, 1) := by decide +kernel
theorem dX8_readsDiagonals_32 : decode cX8_readsDiagonals 32 = .ok (.iload_n 1, 1) := by decide +kernel
theorem dX8_readsDiagonals_33 : decode cX8_readsDiagonals 33 = .ok (.iadd, 1) := by decide +kernel
theorem dX8_readsDiagonals_34 : decode cX8_readsDiagonals 34 = .ok (.iconst 0, 1) := by decide +kernel
theorem dX8_readsDiagonals_35 : decode cX8_readsDiagonals 35 = .ok (.aload_n 0, 1) := by decide +kernel
theorem dX8_readsDiagonals_36 : decode cX8_readsDiagonals 36 = .ok (.getfield 26, 3) := by decide +kernel
theorem dX8_readsDiagonals_39 : decode cX8_readsDiagonals 39 = .ok (.iconst 2, 1) := by decide +kernel
theorem dX8_readsDiagonals_40 : decode cX8_readsDiagonals 40 = .ok (.iaload, 1) := by decide +kernel
theorem dX8_readsDiagonals_41 : decode cX8_readsDiagonals 41 = .ok (.iconst 1, 1) := by decide +kernel
theorem dX8_readsDiagonals_42 : decode cX8_readsDiagonals 42 = .ok (.isub, 1) := by decide +kernel
theorem dX8_readsDiagonals_43 : decode cX8_readsDiagonals 43 = .ok (.invokestatic 82, 3) := by decide +kernel
theorem dX8_readsDiagonals_46 : decode cX8_readsDiagonals 46 = .ok (.ifCond .eq 18, 3) := by decide +kernel
theorem dX8_readsDiagonals_49 : decode cX8_readsDiagonals 49 = .ok (.aload_n 0, 1) := by decide +kernel
theorem dX8_readsDiagonals_50 : decode cX8_readsDiagonals 50 = .ok (.getfield 113, 3) := by decide +kernel
theorem dX8_readsDiagonals_53 : decode cX8_readsDiagonals 53 = .ok (.ifCond .ne 11, 3) := by decide +kernel
theorem dX8_readsDiagonals_56 : decode cX8_readsDiagonals 56 = .ok (.aload_n 0, 1) := by decide +kernel
theorem dX8_readsDiagonals_57 : decode cX8_readsDiagonals 57 = .ok (.iload_n 2, 1) := by decide +kernel
theorem dX8_readsDiagonals_58 : decode cX8_readsDiagonals 58 = .ok (.iload_n 2, 1) := by decide +kernel
theorem dX8_readsDiagonals_59 : decode cX8_readsDiagonals 59 = .ok (.iload_n 1, 1) := by decide +kernel
theorem dX8_readsDiagonals_60 : decode cX8_readsDiagonals 60 = .ok (.iadd, 1) := by decide +kernel
theorem dX8_readsDiagonals_61 : decode cX8_readsDiagonals 61 = .ok (.invokevirtual 142, 3) := by decide +kernel
theorem dX8_readsDiagonals_64 : decode cX8_readsDiagonals 64 = .ok (.iinc 2 1, 3) := by decide +kernel
theorem dX8_readsDiagonals_67 : decode cX8_readsDiagonals 67 = .ok (.goto (-46), 3) := by decide +kernel
theorem dX8_readsDiagonals_70 : decode cX8_readsDiagonals 70 = .ok (.iinc 1 1, 3) := by decide +kernel
theorem dX8_readsDiagonals_73 : decode cX8_readsDiagonals 73 = .ok (.goto (-64), 3) := by decide +kernel
theorem dX8_readsDiagonals_76 : decode cX8_readsDiagonals 76 = .ok (.return_, 1) := by decide +kernel
set_option maxRecDepth 20000 in
theorem ggX8_readsWord_X8_here : GoodIn wsX8_readsWord wsX8_here := goodIn_r _ [7, 8, 9, 10, 22, 23, 24, 25, 26, 27, 28, 29, 30, 31, 32, 33, 34, 35, 36, 37, 38, 39, 40, 41, 42, 43, 44, 45, 46, 47, 48, 49, 50] (by decide +kernel) (by decide +kernel)
set_option maxRecDepth 20000 in
theorem gX8_readsWord_X8_here : GoodIn wsX8_readsWord (wsV RX8 116 RX8 yX8_here wsX8_here) := goodIn_app (goodIn_of _ (by decide +kernel)) ggX8_readsWord_X8_here
set_option maxRecDepth 20000 in
theorem ggX8_readsWord_X8_fails : GoodIn wsX8_readsWord wsX8_fails := goodIn_r _ [14, 1, 22, 23, 24, 25, 26, 27, 28, 29, 30, 31, 32, 33, 34, 35, 36, 37, 38, 39, 40, 41, 42, 43, 44, 45, 46, 47, 48, 49, 50] (by decide +kernel) (by decide +kernel)
set_option maxRecDepth 20000 in
theorem gX8_readsWord_X8_fails : GoodIn wsX8_readsWord (wsV RX8 120 RX8 yX8_fails wsX8_fails) := goodIn_app (goodIn_of _ (by decide +kernel)) ggX8_readsWord_X8_fails
set_option maxRecDepth 20000 in
theorem ggX8_readsWord_X8_at : GoodIn wsX8_readsWord wsX8_at := goodIn_r _ [17] (by decide +kernel) (by decide +kernel)
set_option maxRecDepth 20000 in
theorem gX8_readsWord_X8_at : GoodIn wsX8_readsWord (va_wsS RX8 139 yX8_at wsX8_at) := goodIn_app (goodIn_of _ (by decide +kernel)) ggX8_readsWord_X8_at
set_option maxRecDepth 20000 in
theorem ggX8_readsWord_X8_goes : GoodIn wsX8_readsWord wsX8_goes := goodIn_r _ [21, 8, 1, 22, 23, 24, 25, 26, 27, 28, 29, 30, 31, 32, 33, 34, 35, 36, 37, 38, 39, 40, 41, 42, 43, 44, 45, 46, 47, 48, 49, 50] (by decide +kernel) (by decide +kernel)
set_option maxRecDepth 20000 in
theorem gX8_readsWord_X8_goes : GoodIn wsX8_readsWord (wsV RX8 124 RX8 yX8_goes wsX8_goes) := goodIn_app (goodIn_of _ (by decide +kernel)) ggX8_readsWord_X8_goes
theorem dX8_readsWord_0 : decode cX8_readsWord 0 = .ok (.iconst 0, 1) := by decide +kernel
theorem dX8_readsWord_1 : decode cX8_readsWord 1 = .ok (.istore_n 2, 1) := by decide +kernel
theorem dX8_readsWord_2 : decode cX8_readsWord 2 = .ok (.iconst 0, 1) := by decide +kernel
theorem dX8_readsWord_3 : decode cX8_readsWord 3 = .ok (.istore_n 3, 1) := by decide +kernel
theorem dX8_readsWord_4 : decode cX8_readsWord 4 = .ok (.aload_n 0, 1) := by decide +kernel
theorem dX8_readsWord_5 : decode cX8_readsWord 5 = .ok (.getfield 113, 3) := by decide +kernel
theorem dX8_readsWord_8 : decode cX8_readsWord 8 = .ok (.ifCond .ne 126, 3) := by decide +kernel
theorem dX8_readsWord_11 : decode cX8_readsWord 11 = .ok (.aload_n 0, 1) := by decide +kernel
theorem dX8_readsWord_12 : decode cX8_readsWord 12 = .ok (.invokevirtual 116, 3) := by decide +kernel
theorem dX8_readsWord_15 : decode cX8_readsWord 15 = .ok (.bipush 101, 2) := by decide +kernel
theorem dX8_readsWord_17 : decode cX8_readsWord 17 = .ok (.if_icmp .eq 12, 3) := by decide +kernel
theorem dX8_readsWord_20 : decode cX8_readsWord 20 = .ok (.aload_n 0, 1) := by decide +kernel
theorem dX8_readsWord_21 : decode cX8_readsWord 21 = .ok (.invokevirtual 116, 3) := by decide +kernel
theorem dX8_readsWord_24 : decode cX8_readsWord 24 = .ok (.bipush 110, 2) := by decide +kernel
theorem dX8_readsWord_26 : decode cX8_readsWord 26 = .ok (.if_icmp .ne 108, 3) := by decide +kernel
theorem dX8_readsWord_29 : decode cX8_readsWord 29 = .ok (.aload_n 0, 1) := by decide +kernel
theorem dX8_readsWord_30 : decode cX8_readsWord 30 = .ok (.invokevirtual 116, 3) := by decide +kernel
theorem dX8_readsWord_33 : decode cX8_readsWord 33 = .ok (.bipush 110, 2) := by decide +kernel
theorem dX8_readsWord_35 : decode cX8_readsWord 35 = .ok (.if_icmp .ne 24, 3) := by decide +kernel
theorem dX8_readsWord_38 : decode cX8_readsWord 38 = .ok (.iinc 3 1, 3) := by decide +kernel
theorem dX8_readsWord_41 : decode cX8_readsWord 41 = .ok (.iload_n 3, 1) := by decide +kernel
theorem dX8_readsWord_42 : decode cX8_readsWord 42 = .ok (.aload_n 0, 1) := by decide +kernel
theorem dX8_readsWord_43 : decode cX8_readsWord 43 = .ok (.getfield 26, 3) := by decide +kernel
theorem dX8_readsWord_46 : decode cX8_readsWord 46 = .ok (.iconst 3, 1) := by decide +kernel
theorem dX8_readsWord_47 : decode cX8_readsWord 47 = .ok (.iaload, 1) := by decide +kernel
theorem dX8_readsWord_48 : decode cX8_readsWord 48 = .ok (.if_icmp .le 79, 3) := by decide +kernel
theorem dX8_readsWord_51 : decode cX8_readsWord 51 = .ok (.aload_n 0, 1) := by decide +kernel
theorem dX8_readsWord_52 : decode cX8_readsWord 52 = .ok (.iconst 2, 1) := by decide +kernel
theorem dX8_readsWord_53 : decode cX8_readsWord 53 = .ok (.invokevirtual 120, 3) := by decide +kernel
theorem dX8_readsWord_56 : decode cX8_readsWord 56 = .ok (.goto 71, 3) := by decide +kernel
theorem dX8_readsWord_59 : decode cX8_readsWord 59 = .ok (.iinc 2 1, 3) := by decide +kernel
theorem dX8_readsWord_62 : decode cX8_readsWord 62 = .ok (.aload_n 0, 1) := by decide +kernel
theorem dX8_readsWord_63 : decode cX8_readsWord 63 = .ok (.getfield 26, 3) := by decide +kernel
theorem dX8_readsWord_66 : decode cX8_readsWord 66 = .ok (.iconst 3, 1) := by decide +kernel
theorem dX8_readsWord_67 : decode cX8_readsWord 67 = .ok (.iaload, 1) := by decide +kernel
theorem dX8_readsWord_68 : decode cX8_readsWord 68 = .ok (.iload_n 3, 1) := by decide +kernel
theorem dX8_readsWord_69 : decode cX8_readsWord 69 = .ok (.isub, 1) := by decide +kernel
theorem dX8_readsWord_70 : decode cX8_readsWord 70 = .ok (.istore 4, 2) := by decide +kernel
theorem dX8_readsWord_72 : decode cX8_readsWord 72 = .ok (.iload_n 2, 1) := by decide +kernel
theorem dX8_readsWord_73 : decode cX8_readsWord 73 = .ok (.aload_n 0, 1) := by decide +kernel
theorem dX8_readsWord_74 : decode cX8_readsWord 74 = .ok (.getfield 26, 3) := by decide +kernel
theorem dX8_readsWord_77 : decode cX8_readsWord 77 = .ok (.iconst 2, 1) := by decide +kernel
theorem dX8_readsWord_78 : decode cX8_readsWord 78 = .ok (.iaload, 1) := by decide +kernel
theorem dX8_readsWord_79 : decode cX8_readsWord 79 = .ok (.if_icmp .gt 26, 3) := by decide +kernel
theorem dX8_readsWord_82 : decode cX8_readsWord 82 = .ok (.iload_n 1, 1) := by decide +kernel
theorem dX8_readsWord_83 : decode cX8_readsWord 83 = .ok (.ifCond .le 30, 3) := by decide +kernel
theorem dX8_readsWord_86 : decode cX8_readsWord 86 = .ok (.iload 4, 2) := by decide +kernel
theorem dX8_readsWord_88 : decode cX8_readsWord 88 = .ok (.aload_n 0, 1) := by decide +kernel
theorem dX8_readsWord_89 : decode cX8_readsWord 89 = .ok (.getfield 26, 3) := by decide +kernel
theorem dX8_readsWord_92 : decode cX8_readsWord 92 = .ok (.iload_n 1, 1) := by decide +kernel
theorem dX8_readsWord_93 : decode cX8_readsWord 93 = .ok (.iconst 1, 1) := by decide +kernel
theorem dX8_readsWord_94 : decode cX8_readsWord 94 = .ok (.isub, 1) := by decide +kernel
theorem dX8_readsWord_95 : decode cX8_readsWord 95 = .ok (.iload_n 2, 1) := by decide +kernel
theorem dX8_readsWord_96 : decode cX8_readsWord 96 = .ok (.iconst 1, 1) := by decide +kernel
theorem dX8_readsWord_97 : decode cX8_readsWord 97 = .ok (.isub, 1) := by decide +kernel
theorem dX8_readsWord_98 : decode cX8_readsWord 98 = .ok (.invokestatic 139, 3) := by decide +kernel
theorem dX8_readsWord_101 : decode cX8_readsWord 101 = .ok (.iaload, 1) := by decide +kernel
theorem dX8_readsWord_102 : decode cX8_readsWord 102 = .ok (.if_icmp .le 11, 3) := by decide +kernel
theorem dX8_readsWord_105 : decode cX8_readsWord 105 = .ok (.aload_n 0, 1) := by decide +kernel
theorem dX8_readsWord_106 : decode cX8_readsWord 106 = .ok (.iconst 2, 1) := by decide +kernel
theorem dX8_readsWord_107 : decode cX8_readsWord 107 = .ok (.invokevirtual 120, 3) := by decide +kernel
theorem dX8_readsWord_110 : decode cX8_readsWord 110 = .ok (.goto 17, 3) := by decide +kernel
theorem dX8_readsWord_113 : decode cX8_readsWord 113 = .ok (.aload_n 0, 1) := by decide +kernel
theorem dX8_readsWord_114 : decode cX8_readsWord 114 = .ok (.getfield 26, 3) := by decide +kernel
theorem dX8_readsWord_117 : decode cX8_readsWord 117 = .ok (.iload_n 1, 1) := by decide +kernel
theorem dX8_readsWord_118 : decode cX8_readsWord 118 = .ok (.iload_n 2, 1) := by decide +kernel
theorem dX8_readsWord_119 : decode cX8_readsWord 119 = .ok (.iconst 1, 1) := by decide +kernel
theorem dX8_readsWord_120 : decode cX8_readsWord 120 = .ok (.isub, 1) := by decide +kernel
theorem dX8_readsWord_121 : decode cX8_readsWord 121 = .ok (.invokestatic 139, 3) := by decide +kernel
theorem dX8_readsWord_124 : decode cX8_readsWord 124 = .ok (.iload 4, 2) := by decide +kernel
theorem dX8_readsWord_126 : decode cX8_readsWord 126 = .ok (.iastore, 1) := by decide +kernel
theorem dX8_readsWord_127 : decode cX8_readsWord 127 = .ok (.aload_n 0, 1) := by decide +kernel
theorem dX8_readsWord_128 : decode cX8_readsWord 128 = .ok (.invokevirtual 124, 3) := by decide +kernel
theorem dX8_readsWord_131 : decode cX8_readsWord 131 = .ok (.goto (-127), 3) := by decide +kernel
theorem dX8_readsWord_134 : decode cX8_readsWord 134 = .ok (.iload_n 2, 1) := by decide +kernel
theorem dX8_readsWord_135 : decode cX8_readsWord 135 = .ok (.aload_n 0, 1) := by decide +kernel
theorem dX8_readsWord_136 : decode cX8_readsWord 136 = .ok (.getfield 26, 3) := by decide +kernel
theorem dX8_readsWord_139 : decode cX8_readsWord 139 = .ok (.iconst 2, 1) := by decide +kernel
theorem dX8_readsWord_140 : decode cX8_readsWord 140 = .ok (.iaload, 1) := by decide +kernel
theorem dX8_readsWord_141 : decode cX8_readsWord 141 = .ok (.if_icmp .lt 13, 3) := by decide +kernel
theorem dX8_readsWord_144 : decode cX8_readsWord 144 = .ok (.iload_n 3, 1) := by decide +kernel
theorem dX8_readsWord_145 : decode cX8_readsWord 145 = .ok (.aload_n 0, 1) := by decide +kernel
theorem dX8_readsWord_146 : decode cX8_readsWord 146 = .ok (.getfield 26, 3) := by decide +kernel
theorem dX8_readsWord_149 : decode cX8_readsWord 149 = .ok (.iconst 3, 1) := by decide +kernel
theorem dX8_readsWord_150 : decode cX8_readsWord 150 = .ok (.iaload, 1) := by decide +kernel
theorem dX8_readsWord_151 : decode cX8_readsWord 151 = .ok (.if_icmp .ge 8, 3) := by decide +kernel
theorem dX8_readsWord_154 : decode cX8_readsWord 154 = .ok (.aload_n 0, 1) := by decide +kernel
theorem dX8_readsWord_155 : decode cX8_readsWord 155 = .ok (.iconst 1, 1) := by decide +kernel
theorem dX8_readsWord_156 : decode cX8_readsWord 156 = .ok (.invokevirtual 120, 3) := by decide +kernel
theorem dX8_readsWord_159 : decode cX8_readsWord 159 = .ok (.return_, 1) := by decide +kernel
set_option maxRecDepth 20000 in
theorem ggX8_readsWords_X8_takes : GoodIn wsX8_readsWords wsX8_takes := goodIn_r _ [7, 8, 9, 10, 6, 11, 12, 13, 14, 15, 16, 17, 18, 2, 19, 20, 21, 22, 30, 31, 32, 33, 34, 35, 36, 37, 38, 39, 40, 41, 42, 43, 44, 45, 46, 47, 48, 49, 50, 51, 52, 53, 54, 55, 56, 57, 58] (by decide +kernel) (by decide +kernel)
set_option maxRecDepth 20000 in
theorem gX8_readsWords_X8_takes : GoodIn wsX8_readsWords (wsV RX8 146 RX8 yX8_takes wsX8_takes) := goodIn_app (goodIn_of _ (by decide +kernel)) ggX8_readsWords_X8_takes
set_option maxRecDepth 20000 in
theorem ggX8_readsWords_X8_readsWord : GoodIn wsX8_readsWords wsX8_readsWord := goodIn_r _ [26, 2, 1, 8, 9, 10, 6, 11, 12, 13, 14, 15, 16, 17, 18, 27, 28, 29, 19, 20, 21, 22, 30, 31, 32, 33, 34, 35, 36, 37, 38, 39, 40, 41, 42, 43, 44, 45, 46, 47, 48, 49, 50, 51, 52, 53, 54, 55, 56, 57, 58] (by decide +kernel) (by decide +kernel)
set_option maxRecDepth 20000 in
theorem gX8_readsWords_X8_readsWord : GoodIn wsX8_readsWords (wsV RX8 149 RX8 yX8_readsWord wsX8_readsWord) := goodIn_app (goodIn_of _ (by decide +kernel)) ggX8_readsWords_X8_readsWord
theorem dX8_readsWords_0 : decode cX8_readsWords 0 = .ok (.iconst 0, 1) := by decide +kernel
theorem dX8_readsWords_1 : decode cX8_readsWords 1 = .ok (.istore_n 1, 1) := by decide +kernel
theorem dX8_readsWords_2 : decode cX8_readsWords 2 = .ok (.iload_n 1, 1) := by decide +kernel
theorem dX8_readsWords_3 : decode cX8_readsWords 3 = .ok (.aload_n 0, 1) := by decide +kernel
theorem dX8_readsWords_4 : decode cX8_readsWords 4 = .ok (.getfield 26, 3) := by decide +kernel
theorem dX8_readsWords_7 : decode cX8_readsWords 7 = .ok (.iconst 1, 1) := by decide +kernel
theorem dX8_readsWords_8 : decode cX8_readsWords 8 = .ok (.iaload, 1) := by decide +kernel
theorem dX8_readsWords_9 : decode cX8_readsWords 9 = .ok (.if_icmp .ge 38, 3) := by decide +kernel
theorem dX8_readsWords_12 : decode cX8_readsWords 12 = .ok (.aload_n 0, 1) := by decide +kernel
theorem dX8_readsWords_13 : decode cX8_readsWords 13 = .ok (.getfield 113, 3) := by decide +kernel
theorem dX8_readsWords_16 : decode cX8_readsWords 16 = .ok (.ifCond .ne 31, 3) := by decide +kernel
theorem dX8_readsWords_19 : decode cX8_readsWords 19 = .ok (.iload_n 1, 1) := by decide +kernel
theorem dX8_readsWords_20 : decode cX8_readsWords 20 = .ok (.ifCond .le 9, 3) := by decide +kernel
theorem dX8_readsWords_23 : decode cX8_readsWords 23 = .ok (.aload_n 0, 1) := by decide +kernel
theorem dX8_readsWords_24 : decode cX8_readsWords 24 = .ok (.bipush 44, 2) := by decide +kernel
theorem dX8_readsWords_26 : decode cX8_readsWords 26 = .ok (.invokevirtual 146, 3) := by decide +kernel
theorem dX8_readsWords_29 : decode cX8_readsWords 29 = .ok (.aload_n 0, 1) := by decide +kernel
theorem dX8_readsWords_30 : decode cX8_readsWords 30 = .ok (.getfield 113, 3) := by decide +kernel
theorem dX8_readsWords_33 : decode cX8_readsWords 33 = .ok (.ifCond .ne 8, 3) := by decide +kernel
theorem dX8_readsWords_36 : decode cX8_readsWords 36 = .ok (.aload_n 0, 1) := by decide +kernel
theorem dX8_readsWords_37 : decode cX8_readsWords 37 = .ok (.iload_n 1, 1) := by decide +kernel
theorem dX8_readsWords_38 : decode cX8_readsWords 38 = .ok (.invokevirtual 149, 3) := by decide +kernel
theorem dX8_readsWords_41 : decode cX8_readsWords 41 = .ok (.iinc 1 1, 3) := by decide +kernel
theorem dX8_readsWords_44 : decode cX8_readsWords 44 = .ok (.goto (-42), 3) := by decide +kernel
theorem dX8_readsWords_47 : decode cX8_readsWords 47 = .ok (.return_, 1) := by decide +kernel
set_option maxRecDepth 20000 in
theorem ggX8_readsAll_X8_takes : GoodIn wsX8_readsAll wsX8_takes := goodIn_r _ [9, 10, 11, 12, 8, 13, 1, 4, 14, 15, 16, 17, 18, 2, 19, 20, 21, 22, 65, 66, 67, 68, 69, 70, 71, 72, 73, 74, 75, 76, 77, 78, 79, 80, 81, 82, 83, 84, 85, 86, 87, 88, 89, 90, 91, 92, 93] (by decide +kernel) (by decide +kernel)
set_option maxRecDepth 20000 in
theorem gX8_readsAll_X8_takes : GoodIn wsX8_readsAll (wsV RX8 146 RX8 yX8_takes wsX8_takes) := goodIn_app (goodIn_of _ (by decide +kernel)) ggX8_readsAll_X8_takes
set_option maxRecDepth 20000 in
theorem ggX8_readsAll_X8_readsBox : GoodIn wsX8_readsAll wsX8_readsBox := goodIn_r _ [26, 27, 2, 28, 29, 8, 30, 31, 32, 33, 34, 10, 11, 12, 13, 1, 4, 14, 35, 36, 37, 15, 16, 17, 18, 19, 20, 21, 22, 65, 66, 67, 68, 69, 70, 71, 72, 73, 74, 75, 76, 77, 78, 79, 80, 81, 82, 83, 84, 85, 86, 87, 88, 89, 90, 91, 92, 93] (by decide +kernel) (by decide +kernel)
set_option maxRecDepth 20000 in
theorem gX8_readsAll_X8_readsBox : GoodIn wsX8_readsAll (wsV RX8 152 RX8 yX8_readsBox wsX8_readsBox) := goodIn_app (goodIn_of _ (by decide +kernel)) ggX8_readsAll_X8_readsBox
set_option maxRecDepth 20000 in
theorem ggX8_readsAll_X8_here : GoodIn wsX8_readsAll wsX8_here := goodIn_r _ [13, 1, 4, 14, 65, 66, 67, 68, 69, 70, 71, 72, 73, 74, 75, 76, 77, 78, 79, 80, 81, 82, 83, 84, 85, 86, 87, 88, 89, 90, 91, 92, 93] (by decide +kernel) (by decide +kernel)
set_option maxRecDepth 20000 in
theorem gX8_readsAll_X8_here : GoodIn wsX8_readsAll (wsV RX8 116 RX8 yX8_here wsX8_here) := goodIn_app (goodIn_of _ (by decide +kernel)) ggX8_readsAll_X8_here
set_option maxRecDepth 20000 in
theorem ggX8_readsAll_X8_fails : GoodIn wsX8_readsAll wsX8_fails := goodIn_r _ [18, 2, 65, 66, 67, 68, 69, 70, 71, 72, 73, 74, 75, 76, 77, 78, 79, 80, 81, 82, 83, 84, 85, 86, 87, 88, 89, 90, 91, 92, 93] (by decide +kernel) (by decide +kernel)
set_option maxRecDepth 20000 in
theorem gX8_readsAll_X8_fails : GoodIn wsX8_readsAll (wsV RX8 120 RX8 yX8_fails wsX8_fails) := goodIn_app (goodIn_of _ (by decide +kernel)) ggX8_readsAll_X8_fails
set_option maxRecDepth 20000 in
theorem ggX8_readsAll_X8_goes : GoodIn wsX8_readsAll wsX8_goes := goodIn_r _ [22, 1, 2, 65, 66, 67, 68, 69, 70, 71, 72, 73, 74, 75, 76, 77, 78, 79, 80, 81, 82, 83, 84, 85, 86, 87, 88, 89, 90, 91, 92, 93] (by decide +kernel) (by decide +kernel)
set_option maxRecDepth 20000 in
theorem gX8_readsAll_X8_goes : GoodIn wsX8_readsAll (wsV RX8 124 RX8 yX8_goes wsX8_goes) := goodIn_app (goodIn_of _ (by decide +kernel)) ggX8_readsAll_X8_goes
set_option maxRecDepth 20000 in
theorem ggX8_readsAll_X8_readsRows : GoodIn wsX8_readsAll wsX8_readsRows := goodIn_r _ [41, 27, 2, 42, 43, 44, 8, 45, 3, 31, 32, 33, 34, 10, 11, 12, 13, 1, 4, 14, 35, 36, 37, 15, 16, 17, 18, 46, 47, 48, 49, 50, 51, 52, 19, 20, 21, 22, 65, 66, 67, 68, 69, 70, 71, 72, 73, 74, 75, 76, 77, 78, 79, 80, 81, 82, 83, 84, 85, 86, 87, 88, 89, 90, 91, 92, 93] (by decide +kernel) (by decide +kernel)
set_option maxRecDepth 20000 in
theorem gX8_readsAll_X8_readsRows : GoodIn wsX8_readsAll (wsV RX8 155 RX8 yX8_readsRows wsX8_readsRows) := goodIn_app (goodIn_of _ (by decide +kernel)) ggX8_readsAll_X8_readsRows
set_option maxRecDepth 20000 in
theorem ggX8_readsAll_X8_readsWords : GoodIn wsX8_readsAll wsX8_readsWords := goodIn_r _ [56, 27, 2, 5, 6, 7, 8, 9, 10, 11, 12, 13, 1, 4, 14, 15, 16, 17, 18, 19, 20, 21, 22, 57, 58, 59, 60, 50, 51, 52, 65, 66, 67, 68, 69, 70, 71, 72, 73, 74, 75, 76, 77, 78, 79, 80, 81, 82, 83, 84, 85, 86, 87, 88, 89, 90, 91, 92, 93] (by decide +kernel) (by decide +kernel)
set_option maxRecDepth 20000 in
theorem gX8_readsAll_X8_readsWords : GoodIn wsX8_readsAll (wsV RX8 158 RX8 yX8_readsWords wsX8_readsWords) := goodIn_app (goodIn_of _ (by decide +kernel)) ggX8_readsAll_X8_readsWords
set_option maxRecDepth 20000 in
theorem ggX8_readsAll_X8_readsDiagonals : GoodIn wsX8_readsAll wsX8_readsDiagonals := goodIn_r _ [64, 27, 2, 35, 36, 8, 37, 42, 43, 44, 45, 3, 31, 32, 33, 34, 10, 11, 12, 13, 1, 4, 14, 15, 16, 17, 18, 46, 47, 48, 49, 50, 51, 52, 19, 20, 21, 22, 65, 66, 67, 68, 69, 70, 71, 72, 73, 74, 75, 76, 77, 78, 79, 80, 81, 82, 83, 84, 85, 86, 87, 88, 89, 90, 91, 92, 93] (by decide +kernel) (by decide +kernel)
set_option maxRecDepth 20000 in
theorem gX8_readsAll_X8_readsDiagonals : GoodIn wsX8_readsAll (wsV RX8 161 RX8 yX8_readsDiagonals wsX8_readsDiagonals) := goodIn_app (goodIn_of _ (by decide +kernel)) ggX8_readsAll_X8_readsDiagonals
theorem dX8_readsAll_0 : decode cX8_readsAll 0 = .ok (.aload_n 0, 1) := by decide +kernel
theorem dX8_readsAll_1 : decode cX8_readsAll 1 = .ok (.iconst 0, 1) := by decide +kernel
theorem dX8_readsAll_2 : decode cX8_readsAll 2 = .ok (.putfield 110, 3) := by decide +kernel
theorem dX8_readsAll_5 : decode cX8_readsAll 5 = .ok (.aload_n 0, 1) := by decide +kernel
theorem dX8_readsAll_6 : decode cX8_readsAll 6 = .ok (.iconst 0, 1) := by decide +kernel
theorem dX8_readsAll_7 : decode cX8_readsAll 7 = .ok (.putfield 113, 3) := by decide +kernel
theorem dX8_readsAll_10 : decode cX8_readsAll 10 = .ok (.iconst 0, 1) := by decide +kernel
theorem dX8_readsAll_11 : decode cX8_readsAll 11 = .ok (.istore_n 1, 1) := by decide +kernel
theorem dX8_readsAll_12 : decode cX8_readsAll 12 = .ok (.iload_n 1, 1) := by decide +kernel
theorem dX8_readsAll_13 : decode cX8_readsAll 13 = .ok (.bipush 16, 2) := by decide +kernel
theorem dX8_readsAll_15 : decode cX8_readsAll 15 = .ok (.if_icmp .ge 16, 3) := by decide +kernel
theorem dX8_readsAll_18 : decode cX8_readsAll 18 = .ok (.aload_n 0, 1) := by decide +kernel
theorem dX8_readsAll_19 : decode cX8_readsAll 19 = .ok (.getfield 32, 3) := by decide +kernel
theorem dX8_readsAll_22 : decode cX8_readsAll 22 = .ok (.iload_n 1, 1) := by decide +kernel
theorem dX8_readsAll_23 : decode cX8_readsAll 23 = .ok (.iconst 0, 1) := by decide +kernel
theorem dX8_readsAll_24 : decode cX8_readsAll 24 = .ok (.bastore, 1) := by decide +kernel
theorem dX8_readsAll_25 : decode cX8_readsAll 25 = .ok (.iinc 1 1, 3) := by decide +kernel
theorem dX8_readsAll_28 : decode cX8_readsAll 28 = .ok (.goto (-16), 3) := by decide +kernel
theorem dX8_readsAll_31 : decode cX8_readsAll 31 = .ok (.aload_n 0, 1) := by decide +kernel
theorem dX8_readsAll_32 : decode cX8_readsAll 32 = .ok (.bipush 120, 2) := by decide +kernel
theorem dX8_readsAll_34 : decode cX8_readsAll 34 = .ok (.invokevirtual 146, 3) := by decide +kernel
theorem dX8_readsAll_37 : decode cX8_readsAll 37 = .ok (.aload_n 0, 1) := by decide +kernel
theorem dX8_readsAll_38 : decode cX8_readsAll 38 = .ok (.invokevirtual 152, 3) := by decide +kernel
theorem dX8_readsAll_41 : decode cX8_readsAll 41 = .ok (.aload_n 0, 1) := by decide +kernel
theorem dX8_readsAll_42 : decode cX8_readsAll 42 = .ok (.invokevirtual 116, 3) := by decide +kernel
theorem dX8_readsAll_45 : decode cX8_readsAll 45 = .ok (.istore_n 1, 1) := by decide +kernel
theorem dX8_readsAll_46 : decode cX8_readsAll 46 = .ok (.iload_n 1, 1) := by decide +kernel
theorem dX8_readsAll_47 : decode cX8_readsAll 47 = .ok (.bipush 114, 2) := by decide +kernel
theorem dX8_readsAll_49 : decode cX8_readsAll 49 = .ok (.if_icmp .eq 20, 3) := by decide +kernel
theorem dX8_readsAll_52 : decode cX8_readsAll 52 = .ok (.iload_n 1, 1) := by decide +kernel
theorem dX8_readsAll_53 : decode cX8_readsAll 53 = .ok (.bipush 112, 2) := by decide +kernel
theorem dX8_readsAll_55 : decode cX8_readsAll 55 = .ok (.if_icmp .eq 14, 3) := by decide +kernel
theorem dX8_readsAll_58 : decode cX8_readsAll 58 = .ok (.iload_n 1, 1) := by decide +kernel
theorem dX8_readsAll_59 : decode cX8_readsAll 59 = .ok (.bipush 100, 2) := by decide +kernel
theorem dX8_readsAll_61 : decode cX8_readsAll 61 = .ok (.if_icmp .eq 8, 3) := by decide +kernel
theorem dX8_readsAll_64 : decode cX8_readsAll 64 = .ok (.aload_n 0, 1) := by decide +kernel
theorem dX8_readsAll_65 : decode cX8_readsAll 65 = .ok (.iconst 1, 1) := by decide +kernel
theorem dX8_readsAll_66 : decode cX8_readsAll 66 = .ok (.invokevirtual 120, 3) := by decide +kernel
theorem dX8_readsAll_69 : decode cX8_readsAll 69 = .ok (.aload_n 0, 1) := by decide +kernel
theorem dX8_readsAll_70 : decode cX8_readsAll 70 = .ok (.invokevirtual 124, 3) := by decide +kernel
theorem dX8_readsAll_73 : decode cX8_readsAll 73 = .ok (.aload_n 0, 1) := by decide +kernel
theorem dX8_readsAll_74 : decode cX8_readsAll 74 = .ok (.getfield 113, 3) := by decide +kernel
theorem dX8_readsAll_77 : decode cX8_readsAll 77 = .ok (.ifCond .ne 16, 3) := by decide +kernel
theorem dX8_readsAll_80 : decode cX8_readsAll 80 = .ok (.iload_n 1, 1) := by decide +kernel
theorem dX8_readsAll_81 : decode cX8_readsAll 81 = .ok (.bipush 114, 2) := by decide +kernel
theorem dX8_readsAll_83 : decode cX8_readsAll 83 = .ok (.if_icmp .ne 10, 3) := by decide +kernel
theorem dX8_readsAll_86 : decode cX8_readsAll 86 = .ok (.aload_n 0, 1) := by decide +kernel
theorem dX8_readsAll_87 : decode cX8_readsAll 87 = .ok (.invokevirtual 155, 3) := by decide +kernel
theorem dX8_readsAll_90 : decode cX8_readsAll 90 = .ok (.goto 34, 3) := by decide +kernel
theorem dX8_readsAll_93 : decode cX8_readsAll 93 = .ok (.aload_n 0, 1) := by decide +kernel
theorem dX8_readsAll_94 : decode cX8_readsAll 94 = .ok (.getfield 113, 3) := by decide +kernel
theorem dX8_readsAll_97 : decode cX8_readsAll 97 = .ok (.ifCond .ne 16, 3) := by decide +kernel
theorem dX8_readsAll_100 : decode cX8_readsAll 100 = .ok (.iload_n 1, 1) := by decide +kernel
theorem dX8_readsAll_101 : decode cX8_readsAll 101 = .ok (.bipush 112, 2) := by decide +kernel
theorem dX8_readsAll_103 : decode cX8_readsAll 103 = .ok (.if_icmp .ne 10, 3) := by decide +kernel
theorem dX8_readsAll_106 : decode cX8_readsAll 106 = .ok (.aload_n 0, 1) := by decide +kernel
theorem dX8_readsAll_107 : decode cX8_readsAll 107 = .ok (.invokevirtual 158, 3) := by decide +kernel
theorem dX8_readsAll_110 : decode cX8_readsAll 110 = .ok (.goto 14, 3) := by decide +kernel
theorem dX8_readsAll_113 : decode cX8_readsAll 113 = .ok (.aload_n 0, 1) := by decide +kernel
theorem dX8_readsAll_114 : decode cX8_readsAll 114 = .ok (.getfield 113, 3) := by decide +kernel
theorem dX8_readsAll_117 : decode cX8_readsAll 117 = .ok (.ifCond .ne 7, 3) := by decide +kernel
theorem dX8_readsAll_120 : decode cX8_readsAll 120 = .ok (.aload_n 0, 1) := by decide +kernel
theorem dX8_readsAll_121 : decode cX8_readsAll 121 = .ok (.invokevirtual 161, 3) := by decide +kernel
theorem dX8_readsAll_124 : decode cX8_readsAll 124 = .ok (.aload_n 0, 1) := by decide +kernel
theorem dX8_readsAll_125 : decode cX8_readsAll 125 = .ok (.bipush 59, 2) := by decide +kernel
theorem dX8_readsAll_127 : decode cX8_readsAll 127 = .ok (.invokevirtual 146, 3) := by decide +kernel
theorem dX8_readsAll_130 : decode cX8_readsAll 130 = .ok (.aload_n 0, 1) := by decide +kernel
theorem dX8_readsAll_131 : decode cX8_readsAll 131 = .ok (.getfield 113, 3) := by decide +kernel
theorem dX8_readsAll_134 : decode cX8_readsAll 134 = .ok (.ifCond .ne 19, 3) := by decide +kernel
theorem dX8_readsAll_137 : decode cX8_readsAll 137 = .ok (.aload_n 0, 1) := by decide +kernel
theorem dX8_readsAll_138 : decode cX8_readsAll 138 = .ok (.getfield 110, 3) := by decide +kernel
theorem dX8_readsAll_141 : decode cX8_readsAll 141 = .ok (.aload_n 0, 1) := by decide +kernel
theorem dX8_readsAll_142 : decode cX8_readsAll 142 = .ok (.getfield 106, 3) := by decide +kernel
theorem dX8_readsAll_145 : decode cX8_readsAll 145 = .ok (.if_icmp .ge 8, 3) := by decide +kernel
theorem dX8_readsAll_148 : decode cX8_readsAll 148 = .ok (.aload_n 0, 1) := by decide +kernel
theorem dX8_readsAll_149 : decode cX8_readsAll 149 = .ok (.iconst 1, 1) := by decide +kernel
theorem dX8_readsAll_150 : decode cX8_readsAll 150 = .ok (.invokevirtual 120, 3) := by decide +kernel
theorem dX8_readsAll_153 : decode cX8_readsAll 153 = .ok (.return_, 1) := by decide +kernel
set_option maxRecDepth 20000 in
theorem ggX8_heap_X8_isPlace : GoodIn wsX8_heap wsX8_isPlace := goodIn_r _ [10, 11, 12, 9, 13] (by decide +kernel) (by decide +kernel)
set_option maxRecDepth 20000 in
theorem gX8_heap_X8_isPlace : GoodIn wsX8_heap (va_wsS RX8 86 yX8_isPlace wsX8_isPlace) := goodIn_app (goodIn_of _ (by decide +kernel)) ggX8_heap_X8_isPlace
set_option maxRecDepth 20000 in
theorem ggX8_heap_X8_readsAll : GoodIn wsX8_heap wsX8_readsAll := goodIn_r _ [17, 6, 3, 18, 2, 19, 20, 21, 9, 22, 23, 24, 25, 26, 27, 28, 29, 30, 31, 32, 33, 34, 35, 36, 37, 38, 39, 40, 41, 42, 43, 44, 45, 46, 47, 11, 12, 13, 48, 49, 50, 51, 52, 53, 54, 55, 56, 57, 58, 59, 60, 61, 62, 63, 64, 65, 66, 67, 68, 69, 70, 71, 72, 73, 74, 92, 93, 94, 95, 96, 97, 98, 99, 100, 101, 102, 103, 104, 105, 106, 107, 108, 109, 110, 111, 112, 113, 114, 115, 116, 117, 118, 119, 120] (by decide +kernel) (by decide +kernel)
set_option maxRecDepth 20000 in
theorem gX8_heap_X8_readsAll : GoodIn wsX8_heap (wsV RX8 164 RX8 yX8_readsAll wsX8_readsAll) := goodIn_app (goodIn_of _ (by decide +kernel)) ggX8_heap_X8_readsAll
set_option maxRecDepth 20000 in
theorem ggX8_heap_X8_comes : GoodIn wsX8_heap wsX8_comes := goodIn_r _ [78, 40, 79, 80, 81, 82, 9, 83, 84, 85, 86, 87, 88, 89, 90, 91, 92, 93, 94, 95, 96, 97, 98, 99, 100, 101, 102, 103, 104, 105, 106, 107, 108, 109, 110, 111, 112, 113, 114, 115, 116, 117, 118, 119, 120] (by decide +kernel) (by decide +kernel)
set_option maxRecDepth 20000 in
theorem gX8_heap_X8_comes : GoodIn wsX8_heap (wsV RX8 168 RX8 yX8_comes wsX8_comes) := goodIn_app (goodIn_of _ (by decide +kernel)) ggX8_heap_X8_comes
theorem dX8_heap_0 : decode cX8_heap 0 = .ok (.iload_n 1, 1) := by decide +kernel
theorem dX8_heap_1 : decode cX8_heap 1 = .ok (.invokestatic 86, 3) := by decide +kernel
theorem dX8_heap_4 : decode cX8_heap 4 = .ok (.ifCond .ne 6, 3) := by decide +kernel
theorem dX8_heap_7 : decode cX8_heap 7 = .ok (.ldc 105, 2) := by decide +kernel
theorem dX8_heap_9 : decode cX8_heap 9 = .ok (.ireturn, 1) := by decide +kernel
theorem dX8_heap_10 : decode cX8_heap 10 = .ok (.aload_n 0, 1) := by decide +kernel
theorem dX8_heap_11 : decode cX8_heap 11 = .ok (.invokevirtual 164, 3) := by decide +kernel
theorem dX8_heap_14 : decode cX8_heap 14 = .ok (.aload_n 0, 1) := by decide +kernel
theorem dX8_heap_15 : decode cX8_heap 15 = .ok (.iconst 0, 1) := by decide +kernel
theorem dX8_heap_16 : decode cX8_heap 16 = .ok (.putfield 106, 3) := by decide +kernel
theorem dX8_heap_19 : decode cX8_heap 19 = .ok (.aload_n 0, 1) := by decide +kernel
theorem dX8_heap_20 : decode cX8_heap 20 = .ok (.getfield 113, 3) := by decide +kernel
theorem dX8_heap_23 : decode cX8_heap 23 = .ok (.ifCond .le 19, 3) := by decide +kernel
theorem dX8_heap_26 : decode cX8_heap 26 = .ok (.aload_n 0, 1) := by decide +kernel
theorem dX8_heap_27 : decode cX8_heap 27 = .ok (.aload_n 0, 1) := by decide +kernel
theorem dX8_heap_28 : decode cX8_heap 28 = .ok (.getfield 113, 3) := by decide +kernel
theorem dX8_heap_31 : decode cX8_heap 31 = .ok (.putfield 78, 3) := by decide +kernel
theorem dX8_heap_34 : decode cX8_heap 34 = .ok (.ldc 167, 2) := by decide +kernel
theorem dX8_heap_36 : decode cX8_heap 36 = .ok (.aload_n 0, 1) := by decide +kernel
theorem dX8_heap_37 : decode cX8_heap 37 = .ok (.getfield 110, 3) := by decide +kernel
theorem dX8_heap_40 : decode cX8_heap 40 = .ok (.isub, 1) := by decide +kernel
theorem dX8_heap_41 : decode cX8_heap 41 = .ok (.ireturn, 1) := by decide +kernel
theorem dX8_heap_42 : decode cX8_heap 42 = .ok (.aload_n 0, 1) := by decide +kernel
theorem dX8_heap_43 : decode cX8_heap 43 = .ok (.iload_n 1, 1) := by decide +kernel
theorem dX8_heap_44 : decode cX8_heap 44 = .ok (.invokevirtual 168, 3) := by decide +kernel
theorem dX8_heap_47 : decode cX8_heap 47 = .ok (.ireturn, 1) := by decide +kernel
theorem dX8_fault_0 : decode cX8_fault 0 = .ok (.aload_n 0, 1) := by decide +kernel
theorem dX8_fault_1 : decode cX8_fault 1 = .ok (.getfield 78, 3) := by decide +kernel
theorem dX8_fault_4 : decode cX8_fault 4 = .ok (.ireturn, 1) := by decide +kernel
theorem dX8_isUnder_0 : decode cX8_isUnder 0 = .ok (.iconst 1, 1) := by decide +kernel
theorem dX8_isUnder_1 : decode cX8_isUnder 1 = .ok (.istore 4, 2) := by decide +kernel
theorem dX8_isUnder_3 : decode cX8_isUnder 3 = .ok (.iconst 0, 1) := by decide +kernel
theorem dX8_isUnder_4 : decode cX8_isUnder 4 = .ok (.istore 5, 2) := by decide +kernel
theorem dX8_isUnder_6 : decode cX8_isUnder 6 = .ok (.iload 5, 2) := by decide +kernel
theorem dX8_isUnder_8 : decode cX8_isUnder 8 = .ok (.iload_n 3, 1) := by decide +kernel
theorem dX8_isUnder_9 : decode cX8_isUnder 9 = .ok (.if_icmp .ge 46, 3) := by decide +kernel
theorem dX8_isUnder_12 : decode cX8_isUnder 12 = .ok (.iload 4, 2) := by decide +kernel
theorem dX8_isUnder_14 : decode cX8_isUnder 14 = .ok (.ifCond .eq 32, 3) := by decide +kernel
theorem dX8_isUnder_17 : decode cX8_isUnder 17 = .ok (.aload_n 0, 1) := by decide +kernel
theorem dX8_isUnder_18 : decode cX8_isUnder 18 = .ok (.getfield 35, 3) := by decide +kernel
theorem dX8_isUnder_21 : decode cX8_isUnder 21 = .ok (.iconst 4, 1) := by decide +kernel
theorem dX8_isUnder_22 : decode cX8_isUnder 22 = .ok (.iload_n 1, 1) := by decide +kernel
theorem dX8_isUnder_23 : decode cX8_isUnder 23 = .ok (.imul, 1) := by decide +kernel
theorem dX8_isUnder_24 : decode cX8_isUnder 24 = .ok (.iload 5, 2) := by decide +kernel
theorem dX8_isUnder_26 : decode cX8_isUnder 26 = .ok (.iadd, 1) := by decide +kernel
theorem dX8_isUnder_27 : decode cX8_isUnder 27 = .ok (.iaload, 1) := by decide +kernel
theorem dX8_isUnder_28 : decode cX8_isUnder 28 = .ok (.aload_n 0, 1) := by decide +kernel
theorem dX8_isUnder_29 : decode cX8_isUnder 29 = .ok (.getfield 35, 3) := by decide +kernel
theorem dX8_isUnder_32 : decode cX8_isUnder 32 = .ok (.iconst 4, 1) := by decide +kernel
theorem dX8_isUnder_33 : decode cX8_isUnder 33 = .ok (.iload_n 2, 1) := by decide +kernel
theorem dX8_isUnder_34 : decode cX8_isUnder 34 = .ok (.imul, 1) := by decide +kernel
theorem dX8_isUnder_35 : decode cX8_isUnder 35 = .ok (.iload 5, 2) := by decide +kernel
theorem dX8_isUnder_37 : decode cX8_isUnder 37 = .ok (.iadd, 1) := by decide +kernel
theorem dX8_isUnder_38 : decode cX8_isUnder 38 = .ok (.iaload, 1) := by decide +kernel
theorem dX8_isUnder_39 : decode cX8_isUnder 39 = .ok (.if_icmp .gt 7, 3) := by decide +kernel
theorem dX8_isUnder_42 : decode cX8_isUnder 42 = .ok (.iconst 1, 1) := by decide +kernel
theorem dX8_isUnder_43 : decode cX8_isUnder 43 = .ok (.goto 4, 3) := by decide +kernel
theorem dX8_isUnder_46 : decode cX8_isUnder 46 = .ok (.iconst 0, 1) := by decide +kernel
theorem dX8_isUnder_47 : decode cX8_isUnder 47 = .ok (.istore 4, 2) := by decide +kernel
theorem dX8_isUnder_49 : decode cX8_isUnder 49 = .ok (.iinc 5 1, 3) := by decide +kernel
theorem dX8_isUnder_52 : decode cX8_isUnder 52 = .ok (.goto (-46), 3) := by decide +kernel
theorem dX8_isUnder_55 : decode cX8_isUnder 55 = .ok (.iload 4, 2) := by decide +kernel
theorem dX8_isUnder_57 : decode cX8_isUnder 57 = .ok (.ireturn, 1) := by decide +kernel
theorem dX8_laysRows_0 : decode cX8_laysRows 0 = .ok (.aload_n 0, 1) := by decide +kernel
theorem dX8_laysRows_1 : decode cX8_laysRows 1 = .ok (.iconst 0, 1) := by decide +kernel
theorem dX8_laysRows_2 : decode cX8_laysRows 2 = .ok (.putfield 172, 3) := by decide +kernel
theorem dX8_laysRows_5 : decode cX8_laysRows 5 = .ok (.iconst 1, 1) := by decide +kernel
theorem dX8_laysRows_6 : decode cX8_laysRows 6 = .ok (.istore_n 3, 1) := by decide +kernel
theorem dX8_laysRows_7 : decode cX8_laysRows 7 = .ok (.iconst 0, 1) := by decide +kernel
theorem dX8_laysRows_8 : decode cX8_laysRows 8 = .ok (.istore 4, 2) := by decide +kernel
theorem dX8_laysRows_10 : decode cX8_laysRows 10 = .ok (.iload 4, 2) := by decide +kernel
theorem dX8_laysRows_12 : decode cX8_laysRows 12 = .ok (.iload_n 1, 1) := by decide +kernel
theorem dX8_laysRows_13 : decode cX8_laysRows 13 = .ok (.if_icmp .ge 15, 3) := by decide +kernel
theorem dX8_laysRows_16 : decode cX8_laysRows 16 = .ok (.iload_n 3, 1) := by decide +kernel
theorem dX8_laysRows_17 : decode cX8_laysRows 17 = .ok (.iload_n 2, 1) := by decide +kernel
theorem dX8_laysRows_18 : decode cX8_laysRows 18 = .ok (.iconst 1, 1) := by decide +kernel
theorem dX8_laysRows_19 : decode cX8_laysRows 19 = .ok (.iadd, 1) := by decide +kernel
theorem dX8_laysRows_20 : decode cX8_laysRows 20 = .ok (.imul, 1) := by decide +kernel
theorem dX8_laysRows_21 : decode cX8_laysRows 21 = .ok (.istore_n 3, 1) := by decide +kernel
theorem dX8_laysRows_22 : decode cX8_laysRows 22 = .ok (.iinc 4 1, 3) := by decide +kernel
theorem dX8_laysRows_25 : decode cX8_laysRows 25 = .ok (.goto (-15), 3) := by decide +kernel
theorem dX8_laysRows_28 : decode cX8_laysRows 28 = .ok (.iconst 0, 1) := by decide +kernel
theorem dX8_laysRows_29 : decode cX8_laysRows 29 = .ok (.istore 4, 2) := by decide +kernel
theorem dX8_laysRows_31 : decode cX8_laysRows 31 = .ok (.iload 4, 2) := by decide +kernel
theorem dX8_laysRows_33 : decode cX8_laysRows 33 = .ok (.iload_n 3, 1) := by decide +kernel
theorem dX8_laysRows_34 : decode cX8_laysRows 34 = .ok (.if_icmp .ge 132, 3) := by decide +kernel
theorem dX8_laysRows_37 : decode cX8_laysRows 37 = .ok (.iload 4, 2) := by decide +kernel
theorem dX8_laysRows_39 : decode cX8_laysRows 39 = .ok (.istore 5, 2) := by decide +kernel
theorem dX8_laysRows_41 : decode cX8_laysRows 41 = .ok (.iconst 1, 1) := by decide +kernel
theorem dX8_laysRows_42 : decode cX8_laysRows 42 = .ok (.istore 6, 2) := by decide +kernel
theorem dX8_laysRows_44 : decode cX8_laysRows 44 = .ok (.iload_n 1, 1) := by decide +kernel
theorem dX8_laysRows_45 : decode cX8_laysRows 45 = .ok (.iconst 1, 1) := by decide +kernel
theorem dX8_laysRows_46 : decode cX8_laysRows 46 = .ok (.isub, 1) := by decide +kernel
theorem dX8_laysRows_47 : decode cX8_laysRows 47 = .ok (.istore 7, 2) := by decide +kernel
theorem dX8_laysRows_49 : decode cX8_laysRows 49 = .ok (.iload 7, 2) := by decide +kernel
theorem dX8_laysRows_51 : decode cX8_laysRows 51 = .ok (.ifCond .lt 90, 3) := by decide +kernel
theorem dX8_laysRows_54 : decode cX8_laysRows 54 = .ok (.aload_n 0, 1) := by decide +kernel
theorem dX8_laysRows_55 : decode cX8_laysRows 55 = .ok (.getfield 35, 3) := by decide +kernel
theorem dX8_laysRows_58 : decode cX8_laysRows 58 = .ok (.iconst 4, 1) := by decide +kernel
theorem dX8_laysRows_59 : decode cX8_laysRows 59 = .ok (.aload_n 0, 1) := by decide +kernel
theorem dX8_laysRows_60 : decode cX8_laysRows 60 = .ok (.getfield 172, 3) := by decide +kernel
theorem dX8_laysRows_63 : decode cX8_laysRows 63 = .ok (.imul, 1) := by decide +kernel
theorem dX8_laysRows_64 : decode cX8_laysRows 64 = .ok (.iload 7, 2) := by decide +kernel
theorem dX8_laysRows_66 : decode cX8_laysRows 66 = .ok (.iadd, 1) := by decide +kernel
theorem dX8_laysRows_67 : decode cX8_laysRows 67 = .ok (.iload 5, 2) := by decide +kernel
theorem dX8_laysRows_69 : decode cX8_laysRows 69 = .ok (.iload_n 2, 1) := by decide +kernel
theorem dX8_laysRows_70 : decode cX8_laysRows 70 = .ok (.iconst 1, 1) := by decide +kernel
theorem dX8_laysRows_71 : decode cX8_laysRows 71 = .ok (.iadd, 1) := by decide +kernel
theorem dX8_laysRows_72 : decode cX8_laysRows 72 = .ok (.irem, 1) := by decide +kernel
theorem dX8_laysRows_73 : decode cX8_laysRows 73 = .ok (.iastore, 1) := by decide +kernel
theorem dX8_laysRows_74 : decode cX8_laysRows 74 = .ok (.iload 5, 2) := by decide +kernel
theorem dX8_laysRows_76 : decode cX8_laysRows 76 = .ok (.iload_n 2, 1) := by decide +kernel
theorem dX8_laysRows_77 : decode cX8_laysRows 77 = .ok (.iconst 1, 1) := by decide +kernel
theorem dX8_laysRows_78 : decode cX8_laysRows 78 = .ok (.iadd, 1) := by decide +kernel
theorem dX8_laysRows_79 : decode cX8_laysRows 79 = .ok (.idiv, 1) := by decide +kernel
theorem dX8_laysRows_80 : decode cX8_laysRows 80 = .ok (.istore 5, 2) := by decide +kernel
theorem dX8_laysRows_82 : decode cX8_laysRows 82 = .ok (.iload 6, 2) := by decide +kernel
theorem dX8_laysRows_84 : decode cX8_laysRows 84 = .ok (.ifCond .eq 48, 3) := by decide +kernel
theorem dX8_laysRows_87 : decode cX8_laysRows 87 = .ok (.iload 7, 2) := by decide +kernel
theorem dX8_laysRows_89 : decode cX8_laysRows 89 = .ok (.iload_n 1, 1) := by decide +kernel
theorem dX8_laysRows_90 : decode cX8_laysRows 90 = .ok (.iconst 1, 1) := by decide +kernel
theorem dX8_laysRows_91 : decode cX8_laysRows 91 = .ok (.isub, 1) := by decide +kernel
theorem dX8_laysRows_92 : decode cX8_laysRows 92 = .ok (.if_icmp .eq 36, 3) := by decide +kernel
theorem dX8_laysRows_95 : decode cX8_laysRows 95 = .ok (.aload_n 0, 1) := by decide +kernel
theorem dX8_laysRows_96 : decode cX8_laysRows 96 = .ok (.getfield 35, 3) := by decide +kernel
theorem dX8_laysRows_99 : decode cX8_laysRows 99 = .ok (.iconst 4, 1) := by decide +kernel
theorem dX8_laysRows_100 : decode cX8_laysRows 100 = .ok (.aload_n 0, 1) := by decide +kernel
theorem dX8_laysRows_101 : decode cX8_laysRows 101 = .ok (.getfield 172, 3) := by decide +kernel
theorem dX8_laysRows_104 : decode cX8_laysRows 104 = .ok (.imul, 1) := by decide +kernel
theorem dX8_laysRows_105 : decode cX8_laysRows 105 = .ok (.iload 7, 2) := by decide +kernel
theorem dX8_laysRows_107 : decode cX8_laysRows 107 = .ok (.iadd, 1) := by decide +kernel
theorem dX8_laysRows_108 : decode cX8_laysRows 108 = .ok (.iaload, 1) := by decide +kernel
theorem dX8_laysRows_109 : decode cX8_laysRows 109 = .ok (.aload_n 0, 1) := by decide +kernel
theorem dX8_laysRows_110 : decode cX8_laysRows 110 = .ok (.getfield 35, 3) := by decide +kernel
theorem dX8_laysRows_113 : decode cX8_laysRows 113 = .ok (.iconst 4, 1) := by decide +kernel
theorem dX8_laysRows_114 : decode cX8_laysRows 114 = .ok (.aload_n 0, 1) := by decide +kernel
theorem dX8_laysRows_115 : decode cX8_laysRows 115 = .ok (.getfield 172, 3) := by decide +kernel
theorem dX8_laysRows_118 : decode cX8_laysRows 118 = .ok (.imul, 1) := by decide +kernel
theorem dX8_laysRows_119 : decode cX8_laysRows 119 = .ok (.iload 7, 2) := by decide +kernel
theorem dX8_laysRows_121 : decode cX8_laysRows 121 = .ok (.iadd, 1) := by decide +kernel
theorem dX8_laysRows_122 : decode cX8_laysRows 122 = .ok (.iconst 1, 1) := by decide +kernel
theorem dX8_laysRows_123 : decode cX8_laysRows 123 = .ok (.iadd, 1) := by decide +kernel
theorem dX8_laysRows_124 : decode cX8_laysRows 124 = .ok (.iaload, 1) := by decide +kernel
theorem dX8_laysRows_125 : decode cX8_laysRows 125 = .ok (.if_icmp .lt 7, 3) := by decide +kernel
theorem dX8_laysRows_128 : decode cX8_laysRows 128 = .ok (.iconst 1, 1) := by decide +kernel
theorem dX8_laysRows_129 : decode cX8_laysRows 129 = .ok (.goto 4, 3) := by decide +kernel
theorem dX8_laysRows_132 : decode cX8_laysRows 132 = .ok (.iconst 0, 1) := by decide +kernel
theorem dX8_laysRows_133 : decode cX8_laysRows 133 = .ok (.istore 6, 2) := by decide +kernel
theorem dX8_laysRows_135 : decode cX8_laysRows 135 = .ok (.iinc 7 (-1), 3) := by decide +kernel
theorem dX8_laysRows_138 : decode cX8_laysRows 138 = .ok (.goto (-89), 3) := by decide +kernel
theorem dX8_laysRows_141 : decode cX8_laysRows 141 = .ok (.aload_n 0, 1) := by decide +kernel
theorem dX8_laysRows_142 : decode cX8_laysRows 142 = .ok (.dup, 1) := by decide +kernel
theorem dX8_laysRows_143 : decode cX8_laysRows 143 = .ok (.getfield 172, 3) := by decide +kernel
theorem dX8_laysRows_146 : decode cX8_laysRows 146 = .ok (.iload 6, 2) := by decide +kernel
theorem dX8_laysRows_148 : decode cX8_laysRows 148 = .ok (.ifCond .eq 7, 3) := by decide +kernel
theorem dX8_laysRows_151 : decode cX8_laysRows 151 = .ok (.iconst 1, 1) := by decide +kernel
theorem dX8_laysRows_152 : decode cX8_laysRows 152 = .ok (.goto 4, 3) := by decide +kernel
theorem dX8_laysRows_155 : decode cX8_laysRows 155 = .ok (.iconst 0, 1) := by decide +kernel
theorem dX8_laysRows_156 : decode cX8_laysRows 156 = .ok (.iadd, 1) := by decide +kernel
theorem dX8_laysRows_157 : decode cX8_laysRows 157 = .ok (.putfield 172, 3) := by decide +kernel
theorem dX8_laysRows_160 : decode cX8_laysRows 160 = .ok (.iinc 4 1, 3) := by decide +kernel
theorem dX8_laysRows_163 : decode cX8_laysRows 163 = .ok (.goto (-132), 3) := by decide +kernel
theorem dX8_laysRows_166 : decode cX8_laysRows 166 = .ok (.return_, 1) := by decide +kernel
set_option maxRecDepth 20000 in
theorem ggX8_lays_X8_laysRows : GoodIn wsX8_lays wsX8_laysRows := goodIn_r _ [7, 1, 8, 13, 14, 15, 16, 17, 18, 19, 20, 21, 22, 23, 24, 25, 26, 27, 28, 29, 30, 31, 32, 33, 34, 35, 36, 37, 38, 39, 40, 41] (by decide +kernel) (by decide +kernel)
set_option maxRecDepth 20000 in
theorem gX8_lays_X8_laysRows : GoodIn wsX8_lays (wsV RX8 175 RX8 yX8_laysRows wsX8_laysRows) := goodIn_app (goodIn_of _ (by decide +kernel)) ggX8_lays_X8_laysRows
set_option maxRecDepth 20000 in
theorem ggX8_lays_X8_isUnder : GoodIn wsX8_lays wsX8_isUnder := goodIn_r _ [12, 8, 13, 14, 15, 16, 17, 18, 19, 20, 21, 22, 23, 24, 25, 26, 27, 28, 29, 30, 31, 32, 33, 34, 35, 36, 37, 38, 39, 40, 41] (by decide +kernel) (by decide +kernel)
set_option maxRecDepth 20000 in
theorem gX8_lays_X8_isUnder : GoodIn wsX8_lays (wsV RX8 178 RX8 yX8_isUnder wsX8_isUnder) := goodIn_app (goodIn_of _ (by decide +kernel)) ggX8_lays_X8_isUnder
theorem dX8_lays_0 : decode cX8_lays 0 = .ok (.aload_n 0, 1) := by decide +kernel
theorem dX8_lays_1 : decode cX8_lays 1 = .ok (.iload_n 2, 1) := by decide +kernel
theorem dX8_lays_2 : decode cX8_lays 2 = .ok (.iload_n 3, 1) := by decide +kernel
theorem dX8_lays_3 : decode cX8_lays 3 = .ok (.invokevirtual 175, 3) := by decide +kernel
theorem dX8_lays_6 : decode cX8_lays 6 = .ok (.iconst 0, 1) := by decide +kernel
theorem dX8_lays_7 : decode cX8_lays 7 = .ok (.istore 4, 2) := by decide +kernel
theorem dX8_lays_9 : decode cX8_lays 9 = .ok (.iload 4, 2) := by decide +kernel
theorem dX8_lays_11 : decode cX8_lays 11 = .ok (.aload_n 0, 1) := by decide +kernel
theorem dX8_lays_12 : decode cX8_lays 12 = .ok (.getfield 172, 3) := by decide +kernel
theorem dX8_lays_15 : decode cX8_lays 15 = .ok (.if_icmp .ge 19, 3) := by decide +kernel
theorem dX8_lays_18 : decode cX8_lays 18 = .ok (.aload_n 0, 1) := by decide +kernel
theorem dX8_lays_19 : decode cX8_lays 19 = .ok (.getfield 38, 3) := by decide +kernel
theorem dX8_lays_22 : decode cX8_lays 22 = .ok (.iconst 5, 1) := by decide +kernel
theorem dX8_lays_23 : decode cX8_lays 23 = .ok (.iload 4, 2) := by decide +kernel
theorem dX8_lays_25 : decode cX8_lays 25 = .ok (.imul, 1) := by decide +kernel
theorem dX8_lays_26 : decode cX8_lays 26 = .ok (.iconst 1, 1) := by decide +kernel
theorem dX8_lays_27 : decode cX8_lays 27 = .ok (.iastore, 1) := by decide +kernel
theorem dX8_lays_28 : decode cX8_lays 28 = .ok (.iinc 4 1, 3) := by decide +kernel
theorem dX8_lays_31 : decode cX8_lays 31 = .ok (.goto (-22), 3) := by decide +kernel
theorem dX8_lays_34 : decode cX8_lays 34 = .ok (.iconst 1, 1) := by decide +kernel
theorem dX8_lays_35 : decode cX8_lays 35 = .ok (.istore 4, 2) := by decide +kernel
theorem dX8_lays_37 : decode cX8_lays 37 = .ok (.iload 4, 2) := by decide +kernel
theorem dX8_lays_39 : decode cX8_lays 39 = .ok (.iload_n 1, 1) := by decide +kernel
theorem dX8_lays_40 : decode cX8_lays 40 = .ok (.if_icmp .gt 95, 3) := by decide +kernel
theorem dX8_lays_43 : decode cX8_lays 43 = .ok (.iconst 0, 1) := by decide +kernel
theorem dX8_lays_44 : decode cX8_lays 44 = .ok (.istore 5, 2) := by decide +kernel
theorem dX8_lays_46 : decode cX8_lays 46 = .ok (.iload 5, 2) := by decide +kernel
theorem dX8_lays_48 : decode cX8_lays 48 = .ok (.aload_n 0, 1) := by decide +kernel
theorem dX8_lays_49 : decode cX8_lays 49 = .ok (.getfield 172, 3) := by decide +kernel
theorem dX8_lays_52 : decode cX8_lays 52 = .ok (.if_icmp .ge 77, 3) := by decide +kernel
theorem dX8_lays_55 : decode cX8_lays 55 = .ok (.iconst 0, 1) := by decide +kernel
theorem dX8_lays_56 : decode cX8_lays 56 = .ok (.istore 6, 2) := by decide +kernel
theorem dX8_lays_58 : decode cX8_lays 58 = .ok (.iconst 0, 1) := by decide +kernel
theorem dX8_lays_59 : decode cX8_lays 59 = .ok (.istore 7, 2) := by decide +kernel
theorem dX8_lays_61 : decode cX8_lays 61 = .ok (.iload 7, 2) := by decide +kernel
theorem dX8_lays_63 : decode cX8_lays 63 = .ok (.iload 5, 2) := by decide +kernel
theorem dX8_lays_65 : decode cX8_lays 65 = .ok (.if_icmp .gt 44, 3) := by decide +kernel
theorem dX8_lays_68 : decode cX8_lays 68 = .ok (.iload 6, 2) := by decide +kernel
theorem dX8_lays_70 : decode cX8_lays 70 = .ok (.aload_n 0, 1) := by decide +kernel
theorem dX8_lays_71 : decode cX8_lays 71 = .ok (.iload 7, 2) := by decide +kernel
theorem dX8_lays_73 : decode cX8_lays 73 = .ok (.iload 5, 2) := by decide +kernel
theorem dX8_lays_75 : decode cX8_lays 75 = .ok (.iload_n 2, 1) := by decide +kernel
theorem dX8_lays_76 : decode cX8_lays 76 = .ok (.invokevirtual 178, 3) := by decide +kernel
theorem dX8_lays_79 : decode cX8_lays 79 = .ok (.ifCond .eq 20, 3) := by decide +kernel
theorem dX8_lays_82 : decode cX8_lays 82 = .ok (.aload_n 0, 1) := by decide +kernel
theorem dX8_lays_83 : decode cX8_lays 83 = .ok (.getfield 38, 3) := by decide +kernel
theorem dX8_lays_86 : decode cX8_lays 86 = .ok (.iconst 5, 1) := by decide +kernel
theorem dX8_lays_87 : decode cX8_lays 87 = .ok (.iload 7, 2) := by decide +kernel
theorem dX8_lays_89 : decode cX8_lays 89 = .ok (.imul, 1) := by decide +kernel
theorem dX8_lays_90 : decode cX8_lays 90 = .ok (.iload 4, 2) := by decide +kernel
theorem dX8_lays_92 : decode cX8_lays 92 = .ok (.iadd, 1) := by decide +kernel
theorem dX8_lays_93 : decode cX8_lays 93 = .ok (.iconst 1, 1) := by decide +kernel
theorem dX8_lays_94 : decode cX8_lays 94 = .ok (.isub, 1) := by decide +kernel
theorem dX8_lays_95 : decode cX8_lays 95 = .ok (.iaload, 1) := by decide +kernel
theorem dX8_lays_96 : decode cX8_lays 96 = .ok (.goto 4, 3) := by decide +kernel
theorem dX8_lays_99 : decode cX8_lays 99 = .ok (.iconst 0, 1) := by decide +kernel
theorem dX8_lays_100 : decode cX8_lays 100 = .ok (.iadd, 1) := by decide +kernel
theorem dX8_lays_101 : decode cX8_lays 101 = .ok (.istore 6, 2) := by decide +kernel
theorem dX8_lays_103 : decode cX8_lays 103 = .ok (.iinc 7 1, 3) := by decide +kernel
theorem dX8_lays_106 : decode cX8_lays 106 = .ok (.goto (-45), 3) := by decide +kernel
theorem dX8_lays_109 : decode cX8_lays 109 = .ok (.aload_n 0, 1) := by decide +kernel
theorem dX8_lays_110 : decode cX8_lays 110 = .ok (.getfield 38, 3) := by decide +kernel
theorem dX8_lays_113 : decode cX8_lays 113 = .ok (.iconst 5, 1) := by decide +kernel
theorem dX8_lays_114 : decode cX8_lays 114 = .ok (.iload 5, 2) := by decide +kernel
theorem dX8_lays_116 : decode cX8_lays 116 = .ok (.imul, 1) := by decide +kernel
theorem dX8_lays_117 : decode cX8_lays 117 = .ok (.iload 4, 2) := by decide +kernel
theorem dX8_lays_119 : decode cX8_lays 119 = .ok (.iadd, 1) := by decide +kernel
theorem dX8_lays_120 : decode cX8_lays 120 = .ok (.iload 6, 2) := by decide +kernel
theorem dX8_lays_122 : decode cX8_lays 122 = .ok (.iastore, 1) := by decide +kernel
theorem dX8_lays_123 : decode cX8_lays 123 = .ok (.iinc 5 1, 3) := by decide +kernel
theorem dX8_lays_126 : decode cX8_lays 126 = .ok (.goto (-80), 3) := by decide +kernel
theorem dX8_lays_129 : decode cX8_lays 129 = .ok (.iinc 4 1, 3) := by decide +kernel
theorem dX8_lays_132 : decode cX8_lays 132 = .ok (.goto (-95), 3) := by decide +kernel
theorem dX8_lays_135 : decode cX8_lays 135 = .ok (.aload_n 0, 1) := by decide +kernel
theorem dX8_lays_136 : decode cX8_lays 136 = .ok (.getfield 38, 3) := by decide +kernel
theorem dX8_lays_139 : decode cX8_lays 139 = .ok (.iconst 5, 1) := by decide +kernel
theorem dX8_lays_140 : decode cX8_lays 140 = .ok (.aload_n 0, 1) := by decide +kernel
theorem dX8_lays_141 : decode cX8_lays 141 = .ok (.getfield 172, 3) := by decide +kernel
theorem dX8_lays_144 : decode cX8_lays 144 = .ok (.iconst 1, 1) := by decide +kernel
theorem dX8_lays_145 : decode cX8_lays 145 = .ok (.isub, 1) := by decide +kernel
theorem dX8_lays_146 : decode cX8_lays 146 = .ok (.imul, 1) := by decide +kernel
theorem dX8_lays_147 : decode cX8_lays 147 = .ok (.iload_n 1, 1) := by decide +kernel
theorem dX8_lays_148 : decode cX8_lays 148 = .ok (.iadd, 1) := by decide +kernel
theorem dX8_lays_149 : decode cX8_lays 149 = .ok (.iaload, 1) := by decide +kernel
theorem dX8_lays_150 : decode cX8_lays 150 = .ok (.ireturn, 1) := by decide +kernel
set_option maxRecDepth 20000 in
theorem ggX8_rowOf_X8_at : GoodIn wsX8_rowOf wsX8_at := goodIn_r _ [5] (by decide +kernel) (by decide +kernel)
set_option maxRecDepth 20000 in
theorem gX8_rowOf_X8_at : GoodIn wsX8_rowOf (va_wsS RX8 139 yX8_at wsX8_at) := goodIn_app (goodIn_of _ (by decide +kernel)) ggX8_rowOf_X8_at
set_option maxRecDepth 20000 in
theorem ggX8_rowOf_X8_isSame : GoodIn wsX8_rowOf wsX8_isSame := goodIn_r _ [8] (by decide +kernel) (by decide +kernel)
set_option maxRecDepth 20000 in
theorem gX8_rowOf_X8_isSame : GoodIn wsX8_rowOf (va_wsS RX8 181 yX8_isSame wsX8_isSame) := goodIn_app (goodIn_of _ (by decide +kernel)) ggX8_rowOf_X8_isSame
theorem dX8_rowOf_0 : decode cX8_rowOf 0 = .ok (.iconst 0, 1) := by decide +kernel
theorem dX8_rowOf_1 : decode cX8_rowOf 1 = .ok (.istore 4, 2) := by decide +kernel
theorem dX8_rowOf_3 : decode cX8_rowOf 3 = .ok (.aload_n 0, 1) := by decide +kernel
theorem dX8_rowOf_4 : decode cX8_rowOf 4 = .ok (.getfield 35, 3) := by decide +kernel
theorem dX8_rowOf_7 : decode cX8_rowOf 7 = .ok (.iconst 4, 1) := by decide +kernel
theorem dX8_rowOf_8 : decode cX8_rowOf 8 = .ok (.iload 4, 2) := by decide +kernel
theorem dX8_rowOf_10 : decode cX8_rowOf 10 = .ok (.imul, 1) := by decide +kernel
theorem dX8_rowOf_11 : decode cX8_rowOf 11 = .ok (.aload_n 1, 1) := by decide +kernel
theorem dX8_rowOf_12 : decode cX8_rowOf 12 = .ok (.iload_n 2, 1) := by decide +kernel
theorem dX8_rowOf_13 : decode cX8_rowOf 13 = .ok (.iload_n 3, 1) := by decide +kernel
theorem dX8_rowOf_14 : decode cX8_rowOf 14 = .ok (.iconst 0, 1) := by decide +kernel
theorem dX8_rowOf_15 : decode cX8_rowOf 15 = .ok (.invokestatic 139, 3) := by decide +kernel
theorem dX8_rowOf_18 : decode cX8_rowOf 18 = .ok (.iadd, 1) := by decide +kernel
theorem dX8_rowOf_19 : decode cX8_rowOf 19 = .ok (.aload_n 1, 1) := by decide +kernel
theorem dX8_rowOf_20 : decode cX8_rowOf 20 = .ok (.iload_n 2, 1) := by decide +kernel
theorem dX8_rowOf_21 : decode cX8_rowOf 21 = .ok (.iconst 2, 1) := by decide +kernel
theorem dX8_rowOf_22 : decode cX8_rowOf 22 = .ok (.iadd, 1) := by decide +kernel
theorem dX8_rowOf_23 : decode cX8_rowOf 23 = .ok (.iaload, 1) := by decide +kernel
theorem dX8_rowOf_24 : decode cX8_rowOf 24 = .ok (.invokestatic 181, 3) := by decide +kernel
theorem dX8_rowOf_27 : decode cX8_rowOf 27 = .ok (.ifCond .ne 9, 3) := by decide +kernel
theorem dX8_rowOf_30 : decode cX8_rowOf 30 = .ok (.iinc 4 1, 3) := by decide +kernel
theorem dX8_rowOf_33 : decode cX8_rowOf 33 = .ok (.goto (-30), 3) := by decide +kernel
theorem dX8_rowOf_36 : decode cX8_rowOf 36 = .ok (.iload 4, 2) := by decide +kernel
theorem dX8_rowOf_38 : decode cX8_rowOf 38 = .ok (.ireturn, 1) := by decide +kernel
set_option maxRecDepth 20000 in
theorem ggX8_numberOf_X8_lays : GoodIn wsX8_numberOf wsX8_lays := goodIn_r _ [7, 1, 2, 8, 9, 10, 6, 11, 12, 13, 14, 15, 16, 27, 28, 29, 30, 31, 32, 33, 34, 35, 36, 37, 38, 39, 40, 41, 42, 43, 44, 45, 46, 47, 48, 49, 50, 51, 52, 53, 54, 55] (by decide +kernel) (by decide +kernel)
set_option maxRecDepth 20000 in
theorem gX8_numberOf_X8_lays : GoodIn wsX8_numberOf (wsV RX8 185 RX8 yX8_lays wsX8_lays) := goodIn_app (goodIn_of _ (by decide +kernel)) ggX8_numberOf_X8_lays
set_option maxRecDepth 20000 in
theorem ggX8_numberOf_X8_rowOf : GoodIn wsX8_numberOf wsX8_rowOf := goodIn_r _ [20, 12, 21, 22, 6, 23, 24, 25, 26, 27, 28, 29, 30, 31, 32, 33, 34, 35, 36, 37, 38, 39, 40, 41, 42, 43, 44, 45, 46, 47, 48, 49, 50, 51, 52, 53, 54, 55] (by decide +kernel) (by decide +kernel)
set_option maxRecDepth 20000 in
theorem gX8_numberOf_X8_rowOf : GoodIn wsX8_numberOf (wsV RX8 189 RX8 yX8_rowOf wsX8_rowOf) := goodIn_app (goodIn_of _ (by decide +kernel)) ggX8_numberOf_X8_rowOf
set_option maxRecDepth 20000 in
theorem ggX8_numberOf_X8_isUnder : GoodIn wsX8_numberOf wsX8_isUnder := goodIn_r _ [16, 12, 27, 28, 29, 30, 31, 32, 33, 34, 35, 36, 37, 38, 39, 40, 41, 42, 43, 44, 45, 46, 47, 48, 49, 50, 51, 52, 53, 54, 55] (by decide +kernel) (by decide +kernel)
set_option maxRecDepth 20000 in
theorem gX8_numberOf_X8_isUnder : GoodIn wsX8_numberOf (wsV RX8 178 RX8 yX8_isUnder wsX8_isUnder) := goodIn_app (goodIn_of _ (by decide +kernel)) ggX8_numberOf_X8_isUnder
theorem dX8_numberOf_0 : decode cX8_numberOf 0 = .ok (.aload_n 1, 1) := by decide +kernel
theorem dX8_numberOf_1 : decode cX8_numberOf 1 = .ok (.iload_n 2, 1) := by decide +kernel
theorem dX8_numberOf_2 : decode cX8_numberOf 2 = .ok (.iconst 1, 1) := by decide +kernel
theorem dX8_numberOf_3 : decode cX8_numberOf 3 = .ok (.iadd, 1) := by decide +kernel
theorem dX8_numberOf_4 : decode cX8_numberOf 4 = .ok (.iaload, 1) := by decide +kernel
theorem dX8_numberOf_5 : decode cX8_numberOf 5 = .ok (.istore_n 3, 1) := by decide +kernel
theorem dX8_numberOf_6 : decode cX8_numberOf 6 = .ok (.aload_n 1, 1) := by decide +kernel
theorem dX8_numberOf_7 : decode cX8_numberOf 7 = .ok (.iload_n 2, 1) := by decide +kernel
theorem dX8_numberOf_8 : decode cX8_numberOf 8 = .ok (.iconst 2, 1) := by decide +kernel
theorem dX8_numberOf_9 : decode cX8_numberOf 9 = .ok (.iadd, 1) := by decide +kernel
theorem dX8_numberOf_10 : decode cX8_numberOf 10 = .ok (.iaload, 1) := by decide +kernel
theorem dX8_numberOf_11 : decode cX8_numberOf 11 = .ok (.istore 4, 2) := by decide +kernel
theorem dX8_numberOf_13 : decode cX8_numberOf 13 = .ok (.aload_n 0, 1) := by decide +kernel
theorem dX8_numberOf_14 : decode cX8_numberOf 14 = .ok (.iload_n 3, 1) := by decide +kernel
theorem dX8_numberOf_15 : decode cX8_numberOf 15 = .ok (.iload 4, 2) := by decide +kernel
theorem dX8_numberOf_17 : decode cX8_numberOf 17 = .ok (.aload_n 1, 1) := by decide +kernel
theorem dX8_numberOf_18 : decode cX8_numberOf 18 = .ok (.iload_n 2, 1) := by decide +kernel
theorem dX8_numberOf_19 : decode cX8_numberOf 19 = .ok (.iconst 3, 1) := by decide +kernel
theorem dX8_numberOf_20 : decode cX8_numberOf 20 = .ok (.iadd, 1) := by decide +kernel
theorem dX8_numberOf_21 : decode cX8_numberOf 21 = .ok (.iaload, 1) := by decide +kernel
theorem dX8_numberOf_22 : decode cX8_numberOf 22 = .ok (.invokevirtual 185, 3) := by decide +kernel
theorem dX8_numberOf_25 : decode cX8_numberOf 25 = .ok (.pop, 1) := by decide +kernel
theorem dX8_numberOf_26 : decode cX8_numberOf 26 = .ok (.iconst 0, 1) := by decide +kernel
theorem dX8_numberOf_27 : decode cX8_numberOf 27 = .ok (.istore 5, 2) := by decide +kernel
theorem dX8_numberOf_29 : decode cX8_numberOf 29 = .ok (.aload_n 0, 1) := by decide +kernel
theorem dX8_numberOf_30 : decode cX8_numberOf 30 = .ok (.getfield 172, 3) := by decide +kernel
theorem dX8_numberOf_33 : decode cX8_numberOf 33 = .ok (.iconst 1, 1) := by decide +kernel
theorem dX8_numberOf_34 : decode cX8_numberOf 34 = .ok (.isub, 1) := by decide +kernel
theorem dX8_numberOf_35 : decode cX8_numberOf 35 = .ok (.istore 6, 2) := by decide +kernel
theorem dX8_numberOf_37 : decode cX8_numberOf 37 = .ok (.iconst 0, 1) := by decide +kernel
theorem dX8_numberOf_38 : decode cX8_numberOf 38 = .ok (.istore 7, 2) := by decide +kernel
theorem dX8_numberOf_40 : decode cX8_numberOf 40 = .ok (.iload 7, 2) := by decide +kernel
theorem dX8_numberOf_42 : decode cX8_numberOf 42 = .ok (.iload_n 3, 1) := by decide +kernel
theorem dX8_numberOf_43 : decode cX8_numberOf 43 = .ok (.if_icmp .ge 77, 3) := by decide +kernel
theorem dX8_numberOf_46 : decode cX8_numberOf 46 = .ok (.aload_n 0, 1) := by decide +kernel
theorem dX8_numberOf_47 : decode cX8_numberOf 47 = .ok (.aload_n 1, 1) := by decide +kernel
theorem dX8_numberOf_48 : decode cX8_numberOf 48 = .ok (.iload_n 2, 1) := by decide +kernel
theorem dX8_numberOf_49 : decode cX8_numberOf 49 = .ok (.iload 7, 2) := by decide +kernel
theorem dX8_numberOf_51 : decode cX8_numberOf 51 = .ok (.invokevirtual 189, 3) := by decide +kernel
theorem dX8_numberOf_54 : decode cX8_numberOf 54 = .ok (.istore 8, 2) := by decide +kernel
theorem dX8_numberOf_56 : decode cX8_numberOf 56 = .ok (.iconst 0, 1) := by decide +kernel
theorem dX8_numberOf_57 : decode cX8_numberOf 57 = .ok (.istore 9, 2) := by decide +kernel
theorem dX8_numberOf_59 : decode cX8_numberOf 59 = .ok (.iload 9, 2) := by decide +kernel
theorem dX8_numberOf_61 : decode cX8_numberOf 61 = .ok (.iload 8, 2) := by decide +kernel
theorem dX8_numberOf_63 : decode cX8_numberOf 63 = .ok (.if_icmp .ge 47, 3) := by decide +kernel
theorem dX8_numberOf_66 : decode cX8_numberOf 66 = .ok (.iload 5, 2) := by decide +kernel
theorem dX8_numberOf_68 : decode cX8_numberOf 68 = .ok (.aload_n 0, 1) := by decide +kernel
theorem dX8_numberOf_69 : decode cX8_numberOf 69 = .ok (.iload 9, 2) := by decide +kernel
theorem dX8_numberOf_71 : decode cX8_numberOf 71 = .ok (.iload 6, 2) := by decide +kernel
theorem dX8_numberOf_73 : decode cX8_numberOf 73 = .ok (.iload 4, 2) := by decide +kernel
theorem dX8_numberOf_75 : decode cX8_numberOf 75 = .ok (.invokevirtual 178, 3) := by decide +kernel
theorem dX8_numberOf_78 : decode cX8_numberOf 78 = .ok (.ifCond .eq 22, 3) := by decide +kernel
theorem dX8_numberOf_81 : decode cX8_numberOf 81 = .ok (.aload_n 0, 1) := by decide +kernel
theorem dX8_numberOf_82 : decode cX8_numberOf 82 = .ok (.getfield 38, 3) := by decide +kernel
theorem dX8_numberOf_85 : decode cX8_numberOf 85 = .ok (.iconst 5, 1) := by decide +kernel
theorem dX8_numberOf_86 : decode cX8_numberOf 86 = .ok (.iload 9, 2) := by decide +kernel
theorem dX8_numberOf_88 : decode cX8_numberOf 88 = .ok (.imul, 1) := by decide +kernel
theorem dX8_numberOf_89 : decode cX8_numberOf 89 = .ok (.iload_n 3, 1) := by decide +kernel
theorem dX8_numberOf_90 : decode cX8_numberOf 90 = .ok (.iadd, 1) := by decide +kernel
theorem dX8_numberOf_91 : decode cX8_numberOf 91 = .ok (.iconst 1, 1) := by decide +kernel
theorem dX8_numberOf_92 : decode cX8_numberOf 92 = .ok (.isub, 1) := by decide +kernel
theorem dX8_numberOf_93 : decode cX8_numberOf 93 = .ok (.iload 7, 2) := by decide +kernel
theorem dX8_numberOf_95 : decode cX8_numberOf 95 = .ok (.isub, 1) := by decide +kernel
theorem dX8_numberOf_96 : decode cX8_numberOf 96 = .ok (.iaload, 1) := by decide +kernel
theorem dX8_numberOf_97 : decode cX8_numberOf 97 = .ok (.goto 4, 3) := by decide +kernel
theorem dX8_numberOf_100 : decode cX8_numberOf 100 = .ok (.iconst 0, 1) := by decide +kernel
theorem dX8_numberOf_101 : decode cX8_numberOf 101 = .ok (.iadd, 1) := by decide +kernel
theorem dX8_numberOf_102 : decode cX8_numberOf 102 = .ok (.istore 5, 2) := by decide +kernel
theorem dX8_numberOf_104 : decode cX8_numberOf 104 = .ok (.iinc 9 1, 3) := by decide +kernel
theorem dX8_numberOf_107 : decode cX8_numberOf 107 = .ok (.goto (-48), 3) := by decide +kernel
theorem dX8_numberOf_110 : decode cX8_numberOf 110 = .ok (.iload 8, 2) := by decide +kernel
theorem dX8_numberOf_112 : decode cX8_numberOf 112 = .ok (.istore 6, 2) := by decide +kernel
theorem dX8_numberOf_114 : decode cX8_numberOf 114 = .ok (.iinc 7 1, 3) := by decide +kernel
theorem dX8_numberOf_117 : decode cX8_numberOf 117 = .ok (.goto (-77), 3) := by decide +kernel
theorem dX8_numberOf_120 : decode cX8_numberOf 120 = .ok (.iload 5, 2) := by decide +kernel
theorem dX8_numberOf_122 : decode cX8_numberOf 122 = .ok (.ireturn, 1) := by decide +kernel
set_option maxRecDepth 20000 in
theorem ggX8_makes_X8_begins : GoodIn wsX8_makes wsX8_begins := goodIn_r _ [8] (by decide +kernel) (by decide +kernel)
set_option maxRecDepth 20000 in
theorem gX8_makes_X8_begins : GoodIn wsX8_makes (va_wsS RX8 127 yX8_begins wsX8_begins) := goodIn_app (goodIn_of _ (by decide +kernel)) ggX8_makes_X8_begins
set_option maxRecDepth 20000 in
theorem ggX8_makes_X8_isUnder : GoodIn wsX8_makes wsX8_isUnder := goodIn_r _ [12, 4, 19, 20, 21, 22, 23, 24, 25, 26, 27, 28, 29, 30, 31, 32, 33, 34, 35, 36, 37, 38, 39, 40, 41, 42, 43, 44, 45, 46, 47] (by decide +kernel) (by decide +kernel)
set_option maxRecDepth 20000 in
theorem gX8_makes_X8_isUnder : GoodIn wsX8_makes (wsV RX8 178 RX8 yX8_isUnder wsX8_isUnder) := goodIn_app (goodIn_of _ (by decide +kernel)) ggX8_makes_X8_isUnder
set_option maxRecDepth 20000 in
theorem ggX8_makes_X8_at : GoodIn wsX8_makes wsX8_at := goodIn_r _ [15] (by decide +kernel) (by decide +kernel)
set_option maxRecDepth 20000 in
theorem gX8_makes_X8_at : GoodIn wsX8_makes (va_wsS RX8 139 yX8_at wsX8_at) := goodIn_app (goodIn_of _ (by decide +kernel)) ggX8_makes_X8_at
set_option maxRecDepth 20000 in
theorem ggX8_makes_X8_bring : GoodIn wsX8_makes wsX8_bring := goodIn_r _ [18] (by decide +kernel) (by decide +kernel)
set_option maxRecDepth 20000 in
theorem gX8_makes_X8_bring : GoodIn wsX8_makes (va_wsS RX8 93 yX8_bring wsX8_bring) := goodIn_app (goodIn_of _ (by decide +kernel)) ggX8_makes_X8_bring
theorem dX8_makes_0 : decode cX8_makes 0 = .ok (.aload_n 0, 1) := by decide +kernel
theorem dX8_makes_1 : decode cX8_makes 1 = .ok (.getfield 26, 3) := by decide +kernel
theorem dX8_makes_4 : decode cX8_makes 4 = .ok (.iload_n 1, 1) := by decide +kernel
theorem dX8_makes_5 : decode cX8_makes 5 = .ok (.iload_n 2, 1) := by decide +kernel
theorem dX8_makes_6 : decode cX8_makes 6 = .ok (.iload_n 3, 1) := by decide +kernel
theorem dX8_makes_7 : decode cX8_makes 7 = .ok (.invokestatic 127, 3) := by decide +kernel
theorem dX8_makes_10 : decode cX8_makes 10 = .ok (.iload 4, 2) := by decide +kernel
theorem dX8_makes_12 : decode cX8_makes 12 = .ok (.istore 5, 2) := by decide +kernel
theorem dX8_makes_14 : decode cX8_makes 14 = .ok (.aload_n 0, 1) := by decide +kernel
theorem dX8_makes_15 : decode cX8_makes 15 = .ok (.getfield 172, 3) := by decide +kernel
theorem dX8_makes_18 : decode cX8_makes 18 = .ok (.iconst 1, 1) := by decide +kernel
theorem dX8_makes_19 : decode cX8_makes 19 = .ok (.isub, 1) := by decide +kernel
theorem dX8_makes_20 : decode cX8_makes 20 = .ok (.istore 6, 2) := by decide +kernel
theorem dX8_makes_22 : decode cX8_makes 22 = .ok (.iconst 0, 1) := by decide +kernel
theorem dX8_makes_23 : decode cX8_makes 23 = .ok (.istore 7, 2) := by decide +kernel
theorem dX8_makes_25 : decode cX8_makes 25 = .ok (.iload 7, 2) := by decide +kernel
theorem dX8_makes_27 : decode cX8_makes 27 = .ok (.iload_n 1, 1) := by decide +kernel
theorem dX8_makes_28 : decode cX8_makes 28 = .ok (.if_icmp .ge 128, 3) := by decide +kernel
theorem dX8_makes_31 : decode cX8_makes 31 = .ok (.iconst 0, 1) := by decide +kernel
theorem dX8_makes_32 : decode cX8_makes 32 = .ok (.istore 8, 2) := by decide +kernel
theorem dX8_makes_34 : decode cX8_makes 34 = .ok (.iconst 0, 1) := by decide +kernel
theorem dX8_makes_35 : decode cX8_makes 35 = .ok (.istore 9, 2) := by decide +kernel
theorem dX8_makes_37 : decode cX8_makes 37 = .ok (.iload 9, 2) := by decide +kernel
theorem dX8_makes_39 : decode cX8_makes 39 = .ok (.ifCond .ne 85, 3) := by decide +kernel
theorem dX8_makes_42 : decode cX8_makes 42 = .ok (.aload_n 0, 1) := by decide +kernel
theorem dX8_makes_43 : decode cX8_makes 43 = .ok (.iload 8, 2) := by decide +kernel
theorem dX8_makes_45 : decode cX8_makes 45 = .ok (.iload 6, 2) := by decide +kernel
theorem dX8_makes_47 : decode cX8_makes 47 = .ok (.iload_n 2, 1) := by decide +kernel
theorem dX8_makes_48 : decode cX8_makes 48 = .ok (.invokevirtual 178, 3) := by decide +kernel
theorem dX8_makes_51 : decode cX8_makes 51 = .ok (.ifCond .eq 22, 3) := by decide +kernel
theorem dX8_makes_54 : decode cX8_makes 54 = .ok (.aload_n 0, 1) := by decide +kernel
theorem dX8_makes_55 : decode cX8_makes 55 = .ok (.getfield 38, 3) := by decide +kernel
theorem dX8_makes_58 : decode cX8_makes 58 = .ok (.iconst 5, 1) := by decide +kernel
theorem dX8_makes_59 : decode cX8_makes 59 = .ok (.iload 8, 2) := by decide +kernel
theorem dX8_makes_61 : decode cX8_makes 61 = .ok (.imul, 1) := by decide +kernel
theorem dX8_makes_62 : decode cX8_makes 62 = .ok (.iload_n 1, 1) := by decide +kernel
theorem dX8_makes_63 : decode cX8_makes 63 = .ok (.iadd, 1) := by decide +kernel
theorem dX8_makes_64 : decode cX8_makes 64 = .ok (.iconst 1, 1) := by decide +kernel
theorem dX8_makes_65 : decode cX8_makes 65 = .ok (.isub, 1) := by decide +kernel
theorem dX8_makes_66 : decode cX8_makes 66 = .ok (.iload 7, 2) := by decide +kernel
theorem dX8_makes_68 : decode cX8_makes 68 = .ok (.isub, 1) := by decide +kernel
theorem dX8_makes_69 : decode cX8_makes 69 = .ok (.iaload, 1) := by decide +kernel
theorem dX8_makes_70 : decode cX8_makes 70 = .ok (.goto 4, 3) := by decide +kernel
theorem dX8_makes_73 : decode cX8_makes 73 = .ok (.iconst 0, 1) := by decide +kernel
theorem dX8_makes_74 : decode cX8_makes 74 = .ok (.istore 10, 2) := by decide +kernel
theorem dX8_makes_76 : decode cX8_makes 76 = .ok (.iload 5, 2) := by decide +kernel
theorem dX8_makes_78 : decode cX8_makes 78 = .ok (.iload 10, 2) := by decide +kernel
theorem dX8_makes_80 : decode cX8_makes 80 = .ok (.if_icmp .ge 7, 3) := by decide +kernel
theorem dX8_makes_83 : decode cX8_makes 83 = .ok (.iconst 1, 1) := by decide +kernel
theorem dX8_makes_84 : decode cX8_makes 84 = .ok (.goto 4, 3) := by decide +kernel
theorem dX8_makes_87 : decode cX8_makes 87 = .ok (.iconst 0, 1) := by decide +kernel
theorem dX8_makes_88 : decode cX8_makes 88 = .ok (.istore 9, 2) := by decide +kernel
theorem dX8_makes_90 : decode cX8_makes 90 = .ok (.iload 5, 2) := by decide +kernel
theorem dX8_makes_92 : decode cX8_makes 92 = .ok (.iload 9, 2) := by decide +kernel
theorem dX8_makes_94 : decode cX8_makes 94 = .ok (.ifCond .eq 7, 3) := by decide +kernel
theorem dX8_makes_97 : decode cX8_makes 97 = .ok (.iconst 0, 1) := by decide +kernel
theorem dX8_makes_98 : decode cX8_makes 98 = .ok (.goto 5, 3) := by decide +kernel
theorem dX8_makes_101 : decode cX8_makes 101 = .ok (.iload 10, 2) := by decide +kernel
theorem dX8_makes_103 : decode cX8_makes 103 = .ok (.isub, 1) := by decide +kernel
theorem dX8_makes_104 : decode cX8_makes 104 = .ok (.istore 5, 2) := by decide +kernel
theorem dX8_makes_106 : decode cX8_makes 106 = .ok (.iload 8, 2) := by decide +kernel
theorem dX8_makes_108 : decode cX8_makes 108 = .ok (.iload 9, 2) := by decide +kernel
theorem dX8_makes_110 : decode cX8_makes 110 = .ok (.ifCond .eq 7, 3) := by decide +kernel
theorem dX8_makes_113 : decode cX8_makes 113 = .ok (.iconst 0, 1) := by decide +kernel
theorem dX8_makes_114 : decode cX8_makes 114 = .ok (.goto 4, 3) := by decide +kernel
theorem dX8_makes_117 : decode cX8_makes 117 = .ok (.iconst 1, 1) := by decide +kernel
theorem dX8_makes_118 : decode cX8_makes 118 = .ok (.iadd, 1) := by decide +kernel
theorem dX8_makes_119 : decode cX8_makes 119 = .ok (.istore 8, 2) := by decide +kernel
theorem dX8_makes_121 : decode cX8_makes 121 = .ok (.goto (-84), 3) := by decide +kernel
theorem dX8_makes_124 : decode cX8_makes 124 = .ok (.aload_n 0, 1) := by decide +kernel
theorem dX8_makes_125 : decode cX8_makes 125 = .ok (.getfield 35, 3) := by decide +kernel
theorem dX8_makes_128 : decode cX8_makes 128 = .ok (.iconst 4, 1) := by decide +kernel
theorem dX8_makes_129 : decode cX8_makes 129 = .ok (.iload 8, 2) := by decide +kernel
theorem dX8_makes_131 : decode cX8_makes 131 = .ok (.imul, 1) := by decide +kernel
theorem dX8_makes_132 : decode cX8_makes 132 = .ok (.aload_n 0, 1) := by decide +kernel
theorem dX8_makes_133 : decode cX8_makes 133 = .ok (.getfield 26, 3) := by decide +kernel
theorem dX8_makes_136 : decode cX8_makes 136 = .ok (.iload 7, 2) := by decide +kernel
theorem dX8_makes_138 : decode cX8_makes 138 = .ok (.iconst 0, 1) := by decide +kernel
theorem dX8_makes_139 : decode cX8_makes 139 = .ok (.invokestatic 139, 3) := by decide +kernel
theorem dX8_makes_142 : decode cX8_makes 142 = .ok (.iload_n 2, 1) := by decide +kernel
theorem dX8_makes_143 : decode cX8_makes 143 = .ok (.invokestatic 93, 3) := by decide +kernel
theorem dX8_makes_146 : decode cX8_makes 146 = .ok (.iload 8, 2) := by decide +kernel
theorem dX8_makes_148 : decode cX8_makes 148 = .ok (.istore 6, 2) := by decide +kernel
theorem dX8_makes_150 : decode cX8_makes 150 = .ok (.iinc 7 1, 3) := by decide +kernel
theorem dX8_makes_153 : decode cX8_makes 153 = .ok (.goto (-128), 3) := by decide +kernel
theorem dX8_makes_156 : decode cX8_makes 156 = .ok (.return_, 1) := by decide +kernel
set_option maxRecDepth 20000 in
theorem ggX8_take_X8_isBox : GoodIn wsX8_take wsX8_isBox := goodIn_r _ [5, 6, 7, 4, 8] (by decide +kernel) (by decide +kernel)
set_option maxRecDepth 20000 in
theorem gX8_take_X8_isBox : GoodIn wsX8_take (va_wsS RX8 193 yX8_isBox wsX8_isBox) := goodIn_app (goodIn_of _ (by decide +kernel)) ggX8_take_X8_isBox
set_option maxRecDepth 20000 in
theorem ggX8_take_X8_isPlace : GoodIn wsX8_take wsX8_isPlace := goodIn_r _ [11, 6, 7, 4, 8] (by decide +kernel) (by decide +kernel)
set_option maxRecDepth 20000 in
theorem gX8_take_X8_isPlace : GoodIn wsX8_take (va_wsS RX8 86 yX8_isPlace wsX8_isPlace) := goodIn_app (goodIn_of _ (by decide +kernel)) ggX8_take_X8_isPlace
set_option maxRecDepth 20000 in
theorem ggX8_take_X8_lays : GoodIn wsX8_take wsX8_lays := goodIn_r _ [15, 16, 17, 18, 19, 20, 4, 21, 22, 23, 24, 25, 26, 55, 56, 57, 58, 59, 60, 61, 62, 63, 64, 65, 66, 67, 68, 69, 70, 71, 72, 73, 74, 75, 76, 77, 78, 79, 80, 81, 82, 83] (by decide +kernel) (by decide +kernel)
set_option maxRecDepth 20000 in
theorem gX8_take_X8_lays : GoodIn wsX8_take (wsV RX8 185 RX8 yX8_lays wsX8_lays) := goodIn_app (goodIn_of _ (by decide +kernel)) ggX8_take_X8_lays
set_option maxRecDepth 20000 in
theorem ggX8_take_X8_in : GoodIn wsX8_take wsX8_in := goodIn_r _ [8] (by decide +kernel) (by decide +kernel)
set_option maxRecDepth 20000 in
theorem gX8_take_X8_in : GoodIn wsX8_take (va_wsS RX8 82 yX8_in wsX8_in) := goodIn_app (goodIn_of _ (by decide +kernel)) ggX8_take_X8_in
set_option maxRecDepth 20000 in
theorem ggX8_take_X8_makes : GoodIn wsX8_take wsX8_makes := goodIn_r _ [30, 31, 16, 17, 22, 32, 33, 4, 34, 23, 24, 25, 26, 35, 36, 37, 38, 39, 40, 55, 56, 57, 58, 59, 60, 61, 62, 63, 64, 65, 66, 67, 68, 69, 70, 71, 72, 73, 74, 75, 76, 77, 78, 79, 80, 81, 82, 83] (by decide +kernel) (by decide +kernel)
set_option maxRecDepth 20000 in
theorem gX8_take_X8_makes : GoodIn wsX8_take (wsV RX8 196 RX8 yX8_makes wsX8_makes) := goodIn_app (goodIn_of _ (by decide +kernel)) ggX8_take_X8_makes
set_option maxRecDepth 20000 in
theorem ggX8_take_X8_comes : GoodIn wsX8_take wsX8_comes := goodIn_r _ [44, 31, 45, 46, 47, 48, 4, 49, 50, 51, 38, 39, 40, 52, 53, 54, 55, 56, 57, 58, 59, 60, 61, 62, 63, 64, 65, 66, 67, 68, 69, 70, 71, 72, 73, 74, 75, 76, 77, 78, 79, 80, 81, 82, 83] (by decide +kernel) (by decide +kernel)
set_option maxRecDepth 20000 in
theorem gX8_take_X8_comes : GoodIn wsX8_take (wsV RX8 168 RX8 yX8_comes wsX8_comes) := goodIn_app (goodIn_of _ (by decide +kernel)) ggX8_take_X8_comes
theorem dX8_take_0 : decode cX8_take 0 = .ok (.iload_n 1, 1) := by decide +kernel
theorem dX8_take_1 : decode cX8_take 1 = .ok (.iload_n 2, 1) := by decide +kernel
theorem dX8_take_2 : decode cX8_take 2 = .ok (.iload_n 3, 1) := by decide +kernel
theorem dX8_take_3 : decode cX8_take 3 = .ok (.invokestatic 193, 3) := by decide +kernel
theorem dX8_take_6 : decode cX8_take 6 = .ok (.ifCond .eq 11, 3) := by decide +kernel
theorem dX8_take_9 : decode cX8_take 9 = .ok (.iload 5, 2) := by decide +kernel
theorem dX8_take_11 : decode cX8_take 11 = .ok (.invokestatic 86, 3) := by decide +kernel
theorem dX8_take_14 : decode cX8_take 14 = .ok (.ifCond .ne 6, 3) := by decide +kernel
theorem dX8_take_17 : decode cX8_take 17 = .ok (.ldc 105, 2) := by decide +kernel
theorem dX8_take_19 : decode cX8_take 19 = .ok (.ireturn, 1) := by decide +kernel
theorem dX8_take_20 : decode cX8_take 20 = .ok (.iload 4, 2) := by decide +kernel
theorem dX8_take_22 : decode cX8_take 22 = .ok (.iconst 0, 1) := by decide +kernel
theorem dX8_take_23 : decode cX8_take 23 = .ok (.aload_n 0, 1) := by decide +kernel
theorem dX8_take_24 : decode cX8_take 24 = .ok (.iload_n 1, 1) := by decide +kernel
theorem dX8_take_25 : decode cX8_take 25 = .ok (.iload_n 2, 1) := by decide +kernel
theorem dX8_take_26 : decode cX8_take 26 = .ok (.iload_n 3, 1) := by decide +kernel
theorem dX8_take_27 : decode cX8_take 27 = .ok (.invokevirtual 185, 3) := by decide +kernel
theorem dX8_take_30 : decode cX8_take 30 = .ok (.iconst 1, 1) := by decide +kernel
theorem dX8_take_31 : decode cX8_take 31 = .ok (.isub, 1) := by decide +kernel
theorem dX8_take_32 : decode cX8_take 32 = .ok (.invokestatic 82, 3) := by decide +kernel
theorem dX8_take_35 : decode cX8_take 35 = .ok (.ifCond .ne 6, 3) := by decide +kernel
theorem dX8_take_38 : decode cX8_take 38 = .ok (.ldc 105, 2) := by decide +kernel
theorem dX8_take_40 : decode cX8_take 40 = .ok (.ireturn, 1) := by decide +kernel
theorem dX8_take_41 : decode cX8_take 41 = .ok (.aload_n 0, 1) := by decide +kernel
theorem dX8_take_42 : decode cX8_take 42 = .ok (.iload_n 1, 1) := by decide +kernel
theorem dX8_take_43 : decode cX8_take 43 = .ok (.iload_n 2, 1) := by decide +kernel
theorem dX8_take_44 : decode cX8_take 44 = .ok (.iload_n 3, 1) := by decide +kernel
theorem dX8_take_45 : decode cX8_take 45 = .ok (.iload 4, 2) := by decide +kernel
theorem dX8_take_47 : decode cX8_take 47 = .ok (.invokevirtual 196, 3) := by decide +kernel
theorem dX8_take_50 : decode cX8_take 50 = .ok (.aload_n 0, 1) := by decide +kernel
theorem dX8_take_51 : decode cX8_take 51 = .ok (.iload 5, 2) := by decide +kernel
theorem dX8_take_53 : decode cX8_take 53 = .ok (.invokevirtual 168, 3) := by decide +kernel
theorem dX8_take_56 : decode cX8_take 56 = .ok (.ireturn, 1) := by decide +kernel
set_option maxRecDepth 20000 in
theorem ggX8_drawn_X8_isBox : GoodIn wsX8_drawn wsX8_isBox := goodIn_r _ [8, 9, 10, 7, 11] (by decide +kernel) (by decide +kernel)
set_option maxRecDepth 20000 in
theorem gX8_drawn_X8_isBox : GoodIn wsX8_drawn (va_wsS RX8 193 yX8_isBox wsX8_isBox) := goodIn_app (goodIn_of _ (by decide +kernel)) ggX8_drawn_X8_isBox
set_option maxRecDepth 20000 in
theorem ggX8_drawn_X8_in : GoodIn wsX8_drawn wsX8_in := goodIn_r _ [11] (by decide +kernel) (by decide +kernel)
set_option maxRecDepth 20000 in
theorem gX8_drawn_X8_in : GoodIn wsX8_drawn (va_wsS RX8 82 yX8_in wsX8_in) := goodIn_app (goodIn_of _ (by decide +kernel)) ggX8_drawn_X8_in
set_option maxRecDepth 20000 in
theorem ggX8_drawn_X8_isPlace : GoodIn wsX8_drawn wsX8_isPlace := goodIn_r _ [14, 9, 10, 7, 11] (by decide +kernel) (by decide +kernel)
set_option maxRecDepth 20000 in
theorem gX8_drawn_X8_isPlace : GoodIn wsX8_drawn (va_wsS RX8 86 yX8_isPlace wsX8_isPlace) := goodIn_app (goodIn_of _ (by decide +kernel)) ggX8_drawn_X8_isPlace
set_option maxRecDepth 20000 in
theorem ggX8_drawn_X8_lays : GoodIn wsX8_drawn wsX8_lays := goodIn_r _ [18, 19, 20, 21, 22, 23, 7, 24, 25, 26, 27, 28, 29, 58, 59, 60, 61, 62, 63, 64, 65, 66, 67, 68, 69, 70, 71, 72, 73, 74, 75, 76, 77, 78, 79, 80, 81, 82, 83, 84, 85, 86] (by decide +kernel) (by decide +kernel)
set_option maxRecDepth 20000 in
theorem gX8_drawn_X8_lays : GoodIn wsX8_drawn (wsV RX8 185 RX8 yX8_lays wsX8_lays) := goodIn_app (goodIn_of _ (by decide +kernel)) ggX8_drawn_X8_lays
set_option maxRecDepth 20000 in
theorem ggX8_drawn_X8_makes : GoodIn wsX8_drawn wsX8_makes := goodIn_r _ [33, 34, 19, 20, 25, 35, 36, 7, 37, 26, 27, 28, 29, 38, 39, 40, 41, 42, 43, 58, 59, 60, 61, 62, 63, 64, 65, 66, 67, 68, 69, 70, 71, 72, 73, 74, 75, 76, 77, 78, 79, 80, 81, 82, 83, 84, 85, 86] (by decide +kernel) (by decide +kernel)
set_option maxRecDepth 20000 in
theorem gX8_drawn_X8_makes : GoodIn wsX8_drawn (wsV RX8 196 RX8 yX8_makes wsX8_makes) := goodIn_app (goodIn_of _ (by decide +kernel)) ggX8_drawn_X8_makes
set_option maxRecDepth 20000 in
theorem ggX8_drawn_X8_comes : GoodIn wsX8_drawn wsX8_comes := goodIn_r _ [47, 34, 48, 49, 50, 51, 7, 52, 53, 54, 41, 42, 43, 55, 56, 57, 58, 59, 60, 61, 62, 63, 64, 65, 66, 67, 68, 69, 70, 71, 72, 73, 74, 75, 76, 77, 78, 79, 80, 81, 82, 83, 84, 85, 86] (by decide +kernel) (by decide +kernel)
set_option maxRecDepth 20000 in
theorem gX8_drawn_X8_comes : GoodIn wsX8_drawn (wsV RX8 168 RX8 yX8_comes wsX8_comes) := goodIn_app (goodIn_of _ (by decide +kernel)) ggX8_drawn_X8_comes
theorem dX8_drawn_0 : decode cX8_drawn 0 = .ok (.iload_n 1, 1) := by decide +kernel
theorem dX8_drawn_1 : decode cX8_drawn 1 = .ok (.iload_n 2, 1) := by decide +kernel
theorem dX8_drawn_2 : decode cX8_drawn 2 = .ok (.iload_n 3, 1) := by decide +kernel
theorem dX8_drawn_3 : decode cX8_drawn 3 = .ok (.invokestatic 193, 3) := by decide +kernel
theorem dX8_drawn_6 : decode cX8_drawn 6 = .ok (.ifCond .eq 22, 3) := by decide +kernel
theorem dX8_drawn_9 : decode cX8_drawn 9 = .ok (.iload 4, 2) := by decide +kernel
theorem dX8_drawn_11 : decode cX8_drawn 11 = .ok (.iconst 1, 1) := by decide +kernel
theorem dX8_drawn_12 : decode cX8_drawn 12 = .ok (.ldc 200, 2) := by decide +kernel
theorem dX8_drawn_14 : decode cX8_drawn 14 = .ok (.invokestatic 82, 3) := by decide +kernel
theorem dX8_drawn_17 : decode cX8_drawn 17 = .ok (.ifCond .eq 11, 3) := by decide +kernel
theorem dX8_drawn_20 : decode cX8_drawn 20 = .ok (.iload 5, 2) := by decide +kernel
theorem dX8_drawn_22 : decode cX8_drawn 22 = .ok (.invokestatic 86, 3) := by decide +kernel
theorem dX8_drawn_25 : decode cX8_drawn 25 = .ok (.ifCond .ne 6, 3) := by decide +kernel
theorem dX8_drawn_28 : decode cX8_drawn 28 = .ok (.ldc 105, 2) := by decide +kernel
theorem dX8_drawn_30 : decode cX8_drawn 30 = .ok (.ireturn, 1) := by decide +kernel
theorem dX8_drawn_31 : decode cX8_drawn 31 = .ok (.iload 4, 2) := by decide +kernel
theorem dX8_drawn_33 : decode cX8_drawn 33 = .ok (.i2l, 1) := by decide +kernel
theorem dX8_drawn_34 : decode cX8_drawn 34 = .ok (.ldc2_w 201, 3) := by decide +kernel
theorem dX8_drawn_37 : decode cX8_drawn 37 = .ok (.lmul, 1) := by decide +kernel
theorem dX8_drawn_38 : decode cX8_drawn 38 = .ok (.ldc2_w 203, 3) := by decide +kernel
theorem dX8_drawn_41 : decode cX8_drawn 41 = .ok (.lrem, 1) := by decide +kernel
theorem dX8_drawn_42 : decode cX8_drawn 42 = .ok (.lstore 6, 2) := by decide +kernel
theorem dX8_drawn_44 : decode cX8_drawn 44 = .ok (.lload 6, 2) := by decide +kernel
theorem dX8_drawn_46 : decode cX8_drawn 46 = .ok (.aload_n 0, 1) := by decide +kernel
theorem dX8_drawn_47 : decode cX8_drawn 47 = .ok (.iload_n 1, 1) := by decide +kernel
theorem dX8_drawn_48 : decode cX8_drawn 48 = .ok (.iload_n 2, 1) := by decide +kernel
theorem dX8_drawn_49 : decode cX8_drawn 49 = .ok (.iload_n 3, 1) := by decide +kernel
theorem dX8_drawn_50 : decode cX8_drawn 50 = .ok (.invokevirtual 185, 3) := by decide +kernel
theorem dX8_drawn_53 : decode cX8_drawn 53 = .ok (.i2l, 1) := by decide +kernel
theorem dX8_drawn_54 : decode cX8_drawn 54 = .ok (.lrem, 1) := by decide +kernel
theorem dX8_drawn_55 : decode cX8_drawn 55 = .ok (.l2i, 1) := by decide +kernel
theorem dX8_drawn_56 : decode cX8_drawn 56 = .ok (.istore 8, 2) := by decide +kernel
theorem dX8_drawn_58 : decode cX8_drawn 58 = .ok (.aload_n 0, 1) := by decide +kernel
theorem dX8_drawn_59 : decode cX8_drawn 59 = .ok (.iload_n 1, 1) := by decide +kernel
theorem dX8_drawn_60 : decode cX8_drawn 60 = .ok (.iload_n 2, 1) := by decide +kernel
theorem dX8_drawn_61 : decode cX8_drawn 61 = .ok (.iload_n 3, 1) := by decide +kernel
theorem dX8_drawn_62 : decode cX8_drawn 62 = .ok (.iload 8, 2) := by decide +kernel
theorem dX8_drawn_64 : decode cX8_drawn 64 = .ok (.invokevirtual 196, 3) := by decide +kernel
theorem dX8_drawn_67 : decode cX8_drawn 67 = .ok (.aload_n 0, 1) := by decide +kernel
theorem dX8_drawn_68 : decode cX8_drawn 68 = .ok (.iload 5, 2) := by decide +kernel
theorem dX8_drawn_70 : decode cX8_drawn 70 = .ok (.invokevirtual 168, 3) := by decide +kernel
theorem dX8_drawn_73 : decode cX8_drawn 73 = .ok (.pop, 1) := by decide +kernel
theorem dX8_drawn_74 : decode cX8_drawn 74 = .ok (.iload 8, 2) := by decide +kernel
theorem dX8_drawn_76 : decode cX8_drawn 76 = .ok (.ireturn, 1) := by decide +kernel
set_option maxRecDepth 20000 in
theorem ggX8_isSpot_X8_isHeap : GoodIn wsX8_isSpot wsX8_isHeap := goodIn_r _ [6, 1, 7, 8, 5, 9, 10, 11, 12, 13, 14, 15, 16, 17, 18, 19, 20, 21, 22, 23, 24, 25, 26, 27, 28, 29, 30, 31, 32, 33, 34, 35, 36, 37, 38, 39, 40, 41] (by decide +kernel) (by decide +kernel)
set_option maxRecDepth 20000 in
theorem gX8_isSpot_X8_isHeap : GoodIn wsX8_isSpot (wsV RX8 205 RX8 yX8_isHeap wsX8_isHeap) := goodIn_app (goodIn_of _ (by decide +kernel)) ggX8_isSpot_X8_isHeap
set_option maxRecDepth 20000 in
theorem ggX8_isSpot_X8_in : GoodIn wsX8_isSpot wsX8_in := goodIn_r _ [12] (by decide +kernel) (by decide +kernel)
set_option maxRecDepth 20000 in
theorem gX8_isSpot_X8_in : GoodIn wsX8_isSpot (va_wsS RX8 82 yX8_in wsX8_in) := goodIn_app (goodIn_of _ (by decide +kernel)) ggX8_isSpot_X8_in
theorem dX8_isSpot_0 : decode cX8_isSpot 0 = .ok (.aload_n 0, 1) := by decide +kernel
theorem dX8_isSpot_1 : decode cX8_isSpot 1 = .ok (.iload_n 1, 1) := by decide +kernel
theorem dX8_isSpot_2 : decode cX8_isSpot 2 = .ok (.invokevirtual 205, 3) := by decide +kernel
theorem dX8_isSpot_5 : decode cX8_isSpot 5 = .ok (.ifCond .eq 49, 3) := by decide +kernel
theorem dX8_isSpot_8 : decode cX8_isSpot 8 = .ok (.iload_n 2, 1) := by decide +kernel
theorem dX8_isSpot_9 : decode cX8_isSpot 9 = .ok (.iconst 0, 1) := by decide +kernel
theorem dX8_isSpot_10 : decode cX8_isSpot 10 = .ok (.aload_n 0, 1) := by decide +kernel
theorem dX8_isSpot_11 : decode cX8_isSpot 11 = .ok (.getfield 7, 3) := by decide +kernel
theorem dX8_isSpot_14 : decode cX8_isSpot 14 = .ok (.bipush 20, 2) := by decide +kernel
theorem dX8_isSpot_16 : decode cX8_isSpot 16 = .ok (.iload_n 1, 1) := by decide +kernel
theorem dX8_isSpot_17 : decode cX8_isSpot 17 = .ok (.imul, 1) := by decide +kernel
theorem dX8_isSpot_18 : decode cX8_isSpot 18 = .ok (.iconst 1, 1) := by decide +kernel
theorem dX8_isSpot_19 : decode cX8_isSpot 19 = .ok (.iadd, 1) := by decide +kernel
theorem dX8_isSpot_20 : decode cX8_isSpot 20 = .ok (.iaload, 1) := by decide +kernel
theorem dX8_isSpot_21 : decode cX8_isSpot 21 = .ok (.iconst 1, 1) := by decide +kernel
theorem dX8_isSpot_22 : decode cX8_isSpot 22 = .ok (.isub, 1) := by decide +kernel
theorem dX8_isSpot_23 : decode cX8_isSpot 23 = .ok (.invokestatic 82, 3) := by decide +kernel
theorem dX8_isSpot_26 : decode cX8_isSpot 26 = .ok (.ifCond .eq 28, 3) := by decide +kernel
theorem dX8_isSpot_29 : decode cX8_isSpot 29 = .ok (.iload_n 3, 1) := by decide +kernel
theorem dX8_isSpot_30 : decode cX8_isSpot 30 = .ok (.iconst 0, 1) := by decide +kernel
theorem dX8_isSpot_31 : decode cX8_isSpot 31 = .ok (.aload_n 0, 1) := by decide +kernel
theorem dX8_isSpot_32 : decode cX8_isSpot 32 = .ok (.getfield 7, 3) := by decide +kernel
theorem dX8_isSpot_35 : decode cX8_isSpot 35 = .ok (.bipush 20, 2) := by decide +kernel
theorem dX8_isSpot_37 : decode cX8_isSpot 37 = .ok (.iload_n 1, 1) := by decide +kernel
theorem dX8_isSpot_38 : decode cX8_isSpot 38 = .ok (.imul, 1) := by decide +kernel
theorem dX8_isSpot_39 : decode cX8_isSpot 39 = .ok (.iconst 2, 1) := by decide +kernel
theorem dX8_isSpot_40 : decode cX8_isSpot 40 = .ok (.iadd, 1) := by decide +kernel
theorem dX8_isSpot_41 : decode cX8_isSpot 41 = .ok (.iaload, 1) := by decide +kernel
theorem dX8_isSpot_42 : decode cX8_isSpot 42 = .ok (.iconst 1, 1) := by decide +kernel
theorem dX8_isSpot_43 : decode cX8_isSpot 43 = .ok (.isub, 1) := by decide +kernel
theorem dX8_isSpot_44 : decode cX8_isSpot 44 = .ok (.invokestatic 82, 3) := by decide +kernel
theorem dX8_isSpot_47 : decode cX8_isSpot 47 = .ok (.ifCond .eq 7, 3) := by decide +kernel
theorem dX8_isSpot_50 : decode cX8_isSpot 50 = .ok (.iconst 1, 1) := by decide +kernel
theorem dX8_isSpot_51 : decode cX8_isSpot 51 = .ok (.goto 4, 3) := by decide +kernel
theorem dX8_isSpot_54 : decode cX8_isSpot 54 = .ok (.iconst 0, 1) := by decide +kernel
theorem dX8_isSpot_55 : decode cX8_isSpot 55 = .ok (.ireturn, 1) := by decide +kernel
set_option maxRecDepth 20000 in
theorem ggX8_canLay_X8_at : GoodIn wsX8_canLay wsX8_at := goodIn_r _ [4] (by decide +kernel) (by decide +kernel)
set_option maxRecDepth 20000 in
theorem gX8_canLay_X8_at : GoodIn wsX8_canLay (va_wsS RX8 139 yX8_at wsX8_at) := goodIn_app (goodIn_of _ (by decide +kernel)) ggX8_canLay_X8_at
theorem dX8_canLay_0 : decode cX8_canLay 0 = .ok (.aload_n 0, 1) := by decide +kernel
theorem dX8_canLay_1 : decode cX8_canLay 1 = .ok (.iload_n 1, 1) := by decide +kernel
theorem dX8_canLay_2 : decode cX8_canLay 2 = .ok (.iload_n 2, 1) := by decide +kernel
theorem dX8_canLay_3 : decode cX8_canLay 3 = .ok (.iload_n 3, 1) := by decide +kernel
theorem dX8_canLay_4 : decode cX8_canLay 4 = .ok (.invokestatic 139, 3) := by decide +kernel
theorem dX8_canLay_7 : decode cX8_canLay 7 = .ok (.iadd, 1) := by decide +kernel
theorem dX8_canLay_8 : decode cX8_canLay 8 = .ok (.iaload, 1) := by decide +kernel
theorem dX8_canLay_9 : decode cX8_canLay 9 = .ok (.istore 4, 2) := by decide +kernel
theorem dX8_canLay_11 : decode cX8_canLay 11 = .ok (.iload 4, 2) := by decide +kernel
theorem dX8_canLay_13 : decode cX8_canLay 13 = .ok (.aload_n 0, 1) := by decide +kernel
theorem dX8_canLay_14 : decode cX8_canLay 14 = .ok (.iload_n 1, 1) := by decide +kernel
theorem dX8_canLay_15 : decode cX8_canLay 15 = .ok (.iconst 3, 1) := by decide +kernel
theorem dX8_canLay_16 : decode cX8_canLay 16 = .ok (.iadd, 1) := by decide +kernel
theorem dX8_canLay_17 : decode cX8_canLay 17 = .ok (.iaload, 1) := by decide +kernel
theorem dX8_canLay_18 : decode cX8_canLay 18 = .ok (.if_icmp .ge 47, 3) := by decide +kernel
theorem dX8_canLay_21 : decode cX8_canLay 21 = .ok (.iload_n 2, 1) := by decide +kernel
theorem dX8_canLay_22 : decode cX8_canLay 22 = .ok (.ifCond .eq 19, 3) := by decide +kernel
theorem dX8_canLay_25 : decode cX8_canLay 25 = .ok (.aload_n 0, 1) := by decide +kernel
theorem dX8_canLay_26 : decode cX8_canLay 26 = .ok (.iload_n 1, 1) := by decide +kernel
theorem dX8_canLay_27 : decode cX8_canLay 27 = .ok (.iload_n 2, 1) := by decide +kernel
theorem dX8_canLay_28 : decode cX8_canLay 28 = .ok (.iconst 1, 1) := by decide +kernel
theorem dX8_canLay_29 : decode cX8_canLay 29 = .ok (.isub, 1) := by decide +kernel
theorem dX8_canLay_30 : decode cX8_canLay 30 = .ok (.iload_n 3, 1) := by decide +kernel
theorem dX8_canLay_31 : decode cX8_canLay 31 = .ok (.invokestatic 139, 3) := by decide +kernel
theorem dX8_canLay_34 : decode cX8_canLay 34 = .ok (.iadd, 1) := by decide +kernel
theorem dX8_canLay_35 : decode cX8_canLay 35 = .ok (.iaload, 1) := by decide +kernel
theorem dX8_canLay_36 : decode cX8_canLay 36 = .ok (.iload 4, 2) := by decide +kernel
theorem dX8_canLay_38 : decode cX8_canLay 38 = .ok (.if_icmp .le 27, 3) := by decide +kernel
theorem dX8_canLay_41 : decode cX8_canLay 41 = .ok (.iload_n 3, 1) := by decide +kernel
theorem dX8_canLay_42 : decode cX8_canLay 42 = .ok (.ifCond .eq 19, 3) := by decide +kernel
theorem dX8_canLay_45 : decode cX8_canLay 45 = .ok (.aload_n 0, 1) := by decide +kernel
theorem dX8_canLay_46 : decode cX8_canLay 46 = .ok (.iload_n 1, 1) := by decide +kernel
theorem dX8_canLay_47 : decode cX8_canLay 47 = .ok (.iload_n 2, 1) := by decide +kernel
theorem dX8_canLay_48 : decode cX8_canLay 48 = .ok (.iload_n 3, 1) := by decide +kernel
theorem dX8_canLay_49 : decode cX8_canLay 49 = .ok (.iconst 1, 1) := by decide +kernel
theorem dX8_canLay_50 : decode cX8_canLay 50 = .ok (.isub, 1) := by decide +kernel
theorem dX8_canLay_51 : decode cX8_canLay 51 = .ok (.invokestatic 139, 3) := by decide +kernel
theorem dX8_canLay_54 : decode cX8_canLay 54 = .ok (.iadd, 1) := by decide +kernel
theorem dX8_canLay_55 : decode cX8_canLay 55 = .ok (.iaload, 1) := by decide +kernel
theorem dX8_canLay_56 : decode cX8_canLay 56 = .ok (.iload 4, 2) := by decide +kernel
theorem dX8_canLay_58 : decode cX8_canLay 58 = .ok (.if_icmp .le 7, 3) := by decide +kernel
theorem dX8_canLay_61 : decode cX8_canLay 61 = .ok (.iconst 1, 1) := by decide +kernel
theorem dX8_canLay_62 : decode cX8_canLay 62 = .ok (.goto 4, 3) := by decide +kernel
theorem dX8_canLay_65 : decode cX8_canLay 65 = .ok (.iconst 0, 1) := by decide +kernel
theorem dX8_canLay_66 : decode cX8_canLay 66 = .ok (.ireturn, 1) := by decide +kernel
set_option maxRecDepth 20000 in
theorem ggX8_canTake_X8_at : GoodIn wsX8_canTake wsX8_at := goodIn_r _ [4] (by decide +kernel) (by decide +kernel)
set_option maxRecDepth 20000 in
theorem gX8_canTake_X8_at : GoodIn wsX8_canTake (va_wsS RX8 139 yX8_at wsX8_at) := goodIn_app (goodIn_of _ (by decide +kernel)) ggX8_canTake_X8_at
theorem dX8_canTake_0 : decode cX8_canTake 0 = .ok (.aload_n 0, 1) := by decide +kernel
theorem dX8_canTake_1 : decode cX8_canTake 1 = .ok (.iload_n 1, 1) := by decide +kernel
theorem dX8_canTake_2 : decode cX8_canTake 2 = .ok (.iload_n 2, 1) := by decide +kernel
theorem dX8_canTake_3 : decode cX8_canTake 3 = .ok (.iload_n 3, 1) := by decide +kernel
theorem dX8_canTake_4 : decode cX8_canTake 4 = .ok (.invokestatic 139, 3) := by decide +kernel
theorem dX8_canTake_7 : decode cX8_canTake 7 = .ok (.iadd, 1) := by decide +kernel
theorem dX8_canTake_8 : decode cX8_canTake 8 = .ok (.iaload, 1) := by decide +kernel
theorem dX8_canTake_9 : decode cX8_canTake 9 = .ok (.istore 4, 2) := by decide +kernel
theorem dX8_canTake_11 : decode cX8_canTake 11 = .ok (.iload_n 2, 1) := by decide +kernel
theorem dX8_canTake_12 : decode cX8_canTake 12 = .ok (.aload_n 0, 1) := by decide +kernel
theorem dX8_canTake_13 : decode cX8_canTake 13 = .ok (.iload_n 1, 1) := by decide +kernel
theorem dX8_canTake_14 : decode cX8_canTake 14 = .ok (.iconst 1, 1) := by decide +kernel
theorem dX8_canTake_15 : decode cX8_canTake 15 = .ok (.iadd, 1) := by decide +kernel
theorem dX8_canTake_16 : decode cX8_canTake 16 = .ok (.iaload, 1) := by decide +kernel
theorem dX8_canTake_17 : decode cX8_canTake 17 = .ok (.iconst 1, 1) := by decide +kernel
theorem dX8_canTake_18 : decode cX8_canTake 18 = .ok (.isub, 1) := by decide +kernel
theorem dX8_canTake_19 : decode cX8_canTake 19 = .ok (.if_icmp .eq 19, 3) := by decide +kernel
theorem dX8_canTake_22 : decode cX8_canTake 22 = .ok (.aload_n 0, 1) := by decide +kernel
theorem dX8_canTake_23 : decode cX8_canTake 23 = .ok (.iload_n 1, 1) := by decide +kernel
theorem dX8_canTake_24 : decode cX8_canTake 24 = .ok (.iload_n 2, 1) := by decide +kernel
theorem dX8_canTake_25 : decode cX8_canTake 25 = .ok (.iconst 1, 1) := by decide +kernel
theorem dX8_canTake_26 : decode cX8_canTake 26 = .ok (.iadd, 1) := by decide +kernel
theorem dX8_canTake_27 : decode cX8_canTake 27 = .ok (.iload_n 3, 1) := by decide +kernel
theorem dX8_canTake_28 : decode cX8_canTake 28 = .ok (.invokestatic 139, 3) := by decide +kernel
theorem dX8_canTake_31 : decode cX8_canTake 31 = .ok (.iadd, 1) := by decide +kernel
theorem dX8_canTake_32 : decode cX8_canTake 32 = .ok (.iaload, 1) := by decide +kernel
theorem dX8_canTake_33 : decode cX8_canTake 33 = .ok (.iload 4, 2) := by decide +kernel
theorem dX8_canTake_35 : decode cX8_canTake 35 = .ok (.if_icmp .ge 7, 3) := by decide +kernel
theorem dX8_canTake_38 : decode cX8_canTake 38 = .ok (.iconst 1, 1) := by decide +kernel
theorem dX8_canTake_39 : decode cX8_canTake 39 = .ok (.goto 4, 3) := by decide +kernel
theorem dX8_canTake_42 : decode cX8_canTake 42 = .ok (.iconst 0, 1) := by decide +kernel
theorem dX8_canTake_43 : decode cX8_canTake 43 = .ok (.istore 5, 2) := by decide +kernel
theorem dX8_canTake_45 : decode cX8_canTake 45 = .ok (.iload 4, 2) := by decide +kernel
theorem dX8_canTake_47 : decode cX8_canTake 47 = .ok (.ifCond .le 39, 3) := by decide +kernel
theorem dX8_canTake_50 : decode cX8_canTake 50 = .ok (.iload 5, 2) := by decide +kernel
theorem dX8_canTake_52 : decode cX8_canTake 52 = .ok (.ifCond .eq 34, 3) := by decide +kernel
theorem dX8_canTake_55 : decode cX8_canTake 55 = .ok (.iload_n 3, 1) := by decide +kernel
theorem dX8_canTake_56 : decode cX8_canTake 56 = .ok (.aload_n 0, 1) := by decide +kernel
theorem dX8_canTake_57 : decode cX8_canTake 57 = .ok (.iload_n 1, 1) := by decide +kernel
theorem dX8_canTake_58 : decode cX8_canTake 58 = .ok (.iconst 2, 1) := by decide +kernel
theorem dX8_canTake_59 : decode cX8_canTake 59 = .ok (.iadd, 1) := by decide +kernel
theorem dX8_canTake_60 : decode cX8_canTake 60 = .ok (.iaload, 1) := by decide +kernel
theorem dX8_canTake_61 : decode cX8_canTake 61 = .ok (.iconst 1, 1) := by decide +kernel
theorem dX8_canTake_62 : decode cX8_canTake 62 = .ok (.isub, 1) := by decide +kernel
theorem dX8_canTake_63 : decode cX8_canTake 63 = .ok (.if_icmp .eq 19, 3) := by decide +kernel
theorem dX8_canTake_66 : decode cX8_canTake 66 = .ok (.aload_n 0, 1) := by decide +kernel
theorem dX8_canTake_67 : decode cX8_canTake 67 = .ok (.iload_n 1, 1) := by decide +kernel
theorem dX8_canTake_68 : decode cX8_canTake 68 = .ok (.iload_n 2, 1) := by decide +kernel
theorem dX8_canTake_69 : decode cX8_canTake 69 = .ok (.iload_n 3, 1) := by decide +kernel
theorem dX8_canTake_70 : decode cX8_canTake 70 = .ok (.iconst 1, 1) := by decide +kernel
theorem dX8_canTake_71 : decode cX8_canTake 71 = .ok (.iadd, 1) := by decide +kernel
theorem dX8_canTake_72 : decode cX8_canTake 72 = .ok (.invokestatic 139, 3) := by decide +kernel
theorem dX8_canTake_75 : decode cX8_canTake 75 = .ok (.iadd, 1) := by decide +kernel
theorem dX8_canTake_76 : decode cX8_canTake 76 = .ok (.iaload, 1) := by decide +kernel
theorem dX8_canTake_77 : decode cX8_canTake 77 = .ok (.iload 4, 2) := by decide +kernel
theorem dX8_canTake_79 : decode cX8_canTake 79 = .ok (.if_icmp .ge 7, 3) := by decide +kernel
theorem dX8_canTake_82 : decode cX8_canTake 82 = .ok (.iconst 1, 1) := by decide +kernel
theorem dX8_canTake_83 : decode cX8_canTake 83 = .ok (.goto 4, 3) := by decide +kernel
theorem dX8_canTake_86 : decode cX8_canTake 86 = .ok (.iconst 0, 1) := by decide +kernel
theorem dX8_canTake_87 : decode cX8_canTake 87 = .ok (.ireturn, 1) := by decide +kernel
set_option maxRecDepth 20000 in
theorem ggX8_lay_X8_isSpot : GoodIn wsX8_lay wsX8_isSpot := goodIn_r _ [8, 2, 9, 10, 11, 7, 12, 13, 14, 15, 16, 17, 18, 34, 35, 36, 37, 38, 39, 40, 41, 42, 43, 44, 45, 46, 47, 48, 49, 50, 51, 52, 53, 54, 55, 56, 57, 58, 59, 60, 61, 62] (by decide +kernel) (by decide +kernel)
set_option maxRecDepth 20000 in
theorem gX8_lay_X8_isSpot : GoodIn wsX8_lay (wsV RX8 208 RX8 yX8_isSpot wsX8_isSpot) := goodIn_app (goodIn_of _ (by decide +kernel)) ggX8_lay_X8_isSpot
set_option maxRecDepth 20000 in
theorem ggX8_lay_X8_canLay : GoodIn wsX8_lay wsX8_canLay := goodIn_r _ [21, 22, 23, 7, 24] (by decide +kernel) (by decide +kernel)
set_option maxRecDepth 20000 in
theorem gX8_lay_X8_canLay : GoodIn wsX8_lay (va_wsS RX8 211 yX8_canLay wsX8_canLay) := goodIn_app (goodIn_of _ (by decide +kernel)) ggX8_lay_X8_canLay
set_option maxRecDepth 20000 in
theorem ggX8_lay_X8_notes : GoodIn wsX8_lay wsX8_notes := goodIn_r _ [28, 29, 30, 2, 31, 32, 7, 33, 34, 35, 36, 37, 38, 39, 40, 41, 42, 43, 44, 45, 46, 47, 48, 49, 50, 51, 52, 53, 54, 55, 56, 57, 58, 59, 60, 61, 62] (by decide +kernel) (by decide +kernel)
set_option maxRecDepth 20000 in
theorem gX8_lay_X8_notes : GoodIn wsX8_lay (wsV RX8 97 RX8 yX8_notes wsX8_notes) := goodIn_app (goodIn_of _ (by decide +kernel)) ggX8_lay_X8_notes
set_option maxRecDepth 20000 in
theorem ggX8_lay_X8_at : GoodIn wsX8_lay wsX8_at := goodIn_r _ [24] (by decide +kernel) (by decide +kernel)
set_option maxRecDepth 20000 in
theorem gX8_lay_X8_at : GoodIn wsX8_lay (va_wsS RX8 139 yX8_at wsX8_at) := goodIn_app (goodIn_of _ (by decide +kernel)) ggX8_lay_X8_at
theorem dX8_lay_0 : decode cX8_lay 0 = .ok (.aload_n 0, 1) := by decide +kernel
theorem dX8_lay_1 : decode cX8_lay 1 = .ok (.iload_n 1, 1) := by decide +kernel
theorem dX8_lay_2 : decode cX8_lay 2 = .ok (.iload_n 2, 1) := by decide +kernel
theorem dX8_lay_3 : decode cX8_lay 3 = .ok (.iload_n 3, 1) := by decide +kernel
theorem dX8_lay_4 : decode cX8_lay 4 = .ok (.invokevirtual 208, 3) := by decide +kernel
theorem dX8_lay_7 : decode cX8_lay 7 = .ok (.ifCond .ne 6, 3) := by decide +kernel
theorem dX8_lay_10 : decode cX8_lay 10 = .ok (.ldc 105, 2) := by decide +kernel
theorem dX8_lay_12 : decode cX8_lay 12 = .ok (.ireturn, 1) := by decide +kernel
theorem dX8_lay_13 : decode cX8_lay 13 = .ok (.aload_n 0, 1) := by decide +kernel
theorem dX8_lay_14 : decode cX8_lay 14 = .ok (.getfield 7, 3) := by decide +kernel
theorem dX8_lay_17 : decode cX8_lay 17 = .ok (.bipush 20, 2) := by decide +kernel
theorem dX8_lay_19 : decode cX8_lay 19 = .ok (.iload_n 1, 1) := by decide +kernel
theorem dX8_lay_20 : decode cX8_lay 20 = .ok (.imul, 1) := by decide +kernel
theorem dX8_lay_21 : decode cX8_lay 21 = .ok (.iload_n 2, 1) := by decide +kernel
theorem dX8_lay_22 : decode cX8_lay 22 = .ok (.iload_n 3, 1) := by decide +kernel
theorem dX8_lay_23 : decode cX8_lay 23 = .ok (.invokestatic 211, 3) := by decide +kernel
theorem dX8_lay_26 : decode cX8_lay 26 = .ok (.ifCond .ne 6, 3) := by decide +kernel
theorem dX8_lay_29 : decode cX8_lay 29 = .ok (.ldc 104, 2) := by decide +kernel
theorem dX8_lay_31 : decode cX8_lay 31 = .ok (.ireturn, 1) := by decide +kernel
theorem dX8_lay_32 : decode cX8_lay 32 = .ok (.aload_n 0, 1) := by decide +kernel
theorem dX8_lay_33 : decode cX8_lay 33 = .ok (.invokevirtual 97, 3) := by decide +kernel
theorem dX8_lay_36 : decode cX8_lay 36 = .ok (.aload_n 0, 1) := by decide +kernel
theorem dX8_lay_37 : decode cX8_lay 37 = .ok (.getfield 7, 3) := by decide +kernel
theorem dX8_lay_40 : decode cX8_lay 40 = .ok (.bipush 20, 2) := by decide +kernel
theorem dX8_lay_42 : decode cX8_lay 42 = .ok (.iload_n 1, 1) := by decide +kernel
theorem dX8_lay_43 : decode cX8_lay 43 = .ok (.imul, 1) := by decide +kernel
theorem dX8_lay_44 : decode cX8_lay 44 = .ok (.iload_n 2, 1) := by decide +kernel
theorem dX8_lay_45 : decode cX8_lay 45 = .ok (.iload_n 3, 1) := by decide +kernel
theorem dX8_lay_46 : decode cX8_lay 46 = .ok (.invokestatic 139, 3) := by decide +kernel
theorem dX8_lay_49 : decode cX8_lay 49 = .ok (.iadd, 1) := by decide +kernel
theorem dX8_lay_50 : decode cX8_lay 50 = .ok (.dup2, 1) := by decide +kernel
theorem dX8_lay_51 : decode cX8_lay 51 = .ok (.iaload, 1) := by decide +kernel
theorem dX8_lay_52 : decode cX8_lay 52 = .ok (.iconst 1, 1) := by decide +kernel
theorem dX8_lay_53 : decode cX8_lay 53 = .ok (.iadd, 1) := by decide +kernel
theorem dX8_lay_54 : decode cX8_lay 54 = .ok (.iastore, 1) := by decide +kernel
theorem dX8_lay_55 : decode cX8_lay 55 = .ok (.aload_n 0, 1) := by decide +kernel
theorem dX8_lay_56 : decode cX8_lay 56 = .ok (.getfield 7, 3) := by decide +kernel
theorem dX8_lay_59 : decode cX8_lay 59 = .ok (.bipush 20, 2) := by decide +kernel
theorem dX8_lay_61 : decode cX8_lay 61 = .ok (.iload_n 1, 1) := by decide +kernel
theorem dX8_lay_62 : decode cX8_lay 62 = .ok (.imul, 1) := by decide +kernel
theorem dX8_lay_63 : decode cX8_lay 63 = .ok (.iload_n 2, 1) := by decide +kernel
theorem dX8_lay_64 : decode cX8_lay 64 = .ok (.iload_n 3, 1) := by decide +kernel
theorem dX8_lay_65 : decode cX8_lay 65 = .ok (.invokestatic 139, 3) := by decide +kernel
theorem dX8_lay_68 : decode cX8_lay 68 = .ok (.iadd, 1) := by decide +kernel
theorem dX8_lay_69 : decode cX8_lay 69 = .ok (.iaload, 1) := by decide +kernel
theorem dX8_lay_70 : decode cX8_lay 70 = .ok (.ireturn, 1) := by decide +kernel
set_option maxRecDepth 20000 in
theorem ggX8_off_X8_isSpot : GoodIn wsX8_off wsX8_isSpot := goodIn_r _ [8, 2, 9, 10, 11, 7, 12, 13, 14, 15, 16, 17, 18, 34, 35, 36, 37, 38, 39, 40, 41, 42, 43, 44, 45, 46, 47, 48, 49, 50, 51, 52, 53, 54, 55, 56, 57, 58, 59, 60, 61, 62] (by decide +kernel) (by decide +kernel)
set_option maxRecDepth 20000 in
theorem gX8_off_X8_isSpot : GoodIn wsX8_off (wsV RX8 208 RX8 yX8_isSpot wsX8_isSpot) := goodIn_app (goodIn_of _ (by decide +kernel)) ggX8_off_X8_isSpot
set_option maxRecDepth 20000 in
theorem ggX8_off_X8_canTake : GoodIn wsX8_off wsX8_canTake := goodIn_r _ [21, 22, 23, 7, 24] (by decide +kernel) (by decide +kernel)
set_option maxRecDepth 20000 in
theorem gX8_off_X8_canTake : GoodIn wsX8_off (va_wsS RX8 215 yX8_canTake wsX8_canTake) := goodIn_app (goodIn_of _ (by decide +kernel)) ggX8_off_X8_canTake
set_option maxRecDepth 20000 in
theorem ggX8_off_X8_notes : GoodIn wsX8_off wsX8_notes := goodIn_r _ [28, 29, 30, 2, 31, 32, 7, 33, 34, 35, 36, 37, 38, 39, 40, 41, 42, 43, 44, 45, 46, 47, 48, 49, 50, 51, 52, 53, 54, 55, 56, 57, 58, 59, 60, 61, 62] (by decide +kernel) (by decide +kernel)
set_option maxRecDepth 20000 in
theorem gX8_off_X8_notes : GoodIn wsX8_off (wsV RX8 97 RX8 yX8_notes wsX8_notes) := goodIn_app (goodIn_of _ (by decide +kernel)) ggX8_off_X8_notes
set_option maxRecDepth 20000 in
theorem ggX8_off_X8_at : GoodIn wsX8_off wsX8_at := goodIn_r _ [24] (by decide +kernel) (by decide +kernel)
set_option maxRecDepth 20000 in
theorem gX8_off_X8_at : GoodIn wsX8_off (va_wsS RX8 139 yX8_at wsX8_at) := goodIn_app (goodIn_of _ (by decide +kernel)) ggX8_off_X8_at
theorem dX8_off_0 : decode cX8_off 0 = .ok (.aload_n 0, 1) := by decide +kernel
theorem dX8_off_1 : decode cX8_off 1 = .ok (.iload_n 1, 1) := by decide +kernel
theorem dX8_off_2 : decode cX8_off 2 = .ok (.iload_n 2, 1) := by decide +kernel
theorem dX8_off_3 : decode cX8_off 3 = .ok (.iload_n 3, 1) := by decide +kernel
theorem dX8_off_4 : decode cX8_off 4 = .ok (.invokevirtual 208, 3) := by decide +kernel
theorem dX8_off_7 : decode cX8_off 7 = .ok (.ifCond .ne 6, 3) := by decide +kernel
theorem dX8_off_10 : decode cX8_off 10 = .ok (.ldc 105, 2) := by decide +kernel
theorem dX8_off_12 : decode cX8_off 12 = .ok (.ireturn, 1) := by decide +kernel
theorem dX8_off_13 : decode cX8_off 13 = .ok (.aload_n 0, 1) := by decide +kernel
theorem dX8_off_14 : decode cX8_off 14 = .ok (.getfield 7, 3) := by decide +kernel
theorem dX8_off_17 : decode cX8_off 17 = .ok (.bipush 20, 2) := by decide +kernel
theorem dX8_off_19 : decode cX8_off 19 = .ok (.iload_n 1, 1) := by decide +kernel
theorem dX8_off_20 : decode cX8_off 20 = .ok (.imul, 1) := by decide +kernel
theorem dX8_off_21 : decode cX8_off 21 = .ok (.iload_n 2, 1) := by decide +kernel
theorem dX8_off_22 : decode cX8_off 22 = .ok (.iload_n 3, 1) := by decide +kernel
theorem dX8_off_23 : decode cX8_off 23 = .ok (.invokestatic 215, 3) := by decide +kernel
theorem dX8_off_26 : decode cX8_off 26 = .ok (.ifCond .ne 6, 3) := by decide +kernel
theorem dX8_off_29 : decode cX8_off 29 = .ok (.ldc 104, 2) := by decide +kernel
theorem dX8_off_31 : decode cX8_off 31 = .ok (.ireturn, 1) := by decide +kernel
theorem dX8_off_32 : decode cX8_off 32 = .ok (.aload_n 0, 1) := by decide +kernel
theorem dX8_off_33 : decode cX8_off 33 = .ok (.invokevirtual 97, 3) := by decide +kernel
theorem dX8_off_36 : decode cX8_off 36 = .ok (.aload_n 0, 1) := by decide +kernel
theorem dX8_off_37 : decode cX8_off 37 = .ok (.getfield 7, 3) := by decide +kernel
theorem dX8_off_40 : decode cX8_off 40 = .ok (.bipush 20, 2) := by decide +kernel
theorem dX8_off_42 : decode cX8_off 42 = .ok (.iload_n 1, 1) := by decide +kernel
theorem dX8_off_43 : decode cX8_off 43 = .ok (.imul, 1) := by decide +kernel
theorem dX8_off_44 : decode cX8_off 44 = .ok (.iload_n 2, 1) := by decide +kernel
theorem dX8_off_45 : decode cX8_off 45 = .ok (.iload_n 3, 1) := by decide +kernel
theorem dX8_off_46 : decode cX8_off 46 = .ok (.invokestatic 139, 3) := by decide +kernel
theorem dX8_off_49 : decode cX8_off 49 = .ok (.iadd, 1) := by decide +kernel
theorem dX8_off_50 : decode cX8_off 50 = .ok (.dup2, 1) := by decide +kernel
theorem dX8_off_51 : decode cX8_off 51 = .ok (.iaload, 1) := by decide +kernel
theorem dX8_off_52 : decode cX8_off 52 = .ok (.iconst 1, 1) := by decide +kernel
theorem dX8_off_53 : decode cX8_off 53 = .ok (.isub, 1) := by decide +kernel
theorem dX8_off_54 : decode cX8_off 54 = .ok (.iastore, 1) := by decide +kernel
theorem dX8_off_55 : decode cX8_off 55 = .ok (.aload_n 0, 1) := by decide +kernel
theorem dX8_off_56 : decode cX8_off 56 = .ok (.getfield 7, 3) := by decide +kernel
theorem dX8_off_59 : decode cX8_off 59 = .ok (.bipush 20, 2) := by decide +kernel
theorem dX8_off_61 : decode cX8_off 61 = .ok (.iload_n 1, 1) := by decide +kernel
theorem dX8_off_62 : decode cX8_off 62 = .ok (.imul, 1) := by decide +kernel
theorem dX8_off_63 : decode cX8_off 63 = .ok (.iload_n 2, 1) := by decide +kernel
theorem dX8_off_64 : decode cX8_off 64 = .ok (.iload_n 3, 1) := by decide +kernel
theorem dX8_off_65 : decode cX8_off 65 = .ok (.invokestatic 139, 3) := by decide +kernel
theorem dX8_off_68 : decode cX8_off 68 = .ok (.iadd, 1) := by decide +kernel
theorem dX8_off_69 : decode cX8_off 69 = .ok (.iaload, 1) := by decide +kernel
theorem dX8_off_70 : decode cX8_off 70 = .ok (.ireturn, 1) := by decide +kernel
set_option maxRecDepth 20000 in
theorem ggX8_higher_X8_at : GoodIn wsX8_higher wsX8_at := goodIn_r _ [4] (by decide +kernel) (by decide +kernel)
set_option maxRecDepth 20000 in
theorem gX8_higher_X8_at : GoodIn wsX8_higher (va_wsS RX8 139 yX8_at wsX8_at) := goodIn_app (goodIn_of _ (by decide +kernel)) ggX8_higher_X8_at
theorem dX8_higher_0 : decode cX8_higher 0 = .ok (.iconst 0, 1) := by decide +kernel
theorem dX8_higher_1 : decode cX8_higher 1 = .ok (.istore 4, 2) := by decide +kernel
theorem dX8_higher_3 : decode cX8_higher 3 = .ok (.iconst 0, 1) := by decide +kernel
theorem dX8_higher_4 : decode cX8_higher 4 = .ok (.istore 5, 2) := by decide +kernel
theorem dX8_higher_6 : decode cX8_higher 6 = .ok (.iload 5, 2) := by decide +kernel
theorem dX8_higher_8 : decode cX8_higher 8 = .ok (.aload_n 0, 1) := by decide +kernel
theorem dX8_higher_9 : decode cX8_higher 9 = .ok (.iload_n 1, 1) := by decide +kernel
theorem dX8_higher_10 : decode cX8_higher 10 = .ok (.iconst 1, 1) := by decide +kernel
theorem dX8_higher_11 : decode cX8_higher 11 = .ok (.iadd, 1) := by decide +kernel
theorem dX8_higher_12 : decode cX8_higher 12 = .ok (.iaload, 1) := by decide +kernel
theorem dX8_higher_13 : decode cX8_higher 13 = .ok (.if_icmp .ge 33, 3) := by decide +kernel
theorem dX8_higher_16 : decode cX8_higher 16 = .ok (.iload 4, 2) := by decide +kernel
theorem dX8_higher_18 : decode cX8_higher 18 = .ok (.aload_n 0, 1) := by decide +kernel
theorem dX8_higher_19 : decode cX8_higher 19 = .ok (.iload_n 1, 1) := by decide +kernel
theorem dX8_higher_20 : decode cX8_higher 20 = .ok (.iload 5, 2) := by decide +kernel
theorem dX8_higher_22 : decode cX8_higher 22 = .ok (.iload_n 2, 1) := by decide +kernel
theorem dX8_higher_23 : decode cX8_higher 23 = .ok (.invokestatic 139, 3) := by decide +kernel
theorem dX8_higher_26 : decode cX8_higher 26 = .ok (.iadd, 1) := by decide +kernel
theorem dX8_higher_27 : decode cX8_higher 27 = .ok (.iaload, 1) := by decide +kernel
theorem dX8_higher_28 : decode cX8_higher 28 = .ok (.iload_n 3, 1) := by decide +kernel
theorem dX8_higher_29 : decode cX8_higher 29 = .ok (.if_icmp .le 7, 3) := by decide +kernel
theorem dX8_higher_32 : decode cX8_higher 32 = .ok (.iconst 1, 1) := by decide +kernel
theorem dX8_higher_33 : decode cX8_higher 33 = .ok (.goto 4, 3) := by decide +kernel
theorem dX8_higher_36 : decode cX8_higher 36 = .ok (.iconst 0, 1) := by decide +kernel
theorem dX8_higher_37 : decode cX8_higher 37 = .ok (.iadd, 1) := by decide +kernel
theorem dX8_higher_38 : decode cX8_higher 38 = .ok (.istore 4, 2) := by decide +kernel
theorem dX8_higher_40 : decode cX8_higher 40 = .ok (.iinc 5 1, 3) := by decide +kernel
theorem dX8_higher_43 : decode cX8_higher 43 = .ok (.goto (-37), 3) := by decide +kernel
theorem dX8_higher_46 : decode cX8_higher 46 = .ok (.iload 4, 2) := by decide +kernel
theorem dX8_higher_48 : decode cX8_higher 48 = .ok (.ireturn, 1) := by decide +kernel
set_option maxRecDepth 20000 in
theorem ggX8_turns_X8_begins : GoodIn wsX8_turns wsX8_begins := goodIn_r _ [4] (by decide +kernel) (by decide +kernel)
set_option maxRecDepth 20000 in
theorem gX8_turns_X8_begins : GoodIn wsX8_turns (va_wsS RX8 127 yX8_begins wsX8_begins) := goodIn_app (goodIn_of _ (by decide +kernel)) ggX8_turns_X8_begins
set_option maxRecDepth 20000 in
theorem ggX8_turns_X8_at : GoodIn wsX8_turns wsX8_at := goodIn_r _ [7] (by decide +kernel) (by decide +kernel)
set_option maxRecDepth 20000 in
theorem gX8_turns_X8_at : GoodIn wsX8_turns (va_wsS RX8 139 yX8_at wsX8_at) := goodIn_app (goodIn_of _ (by decide +kernel)) ggX8_turns_X8_at
set_option maxRecDepth 20000 in
theorem ggX8_turns_X8_higher : GoodIn wsX8_turns wsX8_higher := goodIn_r _ [10, 5, 6, 3, 7] (by decide +kernel) (by decide +kernel)
set_option maxRecDepth 20000 in
theorem gX8_turns_X8_higher : GoodIn wsX8_turns (va_wsS RX8 218 yX8_higher wsX8_higher) := goodIn_app (goodIn_of _ (by decide +kernel)) ggX8_turns_X8_higher
