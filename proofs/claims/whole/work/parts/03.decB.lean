theorem dX6_init_0 : decode cX6_init 0 = .ok (.aload_n 0, 1) := by decide +kernel
theorem dX6_init_1 : decode cX6_init 1 = .ok (.invokespecial 3, 3) := by decide +kernel
theorem dX6_init_4 : decode cX6_init 4 = .ok (.aload_n 0, 1) := by decide +kernel
theorem dX6_init_5 : decode cX6_init 5 = .ok (.bipush 60, 2) := by decide +kernel
theorem dX6_init_7 : decode cX6_init 7 = .ok (.newarray .int, 2) := by decide +kernel
theorem dX6_init_9 : decode cX6_init 9 = .ok (.putfield 11, 3) := by decide +kernel
theorem dX6_init_12 : decode cX6_init 12 = .ok (.aload_n 0, 1) := by decide +kernel
theorem dX6_init_13 : decode cX6_init 13 = .ok (.bipush 16, 2) := by decide +kernel
theorem dX6_init_15 : decode cX6_init 15 = .ok (.newarray .int, 2) := by decide +kernel
theorem dX6_init_17 : decode cX6_init 17 = .ok (.putfield 15, 3) := by decide +kernel
theorem dX6_init_20 : decode cX6_init 20 = .ok (.aload_n 0, 1) := by decide +kernel
theorem dX6_init_21 : decode cX6_init 21 = .ok (.iconst 0, 1) := by decide +kernel
theorem dX6_init_22 : decode cX6_init 22 = .ok (.putfield 18, 3) := by decide +kernel
theorem dX6_init_25 : decode cX6_init 25 = .ok (.aload_n 0, 1) := by decide +kernel
theorem dX6_init_26 : decode cX6_init 26 = .ok (.iconst 0, 1) := by decide +kernel
theorem dX6_init_27 : decode cX6_init 27 = .ok (.putfield 22, 3) := by decide +kernel
theorem dX6_init_30 : decode cX6_init 30 = .ok (.aload_n 0, 1) := by decide +kernel
theorem dX6_init_31 : decode cX6_init 31 = .ok (.iconst 0, 1) := by decide +kernel
theorem dX6_init_32 : decode cX6_init 32 = .ok (.putfield 25, 3) := by decide +kernel
theorem dX6_init_35 : decode cX6_init 35 = .ok (.aload_n 0, 1) := by decide +kernel
theorem dX6_init_36 : decode cX6_init 36 = .ok (.iconst 0, 1) := by decide +kernel
theorem dX6_init_37 : decode cX6_init 37 = .ok (.putfield 28, 3) := by decide +kernel
theorem dX6_init_40 : decode cX6_init 40 = .ok (.aload_n 0, 1) := by decide +kernel
theorem dX6_init_41 : decode cX6_init 41 = .ok (.iconst 0, 1) := by decide +kernel
theorem dX6_init_42 : decode cX6_init 42 = .ok (.putfield 31, 3) := by decide +kernel
theorem dX6_init_45 : decode cX6_init 45 = .ok (.aload_n 0, 1) := by decide +kernel
theorem dX6_init_46 : decode cX6_init 46 = .ok (.iconst 0, 1) := by decide +kernel
theorem dX6_init_47 : decode cX6_init 47 = .ok (.putfield 34, 3) := by decide +kernel
theorem dX6_init_50 : decode cX6_init 50 = .ok (.return_, 1) := by decide +kernel
theorem dX6_append_0 : decode cX6_append 0 = .ok (.aload_n 0, 1) := by decide +kernel
theorem dX6_append_1 : decode cX6_append 1 = .ok (.getfield 28, 3) := by decide +kernel
theorem dX6_append_4 : decode cX6_append 4 = .ok (.bipush 60, 2) := by decide +kernel
theorem dX6_append_6 : decode cX6_append 6 = .ok (.if_icmp .lt 5, 3) := by decide +kernel
theorem dX6_append_9 : decode cX6_append 9 = .ok (.iconst 0, 1) := by decide +kernel
theorem dX6_append_10 : decode cX6_append 10 = .ok (.ireturn, 1) := by decide +kernel
theorem dX6_append_11 : decode cX6_append 11 = .ok (.aload_n 0, 1) := by decide +kernel
theorem dX6_append_12 : decode cX6_append 12 = .ok (.getfield 11, 3) := by decide +kernel
theorem dX6_append_15 : decode cX6_append 15 = .ok (.aload_n 0, 1) := by decide +kernel
theorem dX6_append_16 : decode cX6_append 16 = .ok (.getfield 28, 3) := by decide +kernel
theorem dX6_append_19 : decode cX6_append 19 = .ok (.iload_n 1, 1) := by decide +kernel
theorem dX6_append_20 : decode cX6_append 20 = .ok (.iastore, 1) := by decide +kernel
theorem dX6_append_21 : decode cX6_append 21 = .ok (.aload_n 0, 1) := by decide +kernel
theorem dX6_append_22 : decode cX6_append 22 = .ok (.dup, 1) := by decide +kernel
theorem dX6_append_23 : decode cX6_append 23 = .ok (.getfield 28, 3) := by decide +kernel
theorem dX6_append_26 : decode cX6_append 26 = .ok (.iconst 1, 1) := by decide +kernel
theorem dX6_append_27 : decode cX6_append 27 = .ok (.iadd, 1) := by decide +kernel
theorem dX6_append_28 : decode cX6_append 28 = .ok (.putfield 28, 3) := by decide +kernel
theorem dX6_append_31 : decode cX6_append 31 = .ok (.iconst 1, 1) := by decide +kernel
theorem dX6_append_32 : decode cX6_append 32 = .ok (.ireturn, 1) := by decide +kernel
set_option maxRecDepth 20000 in
theorem ggX6_readHeap_J7_fill_53178 : GoodIn wsX6_readHeap wsJ7_fill_53178 := goodIn_r _ [17] (by decide +kernel) (by decide +kernel)
set_option maxRecDepth 20000 in
theorem gX6_readHeap_J7_fill_53178 : GoodIn wsX6_readHeap (va_wsS RX6 37 yJ7_fill_53178 wsJ7_fill_53178) := goodIn_app (goodIn_of _ (by decide +kernel)) ggX6_readHeap_J7_fill_53178
set_option maxRecDepth 20000 in
theorem ggX6_readHeap_X6_readSign : GoodIn wsX6_readHeap wsX6_readSign := goodIn_r _ [22, 1, 23, 24, 25, 21, 26, 4, 27, 28, 29, 30, 31, 2, 114, 115, 116, 117, 118, 119, 120, 121] (by decide +kernel) (by decide +kernel)
set_option maxRecDepth 20000 in
theorem gX6_readHeap_X6_readSign : GoodIn wsX6_readHeap (wsV RX6 43 RX6 yX6_readSign wsX6_readSign) := goodIn_app (goodIn_of _ (by decide +kernel)) ggX6_readHeap_X6_readSign
set_option maxRecDepth 20000 in
theorem ggX6_readHeap_X6_readSides : GoodIn wsX6_readHeap wsX6_readSides := goodIn_r _ [35, 11, 12, 13, 23, 24, 25, 21, 26, 1, 4, 27, 36, 37, 38, 39, 40, 41, 42, 43, 28, 29, 30, 31, 2, 44, 45, 10, 46, 47, 48, 49, 114, 115, 116, 117, 118, 119, 120, 121] (by decide +kernel) (by decide +kernel)
set_option maxRecDepth 20000 in
theorem gX6_readHeap_X6_readSides : GoodIn wsX6_readHeap (wsV RX6 47 RX6 yX6_readSides wsX6_readSides) := goodIn_app (goodIn_of _ (by decide +kernel)) ggX6_readHeap_X6_readSides
set_option maxRecDepth 20000 in
theorem ggX6_readHeap_X6_readHeights : GoodIn wsX6_readHeap wsX6_readHeights := goodIn_r _ [53, 1, 23, 24, 25, 21, 26, 4, 27, 54, 55, 56, 57, 11, 12, 58, 59, 60, 61, 40, 41, 42, 43, 28, 29, 30, 31, 2, 62, 63, 64, 65, 13, 66, 67, 68, 69, 70, 71, 72, 3, 73, 74, 75, 76, 77, 78, 79, 80, 81, 82, 83, 84, 18, 19, 20, 22, 85, 86, 87, 88, 89, 90, 91, 92, 114, 115, 116, 117, 118, 119, 120, 121] (by decide +kernel) (by decide +kernel)
set_option maxRecDepth 20000 in
theorem gX6_readHeap_X6_readHeights : GoodIn wsX6_readHeap (wsV RX6 51 RX6 yX6_readHeights wsX6_readHeights) := goodIn_app (goodIn_of _ (by decide +kernel)) ggX6_readHeap_X6_readHeights
set_option maxRecDepth 20000 in
theorem ggX6_readHeap_X6_failed : GoodIn wsX6_readHeap wsX6_failed := goodIn_r _ [31, 2, 114, 115, 116, 117, 118, 119, 120, 121] (by decide +kernel) (by decide +kernel)
set_option maxRecDepth 20000 in
theorem gX6_readHeap_X6_failed : GoodIn wsX6_readHeap (wsV RX6 54 RX6 yX6_failed wsX6_failed) := goodIn_app (goodIn_of _ (by decide +kernel)) ggX6_readHeap_X6_failed
set_option maxRecDepth 20000 in
theorem ggX6_readHeap_X0_init : GoodIn wsX6_readHeap wsX0_init := goodIn_r _ [94, 95, 96, 97, 98, 99, 100, 124, 125, 126] (by decide +kernel) (by decide +kernel)
set_option maxRecDepth 20000 in
theorem gX6_readHeap_X0_init_n61 : GoodIn wsX6_readHeap (wsX0_init) := ggX6_readHeap_X0_init
set_option maxRecDepth 20000 in
theorem ggX6_readHeap_X6_toldCubes : GoodIn wsX6_readHeap wsX6_toldCubes := goodIn_r _ [104, 11, 12, 105, 106, 10, 107, 73, 74, 75, 21, 76, 3, 114, 115, 116, 117, 118, 119, 120, 121] (by decide +kernel) (by decide +kernel)
set_option maxRecDepth 20000 in
theorem gX6_readHeap_X6_toldCubes : GoodIn wsX6_readHeap (wsV RX6 64 RX6 yX6_toldCubes wsX6_toldCubes) := goodIn_app (goodIn_of _ (by decide +kernel)) ggX6_readHeap_X6_toldCubes
set_option maxRecDepth 20000 in
theorem ggX6_readHeap_X1_init : GoodIn wsX6_readHeap wsX1_init := goodIn_r _ [110, 111, 96, 97, 112, 113, 122, 123] (by decide +kernel) (by decide +kernel)
set_option maxRecDepth 20000 in
theorem gX6_readHeap_X1_init : GoodIn wsX6_readHeap (wsX1_init) := ggX6_readHeap_X1_init
theorem dX6_readHeap_0 : decode cX6_readHeap 0 = .ok (.aload_n 0, 1) := by decide +kernel
theorem dX6_readHeap_1 : decode cX6_readHeap 1 = .ok (.iconst 0, 1) := by decide +kernel
theorem dX6_readHeap_2 : decode cX6_readHeap 2 = .ok (.putfield 31, 3) := by decide +kernel
theorem dX6_readHeap_5 : decode cX6_readHeap 5 = .ok (.aload_n 0, 1) := by decide +kernel
theorem dX6_readHeap_6 : decode cX6_readHeap 6 = .ok (.iconst 0, 1) := by decide +kernel
theorem dX6_readHeap_7 : decode cX6_readHeap 7 = .ok (.putfield 34, 3) := by decide +kernel
theorem dX6_readHeap_10 : decode cX6_readHeap 10 = .ok (.aload_n 0, 1) := by decide +kernel
theorem dX6_readHeap_11 : decode cX6_readHeap 11 = .ok (.getfield 15, 3) := by decide +kernel
theorem dX6_readHeap_14 : decode cX6_readHeap 14 = .ok (.iconst (-1), 1) := by decide +kernel
theorem dX6_readHeap_15 : decode cX6_readHeap 15 = .ok (.invokestatic 37, 3) := by decide +kernel
theorem dX6_readHeap_18 : decode cX6_readHeap 18 = .ok (.aload_n 0, 1) := by decide +kernel
theorem dX6_readHeap_19 : decode cX6_readHeap 19 = .ok (.bipush 120, 2) := by decide +kernel
theorem dX6_readHeap_21 : decode cX6_readHeap 21 = .ok (.invokevirtual 43, 3) := by decide +kernel
theorem dX6_readHeap_24 : decode cX6_readHeap 24 = .ok (.ifCond .eq 26, 3) := by decide +kernel
theorem dX6_readHeap_27 : decode cX6_readHeap 27 = .ok (.aload_n 0, 1) := by decide +kernel
theorem dX6_readHeap_28 : decode cX6_readHeap 28 = .ok (.invokevirtual 47, 3) := by decide +kernel
theorem dX6_readHeap_31 : decode cX6_readHeap 31 = .ok (.ifCond .eq 19, 3) := by decide +kernel
theorem dX6_readHeap_34 : decode cX6_readHeap 34 = .ok (.aload_n 0, 1) := by decide +kernel
theorem dX6_readHeap_35 : decode cX6_readHeap 35 = .ok (.invokevirtual 51, 3) := by decide +kernel
theorem dX6_readHeap_38 : decode cX6_readHeap 38 = .ok (.ifCond .eq 12, 3) := by decide +kernel
theorem dX6_readHeap_41 : decode cX6_readHeap 41 = .ok (.aload_n 0, 1) := by decide +kernel
theorem dX6_readHeap_42 : decode cX6_readHeap 42 = .ok (.bipush 59, 2) := by decide +kernel
theorem dX6_readHeap_44 : decode cX6_readHeap 44 = .ok (.invokevirtual 43, 3) := by decide +kernel
theorem dX6_readHeap_47 : decode cX6_readHeap 47 = .ok (.ifCond .ne 5, 3) := by decide +kernel
theorem dX6_readHeap_50 : decode cX6_readHeap 50 = .ok (.aconst_null, 1) := by decide +kernel
theorem dX6_readHeap_51 : decode cX6_readHeap 51 = .ok (.areturn, 1) := by decide +kernel
theorem dX6_readHeap_52 : decode cX6_readHeap 52 = .ok (.aload_n 0, 1) := by decide +kernel
theorem dX6_readHeap_53 : decode cX6_readHeap 53 = .ok (.getfield 31, 3) := by decide +kernel
theorem dX6_readHeap_56 : decode cX6_readHeap 56 = .ok (.aload_n 0, 1) := by decide +kernel
theorem dX6_readHeap_57 : decode cX6_readHeap 57 = .ok (.getfield 28, 3) := by decide +kernel
theorem dX6_readHeap_60 : decode cX6_readHeap 60 = .ok (.if_icmp .ge 11, 3) := by decide +kernel
theorem dX6_readHeap_63 : decode cX6_readHeap 63 = .ok (.aload_n 0, 1) := by decide +kernel
theorem dX6_readHeap_64 : decode cX6_readHeap 64 = .ok (.iconst 1, 1) := by decide +kernel
theorem dX6_readHeap_65 : decode cX6_readHeap 65 = .ok (.invokevirtual 54, 3) := by decide +kernel
theorem dX6_readHeap_68 : decode cX6_readHeap 68 = .ok (.pop, 1) := by decide +kernel
theorem dX6_readHeap_69 : decode cX6_readHeap 69 = .ok (.aconst_null, 1) := by decide +kernel
theorem dX6_readHeap_70 : decode cX6_readHeap 70 = .ok (.areturn, 1) := by decide +kernel
theorem dX6_readHeap_71 : decode cX6_readHeap 71 = .ok (.new 57, 3) := by decide +kernel
theorem dX6_readHeap_74 : decode cX6_readHeap 74 = .ok (.dup, 1) := by decide +kernel
theorem dX6_readHeap_75 : decode cX6_readHeap 75 = .ok (.new 59, 3) := by decide +kernel
theorem dX6_readHeap_78 : decode cX6_readHeap 78 = .ok (.dup, 1) := by decide +kernel
theorem dX6_readHeap_79 : decode cX6_readHeap 79 = .ok (.aload_n 0, 1) := by decide +kernel
theorem dX6_readHeap_80 : decode cX6_readHeap 80 = .ok (.getfield 18, 3) := by decide +kernel
theorem dX6_readHeap_83 : decode cX6_readHeap 83 = .ok (.aload_n 0, 1) := by decide +kernel
theorem dX6_readHeap_84 : decode cX6_readHeap 84 = .ok (.getfield 22, 3) := by decide +kernel
theorem dX6_readHeap_87 : decode cX6_readHeap 87 = .ok (.aload_n 0, 1) := by decide +kernel
theorem dX6_readHeap_88 : decode cX6_readHeap 88 = .ok (.getfield 25, 3) := by decide +kernel
theorem dX6_readHeap_91 : decode cX6_readHeap 91 = .ok (.invokespecial 61, 3) := by decide +kernel
theorem dX6_readHeap_94 : decode cX6_readHeap 94 = .ok (.aload_n 0, 1) := by decide +kernel
theorem dX6_readHeap_95 : decode cX6_readHeap 95 = .ok (.invokevirtual 64, 3) := by decide +kernel
theorem dX6_readHeap_98 : decode cX6_readHeap 98 = .ok (.invokespecial 68, 3) := by decide +kernel
theorem dX6_readHeap_101 : decode cX6_readHeap 101 = .ok (.areturn, 1) := by decide +kernel
theorem dX6_failed_0 : decode cX6_failed 0 = .ok (.aload_n 0, 1) := by decide +kernel
theorem dX6_failed_1 : decode cX6_failed 1 = .ok (.iload_n 1, 1) := by decide +kernel
theorem dX6_failed_2 : decode cX6_failed 2 = .ok (.putfield 34, 3) := by decide +kernel
theorem dX6_failed_5 : decode cX6_failed 5 = .ok (.iconst 0, 1) := by decide +kernel
theorem dX6_failed_6 : decode cX6_failed 6 = .ok (.ireturn, 1) := by decide +kernel
theorem dX6_sign_0 : decode cX6_sign 0 = .ok (.aload_n 0, 1) := by decide +kernel
theorem dX6_sign_1 : decode cX6_sign 1 = .ok (.getfield 31, 3) := by decide +kernel
theorem dX6_sign_4 : decode cX6_sign 4 = .ok (.aload_n 0, 1) := by decide +kernel
theorem dX6_sign_5 : decode cX6_sign 5 = .ok (.getfield 28, 3) := by decide +kernel
theorem dX6_sign_8 : decode cX6_sign 8 = .ok (.if_icmp .ge 24, 3) := by decide +kernel
theorem dX6_sign_11 : decode cX6_sign 11 = .ok (.aload_n 0, 1) := by decide +kernel
theorem dX6_sign_12 : decode cX6_sign 12 = .ok (.getfield 31, 3) := by decide +kernel
theorem dX6_sign_15 : decode cX6_sign 15 = .ok (.bipush 60, 2) := by decide +kernel
theorem dX6_sign_17 : decode cX6_sign 17 = .ok (.if_icmp .ge 15, 3) := by decide +kernel
theorem dX6_sign_20 : decode cX6_sign 20 = .ok (.aload_n 0, 1) := by decide +kernel
theorem dX6_sign_21 : decode cX6_sign 21 = .ok (.getfield 11, 3) := by decide +kernel
theorem dX6_sign_24 : decode cX6_sign 24 = .ok (.aload_n 0, 1) := by decide +kernel
theorem dX6_sign_25 : decode cX6_sign 25 = .ok (.getfield 31, 3) := by decide +kernel
theorem dX6_sign_28 : decode cX6_sign 28 = .ok (.iaload, 1) := by decide +kernel
theorem dX6_sign_29 : decode cX6_sign 29 = .ok (.goto 4, 3) := by decide +kernel
theorem dX6_sign_32 : decode cX6_sign 32 = .ok (.iconst (-1), 1) := by decide +kernel
theorem dX6_sign_33 : decode cX6_sign 33 = .ok (.ireturn, 1) := by decide +kernel
set_option maxRecDepth 20000 in
theorem ggX6_readSign_X6_sign : GoodIn wsX6_readSign wsX6_sign := goodIn_r _ [6, 1, 7, 8, 14, 15, 16, 17, 18, 19, 20, 21] (by decide +kernel) (by decide +kernel)
set_option maxRecDepth 20000 in
theorem gX6_readSign_X6_sign : GoodIn wsX6_readSign (wsV RX6 71 RX6 yX6_sign wsX6_sign) := goodIn_app (goodIn_of _ (by decide +kernel)) ggX6_readSign_X6_sign
set_option maxRecDepth 20000 in
theorem ggX6_readSign_X6_failed : GoodIn wsX6_readSign wsX6_failed := goodIn_r _ [12, 13, 14, 15, 16, 17, 18, 19, 20, 21] (by decide +kernel) (by decide +kernel)
set_option maxRecDepth 20000 in
theorem gX6_readSign_X6_failed : GoodIn wsX6_readSign (wsV RX6 54 RX6 yX6_failed wsX6_failed) := goodIn_app (goodIn_of _ (by decide +kernel)) ggX6_readSign_X6_failed
theorem dX6_readSign_0 : decode cX6_readSign 0 = .ok (.aload_n 0, 1) := by decide +kernel
theorem dX6_readSign_1 : decode cX6_readSign 1 = .ok (.invokevirtual 71, 3) := by decide +kernel
theorem dX6_readSign_4 : decode cX6_readSign 4 = .ok (.iload_n 1, 1) := by decide +kernel
theorem dX6_readSign_5 : decode cX6_readSign 5 = .ok (.if_icmp .eq 9, 3) := by decide +kernel
theorem dX6_readSign_8 : decode cX6_readSign 8 = .ok (.aload_n 0, 1) := by decide +kernel
theorem dX6_readSign_9 : decode cX6_readSign 9 = .ok (.iconst 1, 1) := by decide +kernel
theorem dX6_readSign_10 : decode cX6_readSign 10 = .ok (.invokevirtual 54, 3) := by decide +kernel
theorem dX6_readSign_13 : decode cX6_readSign 13 = .ok (.ireturn, 1) := by decide +kernel
theorem dX6_readSign_14 : decode cX6_readSign 14 = .ok (.aload_n 0, 1) := by decide +kernel
theorem dX6_readSign_15 : decode cX6_readSign 15 = .ok (.dup, 1) := by decide +kernel
theorem dX6_readSign_16 : decode cX6_readSign 16 = .ok (.getfield 31, 3) := by decide +kernel
theorem dX6_readSign_19 : decode cX6_readSign 19 = .ok (.iconst 1, 1) := by decide +kernel
theorem dX6_readSign_20 : decode cX6_readSign 20 = .ok (.iadd, 1) := by decide +kernel
theorem dX6_readSign_21 : decode cX6_readSign 21 = .ok (.putfield 31, 3) := by decide +kernel
theorem dX6_readSign_24 : decode cX6_readSign 24 = .ok (.iconst 1, 1) := by decide +kernel
theorem dX6_readSign_25 : decode cX6_readSign 25 = .ok (.ireturn, 1) := by decide +kernel
set_option maxRecDepth 20000 in
theorem ggX6_isDigit_X6_sign : GoodIn wsX6_isDigit wsX6_sign := goodIn_r _ [5, 6, 7, 8, 9, 10, 11, 12, 13, 14, 15, 16] (by decide +kernel) (by decide +kernel)
set_option maxRecDepth 20000 in
theorem gX6_isDigit_X6_sign : GoodIn wsX6_isDigit (wsV RX6 71 RX6 yX6_sign wsX6_sign) := goodIn_app (goodIn_of _ (by decide +kernel)) ggX6_isDigit_X6_sign
theorem dX6_isDigit_0 : decode cX6_isDigit 0 = .ok (.aload_n 0, 1) := by decide +kernel
theorem dX6_isDigit_1 : decode cX6_isDigit 1 = .ok (.invokevirtual 71, 3) := by decide +kernel
theorem dX6_isDigit_4 : decode cX6_isDigit 4 = .ok (.bipush 48, 2) := by decide +kernel
theorem dX6_isDigit_6 : decode cX6_isDigit 6 = .ok (.if_icmp .lt 16, 3) := by decide +kernel
theorem dX6_isDigit_9 : decode cX6_isDigit 9 = .ok (.aload_n 0, 1) := by decide +kernel
theorem dX6_isDigit_10 : decode cX6_isDigit 10 = .ok (.invokevirtual 71, 3) := by decide +kernel
theorem dX6_isDigit_13 : decode cX6_isDigit 13 = .ok (.bipush 57, 2) := by decide +kernel
theorem dX6_isDigit_15 : decode cX6_isDigit 15 = .ok (.if_icmp .gt 7, 3) := by decide +kernel
theorem dX6_isDigit_18 : decode cX6_isDigit 18 = .ok (.iconst 1, 1) := by decide +kernel
theorem dX6_isDigit_19 : decode cX6_isDigit 19 = .ok (.goto 4, 3) := by decide +kernel
theorem dX6_isDigit_22 : decode cX6_isDigit 22 = .ok (.iconst 0, 1) := by decide +kernel
theorem dX6_isDigit_23 : decode cX6_isDigit 23 = .ok (.ireturn, 1) := by decide +kernel
set_option maxRecDepth 20000 in
theorem ggX6_isLetter_X6_sign : GoodIn wsX6_isLetter wsX6_sign := goodIn_r _ [5, 6, 7, 8, 9, 10, 11, 12, 13, 14, 15, 16] (by decide +kernel) (by decide +kernel)
set_option maxRecDepth 20000 in
theorem gX6_isLetter_X6_sign : GoodIn wsX6_isLetter (wsV RX6 71 RX6 yX6_sign wsX6_sign) := goodIn_app (goodIn_of _ (by decide +kernel)) ggX6_isLetter_X6_sign
theorem dX6_isLetter_0 : decode cX6_isLetter 0 = .ok (.aload_n 0, 1) := by decide +kernel
theorem dX6_isLetter_1 : decode cX6_isLetter 1 = .ok (.invokevirtual 71, 3) := by decide +kernel
theorem dX6_isLetter_4 : decode cX6_isLetter 4 = .ok (.bipush 101, 2) := by decide +kernel
theorem dX6_isLetter_6 : decode cX6_isLetter 6 = .ok (.if_icmp .eq 12, 3) := by decide +kernel
theorem dX6_isLetter_9 : decode cX6_isLetter 9 = .ok (.aload_n 0, 1) := by decide +kernel
theorem dX6_isLetter_10 : decode cX6_isLetter 10 = .ok (.invokevirtual 71, 3) := by decide +kernel
theorem dX6_isLetter_13 : decode cX6_isLetter 13 = .ok (.bipush 110, 2) := by decide +kernel
theorem dX6_isLetter_15 : decode cX6_isLetter 15 = .ok (.if_icmp .ne 7, 3) := by decide +kernel
theorem dX6_isLetter_18 : decode cX6_isLetter 18 = .ok (.iconst 1, 1) := by decide +kernel
theorem dX6_isLetter_19 : decode cX6_isLetter 19 = .ok (.goto 4, 3) := by decide +kernel
theorem dX6_isLetter_22 : decode cX6_isLetter 22 = .ok (.iconst 0, 1) := by decide +kernel
theorem dX6_isLetter_23 : decode cX6_isLetter 23 = .ok (.ireturn, 1) := by decide +kernel
set_option maxRecDepth 20000 in
theorem ggX6_readSides_X6_sign : GoodIn wsX6_readSides wsX6_sign := goodIn_r _ [8, 9, 10, 11, 32, 33, 34, 35, 36, 37, 38, 39] (by decide +kernel) (by decide +kernel)
set_option maxRecDepth 20000 in
theorem gX6_readSides_X6_sign : GoodIn wsX6_readSides (wsV RX6 71 RX6 yX6_sign wsX6_sign) := goodIn_app (goodIn_of _ (by decide +kernel)) ggX6_readSides_X6_sign
set_option maxRecDepth 20000 in
theorem ggX6_readSides_X6_readSide : GoodIn wsX6_readSides wsX6_readSide := goodIn_r _ [15, 9, 16, 17, 18, 7, 19, 4, 5, 6, 8, 10, 11, 20, 21, 22, 23, 24, 25, 26, 27, 28, 29, 30, 31, 32, 33, 34, 35, 36, 37, 38, 39] (by decide +kernel) (by decide +kernel)
set_option maxRecDepth 20000 in
theorem gX6_readSides_X6_readSide : GoodIn wsX6_readSides (wsV RX6 75 RX6 yX6_readSide wsX6_readSide) := goodIn_app (goodIn_of _ (by decide +kernel)) ggX6_readSides_X6_readSide
theorem dX6_readSides_0 : decode cX6_readSides 0 = .ok (.aload_n 0, 1) := by decide +kernel
theorem dX6_readSides_1 : decode cX6_readSides 1 = .ok (.aload_n 0, 1) := by decide +kernel
theorem dX6_readSides_2 : decode cX6_readSides 2 = .ok (.invokevirtual 71, 3) := by decide +kernel
theorem dX6_readSides_5 : decode cX6_readSides 5 = .ok (.bipush 48, 2) := by decide +kernel
theorem dX6_readSides_7 : decode cX6_readSides 7 = .ok (.isub, 1) := by decide +kernel
theorem dX6_readSides_8 : decode cX6_readSides 8 = .ok (.putfield 18, 3) := by decide +kernel
theorem dX6_readSides_11 : decode cX6_readSides 11 = .ok (.aload_n 0, 1) := by decide +kernel
theorem dX6_readSides_12 : decode cX6_readSides 12 = .ok (.aload_n 0, 1) := by decide +kernel
theorem dX6_readSides_13 : decode cX6_readSides 13 = .ok (.getfield 18, 3) := by decide +kernel
theorem dX6_readSides_16 : decode cX6_readSides 16 = .ok (.iconst 1, 1) := by decide +kernel
theorem dX6_readSides_17 : decode cX6_readSides 17 = .ok (.iconst 1, 1) := by decide +kernel
theorem dX6_readSides_18 : decode cX6_readSides 18 = .ok (.invokevirtual 75, 3) := by decide +kernel
theorem dX6_readSides_21 : decode cX6_readSides 21 = .ok (.ifCond .ne 5, 3) := by decide +kernel
theorem dX6_readSides_24 : decode cX6_readSides 24 = .ok (.iconst 0, 1) := by decide +kernel
theorem dX6_readSides_25 : decode cX6_readSides 25 = .ok (.ireturn, 1) := by decide +kernel
theorem dX6_readSides_26 : decode cX6_readSides 26 = .ok (.aload_n 0, 1) := by decide +kernel
theorem dX6_readSides_27 : decode cX6_readSides 27 = .ok (.aload_n 0, 1) := by decide +kernel
theorem dX6_readSides_28 : decode cX6_readSides 28 = .ok (.invokevirtual 71, 3) := by decide +kernel
theorem dX6_readSides_31 : decode cX6_readSides 31 = .ok (.bipush 48, 2) := by decide +kernel
theorem dX6_readSides_33 : decode cX6_readSides 33 = .ok (.isub, 1) := by decide +kernel
theorem dX6_readSides_34 : decode cX6_readSides 34 = .ok (.putfield 22, 3) := by decide +kernel
theorem dX6_readSides_37 : decode cX6_readSides 37 = .ok (.aload_n 0, 1) := by decide +kernel
theorem dX6_readSides_38 : decode cX6_readSides 38 = .ok (.aload_n 0, 1) := by decide +kernel
theorem dX6_readSides_39 : decode cX6_readSides 39 = .ok (.getfield 18, 3) := by decide +kernel
theorem dX6_readSides_42 : decode cX6_readSides 42 = .ok (.aload_n 0, 1) := by decide +kernel
theorem dX6_readSides_43 : decode cX6_readSides 43 = .ok (.getfield 22, 3) := by decide +kernel
theorem dX6_readSides_46 : decode cX6_readSides 46 = .ok (.iconst 1, 1) := by decide +kernel
theorem dX6_readSides_47 : decode cX6_readSides 47 = .ok (.invokevirtual 75, 3) := by decide +kernel
theorem dX6_readSides_50 : decode cX6_readSides 50 = .ok (.ifCond .ne 5, 3) := by decide +kernel
theorem dX6_readSides_53 : decode cX6_readSides 53 = .ok (.iconst 0, 1) := by decide +kernel
theorem dX6_readSides_54 : decode cX6_readSides 54 = .ok (.ireturn, 1) := by decide +kernel
theorem dX6_readSides_55 : decode cX6_readSides 55 = .ok (.aload_n 0, 1) := by decide +kernel
theorem dX6_readSides_56 : decode cX6_readSides 56 = .ok (.aload_n 0, 1) := by decide +kernel
theorem dX6_readSides_57 : decode cX6_readSides 57 = .ok (.invokevirtual 71, 3) := by decide +kernel
theorem dX6_readSides_60 : decode cX6_readSides 60 = .ok (.bipush 48, 2) := by decide +kernel
theorem dX6_readSides_62 : decode cX6_readSides 62 = .ok (.isub, 1) := by decide +kernel
theorem dX6_readSides_63 : decode cX6_readSides 63 = .ok (.putfield 25, 3) := by decide +kernel
theorem dX6_readSides_66 : decode cX6_readSides 66 = .ok (.aload_n 0, 1) := by decide +kernel
theorem dX6_readSides_67 : decode cX6_readSides 67 = .ok (.aload_n 0, 1) := by decide +kernel
theorem dX6_readSides_68 : decode cX6_readSides 68 = .ok (.getfield 18, 3) := by decide +kernel
theorem dX6_readSides_71 : decode cX6_readSides 71 = .ok (.aload_n 0, 1) := by decide +kernel
theorem dX6_readSides_72 : decode cX6_readSides 72 = .ok (.getfield 22, 3) := by decide +kernel
theorem dX6_readSides_75 : decode cX6_readSides 75 = .ok (.aload_n 0, 1) := by decide +kernel
theorem dX6_readSides_76 : decode cX6_readSides 76 = .ok (.getfield 25, 3) := by decide +kernel
theorem dX6_readSides_79 : decode cX6_readSides 79 = .ok (.invokevirtual 75, 3) := by decide +kernel
theorem dX6_readSides_82 : decode cX6_readSides 82 = .ok (.ireturn, 1) := by decide +kernel
set_option maxRecDepth 20000 in
theorem ggX6_readSide_X6_isDigit : GoodIn wsX6_readSide wsX6_isDigit := goodIn_r _ [6, 7, 8, 9, 5, 10, 1, 11, 12, 25, 26, 27, 28, 29, 30, 31, 32] (by decide +kernel) (by decide +kernel)
set_option maxRecDepth 20000 in
theorem gX6_readSide_X6_isDigit : GoodIn wsX6_readSide (wsV RX6 79 RX6 yX6_isDigit wsX6_isDigit) := goodIn_app (goodIn_of _ (by decide +kernel)) ggX6_readSide_X6_isDigit
set_option maxRecDepth 20000 in
theorem ggX6_readSide_X6_failed : GoodIn wsX6_readSide wsX6_failed := goodIn_r _ [16, 17, 25, 26, 27, 28, 29, 30, 31, 32] (by decide +kernel) (by decide +kernel)
set_option maxRecDepth 20000 in
theorem gX6_readSide_X6_failed : GoodIn wsX6_readSide (wsV RX6 54 RX6 yX6_failed wsX6_failed) := goodIn_app (goodIn_of _ (by decide +kernel)) ggX6_readSide_X6_failed
set_option maxRecDepth 20000 in
theorem ggX6_readSide_X0_inRange : GoodIn wsX6_readSide wsX0_inRange := goodIn_r _ [21, 22, 23, 20, 24] (by decide +kernel) (by decide +kernel)
set_option maxRecDepth 20000 in
theorem gX6_readSide_X0_inRange : GoodIn wsX6_readSide (va_wsS RX6 82 yX0_inRange wsX0_inRange) := goodIn_app (goodIn_of _ (by decide +kernel)) ggX6_readSide_X0_inRange
theorem dX6_readSide_0 : decode cX6_readSide 0 = .ok (.aload_n 0, 1) := by decide +kernel
theorem dX6_readSide_1 : decode cX6_readSide 1 = .ok (.invokevirtual 79, 3) := by decide +kernel
theorem dX6_readSide_4 : decode cX6_readSide 4 = .ok (.ifCond .ne 9, 3) := by decide +kernel
theorem dX6_readSide_7 : decode cX6_readSide 7 = .ok (.aload_n 0, 1) := by decide +kernel
theorem dX6_readSide_8 : decode cX6_readSide 8 = .ok (.iconst 1, 1) := by decide +kernel
theorem dX6_readSide_9 : decode cX6_readSide 9 = .ok (.invokevirtual 54, 3) := by decide +kernel
theorem dX6_readSide_12 : decode cX6_readSide 12 = .ok (.ireturn, 1) := by decide +kernel
theorem dX6_readSide_13 : decode cX6_readSide 13 = .ok (.iload_n 1, 1) := by decide +kernel
theorem dX6_readSide_14 : decode cX6_readSide 14 = .ok (.iload_n 2, 1) := by decide +kernel
theorem dX6_readSide_15 : decode cX6_readSide 15 = .ok (.iload_n 3, 1) := by decide +kernel
theorem dX6_readSide_16 : decode cX6_readSide 16 = .ok (.invokestatic 82, 3) := by decide +kernel
theorem dX6_readSide_19 : decode cX6_readSide 19 = .ok (.ifCond .ne 9, 3) := by decide +kernel
theorem dX6_readSide_22 : decode cX6_readSide 22 = .ok (.aload_n 0, 1) := by decide +kernel
theorem dX6_readSide_23 : decode cX6_readSide 23 = .ok (.iconst 2, 1) := by decide +kernel
theorem dX6_readSide_24 : decode cX6_readSide 24 = .ok (.invokevirtual 54, 3) := by decide +kernel
theorem dX6_readSide_27 : decode cX6_readSide 27 = .ok (.ireturn, 1) := by decide +kernel
theorem dX6_readSide_28 : decode cX6_readSide 28 = .ok (.aload_n 0, 1) := by decide +kernel
theorem dX6_readSide_29 : decode cX6_readSide 29 = .ok (.dup, 1) := by decide +kernel
theorem dX6_readSide_30 : decode cX6_readSide 30 = .ok (.getfield 31, 3) := by decide +kernel
theorem dX6_readSide_33 : decode cX6_readSide 33 = .ok (.iconst 1, 1) := by decide +kernel
theorem dX6_readSide_34 : decode cX6_readSide 34 = .ok (.iadd, 1) := by decide +kernel
theorem dX6_readSide_35 : decode cX6_readSide 35 = .ok (.putfield 31, 3) := by decide +kernel
theorem dX6_readSide_38 : decode cX6_readSide 38 = .ok (.iconst 1, 1) := by decide +kernel
theorem dX6_readSide_39 : decode cX6_readSide 39 = .ok (.ireturn, 1) := by decide +kernel
set_option maxRecDepth 20000 in
theorem ggX6_readHeights_X6_sign : GoodIn wsX6_readHeights wsX6_sign := goodIn_r _ [6, 1, 7, 8, 65, 66, 67, 68, 69, 70, 71, 72] (by decide +kernel) (by decide +kernel)
set_option maxRecDepth 20000 in
theorem gX6_readHeights_X6_sign : GoodIn wsX6_readHeights (wsV RX6 71 RX6 yX6_sign wsX6_sign) := goodIn_app (goodIn_of _ (by decide +kernel)) ggX6_readHeights_X6_sign
set_option maxRecDepth 20000 in
theorem ggX6_readHeights_X6_readRows : GoodIn wsX6_readHeights wsX6_readRows := goodIn_r _ [12, 13, 14, 15, 16, 17, 5, 18, 1, 19, 20, 21, 22, 2, 3, 4, 6, 7, 8, 23, 24, 25, 26, 27, 28, 29, 30, 31, 32, 33, 34, 35, 36, 37, 38, 39, 40, 41, 42, 43, 44, 65, 66, 67, 68, 69, 70, 71, 72] (by decide +kernel) (by decide +kernel)
set_option maxRecDepth 20000 in
theorem gX6_readHeights_X6_readRows : GoodIn wsX6_readHeights (wsV RX6 85 RX6 yX6_readRows wsX6_readRows) := goodIn_app (goodIn_of _ (by decide +kernel)) ggX6_readHeights_X6_readRows
set_option maxRecDepth 20000 in
theorem ggX6_readHeights_X6_readDiagonals : GoodIn wsX6_readHeights wsX6_readDiagonals := goodIn_r _ [48, 13, 14, 37, 38, 35, 39, 15, 16, 17, 5, 18, 1, 19, 20, 21, 22, 2, 3, 4, 6, 7, 8, 23, 24, 25, 26, 27, 28, 29, 30, 31, 32, 33, 34, 36, 40, 41, 42, 43, 44, 65, 66, 67, 68, 69, 70, 71, 72] (by decide +kernel) (by decide +kernel)
set_option maxRecDepth 20000 in
theorem gX6_readHeights_X6_readDiagonals : GoodIn wsX6_readHeights (wsV RX6 88 RX6 yX6_readDiagonals wsX6_readDiagonals) := goodIn_app (goodIn_of _ (by decide +kernel)) ggX6_readHeights_X6_readDiagonals
set_option maxRecDepth 20000 in
theorem ggX6_readHeights_X6_readWords : GoodIn wsX6_readHeights wsX6_readWords := goodIn_r _ [52, 13, 53, 54, 55, 5, 56, 1, 2, 3, 4, 6, 7, 8, 23, 24, 25, 26, 27, 57, 58, 59, 60, 32, 14, 28, 29, 30, 31, 33, 34, 35, 36, 37, 38, 39, 40, 41, 42, 43, 44, 61, 62, 63, 64, 65, 66, 67, 68, 69, 70, 71, 72] (by decide +kernel) (by decide +kernel)
set_option maxRecDepth 20000 in
theorem gX6_readHeights_X6_readWords : GoodIn wsX6_readHeights (wsV RX6 91 RX6 yX6_readWords wsX6_readWords) := goodIn_app (goodIn_of _ (by decide +kernel)) ggX6_readHeights_X6_readWords
set_option maxRecDepth 20000 in
theorem ggX6_readHeights_X6_failed : GoodIn wsX6_readHeights wsX6_failed := goodIn_r _ [26, 27, 65, 66, 67, 68, 69, 70, 71, 72] (by decide +kernel) (by decide +kernel)
set_option maxRecDepth 20000 in
theorem gX6_readHeights_X6_failed : GoodIn wsX6_readHeights (wsV RX6 54 RX6 yX6_failed wsX6_failed) := goodIn_app (goodIn_of _ (by decide +kernel)) ggX6_readHeights_X6_failed
theorem dX6_readHeights_0 : decode cX6_readHeights 0 = .ok (.aload_n 0, 1) := by decide +kernel
theorem dX6_readHeights_1 : decode cX6_readHeights 1 = .ok (.invokevirtual 71, 3) := by decide +kernel
theorem dX6_readHeights_4 : decode cX6_readHeights 4 = .ok (.istore_n 1, 1) := by decide +kernel
theorem dX6_readHeights_5 : decode cX6_readHeights 5 = .ok (.iload_n 1, 1) := by decide +kernel
theorem dX6_readHeights_6 : decode cX6_readHeights 6 = .ok (.lookupswitch 79 #[(100, 49), (112, 64), (114, 34)], 34) := by decide +kernel
theorem dX6_readHeights_40 : decode cX6_readHeights 40 = .ok (.aload_n 0, 1) := by decide +kernel
theorem dX6_readHeights_41 : decode cX6_readHeights 41 = .ok (.dup, 1) := by decide +kernel
theorem dX6_readHeights_42 : decode cX6_readHeights 42 = .ok (.getfield 31, 3) := by decide +kernel
theorem dX6_readHeights_45 : decode cX6_readHeights 45 = .ok (.iconst 1, 1) := by decide +kernel
theorem dX6_readHeights_46 : decode cX6_readHeights 46 = .ok (.iadd, 1) := by decide +kernel
theorem dX6_readHeights_47 : decode cX6_readHeights 47 = .ok (.putfield 31, 3) := by decide +kernel
theorem dX6_readHeights_50 : decode cX6_readHeights 50 = .ok (.aload_n 0, 1) := by decide +kernel
theorem dX6_readHeights_51 : decode cX6_readHeights 51 = .ok (.invokevirtual 85, 3) := by decide +kernel
theorem dX6_readHeights_54 : decode cX6_readHeights 54 = .ok (.ireturn, 1) := by decide +kernel
theorem dX6_readHeights_55 : decode cX6_readHeights 55 = .ok (.aload_n 0, 1) := by decide +kernel
theorem dX6_readHeights_56 : decode cX6_readHeights 56 = .ok (.dup, 1) := by decide +kernel
theorem dX6_readHeights_57 : decode cX6_readHeights 57 = .ok (.getfield 31, 3) := by decide +kernel
theorem dX6_readHeights_60 : decode cX6_readHeights 60 = .ok (.iconst 1, 1) := by decide +kernel
theorem dX6_readHeights_61 : decode cX6_readHeights 61 = .ok (.iadd, 1) := by decide +kernel
theorem dX6_readHeights_62 : decode cX6_readHeights 62 = .ok (.putfield 31, 3) := by decide +kernel
theorem dX6_readHeights_65 : decode cX6_readHeights 65 = .ok (.aload_n 0, 1) := by decide +kernel
theorem dX6_readHeights_66 : decode cX6_readHeights 66 = .ok (.invokevirtual 88, 3) := by decide +kernel
theorem dX6_readHeights_69 : decode cX6_readHeights 69 = .ok (.ireturn, 1) := by decide +kernel
theorem dX6_readHeights_70 : decode cX6_readHeights 70 = .ok (.aload_n 0, 1) := by decide +kernel
theorem dX6_readHeights_71 : decode cX6_readHeights 71 = .ok (.dup, 1) := by decide +kernel
theorem dX6_readHeights_72 : decode cX6_readHeights 72 = .ok (.getfield 31, 3) := by decide +kernel
theorem dX6_readHeights_75 : decode cX6_readHeights 75 = .ok (.iconst 1, 1) := by decide +kernel
theorem dX6_readHeights_76 : decode cX6_readHeights 76 = .ok (.iadd, 1) := by decide +kernel
theorem dX6_readHeights_77 : decode cX6_readHeights 77 = .ok (.putfield 31, 3) := by decide +kernel
theorem dX6_readHeights_80 : decode cX6_readHeights 80 = .ok (.aload_n 0, 1) := by decide +kernel
theorem dX6_readHeights_81 : decode cX6_readHeights 81 = .ok (.invokevirtual 91, 3) := by decide +kernel
theorem dX6_readHeights_84 : decode cX6_readHeights 84 = .ok (.ireturn, 1) := by decide +kernel
theorem dX6_readHeights_85 : decode cX6_readHeights 85 = .ok (.aload_n 0, 1) := by decide +kernel
theorem dX6_readHeights_86 : decode cX6_readHeights 86 = .ok (.iconst 1, 1) := by decide +kernel
theorem dX6_readHeights_87 : decode cX6_readHeights 87 = .ok (.invokevirtual 54, 3) := by decide +kernel
theorem dX6_readHeights_90 : decode cX6_readHeights 90 = .ok (.ireturn, 1) := by decide +kernel
set_option maxRecDepth 20000 in
theorem ggX6_readRows_X6_readHeight : GoodIn wsX6_readRows wsX6_readHeight := goodIn_r _ [7, 8, 9, 10, 11, 6, 12, 13, 14, 15, 16, 17, 18, 19, 20, 21, 22, 23, 24, 25, 26, 27, 28, 29, 30, 31, 32, 33, 34, 35, 36, 37, 38, 39, 40, 41, 42, 43, 44, 45, 46, 47, 48] (by decide +kernel) (by decide +kernel)
set_option maxRecDepth 20000 in
theorem gX6_readRows_X6_readHeight : GoodIn wsX6_readRows (wsV RX6 94 RX6 yX6_readHeight wsX6_readHeight) := goodIn_app (goodIn_of _ (by decide +kernel)) ggX6_readRows_X6_readHeight
theorem dX6_readRows_0 : decode cX6_readRows 0 = .ok (.iconst 0, 1) := by decide +kernel
theorem dX6_readRows_1 : decode cX6_readRows 1 = .ok (.istore_n 1, 1) := by decide +kernel
theorem dX6_readRows_2 : decode cX6_readRows 2 = .ok (.iload_n 1, 1) := by decide +kernel
theorem dX6_readRows_3 : decode cX6_readRows 3 = .ok (.aload_n 0, 1) := by decide +kernel
theorem dX6_readRows_4 : decode cX6_readRows 4 = .ok (.getfield 18, 3) := by decide +kernel
theorem dX6_readRows_7 : decode cX6_readRows 7 = .ok (.if_icmp .ge 36, 3) := by decide +kernel
theorem dX6_readRows_10 : decode cX6_readRows 10 = .ok (.iconst 0, 1) := by decide +kernel
theorem dX6_readRows_11 : decode cX6_readRows 11 = .ok (.istore_n 2, 1) := by decide +kernel
theorem dX6_readRows_12 : decode cX6_readRows 12 = .ok (.iload_n 2, 1) := by decide +kernel
theorem dX6_readRows_13 : decode cX6_readRows 13 = .ok (.aload_n 0, 1) := by decide +kernel
theorem dX6_readRows_14 : decode cX6_readRows 14 = .ok (.getfield 22, 3) := by decide +kernel
theorem dX6_readRows_17 : decode cX6_readRows 17 = .ok (.if_icmp .ge 20, 3) := by decide +kernel
theorem dX6_readRows_20 : decode cX6_readRows 20 = .ok (.aload_n 0, 1) := by decide +kernel
theorem dX6_readRows_21 : decode cX6_readRows 21 = .ok (.iload_n 1, 1) := by decide +kernel
theorem dX6_readRows_22 : decode cX6_readRows 22 = .ok (.iload_n 2, 1) := by decide +kernel
theorem dX6_readRows_23 : decode cX6_readRows 23 = .ok (.invokevirtual 94, 3) := by decide +kernel
theorem dX6_readRows_26 : decode cX6_readRows 26 = .ok (.ifCond .ne 5, 3) := by decide +kernel
theorem dX6_readRows_29 : decode cX6_readRows 29 = .ok (.iconst 0, 1) := by decide +kernel
theorem dX6_readRows_30 : decode cX6_readRows 30 = .ok (.ireturn, 1) := by decide +kernel
theorem dX6_readRows_31 : decode cX6_readRows 31 = .ok (.iinc 2 1, 3) := by decide +kernel
theorem dX6_readRows_34 : decode cX6_readRows 34 = .ok (.goto (-22), 3) := by decide +kernel
theorem dX6_readRows_37 : decode cX6_readRows 37 = .ok (.iinc 1 1, 3) := by decide +kernel
theorem dX6_readRows_40 : decode cX6_readRows 40 = .ok (.goto (-38), 3) := by decide +kernel
theorem dX6_readRows_43 : decode cX6_readRows 43 = .ok (.iconst 1, 1) := by decide +kernel
theorem dX6_readRows_44 : decode cX6_readRows 44 = .ok (.ireturn, 1) := by decide +kernel
set_option maxRecDepth 20000 in
theorem ggX6_readDiagonals_X6_readHeight : GoodIn wsX6_readDiagonals wsX6_readHeight := goodIn_r _ [11, 12, 13, 14, 15, 10, 16, 17, 18, 19, 20, 21, 22, 23, 24, 25, 26, 27, 28, 29, 30, 31, 32, 33, 34, 5, 35, 3, 4, 6, 36, 37, 38, 39, 40, 41, 42, 43, 44, 45, 46, 47, 48] (by decide +kernel) (by decide +kernel)
set_option maxRecDepth 20000 in
theorem gX6_readDiagonals_X6_readHeight : GoodIn wsX6_readDiagonals (wsV RX6 94 RX6 yX6_readHeight wsX6_readHeight) := goodIn_app (goodIn_of _ (by decide +kernel)) ggX6_readDiagonals_X6_readHeight
theorem dX6_readDiagonals_0 : decode cX6_readDiagonals 0 = .ok (.iconst 1, 1) := by decide +kernel
theorem dX6_readDiagonals_1 : decode cX6_readDiagonals 1 = .ok (.aload_n 0, 1) := by decide +kernel
theorem dX6_readDiagonals_2 : decode cX6_readDiagonals 2 = .ok (.getfield 18, 3) := by decide +kernel
theorem dX6_readDiagonals_5 : decode cX6_readDiagonals 5 = .ok (.isub, 1) := by decide +kernel
theorem dX6_readDiagonals_6 : decode cX6_readDiagonals 6 = .ok (.istore_n 1, 1) := by decide +kernel
theorem dX6_readDiagonals_7 : decode cX6_readDiagonals 7 = .ok (.iload_n 1, 1) := by decide +kernel
theorem dX6_readDiagonals_8 : decode cX6_readDiagonals 8 = .ok (.aload_n 0, 1) := by decide +kernel
theorem dX6_readDiagonals_9 : decode cX6_readDiagonals 9 = .ok (.getfield 22, 3) := by decide +kernel
theorem dX6_readDiagonals_12 : decode cX6_readDiagonals 12 = .ok (.if_icmp .ge 53, 3) := by decide +kernel
theorem dX6_readDiagonals_15 : decode cX6_readDiagonals 15 = .ok (.iconst 0, 1) := by decide +kernel
theorem dX6_readDiagonals_16 : decode cX6_readDiagonals 16 = .ok (.iload_n 1, 1) := by decide +kernel
theorem dX6_readDiagonals_17 : decode cX6_readDiagonals 17 = .ok (.ineg, 1) := by decide +kernel
theorem dX6_readDiagonals_18 : decode cX6_readDiagonals 18 = .ok (.invokestatic 98, 3) := by decide +kernel
theorem dX6_readDiagonals_21 : decode cX6_readDiagonals 21 = .ok (.istore_n 2, 1) := by decide +kernel
theorem dX6_readDiagonals_22 : decode cX6_readDiagonals 22 = .ok (.iload_n 2, 1) := by decide +kernel
theorem dX6_readDiagonals_23 : decode cX6_readDiagonals 23 = .ok (.aload_n 0, 1) := by decide +kernel
theorem dX6_readDiagonals_24 : decode cX6_readDiagonals 24 = .ok (.getfield 18, 3) := by decide +kernel
theorem dX6_readDiagonals_27 : decode cX6_readDiagonals 27 = .ok (.if_icmp .ge 32, 3) := by decide +kernel
theorem dX6_readDiagonals_30 : decode cX6_readDiagonals 30 = .ok (.iload_n 2, 1) := by decide +kernel
theorem dX6_readDiagonals_31 : decode cX6_readDiagonals 31 = .ok (.iload_n 1, 1) := by decide +kernel
theorem dX6_readDiagonals_32 : decode cX6_readDiagonals 32 = .ok (.iadd, 1) := by decide +kernel
theorem dX6_readDiagonals_33 : decode cX6_readDiagonals 33 = .ok (.aload_n 0, 1) := by decide +kernel
theorem dX6_readDiagonals_34 : decode cX6_readDiagonals 34 = .ok (.getfield 22, 3) := by decide +kernel
theorem dX6_readDiagonals_37 : decode cX6_readDiagonals 37 = .ok (.if_icmp .ge 22, 3) := by decide +kernel
theorem dX6_readDiagonals_40 : decode cX6_readDiagonals 40 = .ok (.aload_n 0, 1) := by decide +kernel
theorem dX6_readDiagonals_41 : decode cX6_readDiagonals 41 = .ok (.iload_n 2, 1) := by decide +kernel
theorem dX6_readDiagonals_42 : decode cX6_readDiagonals 42 = .ok (.iload_n 2, 1) := by decide +kernel
theorem dX6_readDiagonals_43 : decode cX6_readDiagonals 43 = .ok (.iload_n 1, 1) := by decide +kernel
theorem dX6_readDiagonals_44 : decode cX6_readDiagonals 44 = .ok (.iadd, 1) := by decide +kernel
theorem dX6_readDiagonals_45 : decode cX6_readDiagonals 45 = .ok (.invokevirtual 94, 3) := by decide +kernel
theorem dX6_readDiagonals_48 : decode cX6_readDiagonals 48 = .ok (.ifCond .ne 5, 3) := by decide +kernel
theorem dX6_readDiagonals_51 : decode cX6_readDiagonals 51 = .ok (.iconst 0, 1) := by decide +kernel
theorem dX6_readDiagonals_52 : decode cX6_readDiagonals 52 = .ok (.ireturn, 1) := by decide +kernel
theorem dX6_readDiagonals_53 : decode cX6_readDiagonals 53 = .ok (.iinc 2 1, 3) := by decide +kernel
theorem dX6_readDiagonals_56 : decode cX6_readDiagonals 56 = .ok (.goto (-34), 3) := by decide +kernel
theorem dX6_readDiagonals_59 : decode cX6_readDiagonals 59 = .ok (.iinc 1 1, 3) := by decide +kernel
theorem dX6_readDiagonals_62 : decode cX6_readDiagonals 62 = .ok (.goto (-55), 3) := by decide +kernel
theorem dX6_readDiagonals_65 : decode cX6_readDiagonals 65 = .ok (.iconst 1, 1) := by decide +kernel
theorem dX6_readDiagonals_66 : decode cX6_readDiagonals 66 = .ok (.ireturn, 1) := by decide +kernel
set_option maxRecDepth 20000 in
theorem ggX6_readHeight_X6_isDigit : GoodIn wsX6_readHeight wsX6_isDigit := goodIn_r _ [6, 7, 8, 9, 5, 10, 1, 11, 12, 35, 36, 37, 38, 39, 40, 41, 42] (by decide +kernel) (by decide +kernel)
set_option maxRecDepth 20000 in
theorem gX6_readHeight_X6_isDigit : GoodIn wsX6_readHeight (wsV RX6 79 RX6 yX6_isDigit wsX6_isDigit) := goodIn_app (goodIn_of _ (by decide +kernel)) ggX6_readHeight_X6_isDigit
set_option maxRecDepth 20000 in
theorem ggX6_readHeight_X6_failed : GoodIn wsX6_readHeight wsX6_failed := goodIn_r _ [16, 17, 35, 36, 37, 38, 39, 40, 41, 42] (by decide +kernel) (by decide +kernel)
set_option maxRecDepth 20000 in
theorem gX6_readHeight_X6_failed : GoodIn wsX6_readHeight (wsV RX6 54 RX6 yX6_failed wsX6_failed) := goodIn_app (goodIn_of _ (by decide +kernel)) ggX6_readHeight_X6_failed
set_option maxRecDepth 20000 in
theorem ggX6_readHeight_X6_sign : GoodIn wsX6_readHeight wsX6_sign := goodIn_r _ [10, 1, 11, 12, 35, 36, 37, 38, 39, 40, 41, 42] (by decide +kernel) (by decide +kernel)
set_option maxRecDepth 20000 in
theorem gX6_readHeight_X6_sign : GoodIn wsX6_readHeight (wsV RX6 71 RX6 yX6_sign wsX6_sign) := goodIn_app (goodIn_of _ (by decide +kernel)) ggX6_readHeight_X6_sign
set_option maxRecDepth 20000 in
theorem ggX6_readHeight_X6_tell : GoodIn wsX6_readHeight wsX6_tell := goodIn_r _ [21, 22, 23, 24, 25, 26, 27, 28, 29, 30, 31, 32, 33, 5, 34, 35, 36, 37, 38, 39, 40, 41, 42] (by decide +kernel) (by decide +kernel)
set_option maxRecDepth 20000 in
theorem gX6_readHeight_X6_tell : GoodIn wsX6_readHeight (wsV RX6 104 RX6 yX6_tell wsX6_tell) := goodIn_app (goodIn_of _ (by decide +kernel)) ggX6_readHeight_X6_tell
theorem dX6_readHeight_0 : decode cX6_readHeight 0 = .ok (.aload_n 0, 1) := by decide +kernel
theorem dX6_readHeight_1 : decode cX6_readHeight 1 = .ok (.invokevirtual 79, 3) := by decide +kernel
theorem dX6_readHeight_4 : decode cX6_readHeight 4 = .ok (.ifCond .ne 9, 3) := by decide +kernel
theorem dX6_readHeight_7 : decode cX6_readHeight 7 = .ok (.aload_n 0, 1) := by decide +kernel
theorem dX6_readHeight_8 : decode cX6_readHeight 8 = .ok (.iconst 1, 1) := by decide +kernel
theorem dX6_readHeight_9 : decode cX6_readHeight 9 = .ok (.invokevirtual 54, 3) := by decide +kernel
theorem dX6_readHeight_12 : decode cX6_readHeight 12 = .ok (.ireturn, 1) := by decide +kernel
theorem dX6_readHeight_13 : decode cX6_readHeight 13 = .ok (.aload_n 0, 1) := by decide +kernel
theorem dX6_readHeight_14 : decode cX6_readHeight 14 = .ok (.iload_n 1, 1) := by decide +kernel
theorem dX6_readHeight_15 : decode cX6_readHeight 15 = .ok (.iload_n 2, 1) := by decide +kernel
theorem dX6_readHeight_16 : decode cX6_readHeight 16 = .ok (.aload_n 0, 1) := by decide +kernel
theorem dX6_readHeight_17 : decode cX6_readHeight 17 = .ok (.invokevirtual 71, 3) := by decide +kernel
theorem dX6_readHeight_20 : decode cX6_readHeight 20 = .ok (.bipush 48, 2) := by decide +kernel
theorem dX6_readHeight_22 : decode cX6_readHeight 22 = .ok (.isub, 1) := by decide +kernel
theorem dX6_readHeight_23 : decode cX6_readHeight 23 = .ok (.invokevirtual 104, 3) := by decide +kernel
theorem dX6_readHeight_26 : decode cX6_readHeight 26 = .ok (.ifCond .ne 9, 3) := by decide +kernel
theorem dX6_readHeight_29 : decode cX6_readHeight 29 = .ok (.aload_n 0, 1) := by decide +kernel
theorem dX6_readHeight_30 : decode cX6_readHeight 30 = .ok (.iconst 2, 1) := by decide +kernel
theorem dX6_readHeight_31 : decode cX6_readHeight 31 = .ok (.invokevirtual 54, 3) := by decide +kernel
theorem dX6_readHeight_34 : decode cX6_readHeight 34 = .ok (.ireturn, 1) := by decide +kernel
theorem dX6_readHeight_35 : decode cX6_readHeight 35 = .ok (.aload_n 0, 1) := by decide +kernel
theorem dX6_readHeight_36 : decode cX6_readHeight 36 = .ok (.dup, 1) := by decide +kernel
theorem dX6_readHeight_37 : decode cX6_readHeight 37 = .ok (.getfield 31, 3) := by decide +kernel
theorem dX6_readHeight_40 : decode cX6_readHeight 40 = .ok (.iconst 1, 1) := by decide +kernel
theorem dX6_readHeight_41 : decode cX6_readHeight 41 = .ok (.iadd, 1) := by decide +kernel
theorem dX6_readHeight_42 : decode cX6_readHeight 42 = .ok (.putfield 31, 3) := by decide +kernel
theorem dX6_readHeight_45 : decode cX6_readHeight 45 = .ok (.iconst 1, 1) := by decide +kernel
theorem dX6_readHeight_46 : decode cX6_readHeight 46 = .ok (.ireturn, 1) := by decide +kernel
set_option maxRecDepth 20000 in
theorem ggX6_readWords_X6_readSign : GoodIn wsX6_readWords wsX6_readSign := goodIn_r _ [6, 7, 8, 9, 10, 5, 11, 12, 13, 14, 15, 16, 17, 18, 45, 46, 47, 48, 49, 50, 51, 52] (by decide +kernel) (by decide +kernel)
set_option maxRecDepth 20000 in
theorem gX6_readWords_X6_readSign : GoodIn wsX6_readWords (wsV RX6 43 RX6 yX6_readSign wsX6_readSign) := goodIn_app (goodIn_of _ (by decide +kernel)) ggX6_readWords_X6_readSign
set_option maxRecDepth 20000 in
theorem ggX6_readWords_X6_readWord : GoodIn wsX6_readWords wsX6_readWord := goodIn_r _ [22, 23, 24, 7, 8, 9, 10, 5, 11, 12, 13, 25, 26, 27, 28, 29, 30, 31, 32, 33, 34, 35, 36, 37, 38, 39, 40, 14, 15, 16, 17, 18, 41, 42, 43, 44, 45, 46, 47, 48, 49, 50, 51, 52] (by decide +kernel) (by decide +kernel)
set_option maxRecDepth 20000 in
theorem gX6_readWords_X6_readWord : GoodIn wsX6_readWords (wsV RX6 107 RX6 yX6_readWord wsX6_readWord) := goodIn_app (goodIn_of _ (by decide +kernel)) ggX6_readWords_X6_readWord
theorem dX6_readWords_0 : decode cX6_readWords 0 = .ok (.iconst 0, 1) := by decide +kernel
theorem dX6_readWords_1 : decode cX6_readWords 1 = .ok (.istore_n 1, 1) := by decide +kernel
theorem dX6_readWords_2 : decode cX6_readWords 2 = .ok (.iload_n 1, 1) := by decide +kernel
theorem dX6_readWords_3 : decode cX6_readWords 3 = .ok (.aload_n 0, 1) := by decide +kernel
theorem dX6_readWords_4 : decode cX6_readWords 4 = .ok (.getfield 18, 3) := by decide +kernel
theorem dX6_readWords_7 : decode cX6_readWords 7 = .ok (.if_icmp .ge 34, 3) := by decide +kernel
theorem dX6_readWords_10 : decode cX6_readWords 10 = .ok (.iload_n 1, 1) := by decide +kernel
theorem dX6_readWords_11 : decode cX6_readWords 11 = .ok (.ifCond .le 14, 3) := by decide +kernel
theorem dX6_readWords_14 : decode cX6_readWords 14 = .ok (.aload_n 0, 1) := by decide +kernel
theorem dX6_readWords_15 : decode cX6_readWords 15 = .ok (.bipush 44, 2) := by decide +kernel
theorem dX6_readWords_17 : decode cX6_readWords 17 = .ok (.invokevirtual 43, 3) := by decide +kernel
theorem dX6_readWords_20 : decode cX6_readWords 20 = .ok (.ifCond .ne 5, 3) := by decide +kernel
theorem dX6_readWords_23 : decode cX6_readWords 23 = .ok (.iconst 0, 1) := by decide +kernel
theorem dX6_readWords_24 : decode cX6_readWords 24 = .ok (.ireturn, 1) := by decide +kernel
theorem dX6_readWords_25 : decode cX6_readWords 25 = .ok (.aload_n 0, 1) := by decide +kernel
theorem dX6_readWords_26 : decode cX6_readWords 26 = .ok (.iload_n 1, 1) := by decide +kernel
theorem dX6_readWords_27 : decode cX6_readWords 27 = .ok (.invokevirtual 107, 3) := by decide +kernel
theorem dX6_readWords_30 : decode cX6_readWords 30 = .ok (.ifCond .ne 5, 3) := by decide +kernel
theorem dX6_readWords_33 : decode cX6_readWords 33 = .ok (.iconst 0, 1) := by decide +kernel
theorem dX6_readWords_34 : decode cX6_readWords 34 = .ok (.ireturn, 1) := by decide +kernel
theorem dX6_readWords_35 : decode cX6_readWords 35 = .ok (.iinc 1 1, 3) := by decide +kernel
theorem dX6_readWords_38 : decode cX6_readWords 38 = .ok (.goto (-36), 3) := by decide +kernel
theorem dX6_readWords_41 : decode cX6_readWords 41 = .ok (.iconst 1, 1) := by decide +kernel
theorem dX6_readWords_42 : decode cX6_readWords 42 = .ok (.ireturn, 1) := by decide +kernel
set_option maxRecDepth 20000 in
theorem ggX6_readWord_X6_sign : GoodIn wsX6_readWord wsX6_sign := goodIn_r _ [8, 3, 9, 10, 36, 37, 38, 39, 40, 41, 42, 43] (by decide +kernel) (by decide +kernel)
set_option maxRecDepth 20000 in
theorem gX6_readWord_X6_sign : GoodIn wsX6_readWord (wsV RX6 71 RX6 yX6_sign wsX6_sign) := goodIn_app (goodIn_of _ (by decide +kernel)) ggX6_readWord_X6_sign
set_option maxRecDepth 20000 in
theorem ggX6_readWord_X6_tell : GoodIn wsX6_readWord wsX6_tell := goodIn_r _ [14, 1, 15, 16, 17, 18, 19, 20, 21, 22, 23, 24, 25, 7, 26, 36, 37, 38, 39, 40, 41, 42, 43] (by decide +kernel) (by decide +kernel)
set_option maxRecDepth 20000 in
theorem gX6_readWord_X6_tell : GoodIn wsX6_readWord (wsV RX6 104 RX6 yX6_tell wsX6_tell) := goodIn_app (goodIn_of _ (by decide +kernel)) ggX6_readWord_X6_tell
set_option maxRecDepth 20000 in
theorem ggX6_readWord_X6_failed : GoodIn wsX6_readWord wsX6_failed := goodIn_r _ [30, 31, 36, 37, 38, 39, 40, 41, 42, 43] (by decide +kernel) (by decide +kernel)
set_option maxRecDepth 20000 in
theorem gX6_readWord_X6_failed : GoodIn wsX6_readWord (wsV RX6 54 RX6 yX6_failed wsX6_failed) := goodIn_app (goodIn_of _ (by decide +kernel)) ggX6_readWord_X6_failed
set_option maxRecDepth 20000 in
theorem ggX6_readWord_X6_isLetter : GoodIn wsX6_readWord wsX6_isLetter := goodIn_r _ [35, 4, 5, 6, 7, 8, 3, 9, 10, 36, 37, 38, 39, 40, 41, 42, 43] (by decide +kernel) (by decide +kernel)
set_option maxRecDepth 20000 in
theorem gX6_readWord_X6_isLetter : GoodIn wsX6_readWord (wsV RX6 110 RX6 yX6_isLetter wsX6_isLetter) := goodIn_app (goodIn_of _ (by decide +kernel)) ggX6_readWord_X6_isLetter
theorem dX6_readWord_0 : decode cX6_readWord 0 = .ok (.iconst 0, 1) := by decide +kernel
theorem dX6_readWord_1 : decode cX6_readWord 1 = .ok (.istore_n 2, 1) := by decide +kernel
theorem dX6_readWord_2 : decode cX6_readWord 2 = .ok (.aload_n 0, 1) := by decide +kernel
theorem dX6_readWord_3 : decode cX6_readWord 3 = .ok (.getfield 25, 3) := by decide +kernel
theorem dX6_readWord_6 : decode cX6_readWord 6 = .ok (.istore_n 3, 1) := by decide +kernel
theorem dX6_readWord_7 : decode cX6_readWord 7 = .ok (.iconst 0, 1) := by decide +kernel
theorem dX6_readWord_8 : decode cX6_readWord 8 = .ok (.istore 4, 2) := by decide +kernel
theorem dX6_readWord_10 : decode cX6_readWord 10 = .ok (.iload 4, 2) := by decide +kernel
theorem dX6_readWord_12 : decode cX6_readWord 12 = .ok (.aload_n 0, 1) := by decide +kernel
theorem dX6_readWord_13 : decode cX6_readWord 13 = .ok (.getfield 22, 3) := by decide +kernel
theorem dX6_readWord_16 : decode cX6_readWord 16 = .ok (.aload_n 0, 1) := by decide +kernel
theorem dX6_readWord_17 : decode cX6_readWord 17 = .ok (.getfield 25, 3) := by decide +kernel
theorem dX6_readWord_20 : decode cX6_readWord 20 = .ok (.iadd, 1) := by decide +kernel
theorem dX6_readWord_21 : decode cX6_readWord 21 = .ok (.if_icmp .ge 91, 3) := by decide +kernel
theorem dX6_readWord_24 : decode cX6_readWord 24 = .ok (.aload_n 0, 1) := by decide +kernel
theorem dX6_readWord_25 : decode cX6_readWord 25 = .ok (.invokevirtual 71, 3) := by decide +kernel
theorem dX6_readWord_28 : decode cX6_readWord 28 = .ok (.istore 5, 2) := by decide +kernel
theorem dX6_readWord_30 : decode cX6_readWord 30 = .ok (.iload 5, 2) := by decide +kernel
theorem dX6_readWord_32 : decode cX6_readWord 32 = .ok (.bipush 101, 2) := by decide +kernel
theorem dX6_readWord_34 : decode cX6_readWord 34 = .ok (.if_icmp .ne 33, 3) := by decide +kernel
theorem dX6_readWord_37 : decode cX6_readWord 37 = .ok (.iload_n 2, 1) := by decide +kernel
theorem dX6_readWord_38 : decode cX6_readWord 38 = .ok (.aload_n 0, 1) := by decide +kernel
theorem dX6_readWord_39 : decode cX6_readWord 39 = .ok (.getfield 22, 3) := by decide +kernel
theorem dX6_readWord_42 : decode cX6_readWord 42 = .ok (.if_icmp .ge 13, 3) := by decide +kernel
theorem dX6_readWord_45 : decode cX6_readWord 45 = .ok (.aload_n 0, 1) := by decide +kernel
theorem dX6_readWord_46 : decode cX6_readWord 46 = .ok (.iload_n 1, 1) := by decide +kernel
theorem dX6_readWord_47 : decode cX6_readWord 47 = .ok (.iload_n 2, 1) := by decide +kernel
theorem dX6_readWord_48 : decode cX6_readWord 48 = .ok (.iload_n 3, 1) := by decide +kernel
theorem dX6_readWord_49 : decode cX6_readWord 49 = .ok (.invokevirtual 104, 3) := by decide +kernel
theorem dX6_readWord_52 : decode cX6_readWord 52 = .ok (.ifCond .ne 9, 3) := by decide +kernel
theorem dX6_readWord_55 : decode cX6_readWord 55 = .ok (.aload_n 0, 1) := by decide +kernel
theorem dX6_readWord_56 : decode cX6_readWord 56 = .ok (.iconst 2, 1) := by decide +kernel
theorem dX6_readWord_57 : decode cX6_readWord 57 = .ok (.invokevirtual 54, 3) := by decide +kernel
theorem dX6_readWord_60 : decode cX6_readWord 60 = .ok (.ireturn, 1) := by decide +kernel
theorem dX6_readWord_61 : decode cX6_readWord 61 = .ok (.iinc 2 1, 3) := by decide +kernel
theorem dX6_readWord_64 : decode cX6_readWord 64 = .ok (.goto 32, 3) := by decide +kernel
theorem dX6_readWord_67 : decode cX6_readWord 67 = .ok (.iload 5, 2) := by decide +kernel
theorem dX6_readWord_69 : decode cX6_readWord 69 = .ok (.bipush 110, 2) := by decide +kernel
theorem dX6_readWord_71 : decode cX6_readWord 71 = .ok (.if_icmp .ne 19, 3) := by decide +kernel
theorem dX6_readWord_74 : decode cX6_readWord 74 = .ok (.iload_n 3, 1) := by decide +kernel
theorem dX6_readWord_75 : decode cX6_readWord 75 = .ok (.ifCond .gt 9, 3) := by decide +kernel
theorem dX6_readWord_78 : decode cX6_readWord 78 = .ok (.aload_n 0, 1) := by decide +kernel
theorem dX6_readWord_79 : decode cX6_readWord 79 = .ok (.iconst 2, 1) := by decide +kernel
theorem dX6_readWord_80 : decode cX6_readWord 80 = .ok (.invokevirtual 54, 3) := by decide +kernel
theorem dX6_readWord_83 : decode cX6_readWord 83 = .ok (.ireturn, 1) := by decide +kernel
theorem dX6_readWord_84 : decode cX6_readWord 84 = .ok (.iinc 3 (-1), 3) := by decide +kernel
theorem dX6_readWord_87 : decode cX6_readWord 87 = .ok (.goto 9, 3) := by decide +kernel
theorem dX6_readWord_90 : decode cX6_readWord 90 = .ok (.aload_n 0, 1) := by decide +kernel
theorem dX6_readWord_91 : decode cX6_readWord 91 = .ok (.iconst 1, 1) := by decide +kernel
theorem dX6_readWord_92 : decode cX6_readWord 92 = .ok (.invokevirtual 54, 3) := by decide +kernel
theorem dX6_readWord_95 : decode cX6_readWord 95 = .ok (.ireturn, 1) := by decide +kernel
theorem dX6_readWord_96 : decode cX6_readWord 96 = .ok (.aload_n 0, 1) := by decide +kernel
theorem dX6_readWord_97 : decode cX6_readWord 97 = .ok (.dup, 1) := by decide +kernel
theorem dX6_readWord_98 : decode cX6_readWord 98 = .ok (.getfield 31, 3) := by decide +kernel
theorem dX6_readWord_101 : decode cX6_readWord 101 = .ok (.iconst 1, 1) := by decide +kernel
theorem dX6_readWord_102 : decode cX6_readWord 102 = .ok (.iadd, 1) := by decide +kernel
theorem dX6_readWord_103 : decode cX6_readWord 103 = .ok (.putfield 31, 3) := by decide +kernel
theorem dX6_readWord_106 : decode cX6_readWord 106 = .ok (.iinc 4 1, 3) := by decide +kernel
theorem dX6_readWord_109 : decode cX6_readWord 109 = .ok (.goto (-99), 3) := by decide +kernel
theorem dX6_readWord_112 : decode cX6_readWord 112 = .ok (.aload_n 0, 1) := by decide +kernel
theorem dX6_readWord_113 : decode cX6_readWord 113 = .ok (.invokevirtual 110, 3) := by decide +kernel
theorem dX6_readWord_116 : decode cX6_readWord 116 = .ok (.ifCond .eq 11, 3) := by decide +kernel
theorem dX6_readWord_119 : decode cX6_readWord 119 = .ok (.aload_n 0, 1) := by decide +kernel
theorem dX6_readWord_120 : decode cX6_readWord 120 = .ok (.iconst 2, 1) := by decide +kernel
theorem dX6_readWord_121 : decode cX6_readWord 121 = .ok (.invokevirtual 54, 3) := by decide +kernel
theorem dX6_readWord_124 : decode cX6_readWord 124 = .ok (.ifCond .eq 7, 3) := by decide +kernel
theorem dX6_readWord_127 : decode cX6_readWord 127 = .ok (.iconst 1, 1) := by decide +kernel
theorem dX6_readWord_128 : decode cX6_readWord 128 = .ok (.goto 4, 3) := by decide +kernel
theorem dX6_readWord_131 : decode cX6_readWord 131 = .ok (.iconst 0, 1) := by decide +kernel
theorem dX6_readWord_132 : decode cX6_readWord 132 = .ok (.ireturn, 1) := by decide +kernel
set_option maxRecDepth 20000 in
theorem ggX6_tell_X6_toldAt : GoodIn wsX6_tell wsX6_toldAt := goodIn_r _ [14, 9, 15, 16, 17, 18, 19, 20, 21, 22] (by decide +kernel) (by decide +kernel)
set_option maxRecDepth 20000 in
theorem gX6_tell_X6_toldAt : GoodIn wsX6_tell (wsV RX6 113 RX6 yX6_toldAt wsX6_toldAt) := goodIn_app (goodIn_of _ (by decide +kernel)) ggX6_tell_X6_toldAt
theorem dX6_tell_0 : decode cX6_tell 0 = .ok (.aload_n 0, 1) := by decide +kernel
theorem dX6_tell_1 : decode cX6_tell 1 = .ok (.iload_n 1, 1) := by decide +kernel
theorem dX6_tell_2 : decode cX6_tell 2 = .ok (.iconst 1, 1) := by decide +kernel
theorem dX6_tell_3 : decode cX6_tell 3 = .ok (.isub, 1) := by decide +kernel
theorem dX6_tell_4 : decode cX6_tell 4 = .ok (.iload_n 2, 1) := by decide +kernel
theorem dX6_tell_5 : decode cX6_tell 5 = .ok (.aload_n 0, 1) := by decide +kernel
theorem dX6_tell_6 : decode cX6_tell 6 = .ok (.getfield 25, 3) := by decide +kernel
theorem dX6_tell_9 : decode cX6_tell 9 = .ok (.invokevirtual 113, 3) := by decide +kernel
theorem dX6_tell_12 : decode cX6_tell 12 = .ok (.aload_n 0, 1) := by decide +kernel
theorem dX6_tell_13 : decode cX6_tell 13 = .ok (.iload_n 1, 1) := by decide +kernel
theorem dX6_tell_14 : decode cX6_tell 14 = .ok (.iload_n 2, 1) := by decide +kernel
theorem dX6_tell_15 : decode cX6_tell 15 = .ok (.iconst 1, 1) := by decide +kernel
theorem dX6_tell_16 : decode cX6_tell 16 = .ok (.isub, 1) := by decide +kernel
theorem dX6_tell_17 : decode cX6_tell 17 = .ok (.aload_n 0, 1) := by decide +kernel
theorem dX6_tell_18 : decode cX6_tell 18 = .ok (.getfield 25, 3) := by decide +kernel
theorem dX6_tell_21 : decode cX6_tell 21 = .ok (.invokevirtual 113, 3) := by decide +kernel
theorem dX6_tell_24 : decode cX6_tell 24 = .ok (.invokestatic 117, 3) := by decide +kernel
theorem dX6_tell_27 : decode cX6_tell 27 = .ok (.istore 4, 2) := by decide +kernel
theorem dX6_tell_29 : decode cX6_tell 29 = .ok (.aload_n 0, 1) := by decide +kernel
theorem dX6_tell_30 : decode cX6_tell 30 = .ok (.iload_n 1, 1) := by decide +kernel
theorem dX6_tell_31 : decode cX6_tell 31 = .ok (.iconst 1, 1) := by decide +kernel
theorem dX6_tell_32 : decode cX6_tell 32 = .ok (.iadd, 1) := by decide +kernel
theorem dX6_tell_33 : decode cX6_tell 33 = .ok (.iload_n 2, 1) := by decide +kernel
theorem dX6_tell_34 : decode cX6_tell 34 = .ok (.iconst 0, 1) := by decide +kernel
theorem dX6_tell_35 : decode cX6_tell 35 = .ok (.invokevirtual 113, 3) := by decide +kernel
theorem dX6_tell_38 : decode cX6_tell 38 = .ok (.aload_n 0, 1) := by decide +kernel
theorem dX6_tell_39 : decode cX6_tell 39 = .ok (.iload_n 1, 1) := by decide +kernel
theorem dX6_tell_40 : decode cX6_tell 40 = .ok (.iload_n 2, 1) := by decide +kernel
theorem dX6_tell_41 : decode cX6_tell 41 = .ok (.iconst 1, 1) := by decide +kernel
theorem dX6_tell_42 : decode cX6_tell 42 = .ok (.iadd, 1) := by decide +kernel
theorem dX6_tell_43 : decode cX6_tell 43 = .ok (.iconst 0, 1) := by decide +kernel
theorem dX6_tell_44 : decode cX6_tell 44 = .ok (.invokevirtual 113, 3) := by decide +kernel
theorem dX6_tell_47 : decode cX6_tell 47 = .ok (.invokestatic 98, 3) := by decide +kernel
theorem dX6_tell_50 : decode cX6_tell 50 = .ok (.istore 5, 2) := by decide +kernel
theorem dX6_tell_52 : decode cX6_tell 52 = .ok (.iload_n 3, 1) := by decide +kernel
theorem dX6_tell_53 : decode cX6_tell 53 = .ok (.iload 4, 2) := by decide +kernel
theorem dX6_tell_55 : decode cX6_tell 55 = .ok (.if_icmp .gt 9, 3) := by decide +kernel
theorem dX6_tell_58 : decode cX6_tell 58 = .ok (.iload_n 3, 1) := by decide +kernel
theorem dX6_tell_59 : decode cX6_tell 59 = .ok (.iload 5, 2) := by decide +kernel
theorem dX6_tell_61 : decode cX6_tell 61 = .ok (.if_icmp .ge 5, 3) := by decide +kernel
theorem dX6_tell_64 : decode cX6_tell 64 = .ok (.iconst 0, 1) := by decide +kernel
theorem dX6_tell_65 : decode cX6_tell 65 = .ok (.ireturn, 1) := by decide +kernel
theorem dX6_tell_66 : decode cX6_tell 66 = .ok (.aload_n 0, 1) := by decide +kernel
theorem dX6_tell_67 : decode cX6_tell 67 = .ok (.getfield 15, 3) := by decide +kernel
theorem dX6_tell_70 : decode cX6_tell 70 = .ok (.iload_n 1, 1) := by decide +kernel
theorem dX6_tell_71 : decode cX6_tell 71 = .ok (.iconst 4, 1) := by decide +kernel
theorem dX6_tell_72 : decode cX6_tell 72 = .ok (.imul, 1) := by decide +kernel
theorem dX6_tell_73 : decode cX6_tell 73 = .ok (.iload_n 2, 1) := by decide +kernel
theorem dX6_tell_74 : decode cX6_tell 74 = .ok (.iadd, 1) := by decide +kernel
theorem dX6_tell_75 : decode cX6_tell 75 = .ok (.iload_n 3, 1) := by decide +kernel
theorem dX6_tell_76 : decode cX6_tell 76 = .ok (.iastore, 1) := by decide +kernel
theorem dX6_tell_77 : decode cX6_tell 77 = .ok (.iconst 1, 1) := by decide +kernel
theorem dX6_tell_78 : decode cX6_tell 78 = .ok (.ireturn, 1) := by decide +kernel
theorem dX6_toldAt_0 : decode cX6_toldAt 0 = .ok (.iload_n 1, 1) := by decide +kernel
theorem dX6_toldAt_1 : decode cX6_toldAt 1 = .ok (.ifCond .lt 17, 3) := by decide +kernel
theorem dX6_toldAt_4 : decode cX6_toldAt 4 = .ok (.iload_n 1, 1) := by decide +kernel
theorem dX6_toldAt_5 : decode cX6_toldAt 5 = .ok (.iconst 4, 1) := by decide +kernel
theorem dX6_toldAt_6 : decode cX6_toldAt 6 = .ok (.if_icmp .ge 12, 3) := by decide +kernel
theorem dX6_toldAt_9 : decode cX6_toldAt 9 = .ok (.iload_n 2, 1) := by decide +kernel
theorem dX6_toldAt_10 : decode cX6_toldAt 10 = .ok (.ifCond .lt 8, 3) := by decide +kernel
theorem dX6_toldAt_13 : decode cX6_toldAt 13 = .ok (.iload_n 2, 1) := by decide +kernel
theorem dX6_toldAt_14 : decode cX6_toldAt 14 = .ok (.iconst 4, 1) := by decide +kernel
theorem dX6_toldAt_15 : decode cX6_toldAt 15 = .ok (.if_icmp .lt 5, 3) := by decide +kernel
theorem dX6_toldAt_18 : decode cX6_toldAt 18 = .ok (.iload_n 3, 1) := by decide +kernel
theorem dX6_toldAt_19 : decode cX6_toldAt 19 = .ok (.ireturn, 1) := by decide +kernel
theorem dX6_toldAt_20 : decode cX6_toldAt 20 = .ok (.aload_n 0, 1) := by decide +kernel
theorem dX6_toldAt_21 : decode cX6_toldAt 21 = .ok (.getfield 15, 3) := by decide +kernel
theorem dX6_toldAt_24 : decode cX6_toldAt 24 = .ok (.iload_n 1, 1) := by decide +kernel
theorem dX6_toldAt_25 : decode cX6_toldAt 25 = .ok (.iconst 4, 1) := by decide +kernel
theorem dX6_toldAt_26 : decode cX6_toldAt 26 = .ok (.imul, 1) := by decide +kernel
theorem dX6_toldAt_27 : decode cX6_toldAt 27 = .ok (.iload_n 2, 1) := by decide +kernel
theorem dX6_toldAt_28 : decode cX6_toldAt 28 = .ok (.iadd, 1) := by decide +kernel
theorem dX6_toldAt_29 : decode cX6_toldAt 29 = .ok (.iaload, 1) := by decide +kernel
theorem dX6_toldAt_30 : decode cX6_toldAt 30 = .ok (.istore 4, 2) := by decide +kernel
theorem dX6_toldAt_32 : decode cX6_toldAt 32 = .ok (.iload 4, 2) := by decide +kernel
theorem dX6_toldAt_34 : decode cX6_toldAt 34 = .ok (.iconst (-1), 1) := by decide +kernel
theorem dX6_toldAt_35 : decode cX6_toldAt 35 = .ok (.if_icmp .ne 7, 3) := by decide +kernel
theorem dX6_toldAt_38 : decode cX6_toldAt 38 = .ok (.iload_n 3, 1) := by decide +kernel
theorem dX6_toldAt_39 : decode cX6_toldAt 39 = .ok (.goto 5, 3) := by decide +kernel
theorem dX6_toldAt_42 : decode cX6_toldAt 42 = .ok (.iload 4, 2) := by decide +kernel
theorem dX6_toldAt_44 : decode cX6_toldAt 44 = .ok (.ireturn, 1) := by decide +kernel
set_option maxRecDepth 20000 in
theorem ggX6_toldCubes_X0_cube : GoodIn wsX6_toldCubes wsX0_cube := goodIn_r _ [6] (by decide +kernel) (by decide +kernel)
set_option maxRecDepth 20000 in
theorem gX6_toldCubes_X0_cube : GoodIn wsX6_toldCubes (va_wsS RX6 120 yX0_cube wsX0_cube) := goodIn_app (goodIn_of _ (by decide +kernel)) ggX6_toldCubes_X0_cube
set_option maxRecDepth 20000 in
theorem ggX6_toldCubes_X6_toldAt : GoodIn wsX6_toldCubes wsX6_toldAt := goodIn_r _ [11, 12, 13, 14, 15, 16, 17, 18, 19, 20] (by decide +kernel) (by decide +kernel)
set_option maxRecDepth 20000 in
theorem gX6_toldCubes_X6_toldAt : GoodIn wsX6_toldCubes (wsV RX6 113 RX6 yX6_toldAt wsX6_toldAt) := goodIn_app (goodIn_of _ (by decide +kernel)) ggX6_toldCubes_X6_toldAt
theorem dX6_toldCubes_0 : decode cX6_toldCubes 0 = .ok (.lconst 0, 1) := by decide +kernel
theorem dX6_toldCubes_1 : decode cX6_toldCubes 1 = .ok (.lstore_n 1, 1) := by decide +kernel
theorem dX6_toldCubes_2 : decode cX6_toldCubes 2 = .ok (.iconst 0, 1) := by decide +kernel
theorem dX6_toldCubes_3 : decode cX6_toldCubes 3 = .ok (.istore_n 3, 1) := by decide +kernel
theorem dX6_toldCubes_4 : decode cX6_toldCubes 4 = .ok (.iload_n 3, 1) := by decide +kernel
theorem dX6_toldCubes_5 : decode cX6_toldCubes 5 = .ok (.aload_n 0, 1) := by decide +kernel
theorem dX6_toldCubes_6 : decode cX6_toldCubes 6 = .ok (.getfield 18, 3) := by decide +kernel
theorem dX6_toldCubes_9 : decode cX6_toldCubes 9 = .ok (.if_icmp .ge 46, 3) := by decide +kernel
theorem dX6_toldCubes_12 : decode cX6_toldCubes 12 = .ok (.iconst 0, 1) := by decide +kernel
theorem dX6_toldCubes_13 : decode cX6_toldCubes 13 = .ok (.istore 4, 2) := by decide +kernel
theorem dX6_toldCubes_15 : decode cX6_toldCubes 15 = .ok (.iload 4, 2) := by decide +kernel
theorem dX6_toldCubes_17 : decode cX6_toldCubes 17 = .ok (.aload_n 0, 1) := by decide +kernel
theorem dX6_toldCubes_18 : decode cX6_toldCubes 18 = .ok (.getfield 22, 3) := by decide +kernel
theorem dX6_toldCubes_21 : decode cX6_toldCubes 21 = .ok (.if_icmp .ge 28, 3) := by decide +kernel
theorem dX6_toldCubes_24 : decode cX6_toldCubes 24 = .ok (.lload_n 1, 1) := by decide +kernel
theorem dX6_toldCubes_25 : decode cX6_toldCubes 25 = .ok (.iload_n 3, 1) := by decide +kernel
theorem dX6_toldCubes_26 : decode cX6_toldCubes 26 = .ok (.iload 4, 2) := by decide +kernel
theorem dX6_toldCubes_28 : decode cX6_toldCubes 28 = .ok (.invokestatic 120, 3) := by decide +kernel
theorem dX6_toldCubes_31 : decode cX6_toldCubes 31 = .ok (.aload_n 0, 1) := by decide +kernel
theorem dX6_toldCubes_32 : decode cX6_toldCubes 32 = .ok (.iload_n 3, 1) := by decide +kernel
theorem dX6_toldCubes_33 : decode cX6_toldCubes 33 = .ok (.iload 4, 2) := by decide +kernel
theorem dX6_toldCubes_35 : decode cX6_toldCubes 35 = .ok (.iconst 0, 1) := by decide +kernel
theorem dX6_toldCubes_36 : decode cX6_toldCubes 36 = .ok (.invokevirtual 113, 3) := by decide +kernel
theorem dX6_toldCubes_39 : decode cX6_toldCubes 39 = .ok (.i2l, 1) := by decide +kernel
theorem dX6_toldCubes_40 : decode cX6_toldCubes 40 = .ok (.lmul, 1) := by decide +kernel
theorem dX6_toldCubes_41 : decode cX6_toldCubes 41 = .ok (.ladd, 1) := by decide +kernel
theorem dX6_toldCubes_42 : decode cX6_toldCubes 42 = .ok (.lstore_n 1, 1) := by decide +kernel
theorem dX6_toldCubes_43 : decode cX6_toldCubes 43 = .ok (.iinc 4 1, 3) := by decide +kernel
theorem dX6_toldCubes_46 : decode cX6_toldCubes 46 = .ok (.goto (-31), 3) := by decide +kernel
theorem dX6_toldCubes_49 : decode cX6_toldCubes 49 = .ok (.iinc 3 1, 3) := by decide +kernel
theorem dX6_toldCubes_52 : decode cX6_toldCubes 52 = .ok (.goto (-48), 3) := by decide +kernel
theorem dX6_toldCubes_55 : decode cX6_toldCubes 55 = .ok (.lload_n 1, 1) := by decide +kernel
theorem dX6_toldCubes_56 : decode cX6_toldCubes 56 = .ok (.lreturn, 1) := by decide +kernel
set_option maxRecDepth 20000 in
theorem ggX7_init_X6_init : GoodIn wsX7_init wsX6_init := goodIn_r _ [31, 32, 2, 3, 33, 34, 35, 36, 37, 38, 39, 40, 41, 63, 64, 65, 66, 67, 68, 69, 70] (by decide +kernel) (by decide +kernel)
set_option maxRecDepth 20000 in
theorem gX7_init_X6_init_n9 : GoodIn wsX7_init (wsX6_init) := ggX7_init_X6_init
set_option maxRecDepth 20000 in
theorem ggX7_init_X3_init : GoodIn wsX7_init wsX3_init := goodIn_r _ [43, 44, 2, 3, 45, 46, 47, 48, 81, 82, 83] (by decide +kernel) (by decide +kernel)
set_option maxRecDepth 20000 in
theorem gX7_init_X3_init_n24 : GoodIn wsX7_init (wsX3_init) := ggX7_init_X3_init
set_option maxRecDepth 20000 in
theorem ggX7_init_X2_init : GoodIn wsX7_init wsX2_init := goodIn_r _ [50, 51, 2, 3, 52, 53, 54, 84, 85] (by decide +kernel) (by decide +kernel)
set_option maxRecDepth 20000 in
theorem gX7_init_X2_init_n44 : GoodIn wsX7_init (wsX2_init) := ggX7_init_X2_init
set_option maxRecDepth 20000 in
theorem ggX7_init_X5_init : GoodIn wsX7_init wsX5_init := goodIn_r _ [56, 57, 2, 3, 27, 58, 33, 59, 60, 61, 62, 86, 87, 88, 89, 90] (by decide +kernel) (by decide +kernel)
set_option maxRecDepth 20000 in
theorem gX7_init_X5_init_n51 : GoodIn wsX7_init (wsX5_init) := ggX7_init_X5_init
theorem dX7_init_0 : decode cX7_init 0 = .ok (.aload_n 0, 1) := by decide +kernel
theorem dX7_init_1 : decode cX7_init 1 = .ok (.invokespecial 1, 3) := by decide +kernel
theorem dX7_init_4 : decode cX7_init 4 = .ok (.aload_n 0, 1) := by decide +kernel
theorem dX7_init_5 : decode cX7_init 5 = .ok (.new 7, 3) := by decide +kernel
theorem dX7_init_8 : decode cX7_init 8 = .ok (.dup, 1) := by decide +kernel
theorem dX7_init_9 : decode cX7_init 9 = .ok (.invokespecial 9, 3) := by decide +kernel
theorem dX7_init_12 : decode cX7_init 12 = .ok (.putfield 10, 3) := by decide +kernel
theorem dX7_init_15 : decode cX7_init 15 = .ok (.aload_n 0, 1) := by decide +kernel
theorem dX7_init_16 : decode cX7_init 16 = .ok (.iconst 4, 1) := by decide +kernel
theorem dX7_init_17 : decode cX7_init 17 = .ok (.anewarray 16, 3) := by decide +kernel
theorem dX7_init_20 : decode cX7_init 20 = .ok (.putfield 18, 3) := by decide +kernel
theorem dX7_init_23 : decode cX7_init 23 = .ok (.aload_n 0, 1) := by decide +kernel
theorem dX7_init_24 : decode cX7_init 24 = .ok (.new 22, 3) := by decide +kernel
theorem dX7_init_27 : decode cX7_init 27 = .ok (.dup, 1) := by decide +kernel
theorem dX7_init_28 : decode cX7_init 28 = .ok (.invokespecial 24, 3) := by decide +kernel
theorem dX7_init_31 : decode cX7_init 31 = .ok (.putfield 25, 3) := by decide +kernel
theorem dX7_init_34 : decode cX7_init 34 = .ok (.aload_n 0, 1) := by decide +kernel
theorem dX7_init_35 : decode cX7_init 35 = .ok (.bipush 8, 2) := by decide +kernel
theorem dX7_init_37 : decode cX7_init 37 = .ok (.anewarray 16, 3) := by decide +kernel
theorem dX7_init_40 : decode cX7_init 40 = .ok (.putfield 29, 3) := by decide +kernel
theorem dX7_init_43 : decode cX7_init 43 = .ok (.aload_n 0, 1) := by decide +kernel
theorem dX7_init_44 : decode cX7_init 44 = .ok (.iconst 2, 1) := by decide +kernel
theorem dX7_init_45 : decode cX7_init 45 = .ok (.newarray .boolean, 2) := by decide +kernel
theorem dX7_init_47 : decode cX7_init 47 = .ok (.putfield 32, 3) := by decide +kernel
theorem dX7_init_50 : decode cX7_init 50 = .ok (.aload_n 0, 1) := by decide +kernel
theorem dX7_init_51 : decode cX7_init 51 = .ok (.bipush 16, 2) := by decide +kernel
theorem dX7_init_53 : decode cX7_init 53 = .ok (.anewarray 36, 3) := by decide +kernel
theorem dX7_init_56 : decode cX7_init 56 = .ok (.putfield 38, 3) := by decide +kernel
theorem dX7_init_59 : decode cX7_init 59 = .ok (.aload_n 0, 1) := by decide +kernel
theorem dX7_init_60 : decode cX7_init 60 = .ok (.new 42, 3) := by decide +kernel
theorem dX7_init_63 : decode cX7_init 63 = .ok (.dup, 1) := by decide +kernel
theorem dX7_init_64 : decode cX7_init 64 = .ok (.invokespecial 44, 3) := by decide +kernel
theorem dX7_init_67 : decode cX7_init 67 = .ok (.putfield 45, 3) := by decide +kernel
theorem dX7_init_70 : decode cX7_init 70 = .ok (.aload_n 0, 1) := by decide +kernel
theorem dX7_init_71 : decode cX7_init 71 = .ok (.new 49, 3) := by decide +kernel
theorem dX7_init_74 : decode cX7_init 74 = .ok (.dup, 1) := by decide +kernel
theorem dX7_init_75 : decode cX7_init 75 = .ok (.invokespecial 51, 3) := by decide +kernel
theorem dX7_init_78 : decode cX7_init 78 = .ok (.putfield 52, 3) := by decide +kernel
theorem dX7_init_81 : decode cX7_init 81 = .ok (.aload_n 0, 1) := by decide +kernel
theorem dX7_init_82 : decode cX7_init 82 = .ok (.bipush 49, 2) := by decide +kernel
theorem dX7_init_84 : decode cX7_init 84 = .ok (.newarray .long, 2) := by decide +kernel
theorem dX7_init_86 : decode cX7_init 86 = .ok (.putfield 56, 3) := by decide +kernel
theorem dX7_init_89 : decode cX7_init 89 = .ok (.aload_n 0, 1) := by decide +kernel
theorem dX7_init_90 : decode cX7_init 90 = .ok (.iconst 0, 1) := by decide +kernel
theorem dX7_init_91 : decode cX7_init 91 = .ok (.putfield 60, 3) := by decide +kernel
theorem dX7_init_94 : decode cX7_init 94 = .ok (.return_, 1) := by decide +kernel
set_option maxRecDepth 20000 in
theorem ggX7_feed_X6_append : GoodIn wsX7_feed wsX6_append := goodIn_r _ [9, 10, 11, 22, 23, 24, 25, 26, 27, 28, 29] (by decide +kernel) (by decide +kernel)
set_option maxRecDepth 20000 in
theorem gX7_feed_X6_append : GoodIn wsX7_feed (wsV RX7 65 RX6 yX6_append wsX6_append) := goodIn_app (goodIn_of _ (by decide +kernel)) ggX7_feed_X6_append
theorem dX7_feed_0 : decode cX7_feed 0 = .ok (.iload_n 1, 1) := by decide +kernel
theorem dX7_feed_1 : decode cX7_feed 1 = .ok (.ifCond .lt 10, 3) := by decide +kernel
theorem dX7_feed_4 : decode cX7_feed 4 = .ok (.iload_n 1, 1) := by decide +kernel
theorem dX7_feed_5 : decode cX7_feed 5 = .ok (.sipush 255, 3) := by decide +kernel
theorem dX7_feed_8 : decode cX7_feed 8 = .ok (.if_icmp .le 6, 3) := by decide +kernel
theorem dX7_feed_11 : decode cX7_feed 11 = .ok (.ldc 64, 2) := by decide +kernel
theorem dX7_feed_13 : decode cX7_feed 13 = .ok (.ireturn, 1) := by decide +kernel
theorem dX7_feed_14 : decode cX7_feed 14 = .ok (.aload_n 0, 1) := by decide +kernel
theorem dX7_feed_15 : decode cX7_feed 15 = .ok (.getfield 10, 3) := by decide +kernel
theorem dX7_feed_18 : decode cX7_feed 18 = .ok (.iload_n 1, 1) := by decide +kernel
theorem dX7_feed_19 : decode cX7_feed 19 = .ok (.invokevirtual 65, 3) := by decide +kernel
theorem dX7_feed_22 : decode cX7_feed 22 = .ok (.ifCond .eq 13, 3) := by decide +kernel
theorem dX7_feed_25 : decode cX7_feed 25 = .ok (.aload_n 0, 1) := by decide +kernel
theorem dX7_feed_26 : decode cX7_feed 26 = .ok (.getfield 10, 3) := by decide +kernel
theorem dX7_feed_29 : decode cX7_feed 29 = .ok (.getfield 69, 3) := by decide +kernel
theorem dX7_feed_32 : decode cX7_feed 32 = .ok (.goto 5, 3) := by decide +kernel
theorem dX7_feed_35 : decode cX7_feed 35 = .ok (.ldc 72, 2) := by decide +kernel
theorem dX7_feed_37 : decode cX7_feed 37 = .ok (.ireturn, 1) := by decide +kernel
set_option maxRecDepth 20000 in
theorem ggX7_heap_X7_isPlace : GoodIn wsX7_heap wsX7_isPlace := goodIn_r _ [11] (by decide +kernel) (by decide +kernel)
set_option maxRecDepth 20000 in
theorem gX7_heap_X7_isPlace : GoodIn wsX7_heap (va_wsS RX7 73 yX7_isPlace wsX7_isPlace) := goodIn_app (goodIn_of _ (by decide +kernel)) ggX7_heap_X7_isPlace
set_option maxRecDepth 20000 in
theorem ggX7_heap_X6_readHeap : GoodIn wsX7_heap wsX6_readHeap := goodIn_r _ [16, 17, 18, 19, 20, 21, 22, 23, 24, 25, 26, 27, 28, 29, 30, 31, 32, 33, 34, 35, 36, 15, 37, 38, 39, 40, 41, 42, 43, 44, 45, 46, 47, 48, 49, 50, 51, 52, 53, 54, 55, 56, 57, 58, 59, 60, 61, 62, 63, 64, 65, 66, 67, 68, 69, 70, 71, 72, 73, 74, 75, 76, 77, 78, 79, 80, 81, 82, 83, 84, 85, 86, 87, 88, 89, 90, 91, 92, 93, 94, 95, 96, 97, 98, 99, 100, 101, 102, 103, 104, 105, 106, 107, 108, 109, 110, 111, 112, 113, 114, 115, 116, 117, 118, 119, 120, 121, 122, 123, 124, 125, 126, 127, 128, 163, 164, 165, 166, 167, 168, 169, 170, 171, 172, 173, 174, 175] (by decide +kernel) (by decide +kernel)
set_option maxRecDepth 20000 in
theorem gX7_heap_X6_readHeap : GoodIn wsX7_heap (wsV RX7 76 RX6 yX6_readHeap wsX6_readHeap) := goodIn_app (goodIn_of _ (by decide +kernel)) ggX7_heap_X6_readHeap
set_option maxRecDepth 20000 in
theorem ggX7_heap_X7_put : GoodIn wsX7_heap wsX7_put := goodIn_r _ [132, 133, 134, 135, 136, 137, 138, 139, 140, 141, 142, 143, 82, 83, 84, 144, 10, 145, 146, 147, 148, 23, 149, 128, 150, 151, 26, 152, 153, 154, 155, 156, 157, 158, 159, 160, 161, 162, 176, 177, 178, 171, 172] (by decide +kernel) (by decide +kernel)
set_option maxRecDepth 20000 in
theorem gX7_heap_X7_put : GoodIn wsX7_heap (wsV RX7 87 RX7 yX7_put wsX7_put) := goodIn_app (goodIn_of _ (by decide +kernel)) ggX7_heap_X7_put
theorem dX7_heap_0 : decode cX7_heap 0 = .ok (.iload_n 1, 1) := by decide +kernel
theorem dX7_heap_1 : decode cX7_heap 1 = .ok (.invokestatic 73, 3) := by decide +kernel
theorem dX7_heap_4 : decode cX7_heap 4 = .ok (.ifCond .ne 6, 3) := by decide +kernel
theorem dX7_heap_7 : decode cX7_heap 7 = .ok (.ldc 64, 2) := by decide +kernel
theorem dX7_heap_9 : decode cX7_heap 9 = .ok (.ireturn, 1) := by decide +kernel
theorem dX7_heap_10 : decode cX7_heap 10 = .ok (.aload_n 0, 1) := by decide +kernel
theorem dX7_heap_11 : decode cX7_heap 11 = .ok (.getfield 10, 3) := by decide +kernel
theorem dX7_heap_14 : decode cX7_heap 14 = .ok (.invokevirtual 76, 3) := by decide +kernel
theorem dX7_heap_17 : decode cX7_heap 17 = .ok (.astore_n 2, 1) := by decide +kernel
theorem dX7_heap_18 : decode cX7_heap 18 = .ok (.aload_n 0, 1) := by decide +kernel
theorem dX7_heap_19 : decode cX7_heap 19 = .ok (.getfield 10, 3) := by decide +kernel
theorem dX7_heap_22 : decode cX7_heap 22 = .ok (.iconst 0, 1) := by decide +kernel
theorem dX7_heap_23 : decode cX7_heap 23 = .ok (.putfield 69, 3) := by decide +kernel
theorem dX7_heap_26 : decode cX7_heap 26 = .ok (.aload_n 2, 1) := by decide +kernel
theorem dX7_heap_27 : decode cX7_heap 27 = .ok (.ifnonnull 25, 3) := by decide +kernel
theorem dX7_heap_30 : decode cX7_heap 30 = .ok (.aload_n 0, 1) := by decide +kernel
theorem dX7_heap_31 : decode cX7_heap 31 = .ok (.aload_n 0, 1) := by decide +kernel
theorem dX7_heap_32 : decode cX7_heap 32 = .ok (.getfield 10, 3) := by decide +kernel
theorem dX7_heap_35 : decode cX7_heap 35 = .ok (.getfield 80, 3) := by decide +kernel
theorem dX7_heap_38 : decode cX7_heap 38 = .ok (.putfield 60, 3) := by decide +kernel
theorem dX7_heap_41 : decode cX7_heap 41 = .ok (.ldc 83, 2) := by decide +kernel
theorem dX7_heap_43 : decode cX7_heap 43 = .ok (.aload_n 0, 1) := by decide +kernel
theorem dX7_heap_44 : decode cX7_heap 44 = .ok (.getfield 10, 3) := by decide +kernel
theorem dX7_heap_47 : decode cX7_heap 47 = .ok (.getfield 84, 3) := by decide +kernel
theorem dX7_heap_50 : decode cX7_heap 50 = .ok (.isub, 1) := by decide +kernel
theorem dX7_heap_51 : decode cX7_heap 51 = .ok (.ireturn, 1) := by decide +kernel
theorem dX7_heap_52 : decode cX7_heap 52 = .ok (.aload_n 0, 1) := by decide +kernel
theorem dX7_heap_53 : decode cX7_heap 53 = .ok (.aload_n 2, 1) := by decide +kernel
theorem dX7_heap_54 : decode cX7_heap 54 = .ok (.iload_n 1, 1) := by decide +kernel
theorem dX7_heap_55 : decode cX7_heap 55 = .ok (.invokevirtual 87, 3) := by decide +kernel
theorem dX7_heap_58 : decode cX7_heap 58 = .ok (.ireturn, 1) := by decide +kernel
theorem dX7_fault_0 : decode cX7_fault 0 = .ok (.aload_n 0, 1) := by decide +kernel
theorem dX7_fault_1 : decode cX7_fault 1 = .ok (.getfield 60, 3) := by decide +kernel
theorem dX7_fault_4 : decode cX7_fault 4 = .ok (.ireturn, 1) := by decide +kernel
set_option maxRecDepth 20000 in
theorem ggX7_undo_X3_giveBack : GoodIn wsX7_undo wsX3_giveBack := goodIn_r _ [9, 10, 11, 12, 13, 14, 15, 26, 27, 28] (by decide +kernel) (by decide +kernel)
set_option maxRecDepth 20000 in
theorem gX7_undo_X3_giveBack : GoodIn wsX7_undo (wsV RX7 95 RX3 yX3_giveBack wsX3_giveBack) := goodIn_app (goodIn_of _ (by decide +kernel)) ggX7_undo_X3_giveBack
theorem dX7_undo_0 : decode cX7_undo 0 = .ok (.aload_n 0, 1) := by decide +kernel
theorem dX7_undo_1 : decode cX7_undo 1 = .ok (.getfield 25, 3) := by decide +kernel
theorem dX7_undo_4 : decode cX7_undo 4 = .ok (.getfield 91, 3) := by decide +kernel
theorem dX7_undo_7 : decode cX7_undo 7 = .ok (.ifCond .ne 6, 3) := by decide +kernel
theorem dX7_undo_10 : decode cX7_undo 10 = .ok (.ldc 94, 2) := by decide +kernel
theorem dX7_undo_12 : decode cX7_undo 12 = .ok (.ireturn, 1) := by decide +kernel
theorem dX7_undo_13 : decode cX7_undo 13 = .ok (.aload_n 0, 1) := by decide +kernel
theorem dX7_undo_14 : decode cX7_undo 14 = .ok (.getfield 25, 3) := by decide +kernel
theorem dX7_undo_17 : decode cX7_undo 17 = .ok (.aload_n 0, 1) := by decide +kernel
theorem dX7_undo_18 : decode cX7_undo 18 = .ok (.getfield 18, 3) := by decide +kernel
theorem dX7_undo_21 : decode cX7_undo 21 = .ok (.invokevirtual 95, 3) := by decide +kernel
theorem dX7_undo_24 : decode cX7_undo 24 = .ok (.aload_n 0, 1) := by decide +kernel
theorem dX7_undo_25 : decode cX7_undo 25 = .ok (.getfield 25, 3) := by decide +kernel
theorem dX7_undo_28 : decode cX7_undo 28 = .ok (.getfield 91, 3) := by decide +kernel
theorem dX7_undo_31 : decode cX7_undo 31 = .ok (.ireturn, 1) := by decide +kernel
set_option maxRecDepth 20000 in
theorem ggX7_take_X0_of : GoodIn wsX7_take wsX0_of := goodIn_r _ [8, 9, 10, 7, 11, 12, 13, 14, 15, 16, 17, 18, 19, 20, 21, 22, 23, 24, 25, 131, 132, 133] (by decide +kernel) (by decide +kernel)
set_option maxRecDepth 20000 in
theorem gX7_take_X0_of : GoodIn wsX7_take (va_wsS RX7 99 yX0_of wsX0_of) := goodIn_app (goodIn_of _ (by decide +kernel)) ggX7_take_X0_of
set_option maxRecDepth 20000 in
theorem ggX7_take_X7_isPlace : GoodIn wsX7_take wsX7_isPlace := goodIn_r _ [29] (by decide +kernel) (by decide +kernel)
set_option maxRecDepth 20000 in
theorem gX7_take_X7_isPlace : GoodIn wsX7_take (va_wsS RX7 73 yX7_isPlace wsX7_isPlace) := goodIn_app (goodIn_of _ (by decide +kernel)) ggX7_take_X7_isPlace
set_option maxRecDepth 20000 in
theorem ggX7_take_X7_rowsOf : GoodIn wsX7_take wsX7_rowsOf := goodIn_r _ [33, 34, 35, 36, 37, 38, 39, 40, 41, 42, 43, 21, 22, 44, 45, 46, 47, 48, 49, 50, 51, 10, 7, 52, 28, 53, 18, 19, 20, 23, 24, 25, 54, 55, 56, 57, 58, 59, 60, 61, 62, 63, 64, 65, 66, 67, 68, 69, 70, 71, 72, 73, 74, 75, 76, 77, 78, 79, 80, 81, 82, 83, 84, 131, 132, 133, 134, 135, 136, 137, 138, 139, 140, 141, 142, 143, 144, 145, 146, 147] (by decide +kernel) (by decide +kernel)
set_option maxRecDepth 20000 in
theorem gX7_take_X7_rowsOf : GoodIn wsX7_take (wsV RX7 105 RX7 yX7_rowsOf wsX7_rowsOf) := goodIn_app (goodIn_of _ (by decide +kernel)) ggX7_take_X7_rowsOf
set_option maxRecDepth 20000 in
theorem ggX7_take_X4_heapsWith : GoodIn wsX7_take wsX4_heapsWith := goodIn_r _ [88, 47, 45, 144, 145, 146, 147] (by decide +kernel) (by decide +kernel)
set_option maxRecDepth 20000 in
theorem gX7_take_X4_heapsWith : GoodIn wsX7_take (wsV RX7 109 RX4 yX4_heapsWith wsX4_heapsWith) := goodIn_app (goodIn_of _ (by decide +kernel)) ggX7_take_X4_heapsWith
set_option maxRecDepth 20000 in
theorem ggX7_take_X4_cubesOf : GoodIn wsX7_take wsX4_cubesOf := goodIn_r _ [92, 45, 47, 81, 82, 39, 83, 84, 93, 94, 7, 95, 144, 145, 146, 147] (by decide +kernel) (by decide +kernel)
set_option maxRecDepth 20000 in
theorem gX7_take_X4_cubesOf : GoodIn wsX7_take (wsV RX7 113 RX4 yX4_cubesOf wsX4_cubesOf) := goodIn_app (goodIn_of _ (by decide +kernel)) ggX7_take_X4_cubesOf
set_option maxRecDepth 20000 in
theorem ggX7_take_X1_init : GoodIn wsX7_take wsX1_init := goodIn_r _ [98, 99, 21, 22, 100, 101, 129, 130] (by decide +kernel) (by decide +kernel)
set_option maxRecDepth 20000 in
theorem gX7_take_X1_init : GoodIn wsX7_take (wsX1_init) := ggX7_take_X1_init
set_option maxRecDepth 20000 in
theorem ggX7_take_X7_put : GoodIn wsX7_take wsX7_put := goodIn_r _ [105, 106, 107, 108, 109, 110, 111, 112, 113, 114, 115, 116, 117, 118, 119, 120, 28, 121, 122, 123, 124, 4, 125, 101, 126, 127, 7, 128, 134, 135, 136, 137, 138, 139, 140, 141, 142, 143, 148, 149, 150, 129, 130] (by decide +kernel) (by decide +kernel)
set_option maxRecDepth 20000 in
theorem gX7_take_X7_put : GoodIn wsX7_take (wsV RX7 87 RX7 yX7_put wsX7_put) := goodIn_app (goodIn_of _ (by decide +kernel)) ggX7_take_X7_put
theorem dX7_take_0 : decode cX7_take 0 = .ok (.iload_n 1, 1) := by decide +kernel
theorem dX7_take_1 : decode cX7_take 1 = .ok (.iload_n 2, 1) := by decide +kernel
theorem dX7_take_2 : decode cX7_take 2 = .ok (.iload_n 3, 1) := by decide +kernel
theorem dX7_take_3 : decode cX7_take 3 = .ok (.invokestatic 99, 3) := by decide +kernel
theorem dX7_take_6 : decode cX7_take 6 = .ok (.astore 6, 2) := by decide +kernel
theorem dX7_take_8 : decode cX7_take 8 = .ok (.aload 6, 2) := by decide +kernel
theorem dX7_take_10 : decode cX7_take 10 = .ok (.ifnull 16, 3) := by decide +kernel
theorem dX7_take_13 : decode cX7_take 13 = .ok (.iload 5, 2) := by decide +kernel
theorem dX7_take_15 : decode cX7_take 15 = .ok (.invokestatic 73, 3) := by decide +kernel
theorem dX7_take_18 : decode cX7_take 18 = .ok (.ifCond .eq 8, 3) := by decide +kernel
theorem dX7_take_21 : decode cX7_take 21 = .ok (.iload 4, 2) := by decide +kernel
theorem dX7_take_23 : decode cX7_take 23 = .ok (.ifCond .ge 6, 3) := by decide +kernel
theorem dX7_take_26 : decode cX7_take 26 = .ok (.ldc 64, 2) := by decide +kernel
theorem dX7_take_28 : decode cX7_take 28 = .ok (.ireturn, 1) := by decide +kernel
theorem dX7_take_29 : decode cX7_take 29 = .ok (.aload_n 0, 1) := by decide +kernel
theorem dX7_take_30 : decode cX7_take 30 = .ok (.aload 6, 2) := by decide +kernel
theorem dX7_take_32 : decode cX7_take 32 = .ok (.invokevirtual 105, 3) := by decide +kernel
theorem dX7_take_35 : decode cX7_take 35 = .ok (.astore 7, 2) := by decide +kernel
theorem dX7_take_37 : decode cX7_take 37 = .ok (.iload 4, 2) := by decide +kernel
theorem dX7_take_39 : decode cX7_take 39 = .ok (.aload 7, 2) := by decide +kernel
theorem dX7_take_41 : decode cX7_take 41 = .ok (.iload_n 1, 1) := by decide +kernel
theorem dX7_take_42 : decode cX7_take 42 = .ok (.invokevirtual 109, 3) := by decide +kernel
theorem dX7_take_45 : decode cX7_take 45 = .ok (.if_icmp .lt 6, 3) := by decide +kernel
theorem dX7_take_48 : decode cX7_take 48 = .ok (.ldc 64, 2) := by decide +kernel
theorem dX7_take_50 : decode cX7_take 50 = .ok (.ireturn, 1) := by decide +kernel
theorem dX7_take_51 : decode cX7_take 51 = .ok (.aload_n 0, 1) := by decide +kernel
theorem dX7_take_52 : decode cX7_take 52 = .ok (.new 16, 3) := by decide +kernel
theorem dX7_take_55 : decode cX7_take 55 = .ok (.dup, 1) := by decide +kernel
theorem dX7_take_56 : decode cX7_take 56 = .ok (.aload 6, 2) := by decide +kernel
theorem dX7_take_58 : decode cX7_take 58 = .ok (.aload 7, 2) := by decide +kernel
theorem dX7_take_60 : decode cX7_take 60 = .ok (.iload_n 1, 1) := by decide +kernel
theorem dX7_take_61 : decode cX7_take 61 = .ok (.iload 4, 2) := by decide +kernel
theorem dX7_take_63 : decode cX7_take 63 = .ok (.invokevirtual 113, 3) := by decide +kernel
theorem dX7_take_66 : decode cX7_take 66 = .ok (.invokespecial 117, 3) := by decide +kernel
theorem dX7_take_69 : decode cX7_take 69 = .ok (.iload 5, 2) := by decide +kernel
theorem dX7_take_71 : decode cX7_take 71 = .ok (.invokevirtual 87, 3) := by decide +kernel
theorem dX7_take_74 : decode cX7_take 74 = .ok (.ireturn, 1) := by decide +kernel
set_option maxRecDepth 20000 in
theorem ggX7_drawn_X0_of : GoodIn wsX7_drawn wsX0_of := goodIn_r _ [15, 16, 17, 14, 18, 19, 20, 21, 22, 23, 24, 25, 26, 27, 28, 29, 30, 31, 32, 137, 138, 139] (by decide +kernel) (by decide +kernel)
set_option maxRecDepth 20000 in
theorem gX7_drawn_X0_of : GoodIn wsX7_drawn (va_wsS RX7 99 yX0_of wsX0_of) := goodIn_app (goodIn_of _ (by decide +kernel)) ggX7_drawn_X0_of
set_option maxRecDepth 20000 in
theorem ggX7_drawn_X7_isPlace : GoodIn wsX7_drawn wsX7_isPlace := goodIn_r _ [36] (by decide +kernel) (by decide +kernel)
set_option maxRecDepth 20000 in
theorem gX7_drawn_X7_isPlace : GoodIn wsX7_drawn (va_wsS RX7 73 yX7_isPlace wsX7_isPlace) := goodIn_app (goodIn_of _ (by decide +kernel)) ggX7_drawn_X7_isPlace
set_option maxRecDepth 20000 in
theorem ggX7_drawn_X7_rowsOf : GoodIn wsX7_drawn wsX7_rowsOf := goodIn_r _ [40, 41, 42, 43, 44, 45, 46, 47, 48, 49, 50, 28, 29, 51, 52, 53, 54, 55, 56, 57, 58, 17, 14, 59, 35, 60, 25, 26, 27, 30, 31, 32, 61, 62, 63, 64, 65, 66, 67, 68, 69, 70, 71, 72, 73, 74, 75, 76, 77, 78, 79, 80, 81, 82, 83, 84, 85, 86, 87, 88, 89, 90, 91, 137, 138, 139, 140, 141, 142, 143, 144, 145, 146, 147, 148, 149, 150, 151, 152, 153] (by decide +kernel) (by decide +kernel)
set_option maxRecDepth 20000 in
theorem gX7_drawn_X7_rowsOf : GoodIn wsX7_drawn (wsV RX7 105 RX7 yX7_rowsOf wsX7_rowsOf) := goodIn_app (goodIn_of _ (by decide +kernel)) ggX7_drawn_X7_rowsOf
set_option maxRecDepth 20000 in
theorem ggX7_drawn_X4_heapsWith : GoodIn wsX7_drawn wsX4_heapsWith := goodIn_r _ [95, 54, 52, 150, 151, 152, 153] (by decide +kernel) (by decide +kernel)
set_option maxRecDepth 20000 in
theorem gX7_drawn_X4_heapsWith : GoodIn wsX7_drawn (wsV RX7 109 RX4 yX4_heapsWith wsX4_heapsWith) := goodIn_app (goodIn_of _ (by decide +kernel)) ggX7_drawn_X4_heapsWith
set_option maxRecDepth 20000 in
theorem ggX7_drawn_X4_cubesOf : GoodIn wsX7_drawn wsX4_cubesOf := goodIn_r _ [99, 52, 54, 88, 89, 46, 90, 91, 100, 101, 14, 102, 150, 151, 152, 153] (by decide +kernel) (by decide +kernel)
set_option maxRecDepth 20000 in
theorem gX7_drawn_X4_cubesOf : GoodIn wsX7_drawn (wsV RX7 113 RX4 yX4_cubesOf wsX4_cubesOf) := goodIn_app (goodIn_of _ (by decide +kernel)) ggX7_drawn_X4_cubesOf
set_option maxRecDepth 20000 in
theorem ggX7_drawn_X1_init : GoodIn wsX7_drawn wsX1_init := goodIn_r _ [105, 106, 28, 29, 107, 108, 135, 136] (by decide +kernel) (by decide +kernel)
set_option maxRecDepth 20000 in
theorem gX7_drawn_X1_init : GoodIn wsX7_drawn (wsX1_init) := ggX7_drawn_X1_init
set_option maxRecDepth 20000 in
theorem ggX7_drawn_X7_put : GoodIn wsX7_drawn wsX7_put := goodIn_r _ [112, 113, 114, 115, 116, 117, 118, 119, 120, 121, 122, 123, 124, 5, 125, 126, 35, 127, 128, 129, 130, 11, 131, 108, 132, 133, 14, 134, 140, 141, 142, 143, 144, 145, 146, 147, 148, 149, 154, 155, 156, 135, 136] (by decide +kernel) (by decide +kernel)
set_option maxRecDepth 20000 in
theorem gX7_drawn_X7_put : GoodIn wsX7_drawn (wsV RX7 87 RX7 yX7_put wsX7_put) := goodIn_app (goodIn_of _ (by decide +kernel)) ggX7_drawn_X7_put
theorem dX7_drawn_0 : decode cX7_drawn 0 = .ok (.iload_n 1, 1) := by decide +kernel
theorem dX7_drawn_1 : decode cX7_drawn 1 = .ok (.iload_n 2, 1) := by decide +kernel
theorem dX7_drawn_2 : decode cX7_drawn 2 = .ok (.iload_n 3, 1) := by decide +kernel
theorem dX7_drawn_3 : decode cX7_drawn 3 = .ok (.invokestatic 99, 3) := by decide +kernel
theorem dX7_drawn_6 : decode cX7_drawn 6 = .ok (.astore 6, 2) := by decide +kernel
theorem dX7_drawn_8 : decode cX7_drawn 8 = .ok (.aload 6, 2) := by decide +kernel
theorem dX7_drawn_10 : decode cX7_drawn 10 = .ok (.ifnull 24, 3) := by decide +kernel
theorem dX7_drawn_13 : decode cX7_drawn 13 = .ok (.iload 4, 2) := by decide +kernel
theorem dX7_drawn_15 : decode cX7_drawn 15 = .ok (.iconst 1, 1) := by decide +kernel
theorem dX7_drawn_16 : decode cX7_drawn 16 = .ok (.if_icmp .lt 18, 3) := by decide +kernel
theorem dX7_drawn_19 : decode cX7_drawn 19 = .ok (.iload 4, 2) := by decide +kernel
theorem dX7_drawn_21 : decode cX7_drawn 21 = .ok (.ldc 120, 2) := by decide +kernel
theorem dX7_drawn_23 : decode cX7_drawn 23 = .ok (.if_icmp .gt 11, 3) := by decide +kernel
theorem dX7_drawn_26 : decode cX7_drawn 26 = .ok (.iload 5, 2) := by decide +kernel
theorem dX7_drawn_28 : decode cX7_drawn 28 = .ok (.invokestatic 73, 3) := by decide +kernel
theorem dX7_drawn_31 : decode cX7_drawn 31 = .ok (.ifCond .ne 6, 3) := by decide +kernel
theorem dX7_drawn_34 : decode cX7_drawn 34 = .ok (.ldc 64, 2) := by decide +kernel
theorem dX7_drawn_36 : decode cX7_drawn 36 = .ok (.ireturn, 1) := by decide +kernel
theorem dX7_drawn_37 : decode cX7_drawn 37 = .ok (.aload_n 0, 1) := by decide +kernel
theorem dX7_drawn_38 : decode cX7_drawn 38 = .ok (.aload 6, 2) := by decide +kernel
theorem dX7_drawn_40 : decode cX7_drawn 40 = .ok (.invokevirtual 105, 3) := by decide +kernel
theorem dX7_drawn_43 : decode cX7_drawn 43 = .ok (.astore 7, 2) := by decide +kernel
theorem dX7_drawn_45 : decode cX7_drawn 45 = .ok (.iconst 1, 1) := by decide +kernel
theorem dX7_drawn_46 : decode cX7_drawn 46 = .ok (.aload 7, 2) := by decide +kernel
theorem dX7_drawn_48 : decode cX7_drawn 48 = .ok (.iload_n 1, 1) := by decide +kernel
theorem dX7_drawn_49 : decode cX7_drawn 49 = .ok (.invokevirtual 109, 3) := by decide +kernel
theorem dX7_drawn_52 : decode cX7_drawn 52 = .ok (.invokestatic 121, 3) := by decide +kernel
theorem dX7_drawn_55 : decode cX7_drawn 55 = .ok (.istore 8, 2) := by decide +kernel
theorem dX7_drawn_57 : decode cX7_drawn 57 = .ok (.iload 4, 2) := by decide +kernel
theorem dX7_drawn_59 : decode cX7_drawn 59 = .ok (.i2l, 1) := by decide +kernel
theorem dX7_drawn_60 : decode cX7_drawn 60 = .ok (.ldc2_w 127, 3) := by decide +kernel
theorem dX7_drawn_63 : decode cX7_drawn 63 = .ok (.lmul, 1) := by decide +kernel
theorem dX7_drawn_64 : decode cX7_drawn 64 = .ok (.ldc2_w 129, 3) := by decide +kernel
theorem dX7_drawn_67 : decode cX7_drawn 67 = .ok (.lrem, 1) := by decide +kernel
theorem dX7_drawn_68 : decode cX7_drawn 68 = .ok (.iload 8, 2) := by decide +kernel
theorem dX7_drawn_70 : decode cX7_drawn 70 = .ok (.i2l, 1) := by decide +kernel
theorem dX7_drawn_71 : decode cX7_drawn 71 = .ok (.lrem, 1) := by decide +kernel
theorem dX7_drawn_72 : decode cX7_drawn 72 = .ok (.l2i, 1) := by decide +kernel
theorem dX7_drawn_73 : decode cX7_drawn 73 = .ok (.istore 9, 2) := by decide +kernel
theorem dX7_drawn_75 : decode cX7_drawn 75 = .ok (.aload_n 0, 1) := by decide +kernel
theorem dX7_drawn_76 : decode cX7_drawn 76 = .ok (.new 16, 3) := by decide +kernel
theorem dX7_drawn_79 : decode cX7_drawn 79 = .ok (.dup, 1) := by decide +kernel
theorem dX7_drawn_80 : decode cX7_drawn 80 = .ok (.aload 6, 2) := by decide +kernel
theorem dX7_drawn_82 : decode cX7_drawn 82 = .ok (.aload 7, 2) := by decide +kernel
theorem dX7_drawn_84 : decode cX7_drawn 84 = .ok (.iload_n 1, 1) := by decide +kernel
theorem dX7_drawn_85 : decode cX7_drawn 85 = .ok (.iload 9, 2) := by decide +kernel
theorem dX7_drawn_87 : decode cX7_drawn 87 = .ok (.invokevirtual 113, 3) := by decide +kernel
theorem dX7_drawn_90 : decode cX7_drawn 90 = .ok (.invokespecial 117, 3) := by decide +kernel
theorem dX7_drawn_93 : decode cX7_drawn 93 = .ok (.iload 5, 2) := by decide +kernel
theorem dX7_drawn_95 : decode cX7_drawn 95 = .ok (.invokevirtual 87, 3) := by decide +kernel
theorem dX7_drawn_98 : decode cX7_drawn 98 = .ok (.pop, 1) := by decide +kernel
theorem dX7_drawn_99 : decode cX7_drawn 99 = .ok (.iload 9, 2) := by decide +kernel
theorem dX7_drawn_101 : decode cX7_drawn 101 = .ok (.ireturn, 1) := by decide +kernel
set_option maxRecDepth 20000 in
theorem ggX7_lay_X7_change : GoodIn wsX7_lay wsX7_change := goodIn_r _ [5, 6, 7, 8, 9, 10, 11, 12, 13, 14, 15, 4, 16, 17, 18, 19, 20, 21, 22, 23, 24, 25, 26, 27, 28, 29, 30, 31, 32, 33, 34, 35, 36, 37, 38, 39, 40, 41, 42, 43, 44, 45, 46, 47, 48, 49, 50, 51, 52, 53, 54, 55, 56, 57, 58, 59, 60, 61, 62, 63, 64, 65, 66, 67, 68, 69, 70, 71, 72, 73, 74, 75, 76, 77, 78, 79, 80, 81, 82, 83, 84, 85, 86, 87, 88, 89, 90, 91, 92, 93, 94, 95, 96, 97, 98, 99, 100, 101, 102, 103, 104] (by decide +kernel) (by decide +kernel)
set_option maxRecDepth 20000 in
theorem gX7_lay_X7_change : GoodIn wsX7_lay (wsV RX7 131 RX7 yX7_change wsX7_change) := goodIn_app (goodIn_of _ (by decide +kernel)) ggX7_lay_X7_change
theorem dX7_lay_0 : decode cX7_lay 0 = .ok (.aload_n 0, 1) := by decide +kernel
theorem dX7_lay_1 : decode cX7_lay 1 = .ok (.iload_n 1, 1) := by decide +kernel
theorem dX7_lay_2 : decode cX7_lay 2 = .ok (.iload_n 2, 1) := by decide +kernel
theorem dX7_lay_3 : decode cX7_lay 3 = .ok (.iload_n 3, 1) := by decide +kernel
theorem dX7_lay_4 : decode cX7_lay 4 = .ok (.iconst 1, 1) := by decide +kernel
theorem dX7_lay_5 : decode cX7_lay 5 = .ok (.invokevirtual 131, 3) := by decide +kernel
theorem dX7_lay_8 : decode cX7_lay 8 = .ok (.ireturn, 1) := by decide +kernel
set_option maxRecDepth 20000 in
theorem ggX7_off_X7_change : GoodIn wsX7_off wsX7_change := goodIn_r _ [5, 6, 7, 8, 9, 10, 11, 12, 13, 14, 15, 4, 16, 17, 18, 19, 20, 21, 22, 23, 24, 25, 26, 27, 28, 29, 30, 31, 32, 33, 34, 35, 36, 37, 38, 39, 40, 41, 42, 43, 44, 45, 46, 47, 48, 49, 50, 51, 52, 53, 54, 55, 56, 57, 58, 59, 60, 61, 62, 63, 64, 65, 66, 67, 68, 69, 70, 71, 72, 73, 74, 75, 76, 77, 78, 79, 80, 81, 82, 83, 84, 85, 86, 87, 88, 89, 90, 91, 92, 93, 94, 95, 96, 97, 98, 99, 100, 101, 102, 103, 104] (by decide +kernel) (by decide +kernel)
set_option maxRecDepth 20000 in
theorem gX7_off_X7_change : GoodIn wsX7_off (wsV RX7 131 RX7 yX7_change wsX7_change) := goodIn_app (goodIn_of _ (by decide +kernel)) ggX7_off_X7_change
theorem dX7_off_0 : decode cX7_off 0 = .ok (.aload_n 0, 1) := by decide +kernel
theorem dX7_off_1 : decode cX7_off 1 = .ok (.iload_n 1, 1) := by decide +kernel
theorem dX7_off_2 : decode cX7_off 2 = .ok (.iload_n 2, 1) := by decide +kernel
theorem dX7_off_3 : decode cX7_off 3 = .ok (.iload_n 3, 1) := by decide +kernel
theorem dX7_off_4 : decode cX7_off 4 = .ok (.iconst 0, 1) := by decide +kernel
theorem dX7_off_5 : decode cX7_off 5 = .ok (.invokevirtual 131, 3) := by decide +kernel
theorem dX7_off_8 : decode cX7_off 8 = .ok (.ireturn, 1) := by decide +kernel
set_option maxRecDepth 20000 in
theorem ggX7_turn_X7_heapAt : GoodIn wsX7_turn wsX7_heapAt := goodIn_r _ [6, 7, 8, 9, 5, 10, 83, 84, 85, 86, 87, 88, 89, 90, 91, 92] (by decide +kernel) (by decide +kernel)
set_option maxRecDepth 20000 in
theorem gX7_turn_X7_heapAt : GoodIn wsX7_turn (wsV RX7 135 RX7 yX7_heapAt wsX7_heapAt) := goodIn_app (goodIn_of _ (by decide +kernel)) ggX7_turn_X7_heapAt
set_option maxRecDepth 20000 in
theorem ggX7_turn_X7_isPlace : GoodIn wsX7_turn wsX7_isPlace := goodIn_r _ [10] (by decide +kernel) (by decide +kernel)
set_option maxRecDepth 20000 in
theorem gX7_turn_X7_isPlace : GoodIn wsX7_turn (va_wsS RX7 73 yX7_isPlace wsX7_isPlace) := goodIn_app (goodIn_of _ (by decide +kernel)) ggX7_turn_X7_isPlace
set_option maxRecDepth 20000 in
theorem ggX7_turn_X1_turned : GoodIn wsX7_turn wsX1_turned := goodIn_r _ [15, 16, 17, 14, 18, 19, 20, 21, 22, 23, 24, 25, 26, 27, 28, 29, 30, 31, 32, 33, 34, 35, 36, 37, 38, 39, 40, 41, 42, 43, 44, 45, 46, 47, 48, 49, 50, 51, 52, 53, 54, 55, 56, 93, 94, 95, 96, 97] (by decide +kernel) (by decide +kernel)
set_option maxRecDepth 20000 in
theorem gX7_turn_X1_turned : GoodIn wsX7_turn (wsV RX7 139 RX1 yX1_turned wsX1_turned) := goodIn_app (goodIn_of _ (by decide +kernel)) ggX7_turn_X1_turned
set_option maxRecDepth 20000 in
theorem ggX7_turn_X7_put : GoodIn wsX7_turn wsX7_put := goodIn_r _ [60, 61, 7, 62, 63, 64, 65, 66, 67, 68, 69, 70, 71, 72, 73, 74, 5, 75, 76, 77, 78, 14, 79, 25, 80, 81, 20, 82, 83, 84, 85, 86, 87, 88, 89, 90, 91, 92, 98, 99, 100, 93, 94] (by decide +kernel) (by decide +kernel)
set_option maxRecDepth 20000 in
theorem gX7_turn_X7_put : GoodIn wsX7_turn (wsV RX7 87 RX7 yX7_put wsX7_put) := goodIn_app (goodIn_of _ (by decide +kernel)) ggX7_turn_X7_put
theorem dX7_turn_0 : decode cX7_turn 0 = .ok (.aload_n 0, 1) := by decide +kernel
theorem dX7_turn_1 : decode cX7_turn 1 = .ok (.iload_n 1, 1) := by decide +kernel
theorem dX7_turn_2 : decode cX7_turn 2 = .ok (.invokevirtual 135, 3) := by decide +kernel
theorem dX7_turn_5 : decode cX7_turn 5 = .ok (.astore 4, 2) := by decide +kernel
theorem dX7_turn_7 : decode cX7_turn 7 = .ok (.aload 4, 2) := by decide +kernel
theorem dX7_turn_9 : decode cX7_turn 9 = .ok (.ifnull 19, 3) := by decide +kernel
theorem dX7_turn_12 : decode cX7_turn 12 = .ok (.iload_n 2, 1) := by decide +kernel
theorem dX7_turn_13 : decode cX7_turn 13 = .ok (.ifCond .lt 15, 3) := by decide +kernel
theorem dX7_turn_16 : decode cX7_turn 16 = .ok (.iload_n 2, 1) := by decide +kernel
theorem dX7_turn_17 : decode cX7_turn 17 = .ok (.iconst 2, 1) := by decide +kernel
theorem dX7_turn_18 : decode cX7_turn 18 = .ok (.if_icmp .gt 10, 3) := by decide +kernel
theorem dX7_turn_21 : decode cX7_turn 21 = .ok (.iload_n 3, 1) := by decide +kernel
theorem dX7_turn_22 : decode cX7_turn 22 = .ok (.invokestatic 73, 3) := by decide +kernel
theorem dX7_turn_25 : decode cX7_turn 25 = .ok (.ifCond .ne 6, 3) := by decide +kernel
theorem dX7_turn_28 : decode cX7_turn 28 = .ok (.ldc 64, 2) := by decide +kernel
theorem dX7_turn_30 : decode cX7_turn 30 = .ok (.ireturn, 1) := by decide +kernel
theorem dX7_turn_31 : decode cX7_turn 31 = .ok (.aload_n 0, 1) := by decide +kernel
theorem dX7_turn_32 : decode cX7_turn 32 = .ok (.aload 4, 2) := by decide +kernel
theorem dX7_turn_34 : decode cX7_turn 34 = .ok (.iload_n 2, 1) := by decide +kernel
theorem dX7_turn_35 : decode cX7_turn 35 = .ok (.invokevirtual 139, 3) := by decide +kernel
theorem dX7_turn_38 : decode cX7_turn 38 = .ok (.iload_n 3, 1) := by decide +kernel
theorem dX7_turn_39 : decode cX7_turn 39 = .ok (.invokevirtual 87, 3) := by decide +kernel
theorem dX7_turn_42 : decode cX7_turn 42 = .ok (.ireturn, 1) := by decide +kernel
set_option maxRecDepth 20000 in
theorem ggX7_join_X7_heapAt : GoodIn wsX7_join wsX7_heapAt := goodIn_r _ [12, 13, 14, 15, 11, 16, 76, 77, 78, 79, 80, 81, 82, 83, 84, 85] (by decide +kernel) (by decide +kernel)
set_option maxRecDepth 20000 in
theorem gX7_join_X7_heapAt : GoodIn wsX7_join (wsV RX7 135 RX7 yX7_heapAt wsX7_heapAt) := goodIn_app (goodIn_of _ (by decide +kernel)) ggX7_join_X7_heapAt
set_option maxRecDepth 20000 in
theorem ggX7_join_X7_isPlace : GoodIn wsX7_join wsX7_isPlace := goodIn_r _ [16] (by decide +kernel) (by decide +kernel)
set_option maxRecDepth 20000 in
theorem gX7_join_X7_isPlace : GoodIn wsX7_join (va_wsS RX7 73 yX7_isPlace wsX7_isPlace) := goodIn_app (goodIn_of _ (by decide +kernel)) ggX7_join_X7_isPlace
set_option maxRecDepth 20000 in
theorem ggX7_join_X0_sameAs : GoodIn wsX7_join wsX0_sameAs := goodIn_r _ [21, 22, 23, 24, 86, 87, 88] (by decide +kernel) (by decide +kernel)
set_option maxRecDepth 20000 in
theorem gX7_join_X0_sameAs : GoodIn wsX7_join (wsV RX7 146 RX0 yX0_sameAs wsX0_sameAs) := goodIn_app (goodIn_of _ (by decide +kernel)) ggX7_join_X0_sameAs
set_option maxRecDepth 20000 in
theorem ggX7_join_X0_joined : GoodIn wsX7_join wsX0_joined := goodIn_r _ [28, 22, 23, 29, 30, 31, 32, 33, 34, 35, 36, 37, 38, 20, 39, 24, 40, 41, 42, 86, 87, 88] (by decide +kernel) (by decide +kernel)
set_option maxRecDepth 20000 in
theorem gX7_join_X0_joined : GoodIn wsX7_join (wsV RX7 154 RX0 yX0_joined wsX0_joined) := goodIn_app (goodIn_of _ (by decide +kernel)) ggX7_join_X0_joined
set_option maxRecDepth 20000 in
theorem ggX7_join_X1_init : GoodIn wsX7_join wsX1_init := goodIn_r _ [45, 46, 47, 48, 49, 50, 74, 75] (by decide +kernel) (by decide +kernel)
set_option maxRecDepth 20000 in
theorem gX7_join_X1_init : GoodIn wsX7_join (wsX1_init) := ggX7_join_X1_init
set_option maxRecDepth 20000 in
theorem ggX7_join_X7_put : GoodIn wsX7_join wsX7_put := goodIn_r _ [54, 55, 13, 56, 57, 58, 59, 60, 61, 62, 63, 64, 34, 31, 35, 65, 11, 66, 67, 68, 69, 7, 70, 50, 71, 72, 20, 73, 76, 77, 78, 79, 80, 81, 82, 83, 84, 85, 89, 90, 91, 74, 75] (by decide +kernel) (by decide +kernel)
set_option maxRecDepth 20000 in
theorem gX7_join_X7_put : GoodIn wsX7_join (wsV RX7 87 RX7 yX7_put wsX7_put) := goodIn_app (goodIn_of _ (by decide +kernel)) ggX7_join_X7_put
theorem dX7_join_0 : decode cX7_join 0 = .ok (.aload_n 0, 1) := by decide +kernel
theorem dX7_join_1 : decode cX7_join 1 = .ok (.iload_n 1, 1) := by decide +kernel
theorem dX7_join_2 : decode cX7_join 2 = .ok (.invokevirtual 135, 3) := by decide +kernel
theorem dX7_join_5 : decode cX7_join 5 = .ok (.astore 5, 2) := by decide +kernel
theorem dX7_join_7 : decode cX7_join 7 = .ok (.aload_n 0, 1) := by decide +kernel
theorem dX7_join_8 : decode cX7_join 8 = .ok (.iload_n 2, 1) := by decide +kernel
theorem dX7_join_9 : decode cX7_join 9 = .ok (.invokevirtual 135, 3) := by decide +kernel
theorem dX7_join_12 : decode cX7_join 12 = .ok (.astore 6, 2) := by decide +kernel
theorem dX7_join_14 : decode cX7_join 14 = .ok (.aload 5, 2) := by decide +kernel
theorem dX7_join_16 : decode cX7_join 16 = .ok (.ifnull 25, 3) := by decide +kernel
theorem dX7_join_19 : decode cX7_join 19 = .ok (.aload 6, 2) := by decide +kernel
theorem dX7_join_21 : decode cX7_join 21 = .ok (.ifnull 20, 3) := by decide +kernel
theorem dX7_join_24 : decode cX7_join 24 = .ok (.iload_n 3, 1) := by decide +kernel
theorem dX7_join_25 : decode cX7_join 25 = .ok (.ifCond .lt 16, 3) := by decide +kernel
theorem dX7_join_28 : decode cX7_join 28 = .ok (.iload_n 3, 1) := by decide +kernel
theorem dX7_join_29 : decode cX7_join 29 = .ok (.iconst 1, 1) := by decide +kernel
theorem dX7_join_30 : decode cX7_join 30 = .ok (.if_icmp .gt 11, 3) := by decide +kernel
theorem dX7_join_33 : decode cX7_join 33 = .ok (.iload 4, 2) := by decide +kernel
theorem dX7_join_35 : decode cX7_join 35 = .ok (.invokestatic 73, 3) := by decide +kernel
theorem dX7_join_38 : decode cX7_join 38 = .ok (.ifCond .ne 6, 3) := by decide +kernel
theorem dX7_join_41 : decode cX7_join 41 = .ok (.ldc 64, 2) := by decide +kernel
theorem dX7_join_43 : decode cX7_join 43 = .ok (.ireturn, 1) := by decide +kernel
theorem dX7_join_44 : decode cX7_join 44 = .ok (.aload 5, 2) := by decide +kernel
theorem dX7_join_46 : decode cX7_join 46 = .ok (.getfield 142, 3) := by decide +kernel
theorem dX7_join_49 : decode cX7_join 49 = .ok (.aload 6, 2) := by decide +kernel
theorem dX7_join_51 : decode cX7_join 51 = .ok (.getfield 142, 3) := by decide +kernel
theorem dX7_join_54 : decode cX7_join 54 = .ok (.invokevirtual 146, 3) := by decide +kernel
theorem dX7_join_57 : decode cX7_join 57 = .ok (.ifCond .ne 6, 3) := by decide +kernel
theorem dX7_join_60 : decode cX7_join 60 = .ok (.ldc 94, 2) := by decide +kernel
theorem dX7_join_62 : decode cX7_join 62 = .ok (.ireturn, 1) := by decide +kernel
theorem dX7_join_63 : decode cX7_join 63 = .ok (.aload 5, 2) := by decide +kernel
theorem dX7_join_65 : decode cX7_join 65 = .ok (.getfield 142, 3) := by decide +kernel
theorem dX7_join_68 : decode cX7_join 68 = .ok (.aload 5, 2) := by decide +kernel
theorem dX7_join_70 : decode cX7_join 70 = .ok (.getfield 150, 3) := by decide +kernel
theorem dX7_join_73 : decode cX7_join 73 = .ok (.aload 6, 2) := by decide +kernel
theorem dX7_join_75 : decode cX7_join 75 = .ok (.getfield 150, 3) := by decide +kernel
theorem dX7_join_78 : decode cX7_join 78 = .ok (.iload_n 3, 1) := by decide +kernel
theorem dX7_join_79 : decode cX7_join 79 = .ok (.ifCond .ne 7, 3) := by decide +kernel
theorem dX7_join_82 : decode cX7_join 82 = .ok (.iconst 1, 1) := by decide +kernel
theorem dX7_join_83 : decode cX7_join 83 = .ok (.goto 4, 3) := by decide +kernel
theorem dX7_join_86 : decode cX7_join 86 = .ok (.iconst 0, 1) := by decide +kernel
theorem dX7_join_87 : decode cX7_join 87 = .ok (.invokevirtual 154, 3) := by decide +kernel
theorem dX7_join_90 : decode cX7_join 90 = .ok (.lstore 7, 2) := by decide +kernel
theorem dX7_join_92 : decode cX7_join 92 = .ok (.aload_n 0, 1) := by decide +kernel
theorem dX7_join_93 : decode cX7_join 93 = .ok (.new 16, 3) := by decide +kernel
theorem dX7_join_96 : decode cX7_join 96 = .ok (.dup, 1) := by decide +kernel
theorem dX7_join_97 : decode cX7_join 97 = .ok (.aload 5, 2) := by decide +kernel
theorem dX7_join_99 : decode cX7_join 99 = .ok (.getfield 142, 3) := by decide +kernel
theorem dX7_join_102 : decode cX7_join 102 = .ok (.lload 7, 2) := by decide +kernel
theorem dX7_join_104 : decode cX7_join 104 = .ok (.invokespecial 117, 3) := by decide +kernel
theorem dX7_join_107 : decode cX7_join 107 = .ok (.iload 4, 2) := by decide +kernel
theorem dX7_join_109 : decode cX7_join 109 = .ok (.invokevirtual 87, 3) := by decide +kernel
theorem dX7_join_112 : decode cX7_join 112 = .ok (.ireturn, 1) := by decide +kernel
set_option maxRecDepth 20000 in
theorem ggX7_drop_X7_heapAt : GoodIn wsX7_drop wsX7_heapAt := goodIn_r _ [6, 7, 8, 9, 5, 10, 40, 41, 42, 43, 44, 45, 46, 47, 48, 49] (by decide +kernel) (by decide +kernel)
set_option maxRecDepth 20000 in
theorem gX7_drop_X7_heapAt : GoodIn wsX7_drop (wsV RX7 135 RX7 yX7_heapAt wsX7_heapAt) := goodIn_app (goodIn_of _ (by decide +kernel)) ggX7_drop_X7_heapAt
set_option maxRecDepth 20000 in
theorem ggX7_drop_X7_put : GoodIn wsX7_drop wsX7_put := goodIn_r _ [14, 15, 7, 16, 17, 18, 19, 20, 21, 22, 23, 24, 25, 26, 27, 28, 5, 29, 30, 31, 32, 33, 34, 35, 36, 37, 38, 39, 40, 41, 42, 43, 44, 45, 46, 47, 48, 49, 50, 51, 52, 53, 54] (by decide +kernel) (by decide +kernel)
set_option maxRecDepth 20000 in
theorem gX7_drop_X7_put : GoodIn wsX7_drop (wsV RX7 87 RX7 yX7_put wsX7_put) := goodIn_app (goodIn_of _ (by decide +kernel)) ggX7_drop_X7_put
set_option maxRecDepth 20000 in
theorem ggX7_drop_X1_volume : GoodIn wsX7_drop wsX1_volume := goodIn_r _ [34, 35, 36, 37, 38, 39, 53, 54] (by decide +kernel) (by decide +kernel)
set_option maxRecDepth 20000 in
theorem gX7_drop_X1_volume : GoodIn wsX7_drop (wsV RX7 158 RX1 yX1_volume wsX1_volume) := goodIn_app (goodIn_of _ (by decide +kernel)) ggX7_drop_X1_volume
theorem dX7_drop_0 : decode cX7_drop 0 = .ok (.aload_n 0, 1) := by decide +kernel
theorem dX7_drop_1 : decode cX7_drop 1 = .ok (.iload_n 1, 1) := by decide +kernel
theorem dX7_drop_2 : decode cX7_drop 2 = .ok (.invokevirtual 135, 3) := by decide +kernel
theorem dX7_drop_5 : decode cX7_drop 5 = .ok (.astore_n 2, 1) := by decide +kernel
theorem dX7_drop_6 : decode cX7_drop 6 = .ok (.aload_n 2, 1) := by decide +kernel
theorem dX7_drop_7 : decode cX7_drop 7 = .ok (.ifnonnull 6, 3) := by decide +kernel
theorem dX7_drop_10 : decode cX7_drop 10 = .ok (.ldc 64, 2) := by decide +kernel
theorem dX7_drop_12 : decode cX7_drop 12 = .ok (.ireturn, 1) := by decide +kernel
theorem dX7_drop_13 : decode cX7_drop 13 = .ok (.aload_n 0, 1) := by decide +kernel
theorem dX7_drop_14 : decode cX7_drop 14 = .ok (.aconst_null, 1) := by decide +kernel
theorem dX7_drop_15 : decode cX7_drop 15 = .ok (.iload_n 1, 1) := by decide +kernel
theorem dX7_drop_16 : decode cX7_drop 16 = .ok (.invokevirtual 87, 3) := by decide +kernel
theorem dX7_drop_19 : decode cX7_drop 19 = .ok (.pop, 1) := by decide +kernel
theorem dX7_drop_20 : decode cX7_drop 20 = .ok (.aload_n 2, 1) := by decide +kernel
theorem dX7_drop_21 : decode cX7_drop 21 = .ok (.invokevirtual 158, 3) := by decide +kernel
theorem dX7_drop_24 : decode cX7_drop 24 = .ok (.ireturn, 1) := by decide +kernel
set_option maxRecDepth 20000 in
theorem ggX7_height_X7_heapAt : GoodIn wsX7_height wsX7_heapAt := goodIn_r _ [8, 9, 10, 11, 7, 12, 27, 28, 29, 30, 31, 32, 33, 34, 35, 36] (by decide +kernel) (by decide +kernel)
set_option maxRecDepth 20000 in
theorem gX7_height_X7_heapAt : GoodIn wsX7_height (wsV RX7 135 RX7 yX7_heapAt wsX7_heapAt) := goodIn_app (goodIn_of _ (by decide +kernel)) ggX7_height_X7_heapAt
set_option maxRecDepth 20000 in
theorem ggX7_height_X0_hasCell : GoodIn wsX7_height wsX0_hasCell := goodIn_r _ [17, 18, 19, 37, 38, 39] (by decide +kernel) (by decide +kernel)
set_option maxRecDepth 20000 in
theorem gX7_height_X0_hasCell : GoodIn wsX7_height (wsV RX7 162 RX0 yX0_hasCell wsX0_hasCell) := goodIn_app (goodIn_of _ (by decide +kernel)) ggX7_height_X0_hasCell
set_option maxRecDepth 20000 in
theorem ggX7_height_X0_level : GoodIn wsX7_height wsX0_level := goodIn_r _ [23, 24, 18, 19, 37, 38, 39] (by decide +kernel) (by decide +kernel)
set_option maxRecDepth 20000 in
theorem gX7_height_X0_level : GoodIn wsX7_height (wsV RX7 166 RX0 yX0_level wsX0_level) := goodIn_app (goodIn_of _ (by decide +kernel)) ggX7_height_X0_level
theorem dX7_height_0 : decode cX7_height 0 = .ok (.aload_n 0, 1) := by decide +kernel
theorem dX7_height_1 : decode cX7_height 1 = .ok (.iload_n 1, 1) := by decide +kernel
theorem dX7_height_2 : decode cX7_height 2 = .ok (.invokevirtual 135, 3) := by decide +kernel
theorem dX7_height_5 : decode cX7_height 5 = .ok (.astore 4, 2) := by decide +kernel
theorem dX7_height_7 : decode cX7_height 7 = .ok (.aload 4, 2) := by decide +kernel
theorem dX7_height_9 : decode cX7_height 9 = .ok (.ifnull 16, 3) := by decide +kernel
theorem dX7_height_12 : decode cX7_height 12 = .ok (.aload 4, 2) := by decide +kernel
theorem dX7_height_14 : decode cX7_height 14 = .ok (.getfield 142, 3) := by decide +kernel
theorem dX7_height_17 : decode cX7_height 17 = .ok (.iload_n 2, 1) := by decide +kernel
theorem dX7_height_18 : decode cX7_height 18 = .ok (.iload_n 3, 1) := by decide +kernel
theorem dX7_height_19 : decode cX7_height 19 = .ok (.invokevirtual 162, 3) := by decide +kernel
theorem dX7_height_22 : decode cX7_height 22 = .ok (.ifCond .ne 6, 3) := by decide +kernel
theorem dX7_height_25 : decode cX7_height 25 = .ok (.ldc 64, 2) := by decide +kernel
theorem dX7_height_27 : decode cX7_height 27 = .ok (.ireturn, 1) := by decide +kernel
theorem dX7_height_28 : decode cX7_height 28 = .ok (.aload 4, 2) := by decide +kernel
theorem dX7_height_30 : decode cX7_height 30 = .ok (.getfield 142, 3) := by decide +kernel
theorem dX7_height_33 : decode cX7_height 33 = .ok (.aload 4, 2) := by decide +kernel
theorem dX7_height_35 : decode cX7_height 35 = .ok (.getfield 150, 3) := by decide +kernel
theorem dX7_height_38 : decode cX7_height 38 = .ok (.iload_n 2, 1) := by decide +kernel
theorem dX7_height_39 : decode cX7_height 39 = .ok (.iload_n 3, 1) := by decide +kernel
theorem dX7_height_40 : decode cX7_height 40 = .ok (.invokevirtual 166, 3) := by decide +kernel
theorem dX7_height_43 : decode cX7_height 43 = .ok (.ireturn, 1) := by decide +kernel
set_option maxRecDepth 20000 in
theorem ggX7_whole_X7_heapAt : GoodIn wsX7_whole wsX7_heapAt := goodIn_r _ [12, 13, 14, 15, 11, 16, 179, 180, 181, 182, 183, 184, 185, 186, 187, 188] (by decide +kernel) (by decide +kernel)
set_option maxRecDepth 20000 in
theorem gX7_whole_X7_heapAt : GoodIn wsX7_whole (wsV RX7 135 RX7 yX7_heapAt wsX7_heapAt) := goodIn_app (goodIn_of _ (by decide +kernel)) ggX7_whole_X7_heapAt
set_option maxRecDepth 20000 in
theorem ggX7_whole_X1_volume : GoodIn wsX7_whole wsX1_volume := goodIn_r _ [21, 22, 23, 24, 25, 26, 174, 175] (by decide +kernel) (by decide +kernel)
set_option maxRecDepth 20000 in
theorem gX7_whole_X1_volume : GoodIn wsX7_whole (wsV RX7 158 RX1 yX1_volume wsX1_volume) := goodIn_app (goodIn_of _ (by decide +kernel)) ggX7_whole_X1_volume
set_option maxRecDepth 20000 in
theorem ggX7_whole_X7_numberOf : GoodIn wsX7_whole wsX7_numberOf := goodIn_r _ [30, 2, 3, 6, 31, 32, 33, 11, 34, 4, 5, 35, 36, 37, 38, 39, 40, 41, 42, 43, 44, 45, 46, 47, 48, 49, 50, 51, 52, 53, 25, 54, 55, 56, 57, 58, 59, 60, 61, 62, 63, 64, 65, 66, 67, 68, 69, 70, 71, 72, 73, 74, 75, 76, 77, 78, 79, 80, 81, 82, 83, 84, 85, 86, 87, 88, 89, 90, 91, 92, 93, 94, 95, 96, 174, 175, 176, 177, 178, 179, 180, 181, 182, 183, 184, 185, 186, 187, 188, 189, 190, 191, 192] (by decide +kernel) (by decide +kernel)
set_option maxRecDepth 20000 in
theorem gX7_whole_X7_numberOf : GoodIn wsX7_whole (wsV RX7 179 RX7 yX7_numberOf wsX7_numberOf) := goodIn_app (goodIn_of _ (by decide +kernel)) ggX7_whole_X7_numberOf
set_option maxRecDepth 20000 in
theorem ggX7_whole_X0_trace : GoodIn wsX7_whole wsX0_trace := goodIn_r _ [100, 59, 60, 74, 75, 76, 25, 77, 61, 176, 177, 178] (by decide +kernel) (by decide +kernel)
set_option maxRecDepth 20000 in
theorem gX7_whole_X0_trace : GoodIn wsX7_whole (wsV RX7 183 RX0 yX0_trace wsX0_trace) := goodIn_app (goodIn_of _ (by decide +kernel)) ggX7_whole_X0_trace
set_option maxRecDepth 20000 in
theorem ggX7_whole_X0_changingCells : GoodIn wsX7_whole wsX0_changingCells := goodIn_r _ [104, 59, 60, 105, 106, 107, 25, 108, 70, 71, 72, 73, 74, 75, 76, 77, 61, 109, 110, 111, 112, 176, 177, 178] (by decide +kernel) (by decide +kernel)
set_option maxRecDepth 20000 in
theorem gX7_whole_X0_changingCells : GoodIn wsX7_whole (wsV RX7 187 RX0 yX0_changingCells wsX0_changingCells) := goodIn_app (goodIn_of _ (by decide +kernel)) ggX7_whole_X0_changingCells
set_option maxRecDepth 20000 in
theorem ggX7_whole_X0_symmetries : GoodIn wsX7_whole wsX0_symmetries := goodIn_r _ [116, 117, 118, 119, 25, 120, 59, 60, 61, 121, 122, 123, 124, 78, 79, 80, 74, 75, 76, 77, 125, 126, 127, 128, 129, 130, 131, 132, 176, 177, 178] (by decide +kernel) (by decide +kernel)
set_option maxRecDepth 20000 in
theorem gX7_whole_X0_symmetries : GoodIn wsX7_whole (wsV RX7 191 RX0 yX0_symmetries wsX0_symmetries) := goodIn_app (goodIn_of _ (by decide +kernel)) ggX7_whole_X0_symmetries
set_option maxRecDepth 20000 in
theorem ggX7_whole_X2_gather : GoodIn wsX7_whole wsX2_gather := goodIn_r _ [137, 138, 139, 140, 141, 136, 142, 143, 144, 145, 146, 20, 147, 148, 149, 150, 151, 22, 152, 153, 154, 155, 156, 157, 158, 25, 159, 59, 60, 61, 160, 161, 162, 163, 164, 165, 166, 53, 56, 57, 58, 43, 44, 167, 122, 123, 124, 78, 79, 80, 74, 75, 76, 77, 168, 169, 170, 171, 172, 126, 127, 128, 173, 130, 131, 132, 193, 194, 174, 175, 176, 177, 178] (by decide +kernel) (by decide +kernel)
set_option maxRecDepth 20000 in
theorem gX7_whole_X2_gather : GoodIn wsX7_whole (wsV RX7 194 RX2 yX2_gather wsX2_gather) := goodIn_app (goodIn_of _ (by decide +kernel)) ggX7_whole_X2_gather
theorem dX7_whole_0 : decode cX7_whole 0 = .ok (.aload_n 0, 1) := by decide +kernel
theorem dX7_whole_1 : decode cX7_whole 1 = .ok (.iload_n 1, 1) := by decide +kernel
theorem dX7_whole_2 : decode cX7_whole 2 = .ok (.invokevirtual 135, 3) := by decide +kernel
theorem dX7_whole_5 : decode cX7_whole 5 = .ok (.astore_n 3, 1) := by decide +kernel
theorem dX7_whole_6 : decode cX7_whole 6 = .ok (.aload_n 3, 1) := by decide +kernel
theorem dX7_whole_7 : decode cX7_whole 7 = .ok (.ifnonnull 6, 3) := by decide +kernel
theorem dX7_whole_10 : decode cX7_whole 10 = .ok (.ldc 64, 2) := by decide +kernel
theorem dX7_whole_12 : decode cX7_whole 12 = .ok (.ireturn, 1) := by decide +kernel
theorem dX7_whole_13 : decode cX7_whole 13 = .ok (.iload_n 2, 1) := by decide +kernel
theorem dX7_whole_14 : decode cX7_whole 14 = .ok (.tableswitch 148 0 9 #[54, 62, 70, 78, 83, 89, 101, 114, 127, 139], 54) := by decide +kernel
theorem dX7_whole_68 : decode cX7_whole 68 = .ok (.aload_n 3, 1) := by decide +kernel
theorem dX7_whole_69 : decode cX7_whole 69 = .ok (.getfield 142, 3) := by decide +kernel
theorem dX7_whole_72 : decode cX7_whole 72 = .ok (.getfield 170, 3) := by decide +kernel
theorem dX7_whole_75 : decode cX7_whole 75 = .ok (.ireturn, 1) := by decide +kernel
theorem dX7_whole_76 : decode cX7_whole 76 = .ok (.aload_n 3, 1) := by decide +kernel
theorem dX7_whole_77 : decode cX7_whole 77 = .ok (.getfield 142, 3) := by decide +kernel
theorem dX7_whole_80 : decode cX7_whole 80 = .ok (.getfield 173, 3) := by decide +kernel
theorem dX7_whole_83 : decode cX7_whole 83 = .ok (.ireturn, 1) := by decide +kernel
theorem dX7_whole_84 : decode cX7_whole 84 = .ok (.aload_n 3, 1) := by decide +kernel
theorem dX7_whole_85 : decode cX7_whole 85 = .ok (.getfield 142, 3) := by decide +kernel
theorem dX7_whole_88 : decode cX7_whole 88 = .ok (.getfield 176, 3) := by decide +kernel
theorem dX7_whole_91 : decode cX7_whole 91 = .ok (.ireturn, 1) := by decide +kernel
theorem dX7_whole_92 : decode cX7_whole 92 = .ok (.aload_n 3, 1) := by decide +kernel
theorem dX7_whole_93 : decode cX7_whole 93 = .ok (.invokevirtual 158, 3) := by decide +kernel
theorem dX7_whole_96 : decode cX7_whole 96 = .ok (.ireturn, 1) := by decide +kernel
theorem dX7_whole_97 : decode cX7_whole 97 = .ok (.aload_n 0, 1) := by decide +kernel
theorem dX7_whole_98 : decode cX7_whole 98 = .ok (.aload_n 3, 1) := by decide +kernel
theorem dX7_whole_99 : decode cX7_whole 99 = .ok (.invokevirtual 179, 3) := by decide +kernel
theorem dX7_whole_102 : decode cX7_whole 102 = .ok (.ireturn, 1) := by decide +kernel
theorem dX7_whole_103 : decode cX7_whole 103 = .ok (.aload_n 3, 1) := by decide +kernel
theorem dX7_whole_104 : decode cX7_whole 104 = .ok (.getfield 142, 3) := by decide +kernel
theorem dX7_whole_107 : decode cX7_whole 107 = .ok (.aload_n 3, 1) := by decide +kernel
theorem dX7_whole_108 : decode cX7_whole 108 = .ok (.getfield 150, 3) := by decide +kernel
theorem dX7_whole_111 : decode cX7_whole 111 = .ok (.invokevirtual 183, 3) := by decide +kernel
theorem dX7_whole_114 : decode cX7_whole 114 = .ok (.ireturn, 1) := by decide +kernel
theorem dX7_whole_115 : decode cX7_whole 115 = .ok (.aload_n 3, 1) := by decide +kernel
theorem dX7_whole_116 : decode cX7_whole 116 = .ok (.getfield 142, 3) := by decide +kernel
theorem dX7_whole_119 : decode cX7_whole 119 = .ok (.aload_n 3, 1) := by decide +kernel
theorem dX7_whole_120 : decode cX7_whole 120 = .ok (.getfield 150, 3) := by decide +kernel
theorem dX7_whole_123 : decode cX7_whole 123 = .ok (.iconst 1, 1) := by decide +kernel
theorem dX7_whole_124 : decode cX7_whole 124 = .ok (.invokevirtual 187, 3) := by decide +kernel
theorem dX7_whole_127 : decode cX7_whole 127 = .ok (.ireturn, 1) := by decide +kernel
theorem dX7_whole_128 : decode cX7_whole 128 = .ok (.aload_n 3, 1) := by decide +kernel
theorem dX7_whole_129 : decode cX7_whole 129 = .ok (.getfield 142, 3) := by decide +kernel
theorem dX7_whole_132 : decode cX7_whole 132 = .ok (.aload_n 3, 1) := by decide +kernel
theorem dX7_whole_133 : decode cX7_whole 133 = .ok (.getfield 150, 3) := by decide +kernel
theorem dX7_whole_136 : decode cX7_whole 136 = .ok (.iconst 0, 1) := by decide +kernel
theorem dX7_whole_137 : decode cX7_whole 137 = .ok (.invokevirtual 187, 3) := by decide +kernel
theorem dX7_whole_140 : decode cX7_whole 140 = .ok (.ireturn, 1) := by decide +kernel
theorem dX7_whole_141 : decode cX7_whole 141 = .ok (.aload_n 3, 1) := by decide +kernel
theorem dX7_whole_142 : decode cX7_whole 142 = .ok (.getfield 142, 3) := by decide +kernel
theorem dX7_whole_145 : decode cX7_whole 145 = .ok (.aload_n 3, 1) := by decide +kernel
theorem dX7_whole_146 : decode cX7_whole 146 = .ok (.getfield 150, 3) := by decide +kernel
theorem dX7_whole_149 : decode cX7_whole 149 = .ok (.invokevirtual 191, 3) := by decide +kernel
theorem dX7_whole_152 : decode cX7_whole 152 = .ok (.ireturn, 1) := by decide +kernel
theorem dX7_whole_153 : decode cX7_whole 153 = .ok (.aload_n 0, 1) := by decide +kernel
theorem dX7_whole_154 : decode cX7_whole 154 = .ok (.getfield 45, 3) := by decide +kernel
theorem dX7_whole_157 : decode cX7_whole 157 = .ok (.aload_n 3, 1) := by decide +kernel
theorem dX7_whole_158 : decode cX7_whole 158 = .ok (.invokevirtual 194, 3) := by decide +kernel
theorem dX7_whole_161 : decode cX7_whole 161 = .ok (.ireturn, 1) := by decide +kernel
theorem dX7_whole_162 : decode cX7_whole 162 = .ok (.ldc 64, 2) := by decide +kernel
theorem dX7_whole_164 : decode cX7_whole 164 = .ok (.ireturn, 1) := by decide +kernel
set_option maxRecDepth 20000 in
theorem ggX7_path_X7_heapAt : GoodIn wsX7_path wsX7_heapAt := goodIn_r _ [9, 10, 11, 12, 8, 13, 36, 37, 38, 39, 40, 41, 42, 43, 44, 45] (by decide +kernel) (by decide +kernel)
set_option maxRecDepth 20000 in
theorem gX7_path_X7_heapAt : GoodIn wsX7_path (wsV RX7 135 RX7 yX7_heapAt wsX7_heapAt) := goodIn_app (goodIn_of _ (by decide +kernel)) ggX7_path_X7_heapAt
set_option maxRecDepth 20000 in
theorem ggX7_path_X0_letter : GoodIn wsX7_path wsX0_letter := goodIn_r _ [18, 19, 20, 21, 22, 23, 24, 17, 25, 26, 27, 28, 29, 30, 33, 34, 35] (by decide +kernel) (by decide +kernel)
set_option maxRecDepth 20000 in
theorem gX7_path_X0_letter : GoodIn wsX7_path (wsV RX7 197 RX0 yX0_letter wsX0_letter) := goodIn_app (goodIn_of _ (by decide +kernel)) ggX7_path_X0_letter
theorem dX7_path_0 : decode cX7_path 0 = .ok (.aload_n 0, 1) := by decide +kernel
theorem dX7_path_1 : decode cX7_path 1 = .ok (.iload_n 1, 1) := by decide +kernel
theorem dX7_path_2 : decode cX7_path 2 = .ok (.invokevirtual 135, 3) := by decide +kernel
theorem dX7_path_5 : decode cX7_path 5 = .ok (.astore 4, 2) := by decide +kernel
theorem dX7_path_7 : decode cX7_path 7 = .ok (.aload 4, 2) := by decide +kernel
theorem dX7_path_9 : decode cX7_path 9 = .ok (.ifnull 23, 3) := by decide +kernel
theorem dX7_path_12 : decode cX7_path 12 = .ok (.iload_n 2, 1) := by decide +kernel
theorem dX7_path_13 : decode cX7_path 13 = .ok (.ifCond .lt 19, 3) := by decide +kernel
theorem dX7_path_16 : decode cX7_path 16 = .ok (.iload_n 2, 1) := by decide +kernel
theorem dX7_path_17 : decode cX7_path 17 = .ok (.aload 4, 2) := by decide +kernel
theorem dX7_path_19 : decode cX7_path 19 = .ok (.getfield 142, 3) := by decide +kernel
theorem dX7_path_22 : decode cX7_path 22 = .ok (.getfield 170, 3) := by decide +kernel
theorem dX7_path_25 : decode cX7_path 25 = .ok (.if_icmp .ge 7, 3) := by decide +kernel
theorem dX7_path_28 : decode cX7_path 28 = .ok (.iload_n 3, 1) := by decide +kernel
theorem dX7_path_29 : decode cX7_path 29 = .ok (.ifCond .ge 6, 3) := by decide +kernel
theorem dX7_path_32 : decode cX7_path 32 = .ok (.ldc 64, 2) := by decide +kernel
theorem dX7_path_34 : decode cX7_path 34 = .ok (.ireturn, 1) := by decide +kernel
theorem dX7_path_35 : decode cX7_path 35 = .ok (.aload 4, 2) := by decide +kernel
theorem dX7_path_37 : decode cX7_path 37 = .ok (.getfield 142, 3) := by decide +kernel
theorem dX7_path_40 : decode cX7_path 40 = .ok (.aload 4, 2) := by decide +kernel
theorem dX7_path_42 : decode cX7_path 42 = .ok (.getfield 150, 3) := by decide +kernel
theorem dX7_path_45 : decode cX7_path 45 = .ok (.iload_n 2, 1) := by decide +kernel
theorem dX7_path_46 : decode cX7_path 46 = .ok (.iload_n 3, 1) := by decide +kernel
theorem dX7_path_47 : decode cX7_path 47 = .ok (.invokevirtual 197, 3) := by decide +kernel
theorem dX7_path_50 : decode cX7_path 50 = .ok (.ireturn, 1) := by decide +kernel
set_option maxRecDepth 20000 in
theorem ggX7_slice_X7_heapAt : GoodIn wsX7_slice wsX7_heapAt := goodIn_r _ [15, 16, 17, 18, 14, 19, 37, 38, 39, 40, 41, 42, 43, 44, 45, 46] (by decide +kernel) (by decide +kernel)
set_option maxRecDepth 20000 in
theorem gX7_slice_X7_heapAt : GoodIn wsX7_slice (wsV RX7 135 RX7 yX7_heapAt wsX7_heapAt) := goodIn_app (goodIn_of _ (by decide +kernel)) ggX7_slice_X7_heapAt
set_option maxRecDepth 20000 in
theorem ggX7_slice_X0_hasCell : GoodIn wsX7_slice wsX0_hasCell := goodIn_r _ [24, 25, 26, 34, 35, 36] (by decide +kernel) (by decide +kernel)
set_option maxRecDepth 20000 in
theorem gX7_slice_X0_hasCell : GoodIn wsX7_slice (wsV RX7 162 RX0 yX0_hasCell wsX0_hasCell) := goodIn_app (goodIn_of _ (by decide +kernel)) ggX7_slice_X0_hasCell
set_option maxRecDepth 20000 in
theorem ggX7_slice_X0_level : GoodIn wsX7_slice wsX0_level := goodIn_r _ [30, 31, 25, 26, 34, 35, 36] (by decide +kernel) (by decide +kernel)
set_option maxRecDepth 20000 in
theorem gX7_slice_X0_level : GoodIn wsX7_slice (wsV RX7 166 RX0 yX0_level wsX0_level) := goodIn_app (goodIn_of _ (by decide +kernel)) ggX7_slice_X0_level
theorem dX7_slice_0 : decode cX7_slice 0 = .ok (.aload_n 0, 1) := by decide +kernel
theorem dX7_slice_1 : decode cX7_slice 1 = .ok (.iload_n 1, 1) := by decide +kernel
theorem dX7_slice_2 : decode cX7_slice 2 = .ok (.invokevirtual 135, 3) := by decide +kernel
theorem dX7_slice_5 : decode cX7_slice 5 = .ok (.astore 4, 2) := by decide +kernel
theorem dX7_slice_7 : decode cX7_slice 7 = .ok (.aload 4, 2) := by decide +kernel
theorem dX7_slice_9 : decode cX7_slice 9 = .ok (.ifnull 35, 3) := by decide +kernel
theorem dX7_slice_12 : decode cX7_slice 12 = .ok (.iload_n 2, 1) := by decide +kernel
theorem dX7_slice_13 : decode cX7_slice 13 = .ok (.iconst 1, 1) := by decide +kernel
theorem dX7_slice_14 : decode cX7_slice 14 = .ok (.aload 4, 2) := by decide +kernel
theorem dX7_slice_16 : decode cX7_slice 16 = .ok (.getfield 142, 3) := by decide +kernel
theorem dX7_slice_19 : decode cX7_slice 19 = .ok (.getfield 170, 3) := by decide +kernel
theorem dX7_slice_22 : decode cX7_slice 22 = .ok (.isub, 1) := by decide +kernel
theorem dX7_slice_23 : decode cX7_slice 23 = .ok (.if_icmp .lt 21, 3) := by decide +kernel
theorem dX7_slice_26 : decode cX7_slice 26 = .ok (.iload_n 2, 1) := by decide +kernel
theorem dX7_slice_27 : decode cX7_slice 27 = .ok (.aload 4, 2) := by decide +kernel
theorem dX7_slice_29 : decode cX7_slice 29 = .ok (.getfield 142, 3) := by decide +kernel
theorem dX7_slice_32 : decode cX7_slice 32 = .ok (.getfield 173, 3) := by decide +kernel
theorem dX7_slice_35 : decode cX7_slice 35 = .ok (.iconst 1, 1) := by decide +kernel
theorem dX7_slice_36 : decode cX7_slice 36 = .ok (.isub, 1) := by decide +kernel
theorem dX7_slice_37 : decode cX7_slice 37 = .ok (.if_icmp .gt 7, 3) := by decide +kernel
theorem dX7_slice_40 : decode cX7_slice 40 = .ok (.iload_n 3, 1) := by decide +kernel
theorem dX7_slice_41 : decode cX7_slice 41 = .ok (.ifCond .ge 6, 3) := by decide +kernel
theorem dX7_slice_44 : decode cX7_slice 44 = .ok (.ldc 64, 2) := by decide +kernel
theorem dX7_slice_46 : decode cX7_slice 46 = .ok (.ireturn, 1) := by decide +kernel
theorem dX7_slice_47 : decode cX7_slice 47 = .ok (.iload_n 3, 1) := by decide +kernel
theorem dX7_slice_48 : decode cX7_slice 48 = .ok (.iconst 4, 1) := by decide +kernel
theorem dX7_slice_49 : decode cX7_slice 49 = .ok (.if_icmp .lt 6, 3) := by decide +kernel
theorem dX7_slice_52 : decode cX7_slice 52 = .ok (.ldc 200, 2) := by decide +kernel
theorem dX7_slice_54 : decode cX7_slice 54 = .ok (.ireturn, 1) := by decide +kernel
theorem dX7_slice_55 : decode cX7_slice 55 = .ok (.iconst 0, 1) := by decide +kernel
theorem dX7_slice_56 : decode cX7_slice 56 = .ok (.iload_n 2, 1) := by decide +kernel
theorem dX7_slice_57 : decode cX7_slice 57 = .ok (.ineg, 1) := by decide +kernel
theorem dX7_slice_58 : decode cX7_slice 58 = .ok (.invokestatic 121, 3) := by decide +kernel
theorem dX7_slice_61 : decode cX7_slice 61 = .ok (.iload_n 3, 1) := by decide +kernel
theorem dX7_slice_62 : decode cX7_slice 62 = .ok (.iadd, 1) := by decide +kernel
theorem dX7_slice_63 : decode cX7_slice 63 = .ok (.istore 5, 2) := by decide +kernel
theorem dX7_slice_65 : decode cX7_slice 65 = .ok (.aload 4, 2) := by decide +kernel
theorem dX7_slice_67 : decode cX7_slice 67 = .ok (.getfield 142, 3) := by decide +kernel
theorem dX7_slice_70 : decode cX7_slice 70 = .ok (.iload 5, 2) := by decide +kernel
theorem dX7_slice_72 : decode cX7_slice 72 = .ok (.iload 5, 2) := by decide +kernel
theorem dX7_slice_74 : decode cX7_slice 74 = .ok (.iload_n 2, 1) := by decide +kernel
theorem dX7_slice_75 : decode cX7_slice 75 = .ok (.iadd, 1) := by decide +kernel
theorem dX7_slice_76 : decode cX7_slice 76 = .ok (.invokevirtual 162, 3) := by decide +kernel
theorem dX7_slice_79 : decode cX7_slice 79 = .ok (.ifCond .eq 25, 3) := by decide +kernel
theorem dX7_slice_82 : decode cX7_slice 82 = .ok (.aload 4, 2) := by decide +kernel
theorem dX7_slice_84 : decode cX7_slice 84 = .ok (.getfield 142, 3) := by decide +kernel
theorem dX7_slice_87 : decode cX7_slice 87 = .ok (.aload 4, 2) := by decide +kernel
theorem dX7_slice_89 : decode cX7_slice 89 = .ok (.getfield 150, 3) := by decide +kernel
theorem dX7_slice_92 : decode cX7_slice 92 = .ok (.iload 5, 2) := by decide +kernel
theorem dX7_slice_94 : decode cX7_slice 94 = .ok (.iload 5, 2) := by decide +kernel
theorem dX7_slice_96 : decode cX7_slice 96 = .ok (.iload_n 2, 1) := by decide +kernel
theorem dX7_slice_97 : decode cX7_slice 97 = .ok (.iadd, 1) := by decide +kernel
theorem dX7_slice_98 : decode cX7_slice 98 = .ok (.invokevirtual 166, 3) := by decide +kernel
theorem dX7_slice_101 : decode cX7_slice 101 = .ok (.goto 5, 3) := by decide +kernel
theorem dX7_slice_104 : decode cX7_slice 104 = .ok (.ldc 200, 2) := by decide +kernel
theorem dX7_slice_106 : decode cX7_slice 106 = .ok (.ireturn, 1) := by decide +kernel
set_option maxRecDepth 20000 in
theorem ggX7_face_X7_heapAt : GoodIn wsX7_face wsX7_heapAt := goodIn_r _ [8, 9, 10, 11, 7, 12, 30, 31, 32, 33, 34, 35, 36, 37, 38, 39] (by decide +kernel) (by decide +kernel)
set_option maxRecDepth 20000 in
theorem gX7_face_X7_heapAt : GoodIn wsX7_face (wsV RX7 135 RX7 yX7_heapAt wsX7_heapAt) := goodIn_app (goodIn_of _ (by decide +kernel)) ggX7_face_X7_heapAt
set_option maxRecDepth 20000 in
theorem ggX7_face_X0_faceAt : GoodIn wsX7_face wsX0_faceAt := goodIn_r _ [17, 18, 19, 20, 21, 22, 16, 23, 24, 25, 26, 27, 40, 41, 42] (by decide +kernel) (by decide +kernel)
set_option maxRecDepth 20000 in
theorem gX7_face_X0_faceAt : GoodIn wsX7_face (wsV RX7 201 RX0 yX0_faceAt wsX0_faceAt) := goodIn_app (goodIn_of _ (by decide +kernel)) ggX7_face_X0_faceAt
theorem dX7_face_0 : decode cX7_face 0 = .ok (.aload_n 0, 1) := by decide +kernel
theorem dX7_face_1 : decode cX7_face 1 = .ok (.iload_n 1, 1) := by decide +kernel
theorem dX7_face_2 : decode cX7_face 2 = .ok (.invokevirtual 135, 3) := by decide +kernel
theorem dX7_face_5 : decode cX7_face 5 = .ok (.astore 4, 2) := by decide +kernel
theorem dX7_face_7 : decode cX7_face 7 = .ok (.aload 4, 2) := by decide +kernel
theorem dX7_face_9 : decode cX7_face 9 = .ok (.ifnonnull 8, 3) := by decide +kernel
theorem dX7_face_12 : decode cX7_face 12 = .ok (.ldc 64, 2) := by decide +kernel
theorem dX7_face_14 : decode cX7_face 14 = .ok (.goto 18, 3) := by decide +kernel
theorem dX7_face_17 : decode cX7_face 17 = .ok (.aload 4, 2) := by decide +kernel
theorem dX7_face_19 : decode cX7_face 19 = .ok (.getfield 142, 3) := by decide +kernel
theorem dX7_face_22 : decode cX7_face 22 = .ok (.aload 4, 2) := by decide +kernel
theorem dX7_face_24 : decode cX7_face 24 = .ok (.getfield 150, 3) := by decide +kernel
theorem dX7_face_27 : decode cX7_face 27 = .ok (.iload_n 2, 1) := by decide +kernel
theorem dX7_face_28 : decode cX7_face 28 = .ok (.iload_n 3, 1) := by decide +kernel
theorem dX7_face_29 : decode cX7_face 29 = .ok (.invokevirtual 201, 3) := by decide +kernel
theorem dX7_face_32 : decode cX7_face 32 = .ok (.ireturn, 1) := by decide +kernel
set_option maxRecDepth 20000 in
theorem ggX7_kin_X7_heapAt : GoodIn wsX7_kin wsX7_heapAt := goodIn_r _ [8, 9, 10, 11, 7, 12, 145, 146, 147, 148, 149, 150, 151, 152, 153, 154] (by decide +kernel) (by decide +kernel)
set_option maxRecDepth 20000 in
theorem gX7_kin_X7_heapAt : GoodIn wsX7_kin (wsV RX7 135 RX7 yX7_heapAt wsX7_heapAt) := goodIn_app (goodIn_of _ (by decide +kernel)) ggX7_kin_X7_heapAt
set_option maxRecDepth 20000 in
theorem ggX7_kin_X2_gather : GoodIn wsX7_kin wsX2_gather := goodIn_r _ [17, 18, 19, 20, 21, 16, 22, 23, 24, 25, 26, 27, 28, 29, 30, 31, 32, 33, 34, 35, 36, 37, 38, 39, 40, 41, 42, 43, 44, 45, 46, 47, 48, 49, 50, 51, 52, 53, 54, 55, 56, 57, 58, 59, 60, 61, 62, 63, 64, 65, 66, 67, 68, 69, 70, 71, 72, 73, 74, 75, 76, 77, 78, 79, 80, 81, 155, 156, 157, 158, 159, 160, 161] (by decide +kernel) (by decide +kernel)
set_option maxRecDepth 20000 in
theorem gX7_kin_X2_gather : GoodIn wsX7_kin (wsV RX7 194 RX2 yX2_gather wsX2_gather) := goodIn_app (goodIn_of _ (by decide +kernel)) ggX7_kin_X2_gather
set_option maxRecDepth 20000 in
theorem ggX7_kin_X2_member : GoodIn wsX7_kin wsX2_member := goodIn_r _ [85, 18, 23, 155, 156] (by decide +kernel) (by decide +kernel)
set_option maxRecDepth 20000 in
theorem gX7_kin_X2_member : GoodIn wsX7_kin (wsV RX7 204 RX2 yX2_member wsX2_member) := goodIn_app (goodIn_of _ (by decide +kernel)) ggX7_kin_X2_member
set_option maxRecDepth 20000 in
theorem ggX7_kin_X7_numberOf : GoodIn wsX7_kin wsX7_numberOf := goodIn_r _ [89, 90, 91, 92, 93, 94, 95, 7, 96, 97, 98, 99, 100, 101, 102, 103, 104, 105, 106, 57, 58, 107, 108, 109, 110, 111, 112, 113, 114, 53, 41, 115, 116, 54, 55, 56, 43, 44, 45, 117, 118, 119, 120, 121, 122, 123, 124, 125, 126, 127, 128, 66, 67, 68, 69, 63, 64, 65, 129, 130, 131, 132, 133, 134, 135, 136, 137, 138, 139, 140, 141, 142, 143, 144, 157, 158, 159, 160, 161, 145, 146, 147, 148, 149, 150, 151, 152, 153, 154, 162, 163, 164, 165] (by decide +kernel) (by decide +kernel)
set_option maxRecDepth 20000 in
theorem gX7_kin_X7_numberOf : GoodIn wsX7_kin (wsV RX7 179 RX7 yX7_numberOf wsX7_numberOf) := goodIn_app (goodIn_of _ (by decide +kernel)) ggX7_kin_X7_numberOf
theorem dX7_kin_0 : decode cX7_kin 0 = .ok (.aload_n 0, 1) := by decide +kernel
theorem dX7_kin_1 : decode cX7_kin 1 = .ok (.iload_n 1, 1) := by decide +kernel
theorem dX7_kin_2 : decode cX7_kin 2 = .ok (.invokevirtual 135, 3) := by decide +kernel
theorem dX7_kin_5 : decode cX7_kin 5 = .ok (.astore_n 3, 1) := by decide +kernel
theorem dX7_kin_6 : decode cX7_kin 6 = .ok (.aload_n 3, 1) := by decide +kernel
theorem dX7_kin_7 : decode cX7_kin 7 = .ok (.ifnull 7, 3) := by decide +kernel
theorem dX7_kin_10 : decode cX7_kin 10 = .ok (.iload_n 2, 1) := by decide +kernel
theorem dX7_kin_11 : decode cX7_kin 11 = .ok (.ifCond .ge 6, 3) := by decide +kernel
theorem dX7_kin_14 : decode cX7_kin 14 = .ok (.ldc 64, 2) := by decide +kernel
theorem dX7_kin_16 : decode cX7_kin 16 = .ok (.ireturn, 1) := by decide +kernel
theorem dX7_kin_17 : decode cX7_kin 17 = .ok (.iload_n 2, 1) := by decide +kernel
theorem dX7_kin_18 : decode cX7_kin 18 = .ok (.aload_n 0, 1) := by decide +kernel
theorem dX7_kin_19 : decode cX7_kin 19 = .ok (.getfield 45, 3) := by decide +kernel
theorem dX7_kin_22 : decode cX7_kin 22 = .ok (.aload_n 3, 1) := by decide +kernel
theorem dX7_kin_23 : decode cX7_kin 23 = .ok (.invokevirtual 194, 3) := by decide +kernel
theorem dX7_kin_26 : decode cX7_kin 26 = .ok (.if_icmp .ge 14, 3) := by decide +kernel
theorem dX7_kin_29 : decode cX7_kin 29 = .ok (.aload_n 0, 1) := by decide +kernel
theorem dX7_kin_30 : decode cX7_kin 30 = .ok (.getfield 45, 3) := by decide +kernel
theorem dX7_kin_33 : decode cX7_kin 33 = .ok (.iload_n 2, 1) := by decide +kernel
theorem dX7_kin_34 : decode cX7_kin 34 = .ok (.invokevirtual 204, 3) := by decide +kernel
theorem dX7_kin_37 : decode cX7_kin 37 = .ok (.goto 4, 3) := by decide +kernel
theorem dX7_kin_40 : decode cX7_kin 40 = .ok (.aconst_null, 1) := by decide +kernel
theorem dX7_kin_41 : decode cX7_kin 41 = .ok (.astore 4, 2) := by decide +kernel
theorem dX7_kin_43 : decode cX7_kin 43 = .ok (.aload 4, 2) := by decide +kernel
theorem dX7_kin_45 : decode cX7_kin 45 = .ok (.ifnonnull 8, 3) := by decide +kernel
theorem dX7_kin_48 : decode cX7_kin 48 = .ok (.ldc 200, 2) := by decide +kernel
theorem dX7_kin_50 : decode cX7_kin 50 = .ok (.goto 9, 3) := by decide +kernel
theorem dX7_kin_53 : decode cX7_kin 53 = .ok (.aload_n 0, 1) := by decide +kernel
theorem dX7_kin_54 : decode cX7_kin 54 = .ok (.aload 4, 2) := by decide +kernel
theorem dX7_kin_56 : decode cX7_kin 56 = .ok (.invokevirtual 179, 3) := by decide +kernel
theorem dX7_kin_59 : decode cX7_kin 59 = .ok (.ireturn, 1) := by decide +kernel
set_option maxRecDepth 20000 in
theorem ggX7_orders_X7_heapAt : GoodIn wsX7_orders wsX7_heapAt := goodIn_r _ [9, 10, 11, 12, 8, 13, 46, 47, 48, 49, 50, 51, 52, 53, 54, 55] (by decide +kernel) (by decide +kernel)
set_option maxRecDepth 20000 in
theorem gX7_orders_X7_heapAt : GoodIn wsX7_orders (wsV RX7 135 RX7 yX7_heapAt wsX7_heapAt) := goodIn_app (goodIn_of _ (by decide +kernel)) ggX7_orders_X7_heapAt
set_option maxRecDepth 20000 in
theorem ggX7_orders_X1_volume : GoodIn wsX7_orders wsX1_volume := goodIn_r _ [18, 19, 20, 21, 22, 23, 44, 45] (by decide +kernel) (by decide +kernel)
set_option maxRecDepth 20000 in
theorem gX7_orders_X1_volume : GoodIn wsX7_orders (wsV RX7 158 RX1 yX1_volume wsX1_volume) := goodIn_app (goodIn_of _ (by decide +kernel)) ggX7_orders_X1_volume
set_option maxRecDepth 20000 in
theorem ggX7_orders_X7_ordersOf : GoodIn wsX7_orders wsX7_ordersOf := goodIn_r _ [26, 27, 28, 29, 30, 31, 22, 32, 33, 34, 35, 36, 37, 38, 39, 40, 41, 42, 43, 24, 25, 8, 56, 57, 58] (by decide +kernel) (by decide +kernel)
set_option maxRecDepth 20000 in
theorem gX7_orders_X7_ordersOf : GoodIn wsX7_orders (va_wsS RX7 207 yX7_ordersOf wsX7_ordersOf) := goodIn_app (goodIn_of _ (by decide +kernel)) ggX7_orders_X7_ordersOf
theorem dX7_orders_0 : decode cX7_orders 0 = .ok (.aload_n 0, 1) := by decide +kernel
theorem dX7_orders_1 : decode cX7_orders 1 = .ok (.iload_n 1, 1) := by decide +kernel
theorem dX7_orders_2 : decode cX7_orders 2 = .ok (.invokevirtual 135, 3) := by decide +kernel
theorem dX7_orders_5 : decode cX7_orders 5 = .ok (.astore_n 2, 1) := by decide +kernel
theorem dX7_orders_6 : decode cX7_orders 6 = .ok (.aload_n 2, 1) := by decide +kernel
theorem dX7_orders_7 : decode cX7_orders 7 = .ok (.ifnonnull 6, 3) := by decide +kernel
theorem dX7_orders_10 : decode cX7_orders 10 = .ok (.ldc 64, 2) := by decide +kernel
theorem dX7_orders_12 : decode cX7_orders 12 = .ok (.ireturn, 1) := by decide +kernel
theorem dX7_orders_13 : decode cX7_orders 13 = .ok (.aload_n 2, 1) := by decide +kernel
theorem dX7_orders_14 : decode cX7_orders 14 = .ok (.invokevirtual 158, 3) := by decide +kernel
theorem dX7_orders_17 : decode cX7_orders 17 = .ok (.istore_n 3, 1) := by decide +kernel
theorem dX7_orders_18 : decode cX7_orders 18 = .ok (.iload_n 3, 1) := by decide +kernel
theorem dX7_orders_19 : decode cX7_orders 19 = .ok (.bipush 8, 2) := by decide +kernel
theorem dX7_orders_21 : decode cX7_orders 21 = .ok (.if_icmp .le 8, 3) := by decide +kernel
theorem dX7_orders_24 : decode cX7_orders 24 = .ok (.ldc 72, 2) := by decide +kernel
theorem dX7_orders_26 : decode cX7_orders 26 = .ok (.goto 15, 3) := by decide +kernel
theorem dX7_orders_29 : decode cX7_orders 29 = .ok (.aload_n 2, 1) := by decide +kernel
theorem dX7_orders_30 : decode cX7_orders 30 = .ok (.getfield 142, 3) := by decide +kernel
theorem dX7_orders_33 : decode cX7_orders 33 = .ok (.aload_n 2, 1) := by decide +kernel
theorem dX7_orders_34 : decode cX7_orders 34 = .ok (.getfield 150, 3) := by decide +kernel
theorem dX7_orders_37 : decode cX7_orders 37 = .ok (.iload_n 3, 1) := by decide +kernel
theorem dX7_orders_38 : decode cX7_orders 38 = .ok (.invokestatic 207, 3) := by decide +kernel
theorem dX7_orders_41 : decode cX7_orders 41 = .ok (.ireturn, 1) := by decide +kernel
set_option maxRecDepth 20000 in
theorem ggX7_many_X0_of : GoodIn wsX7_many wsX0_of := goodIn_r _ [5, 6, 7, 4, 8, 9, 10, 11, 12, 13, 14, 15, 16, 17, 18, 19, 20, 21, 22, 83, 84, 85] (by decide +kernel) (by decide +kernel)
set_option maxRecDepth 20000 in
theorem gX7_many_X0_of : GoodIn wsX7_many (va_wsS RX7 99 yX0_of wsX0_of) := goodIn_app (goodIn_of _ (by decide +kernel)) ggX7_many_X0_of
set_option maxRecDepth 20000 in
theorem ggX7_many_X7_rowsOf : GoodIn wsX7_many wsX7_rowsOf := goodIn_r _ [27, 28, 29, 30, 31, 32, 33, 34, 35, 36, 37, 18, 19, 38, 39, 40, 41, 42, 43, 44, 45, 7, 4, 46, 26, 47, 15, 16, 17, 20, 21, 22, 48, 49, 50, 51, 52, 53, 54, 55, 56, 57, 58, 59, 60, 61, 62, 63, 64, 65, 66, 67, 68, 69, 70, 71, 72, 73, 74, 75, 76, 77, 78, 83, 84, 85, 86, 87, 88, 89, 90, 91, 92, 93, 94, 95, 96, 97, 98, 99] (by decide +kernel) (by decide +kernel)
set_option maxRecDepth 20000 in
theorem gX7_many_X7_rowsOf : GoodIn wsX7_many (wsV RX7 105 RX7 yX7_rowsOf wsX7_rowsOf) := goodIn_app (goodIn_of _ (by decide +kernel)) ggX7_many_X7_rowsOf
set_option maxRecDepth 20000 in
theorem ggX7_many_X4_heapsWith : GoodIn wsX7_many wsX4_heapsWith := goodIn_r _ [82, 41, 39, 96, 97, 98, 99] (by decide +kernel) (by decide +kernel)
set_option maxRecDepth 20000 in
theorem gX7_many_X4_heapsWith : GoodIn wsX7_many (wsV RX7 109 RX4 yX4_heapsWith wsX4_heapsWith) := goodIn_app (goodIn_of _ (by decide +kernel)) ggX7_many_X4_heapsWith
theorem dX7_many_0 : decode cX7_many 0 = .ok (.iload_n 1, 1) := by decide +kernel
theorem dX7_many_1 : decode cX7_many 1 = .ok (.iload_n 2, 1) := by decide +kernel
theorem dX7_many_2 : decode cX7_many 2 = .ok (.iload_n 3, 1) := by decide +kernel
theorem dX7_many_3 : decode cX7_many 3 = .ok (.invokestatic 99, 3) := by decide +kernel
theorem dX7_many_6 : decode cX7_many 6 = .ok (.astore 4, 2) := by decide +kernel
theorem dX7_many_8 : decode cX7_many 8 = .ok (.aload 4, 2) := by decide +kernel
theorem dX7_many_10 : decode cX7_many 10 = .ok (.ifnonnull 8, 3) := by decide +kernel
theorem dX7_many_13 : decode cX7_many 13 = .ok (.ldc 64, 2) := by decide +kernel
theorem dX7_many_15 : decode cX7_many 15 = .ok (.goto 13, 3) := by decide +kernel
theorem dX7_many_18 : decode cX7_many 18 = .ok (.aload_n 0, 1) := by decide +kernel
theorem dX7_many_19 : decode cX7_many 19 = .ok (.aload 4, 2) := by decide +kernel
theorem dX7_many_21 : decode cX7_many 21 = .ok (.invokevirtual 105, 3) := by decide +kernel
theorem dX7_many_24 : decode cX7_many 24 = .ok (.iload_n 1, 1) := by decide +kernel
theorem dX7_many_25 : decode cX7_many 25 = .ok (.invokevirtual 109, 3) := by decide +kernel
theorem dX7_many_28 : decode cX7_many 28 = .ok (.ireturn, 1) := by decide +kernel
set_option maxRecDepth 20000 in
theorem ggX7_minor_X0_of : GoodIn wsX7_minor wsX0_of := goodIn_r _ [5, 6, 7, 4, 8, 9, 10, 11, 12, 13, 14, 15, 16, 17, 18, 19, 20, 21, 22, 32, 33, 34] (by decide +kernel) (by decide +kernel)
set_option maxRecDepth 20000 in
theorem gX7_minor_X0_of : GoodIn wsX7_minor (va_wsS RX7 99 yX0_of wsX0_of) := goodIn_app (goodIn_of _ (by decide +kernel)) ggX7_minor_X0_of
set_option maxRecDepth 20000 in
theorem ggX7_minor_X7_determinant : GoodIn wsX7_minor wsX7_determinant := goodIn_r _ [26, 27, 28, 29, 30, 25, 31, 23, 24, 32, 33, 34] (by decide +kernel) (by decide +kernel)
set_option maxRecDepth 20000 in
theorem gX7_minor_X7_determinant : GoodIn wsX7_minor (va_wsS RX7 213 yX7_determinant wsX7_determinant) := goodIn_app (goodIn_of _ (by decide +kernel)) ggX7_minor_X7_determinant
theorem dX7_minor_0 : decode cX7_minor 0 = .ok (.iload_n 1, 1) := by decide +kernel
theorem dX7_minor_1 : decode cX7_minor 1 = .ok (.iload_n 2, 1) := by decide +kernel
theorem dX7_minor_2 : decode cX7_minor 2 = .ok (.iload_n 3, 1) := by decide +kernel
theorem dX7_minor_3 : decode cX7_minor 3 = .ok (.invokestatic 99, 3) := by decide +kernel
theorem dX7_minor_6 : decode cX7_minor 6 = .ok (.astore 5, 2) := by decide +kernel
theorem dX7_minor_8 : decode cX7_minor 8 = .ok (.aload 5, 2) := by decide +kernel
theorem dX7_minor_10 : decode cX7_minor 10 = .ok (.ifnull 14, 3) := by decide +kernel
theorem dX7_minor_13 : decode cX7_minor 13 = .ok (.iload 4, 2) := by decide +kernel
theorem dX7_minor_15 : decode cX7_minor 15 = .ok (.ifCond .lt 9, 3) := by decide +kernel
theorem dX7_minor_18 : decode cX7_minor 18 = .ok (.iload 4, 2) := by decide +kernel
theorem dX7_minor_20 : decode cX7_minor 20 = .ok (.iload_n 1, 1) := by decide +kernel
theorem dX7_minor_21 : decode cX7_minor 21 = .ok (.if_icmp .le 7, 3) := by decide +kernel
theorem dX7_minor_24 : decode cX7_minor 24 = .ok (.ldc2_w 211, 3) := by decide +kernel
theorem dX7_minor_27 : decode cX7_minor 27 = .ok (.lreturn, 1) := by decide +kernel
theorem dX7_minor_28 : decode cX7_minor 28 = .ok (.aload 5, 2) := by decide +kernel
theorem dX7_minor_30 : decode cX7_minor 30 = .ok (.iload 4, 2) := by decide +kernel
theorem dX7_minor_32 : decode cX7_minor 32 = .ok (.iconst 0, 1) := by decide +kernel
theorem dX7_minor_33 : decode cX7_minor 33 = .ok (.iconst 0, 1) := by decide +kernel
theorem dX7_minor_34 : decode cX7_minor 34 = .ok (.invokestatic 213, 3) := by decide +kernel
theorem dX7_minor_37 : decode cX7_minor 37 = .ok (.lreturn, 1) := by decide +kernel
set_option maxRecDepth 20000 in
theorem ggX7_series_X0_of : GoodIn wsX7_series wsX0_of := goodIn_r _ [5, 6, 7, 4, 8, 9, 10, 11, 12, 13, 14, 15, 16, 17, 18, 19, 20, 21, 22, 40, 41, 42] (by decide +kernel) (by decide +kernel)
set_option maxRecDepth 20000 in
theorem gX7_series_X0_of : GoodIn wsX7_series (va_wsS RX7 99 yX0_of wsX0_of) := goodIn_app (goodIn_of _ (by decide +kernel)) ggX7_series_X0_of
set_option maxRecDepth 20000 in
theorem ggX7_series_X7_heapsOfVolume : GoodIn wsX7_series wsX7_heapsOfVolume := goodIn_r _ [27, 28, 29, 30, 31, 32, 33, 34, 35, 36, 37, 38, 39, 43, 44, 45, 46, 47, 48, 49, 50, 51, 52, 40, 41, 42] (by decide +kernel) (by decide +kernel)
set_option maxRecDepth 20000 in
theorem gX7_series_X7_heapsOfVolume : GoodIn wsX7_series (wsV RX7 217 RX7 yX7_heapsOfVolume wsX7_heapsOfVolume) := goodIn_app (goodIn_of _ (by decide +kernel)) ggX7_series_X7_heapsOfVolume
theorem dX7_series_0 : decode cX7_series 0 = .ok (.iload_n 1, 1) := by decide +kernel
theorem dX7_series_1 : decode cX7_series 1 = .ok (.iload_n 2, 1) := by decide +kernel
theorem dX7_series_2 : decode cX7_series 2 = .ok (.iload_n 3, 1) := by decide +kernel
theorem dX7_series_3 : decode cX7_series 3 = .ok (.invokestatic 99, 3) := by decide +kernel
theorem dX7_series_6 : decode cX7_series 6 = .ok (.astore 5, 2) := by decide +kernel
theorem dX7_series_8 : decode cX7_series 8 = .ok (.aload 5, 2) := by decide +kernel
theorem dX7_series_10 : decode cX7_series 10 = .ok (.ifnull 8, 3) := by decide +kernel
theorem dX7_series_13 : decode cX7_series 13 = .ok (.iload 4, 2) := by decide +kernel
theorem dX7_series_15 : decode cX7_series 15 = .ok (.ifCond .ge 6, 3) := by decide +kernel
theorem dX7_series_18 : decode cX7_series 18 = .ok (.ldc 64, 2) := by decide +kernel
theorem dX7_series_20 : decode cX7_series 20 = .ok (.ireturn, 1) := by decide +kernel
theorem dX7_series_21 : decode cX7_series 21 = .ok (.iload 4, 2) := by decide +kernel
theorem dX7_series_23 : decode cX7_series 23 = .ok (.iload_n 1, 1) := by decide +kernel
theorem dX7_series_24 : decode cX7_series 24 = .ok (.iload_n 2, 1) := by decide +kernel
theorem dX7_series_25 : decode cX7_series 25 = .ok (.imul, 1) := by decide +kernel
theorem dX7_series_26 : decode cX7_series 26 = .ok (.iload_n 3, 1) := by decide +kernel
theorem dX7_series_27 : decode cX7_series 27 = .ok (.imul, 1) := by decide +kernel
theorem dX7_series_28 : decode cX7_series 28 = .ok (.if_icmp .le 7, 3) := by decide +kernel
theorem dX7_series_31 : decode cX7_series 31 = .ok (.iconst 0, 1) := by decide +kernel
theorem dX7_series_32 : decode cX7_series 32 = .ok (.goto 11, 3) := by decide +kernel
theorem dX7_series_35 : decode cX7_series 35 = .ok (.aload_n 0, 1) := by decide +kernel
theorem dX7_series_36 : decode cX7_series 36 = .ok (.aload 5, 2) := by decide +kernel
theorem dX7_series_38 : decode cX7_series 38 = .ok (.iload 4, 2) := by decide +kernel
theorem dX7_series_40 : decode cX7_series 40 = .ok (.invokevirtual 217, 3) := by decide +kernel
theorem dX7_series_43 : decode cX7_series 43 = .ok (.ireturn, 1) := by decide +kernel
set_option maxRecDepth 20000 in
theorem ggX7_weighed_X0_of : GoodIn wsX7_weighed wsX0_of := goodIn_r _ [5, 6, 7, 4, 8, 9, 10, 11, 12, 13, 14, 15, 16, 17, 18, 19, 20, 21, 22, 122, 123, 124] (by decide +kernel) (by decide +kernel)
set_option maxRecDepth 20000 in
theorem gX7_weighed_X0_of : GoodIn wsX7_weighed (va_wsS RX7 99 yX0_of wsX0_of) := goodIn_app (goodIn_of _ (by decide +kernel)) ggX7_weighed_X0_of
set_option maxRecDepth 20000 in
theorem ggX7_weighed_X7_rowsOf : GoodIn wsX7_weighed wsX7_rowsOf := goodIn_r _ [27, 28, 29, 30, 31, 32, 33, 34, 35, 36, 37, 18, 19, 38, 39, 40, 41, 42, 43, 44, 45, 7, 4, 46, 26, 47, 15, 16, 17, 20, 21, 22, 48, 49, 50, 51, 52, 53, 54, 55, 56, 57, 58, 59, 60, 61, 62, 63, 64, 65, 66, 67, 68, 69, 70, 71, 72, 73, 74, 75, 76, 77, 78, 122, 123, 124, 125, 126, 127, 128, 129, 130, 131, 132, 133, 134, 135, 136, 137, 138] (by decide +kernel) (by decide +kernel)
set_option maxRecDepth 20000 in
theorem gX7_weighed_X7_rowsOf : GoodIn wsX7_weighed (wsV RX7 105 RX7 yX7_rowsOf wsX7_rowsOf) := goodIn_app (goodIn_of _ (by decide +kernel)) ggX7_weighed_X7_rowsOf
set_option maxRecDepth 20000 in
theorem ggX7_weighed_X4_sumOfWeights : GoodIn wsX7_weighed wsX4_sumOfWeights := goodIn_r _ [82, 39, 83, 44, 43, 84, 85, 86, 33, 87, 88, 89, 73, 90, 91, 92, 93, 94, 95, 96, 97, 98, 4, 99, 100, 101, 102, 103, 104, 105, 106, 107, 108, 109, 75, 76, 77, 78, 110, 111, 112, 113, 114, 115, 116, 117, 118, 119, 120, 121, 135, 136, 137, 138] (by decide +kernel) (by decide +kernel)
set_option maxRecDepth 20000 in
theorem gX7_weighed_X4_sumOfWeights : GoodIn wsX7_weighed (wsV RX7 221 RX4 yX4_sumOfWeights wsX4_sumOfWeights) := goodIn_app (goodIn_of _ (by decide +kernel)) ggX7_weighed_X4_sumOfWeights
theorem dX7_weighed_0 : decode cX7_weighed 0 = .ok (.iload_n 1, 1) := by decide +kernel
theorem dX7_weighed_1 : decode cX7_weighed 1 = .ok (.iload_n 2, 1) := by decide +kernel
theorem dX7_weighed_2 : decode cX7_weighed 2 = .ok (.iload_n 3, 1) := by decide +kernel
theorem dX7_weighed_3 : decode cX7_weighed 3 = .ok (.invokestatic 99, 3) := by decide +kernel
theorem dX7_weighed_6 : decode cX7_weighed 6 = .ok (.astore 6, 2) := by decide +kernel
theorem dX7_weighed_8 : decode cX7_weighed 8 = .ok (.aload 6, 2) := by decide +kernel
theorem dX7_weighed_10 : decode cX7_weighed 10 = .ok (.ifnull 27, 3) := by decide +kernel
theorem dX7_weighed_13 : decode cX7_weighed 13 = .ok (.iload 4, 2) := by decide +kernel
theorem dX7_weighed_15 : decode cX7_weighed 15 = .ok (.ifCond .lt 22, 3) := by decide +kernel
theorem dX7_weighed_18 : decode cX7_weighed 18 = .ok (.iload 4, 2) := by decide +kernel
theorem dX7_weighed_20 : decode cX7_weighed 20 = .ok (.iconst 4, 1) := by decide +kernel
theorem dX7_weighed_21 : decode cX7_weighed 21 = .ok (.if_icmp .gt 16, 3) := by decide +kernel
theorem dX7_weighed_24 : decode cX7_weighed 24 = .ok (.iload 5, 2) := by decide +kernel
theorem dX7_weighed_26 : decode cX7_weighed 26 = .ok (.iconst 1, 1) := by decide +kernel
theorem dX7_weighed_27 : decode cX7_weighed 27 = .ok (.if_icmp .lt 10, 3) := by decide +kernel
theorem dX7_weighed_30 : decode cX7_weighed 30 = .ok (.iload 5, 2) := by decide +kernel
theorem dX7_weighed_32 : decode cX7_weighed 32 = .ok (.bipush 9, 2) := by decide +kernel
theorem dX7_weighed_34 : decode cX7_weighed 34 = .ok (.if_icmp .le 6, 3) := by decide +kernel
theorem dX7_weighed_37 : decode cX7_weighed 37 = .ok (.ldc 64, 2) := by decide +kernel
theorem dX7_weighed_39 : decode cX7_weighed 39 = .ok (.ireturn, 1) := by decide +kernel
theorem dX7_weighed_40 : decode cX7_weighed 40 = .ok (.aload_n 0, 1) := by decide +kernel
theorem dX7_weighed_41 : decode cX7_weighed 41 = .ok (.aload 6, 2) := by decide +kernel
theorem dX7_weighed_43 : decode cX7_weighed 43 = .ok (.invokevirtual 105, 3) := by decide +kernel
theorem dX7_weighed_46 : decode cX7_weighed 46 = .ok (.iload_n 1, 1) := by decide +kernel
theorem dX7_weighed_47 : decode cX7_weighed 47 = .ok (.iload 4, 2) := by decide +kernel
theorem dX7_weighed_49 : decode cX7_weighed 49 = .ok (.iload 5, 2) := by decide +kernel
theorem dX7_weighed_51 : decode cX7_weighed 51 = .ok (.invokevirtual 221, 3) := by decide +kernel
theorem dX7_weighed_54 : decode cX7_weighed 54 = .ok (.ireturn, 1) := by decide +kernel
set_option maxRecDepth 20000 in
theorem ggX7_symmetric_X0_of : GoodIn wsX7_symmetric wsX0_of := goodIn_r _ [6, 7, 8, 5, 9, 10, 11, 12, 13, 14, 15, 16, 17, 18, 19, 20, 21, 22, 23, 105, 106, 107] (by decide +kernel) (by decide +kernel)
set_option maxRecDepth 20000 in
theorem gX7_symmetric_X0_of : GoodIn wsX7_symmetric (va_wsS RX7 99 yX0_of wsX0_of) := goodIn_app (goodIn_of _ (by decide +kernel)) ggX7_symmetric_X0_of
set_option maxRecDepth 20000 in
theorem ggX7_symmetric_X7_rowsOf : GoodIn wsX7_symmetric wsX7_rowsOf := goodIn_r _ [28, 29, 30, 31, 32, 33, 34, 35, 36, 37, 38, 19, 20, 39, 40, 41, 42, 43, 44, 45, 46, 8, 5, 47, 27, 48, 16, 17, 18, 21, 22, 23, 49, 50, 51, 52, 53, 54, 55, 56, 57, 58, 59, 60, 61, 62, 63, 64, 65, 66, 67, 68, 69, 70, 71, 72, 73, 74, 75, 76, 77, 78, 79, 105, 106, 107, 108, 109, 110, 111, 112, 113, 114, 115, 116, 117, 118, 119, 120, 121] (by decide +kernel) (by decide +kernel)
set_option maxRecDepth 20000 in
theorem gX7_symmetric_X7_rowsOf : GoodIn wsX7_symmetric (wsV RX7 105 RX7 yX7_rowsOf wsX7_rowsOf) := goodIn_app (goodIn_of _ (by decide +kernel)) ggX7_symmetric_X7_rowsOf
set_option maxRecDepth 20000 in
theorem ggX7_symmetric_X4_heapsWith : GoodIn wsX7_symmetric wsX4_heapsWith := goodIn_r _ [83, 42, 40, 118, 119, 120, 121] (by decide +kernel) (by decide +kernel)
set_option maxRecDepth 20000 in
theorem gX7_symmetric_X4_heapsWith : GoodIn wsX7_symmetric (wsV RX7 109 RX4 yX4_heapsWith wsX4_heapsWith) := goodIn_app (goodIn_of _ (by decide +kernel)) ggX7_symmetric_X4_heapsWith
set_option maxRecDepth 20000 in
theorem ggX7_symmetric_X0_hasSymmetries : GoodIn wsX7_symmetric wsX0_hasSymmetries := goodIn_r _ [87, 88, 89, 90, 5, 91, 21, 22, 23, 92, 93, 94, 95, 65, 66, 67, 61, 62, 63, 64, 96, 97, 98, 99, 100, 101, 102, 103, 105, 106, 107] (by decide +kernel) (by decide +kernel)
set_option maxRecDepth 20000 in
theorem gX7_symmetric_X0_hasSymmetries : GoodIn wsX7_symmetric (wsV RX7 225 RX0 yX0_hasSymmetries wsX0_hasSymmetries) := goodIn_app (goodIn_of _ (by decide +kernel)) ggX7_symmetric_X0_hasSymmetries
set_option maxRecDepth 20000 in
theorem ggX7_symmetric_X0_following : GoodIn wsX7_symmetric wsX0_following := goodIn_r _ [56, 21, 22, 57, 58, 59, 5, 60, 61, 62, 63, 64, 23, 65, 66, 67, 105, 106, 107] (by decide +kernel) (by decide +kernel)
set_option maxRecDepth 20000 in
theorem gX7_symmetric_X0_following : GoodIn wsX7_symmetric (wsV RX7 229 RX0 yX0_following wsX0_following) := goodIn_app (goodIn_of _ (by decide +kernel)) ggX7_symmetric_X0_following
theorem dX7_symmetric_0 : decode cX7_symmetric 0 = .ok (.iload_n 1, 1) := by decide +kernel
theorem dX7_symmetric_1 : decode cX7_symmetric 1 = .ok (.iload_n 2, 1) := by decide +kernel
theorem dX7_symmetric_2 : decode cX7_symmetric 2 = .ok (.iload_n 3, 1) := by decide +kernel
theorem dX7_symmetric_3 : decode cX7_symmetric 3 = .ok (.invokestatic 99, 3) := by decide +kernel
theorem dX7_symmetric_6 : decode cX7_symmetric 6 = .ok (.astore 5, 2) := by decide +kernel
theorem dX7_symmetric_8 : decode cX7_symmetric 8 = .ok (.aload 5, 2) := by decide +kernel
theorem dX7_symmetric_10 : decode cX7_symmetric 10 = .ok (.ifnull 15, 3) := by decide +kernel
theorem dX7_symmetric_13 : decode cX7_symmetric 13 = .ok (.iload 4, 2) := by decide +kernel
theorem dX7_symmetric_15 : decode cX7_symmetric 15 = .ok (.ifCond .lt 10, 3) := by decide +kernel
theorem dX7_symmetric_18 : decode cX7_symmetric 18 = .ok (.iload 4, 2) := by decide +kernel
theorem dX7_symmetric_20 : decode cX7_symmetric 20 = .ok (.bipush 15, 2) := by decide +kernel
theorem dX7_symmetric_22 : decode cX7_symmetric 22 = .ok (.if_icmp .le 6, 3) := by decide +kernel
theorem dX7_symmetric_25 : decode cX7_symmetric 25 = .ok (.ldc 64, 2) := by decide +kernel
theorem dX7_symmetric_27 : decode cX7_symmetric 27 = .ok (.ireturn, 1) := by decide +kernel
theorem dX7_symmetric_28 : decode cX7_symmetric 28 = .ok (.aload_n 0, 1) := by decide +kernel
theorem dX7_symmetric_29 : decode cX7_symmetric 29 = .ok (.aload 5, 2) := by decide +kernel
theorem dX7_symmetric_31 : decode cX7_symmetric 31 = .ok (.invokevirtual 105, 3) := by decide +kernel
theorem dX7_symmetric_34 : decode cX7_symmetric 34 = .ok (.iload_n 1, 1) := by decide +kernel
theorem dX7_symmetric_35 : decode cX7_symmetric 35 = .ok (.invokevirtual 109, 3) := by decide +kernel
theorem dX7_symmetric_38 : decode cX7_symmetric 38 = .ok (.istore 6, 2) := by decide +kernel
theorem dX7_symmetric_40 : decode cX7_symmetric 40 = .ok (.iload 6, 2) := by decide +kernel
theorem dX7_symmetric_42 : decode cX7_symmetric 42 = .ok (.sipush 1000, 3) := by decide +kernel
theorem dX7_symmetric_45 : decode cX7_symmetric 45 = .ok (.if_icmp .le 6, 3) := by decide +kernel
theorem dX7_symmetric_48 : decode cX7_symmetric 48 = .ok (.ldc 72, 2) := by decide +kernel
theorem dX7_symmetric_50 : decode cX7_symmetric 50 = .ok (.ireturn, 1) := by decide +kernel
theorem dX7_symmetric_51 : decode cX7_symmetric 51 = .ok (.iconst 0, 1) := by decide +kernel
theorem dX7_symmetric_52 : decode cX7_symmetric 52 = .ok (.istore 7, 2) := by decide +kernel
theorem dX7_symmetric_54 : decode cX7_symmetric 54 = .ok (.lconst 0, 1) := by decide +kernel
theorem dX7_symmetric_55 : decode cX7_symmetric 55 = .ok (.lstore 8, 2) := by decide +kernel
theorem dX7_symmetric_57 : decode cX7_symmetric 57 = .ok (.iconst 0, 1) := by decide +kernel
theorem dX7_symmetric_58 : decode cX7_symmetric 58 = .ok (.istore 10, 2) := by decide +kernel
theorem dX7_symmetric_60 : decode cX7_symmetric 60 = .ok (.iload 10, 2) := by decide +kernel
theorem dX7_symmetric_62 : decode cX7_symmetric 62 = .ok (.iload 6, 2) := by decide +kernel
theorem dX7_symmetric_64 : decode cX7_symmetric 64 = .ok (.if_icmp .ge 33, 3) := by decide +kernel
theorem dX7_symmetric_67 : decode cX7_symmetric 67 = .ok (.aload 5, 2) := by decide +kernel
theorem dX7_symmetric_69 : decode cX7_symmetric 69 = .ok (.lload 8, 2) := by decide +kernel
theorem dX7_symmetric_71 : decode cX7_symmetric 71 = .ok (.iload 4, 2) := by decide +kernel
theorem dX7_symmetric_73 : decode cX7_symmetric 73 = .ok (.invokevirtual 225, 3) := by decide +kernel
theorem dX7_symmetric_76 : decode cX7_symmetric 76 = .ok (.ifCond .eq 6, 3) := by decide +kernel
theorem dX7_symmetric_79 : decode cX7_symmetric 79 = .ok (.iinc 7 1, 3) := by decide +kernel
theorem dX7_symmetric_82 : decode cX7_symmetric 82 = .ok (.aload 5, 2) := by decide +kernel
theorem dX7_symmetric_84 : decode cX7_symmetric 84 = .ok (.lload 8, 2) := by decide +kernel
theorem dX7_symmetric_86 : decode cX7_symmetric 86 = .ok (.invokevirtual 229, 3) := by decide +kernel
theorem dX7_symmetric_89 : decode cX7_symmetric 89 = .ok (.lstore 8, 2) := by decide +kernel
theorem dX7_symmetric_91 : decode cX7_symmetric 91 = .ok (.iinc 10 1, 3) := by decide +kernel
theorem dX7_symmetric_94 : decode cX7_symmetric 94 = .ok (.goto (-34), 3) := by decide +kernel
theorem dX7_symmetric_97 : decode cX7_symmetric 97 = .ok (.iload 7, 2) := by decide +kernel
theorem dX7_symmetric_99 : decode cX7_symmetric 99 = .ok (.ireturn, 1) := by decide +kernel
set_option maxRecDepth 20000 in
theorem ggX7_between_X7_heapAt : GoodIn wsX7_between wsX7_heapAt := goodIn_r _ [10, 11, 12, 13, 9, 14, 116, 117, 118, 119, 120, 121, 122, 123, 124, 125] (by decide +kernel) (by decide +kernel)
set_option maxRecDepth 20000 in
theorem gX7_between_X7_heapAt : GoodIn wsX7_between (wsV RX7 135 RX7 yX7_heapAt wsX7_heapAt) := goodIn_app (goodIn_of _ (by decide +kernel)) ggX7_between_X7_heapAt
set_option maxRecDepth 20000 in
theorem ggX7_between_X0_sameAs : GoodIn wsX7_between wsX0_sameAs := goodIn_r _ [19, 20, 21, 22, 113, 114, 115] (by decide +kernel) (by decide +kernel)
set_option maxRecDepth 20000 in
theorem gX7_between_X0_sameAs : GoodIn wsX7_between (wsV RX7 146 RX0 yX0_sameAs wsX0_sameAs) := goodIn_app (goodIn_of _ (by decide +kernel)) ggX7_between_X0_sameAs
set_option maxRecDepth 20000 in
theorem ggX7_between_X7_rowsOf : GoodIn wsX7_between wsX7_rowsOf := goodIn_r _ [26, 27, 28, 29, 30, 31, 32, 33, 34, 35, 36, 37, 38, 39, 40, 41, 42, 43, 44, 45, 46, 47, 18, 48, 9, 49, 50, 51, 52, 20, 21, 22, 53, 54, 55, 56, 57, 58, 59, 60, 61, 62, 63, 64, 65, 66, 67, 68, 69, 70, 71, 72, 73, 74, 75, 76, 77, 78, 79, 80, 81, 82, 83, 113, 114, 115, 116, 117, 118, 119, 120, 121, 122, 123, 124, 125, 126, 127, 128, 129] (by decide +kernel) (by decide +kernel)
set_option maxRecDepth 20000 in
theorem gX7_between_X7_rowsOf : GoodIn wsX7_between (wsV RX7 105 RX7 yX7_rowsOf wsX7_rowsOf) := goodIn_app (goodIn_of _ (by decide +kernel)) ggX7_between_X7_rowsOf
set_option maxRecDepth 20000 in
theorem ggX7_between_X4_heapsBetween : GoodIn wsX7_between wsX4_heapsBetween := goodIn_r _ [87, 40, 45, 44, 88, 89, 90, 32, 91, 92, 93, 78, 94, 53, 54, 18, 55, 56, 80, 81, 82, 83, 95, 96, 97, 98, 99, 100, 101, 102, 103, 104, 105, 106, 107, 108, 109, 110, 126, 127, 128, 129] (by decide +kernel) (by decide +kernel)
set_option maxRecDepth 20000 in
theorem gX7_between_X4_heapsBetween : GoodIn wsX7_between (wsV RX7 233 RX4 yX4_heapsBetween wsX4_heapsBetween) := goodIn_app (goodIn_of _ (by decide +kernel)) ggX7_between_X4_heapsBetween
theorem dX7_between_0 : decode cX7_between 0 = .ok (.aload_n 0, 1) := by decide +kernel
theorem dX7_between_1 : decode cX7_between 1 = .ok (.iload_n 1, 1) := by decide +kernel
theorem dX7_between_2 : decode cX7_between 2 = .ok (.invokevirtual 135, 3) := by decide +kernel
theorem dX7_between_5 : decode cX7_between 5 = .ok (.astore_n 3, 1) := by decide +kernel
theorem dX7_between_6 : decode cX7_between 6 = .ok (.aload_n 0, 1) := by decide +kernel
theorem dX7_between_7 : decode cX7_between 7 = .ok (.iload_n 2, 1) := by decide +kernel
theorem dX7_between_8 : decode cX7_between 8 = .ok (.invokevirtual 135, 3) := by decide +kernel
theorem dX7_between_11 : decode cX7_between 11 = .ok (.astore 4, 2) := by decide +kernel
theorem dX7_between_13 : decode cX7_between 13 = .ok (.aload_n 3, 1) := by decide +kernel
theorem dX7_between_14 : decode cX7_between 14 = .ok (.ifnull 8, 3) := by decide +kernel
theorem dX7_between_17 : decode cX7_between 17 = .ok (.aload 4, 2) := by decide +kernel
theorem dX7_between_19 : decode cX7_between 19 = .ok (.ifnonnull 6, 3) := by decide +kernel
theorem dX7_between_22 : decode cX7_between 22 = .ok (.ldc 64, 2) := by decide +kernel
theorem dX7_between_24 : decode cX7_between 24 = .ok (.ireturn, 1) := by decide +kernel
theorem dX7_between_25 : decode cX7_between 25 = .ok (.aload_n 3, 1) := by decide +kernel
theorem dX7_between_26 : decode cX7_between 26 = .ok (.getfield 142, 3) := by decide +kernel
theorem dX7_between_29 : decode cX7_between 29 = .ok (.aload 4, 2) := by decide +kernel
theorem dX7_between_31 : decode cX7_between 31 = .ok (.getfield 142, 3) := by decide +kernel
theorem dX7_between_34 : decode cX7_between 34 = .ok (.invokevirtual 146, 3) := by decide +kernel
theorem dX7_between_37 : decode cX7_between 37 = .ok (.ifCond .ne 6, 3) := by decide +kernel
theorem dX7_between_40 : decode cX7_between 40 = .ok (.ldc 94, 2) := by decide +kernel
theorem dX7_between_42 : decode cX7_between 42 = .ok (.ireturn, 1) := by decide +kernel
theorem dX7_between_43 : decode cX7_between 43 = .ok (.aload_n 0, 1) := by decide +kernel
theorem dX7_between_44 : decode cX7_between 44 = .ok (.aload_n 3, 1) := by decide +kernel
theorem dX7_between_45 : decode cX7_between 45 = .ok (.getfield 142, 3) := by decide +kernel
theorem dX7_between_48 : decode cX7_between 48 = .ok (.invokevirtual 105, 3) := by decide +kernel
theorem dX7_between_51 : decode cX7_between 51 = .ok (.aload_n 3, 1) := by decide +kernel
theorem dX7_between_52 : decode cX7_between 52 = .ok (.getfield 142, 3) := by decide +kernel
theorem dX7_between_55 : decode cX7_between 55 = .ok (.getfield 170, 3) := by decide +kernel
theorem dX7_between_58 : decode cX7_between 58 = .ok (.aload_n 3, 1) := by decide +kernel
theorem dX7_between_59 : decode cX7_between 59 = .ok (.getfield 150, 3) := by decide +kernel
theorem dX7_between_62 : decode cX7_between 62 = .ok (.aload 4, 2) := by decide +kernel
theorem dX7_between_64 : decode cX7_between 64 = .ok (.getfield 150, 3) := by decide +kernel
theorem dX7_between_67 : decode cX7_between 67 = .ok (.invokevirtual 233, 3) := by decide +kernel
theorem dX7_between_70 : decode cX7_between 70 = .ok (.ireturn, 1) := by decide +kernel
set_option maxRecDepth 20000 in
theorem ggX7_way_X7_heapAt : GoodIn wsX7_way wsX7_heapAt := goodIn_r _ [12, 13, 14, 15, 11, 16, 138, 139, 140, 141, 142, 143, 144, 145, 146, 147] (by decide +kernel) (by decide +kernel)
set_option maxRecDepth 20000 in
theorem gX7_way_X7_heapAt : GoodIn wsX7_way (wsV RX7 135 RX7 yX7_heapAt wsX7_heapAt) := goodIn_app (goodIn_of _ (by decide +kernel)) ggX7_way_X7_heapAt
set_option maxRecDepth 20000 in
theorem ggX7_way_X0_sameAs : GoodIn wsX7_way wsX0_sameAs := goodIn_r _ [21, 22, 23, 24, 135, 136, 137] (by decide +kernel) (by decide +kernel)
set_option maxRecDepth 20000 in
theorem gX7_way_X0_sameAs : GoodIn wsX7_way (wsV RX7 146 RX0 yX0_sameAs wsX0_sameAs) := goodIn_app (goodIn_of _ (by decide +kernel)) ggX7_way_X0_sameAs
set_option maxRecDepth 20000 in
theorem ggX7_way_X7_rowsOf : GoodIn wsX7_way wsX7_rowsOf := goodIn_r _ [28, 29, 30, 31, 32, 33, 34, 35, 36, 37, 38, 39, 40, 41, 42, 43, 44, 45, 46, 47, 48, 49, 20, 50, 11, 51, 52, 53, 54, 22, 23, 24, 55, 56, 57, 58, 59, 60, 61, 62, 63, 64, 65, 66, 67, 68, 69, 70, 71, 72, 73, 74, 75, 76, 77, 78, 79, 80, 81, 82, 83, 84, 85, 135, 136, 137, 138, 139, 140, 141, 142, 143, 144, 145, 146, 147, 148, 149, 150, 151] (by decide +kernel) (by decide +kernel)
set_option maxRecDepth 20000 in
theorem gX7_way_X7_rowsOf : GoodIn wsX7_way (wsV RX7 105 RX7 yX7_rowsOf wsX7_rowsOf) := goodIn_app (goodIn_of _ (by decide +kernel)) ggX7_way_X7_rowsOf
set_option maxRecDepth 20000 in
theorem ggX7_way_X4_heapsWith : GoodIn wsX7_way wsX4_heapsWith := goodIn_r _ [89, 44, 42, 148, 149, 150, 151] (by decide +kernel) (by decide +kernel)
set_option maxRecDepth 20000 in
theorem gX7_way_X4_heapsWith : GoodIn wsX7_way (wsV RX7 109 RX4 yX4_heapsWith wsX4_heapsWith) := goodIn_app (goodIn_of _ (by decide +kernel)) ggX7_way_X4_heapsWith
set_option maxRecDepth 20000 in
theorem ggX7_way_X5_prepare : GoodIn wsX7_way wsX5_prepare := goodIn_r _ [94, 95, 96, 97, 98, 99, 100, 101, 102, 103, 104, 20, 105, 106, 60, 61, 62, 22, 23, 63, 64, 65, 66, 67, 68, 69, 70, 24, 71, 72, 73, 152, 153, 154, 155, 156, 135, 136, 137] (by decide +kernel) (by decide +kernel)
set_option maxRecDepth 20000 in
theorem gX7_way_X5_prepare : GoodIn wsX7_way (wsV RX7 237 RX5 yX5_prepare wsX5_prepare) := goodIn_app (goodIn_of _ (by decide +kernel)) ggX7_way_X5_prepare
set_option maxRecDepth 20000 in
theorem ggX7_way_X5_shortest : GoodIn wsX7_way wsX5_shortest := goodIn_r _ [110, 111, 102, 100, 112, 113, 114, 115, 93, 116, 99, 101, 117, 118, 119, 120, 121, 122, 123, 124, 125, 126, 127, 64, 65, 20, 66, 67, 68, 69, 70, 24, 22, 23, 128, 72, 73, 129, 130, 131, 132, 152, 153, 154, 155, 156, 135, 136, 137] (by decide +kernel) (by decide +kernel)
set_option maxRecDepth 20000 in
theorem gX7_way_X5_shortest : GoodIn wsX7_way (wsV RX7 241 RX5 yX5_shortest wsX5_shortest) := goodIn_app (goodIn_of _ (by decide +kernel)) ggX7_way_X5_shortest
theorem dX7_way_0 : decode cX7_way 0 = .ok (.aload_n 0, 1) := by decide +kernel
theorem dX7_way_1 : decode cX7_way 1 = .ok (.iload_n 1, 1) := by decide +kernel
theorem dX7_way_2 : decode cX7_way 2 = .ok (.invokevirtual 135, 3) := by decide +kernel
theorem dX7_way_5 : decode cX7_way 5 = .ok (.astore 4, 2) := by decide +kernel
theorem dX7_way_7 : decode cX7_way 7 = .ok (.aload_n 0, 1) := by decide +kernel
theorem dX7_way_8 : decode cX7_way 8 = .ok (.iload_n 2, 1) := by decide +kernel
theorem dX7_way_9 : decode cX7_way 9 = .ok (.invokevirtual 135, 3) := by decide +kernel
theorem dX7_way_12 : decode cX7_way 12 = .ok (.astore 5, 2) := by decide +kernel
theorem dX7_way_14 : decode cX7_way 14 = .ok (.aload 4, 2) := by decide +kernel
theorem dX7_way_16 : decode cX7_way 16 = .ok (.ifnull 18, 3) := by decide +kernel
theorem dX7_way_19 : decode cX7_way 19 = .ok (.aload 5, 2) := by decide +kernel
theorem dX7_way_21 : decode cX7_way 21 = .ok (.ifnull 13, 3) := by decide +kernel
theorem dX7_way_24 : decode cX7_way 24 = .ok (.iload_n 3, 1) := by decide +kernel
theorem dX7_way_25 : decode cX7_way 25 = .ok (.ifCond .lt 9, 3) := by decide +kernel
theorem dX7_way_28 : decode cX7_way 28 = .ok (.iload_n 3, 1) := by decide +kernel
theorem dX7_way_29 : decode cX7_way 29 = .ok (.bipush 9, 2) := by decide +kernel
theorem dX7_way_31 : decode cX7_way 31 = .ok (.if_icmp .le 6, 3) := by decide +kernel
theorem dX7_way_34 : decode cX7_way 34 = .ok (.ldc 64, 2) := by decide +kernel
theorem dX7_way_36 : decode cX7_way 36 = .ok (.ireturn, 1) := by decide +kernel
theorem dX7_way_37 : decode cX7_way 37 = .ok (.aload 4, 2) := by decide +kernel
theorem dX7_way_39 : decode cX7_way 39 = .ok (.getfield 142, 3) := by decide +kernel
theorem dX7_way_42 : decode cX7_way 42 = .ok (.aload 5, 2) := by decide +kernel
theorem dX7_way_44 : decode cX7_way 44 = .ok (.getfield 142, 3) := by decide +kernel
theorem dX7_way_47 : decode cX7_way 47 = .ok (.invokevirtual 146, 3) := by decide +kernel
theorem dX7_way_50 : decode cX7_way 50 = .ok (.ifCond .ne 6, 3) := by decide +kernel
theorem dX7_way_53 : decode cX7_way 53 = .ok (.ldc 94, 2) := by decide +kernel
theorem dX7_way_55 : decode cX7_way 55 = .ok (.ireturn, 1) := by decide +kernel
theorem dX7_way_56 : decode cX7_way 56 = .ok (.aload_n 0, 1) := by decide +kernel
theorem dX7_way_57 : decode cX7_way 57 = .ok (.aload 4, 2) := by decide +kernel
theorem dX7_way_59 : decode cX7_way 59 = .ok (.getfield 142, 3) := by decide +kernel
theorem dX7_way_62 : decode cX7_way 62 = .ok (.invokevirtual 105, 3) := by decide +kernel
theorem dX7_way_65 : decode cX7_way 65 = .ok (.aload 4, 2) := by decide +kernel
theorem dX7_way_67 : decode cX7_way 67 = .ok (.getfield 142, 3) := by decide +kernel
theorem dX7_way_70 : decode cX7_way 70 = .ok (.getfield 170, 3) := by decide +kernel
theorem dX7_way_73 : decode cX7_way 73 = .ok (.invokevirtual 109, 3) := by decide +kernel
theorem dX7_way_76 : decode cX7_way 76 = .ok (.istore 6, 2) := by decide +kernel
theorem dX7_way_78 : decode cX7_way 78 = .ok (.iload 6, 2) := by decide +kernel
theorem dX7_way_80 : decode cX7_way 80 = .ok (.sipush 200, 3) := by decide +kernel
theorem dX7_way_83 : decode cX7_way 83 = .ok (.if_icmp .le 6, 3) := by decide +kernel
theorem dX7_way_86 : decode cX7_way 86 = .ok (.ldc 72, 2) := by decide +kernel
theorem dX7_way_88 : decode cX7_way 88 = .ok (.ireturn, 1) := by decide +kernel
theorem dX7_way_89 : decode cX7_way 89 = .ok (.aload_n 0, 1) := by decide +kernel
theorem dX7_way_90 : decode cX7_way 90 = .ok (.getfield 52, 3) := by decide +kernel
theorem dX7_way_93 : decode cX7_way 93 = .ok (.aload 4, 2) := by decide +kernel
theorem dX7_way_95 : decode cX7_way 95 = .ok (.getfield 142, 3) := by decide +kernel
theorem dX7_way_98 : decode cX7_way 98 = .ok (.iload 6, 2) := by decide +kernel
theorem dX7_way_100 : decode cX7_way 100 = .ok (.iload_n 3, 1) := by decide +kernel
theorem dX7_way_101 : decode cX7_way 101 = .ok (.invokevirtual 237, 3) := by decide +kernel
theorem dX7_way_104 : decode cX7_way 104 = .ok (.aload_n 0, 1) := by decide +kernel
theorem dX7_way_105 : decode cX7_way 105 = .ok (.getfield 52, 3) := by decide +kernel
theorem dX7_way_108 : decode cX7_way 108 = .ok (.aload 4, 2) := by decide +kernel
theorem dX7_way_110 : decode cX7_way 110 = .ok (.getfield 142, 3) := by decide +kernel
theorem dX7_way_113 : decode cX7_way 113 = .ok (.aload 4, 2) := by decide +kernel
theorem dX7_way_115 : decode cX7_way 115 = .ok (.getfield 150, 3) := by decide +kernel
theorem dX7_way_118 : decode cX7_way 118 = .ok (.aload 5, 2) := by decide +kernel
theorem dX7_way_120 : decode cX7_way 120 = .ok (.getfield 150, 3) := by decide +kernel
theorem dX7_way_123 : decode cX7_way 123 = .ok (.invokevirtual 241, 3) := by decide +kernel
theorem dX7_way_126 : decode cX7_way 126 = .ok (.ireturn, 1) := by decide +kernel
set_option maxRecDepth 20000 in
theorem ggX7_image_X7_copyPlaces : GoodIn wsX7_image wsX7_copyPlaces := goodIn_r _ [8] (by decide +kernel) (by decide +kernel)
set_option maxRecDepth 20000 in
theorem gX7_image_X7_copyPlaces : GoodIn wsX7_image (va_wsS RX7 245 yX7_copyPlaces wsX7_copyPlaces) := goodIn_app (goodIn_of _ (by decide +kernel)) ggX7_image_X7_copyPlaces
set_option maxRecDepth 20000 in
theorem ggX7_image_X7_heapsOnPlaces : GoodIn wsX7_image wsX7_heapsOnPlaces := goodIn_r _ [12, 2, 13, 14, 15, 16, 17, 18, 19, 20, 21, 22] (by decide +kernel) (by decide +kernel)
set_option maxRecDepth 20000 in
theorem gX7_image_X7_heapsOnPlaces : GoodIn wsX7_image (wsV RX7 249 RX7 yX7_heapsOnPlaces wsX7_heapsOnPlaces) := goodIn_app (goodIn_of _ (by decide +kernel)) ggX7_image_X7_heapsOnPlaces
theorem dX7_image_0 : decode cX7_image 0 = .ok (.iload_n 1, 1) := by decide +kernel
theorem dX7_image_1 : decode cX7_image 1 = .ok (.ifCond .lt 8, 3) := by decide +kernel
theorem dX7_image_4 : decode cX7_image 4 = .ok (.iload_n 1, 1) := by decide +kernel
theorem dX7_image_5 : decode cX7_image 5 = .ok (.iconst 2, 1) := by decide +kernel
theorem dX7_image_6 : decode cX7_image 6 = .ok (.if_icmp .lt 6, 3) := by decide +kernel
theorem dX7_image_9 : decode cX7_image 9 = .ok (.ldc 64, 2) := by decide +kernel
theorem dX7_image_11 : decode cX7_image 11 = .ok (.ireturn, 1) := by decide +kernel
theorem dX7_image_12 : decode cX7_image 12 = .ok (.aload_n 0, 1) := by decide +kernel
theorem dX7_image_13 : decode cX7_image 13 = .ok (.getfield 18, 3) := by decide +kernel
theorem dX7_image_16 : decode cX7_image 16 = .ok (.iconst 0, 1) := by decide +kernel
theorem dX7_image_17 : decode cX7_image 17 = .ok (.aload_n 0, 1) := by decide +kernel
theorem dX7_image_18 : decode cX7_image 18 = .ok (.getfield 29, 3) := by decide +kernel
theorem dX7_image_21 : decode cX7_image 21 = .ok (.iload_n 1, 1) := by decide +kernel
theorem dX7_image_22 : decode cX7_image 22 = .ok (.iconst 4, 1) := by decide +kernel
theorem dX7_image_23 : decode cX7_image 23 = .ok (.imul, 1) := by decide +kernel
theorem dX7_image_24 : decode cX7_image 24 = .ok (.invokestatic 245, 3) := by decide +kernel
theorem dX7_image_27 : decode cX7_image 27 = .ok (.aload_n 0, 1) := by decide +kernel
theorem dX7_image_28 : decode cX7_image 28 = .ok (.getfield 32, 3) := by decide +kernel
theorem dX7_image_31 : decode cX7_image 31 = .ok (.iload_n 1, 1) := by decide +kernel
theorem dX7_image_32 : decode cX7_image 32 = .ok (.iconst 1, 1) := by decide +kernel
theorem dX7_image_33 : decode cX7_image 33 = .ok (.bastore, 1) := by decide +kernel
theorem dX7_image_34 : decode cX7_image 34 = .ok (.aload_n 0, 1) := by decide +kernel
theorem dX7_image_35 : decode cX7_image 35 = .ok (.invokevirtual 249, 3) := by decide +kernel
theorem dX7_image_38 : decode cX7_image 38 = .ok (.ireturn, 1) := by decide +kernel
set_option maxRecDepth 20000 in
theorem ggX7_restore_X7_copyPlaces : GoodIn wsX7_restore wsX7_copyPlaces := goodIn_r _ [11] (by decide +kernel) (by decide +kernel)
set_option maxRecDepth 20000 in
theorem gX7_restore_X7_copyPlaces : GoodIn wsX7_restore (va_wsS RX7 245 yX7_copyPlaces wsX7_copyPlaces) := goodIn_app (goodIn_of _ (by decide +kernel)) ggX7_restore_X7_copyPlaces
set_option maxRecDepth 20000 in
theorem ggX7_restore_X7_heapsOnPlaces : GoodIn wsX7_restore wsX7_heapsOnPlaces := goodIn_r _ [15, 5, 16, 17, 18, 19, 20, 21, 22, 23, 24, 25] (by decide +kernel) (by decide +kernel)
set_option maxRecDepth 20000 in
theorem gX7_restore_X7_heapsOnPlaces : GoodIn wsX7_restore (wsV RX7 249 RX7 yX7_heapsOnPlaces wsX7_heapsOnPlaces) := goodIn_app (goodIn_of _ (by decide +kernel)) ggX7_restore_X7_heapsOnPlaces
theorem dX7_restore_0 : decode cX7_restore 0 = .ok (.iload_n 1, 1) := by decide +kernel
theorem dX7_restore_1 : decode cX7_restore 1 = .ok (.ifCond .lt 8, 3) := by decide +kernel
theorem dX7_restore_4 : decode cX7_restore 4 = .ok (.iload_n 1, 1) := by decide +kernel
theorem dX7_restore_5 : decode cX7_restore 5 = .ok (.iconst 2, 1) := by decide +kernel
theorem dX7_restore_6 : decode cX7_restore 6 = .ok (.if_icmp .lt 6, 3) := by decide +kernel
theorem dX7_restore_9 : decode cX7_restore 9 = .ok (.ldc 64, 2) := by decide +kernel
theorem dX7_restore_11 : decode cX7_restore 11 = .ok (.ireturn, 1) := by decide +kernel
theorem dX7_restore_12 : decode cX7_restore 12 = .ok (.aload_n 0, 1) := by decide +kernel
theorem dX7_restore_13 : decode cX7_restore 13 = .ok (.getfield 32, 3) := by decide +kernel
theorem dX7_restore_16 : decode cX7_restore 16 = .ok (.iload_n 1, 1) := by decide +kernel
theorem dX7_restore_17 : decode cX7_restore 17 = .ok (.baload, 1) := by decide +kernel
theorem dX7_restore_18 : decode cX7_restore 18 = .ok (.ifCond .ne 6, 3) := by decide +kernel
theorem dX7_restore_21 : decode cX7_restore 21 = .ok (.ldc 94, 2) := by decide +kernel
theorem dX7_restore_23 : decode cX7_restore 23 = .ok (.ireturn, 1) := by decide +kernel
theorem dX7_restore_24 : decode cX7_restore 24 = .ok (.aload_n 0, 1) := by decide +kernel
theorem dX7_restore_25 : decode cX7_restore 25 = .ok (.getfield 29, 3) := by decide +kernel
theorem dX7_restore_28 : decode cX7_restore 28 = .ok (.iload_n 1, 1) := by decide +kernel
theorem dX7_restore_29 : decode cX7_restore 29 = .ok (.iconst 4, 1) := by decide +kernel
theorem dX7_restore_30 : decode cX7_restore 30 = .ok (.imul, 1) := by decide +kernel
theorem dX7_restore_31 : decode cX7_restore 31 = .ok (.aload_n 0, 1) := by decide +kernel
theorem dX7_restore_32 : decode cX7_restore 32 = .ok (.getfield 18, 3) := by decide +kernel
theorem dX7_restore_35 : decode cX7_restore 35 = .ok (.iconst 0, 1) := by decide +kernel
theorem dX7_restore_36 : decode cX7_restore 36 = .ok (.invokestatic 245, 3) := by decide +kernel
theorem dX7_restore_39 : decode cX7_restore 39 = .ok (.aload_n 0, 1) := by decide +kernel
theorem dX7_restore_40 : decode cX7_restore 40 = .ok (.getfield 25, 3) := by decide +kernel
theorem dX7_restore_43 : decode cX7_restore 43 = .ok (.iconst 0, 1) := by decide +kernel
theorem dX7_restore_44 : decode cX7_restore 44 = .ok (.putfield 91, 3) := by decide +kernel
theorem dX7_restore_47 : decode cX7_restore 47 = .ok (.aload_n 0, 1) := by decide +kernel
theorem dX7_restore_48 : decode cX7_restore 48 = .ok (.invokevirtual 249, 3) := by decide +kernel
theorem dX7_restore_51 : decode cX7_restore 51 = .ok (.ireturn, 1) := by decide +kernel
set_option maxRecDepth 20000 in
theorem ggX7_count_X7_heapsOnPlaces : GoodIn wsX7_count wsX7_heapsOnPlaces := goodIn_r _ [10, 11, 26, 27, 28, 29, 30, 31, 32, 33, 34, 35] (by decide +kernel) (by decide +kernel)
set_option maxRecDepth 20000 in
theorem gX7_count_X7_heapsOnPlaces : GoodIn wsX7_count (wsV RX7 249 RX7 yX7_heapsOnPlaces wsX7_heapsOnPlaces) := goodIn_app (goodIn_of _ (by decide +kernel)) ggX7_count_X7_heapsOnPlaces
set_option maxRecDepth 20000 in
theorem ggX7_count_X7_volumeOnPlaces : GoodIn wsX7_count wsX7_volumeOnPlaces := goodIn_r _ [15, 11, 16, 17, 18, 19, 20, 21, 22, 23, 24, 25, 26, 27, 28, 29, 30, 31, 32, 33, 34, 35, 47, 48] (by decide +kernel) (by decide +kernel)
set_option maxRecDepth 20000 in
theorem gX7_count_X7_volumeOnPlaces : GoodIn wsX7_count (wsV RX7 252 RX7 yX7_volumeOnPlaces wsX7_volumeOnPlaces) := goodIn_app (goodIn_of _ (by decide +kernel)) ggX7_count_X7_volumeOnPlaces
theorem dX7_count_0 : decode cX7_count 0 = .ok (.iload_n 1, 1) := by decide +kernel
theorem dX7_count_1 : decode cX7_count 1 = .ok (.tableswitch 57 0 3 #[31, 36, 41, 49], 31) := by decide +kernel
theorem dX7_count_32 : decode cX7_count 32 = .ok (.aload_n 0, 1) := by decide +kernel
theorem dX7_count_33 : decode cX7_count 33 = .ok (.invokevirtual 249, 3) := by decide +kernel
theorem dX7_count_36 : decode cX7_count 36 = .ok (.ireturn, 1) := by decide +kernel
theorem dX7_count_37 : decode cX7_count 37 = .ok (.aload_n 0, 1) := by decide +kernel
theorem dX7_count_38 : decode cX7_count 38 = .ok (.invokevirtual 252, 3) := by decide +kernel
theorem dX7_count_41 : decode cX7_count 41 = .ok (.ireturn, 1) := by decide +kernel
theorem dX7_count_42 : decode cX7_count 42 = .ok (.aload_n 0, 1) := by decide +kernel
theorem dX7_count_43 : decode cX7_count 43 = .ok (.getfield 25, 3) := by decide +kernel
theorem dX7_count_46 : decode cX7_count 46 = .ok (.getfield 91, 3) := by decide +kernel
theorem dX7_count_49 : decode cX7_count 49 = .ok (.ireturn, 1) := by decide +kernel
theorem dX7_count_50 : decode cX7_count 50 = .ok (.aload_n 0, 1) := by decide +kernel
theorem dX7_count_51 : decode cX7_count 51 = .ok (.getfield 10, 3) := by decide +kernel
theorem dX7_count_54 : decode cX7_count 54 = .ok (.getfield 69, 3) := by decide +kernel
theorem dX7_count_57 : decode cX7_count 57 = .ok (.ireturn, 1) := by decide +kernel
theorem dX7_count_58 : decode cX7_count 58 = .ok (.ldc 64, 2) := by decide +kernel
theorem dX7_count_60 : decode cX7_count 60 = .ok (.ireturn, 1) := by decide +kernel
theorem dX7_isPlace_0 : decode cX7_isPlace 0 = .ok (.iload_n 0, 1) := by decide +kernel
theorem dX7_isPlace_1 : decode cX7_isPlace 1 = .ok (.ifCond .lt 12, 3) := by decide +kernel
theorem dX7_isPlace_4 : decode cX7_isPlace 4 = .ok (.iload_n 0, 1) := by decide +kernel
theorem dX7_isPlace_5 : decode cX7_isPlace 5 = .ok (.iconst 4, 1) := by decide +kernel
theorem dX7_isPlace_6 : decode cX7_isPlace 6 = .ok (.if_icmp .ge 7, 3) := by decide +kernel
theorem dX7_isPlace_9 : decode cX7_isPlace 9 = .ok (.iconst 1, 1) := by decide +kernel
theorem dX7_isPlace_10 : decode cX7_isPlace 10 = .ok (.goto 4, 3) := by decide +kernel
theorem dX7_isPlace_13 : decode cX7_isPlace 13 = .ok (.iconst 0, 1) := by decide +kernel
theorem dX7_isPlace_14 : decode cX7_isPlace 14 = .ok (.ireturn, 1) := by decide +kernel
set_option maxRecDepth 20000 in
theorem ggX7_heapAt_X7_isPlace : GoodIn wsX7_heapAt wsX7_isPlace := goodIn_r _ [5] (by decide +kernel) (by decide +kernel)
set_option maxRecDepth 20000 in
theorem gX7_heapAt_X7_isPlace : GoodIn wsX7_heapAt (va_wsS RX7 73 yX7_isPlace wsX7_isPlace) := goodIn_app (goodIn_of _ (by decide +kernel)) ggX7_heapAt_X7_isPlace
theorem dX7_heapAt_0 : decode cX7_heapAt 0 = .ok (.iload_n 1, 1) := by decide +kernel
theorem dX7_heapAt_1 : decode cX7_heapAt 1 = .ok (.invokestatic 73, 3) := by decide +kernel
theorem dX7_heapAt_4 : decode cX7_heapAt 4 = .ok (.ifCond .eq 12, 3) := by decide +kernel
theorem dX7_heapAt_7 : decode cX7_heapAt 7 = .ok (.aload_n 0, 1) := by decide +kernel
theorem dX7_heapAt_8 : decode cX7_heapAt 8 = .ok (.getfield 18, 3) := by decide +kernel
theorem dX7_heapAt_11 : decode cX7_heapAt 11 = .ok (.iload_n 1, 1) := by decide +kernel
theorem dX7_heapAt_12 : decode cX7_heapAt 12 = .ok (.aaload, 1) := by decide +kernel
theorem dX7_heapAt_13 : decode cX7_heapAt 13 = .ok (.goto 4, 3) := by decide +kernel
theorem dX7_heapAt_16 : decode cX7_heapAt 16 = .ok (.aconst_null, 1) := by decide +kernel
theorem dX7_heapAt_17 : decode cX7_heapAt 17 = .ok (.areturn, 1) := by decide +kernel
set_option maxRecDepth 20000 in
theorem ggX7_put_X3_keep : GoodIn wsX7_put wsX3_keep := goodIn_r _ [7, 8, 9, 10, 11, 12, 13, 14, 15, 16, 17, 38, 39, 40] (by decide +kernel) (by decide +kernel)
set_option maxRecDepth 20000 in
theorem gX7_put_X3_keep : GoodIn wsX7_put (wsV RX7 255 RX3 yX3_keep wsX3_keep) := goodIn_app (goodIn_of _ (by decide +kernel)) ggX7_put_X3_keep
set_option maxRecDepth 20000 in
theorem ggX7_put_X1_volume : GoodIn wsX7_put wsX1_volume := goodIn_r _ [22, 23, 24, 25, 26, 27, 41, 42] (by decide +kernel) (by decide +kernel)
set_option maxRecDepth 20000 in
theorem gX7_put_X1_volume : GoodIn wsX7_put (wsV RX7 158 RX1 yX1_volume wsX1_volume) := goodIn_app (goodIn_of _ (by decide +kernel)) ggX7_put_X1_volume
theorem dX7_put_0 : decode cX7_put 0 = .ok (.aload_n 0, 1) := by decide +kernel
theorem dX7_put_1 : decode cX7_put 1 = .ok (.getfield 25, 3) := by decide +kernel
theorem dX7_put_4 : decode cX7_put 4 = .ok (.aload_n 0, 1) := by decide +kernel
theorem dX7_put_5 : decode cX7_put 5 = .ok (.getfield 18, 3) := by decide +kernel
theorem dX7_put_8 : decode cX7_put 8 = .ok (.invokevirtual 255, 3) := by decide +kernel
theorem dX7_put_11 : decode cX7_put 11 = .ok (.aload_n 0, 1) := by decide +kernel
theorem dX7_put_12 : decode cX7_put 12 = .ok (.getfield 18, 3) := by decide +kernel
theorem dX7_put_15 : decode cX7_put 15 = .ok (.iload_n 2, 1) := by decide +kernel
theorem dX7_put_16 : decode cX7_put 16 = .ok (.aload_n 1, 1) := by decide +kernel
theorem dX7_put_17 : decode cX7_put 17 = .ok (.aastore, 1) := by decide +kernel
theorem dX7_put_18 : decode cX7_put 18 = .ok (.aload_n 1, 1) := by decide +kernel
theorem dX7_put_19 : decode cX7_put 19 = .ok (.ifnonnull 7, 3) := by decide +kernel
theorem dX7_put_22 : decode cX7_put 22 = .ok (.iconst 0, 1) := by decide +kernel
theorem dX7_put_23 : decode cX7_put 23 = .ok (.goto 7, 3) := by decide +kernel
theorem dX7_put_26 : decode cX7_put 26 = .ok (.aload_n 1, 1) := by decide +kernel
theorem dX7_put_27 : decode cX7_put 27 = .ok (.invokevirtual 158, 3) := by decide +kernel
theorem dX7_put_30 : decode cX7_put 30 = .ok (.ireturn, 1) := by decide +kernel
theorem dX7_copyPlaces_0 : decode cX7_copyPlaces 0 = .ok (.iconst 0, 1) := by decide +kernel
theorem dX7_copyPlaces_1 : decode cX7_copyPlaces 1 = .ok (.istore 4, 2) := by decide +kernel
theorem dX7_copyPlaces_3 : decode cX7_copyPlaces 3 = .ok (.iload 4, 2) := by decide +kernel
theorem dX7_copyPlaces_5 : decode cX7_copyPlaces 5 = .ok (.iconst 4, 1) := by decide +kernel
theorem dX7_copyPlaces_6 : decode cX7_copyPlaces 6 = .ok (.if_icmp .ge 21, 3) := by decide +kernel
theorem dX7_copyPlaces_9 : decode cX7_copyPlaces 9 = .ok (.aload_n 2, 1) := by decide +kernel
theorem dX7_copyPlaces_10 : decode cX7_copyPlaces 10 = .ok (.iload_n 3, 1) := by decide +kernel
theorem dX7_copyPlaces_11 : decode cX7_copyPlaces 11 = .ok (.iload 4, 2) := by decide +kernel
theorem dX7_copyPlaces_13 : decode cX7_copyPlaces 13 = .ok (.iadd, 1) := by decide +kernel
theorem dX7_copyPlaces_14 : decode cX7_copyPlaces 14 = .ok (.aload_n 0, 1) := by decide +kernel
theorem dX7_copyPlaces_15 : decode cX7_copyPlaces 15 = .ok (.iload_n 1, 1) := by decide +kernel
theorem dX7_copyPlaces_16 : decode cX7_copyPlaces 16 = .ok (.iload 4, 2) := by decide +kernel
theorem dX7_copyPlaces_18 : decode cX7_copyPlaces 18 = .ok (.iadd, 1) := by decide +kernel
theorem dX7_copyPlaces_19 : decode cX7_copyPlaces 19 = .ok (.aaload, 1) := by decide +kernel
theorem dX7_copyPlaces_20 : decode cX7_copyPlaces 20 = .ok (.aastore, 1) := by decide +kernel
theorem dX7_copyPlaces_21 : decode cX7_copyPlaces 21 = .ok (.iinc 4 1, 3) := by decide +kernel
theorem dX7_copyPlaces_24 : decode cX7_copyPlaces 24 = .ok (.goto (-21), 3) := by decide +kernel
theorem dX7_copyPlaces_27 : decode cX7_copyPlaces 27 = .ok (.return_, 1) := by decide +kernel
set_option maxRecDepth 20000 in
theorem ggX7_change_X7_heapAt : GoodIn wsX7_change wsX7_heapAt := goodIn_r _ [12, 13, 14, 15, 11, 16, 85, 86, 87, 88, 89, 90, 91, 92, 93, 94] (by decide +kernel) (by decide +kernel)
set_option maxRecDepth 20000 in
theorem gX7_change_X7_heapAt : GoodIn wsX7_change (wsV RX7 135 RX7 yX7_heapAt wsX7_heapAt) := goodIn_app (goodIn_of _ (by decide +kernel)) ggX7_change_X7_heapAt
set_option maxRecDepth 20000 in
theorem ggX7_change_X0_hasCell : GoodIn wsX7_change wsX0_hasCell := goodIn_r _ [21, 22, 23, 95, 96, 97] (by decide +kernel) (by decide +kernel)
set_option maxRecDepth 20000 in
theorem gX7_change_X0_hasCell : GoodIn wsX7_change (wsV RX7 162 RX0 yX0_hasCell wsX0_hasCell) := goodIn_app (goodIn_of _ (by decide +kernel)) ggX7_change_X0_hasCell
set_option maxRecDepth 20000 in
theorem ggX7_change_X0_changesAt : GoodIn wsX7_change wsX0_changesAt := goodIn_r _ [27, 28, 29, 30, 20, 31, 32, 33, 34, 35, 36, 22, 23, 37, 38, 39, 40, 95, 96, 97] (by decide +kernel) (by decide +kernel)
set_option maxRecDepth 20000 in
theorem gX7_change_X0_changesAt : GoodIn wsX7_change (wsV RX7 258 RX0 yX0_changesAt wsX0_changesAt) := goodIn_app (goodIn_of _ (by decide +kernel)) ggX7_change_X0_changesAt
set_option maxRecDepth 20000 in
theorem ggX7_change_X0_cube : GoodIn wsX7_change wsX0_cube := goodIn_r _ [43] (by decide +kernel) (by decide +kernel)
set_option maxRecDepth 20000 in
theorem gX7_change_X0_cube : GoodIn wsX7_change (va_wsS RX7 262 yX0_cube wsX0_cube) := goodIn_app (goodIn_of _ (by decide +kernel)) ggX7_change_X0_cube
set_option maxRecDepth 20000 in
theorem ggX7_change_X1_init : GoodIn wsX7_change wsX1_init := goodIn_r _ [46, 47, 48, 49, 50, 51, 83, 84] (by decide +kernel) (by decide +kernel)
set_option maxRecDepth 20000 in
theorem gX7_change_X1_init : GoodIn wsX7_change (wsX1_init) := ggX7_change_X1_init
set_option maxRecDepth 20000 in
theorem ggX7_change_X7_put : GoodIn wsX7_change wsX7_put := goodIn_r _ [55, 56, 13, 57, 58, 59, 60, 61, 62, 63, 64, 65, 66, 67, 68, 69, 11, 70, 71, 72, 73, 7, 74, 51, 75, 76, 20, 77, 85, 86, 87, 88, 89, 90, 91, 92, 93, 94, 98, 99, 100, 83, 84] (by decide +kernel) (by decide +kernel)
set_option maxRecDepth 20000 in
theorem gX7_change_X7_put : GoodIn wsX7_change (wsV RX7 87 RX7 yX7_put wsX7_put) := goodIn_app (goodIn_of _ (by decide +kernel)) ggX7_change_X7_put
set_option maxRecDepth 20000 in
theorem ggX7_change_X7_height : GoodIn wsX7_change wsX7_height := goodIn_r _ [81, 1, 2, 3, 8, 9, 10, 11, 12, 13, 14, 15, 16, 17, 18, 19, 20, 21, 22, 23, 82, 33, 34, 35, 36, 83, 84, 85, 86, 87, 88, 89, 90, 91, 92, 93, 94, 95, 96, 97] (by decide +kernel) (by decide +kernel)
set_option maxRecDepth 20000 in
theorem gX7_change_X7_height : GoodIn wsX7_change (wsV RX7 265 RX7 yX7_height wsX7_height) := goodIn_app (goodIn_of _ (by decide +kernel)) ggX7_change_X7_height
theorem dX7_change_0 : decode cX7_change 0 = .ok (.aload_n 0, 1) := by decide +kernel
theorem dX7_change_1 : decode cX7_change 1 = .ok (.iload_n 1, 1) := by decide +kernel
theorem dX7_change_2 : decode cX7_change 2 = .ok (.invokevirtual 135, 3) := by decide +kernel
theorem dX7_change_5 : decode cX7_change 5 = .ok (.astore 5, 2) := by decide +kernel
theorem dX7_change_7 : decode cX7_change 7 = .ok (.aload 5, 2) := by decide +kernel
theorem dX7_change_9 : decode cX7_change 9 = .ok (.ifnull 16, 3) := by decide +kernel
theorem dX7_change_12 : decode cX7_change 12 = .ok (.aload 5, 2) := by decide +kernel
theorem dX7_change_14 : decode cX7_change 14 = .ok (.getfield 142, 3) := by decide +kernel
theorem dX7_change_17 : decode cX7_change 17 = .ok (.iload_n 2, 1) := by decide +kernel
theorem dX7_change_18 : decode cX7_change 18 = .ok (.iload_n 3, 1) := by decide +kernel
theorem dX7_change_19 : decode cX7_change 19 = .ok (.invokevirtual 162, 3) := by decide +kernel
theorem dX7_change_22 : decode cX7_change 22 = .ok (.ifCond .ne 6, 3) := by decide +kernel
theorem dX7_change_25 : decode cX7_change 25 = .ok (.ldc 64, 2) := by decide +kernel
theorem dX7_change_27 : decode cX7_change 27 = .ok (.ireturn, 1) := by decide +kernel
theorem dX7_change_28 : decode cX7_change 28 = .ok (.aload 5, 2) := by decide +kernel
theorem dX7_change_30 : decode cX7_change 30 = .ok (.getfield 142, 3) := by decide +kernel
theorem dX7_change_33 : decode cX7_change 33 = .ok (.aload 5, 2) := by decide +kernel
theorem dX7_change_35 : decode cX7_change 35 = .ok (.getfield 150, 3) := by decide +kernel
theorem dX7_change_38 : decode cX7_change 38 = .ok (.iload_n 2, 1) := by decide +kernel
theorem dX7_change_39 : decode cX7_change 39 = .ok (.iload_n 3, 1) := by decide +kernel
theorem dX7_change_40 : decode cX7_change 40 = .ok (.iload 4, 2) := by decide +kernel
theorem dX7_change_42 : decode cX7_change 42 = .ok (.invokevirtual 258, 3) := by decide +kernel
theorem dX7_change_45 : decode cX7_change 45 = .ok (.ifCond .ne 6, 3) := by decide +kernel
theorem dX7_change_48 : decode cX7_change 48 = .ok (.ldc 94, 2) := by decide +kernel
theorem dX7_change_50 : decode cX7_change 50 = .ok (.ireturn, 1) := by decide +kernel
theorem dX7_change_51 : decode cX7_change 51 = .ok (.iload_n 2, 1) := by decide +kernel
theorem dX7_change_52 : decode cX7_change 52 = .ok (.iload_n 3, 1) := by decide +kernel
theorem dX7_change_53 : decode cX7_change 53 = .ok (.invokestatic 262, 3) := by decide +kernel
theorem dX7_change_56 : decode cX7_change 56 = .ok (.lstore 6, 2) := by decide +kernel
theorem dX7_change_58 : decode cX7_change 58 = .ok (.aload_n 0, 1) := by decide +kernel
theorem dX7_change_59 : decode cX7_change 59 = .ok (.new 16, 3) := by decide +kernel
theorem dX7_change_62 : decode cX7_change 62 = .ok (.dup, 1) := by decide +kernel
theorem dX7_change_63 : decode cX7_change 63 = .ok (.aload 5, 2) := by decide +kernel
theorem dX7_change_65 : decode cX7_change 65 = .ok (.getfield 142, 3) := by decide +kernel
theorem dX7_change_68 : decode cX7_change 68 = .ok (.iload 4, 2) := by decide +kernel
theorem dX7_change_70 : decode cX7_change 70 = .ok (.ifCond .eq 14, 3) := by decide +kernel
theorem dX7_change_73 : decode cX7_change 73 = .ok (.aload 5, 2) := by decide +kernel
theorem dX7_change_75 : decode cX7_change 75 = .ok (.getfield 150, 3) := by decide +kernel
theorem dX7_change_78 : decode cX7_change 78 = .ok (.lload 6, 2) := by decide +kernel
theorem dX7_change_80 : decode cX7_change 80 = .ok (.ladd, 1) := by decide +kernel
theorem dX7_change_81 : decode cX7_change 81 = .ok (.goto 11, 3) := by decide +kernel
theorem dX7_change_84 : decode cX7_change 84 = .ok (.aload 5, 2) := by decide +kernel
theorem dX7_change_86 : decode cX7_change 86 = .ok (.getfield 150, 3) := by decide +kernel
theorem dX7_change_89 : decode cX7_change 89 = .ok (.lload 6, 2) := by decide +kernel
theorem dX7_change_91 : decode cX7_change 91 = .ok (.lsub, 1) := by decide +kernel
theorem dX7_change_92 : decode cX7_change 92 = .ok (.invokespecial 117, 3) := by decide +kernel
theorem dX7_change_95 : decode cX7_change 95 = .ok (.iload_n 1, 1) := by decide +kernel
theorem dX7_change_96 : decode cX7_change 96 = .ok (.invokevirtual 87, 3) := by decide +kernel
theorem dX7_change_99 : decode cX7_change 99 = .ok (.pop, 1) := by decide +kernel
theorem dX7_change_100 : decode cX7_change 100 = .ok (.aload_n 0, 1) := by decide +kernel
theorem dX7_change_101 : decode cX7_change 101 = .ok (.iload_n 1, 1) := by decide +kernel
theorem dX7_change_102 : decode cX7_change 102 = .ok (.iload_n 2, 1) := by decide +kernel
theorem dX7_change_103 : decode cX7_change 103 = .ok (.iload_n 3, 1) := by decide +kernel
theorem dX7_change_104 : decode cX7_change 104 = .ok (.invokevirtual 265, 3) := by decide +kernel
theorem dX7_change_107 : decode cX7_change 107 = .ok (.ireturn, 1) := by decide +kernel
theorem dX7_heapsOnPlaces_0 : decode cX7_heapsOnPlaces 0 = .ok (.iconst 0, 1) := by decide +kernel
theorem dX7_heapsOnPlaces_1 : decode cX7_heapsOnPlaces 1 = .ok (.istore_n 1, 1) := by decide +kernel
theorem dX7_heapsOnPlaces_2 : decode cX7_heapsOnPlaces 2 = .ok (.iconst 0, 1) := by decide +kernel
theorem dX7_heapsOnPlaces_3 : decode cX7_heapsOnPlaces 3 = .ok (.istore_n 2, 1) := by decide +kernel
theorem dX7_heapsOnPlaces_4 : decode cX7_heapsOnPlaces 4 = .ok (.iload_n 2, 1) := by decide +kernel
theorem dX7_heapsOnPlaces_5 : decode cX7_heapsOnPlaces 5 = .ok (.iconst 4, 1) := by decide +kernel
theorem dX7_heapsOnPlaces_6 : decode cX7_heapsOnPlaces 6 = .ok (.if_icmp .ge 21, 3) := by decide +kernel
theorem dX7_heapsOnPlaces_9 : decode cX7_heapsOnPlaces 9 = .ok (.aload_n 0, 1) := by decide +kernel
theorem dX7_heapsOnPlaces_10 : decode cX7_heapsOnPlaces 10 = .ok (.getfield 18, 3) := by decide +kernel
theorem dX7_heapsOnPlaces_13 : decode cX7_heapsOnPlaces 13 = .ok (.iload_n 2, 1) := by decide +kernel
theorem dX7_heapsOnPlaces_14 : decode cX7_heapsOnPlaces 14 = .ok (.aaload, 1) := by decide +kernel
theorem dX7_heapsOnPlaces_15 : decode cX7_heapsOnPlaces 15 = .ok (.ifnull 6, 3) := by decide +kernel
theorem dX7_heapsOnPlaces_18 : decode cX7_heapsOnPlaces 18 = .ok (.iinc 1 1, 3) := by decide +kernel
theorem dX7_heapsOnPlaces_21 : decode cX7_heapsOnPlaces 21 = .ok (.iinc 2 1, 3) := by decide +kernel
theorem dX7_heapsOnPlaces_24 : decode cX7_heapsOnPlaces 24 = .ok (.goto (-20), 3) := by decide +kernel
theorem dX7_heapsOnPlaces_27 : decode cX7_heapsOnPlaces 27 = .ok (.iload_n 1, 1) := by decide +kernel
theorem dX7_heapsOnPlaces_28 : decode cX7_heapsOnPlaces 28 = .ok (.ireturn, 1) := by decide +kernel
set_option maxRecDepth 20000 in
theorem ggX7_volumeOnPlaces_X1_volume : GoodIn wsX7_volumeOnPlaces wsX1_volume := goodIn_r _ [6, 7, 8, 9, 10, 11, 22, 23] (by decide +kernel) (by decide +kernel)
set_option maxRecDepth 20000 in
theorem gX7_volumeOnPlaces_X1_volume : GoodIn wsX7_volumeOnPlaces (wsV RX7 158 RX1 yX1_volume wsX1_volume) := goodIn_app (goodIn_of _ (by decide +kernel)) ggX7_volumeOnPlaces_X1_volume
theorem dX7_volumeOnPlaces_0 : decode cX7_volumeOnPlaces 0 = .ok (.iconst 0, 1) := by decide +kernel
theorem dX7_volumeOnPlaces_1 : decode cX7_volumeOnPlaces 1 = .ok (.istore_n 1, 1) := by decide +kernel
theorem dX7_volumeOnPlaces_2 : decode cX7_volumeOnPlaces 2 = .ok (.iconst 0, 1) := by decide +kernel
theorem dX7_volumeOnPlaces_3 : decode cX7_volumeOnPlaces 3 = .ok (.istore_n 2, 1) := by decide +kernel
theorem dX7_volumeOnPlaces_4 : decode cX7_volumeOnPlaces 4 = .ok (.iload_n 2, 1) := by decide +kernel
theorem dX7_volumeOnPlaces_5 : decode cX7_volumeOnPlaces 5 = .ok (.iconst 4, 1) := by decide +kernel
theorem dX7_volumeOnPlaces_6 : decode cX7_volumeOnPlaces 6 = .ok (.if_icmp .ge 27, 3) := by decide +kernel
theorem dX7_volumeOnPlaces_9 : decode cX7_volumeOnPlaces 9 = .ok (.aload_n 0, 1) := by decide +kernel
theorem dX7_volumeOnPlaces_10 : decode cX7_volumeOnPlaces 10 = .ok (.getfield 18, 3) := by decide +kernel
theorem dX7_volumeOnPlaces_13 : decode cX7_volumeOnPlaces 13 = .ok (.iload_n 2, 1) := by decide +kernel
theorem dX7_volumeOnPlaces_14 : decode cX7_volumeOnPlaces 14 = .ok (.aaload, 1) := by decide +kernel
theorem dX7_volumeOnPlaces_15 : decode cX7_volumeOnPlaces 15 = .ok (.astore_n 3, 1) := by decide +kernel
theorem dX7_volumeOnPlaces_16 : decode cX7_volumeOnPlaces 16 = .ok (.aload_n 3, 1) := by decide +kernel
theorem dX7_volumeOnPlaces_17 : decode cX7_volumeOnPlaces 17 = .ok (.ifnull 10, 3) := by decide +kernel
theorem dX7_volumeOnPlaces_20 : decode cX7_volumeOnPlaces 20 = .ok (.iload_n 1, 1) := by decide +kernel
theorem dX7_volumeOnPlaces_21 : decode cX7_volumeOnPlaces 21 = .ok (.aload_n 3, 1) := by decide +kernel
theorem dX7_volumeOnPlaces_22 : decode cX7_volumeOnPlaces 22 = .ok (.invokevirtual 158, 3) := by decide +kernel
theorem dX7_volumeOnPlaces_25 : decode cX7_volumeOnPlaces 25 = .ok (.iadd, 1) := by decide +kernel
theorem dX7_volumeOnPlaces_26 : decode cX7_volumeOnPlaces 26 = .ok (.istore_n 1, 1) := by decide +kernel
theorem dX7_volumeOnPlaces_27 : decode cX7_volumeOnPlaces 27 = .ok (.iinc 2 1, 3) := by decide +kernel
theorem dX7_volumeOnPlaces_30 : decode cX7_volumeOnPlaces 30 = .ok (.goto (-26), 3) := by decide +kernel
theorem dX7_volumeOnPlaces_33 : decode cX7_volumeOnPlaces 33 = .ok (.iload_n 1, 1) := by decide +kernel
theorem dX7_volumeOnPlaces_34 : decode cX7_volumeOnPlaces 34 = .ok (.ireturn, 1) := by decide +kernel
set_option maxRecDepth 20000 in
theorem ggX7_numberOf_X7_rowsOf : GoodIn wsX7_numberOf wsX7_rowsOf := goodIn_r _ [8, 9, 10, 11, 12, 13, 14, 15, 16, 17, 18, 19, 20, 21, 22, 23, 24, 25, 26, 27, 28, 29, 30, 31, 7, 32, 33, 34, 35, 36, 37, 38, 39, 40, 41, 42, 43, 44, 45, 46, 47, 48, 49, 50, 51, 52, 53, 54, 55, 56, 57, 58, 59, 60, 61, 62, 63, 64, 65, 66, 67, 68, 69, 76, 77, 78, 79, 80, 81, 82, 83, 84, 85, 86, 87, 88, 89, 90, 91, 92] (by decide +kernel) (by decide +kernel)
set_option maxRecDepth 20000 in
theorem gX7_numberOf_X7_rowsOf : GoodIn wsX7_numberOf (wsV RX7 105 RX7 yX7_rowsOf wsX7_rowsOf) := goodIn_app (goodIn_of _ (by decide +kernel)) ggX7_numberOf_X7_rowsOf
set_option maxRecDepth 20000 in
theorem ggX7_numberOf_X4_numberOf : GoodIn wsX7_numberOf wsX4_numberOf := goodIn_r _ [73, 22, 24, 39, 40, 30, 41, 42, 66, 67, 14, 68, 69, 89, 90, 91, 92] (by decide +kernel) (by decide +kernel)
set_option maxRecDepth 20000 in
theorem gX7_numberOf_X4_numberOf : GoodIn wsX7_numberOf (wsV RX7 268 RX4 yX4_numberOf wsX4_numberOf) := goodIn_app (goodIn_of _ (by decide +kernel)) ggX7_numberOf_X4_numberOf
theorem dX7_numberOf_0 : decode cX7_numberOf 0 = .ok (.aload_n 0, 1) := by decide +kernel
theorem dX7_numberOf_1 : decode cX7_numberOf 1 = .ok (.aload_n 1, 1) := by decide +kernel
theorem dX7_numberOf_2 : decode cX7_numberOf 2 = .ok (.getfield 142, 3) := by decide +kernel
theorem dX7_numberOf_5 : decode cX7_numberOf 5 = .ok (.invokevirtual 105, 3) := by decide +kernel
theorem dX7_numberOf_8 : decode cX7_numberOf 8 = .ok (.aload_n 1, 1) := by decide +kernel
theorem dX7_numberOf_9 : decode cX7_numberOf 9 = .ok (.getfield 142, 3) := by decide +kernel
theorem dX7_numberOf_12 : decode cX7_numberOf 12 = .ok (.getfield 170, 3) := by decide +kernel
theorem dX7_numberOf_15 : decode cX7_numberOf 15 = .ok (.aload_n 1, 1) := by decide +kernel
theorem dX7_numberOf_16 : decode cX7_numberOf 16 = .ok (.getfield 150, 3) := by decide +kernel
theorem dX7_numberOf_19 : decode cX7_numberOf 19 = .ok (.invokevirtual 268, 3) := by decide +kernel
theorem dX7_numberOf_22 : decode cX7_numberOf 22 = .ok (.ireturn, 1) := by decide +kernel
set_option maxRecDepth 20000 in
theorem ggX7_rowsOf_X4_init : GoodIn wsX7_rowsOf wsX4_init := goodIn_r _ [9, 10, 11, 12, 13, 14, 15, 16, 17, 18, 19, 20, 21, 22, 23, 24, 25, 26, 27, 28, 29, 30, 31, 32, 33, 34, 35, 36, 37, 38, 39, 40, 41, 42, 43, 44, 45, 46, 47, 48, 49, 50, 51, 52, 53, 6, 54, 55, 56, 57, 58, 59, 60, 61, 62, 76, 77, 78, 79, 63, 64, 65] (by decide +kernel) (by decide +kernel)
set_option maxRecDepth 20000 in
theorem gX7_rowsOf_X4_init : GoodIn wsX7_rowsOf (wsX4_init) := ggX7_rowsOf_X4_init
theorem dX7_rowsOf_0 : decode cX7_rowsOf 0 = .ok (.aload_n 1, 1) := by decide +kernel
theorem dX7_rowsOf_1 : decode cX7_rowsOf 1 = .ok (.getfield 173, 3) := by decide +kernel
theorem dX7_rowsOf_4 : decode cX7_rowsOf 4 = .ok (.iconst 1, 1) := by decide +kernel
theorem dX7_rowsOf_5 : decode cX7_rowsOf 5 = .ok (.isub, 1) := by decide +kernel
theorem dX7_rowsOf_6 : decode cX7_rowsOf 6 = .ok (.iconst 4, 1) := by decide +kernel
theorem dX7_rowsOf_7 : decode cX7_rowsOf 7 = .ok (.imul, 1) := by decide +kernel
theorem dX7_rowsOf_8 : decode cX7_rowsOf 8 = .ok (.aload_n 1, 1) := by decide +kernel
theorem dX7_rowsOf_9 : decode cX7_rowsOf 9 = .ok (.getfield 176, 3) := by decide +kernel
theorem dX7_rowsOf_12 : decode cX7_rowsOf 12 = .ok (.iadd, 1) := by decide +kernel
theorem dX7_rowsOf_13 : decode cX7_rowsOf 13 = .ok (.iconst 1, 1) := by decide +kernel
theorem dX7_rowsOf_14 : decode cX7_rowsOf 14 = .ok (.isub, 1) := by decide +kernel
theorem dX7_rowsOf_15 : decode cX7_rowsOf 15 = .ok (.istore_n 2, 1) := by decide +kernel
theorem dX7_rowsOf_16 : decode cX7_rowsOf 16 = .ok (.aload_n 0, 1) := by decide +kernel
theorem dX7_rowsOf_17 : decode cX7_rowsOf 17 = .ok (.getfield 38, 3) := by decide +kernel
theorem dX7_rowsOf_20 : decode cX7_rowsOf 20 = .ok (.iload_n 2, 1) := by decide +kernel
theorem dX7_rowsOf_21 : decode cX7_rowsOf 21 = .ok (.aaload, 1) := by decide +kernel
theorem dX7_rowsOf_22 : decode cX7_rowsOf 22 = .ok (.astore_n 3, 1) := by decide +kernel
theorem dX7_rowsOf_23 : decode cX7_rowsOf 23 = .ok (.aload_n 3, 1) := by decide +kernel
theorem dX7_rowsOf_24 : decode cX7_rowsOf 24 = .ok (.ifnonnull 26, 3) := by decide +kernel
theorem dX7_rowsOf_27 : decode cX7_rowsOf 27 = .ok (.new 36, 3) := by decide +kernel
theorem dX7_rowsOf_30 : decode cX7_rowsOf 30 = .ok (.dup, 1) := by decide +kernel
theorem dX7_rowsOf_31 : decode cX7_rowsOf 31 = .ok (.aload_n 1, 1) := by decide +kernel
theorem dX7_rowsOf_32 : decode cX7_rowsOf 32 = .ok (.getfield 173, 3) := by decide +kernel
theorem dX7_rowsOf_35 : decode cX7_rowsOf 35 = .ok (.aload_n 1, 1) := by decide +kernel
theorem dX7_rowsOf_36 : decode cX7_rowsOf 36 = .ok (.getfield 176, 3) := by decide +kernel
theorem dX7_rowsOf_39 : decode cX7_rowsOf 39 = .ok (.invokespecial 271, 3) := by decide +kernel
theorem dX7_rowsOf_42 : decode cX7_rowsOf 42 = .ok (.astore_n 3, 1) := by decide +kernel
theorem dX7_rowsOf_43 : decode cX7_rowsOf 43 = .ok (.aload_n 0, 1) := by decide +kernel
theorem dX7_rowsOf_44 : decode cX7_rowsOf 44 = .ok (.getfield 38, 3) := by decide +kernel
theorem dX7_rowsOf_47 : decode cX7_rowsOf 47 = .ok (.iload_n 2, 1) := by decide +kernel
theorem dX7_rowsOf_48 : decode cX7_rowsOf 48 = .ok (.aload_n 3, 1) := by decide +kernel
theorem dX7_rowsOf_49 : decode cX7_rowsOf 49 = .ok (.aastore, 1) := by decide +kernel
theorem dX7_rowsOf_50 : decode cX7_rowsOf 50 = .ok (.aload_n 3, 1) := by decide +kernel
theorem dX7_rowsOf_51 : decode cX7_rowsOf 51 = .ok (.areturn, 1) := by decide +kernel
set_option maxRecDepth 20000 in
theorem ggX7_ordersOf_X0_level : GoodIn wsX7_ordersOf wsX0_level := goodIn_r _ [7, 8, 9, 10, 22, 23, 24] (by decide +kernel) (by decide +kernel)
set_option maxRecDepth 20000 in
theorem gX7_ordersOf_X0_level : GoodIn wsX7_ordersOf (wsV RX7 166 RX0 yX0_level wsX0_level) := goodIn_app (goodIn_of _ (by decide +kernel)) ggX7_ordersOf_X0_level
set_option maxRecDepth 20000 in
theorem ggX7_ordersOf_X0_shrinksAt : GoodIn wsX7_ordersOf wsX0_shrinksAt := goodIn_r _ [14, 15, 4, 5, 6, 7, 8, 9, 10, 22, 23, 24] (by decide +kernel) (by decide +kernel)
set_option maxRecDepth 20000 in
theorem gX7_ordersOf_X0_shrinksAt : GoodIn wsX7_ordersOf (wsV RX7 274 RX0 yX0_shrinksAt wsX0_shrinksAt) := goodIn_app (goodIn_of _ (by decide +kernel)) ggX7_ordersOf_X0_shrinksAt
set_option maxRecDepth 20000 in
theorem ggX7_ordersOf_X0_cube : GoodIn wsX7_ordersOf wsX0_cube := goodIn_r _ [18] (by decide +kernel) (by decide +kernel)
set_option maxRecDepth 20000 in
theorem gX7_ordersOf_X0_cube : GoodIn wsX7_ordersOf (va_wsS RX7 262 yX0_cube wsX0_cube) := goodIn_app (goodIn_of _ (by decide +kernel)) ggX7_ordersOf_X0_cube
set_option maxRecDepth 20000 in
theorem ggX7_ordersOf_X7_ordersOf : GoodIn wsX7_ordersOf wsX7_ordersOf := goodIn_r _ [0, 1, 2, 3, 4, 5, 6, 7, 8, 9, 10, 11, 12, 13, 14, 15, 16, 17, 18, 19, 20, 21, 22, 23, 24] (by decide +kernel) (by decide +kernel)
set_option maxRecDepth 20000 in
theorem gX7_ordersOf_X7_ordersOf : GoodIn wsX7_ordersOf (va_wsS RX7 207 yX7_ordersOf wsX7_ordersOf) := goodIn_app (goodIn_of _ (by decide +kernel)) ggX7_ordersOf_X7_ordersOf
theorem dX7_ordersOf_0 : decode cX7_ordersOf 0 = .ok (.iload_n 3, 1) := by decide +kernel
theorem dX7_ordersOf_1 : decode cX7_ordersOf 1 = .ok (.iconst 1, 1) := by decide +kernel
theorem dX7_ordersOf_2 : decode cX7_ordersOf 2 = .ok (.if_icmp .gt 5, 3) := by decide +kernel
theorem dX7_ordersOf_5 : decode cX7_ordersOf 5 = .ok (.iconst 1, 1) := by decide +kernel
theorem dX7_ordersOf_6 : decode cX7_ordersOf 6 = .ok (.ireturn, 1) := by decide +kernel
theorem dX7_ordersOf_7 : decode cX7_ordersOf 7 = .ok (.iconst 0, 1) := by decide +kernel
theorem dX7_ordersOf_8 : decode cX7_ordersOf 8 = .ok (.istore 4, 2) := by decide +kernel
theorem dX7_ordersOf_10 : decode cX7_ordersOf 10 = .ok (.iconst 0, 1) := by decide +kernel
theorem dX7_ordersOf_11 : decode cX7_ordersOf 11 = .ok (.istore 5, 2) := by decide +kernel
theorem dX7_ordersOf_13 : decode cX7_ordersOf 13 = .ok (.iload 5, 2) := by decide +kernel
theorem dX7_ordersOf_15 : decode cX7_ordersOf 15 = .ok (.aload_n 0, 1) := by decide +kernel
theorem dX7_ordersOf_16 : decode cX7_ordersOf 16 = .ok (.getfield 170, 3) := by decide +kernel
theorem dX7_ordersOf_19 : decode cX7_ordersOf 19 = .ok (.if_icmp .ge 72, 3) := by decide +kernel
theorem dX7_ordersOf_22 : decode cX7_ordersOf 22 = .ok (.iconst 0, 1) := by decide +kernel
theorem dX7_ordersOf_23 : decode cX7_ordersOf 23 = .ok (.istore 6, 2) := by decide +kernel
theorem dX7_ordersOf_25 : decode cX7_ordersOf 25 = .ok (.iload 6, 2) := by decide +kernel
theorem dX7_ordersOf_27 : decode cX7_ordersOf 27 = .ok (.aload_n 0, 1) := by decide +kernel
theorem dX7_ordersOf_28 : decode cX7_ordersOf 28 = .ok (.getfield 173, 3) := by decide +kernel
theorem dX7_ordersOf_31 : decode cX7_ordersOf 31 = .ok (.if_icmp .ge 54, 3) := by decide +kernel
theorem dX7_ordersOf_34 : decode cX7_ordersOf 34 = .ok (.aload_n 0, 1) := by decide +kernel
theorem dX7_ordersOf_35 : decode cX7_ordersOf 35 = .ok (.lload_n 1, 1) := by decide +kernel
theorem dX7_ordersOf_36 : decode cX7_ordersOf 36 = .ok (.iload 5, 2) := by decide +kernel
theorem dX7_ordersOf_38 : decode cX7_ordersOf 38 = .ok (.iload 6, 2) := by decide +kernel
theorem dX7_ordersOf_40 : decode cX7_ordersOf 40 = .ok (.invokevirtual 166, 3) := by decide +kernel
theorem dX7_ordersOf_43 : decode cX7_ordersOf 43 = .ok (.ifCond .le 42, 3) := by decide +kernel
theorem dX7_ordersOf_46 : decode cX7_ordersOf 46 = .ok (.aload_n 0, 1) := by decide +kernel
theorem dX7_ordersOf_47 : decode cX7_ordersOf 47 = .ok (.lload_n 1, 1) := by decide +kernel
theorem dX7_ordersOf_48 : decode cX7_ordersOf 48 = .ok (.iload 5, 2) := by decide +kernel
theorem dX7_ordersOf_50 : decode cX7_ordersOf 50 = .ok (.iload 6, 2) := by decide +kernel
theorem dX7_ordersOf_52 : decode cX7_ordersOf 52 = .ok (.invokevirtual 274, 3) := by decide +kernel
theorem dX7_ordersOf_55 : decode cX7_ordersOf 55 = .ok (.ifCond .eq 24, 3) := by decide +kernel
theorem dX7_ordersOf_58 : decode cX7_ordersOf 58 = .ok (.iload 4, 2) := by decide +kernel
theorem dX7_ordersOf_60 : decode cX7_ordersOf 60 = .ok (.aload_n 0, 1) := by decide +kernel
theorem dX7_ordersOf_61 : decode cX7_ordersOf 61 = .ok (.lload_n 1, 1) := by decide +kernel
theorem dX7_ordersOf_62 : decode cX7_ordersOf 62 = .ok (.iload 5, 2) := by decide +kernel
theorem dX7_ordersOf_64 : decode cX7_ordersOf 64 = .ok (.iload 6, 2) := by decide +kernel
theorem dX7_ordersOf_66 : decode cX7_ordersOf 66 = .ok (.invokestatic 262, 3) := by decide +kernel
theorem dX7_ordersOf_69 : decode cX7_ordersOf 69 = .ok (.lsub, 1) := by decide +kernel
theorem dX7_ordersOf_70 : decode cX7_ordersOf 70 = .ok (.iload_n 3, 1) := by decide +kernel
theorem dX7_ordersOf_71 : decode cX7_ordersOf 71 = .ok (.iconst 1, 1) := by decide +kernel
theorem dX7_ordersOf_72 : decode cX7_ordersOf 72 = .ok (.isub, 1) := by decide +kernel
theorem dX7_ordersOf_73 : decode cX7_ordersOf 73 = .ok (.invokestatic 207, 3) := by decide +kernel
theorem dX7_ordersOf_76 : decode cX7_ordersOf 76 = .ok (.iadd, 1) := by decide +kernel
theorem dX7_ordersOf_77 : decode cX7_ordersOf 77 = .ok (.istore 4, 2) := by decide +kernel
theorem dX7_ordersOf_79 : decode cX7_ordersOf 79 = .ok (.iinc 6 1, 3) := by decide +kernel
theorem dX7_ordersOf_82 : decode cX7_ordersOf 82 = .ok (.goto (-57), 3) := by decide +kernel
theorem dX7_ordersOf_85 : decode cX7_ordersOf 85 = .ok (.iinc 5 1, 3) := by decide +kernel
theorem dX7_ordersOf_88 : decode cX7_ordersOf 88 = .ok (.goto (-75), 3) := by decide +kernel
theorem dX7_ordersOf_91 : decode cX7_ordersOf 91 = .ok (.iload 4, 2) := by decide +kernel
theorem dX7_ordersOf_93 : decode cX7_ordersOf 93 = .ok (.ireturn, 1) := by decide +kernel
set_option maxRecDepth 20000 in
theorem ggX7_determinant_X7_choose : GoodIn wsX7_determinant wsX7_choose := goodIn_r _ [6] (by decide +kernel) (by decide +kernel)
set_option maxRecDepth 20000 in
theorem gX7_determinant_X7_choose : GoodIn wsX7_determinant (va_wsS RX7 278 yX7_choose wsX7_choose) := goodIn_app (goodIn_of _ (by decide +kernel)) ggX7_determinant_X7_choose
set_option maxRecDepth 20000 in
theorem ggX7_determinant_X7_determinant : GoodIn wsX7_determinant wsX7_determinant := goodIn_r _ [0, 1, 2, 3, 4, 5, 6, 7, 8, 9, 10, 11] (by decide +kernel) (by decide +kernel)
set_option maxRecDepth 20000 in
theorem gX7_determinant_X7_determinant : GoodIn wsX7_determinant (va_wsS RX7 213 yX7_determinant wsX7_determinant) := goodIn_app (goodIn_of _ (by decide +kernel)) ggX7_determinant_X7_determinant
theorem dX7_determinant_0 : decode cX7_determinant 0 = .ok (.iload_n 2, 1) := by decide +kernel
theorem dX7_determinant_1 : decode cX7_determinant 1 = .ok (.iload_n 1, 1) := by decide +kernel
theorem dX7_determinant_2 : decode cX7_determinant 2 = .ok (.if_icmp .lt 5, 3) := by decide +kernel
theorem dX7_determinant_5 : decode cX7_determinant 5 = .ok (.lconst 1, 1) := by decide +kernel
theorem dX7_determinant_6 : decode cX7_determinant 6 = .ok (.lreturn, 1) := by decide +kernel
theorem dX7_determinant_7 : decode cX7_determinant 7 = .ok (.lconst 0, 1) := by decide +kernel
theorem dX7_determinant_8 : decode cX7_determinant 8 = .ok (.lstore 4, 2) := by decide +kernel
theorem dX7_determinant_10 : decode cX7_determinant 10 = .ok (.iconst 1, 1) := by decide +kernel
theorem dX7_determinant_11 : decode cX7_determinant 11 = .ok (.istore 6, 2) := by decide +kernel
theorem dX7_determinant_13 : decode cX7_determinant 13 = .ok (.iconst 0, 1) := by decide +kernel
theorem dX7_determinant_14 : decode cX7_determinant 14 = .ok (.istore 7, 2) := by decide +kernel
theorem dX7_determinant_16 : decode cX7_determinant 16 = .ok (.iload 7, 2) := by decide +kernel
theorem dX7_determinant_18 : decode cX7_determinant 18 = .ok (.iload_n 1, 1) := by decide +kernel
theorem dX7_determinant_19 : decode cX7_determinant 19 = .ok (.if_icmp .ge 73, 3) := by decide +kernel
theorem dX7_determinant_22 : decode cX7_determinant 22 = .ok (.iload_n 3, 1) := by decide +kernel
theorem dX7_determinant_23 : decode cX7_determinant 23 = .ok (.iload 7, 2) := by decide +kernel
theorem dX7_determinant_25 : decode cX7_determinant 25 = .ok (.ishr, 1) := by decide +kernel
theorem dX7_determinant_26 : decode cX7_determinant 26 = .ok (.iconst 1, 1) := by decide +kernel
theorem dX7_determinant_27 : decode cX7_determinant 27 = .ok (.iand, 1) := by decide +kernel
theorem dX7_determinant_28 : decode cX7_determinant 28 = .ok (.ifCond .ne 58, 3) := by decide +kernel
theorem dX7_determinant_31 : decode cX7_determinant 31 = .ok (.aload_n 0, 1) := by decide +kernel
theorem dX7_determinant_32 : decode cX7_determinant 32 = .ok (.getfield 173, 3) := by decide +kernel
theorem dX7_determinant_35 : decode cX7_determinant 35 = .ok (.aload_n 0, 1) := by decide +kernel
theorem dX7_determinant_36 : decode cX7_determinant 36 = .ok (.getfield 176, 3) := by decide +kernel
theorem dX7_determinant_39 : decode cX7_determinant 39 = .ok (.iadd, 1) := by decide +kernel
theorem dX7_determinant_40 : decode cX7_determinant 40 = .ok (.aload_n 0, 1) := by decide +kernel
theorem dX7_determinant_41 : decode cX7_determinant 41 = .ok (.getfield 176, 3) := by decide +kernel
theorem dX7_determinant_44 : decode cX7_determinant 44 = .ok (.iload 7, 2) := by decide +kernel
theorem dX7_determinant_46 : decode cX7_determinant 46 = .ok (.iadd, 1) := by decide +kernel
theorem dX7_determinant_47 : decode cX7_determinant 47 = .ok (.iload_n 2, 1) := by decide +kernel
theorem dX7_determinant_48 : decode cX7_determinant 48 = .ok (.isub, 1) := by decide +kernel
theorem dX7_determinant_49 : decode cX7_determinant 49 = .ok (.invokestatic 278, 3) := by decide +kernel
theorem dX7_determinant_52 : decode cX7_determinant 52 = .ok (.i2l, 1) := by decide +kernel
theorem dX7_determinant_53 : decode cX7_determinant 53 = .ok (.lstore 8, 2) := by decide +kernel
theorem dX7_determinant_55 : decode cX7_determinant 55 = .ok (.lload 4, 2) := by decide +kernel
theorem dX7_determinant_57 : decode cX7_determinant 57 = .ok (.iload 6, 2) := by decide +kernel
theorem dX7_determinant_59 : decode cX7_determinant 59 = .ok (.i2l, 1) := by decide +kernel
theorem dX7_determinant_60 : decode cX7_determinant 60 = .ok (.lload 8, 2) := by decide +kernel
theorem dX7_determinant_62 : decode cX7_determinant 62 = .ok (.lmul, 1) := by decide +kernel
theorem dX7_determinant_63 : decode cX7_determinant 63 = .ok (.aload_n 0, 1) := by decide +kernel
theorem dX7_determinant_64 : decode cX7_determinant 64 = .ok (.iload_n 1, 1) := by decide +kernel
theorem dX7_determinant_65 : decode cX7_determinant 65 = .ok (.iload_n 2, 1) := by decide +kernel
theorem dX7_determinant_66 : decode cX7_determinant 66 = .ok (.iconst 1, 1) := by decide +kernel
theorem dX7_determinant_67 : decode cX7_determinant 67 = .ok (.iadd, 1) := by decide +kernel
theorem dX7_determinant_68 : decode cX7_determinant 68 = .ok (.iload_n 3, 1) := by decide +kernel
theorem dX7_determinant_69 : decode cX7_determinant 69 = .ok (.iconst 1, 1) := by decide +kernel
theorem dX7_determinant_70 : decode cX7_determinant 70 = .ok (.iload 7, 2) := by decide +kernel
theorem dX7_determinant_72 : decode cX7_determinant 72 = .ok (.ishl, 1) := by decide +kernel
theorem dX7_determinant_73 : decode cX7_determinant 73 = .ok (.ior, 1) := by decide +kernel
theorem dX7_determinant_74 : decode cX7_determinant 74 = .ok (.invokestatic 213, 3) := by decide +kernel
theorem dX7_determinant_77 : decode cX7_determinant 77 = .ok (.lmul, 1) := by decide +kernel
theorem dX7_determinant_78 : decode cX7_determinant 78 = .ok (.ladd, 1) := by decide +kernel
theorem dX7_determinant_79 : decode cX7_determinant 79 = .ok (.lstore 4, 2) := by decide +kernel
theorem dX7_determinant_81 : decode cX7_determinant 81 = .ok (.iload 6, 2) := by decide +kernel
theorem dX7_determinant_83 : decode cX7_determinant 83 = .ok (.ineg, 1) := by decide +kernel
theorem dX7_determinant_84 : decode cX7_determinant 84 = .ok (.istore 6, 2) := by decide +kernel
theorem dX7_determinant_86 : decode cX7_determinant 86 = .ok (.iinc 7 1, 3) := by decide +kernel
theorem dX7_determinant_89 : decode cX7_determinant 89 = .ok (.goto (-73), 3) := by decide +kernel
theorem dX7_determinant_92 : decode cX7_determinant 92 = .ok (.lload 4, 2) := by decide +kernel
theorem dX7_determinant_94 : decode cX7_determinant 94 = .ok (.lreturn, 1) := by decide +kernel
theorem dX7_choose_0 : decode cX7_choose 0 = .ok (.iload_n 1, 1) := by decide +kernel
theorem dX7_choose_1 : decode cX7_choose 1 = .ok (.ifCond .lt 8, 3) := by decide +kernel
theorem dX7_choose_4 : decode cX7_choose 4 = .ok (.iload_n 1, 1) := by decide +kernel
theorem dX7_choose_5 : decode cX7_choose 5 = .ok (.iload_n 0, 1) := by decide +kernel
theorem dX7_choose_6 : decode cX7_choose 6 = .ok (.if_icmp .le 5, 3) := by decide +kernel
theorem dX7_choose_9 : decode cX7_choose 9 = .ok (.iconst 0, 1) := by decide +kernel
theorem dX7_choose_10 : decode cX7_choose 10 = .ok (.ireturn, 1) := by decide +kernel
theorem dX7_choose_11 : decode cX7_choose 11 = .ok (.iconst 1, 1) := by decide +kernel
theorem dX7_choose_12 : decode cX7_choose 12 = .ok (.istore_n 2, 1) := by decide +kernel
theorem dX7_choose_13 : decode cX7_choose 13 = .ok (.iconst 1, 1) := by decide +kernel
theorem dX7_choose_14 : decode cX7_choose 14 = .ok (.istore_n 3, 1) := by decide +kernel
theorem dX7_choose_15 : decode cX7_choose 15 = .ok (.iload_n 3, 1) := by decide +kernel
theorem dX7_choose_16 : decode cX7_choose 16 = .ok (.iload_n 1, 1) := by decide +kernel
theorem dX7_choose_17 : decode cX7_choose 17 = .ok (.if_icmp .gt 19, 3) := by decide +kernel
theorem dX7_choose_20 : decode cX7_choose 20 = .ok (.iload_n 2, 1) := by decide +kernel
theorem dX7_choose_21 : decode cX7_choose 21 = .ok (.iload_n 0, 1) := by decide +kernel
theorem dX7_choose_22 : decode cX7_choose 22 = .ok (.iload_n 1, 1) := by decide +kernel
theorem dX7_choose_23 : decode cX7_choose 23 = .ok (.isub, 1) := by decide +kernel
theorem dX7_choose_24 : decode cX7_choose 24 = .ok (.iload_n 3, 1) := by decide +kernel
theorem dX7_choose_25 : decode cX7_choose 25 = .ok (.iadd, 1) := by decide +kernel
theorem dX7_choose_26 : decode cX7_choose 26 = .ok (.imul, 1) := by decide +kernel
theorem dX7_choose_27 : decode cX7_choose 27 = .ok (.iload_n 3, 1) := by decide +kernel
theorem dX7_choose_28 : decode cX7_choose 28 = .ok (.idiv, 1) := by decide +kernel
theorem dX7_choose_29 : decode cX7_choose 29 = .ok (.istore_n 2, 1) := by decide +kernel
theorem dX7_choose_30 : decode cX7_choose 30 = .ok (.iinc 3 1, 3) := by decide +kernel
theorem dX7_choose_33 : decode cX7_choose 33 = .ok (.goto (-18), 3) := by decide +kernel
theorem dX7_choose_36 : decode cX7_choose 36 = .ok (.iload_n 2, 1) := by decide +kernel
theorem dX7_choose_37 : decode cX7_choose 37 = .ok (.ireturn, 1) := by decide +kernel
set_option maxRecDepth 20000 in
theorem ggX7_heapsOfVolume_J7_fill_d0a16 : GoodIn wsX7_heapsOfVolume wsJ7_fill_d0a16 := goodIn_r _ [12] (by decide +kernel) (by decide +kernel)
set_option maxRecDepth 20000 in
theorem gX7_heapsOfVolume_J7_fill_d0a16 : GoodIn wsX7_heapsOfVolume (va_wsS RX7 284 yJ7_fill_d0a16 wsJ7_fill_d0a16) := goodIn_app (goodIn_of _ (by decide +kernel)) ggX7_heapsOfVolume_J7_fill_d0a16
theorem dX7_heapsOfVolume_0 : decode cX7_heapsOfVolume 0 = .ok (.iload_n 2, 1) := by decide +kernel
theorem dX7_heapsOfVolume_1 : decode cX7_heapsOfVolume 1 = .ok (.bipush 48, 2) := by decide +kernel
theorem dX7_heapsOfVolume_3 : decode cX7_heapsOfVolume 3 = .ok (.invokestatic 281, 3) := by decide +kernel
theorem dX7_heapsOfVolume_6 : decode cX7_heapsOfVolume 6 = .ok (.istore_n 3, 1) := by decide +kernel
theorem dX7_heapsOfVolume_7 : decode cX7_heapsOfVolume 7 = .ok (.aload_n 0, 1) := by decide +kernel
theorem dX7_heapsOfVolume_8 : decode cX7_heapsOfVolume 8 = .ok (.getfield 56, 3) := by decide +kernel
theorem dX7_heapsOfVolume_11 : decode cX7_heapsOfVolume 11 = .ok (.lconst 0, 1) := by decide +kernel
theorem dX7_heapsOfVolume_12 : decode cX7_heapsOfVolume 12 = .ok (.invokestatic 284, 3) := by decide +kernel
theorem dX7_heapsOfVolume_15 : decode cX7_heapsOfVolume 15 = .ok (.aload_n 0, 1) := by decide +kernel
theorem dX7_heapsOfVolume_16 : decode cX7_heapsOfVolume 16 = .ok (.getfield 56, 3) := by decide +kernel
theorem dX7_heapsOfVolume_19 : decode cX7_heapsOfVolume 19 = .ok (.iconst 0, 1) := by decide +kernel
theorem dX7_heapsOfVolume_20 : decode cX7_heapsOfVolume 20 = .ok (.lconst 1, 1) := by decide +kernel
theorem dX7_heapsOfVolume_21 : decode cX7_heapsOfVolume 21 = .ok (.lastore, 1) := by decide +kernel
theorem dX7_heapsOfVolume_22 : decode cX7_heapsOfVolume 22 = .ok (.iconst 1, 1) := by decide +kernel
theorem dX7_heapsOfVolume_23 : decode cX7_heapsOfVolume 23 = .ok (.istore 4, 2) := by decide +kernel
theorem dX7_heapsOfVolume_25 : decode cX7_heapsOfVolume 25 = .ok (.iload 4, 2) := by decide +kernel
theorem dX7_heapsOfVolume_27 : decode cX7_heapsOfVolume 27 = .ok (.aload_n 1, 1) := by decide +kernel
theorem dX7_heapsOfVolume_28 : decode cX7_heapsOfVolume 28 = .ok (.getfield 170, 3) := by decide +kernel
theorem dX7_heapsOfVolume_31 : decode cX7_heapsOfVolume 31 = .ok (.if_icmp .gt 122, 3) := by decide +kernel
theorem dX7_heapsOfVolume_34 : decode cX7_heapsOfVolume 34 = .ok (.iconst 1, 1) := by decide +kernel
theorem dX7_heapsOfVolume_35 : decode cX7_heapsOfVolume 35 = .ok (.istore 5, 2) := by decide +kernel
theorem dX7_heapsOfVolume_37 : decode cX7_heapsOfVolume 37 = .ok (.iload 5, 2) := by decide +kernel
theorem dX7_heapsOfVolume_39 : decode cX7_heapsOfVolume 39 = .ok (.aload_n 1, 1) := by decide +kernel
theorem dX7_heapsOfVolume_40 : decode cX7_heapsOfVolume 40 = .ok (.getfield 173, 3) := by decide +kernel
theorem dX7_heapsOfVolume_43 : decode cX7_heapsOfVolume 43 = .ok (.if_icmp .gt 104, 3) := by decide +kernel
theorem dX7_heapsOfVolume_46 : decode cX7_heapsOfVolume 46 = .ok (.iload 4, 2) := by decide +kernel
theorem dX7_heapsOfVolume_48 : decode cX7_heapsOfVolume 48 = .ok (.iload 5, 2) := by decide +kernel
theorem dX7_heapsOfVolume_50 : decode cX7_heapsOfVolume 50 = .ok (.iadd, 1) := by decide +kernel
theorem dX7_heapsOfVolume_51 : decode cX7_heapsOfVolume 51 = .ok (.aload_n 1, 1) := by decide +kernel
theorem dX7_heapsOfVolume_52 : decode cX7_heapsOfVolume 52 = .ok (.getfield 176, 3) := by decide +kernel
theorem dX7_heapsOfVolume_55 : decode cX7_heapsOfVolume 55 = .ok (.iadd, 1) := by decide +kernel
theorem dX7_heapsOfVolume_56 : decode cX7_heapsOfVolume 56 = .ok (.iconst 1, 1) := by decide +kernel
theorem dX7_heapsOfVolume_57 : decode cX7_heapsOfVolume 57 = .ok (.isub, 1) := by decide +kernel
theorem dX7_heapsOfVolume_58 : decode cX7_heapsOfVolume 58 = .ok (.istore 6, 2) := by decide +kernel
theorem dX7_heapsOfVolume_60 : decode cX7_heapsOfVolume 60 = .ok (.iload_n 3, 1) := by decide +kernel
theorem dX7_heapsOfVolume_61 : decode cX7_heapsOfVolume 61 = .ok (.istore 7, 2) := by decide +kernel
theorem dX7_heapsOfVolume_63 : decode cX7_heapsOfVolume 63 = .ok (.iload 7, 2) := by decide +kernel
theorem dX7_heapsOfVolume_65 : decode cX7_heapsOfVolume 65 = .ok (.iload 6, 2) := by decide +kernel
theorem dX7_heapsOfVolume_67 : decode cX7_heapsOfVolume 67 = .ok (.if_icmp .lt 29, 3) := by decide +kernel
theorem dX7_heapsOfVolume_70 : decode cX7_heapsOfVolume 70 = .ok (.aload_n 0, 1) := by decide +kernel
theorem dX7_heapsOfVolume_71 : decode cX7_heapsOfVolume 71 = .ok (.getfield 56, 3) := by decide +kernel
theorem dX7_heapsOfVolume_74 : decode cX7_heapsOfVolume 74 = .ok (.iload 7, 2) := by decide +kernel
theorem dX7_heapsOfVolume_76 : decode cX7_heapsOfVolume 76 = .ok (.dup2, 1) := by decide +kernel
theorem dX7_heapsOfVolume_77 : decode cX7_heapsOfVolume 77 = .ok (.laload, 1) := by decide +kernel
theorem dX7_heapsOfVolume_78 : decode cX7_heapsOfVolume 78 = .ok (.aload_n 0, 1) := by decide +kernel
theorem dX7_heapsOfVolume_79 : decode cX7_heapsOfVolume 79 = .ok (.getfield 56, 3) := by decide +kernel
theorem dX7_heapsOfVolume_82 : decode cX7_heapsOfVolume 82 = .ok (.iload 7, 2) := by decide +kernel
theorem dX7_heapsOfVolume_84 : decode cX7_heapsOfVolume 84 = .ok (.iload 6, 2) := by decide +kernel
theorem dX7_heapsOfVolume_86 : decode cX7_heapsOfVolume 86 = .ok (.isub, 1) := by decide +kernel
theorem dX7_heapsOfVolume_87 : decode cX7_heapsOfVolume 87 = .ok (.laload, 1) := by decide +kernel
theorem dX7_heapsOfVolume_88 : decode cX7_heapsOfVolume 88 = .ok (.lsub, 1) := by decide +kernel
theorem dX7_heapsOfVolume_89 : decode cX7_heapsOfVolume 89 = .ok (.lastore, 1) := by decide +kernel
theorem dX7_heapsOfVolume_90 : decode cX7_heapsOfVolume 90 = .ok (.iinc 7 (-1), 3) := by decide +kernel
theorem dX7_heapsOfVolume_93 : decode cX7_heapsOfVolume 93 = .ok (.goto (-30), 3) := by decide +kernel
theorem dX7_heapsOfVolume_96 : decode cX7_heapsOfVolume 96 = .ok (.iload 4, 2) := by decide +kernel
theorem dX7_heapsOfVolume_98 : decode cX7_heapsOfVolume 98 = .ok (.iload 5, 2) := by decide +kernel
theorem dX7_heapsOfVolume_100 : decode cX7_heapsOfVolume 100 = .ok (.iadd, 1) := by decide +kernel
theorem dX7_heapsOfVolume_101 : decode cX7_heapsOfVolume 101 = .ok (.iconst 1, 1) := by decide +kernel
theorem dX7_heapsOfVolume_102 : decode cX7_heapsOfVolume 102 = .ok (.isub, 1) := by decide +kernel
theorem dX7_heapsOfVolume_103 : decode cX7_heapsOfVolume 103 = .ok (.istore 7, 2) := by decide +kernel
theorem dX7_heapsOfVolume_105 : decode cX7_heapsOfVolume 105 = .ok (.iload 7, 2) := by decide +kernel
theorem dX7_heapsOfVolume_107 : decode cX7_heapsOfVolume 107 = .ok (.istore 8, 2) := by decide +kernel
theorem dX7_heapsOfVolume_109 : decode cX7_heapsOfVolume 109 = .ok (.iload 8, 2) := by decide +kernel
theorem dX7_heapsOfVolume_111 : decode cX7_heapsOfVolume 111 = .ok (.iload_n 3, 1) := by decide +kernel
theorem dX7_heapsOfVolume_112 : decode cX7_heapsOfVolume 112 = .ok (.if_icmp .gt 29, 3) := by decide +kernel
theorem dX7_heapsOfVolume_115 : decode cX7_heapsOfVolume 115 = .ok (.aload_n 0, 1) := by decide +kernel
theorem dX7_heapsOfVolume_116 : decode cX7_heapsOfVolume 116 = .ok (.getfield 56, 3) := by decide +kernel
theorem dX7_heapsOfVolume_119 : decode cX7_heapsOfVolume 119 = .ok (.iload 8, 2) := by decide +kernel
theorem dX7_heapsOfVolume_121 : decode cX7_heapsOfVolume 121 = .ok (.dup2, 1) := by decide +kernel
theorem dX7_heapsOfVolume_122 : decode cX7_heapsOfVolume 122 = .ok (.laload, 1) := by decide +kernel
theorem dX7_heapsOfVolume_123 : decode cX7_heapsOfVolume 123 = .ok (.aload_n 0, 1) := by decide +kernel
theorem dX7_heapsOfVolume_124 : decode cX7_heapsOfVolume 124 = .ok (.getfield 56, 3) := by decide +kernel
theorem dX7_heapsOfVolume_127 : decode cX7_heapsOfVolume 127 = .ok (.iload 8, 2) := by decide +kernel
theorem dX7_heapsOfVolume_129 : decode cX7_heapsOfVolume 129 = .ok (.iload 7, 2) := by decide +kernel
theorem dX7_heapsOfVolume_131 : decode cX7_heapsOfVolume 131 = .ok (.isub, 1) := by decide +kernel
theorem dX7_heapsOfVolume_132 : decode cX7_heapsOfVolume 132 = .ok (.laload, 1) := by decide +kernel
theorem dX7_heapsOfVolume_133 : decode cX7_heapsOfVolume 133 = .ok (.ladd, 1) := by decide +kernel
theorem dX7_heapsOfVolume_134 : decode cX7_heapsOfVolume 134 = .ok (.lastore, 1) := by decide +kernel
theorem dX7_heapsOfVolume_135 : decode cX7_heapsOfVolume 135 = .ok (.iinc 8 1, 3) := by decide +kernel
theorem dX7_heapsOfVolume_138 : decode cX7_heapsOfVolume 138 = .ok (.goto (-29), 3) := by decide +kernel
theorem dX7_heapsOfVolume_141 : decode cX7_heapsOfVolume 141 = .ok (.iinc 5 1, 3) := by decide +kernel
theorem dX7_heapsOfVolume_144 : decode cX7_heapsOfVolume 144 = .ok (.goto (-107), 3) := by decide +kernel
theorem dX7_heapsOfVolume_147 : decode cX7_heapsOfVolume 147 = .ok (.iinc 4 1, 3) := by decide +kernel
theorem dX7_heapsOfVolume_150 : decode cX7_heapsOfVolume 150 = .ok (.goto (-125), 3) := by decide +kernel
theorem dX7_heapsOfVolume_153 : decode cX7_heapsOfVolume 153 = .ok (.aload_n 0, 1) := by decide +kernel
theorem dX7_heapsOfVolume_154 : decode cX7_heapsOfVolume 154 = .ok (.getfield 56, 3) := by decide +kernel
theorem dX7_heapsOfVolume_157 : decode cX7_heapsOfVolume 157 = .ok (.iload_n 3, 1) := by decide +kernel
theorem dX7_heapsOfVolume_158 : decode cX7_heapsOfVolume 158 = .ok (.laload, 1) := by decide +kernel
theorem dX7_heapsOfVolume_159 : decode cX7_heapsOfVolume 159 = .ok (.l2i, 1) := by decide +kernel
theorem dX7_heapsOfVolume_160 : decode cX7_heapsOfVolume 160 = .ok (.ireturn, 1) := by decide +kernel
