theorem dX0_init_0 : decode cX0_init 0 = .ok (.aload_n 0, 1) := by decide +kernel
theorem dX0_init_1 : decode cX0_init 1 = .ok (.invokespecial 3, 3) := by decide +kernel
theorem dX0_init_4 : decode cX0_init 4 = .ok (.aload_n 0, 1) := by decide +kernel
theorem dX0_init_5 : decode cX0_init 5 = .ok (.iload_n 1, 1) := by decide +kernel
theorem dX0_init_6 : decode cX0_init 6 = .ok (.putfield 9, 3) := by decide +kernel
theorem dX0_init_9 : decode cX0_init 9 = .ok (.aload_n 0, 1) := by decide +kernel
theorem dX0_init_10 : decode cX0_init 10 = .ok (.iload_n 2, 1) := by decide +kernel
theorem dX0_init_11 : decode cX0_init 11 = .ok (.putfield 15, 3) := by decide +kernel
theorem dX0_init_14 : decode cX0_init 14 = .ok (.aload_n 0, 1) := by decide +kernel
theorem dX0_init_15 : decode cX0_init 15 = .ok (.iload_n 3, 1) := by decide +kernel
theorem dX0_init_16 : decode cX0_init 16 = .ok (.putfield 18, 3) := by decide +kernel
theorem dX0_init_19 : decode cX0_init 19 = .ok (.return_, 1) := by decide +kernel
set_option maxRecDepth 20000 in
theorem ggX0_inRange_X0_isSide : GoodIn wsX0_inRange wsX0_isSide := goodIn_r _ [4] (by decide +kernel) (by decide +kernel)
set_option maxRecDepth 20000 in
theorem gX0_inRange_X0_isSide : GoodIn wsX0_inRange (va_wsS RX0 21 yX0_isSide wsX0_isSide) := goodIn_app (goodIn_of _ (by decide +kernel)) ggX0_inRange_X0_isSide
theorem dX0_inRange_0 : decode cX0_inRange 0 = .ok (.iload_n 0, 1) := by decide +kernel
theorem dX0_inRange_1 : decode cX0_inRange 1 = .ok (.invokestatic 21, 3) := by decide +kernel
theorem dX0_inRange_4 : decode cX0_inRange 4 = .ok (.ifCond .eq 31, 3) := by decide +kernel
theorem dX0_inRange_7 : decode cX0_inRange 7 = .ok (.iload_n 1, 1) := by decide +kernel
theorem dX0_inRange_8 : decode cX0_inRange 8 = .ok (.invokestatic 21, 3) := by decide +kernel
theorem dX0_inRange_11 : decode cX0_inRange 11 = .ok (.ifCond .eq 24, 3) := by decide +kernel
theorem dX0_inRange_14 : decode cX0_inRange 14 = .ok (.iload_n 2, 1) := by decide +kernel
theorem dX0_inRange_15 : decode cX0_inRange 15 = .ok (.invokestatic 21, 3) := by decide +kernel
theorem dX0_inRange_18 : decode cX0_inRange 18 = .ok (.ifCond .eq 17, 3) := by decide +kernel
theorem dX0_inRange_21 : decode cX0_inRange 21 = .ok (.iload_n 0, 1) := by decide +kernel
theorem dX0_inRange_22 : decode cX0_inRange 22 = .ok (.iload_n 1, 1) := by decide +kernel
theorem dX0_inRange_23 : decode cX0_inRange 23 = .ok (.imul, 1) := by decide +kernel
theorem dX0_inRange_24 : decode cX0_inRange 24 = .ok (.iload_n 2, 1) := by decide +kernel
theorem dX0_inRange_25 : decode cX0_inRange 25 = .ok (.imul, 1) := by decide +kernel
theorem dX0_inRange_26 : decode cX0_inRange 26 = .ok (.bipush 48, 2) := by decide +kernel
theorem dX0_inRange_28 : decode cX0_inRange 28 = .ok (.if_icmp .gt 7, 3) := by decide +kernel
theorem dX0_inRange_31 : decode cX0_inRange 31 = .ok (.iconst 1, 1) := by decide +kernel
theorem dX0_inRange_32 : decode cX0_inRange 32 = .ok (.goto 4, 3) := by decide +kernel
theorem dX0_inRange_35 : decode cX0_inRange 35 = .ok (.iconst 0, 1) := by decide +kernel
theorem dX0_inRange_36 : decode cX0_inRange 36 = .ok (.ireturn, 1) := by decide +kernel
theorem dX0_isSide_0 : decode cX0_isSide 0 = .ok (.iload_n 0, 1) := by decide +kernel
theorem dX0_isSide_1 : decode cX0_isSide 1 = .ok (.iconst 1, 1) := by decide +kernel
theorem dX0_isSide_2 : decode cX0_isSide 2 = .ok (.if_icmp .lt 12, 3) := by decide +kernel
theorem dX0_isSide_5 : decode cX0_isSide 5 = .ok (.iload_n 0, 1) := by decide +kernel
theorem dX0_isSide_6 : decode cX0_isSide 6 = .ok (.iconst 4, 1) := by decide +kernel
theorem dX0_isSide_7 : decode cX0_isSide 7 = .ok (.if_icmp .gt 7, 3) := by decide +kernel
theorem dX0_isSide_10 : decode cX0_isSide 10 = .ok (.iconst 1, 1) := by decide +kernel
theorem dX0_isSide_11 : decode cX0_isSide 11 = .ok (.goto 4, 3) := by decide +kernel
theorem dX0_isSide_14 : decode cX0_isSide 14 = .ok (.iconst 0, 1) := by decide +kernel
theorem dX0_isSide_15 : decode cX0_isSide 15 = .ok (.ireturn, 1) := by decide +kernel
set_option maxRecDepth 20000 in
theorem ggX0_of_X0_inRange : GoodIn wsX0_of wsX0_inRange := goodIn_r _ [6, 7, 8, 3, 9] (by decide +kernel) (by decide +kernel)
set_option maxRecDepth 20000 in
theorem gX0_of_X0_inRange : GoodIn wsX0_of (va_wsS RX0 25 yX0_inRange wsX0_inRange) := goodIn_app (goodIn_of _ (by decide +kernel)) ggX0_of_X0_inRange
set_option maxRecDepth 20000 in
theorem ggX0_of_X0_init : GoodIn wsX0_of wsX0_init := goodIn_r _ [12, 13, 14, 15, 16, 17, 18, 19, 20, 21] (by decide +kernel) (by decide +kernel)
set_option maxRecDepth 20000 in
theorem gX0_of_X0_init : GoodIn wsX0_of (wsX0_init) := ggX0_of_X0_init
theorem dX0_of_0 : decode cX0_of 0 = .ok (.iload_n 0, 1) := by decide +kernel
theorem dX0_of_1 : decode cX0_of 1 = .ok (.iload_n 1, 1) := by decide +kernel
theorem dX0_of_2 : decode cX0_of 2 = .ok (.iload_n 2, 1) := by decide +kernel
theorem dX0_of_3 : decode cX0_of 3 = .ok (.invokestatic 25, 3) := by decide +kernel
theorem dX0_of_6 : decode cX0_of 6 = .ok (.ifCond .eq 16, 3) := by decide +kernel
theorem dX0_of_9 : decode cX0_of 9 = .ok (.new 10, 3) := by decide +kernel
theorem dX0_of_12 : decode cX0_of 12 = .ok (.dup, 1) := by decide +kernel
theorem dX0_of_13 : decode cX0_of 13 = .ok (.iload_n 0, 1) := by decide +kernel
theorem dX0_of_14 : decode cX0_of 14 = .ok (.iload_n 1, 1) := by decide +kernel
theorem dX0_of_15 : decode cX0_of 15 = .ok (.iload_n 2, 1) := by decide +kernel
theorem dX0_of_16 : decode cX0_of 16 = .ok (.invokespecial 29, 3) := by decide +kernel
theorem dX0_of_19 : decode cX0_of 19 = .ok (.goto 4, 3) := by decide +kernel
theorem dX0_of_22 : decode cX0_of 22 = .ok (.aconst_null, 1) := by decide +kernel
theorem dX0_of_23 : decode cX0_of 23 = .ok (.areturn, 1) := by decide +kernel
theorem dX0_cube_0 : decode cX0_cube 0 = .ok (.lconst 1, 1) := by decide +kernel
theorem dX0_cube_1 : decode cX0_cube 1 = .ok (.bipush 60, 2) := by decide +kernel
theorem dX0_cube_3 : decode cX0_cube 3 = .ok (.bipush 16, 2) := by decide +kernel
theorem dX0_cube_5 : decode cX0_cube 5 = .ok (.iload_n 0, 1) := by decide +kernel
theorem dX0_cube_6 : decode cX0_cube 6 = .ok (.imul, 1) := by decide +kernel
theorem dX0_cube_7 : decode cX0_cube 7 = .ok (.isub, 1) := by decide +kernel
theorem dX0_cube_8 : decode cX0_cube 8 = .ok (.iconst 4, 1) := by decide +kernel
theorem dX0_cube_9 : decode cX0_cube 9 = .ok (.iload_n 1, 1) := by decide +kernel
theorem dX0_cube_10 : decode cX0_cube 10 = .ok (.imul, 1) := by decide +kernel
theorem dX0_cube_11 : decode cX0_cube 11 = .ok (.isub, 1) := by decide +kernel
theorem dX0_cube_12 : decode cX0_cube 12 = .ok (.lshl, 1) := by decide +kernel
theorem dX0_cube_13 : decode cX0_cube 13 = .ok (.lreturn, 1) := by decide +kernel
theorem dX0_rowIn_0 : decode cX0_rowIn 0 = .ok (.lload_n 0, 1) := by decide +kernel
theorem dX0_rowIn_1 : decode cX0_rowIn 1 = .ok (.bipush 48, 2) := by decide +kernel
theorem dX0_rowIn_3 : decode cX0_rowIn 3 = .ok (.bipush 16, 2) := by decide +kernel
theorem dX0_rowIn_5 : decode cX0_rowIn 5 = .ok (.iload_n 2, 1) := by decide +kernel
theorem dX0_rowIn_6 : decode cX0_rowIn 6 = .ok (.imul, 1) := by decide +kernel
theorem dX0_rowIn_7 : decode cX0_rowIn 7 = .ok (.isub, 1) := by decide +kernel
theorem dX0_rowIn_8 : decode cX0_rowIn 8 = .ok (.lushr, 1) := by decide +kernel
theorem dX0_rowIn_9 : decode cX0_rowIn 9 = .ok (.l2i, 1) := by decide +kernel
theorem dX0_rowIn_10 : decode cX0_rowIn 10 = .ok (.ldc 32, 2) := by decide +kernel
theorem dX0_rowIn_12 : decode cX0_rowIn 12 = .ok (.iand, 1) := by decide +kernel
theorem dX0_rowIn_13 : decode cX0_rowIn 13 = .ok (.ireturn, 1) := by decide +kernel
theorem dX0_withRow_0 : decode cX0_withRow 0 = .ok (.lload_n 0, 1) := by decide +kernel
theorem dX0_withRow_1 : decode cX0_withRow 1 = .ok (.iload_n 3, 1) := by decide +kernel
theorem dX0_withRow_2 : decode cX0_withRow 2 = .ok (.i2l, 1) := by decide +kernel
theorem dX0_withRow_3 : decode cX0_withRow 3 = .ok (.bipush 48, 2) := by decide +kernel
theorem dX0_withRow_5 : decode cX0_withRow 5 = .ok (.bipush 16, 2) := by decide +kernel
theorem dX0_withRow_7 : decode cX0_withRow 7 = .ok (.iload_n 2, 1) := by decide +kernel
theorem dX0_withRow_8 : decode cX0_withRow 8 = .ok (.imul, 1) := by decide +kernel
theorem dX0_withRow_9 : decode cX0_withRow 9 = .ok (.isub, 1) := by decide +kernel
theorem dX0_withRow_10 : decode cX0_withRow 10 = .ok (.lshl, 1) := by decide +kernel
theorem dX0_withRow_11 : decode cX0_withRow 11 = .ok (.lor, 1) := by decide +kernel
theorem dX0_withRow_12 : decode cX0_withRow 12 = .ok (.lreturn, 1) := by decide +kernel
theorem dX0_heightInRow_0 : decode cX0_heightInRow 0 = .ok (.iload_n 0, 1) := by decide +kernel
theorem dX0_heightInRow_1 : decode cX0_heightInRow 1 = .ok (.bipush 12, 2) := by decide +kernel
theorem dX0_heightInRow_3 : decode cX0_heightInRow 3 = .ok (.iconst 4, 1) := by decide +kernel
theorem dX0_heightInRow_4 : decode cX0_heightInRow 4 = .ok (.iload_n 1, 1) := by decide +kernel
theorem dX0_heightInRow_5 : decode cX0_heightInRow 5 = .ok (.imul, 1) := by decide +kernel
theorem dX0_heightInRow_6 : decode cX0_heightInRow 6 = .ok (.isub, 1) := by decide +kernel
theorem dX0_heightInRow_7 : decode cX0_heightInRow 7 = .ok (.ishr, 1) := by decide +kernel
theorem dX0_heightInRow_8 : decode cX0_heightInRow 8 = .ok (.bipush 15, 2) := by decide +kernel
theorem dX0_heightInRow_10 : decode cX0_heightInRow 10 = .ok (.iand, 1) := by decide +kernel
theorem dX0_heightInRow_11 : decode cX0_heightInRow 11 = .ok (.ireturn, 1) := by decide +kernel
theorem dX0_volume_0 : decode cX0_volume 0 = .ok (.iconst 0, 1) := by decide +kernel
theorem dX0_volume_1 : decode cX0_volume 1 = .ok (.istore_n 2, 1) := by decide +kernel
theorem dX0_volume_2 : decode cX0_volume 2 = .ok (.iconst 0, 1) := by decide +kernel
theorem dX0_volume_3 : decode cX0_volume 3 = .ok (.istore_n 3, 1) := by decide +kernel
theorem dX0_volume_4 : decode cX0_volume 4 = .ok (.iload_n 3, 1) := by decide +kernel
theorem dX0_volume_5 : decode cX0_volume 5 = .ok (.bipush 64, 2) := by decide +kernel
theorem dX0_volume_7 : decode cX0_volume 7 = .ok (.if_icmp .ge 19, 3) := by decide +kernel
theorem dX0_volume_10 : decode cX0_volume 10 = .ok (.iload_n 2, 1) := by decide +kernel
theorem dX0_volume_11 : decode cX0_volume 11 = .ok (.lload_n 0, 1) := by decide +kernel
theorem dX0_volume_12 : decode cX0_volume 12 = .ok (.iload_n 3, 1) := by decide +kernel
theorem dX0_volume_13 : decode cX0_volume 13 = .ok (.lushr, 1) := by decide +kernel
theorem dX0_volume_14 : decode cX0_volume 14 = .ok (.l2i, 1) := by decide +kernel
theorem dX0_volume_15 : decode cX0_volume 15 = .ok (.bipush 15, 2) := by decide +kernel
theorem dX0_volume_17 : decode cX0_volume 17 = .ok (.iand, 1) := by decide +kernel
theorem dX0_volume_18 : decode cX0_volume 18 = .ok (.iadd, 1) := by decide +kernel
theorem dX0_volume_19 : decode cX0_volume 19 = .ok (.istore_n 2, 1) := by decide +kernel
theorem dX0_volume_20 : decode cX0_volume 20 = .ok (.iinc 3 4, 3) := by decide +kernel
theorem dX0_volume_23 : decode cX0_volume 23 = .ok (.goto (-19), 3) := by decide +kernel
theorem dX0_volume_26 : decode cX0_volume 26 = .ok (.iload_n 2, 1) := by decide +kernel
theorem dX0_volume_27 : decode cX0_volume 27 = .ok (.ireturn, 1) := by decide +kernel
theorem dX0_sameAs_0 : decode cX0_sameAs 0 = .ok (.aload_n 0, 1) := by decide +kernel
theorem dX0_sameAs_1 : decode cX0_sameAs 1 = .ok (.getfield 9, 3) := by decide +kernel
theorem dX0_sameAs_4 : decode cX0_sameAs 4 = .ok (.aload_n 1, 1) := by decide +kernel
theorem dX0_sameAs_5 : decode cX0_sameAs 5 = .ok (.getfield 9, 3) := by decide +kernel
theorem dX0_sameAs_8 : decode cX0_sameAs 8 = .ok (.if_icmp .ne 29, 3) := by decide +kernel
theorem dX0_sameAs_11 : decode cX0_sameAs 11 = .ok (.aload_n 0, 1) := by decide +kernel
theorem dX0_sameAs_12 : decode cX0_sameAs 12 = .ok (.getfield 15, 3) := by decide +kernel
theorem dX0_sameAs_15 : decode cX0_sameAs 15 = .ok (.aload_n 1, 1) := by decide +kernel
theorem dX0_sameAs_16 : decode cX0_sameAs 16 = .ok (.getfield 15, 3) := by decide +kernel
theorem dX0_sameAs_19 : decode cX0_sameAs 19 = .ok (.if_icmp .ne 18, 3) := by decide +kernel
theorem dX0_sameAs_22 : decode cX0_sameAs 22 = .ok (.aload_n 0, 1) := by decide +kernel
theorem dX0_sameAs_23 : decode cX0_sameAs 23 = .ok (.getfield 18, 3) := by decide +kernel
theorem dX0_sameAs_26 : decode cX0_sameAs 26 = .ok (.aload_n 1, 1) := by decide +kernel
theorem dX0_sameAs_27 : decode cX0_sameAs 27 = .ok (.getfield 18, 3) := by decide +kernel
theorem dX0_sameAs_30 : decode cX0_sameAs 30 = .ok (.if_icmp .ne 7, 3) := by decide +kernel
theorem dX0_sameAs_33 : decode cX0_sameAs 33 = .ok (.iconst 1, 1) := by decide +kernel
theorem dX0_sameAs_34 : decode cX0_sameAs 34 = .ok (.goto 4, 3) := by decide +kernel
theorem dX0_sameAs_37 : decode cX0_sameAs 37 = .ok (.iconst 0, 1) := by decide +kernel
theorem dX0_sameAs_38 : decode cX0_sameAs 38 = .ok (.ireturn, 1) := by decide +kernel
theorem dX0_hasCell_0 : decode cX0_hasCell 0 = .ok (.iload_n 1, 1) := by decide +kernel
theorem dX0_hasCell_1 : decode cX0_hasCell 1 = .ok (.ifCond .lt 27, 3) := by decide +kernel
theorem dX0_hasCell_4 : decode cX0_hasCell 4 = .ok (.iload_n 1, 1) := by decide +kernel
theorem dX0_hasCell_5 : decode cX0_hasCell 5 = .ok (.aload_n 0, 1) := by decide +kernel
theorem dX0_hasCell_6 : decode cX0_hasCell 6 = .ok (.getfield 9, 3) := by decide +kernel
theorem dX0_hasCell_9 : decode cX0_hasCell 9 = .ok (.if_icmp .ge 19, 3) := by decide +kernel
theorem dX0_hasCell_12 : decode cX0_hasCell 12 = .ok (.iload_n 2, 1) := by decide +kernel
theorem dX0_hasCell_13 : decode cX0_hasCell 13 = .ok (.ifCond .lt 15, 3) := by decide +kernel
theorem dX0_hasCell_16 : decode cX0_hasCell 16 = .ok (.iload_n 2, 1) := by decide +kernel
theorem dX0_hasCell_17 : decode cX0_hasCell 17 = .ok (.aload_n 0, 1) := by decide +kernel
theorem dX0_hasCell_18 : decode cX0_hasCell 18 = .ok (.getfield 15, 3) := by decide +kernel
theorem dX0_hasCell_21 : decode cX0_hasCell 21 = .ok (.if_icmp .ge 7, 3) := by decide +kernel
theorem dX0_hasCell_24 : decode cX0_hasCell 24 = .ok (.iconst 1, 1) := by decide +kernel
theorem dX0_hasCell_25 : decode cX0_hasCell 25 = .ok (.goto 4, 3) := by decide +kernel
theorem dX0_hasCell_28 : decode cX0_hasCell 28 = .ok (.iconst 0, 1) := by decide +kernel
theorem dX0_hasCell_29 : decode cX0_hasCell 29 = .ok (.ireturn, 1) := by decide +kernel
theorem dX0_level_0 : decode cX0_level 0 = .ok (.iload_n 3, 1) := by decide +kernel
theorem dX0_level_1 : decode cX0_level 1 = .ok (.ifCond .lt 8, 3) := by decide +kernel
theorem dX0_level_4 : decode cX0_level 4 = .ok (.iload 4, 2) := by decide +kernel
theorem dX0_level_6 : decode cX0_level 6 = .ok (.ifCond .ge 8, 3) := by decide +kernel
theorem dX0_level_9 : decode cX0_level 9 = .ok (.aload_n 0, 1) := by decide +kernel
theorem dX0_level_10 : decode cX0_level 10 = .ok (.getfield 18, 3) := by decide +kernel
theorem dX0_level_13 : decode cX0_level 13 = .ok (.ireturn, 1) := by decide +kernel
theorem dX0_level_14 : decode cX0_level 14 = .ok (.iload_n 3, 1) := by decide +kernel
theorem dX0_level_15 : decode cX0_level 15 = .ok (.aload_n 0, 1) := by decide +kernel
theorem dX0_level_16 : decode cX0_level 16 = .ok (.getfield 9, 3) := by decide +kernel
theorem dX0_level_19 : decode cX0_level 19 = .ok (.if_icmp .ge 12, 3) := by decide +kernel
theorem dX0_level_22 : decode cX0_level 22 = .ok (.iload 4, 2) := by decide +kernel
theorem dX0_level_24 : decode cX0_level 24 = .ok (.aload_n 0, 1) := by decide +kernel
theorem dX0_level_25 : decode cX0_level 25 = .ok (.getfield 15, 3) := by decide +kernel
theorem dX0_level_28 : decode cX0_level 28 = .ok (.if_icmp .lt 5, 3) := by decide +kernel
theorem dX0_level_31 : decode cX0_level 31 = .ok (.iconst 0, 1) := by decide +kernel
theorem dX0_level_32 : decode cX0_level 32 = .ok (.ireturn, 1) := by decide +kernel
theorem dX0_level_33 : decode cX0_level 33 = .ok (.lload_n 1, 1) := by decide +kernel
theorem dX0_level_34 : decode cX0_level 34 = .ok (.bipush 60, 2) := by decide +kernel
theorem dX0_level_36 : decode cX0_level 36 = .ok (.bipush 16, 2) := by decide +kernel
theorem dX0_level_38 : decode cX0_level 38 = .ok (.iload_n 3, 1) := by decide +kernel
theorem dX0_level_39 : decode cX0_level 39 = .ok (.imul, 1) := by decide +kernel
theorem dX0_level_40 : decode cX0_level 40 = .ok (.isub, 1) := by decide +kernel
theorem dX0_level_41 : decode cX0_level 41 = .ok (.iconst 4, 1) := by decide +kernel
theorem dX0_level_42 : decode cX0_level 42 = .ok (.iload 4, 2) := by decide +kernel
theorem dX0_level_44 : decode cX0_level 44 = .ok (.imul, 1) := by decide +kernel
theorem dX0_level_45 : decode cX0_level 45 = .ok (.isub, 1) := by decide +kernel
theorem dX0_level_46 : decode cX0_level 46 = .ok (.lushr, 1) := by decide +kernel
theorem dX0_level_47 : decode cX0_level 47 = .ok (.l2i, 1) := by decide +kernel
theorem dX0_level_48 : decode cX0_level 48 = .ok (.bipush 15, 2) := by decide +kernel
theorem dX0_level_50 : decode cX0_level 50 = .ok (.iand, 1) := by decide +kernel
theorem dX0_level_51 : decode cX0_level 51 = .ok (.ireturn, 1) := by decide +kernel
set_option maxRecDepth 20000 in
theorem ggX0_growsAt_X0_level : GoodIn wsX0_growsAt wsX0_level := goodIn_r _ [5, 6, 7, 8, 9, 10, 11] (by decide +kernel) (by decide +kernel)
set_option maxRecDepth 20000 in
theorem gX0_growsAt_X0_level : GoodIn wsX0_growsAt (wsV RX0 33 RX0 yX0_level wsX0_level) := goodIn_app (goodIn_of _ (by decide +kernel)) ggX0_growsAt_X0_level
theorem dX0_growsAt_0 : decode cX0_growsAt 0 = .ok (.aload_n 0, 1) := by decide +kernel
theorem dX0_growsAt_1 : decode cX0_growsAt 1 = .ok (.lload_n 1, 1) := by decide +kernel
theorem dX0_growsAt_2 : decode cX0_growsAt 2 = .ok (.iload_n 3, 1) := by decide +kernel
theorem dX0_growsAt_3 : decode cX0_growsAt 3 = .ok (.iload 4, 2) := by decide +kernel
theorem dX0_growsAt_5 : decode cX0_growsAt 5 = .ok (.invokevirtual 33, 3) := by decide +kernel
theorem dX0_growsAt_8 : decode cX0_growsAt 8 = .ok (.istore 5, 2) := by decide +kernel
theorem dX0_growsAt_10 : decode cX0_growsAt 10 = .ok (.iload 5, 2) := by decide +kernel
theorem dX0_growsAt_12 : decode cX0_growsAt 12 = .ok (.aload_n 0, 1) := by decide +kernel
theorem dX0_growsAt_13 : decode cX0_growsAt 13 = .ok (.lload_n 1, 1) := by decide +kernel
theorem dX0_growsAt_14 : decode cX0_growsAt 14 = .ok (.iload_n 3, 1) := by decide +kernel
theorem dX0_growsAt_15 : decode cX0_growsAt 15 = .ok (.iconst 1, 1) := by decide +kernel
theorem dX0_growsAt_16 : decode cX0_growsAt 16 = .ok (.isub, 1) := by decide +kernel
theorem dX0_growsAt_17 : decode cX0_growsAt 17 = .ok (.iload 4, 2) := by decide +kernel
theorem dX0_growsAt_19 : decode cX0_growsAt 19 = .ok (.invokevirtual 33, 3) := by decide +kernel
theorem dX0_growsAt_22 : decode cX0_growsAt 22 = .ok (.if_icmp .ge 22, 3) := by decide +kernel
theorem dX0_growsAt_25 : decode cX0_growsAt 25 = .ok (.iload 5, 2) := by decide +kernel
theorem dX0_growsAt_27 : decode cX0_growsAt 27 = .ok (.aload_n 0, 1) := by decide +kernel
theorem dX0_growsAt_28 : decode cX0_growsAt 28 = .ok (.lload_n 1, 1) := by decide +kernel
theorem dX0_growsAt_29 : decode cX0_growsAt 29 = .ok (.iload_n 3, 1) := by decide +kernel
theorem dX0_growsAt_30 : decode cX0_growsAt 30 = .ok (.iload 4, 2) := by decide +kernel
theorem dX0_growsAt_32 : decode cX0_growsAt 32 = .ok (.iconst 1, 1) := by decide +kernel
theorem dX0_growsAt_33 : decode cX0_growsAt 33 = .ok (.isub, 1) := by decide +kernel
theorem dX0_growsAt_34 : decode cX0_growsAt 34 = .ok (.invokevirtual 33, 3) := by decide +kernel
theorem dX0_growsAt_37 : decode cX0_growsAt 37 = .ok (.if_icmp .ge 7, 3) := by decide +kernel
theorem dX0_growsAt_40 : decode cX0_growsAt 40 = .ok (.iconst 1, 1) := by decide +kernel
theorem dX0_growsAt_41 : decode cX0_growsAt 41 = .ok (.goto 4, 3) := by decide +kernel
theorem dX0_growsAt_44 : decode cX0_growsAt 44 = .ok (.iconst 0, 1) := by decide +kernel
theorem dX0_growsAt_45 : decode cX0_growsAt 45 = .ok (.ireturn, 1) := by decide +kernel
set_option maxRecDepth 20000 in
theorem ggX0_shrinksAt_X0_level : GoodIn wsX0_shrinksAt wsX0_level := goodIn_r _ [5, 6, 7, 8, 9, 10, 11] (by decide +kernel) (by decide +kernel)
set_option maxRecDepth 20000 in
theorem gX0_shrinksAt_X0_level : GoodIn wsX0_shrinksAt (wsV RX0 33 RX0 yX0_level wsX0_level) := goodIn_app (goodIn_of _ (by decide +kernel)) ggX0_shrinksAt_X0_level
theorem dX0_shrinksAt_0 : decode cX0_shrinksAt 0 = .ok (.aload_n 0, 1) := by decide +kernel
theorem dX0_shrinksAt_1 : decode cX0_shrinksAt 1 = .ok (.lload_n 1, 1) := by decide +kernel
theorem dX0_shrinksAt_2 : decode cX0_shrinksAt 2 = .ok (.iload_n 3, 1) := by decide +kernel
theorem dX0_shrinksAt_3 : decode cX0_shrinksAt 3 = .ok (.iload 4, 2) := by decide +kernel
theorem dX0_shrinksAt_5 : decode cX0_shrinksAt 5 = .ok (.invokevirtual 33, 3) := by decide +kernel
theorem dX0_shrinksAt_8 : decode cX0_shrinksAt 8 = .ok (.istore 5, 2) := by decide +kernel
theorem dX0_shrinksAt_10 : decode cX0_shrinksAt 10 = .ok (.iload 5, 2) := by decide +kernel
theorem dX0_shrinksAt_12 : decode cX0_shrinksAt 12 = .ok (.aload_n 0, 1) := by decide +kernel
theorem dX0_shrinksAt_13 : decode cX0_shrinksAt 13 = .ok (.lload_n 1, 1) := by decide +kernel
theorem dX0_shrinksAt_14 : decode cX0_shrinksAt 14 = .ok (.iload_n 3, 1) := by decide +kernel
theorem dX0_shrinksAt_15 : decode cX0_shrinksAt 15 = .ok (.iconst 1, 1) := by decide +kernel
theorem dX0_shrinksAt_16 : decode cX0_shrinksAt 16 = .ok (.iadd, 1) := by decide +kernel
theorem dX0_shrinksAt_17 : decode cX0_shrinksAt 17 = .ok (.iload 4, 2) := by decide +kernel
theorem dX0_shrinksAt_19 : decode cX0_shrinksAt 19 = .ok (.invokevirtual 33, 3) := by decide +kernel
theorem dX0_shrinksAt_22 : decode cX0_shrinksAt 22 = .ok (.if_icmp .le 22, 3) := by decide +kernel
theorem dX0_shrinksAt_25 : decode cX0_shrinksAt 25 = .ok (.iload 5, 2) := by decide +kernel
theorem dX0_shrinksAt_27 : decode cX0_shrinksAt 27 = .ok (.aload_n 0, 1) := by decide +kernel
theorem dX0_shrinksAt_28 : decode cX0_shrinksAt 28 = .ok (.lload_n 1, 1) := by decide +kernel
theorem dX0_shrinksAt_29 : decode cX0_shrinksAt 29 = .ok (.iload_n 3, 1) := by decide +kernel
theorem dX0_shrinksAt_30 : decode cX0_shrinksAt 30 = .ok (.iload 4, 2) := by decide +kernel
theorem dX0_shrinksAt_32 : decode cX0_shrinksAt 32 = .ok (.iconst 1, 1) := by decide +kernel
theorem dX0_shrinksAt_33 : decode cX0_shrinksAt 33 = .ok (.iadd, 1) := by decide +kernel
theorem dX0_shrinksAt_34 : decode cX0_shrinksAt 34 = .ok (.invokevirtual 33, 3) := by decide +kernel
theorem dX0_shrinksAt_37 : decode cX0_shrinksAt 37 = .ok (.if_icmp .le 7, 3) := by decide +kernel
theorem dX0_shrinksAt_40 : decode cX0_shrinksAt 40 = .ok (.iconst 1, 1) := by decide +kernel
theorem dX0_shrinksAt_41 : decode cX0_shrinksAt 41 = .ok (.goto 4, 3) := by decide +kernel
theorem dX0_shrinksAt_44 : decode cX0_shrinksAt 44 = .ok (.iconst 0, 1) := by decide +kernel
theorem dX0_shrinksAt_45 : decode cX0_shrinksAt 45 = .ok (.ireturn, 1) := by decide +kernel
set_option maxRecDepth 20000 in
theorem ggX0_changesAt_X0_growsAt : GoodIn wsX0_changesAt wsX0_growsAt := goodIn_r _ [5, 6, 7, 8, 4, 9, 10, 11, 12, 17, 18, 19] (by decide +kernel) (by decide +kernel)
set_option maxRecDepth 20000 in
theorem gX0_changesAt_X0_growsAt : GoodIn wsX0_changesAt (wsV RX0 37 RX0 yX0_growsAt wsX0_growsAt) := goodIn_app (goodIn_of _ (by decide +kernel)) ggX0_changesAt_X0_growsAt
set_option maxRecDepth 20000 in
theorem ggX0_changesAt_X0_shrinksAt : GoodIn wsX0_changesAt wsX0_shrinksAt := goodIn_r _ [16, 6, 7, 8, 4, 9, 10, 11, 12, 17, 18, 19] (by decide +kernel) (by decide +kernel)
set_option maxRecDepth 20000 in
theorem gX0_changesAt_X0_shrinksAt : GoodIn wsX0_changesAt (wsV RX0 41 RX0 yX0_shrinksAt wsX0_shrinksAt) := goodIn_app (goodIn_of _ (by decide +kernel)) ggX0_changesAt_X0_shrinksAt
theorem dX0_changesAt_0 : decode cX0_changesAt 0 = .ok (.iload 5, 2) := by decide +kernel
theorem dX0_changesAt_2 : decode cX0_changesAt 2 = .ok (.ifCond .eq 14, 3) := by decide +kernel
theorem dX0_changesAt_5 : decode cX0_changesAt 5 = .ok (.aload_n 0, 1) := by decide +kernel
theorem dX0_changesAt_6 : decode cX0_changesAt 6 = .ok (.lload_n 1, 1) := by decide +kernel
theorem dX0_changesAt_7 : decode cX0_changesAt 7 = .ok (.iload_n 3, 1) := by decide +kernel
theorem dX0_changesAt_8 : decode cX0_changesAt 8 = .ok (.iload 4, 2) := by decide +kernel
theorem dX0_changesAt_10 : decode cX0_changesAt 10 = .ok (.invokevirtual 37, 3) := by decide +kernel
theorem dX0_changesAt_13 : decode cX0_changesAt 13 = .ok (.goto 11, 3) := by decide +kernel
theorem dX0_changesAt_16 : decode cX0_changesAt 16 = .ok (.aload_n 0, 1) := by decide +kernel
theorem dX0_changesAt_17 : decode cX0_changesAt 17 = .ok (.lload_n 1, 1) := by decide +kernel
theorem dX0_changesAt_18 : decode cX0_changesAt 18 = .ok (.iload_n 3, 1) := by decide +kernel
theorem dX0_changesAt_19 : decode cX0_changesAt 19 = .ok (.iload 4, 2) := by decide +kernel
theorem dX0_changesAt_21 : decode cX0_changesAt 21 = .ok (.invokevirtual 41, 3) := by decide +kernel
theorem dX0_changesAt_24 : decode cX0_changesAt 24 = .ok (.ireturn, 1) := by decide +kernel
set_option maxRecDepth 20000 in
theorem ggX0_changingCells_X0_changesAt : GoodIn wsX0_changingCells wsX0_changesAt := goodIn_r _ [7, 8, 9, 10, 6, 11, 12, 13, 14, 15, 16, 1, 2, 17, 18, 19, 20, 21, 22, 23] (by decide +kernel) (by decide +kernel)
set_option maxRecDepth 20000 in
theorem gX0_changingCells_X0_changesAt : GoodIn wsX0_changingCells (wsV RX0 44 RX0 yX0_changesAt wsX0_changesAt) := goodIn_app (goodIn_of _ (by decide +kernel)) ggX0_changingCells_X0_changesAt
theorem dX0_changingCells_0 : decode cX0_changingCells 0 = .ok (.iconst 0, 1) := by decide +kernel
theorem dX0_changingCells_1 : decode cX0_changingCells 1 = .ok (.istore 4, 2) := by decide +kernel
theorem dX0_changingCells_3 : decode cX0_changingCells 3 = .ok (.iconst 0, 1) := by decide +kernel
theorem dX0_changingCells_4 : decode cX0_changingCells 4 = .ok (.istore 5, 2) := by decide +kernel
theorem dX0_changingCells_6 : decode cX0_changingCells 6 = .ok (.iload 5, 2) := by decide +kernel
theorem dX0_changingCells_8 : decode cX0_changingCells 8 = .ok (.aload_n 0, 1) := by decide +kernel
theorem dX0_changingCells_9 : decode cX0_changingCells 9 = .ok (.getfield 9, 3) := by decide +kernel
theorem dX0_changingCells_12 : decode cX0_changingCells 12 = .ok (.if_icmp .ge 43, 3) := by decide +kernel
theorem dX0_changingCells_15 : decode cX0_changingCells 15 = .ok (.iconst 0, 1) := by decide +kernel
theorem dX0_changingCells_16 : decode cX0_changingCells 16 = .ok (.istore 6, 2) := by decide +kernel
theorem dX0_changingCells_18 : decode cX0_changingCells 18 = .ok (.iload 6, 2) := by decide +kernel
theorem dX0_changingCells_20 : decode cX0_changingCells 20 = .ok (.aload_n 0, 1) := by decide +kernel
theorem dX0_changingCells_21 : decode cX0_changingCells 21 = .ok (.getfield 15, 3) := by decide +kernel
theorem dX0_changingCells_24 : decode cX0_changingCells 24 = .ok (.if_icmp .ge 25, 3) := by decide +kernel
theorem dX0_changingCells_27 : decode cX0_changingCells 27 = .ok (.aload_n 0, 1) := by decide +kernel
theorem dX0_changingCells_28 : decode cX0_changingCells 28 = .ok (.lload_n 1, 1) := by decide +kernel
theorem dX0_changingCells_29 : decode cX0_changingCells 29 = .ok (.iload 5, 2) := by decide +kernel
theorem dX0_changingCells_31 : decode cX0_changingCells 31 = .ok (.iload 6, 2) := by decide +kernel
theorem dX0_changingCells_33 : decode cX0_changingCells 33 = .ok (.iload_n 3, 1) := by decide +kernel
theorem dX0_changingCells_34 : decode cX0_changingCells 34 = .ok (.invokevirtual 44, 3) := by decide +kernel
theorem dX0_changingCells_37 : decode cX0_changingCells 37 = .ok (.ifCond .eq 6, 3) := by decide +kernel
theorem dX0_changingCells_40 : decode cX0_changingCells 40 = .ok (.iinc 4 1, 3) := by decide +kernel
theorem dX0_changingCells_43 : decode cX0_changingCells 43 = .ok (.iinc 6 1, 3) := by decide +kernel
theorem dX0_changingCells_46 : decode cX0_changingCells 46 = .ok (.goto (-28), 3) := by decide +kernel
theorem dX0_changingCells_49 : decode cX0_changingCells 49 = .ok (.iinc 5 1, 3) := by decide +kernel
theorem dX0_changingCells_52 : decode cX0_changingCells 52 = .ok (.goto (-46), 3) := by decide +kernel
theorem dX0_changingCells_55 : decode cX0_changingCells 55 = .ok (.iload 4, 2) := by decide +kernel
theorem dX0_changingCells_57 : decode cX0_changingCells 57 = .ok (.ireturn, 1) := by decide +kernel
set_option maxRecDepth 20000 in
theorem ggX0_trace_X0_level : GoodIn wsX0_trace wsX0_level := goodIn_r _ [7, 8, 1, 2, 9, 10, 11] (by decide +kernel) (by decide +kernel)
set_option maxRecDepth 20000 in
theorem gX0_trace_X0_level : GoodIn wsX0_trace (wsV RX0 33 RX0 yX0_level wsX0_level) := goodIn_app (goodIn_of _ (by decide +kernel)) ggX0_trace_X0_level
theorem dX0_trace_0 : decode cX0_trace 0 = .ok (.iconst 0, 1) := by decide +kernel
theorem dX0_trace_1 : decode cX0_trace 1 = .ok (.istore_n 3, 1) := by decide +kernel
theorem dX0_trace_2 : decode cX0_trace 2 = .ok (.iconst 0, 1) := by decide +kernel
theorem dX0_trace_3 : decode cX0_trace 3 = .ok (.istore 4, 2) := by decide +kernel
theorem dX0_trace_5 : decode cX0_trace 5 = .ok (.iload 4, 2) := by decide +kernel
theorem dX0_trace_7 : decode cX0_trace 7 = .ok (.aload_n 0, 1) := by decide +kernel
theorem dX0_trace_8 : decode cX0_trace 8 = .ok (.getfield 9, 3) := by decide +kernel
theorem dX0_trace_11 : decode cX0_trace 11 = .ok (.if_icmp .ge 30, 3) := by decide +kernel
theorem dX0_trace_14 : decode cX0_trace 14 = .ok (.iload 4, 2) := by decide +kernel
theorem dX0_trace_16 : decode cX0_trace 16 = .ok (.aload_n 0, 1) := by decide +kernel
theorem dX0_trace_17 : decode cX0_trace 17 = .ok (.getfield 15, 3) := by decide +kernel
theorem dX0_trace_20 : decode cX0_trace 20 = .ok (.if_icmp .ge 21, 3) := by decide +kernel
theorem dX0_trace_23 : decode cX0_trace 23 = .ok (.iload_n 3, 1) := by decide +kernel
theorem dX0_trace_24 : decode cX0_trace 24 = .ok (.aload_n 0, 1) := by decide +kernel
theorem dX0_trace_25 : decode cX0_trace 25 = .ok (.lload_n 1, 1) := by decide +kernel
theorem dX0_trace_26 : decode cX0_trace 26 = .ok (.iload 4, 2) := by decide +kernel
theorem dX0_trace_28 : decode cX0_trace 28 = .ok (.iload 4, 2) := by decide +kernel
theorem dX0_trace_30 : decode cX0_trace 30 = .ok (.invokevirtual 33, 3) := by decide +kernel
theorem dX0_trace_33 : decode cX0_trace 33 = .ok (.iadd, 1) := by decide +kernel
theorem dX0_trace_34 : decode cX0_trace 34 = .ok (.istore_n 3, 1) := by decide +kernel
theorem dX0_trace_35 : decode cX0_trace 35 = .ok (.iinc 4 1, 3) := by decide +kernel
theorem dX0_trace_38 : decode cX0_trace 38 = .ok (.goto (-33), 3) := by decide +kernel
theorem dX0_trace_41 : decode cX0_trace 41 = .ok (.iload_n 3, 1) := by decide +kernel
theorem dX0_trace_42 : decode cX0_trace 42 = .ok (.ireturn, 1) := by decide +kernel
set_option maxRecDepth 20000 in
theorem ggX0_following_X0_growsAt : GoodIn wsX0_following wsX0_growsAt := goodIn_r _ [7, 8, 9, 10, 6, 11, 12, 1, 2, 16, 17, 18] (by decide +kernel) (by decide +kernel)
set_option maxRecDepth 20000 in
theorem gX0_following_X0_growsAt : GoodIn wsX0_following (wsV RX0 37 RX0 yX0_growsAt wsX0_growsAt) := goodIn_app (goodIn_of _ (by decide +kernel)) ggX0_following_X0_growsAt
set_option maxRecDepth 20000 in
theorem ggX0_following_X0_cube : GoodIn wsX0_following wsX0_cube := goodIn_r _ [15] (by decide +kernel) (by decide +kernel)
set_option maxRecDepth 20000 in
theorem gX0_following_X0_cube : GoodIn wsX0_following (va_wsS RX0 48 yX0_cube wsX0_cube) := goodIn_app (goodIn_of _ (by decide +kernel)) ggX0_following_X0_cube
theorem dX0_following_0 : decode cX0_following 0 = .ok (.aload_n 0, 1) := by decide +kernel
theorem dX0_following_1 : decode cX0_following 1 = .ok (.getfield 9, 3) := by decide +kernel
theorem dX0_following_4 : decode cX0_following 4 = .ok (.iconst 1, 1) := by decide +kernel
theorem dX0_following_5 : decode cX0_following 5 = .ok (.isub, 1) := by decide +kernel
theorem dX0_following_6 : decode cX0_following 6 = .ok (.istore_n 3, 1) := by decide +kernel
theorem dX0_following_7 : decode cX0_following 7 = .ok (.iload_n 3, 1) := by decide +kernel
theorem dX0_following_8 : decode cX0_following 8 = .ok (.ifCond .lt 56, 3) := by decide +kernel
theorem dX0_following_11 : decode cX0_following 11 = .ok (.aload_n 0, 1) := by decide +kernel
theorem dX0_following_12 : decode cX0_following 12 = .ok (.getfield 15, 3) := by decide +kernel
theorem dX0_following_15 : decode cX0_following 15 = .ok (.iconst 1, 1) := by decide +kernel
theorem dX0_following_16 : decode cX0_following 16 = .ok (.isub, 1) := by decide +kernel
theorem dX0_following_17 : decode cX0_following 17 = .ok (.istore 4, 2) := by decide +kernel
theorem dX0_following_19 : decode cX0_following 19 = .ok (.iload 4, 2) := by decide +kernel
theorem dX0_following_21 : decode cX0_following 21 = .ok (.ifCond .lt 37, 3) := by decide +kernel
theorem dX0_following_24 : decode cX0_following 24 = .ok (.aload_n 0, 1) := by decide +kernel
theorem dX0_following_25 : decode cX0_following 25 = .ok (.lload_n 1, 1) := by decide +kernel
theorem dX0_following_26 : decode cX0_following 26 = .ok (.iload_n 3, 1) := by decide +kernel
theorem dX0_following_27 : decode cX0_following 27 = .ok (.iload 4, 2) := by decide +kernel
theorem dX0_following_29 : decode cX0_following 29 = .ok (.invokevirtual 37, 3) := by decide +kernel
theorem dX0_following_32 : decode cX0_following 32 = .ok (.ifCond .eq 20, 3) := by decide +kernel
theorem dX0_following_35 : decode cX0_following 35 = .ok (.iload_n 3, 1) := by decide +kernel
theorem dX0_following_36 : decode cX0_following 36 = .ok (.iload 4, 2) := by decide +kernel
theorem dX0_following_38 : decode cX0_following 38 = .ok (.invokestatic 48, 3) := by decide +kernel
theorem dX0_following_41 : decode cX0_following 41 = .ok (.lstore 5, 2) := by decide +kernel
theorem dX0_following_43 : decode cX0_following 43 = .ok (.lload_n 1, 1) := by decide +kernel
theorem dX0_following_44 : decode cX0_following 44 = .ok (.lload 5, 2) := by decide +kernel
theorem dX0_following_46 : decode cX0_following 46 = .ok (.lneg, 1) := by decide +kernel
theorem dX0_following_47 : decode cX0_following 47 = .ok (.land, 1) := by decide +kernel
theorem dX0_following_48 : decode cX0_following 48 = .ok (.lload 5, 2) := by decide +kernel
theorem dX0_following_50 : decode cX0_following 50 = .ok (.ladd, 1) := by decide +kernel
theorem dX0_following_51 : decode cX0_following 51 = .ok (.lreturn, 1) := by decide +kernel
theorem dX0_following_52 : decode cX0_following 52 = .ok (.iinc 4 (-1), 3) := by decide +kernel
theorem dX0_following_55 : decode cX0_following 55 = .ok (.goto (-36), 3) := by decide +kernel
theorem dX0_following_58 : decode cX0_following 58 = .ok (.iinc 3 (-1), 3) := by decide +kernel
theorem dX0_following_61 : decode cX0_following 61 = .ok (.goto (-54), 3) := by decide +kernel
theorem dX0_following_64 : decode cX0_following 64 = .ok (.lload_n 1, 1) := by decide +kernel
theorem dX0_following_65 : decode cX0_following 65 = .ok (.lreturn, 1) := by decide +kernel
set_option maxRecDepth 20000 in
theorem ggX0_joined_X0_level : GoodIn wsX0_joined wsX0_level := goodIn_r _ [14, 15, 1, 2, 19, 20, 21] (by decide +kernel) (by decide +kernel)
set_option maxRecDepth 20000 in
theorem gX0_joined_X0_level : GoodIn wsX0_joined (wsV RX0 33 RX0 yX0_level wsX0_level) := goodIn_app (goodIn_of _ (by decide +kernel)) ggX0_joined_X0_level
set_option maxRecDepth 20000 in
theorem ggX0_joined_X0_cube : GoodIn wsX0_joined wsX0_cube := goodIn_r _ [18] (by decide +kernel) (by decide +kernel)
set_option maxRecDepth 20000 in
theorem gX0_joined_X0_cube : GoodIn wsX0_joined (va_wsS RX0 48 yX0_cube wsX0_cube) := goodIn_app (goodIn_of _ (by decide +kernel)) ggX0_joined_X0_cube
theorem dX0_joined_0 : decode cX0_joined 0 = .ok (.lconst 0, 1) := by decide +kernel
theorem dX0_joined_1 : decode cX0_joined 1 = .ok (.lstore 6, 2) := by decide +kernel
theorem dX0_joined_3 : decode cX0_joined 3 = .ok (.iconst 0, 1) := by decide +kernel
theorem dX0_joined_4 : decode cX0_joined 4 = .ok (.istore 8, 2) := by decide +kernel
theorem dX0_joined_6 : decode cX0_joined 6 = .ok (.iload 8, 2) := by decide +kernel
theorem dX0_joined_8 : decode cX0_joined 8 = .ok (.aload_n 0, 1) := by decide +kernel
theorem dX0_joined_9 : decode cX0_joined 9 = .ok (.getfield 9, 3) := by decide +kernel
theorem dX0_joined_12 : decode cX0_joined 12 = .ok (.if_icmp .ge 85, 3) := by decide +kernel
theorem dX0_joined_15 : decode cX0_joined 15 = .ok (.iconst 0, 1) := by decide +kernel
theorem dX0_joined_16 : decode cX0_joined 16 = .ok (.istore 9, 2) := by decide +kernel
theorem dX0_joined_18 : decode cX0_joined 18 = .ok (.iload 9, 2) := by decide +kernel
theorem dX0_joined_20 : decode cX0_joined 20 = .ok (.aload_n 0, 1) := by decide +kernel
theorem dX0_joined_21 : decode cX0_joined 21 = .ok (.getfield 15, 3) := by decide +kernel
theorem dX0_joined_24 : decode cX0_joined 24 = .ok (.if_icmp .ge 67, 3) := by decide +kernel
theorem dX0_joined_27 : decode cX0_joined 27 = .ok (.aload_n 0, 1) := by decide +kernel
theorem dX0_joined_28 : decode cX0_joined 28 = .ok (.lload_n 1, 1) := by decide +kernel
theorem dX0_joined_29 : decode cX0_joined 29 = .ok (.iload 8, 2) := by decide +kernel
theorem dX0_joined_31 : decode cX0_joined 31 = .ok (.iload 9, 2) := by decide +kernel
theorem dX0_joined_33 : decode cX0_joined 33 = .ok (.invokevirtual 33, 3) := by decide +kernel
theorem dX0_joined_36 : decode cX0_joined 36 = .ok (.istore 10, 2) := by decide +kernel
theorem dX0_joined_38 : decode cX0_joined 38 = .ok (.aload_n 0, 1) := by decide +kernel
theorem dX0_joined_39 : decode cX0_joined 39 = .ok (.lload_n 3, 1) := by decide +kernel
theorem dX0_joined_40 : decode cX0_joined 40 = .ok (.iload 8, 2) := by decide +kernel
theorem dX0_joined_42 : decode cX0_joined 42 = .ok (.iload 9, 2) := by decide +kernel
theorem dX0_joined_44 : decode cX0_joined 44 = .ok (.invokevirtual 33, 3) := by decide +kernel
theorem dX0_joined_47 : decode cX0_joined 47 = .ok (.istore 11, 2) := by decide +kernel
theorem dX0_joined_49 : decode cX0_joined 49 = .ok (.lload 6, 2) := by decide +kernel
theorem dX0_joined_51 : decode cX0_joined 51 = .ok (.iload 8, 2) := by decide +kernel
theorem dX0_joined_53 : decode cX0_joined 53 = .ok (.iload 9, 2) := by decide +kernel
theorem dX0_joined_55 : decode cX0_joined 55 = .ok (.invokestatic 48, 3) := by decide +kernel
theorem dX0_joined_58 : decode cX0_joined 58 = .ok (.iload 5, 2) := by decide +kernel
theorem dX0_joined_60 : decode cX0_joined 60 = .ok (.ifCond .eq 13, 3) := by decide +kernel
theorem dX0_joined_63 : decode cX0_joined 63 = .ok (.iload 10, 2) := by decide +kernel
theorem dX0_joined_65 : decode cX0_joined 65 = .ok (.iload 11, 2) := by decide +kernel
theorem dX0_joined_67 : decode cX0_joined 67 = .ok (.invokestatic 52, 3) := by decide +kernel
theorem dX0_joined_70 : decode cX0_joined 70 = .ok (.goto 10, 3) := by decide +kernel
theorem dX0_joined_73 : decode cX0_joined 73 = .ok (.iload 10, 2) := by decide +kernel
theorem dX0_joined_75 : decode cX0_joined 75 = .ok (.iload 11, 2) := by decide +kernel
theorem dX0_joined_77 : decode cX0_joined 77 = .ok (.invokestatic 58, 3) := by decide +kernel
theorem dX0_joined_80 : decode cX0_joined 80 = .ok (.i2l, 1) := by decide +kernel
theorem dX0_joined_81 : decode cX0_joined 81 = .ok (.lmul, 1) := by decide +kernel
theorem dX0_joined_82 : decode cX0_joined 82 = .ok (.ladd, 1) := by decide +kernel
theorem dX0_joined_83 : decode cX0_joined 83 = .ok (.lstore 6, 2) := by decide +kernel
theorem dX0_joined_85 : decode cX0_joined 85 = .ok (.iinc 9 1, 3) := by decide +kernel
theorem dX0_joined_88 : decode cX0_joined 88 = .ok (.goto (-70), 3) := by decide +kernel
theorem dX0_joined_91 : decode cX0_joined 91 = .ok (.iinc 8 1, 3) := by decide +kernel
theorem dX0_joined_94 : decode cX0_joined 94 = .ok (.goto (-88), 3) := by decide +kernel
theorem dX0_joined_97 : decode cX0_joined 97 = .ok (.lload 6, 2) := by decide +kernel
theorem dX0_joined_99 : decode cX0_joined 99 = .ok (.lreturn, 1) := by decide +kernel
set_option maxRecDepth 20000 in
theorem ggX0_transposed_X0_cube : GoodIn wsX0_transposed wsX0_cube := goodIn_r _ [6] (by decide +kernel) (by decide +kernel)
set_option maxRecDepth 20000 in
theorem gX0_transposed_X0_cube : GoodIn wsX0_transposed (va_wsS RX0 48 yX0_cube wsX0_cube) := goodIn_app (goodIn_of _ (by decide +kernel)) ggX0_transposed_X0_cube
set_option maxRecDepth 20000 in
theorem ggX0_transposed_X0_level : GoodIn wsX0_transposed wsX0_level := goodIn_r _ [10, 11, 1, 2, 12, 13, 14] (by decide +kernel) (by decide +kernel)
set_option maxRecDepth 20000 in
theorem gX0_transposed_X0_level : GoodIn wsX0_transposed (wsV RX0 33 RX0 yX0_level wsX0_level) := goodIn_app (goodIn_of _ (by decide +kernel)) ggX0_transposed_X0_level
theorem dX0_transposed_0 : decode cX0_transposed 0 = .ok (.lconst 0, 1) := by decide +kernel
theorem dX0_transposed_1 : decode cX0_transposed 1 = .ok (.lstore_n 3, 1) := by decide +kernel
theorem dX0_transposed_2 : decode cX0_transposed 2 = .ok (.iconst 0, 1) := by decide +kernel
theorem dX0_transposed_3 : decode cX0_transposed 3 = .ok (.istore 5, 2) := by decide +kernel
theorem dX0_transposed_5 : decode cX0_transposed 5 = .ok (.iload 5, 2) := by decide +kernel
theorem dX0_transposed_7 : decode cX0_transposed 7 = .ok (.aload_n 0, 1) := by decide +kernel
theorem dX0_transposed_8 : decode cX0_transposed 8 = .ok (.getfield 9, 3) := by decide +kernel
theorem dX0_transposed_11 : decode cX0_transposed 11 = .ok (.if_icmp .ge 48, 3) := by decide +kernel
theorem dX0_transposed_14 : decode cX0_transposed 14 = .ok (.iconst 0, 1) := by decide +kernel
theorem dX0_transposed_15 : decode cX0_transposed 15 = .ok (.istore 6, 2) := by decide +kernel
theorem dX0_transposed_17 : decode cX0_transposed 17 = .ok (.iload 6, 2) := by decide +kernel
theorem dX0_transposed_19 : decode cX0_transposed 19 = .ok (.aload_n 0, 1) := by decide +kernel
theorem dX0_transposed_20 : decode cX0_transposed 20 = .ok (.getfield 15, 3) := by decide +kernel
theorem dX0_transposed_23 : decode cX0_transposed 23 = .ok (.if_icmp .ge 30, 3) := by decide +kernel
theorem dX0_transposed_26 : decode cX0_transposed 26 = .ok (.lload_n 3, 1) := by decide +kernel
theorem dX0_transposed_27 : decode cX0_transposed 27 = .ok (.iload 6, 2) := by decide +kernel
theorem dX0_transposed_29 : decode cX0_transposed 29 = .ok (.iload 5, 2) := by decide +kernel
theorem dX0_transposed_31 : decode cX0_transposed 31 = .ok (.invokestatic 48, 3) := by decide +kernel
theorem dX0_transposed_34 : decode cX0_transposed 34 = .ok (.aload_n 0, 1) := by decide +kernel
theorem dX0_transposed_35 : decode cX0_transposed 35 = .ok (.lload_n 1, 1) := by decide +kernel
theorem dX0_transposed_36 : decode cX0_transposed 36 = .ok (.iload 5, 2) := by decide +kernel
theorem dX0_transposed_38 : decode cX0_transposed 38 = .ok (.iload 6, 2) := by decide +kernel
theorem dX0_transposed_40 : decode cX0_transposed 40 = .ok (.invokevirtual 33, 3) := by decide +kernel
theorem dX0_transposed_43 : decode cX0_transposed 43 = .ok (.i2l, 1) := by decide +kernel
theorem dX0_transposed_44 : decode cX0_transposed 44 = .ok (.lmul, 1) := by decide +kernel
theorem dX0_transposed_45 : decode cX0_transposed 45 = .ok (.ladd, 1) := by decide +kernel
theorem dX0_transposed_46 : decode cX0_transposed 46 = .ok (.lstore_n 3, 1) := by decide +kernel
theorem dX0_transposed_47 : decode cX0_transposed 47 = .ok (.iinc 6 1, 3) := by decide +kernel
theorem dX0_transposed_50 : decode cX0_transposed 50 = .ok (.goto (-33), 3) := by decide +kernel
theorem dX0_transposed_53 : decode cX0_transposed 53 = .ok (.iinc 5 1, 3) := by decide +kernel
theorem dX0_transposed_56 : decode cX0_transposed 56 = .ok (.goto (-51), 3) := by decide +kernel
theorem dX0_transposed_59 : decode cX0_transposed 59 = .ok (.lload_n 3, 1) := by decide +kernel
theorem dX0_transposed_60 : decode cX0_transposed 60 = .ok (.lreturn, 1) := by decide +kernel
set_option maxRecDepth 20000 in
theorem ggX0_rotated_X0_level : GoodIn wsX0_rotated wsX0_level := goodIn_r _ [7, 8, 1, 2, 12, 13, 14] (by decide +kernel) (by decide +kernel)
set_option maxRecDepth 20000 in
theorem gX0_rotated_X0_level : GoodIn wsX0_rotated (wsV RX0 33 RX0 yX0_level wsX0_level) := goodIn_app (goodIn_of _ (by decide +kernel)) ggX0_rotated_X0_level
set_option maxRecDepth 20000 in
theorem ggX0_rotated_X0_cube : GoodIn wsX0_rotated wsX0_cube := goodIn_r _ [11] (by decide +kernel) (by decide +kernel)
set_option maxRecDepth 20000 in
theorem gX0_rotated_X0_cube : GoodIn wsX0_rotated (va_wsS RX0 48 yX0_cube wsX0_cube) := goodIn_app (goodIn_of _ (by decide +kernel)) ggX0_rotated_X0_cube
theorem dX0_rotated_0 : decode cX0_rotated 0 = .ok (.lconst 0, 1) := by decide +kernel
theorem dX0_rotated_1 : decode cX0_rotated 1 = .ok (.lstore_n 3, 1) := by decide +kernel
theorem dX0_rotated_2 : decode cX0_rotated 2 = .ok (.iconst 0, 1) := by decide +kernel
theorem dX0_rotated_3 : decode cX0_rotated 3 = .ok (.istore 5, 2) := by decide +kernel
theorem dX0_rotated_5 : decode cX0_rotated 5 = .ok (.iload 5, 2) := by decide +kernel
theorem dX0_rotated_7 : decode cX0_rotated 7 = .ok (.aload_n 0, 1) := by decide +kernel
theorem dX0_rotated_8 : decode cX0_rotated 8 = .ok (.getfield 9, 3) := by decide +kernel
theorem dX0_rotated_11 : decode cX0_rotated 11 = .ok (.if_icmp .ge 64, 3) := by decide +kernel
theorem dX0_rotated_14 : decode cX0_rotated 14 = .ok (.iconst 0, 1) := by decide +kernel
theorem dX0_rotated_15 : decode cX0_rotated 15 = .ok (.istore 6, 2) := by decide +kernel
theorem dX0_rotated_17 : decode cX0_rotated 17 = .ok (.iload 6, 2) := by decide +kernel
theorem dX0_rotated_19 : decode cX0_rotated 19 = .ok (.aload_n 0, 1) := by decide +kernel
theorem dX0_rotated_20 : decode cX0_rotated 20 = .ok (.getfield 15, 3) := by decide +kernel
theorem dX0_rotated_23 : decode cX0_rotated 23 = .ok (.if_icmp .ge 46, 3) := by decide +kernel
theorem dX0_rotated_26 : decode cX0_rotated 26 = .ok (.aload_n 0, 1) := by decide +kernel
theorem dX0_rotated_27 : decode cX0_rotated 27 = .ok (.lload_n 1, 1) := by decide +kernel
theorem dX0_rotated_28 : decode cX0_rotated 28 = .ok (.iload 5, 2) := by decide +kernel
theorem dX0_rotated_30 : decode cX0_rotated 30 = .ok (.iload 6, 2) := by decide +kernel
theorem dX0_rotated_32 : decode cX0_rotated 32 = .ok (.invokevirtual 33, 3) := by decide +kernel
theorem dX0_rotated_35 : decode cX0_rotated 35 = .ok (.istore 7, 2) := by decide +kernel
theorem dX0_rotated_37 : decode cX0_rotated 37 = .ok (.iconst 0, 1) := by decide +kernel
theorem dX0_rotated_38 : decode cX0_rotated 38 = .ok (.istore 8, 2) := by decide +kernel
theorem dX0_rotated_40 : decode cX0_rotated 40 = .ok (.iload 8, 2) := by decide +kernel
theorem dX0_rotated_42 : decode cX0_rotated 42 = .ok (.iload 7, 2) := by decide +kernel
theorem dX0_rotated_44 : decode cX0_rotated 44 = .ok (.if_icmp .ge 19, 3) := by decide +kernel
theorem dX0_rotated_47 : decode cX0_rotated 47 = .ok (.lload_n 3, 1) := by decide +kernel
theorem dX0_rotated_48 : decode cX0_rotated 48 = .ok (.iload 6, 2) := by decide +kernel
theorem dX0_rotated_50 : decode cX0_rotated 50 = .ok (.iload 8, 2) := by decide +kernel
theorem dX0_rotated_52 : decode cX0_rotated 52 = .ok (.invokestatic 48, 3) := by decide +kernel
theorem dX0_rotated_55 : decode cX0_rotated 55 = .ok (.ladd, 1) := by decide +kernel
theorem dX0_rotated_56 : decode cX0_rotated 56 = .ok (.lstore_n 3, 1) := by decide +kernel
theorem dX0_rotated_57 : decode cX0_rotated 57 = .ok (.iinc 8 1, 3) := by decide +kernel
theorem dX0_rotated_60 : decode cX0_rotated 60 = .ok (.goto (-20), 3) := by decide +kernel
theorem dX0_rotated_63 : decode cX0_rotated 63 = .ok (.iinc 6 1, 3) := by decide +kernel
theorem dX0_rotated_66 : decode cX0_rotated 66 = .ok (.goto (-49), 3) := by decide +kernel
theorem dX0_rotated_69 : decode cX0_rotated 69 = .ok (.iinc 5 1, 3) := by decide +kernel
theorem dX0_rotated_72 : decode cX0_rotated 72 = .ok (.goto (-67), 3) := by decide +kernel
theorem dX0_rotated_75 : decode cX0_rotated 75 = .ok (.lload_n 3, 1) := by decide +kernel
theorem dX0_rotated_76 : decode cX0_rotated 76 = .ok (.lreturn, 1) := by decide +kernel
set_option maxRecDepth 20000 in
theorem ggX0_complemented_X0_cube : GoodIn wsX0_complemented wsX0_cube := goodIn_r _ [7] (by decide +kernel) (by decide +kernel)
set_option maxRecDepth 20000 in
theorem gX0_complemented_X0_cube : GoodIn wsX0_complemented (va_wsS RX0 48 yX0_cube wsX0_cube) := goodIn_app (goodIn_of _ (by decide +kernel)) ggX0_complemented_X0_cube
set_option maxRecDepth 20000 in
theorem ggX0_complemented_X0_level : GoodIn wsX0_complemented wsX0_level := goodIn_r _ [11, 3, 1, 2, 12, 13, 14] (by decide +kernel) (by decide +kernel)
set_option maxRecDepth 20000 in
theorem gX0_complemented_X0_level : GoodIn wsX0_complemented (wsV RX0 33 RX0 yX0_level wsX0_level) := goodIn_app (goodIn_of _ (by decide +kernel)) ggX0_complemented_X0_level
theorem dX0_complemented_0 : decode cX0_complemented 0 = .ok (.lconst 0, 1) := by decide +kernel
theorem dX0_complemented_1 : decode cX0_complemented 1 = .ok (.lstore_n 3, 1) := by decide +kernel
theorem dX0_complemented_2 : decode cX0_complemented 2 = .ok (.iconst 0, 1) := by decide +kernel
theorem dX0_complemented_3 : decode cX0_complemented 3 = .ok (.istore 5, 2) := by decide +kernel
theorem dX0_complemented_5 : decode cX0_complemented 5 = .ok (.iload 5, 2) := by decide +kernel
theorem dX0_complemented_7 : decode cX0_complemented 7 = .ok (.aload_n 0, 1) := by decide +kernel
theorem dX0_complemented_8 : decode cX0_complemented 8 = .ok (.getfield 9, 3) := by decide +kernel
theorem dX0_complemented_11 : decode cX0_complemented 11 = .ok (.if_icmp .ge 67, 3) := by decide +kernel
theorem dX0_complemented_14 : decode cX0_complemented 14 = .ok (.iconst 0, 1) := by decide +kernel
theorem dX0_complemented_15 : decode cX0_complemented 15 = .ok (.istore 6, 2) := by decide +kernel
theorem dX0_complemented_17 : decode cX0_complemented 17 = .ok (.iload 6, 2) := by decide +kernel
theorem dX0_complemented_19 : decode cX0_complemented 19 = .ok (.aload_n 0, 1) := by decide +kernel
theorem dX0_complemented_20 : decode cX0_complemented 20 = .ok (.getfield 15, 3) := by decide +kernel
theorem dX0_complemented_23 : decode cX0_complemented 23 = .ok (.if_icmp .ge 49, 3) := by decide +kernel
theorem dX0_complemented_26 : decode cX0_complemented 26 = .ok (.lload_n 3, 1) := by decide +kernel
theorem dX0_complemented_27 : decode cX0_complemented 27 = .ok (.iload 5, 2) := by decide +kernel
theorem dX0_complemented_29 : decode cX0_complemented 29 = .ok (.iload 6, 2) := by decide +kernel
theorem dX0_complemented_31 : decode cX0_complemented 31 = .ok (.invokestatic 48, 3) := by decide +kernel
theorem dX0_complemented_34 : decode cX0_complemented 34 = .ok (.aload_n 0, 1) := by decide +kernel
theorem dX0_complemented_35 : decode cX0_complemented 35 = .ok (.getfield 18, 3) := by decide +kernel
theorem dX0_complemented_38 : decode cX0_complemented 38 = .ok (.aload_n 0, 1) := by decide +kernel
theorem dX0_complemented_39 : decode cX0_complemented 39 = .ok (.lload_n 1, 1) := by decide +kernel
theorem dX0_complemented_40 : decode cX0_complemented 40 = .ok (.aload_n 0, 1) := by decide +kernel
theorem dX0_complemented_41 : decode cX0_complemented 41 = .ok (.getfield 9, 3) := by decide +kernel
theorem dX0_complemented_44 : decode cX0_complemented 44 = .ok (.iconst 1, 1) := by decide +kernel
theorem dX0_complemented_45 : decode cX0_complemented 45 = .ok (.isub, 1) := by decide +kernel
theorem dX0_complemented_46 : decode cX0_complemented 46 = .ok (.iload 5, 2) := by decide +kernel
theorem dX0_complemented_48 : decode cX0_complemented 48 = .ok (.isub, 1) := by decide +kernel
theorem dX0_complemented_49 : decode cX0_complemented 49 = .ok (.aload_n 0, 1) := by decide +kernel
theorem dX0_complemented_50 : decode cX0_complemented 50 = .ok (.getfield 15, 3) := by decide +kernel
theorem dX0_complemented_53 : decode cX0_complemented 53 = .ok (.iconst 1, 1) := by decide +kernel
theorem dX0_complemented_54 : decode cX0_complemented 54 = .ok (.isub, 1) := by decide +kernel
theorem dX0_complemented_55 : decode cX0_complemented 55 = .ok (.iload 6, 2) := by decide +kernel
theorem dX0_complemented_57 : decode cX0_complemented 57 = .ok (.isub, 1) := by decide +kernel
theorem dX0_complemented_58 : decode cX0_complemented 58 = .ok (.invokevirtual 33, 3) := by decide +kernel
theorem dX0_complemented_61 : decode cX0_complemented 61 = .ok (.isub, 1) := by decide +kernel
theorem dX0_complemented_62 : decode cX0_complemented 62 = .ok (.i2l, 1) := by decide +kernel
theorem dX0_complemented_63 : decode cX0_complemented 63 = .ok (.lmul, 1) := by decide +kernel
theorem dX0_complemented_64 : decode cX0_complemented 64 = .ok (.ladd, 1) := by decide +kernel
theorem dX0_complemented_65 : decode cX0_complemented 65 = .ok (.lstore_n 3, 1) := by decide +kernel
theorem dX0_complemented_66 : decode cX0_complemented 66 = .ok (.iinc 6 1, 3) := by decide +kernel
theorem dX0_complemented_69 : decode cX0_complemented 69 = .ok (.goto (-52), 3) := by decide +kernel
theorem dX0_complemented_72 : decode cX0_complemented 72 = .ok (.iinc 5 1, 3) := by decide +kernel
theorem dX0_complemented_75 : decode cX0_complemented 75 = .ok (.goto (-70), 3) := by decide +kernel
theorem dX0_complemented_78 : decode cX0_complemented 78 = .ok (.lload_n 3, 1) := by decide +kernel
theorem dX0_complemented_79 : decode cX0_complemented 79 = .ok (.lreturn, 1) := by decide +kernel
set_option maxRecDepth 20000 in
theorem ggX0_symmetries_X0_hasSymmetry : GoodIn wsX0_symmetries wsX0_hasSymmetry := goodIn_r _ [5, 6, 7, 8, 9, 10, 11, 4, 12, 13, 14, 15, 16, 17, 18, 19, 20, 21, 22, 23, 24, 25, 26, 27, 28, 29, 30] (by decide +kernel) (by decide +kernel)
set_option maxRecDepth 20000 in
theorem gX0_symmetries_X0_hasSymmetry : GoodIn wsX0_symmetries (wsV RX0 61 RX0 yX0_hasSymmetry wsX0_hasSymmetry) := goodIn_app (goodIn_of _ (by decide +kernel)) ggX0_symmetries_X0_hasSymmetry
theorem dX0_symmetries_0 : decode cX0_symmetries 0 = .ok (.iconst 0, 1) := by decide +kernel
theorem dX0_symmetries_1 : decode cX0_symmetries 1 = .ok (.istore_n 3, 1) := by decide +kernel
theorem dX0_symmetries_2 : decode cX0_symmetries 2 = .ok (.iconst 0, 1) := by decide +kernel
theorem dX0_symmetries_3 : decode cX0_symmetries 3 = .ok (.istore 4, 2) := by decide +kernel
theorem dX0_symmetries_5 : decode cX0_symmetries 5 = .ok (.iload 4, 2) := by decide +kernel
theorem dX0_symmetries_7 : decode cX0_symmetries 7 = .ok (.iconst 4, 1) := by decide +kernel
theorem dX0_symmetries_8 : decode cX0_symmetries 8 = .ok (.if_icmp .ge 26, 3) := by decide +kernel
theorem dX0_symmetries_11 : decode cX0_symmetries 11 = .ok (.aload_n 0, 1) := by decide +kernel
theorem dX0_symmetries_12 : decode cX0_symmetries 12 = .ok (.lload_n 1, 1) := by decide +kernel
theorem dX0_symmetries_13 : decode cX0_symmetries 13 = .ok (.iload 4, 2) := by decide +kernel
theorem dX0_symmetries_15 : decode cX0_symmetries 15 = .ok (.invokevirtual 61, 3) := by decide +kernel
theorem dX0_symmetries_18 : decode cX0_symmetries 18 = .ok (.ifCond .eq 10, 3) := by decide +kernel
theorem dX0_symmetries_21 : decode cX0_symmetries 21 = .ok (.iload_n 3, 1) := by decide +kernel
theorem dX0_symmetries_22 : decode cX0_symmetries 22 = .ok (.iconst 1, 1) := by decide +kernel
theorem dX0_symmetries_23 : decode cX0_symmetries 23 = .ok (.iload 4, 2) := by decide +kernel
theorem dX0_symmetries_25 : decode cX0_symmetries 25 = .ok (.ishl, 1) := by decide +kernel
theorem dX0_symmetries_26 : decode cX0_symmetries 26 = .ok (.ior, 1) := by decide +kernel
theorem dX0_symmetries_27 : decode cX0_symmetries 27 = .ok (.istore_n 3, 1) := by decide +kernel
theorem dX0_symmetries_28 : decode cX0_symmetries 28 = .ok (.iinc 4 1, 3) := by decide +kernel
theorem dX0_symmetries_31 : decode cX0_symmetries 31 = .ok (.goto (-26), 3) := by decide +kernel
theorem dX0_symmetries_34 : decode cX0_symmetries 34 = .ok (.iload_n 3, 1) := by decide +kernel
theorem dX0_symmetries_35 : decode cX0_symmetries 35 = .ok (.ireturn, 1) := by decide +kernel
set_option maxRecDepth 20000 in
theorem ggX0_hasSymmetries_X0_hasSymmetry : GoodIn wsX0_hasSymmetries wsX0_hasSymmetry := goodIn_r _ [5, 6, 7, 8, 9, 10, 11, 4, 12, 13, 14, 15, 16, 17, 18, 19, 20, 21, 22, 23, 24, 25, 26, 27, 28, 29, 30] (by decide +kernel) (by decide +kernel)
set_option maxRecDepth 20000 in
theorem gX0_hasSymmetries_X0_hasSymmetry : GoodIn wsX0_hasSymmetries (wsV RX0 61 RX0 yX0_hasSymmetry wsX0_hasSymmetry) := goodIn_app (goodIn_of _ (by decide +kernel)) ggX0_hasSymmetries_X0_hasSymmetry
theorem dX0_hasSymmetries_0 : decode cX0_hasSymmetries 0 = .ok (.iconst 0, 1) := by decide +kernel
theorem dX0_hasSymmetries_1 : decode cX0_hasSymmetries 1 = .ok (.istore 4, 2) := by decide +kernel
theorem dX0_hasSymmetries_3 : decode cX0_hasSymmetries 3 = .ok (.iload 4, 2) := by decide +kernel
theorem dX0_hasSymmetries_5 : decode cX0_hasSymmetries 5 = .ok (.iconst 4, 1) := by decide +kernel
theorem dX0_hasSymmetries_6 : decode cX0_hasSymmetries 6 = .ok (.if_icmp .ge 31, 3) := by decide +kernel
theorem dX0_hasSymmetries_9 : decode cX0_hasSymmetries 9 = .ok (.iload_n 3, 1) := by decide +kernel
theorem dX0_hasSymmetries_10 : decode cX0_hasSymmetries 10 = .ok (.iload 4, 2) := by decide +kernel
theorem dX0_hasSymmetries_12 : decode cX0_hasSymmetries 12 = .ok (.ishr, 1) := by decide +kernel
theorem dX0_hasSymmetries_13 : decode cX0_hasSymmetries 13 = .ok (.iconst 1, 1) := by decide +kernel
theorem dX0_hasSymmetries_14 : decode cX0_hasSymmetries 14 = .ok (.iand, 1) := by decide +kernel
theorem dX0_hasSymmetries_15 : decode cX0_hasSymmetries 15 = .ok (.iconst 1, 1) := by decide +kernel
theorem dX0_hasSymmetries_16 : decode cX0_hasSymmetries 16 = .ok (.if_icmp .ne 15, 3) := by decide +kernel
theorem dX0_hasSymmetries_19 : decode cX0_hasSymmetries 19 = .ok (.aload_n 0, 1) := by decide +kernel
theorem dX0_hasSymmetries_20 : decode cX0_hasSymmetries 20 = .ok (.lload_n 1, 1) := by decide +kernel
theorem dX0_hasSymmetries_21 : decode cX0_hasSymmetries 21 = .ok (.iload 4, 2) := by decide +kernel
theorem dX0_hasSymmetries_23 : decode cX0_hasSymmetries 23 = .ok (.invokevirtual 61, 3) := by decide +kernel
theorem dX0_hasSymmetries_26 : decode cX0_hasSymmetries 26 = .ok (.ifCond .ne 5, 3) := by decide +kernel
theorem dX0_hasSymmetries_29 : decode cX0_hasSymmetries 29 = .ok (.iconst 0, 1) := by decide +kernel
theorem dX0_hasSymmetries_30 : decode cX0_hasSymmetries 30 = .ok (.ireturn, 1) := by decide +kernel
theorem dX0_hasSymmetries_31 : decode cX0_hasSymmetries 31 = .ok (.iinc 4 1, 3) := by decide +kernel
theorem dX0_hasSymmetries_34 : decode cX0_hasSymmetries 34 = .ok (.goto (-31), 3) := by decide +kernel
theorem dX0_hasSymmetries_37 : decode cX0_hasSymmetries 37 = .ok (.iconst 1, 1) := by decide +kernel
theorem dX0_hasSymmetries_38 : decode cX0_hasSymmetries 38 = .ok (.ireturn, 1) := by decide +kernel
set_option maxRecDepth 20000 in
theorem ggX0_hasSymmetry_X0_transposed : GoodIn wsX0_hasSymmetry wsX0_transposed := goodIn_r _ [8, 1, 2, 9, 10, 7, 11, 12, 13, 14, 15, 3, 24, 25, 26] (by decide +kernel) (by decide +kernel)
set_option maxRecDepth 20000 in
theorem gX0_hasSymmetry_X0_transposed : GoodIn wsX0_hasSymmetry (wsV RX0 65 RX0 yX0_transposed wsX0_transposed) := goodIn_app (goodIn_of _ (by decide +kernel)) ggX0_hasSymmetry_X0_transposed
set_option maxRecDepth 20000 in
theorem ggX0_hasSymmetry_X0_rotated : GoodIn wsX0_hasSymmetry wsX0_rotated := goodIn_r _ [19, 1, 2, 12, 13, 14, 7, 15, 3, 9, 10, 11, 24, 25, 26] (by decide +kernel) (by decide +kernel)
set_option maxRecDepth 20000 in
theorem gX0_hasSymmetry_X0_rotated : GoodIn wsX0_hasSymmetry (wsV RX0 69 RX0 yX0_rotated wsX0_rotated) := goodIn_app (goodIn_of _ (by decide +kernel)) ggX0_hasSymmetry_X0_rotated
set_option maxRecDepth 20000 in
theorem ggX0_hasSymmetry_X0_complemented : GoodIn wsX0_hasSymmetry wsX0_complemented := goodIn_r _ [23, 1, 2, 3, 9, 10, 7, 11, 12, 13, 14, 15, 24, 25, 26] (by decide +kernel) (by decide +kernel)
set_option maxRecDepth 20000 in
theorem gX0_hasSymmetry_X0_complemented : GoodIn wsX0_hasSymmetry (wsV RX0 72 RX0 yX0_complemented wsX0_complemented) := goodIn_app (goodIn_of _ (by decide +kernel)) ggX0_hasSymmetry_X0_complemented
theorem dX0_hasSymmetry_0 : decode cX0_hasSymmetry 0 = .ok (.iload_n 3, 1) := by decide +kernel
theorem dX0_hasSymmetry_1 : decode cX0_hasSymmetry 1 = .ok (.tableswitch 108 0 2 #[27, 54, 92], 27) := by decide +kernel
theorem dX0_hasSymmetry_28 : decode cX0_hasSymmetry 28 = .ok (.aload_n 0, 1) := by decide +kernel
theorem dX0_hasSymmetry_29 : decode cX0_hasSymmetry 29 = .ok (.getfield 9, 3) := by decide +kernel
theorem dX0_hasSymmetry_32 : decode cX0_hasSymmetry 32 = .ok (.aload_n 0, 1) := by decide +kernel
theorem dX0_hasSymmetry_33 : decode cX0_hasSymmetry 33 = .ok (.getfield 15, 3) := by decide +kernel
theorem dX0_hasSymmetry_36 : decode cX0_hasSymmetry 36 = .ok (.if_icmp .ne 17, 3) := by decide +kernel
theorem dX0_hasSymmetry_39 : decode cX0_hasSymmetry 39 = .ok (.lload_n 1, 1) := by decide +kernel
theorem dX0_hasSymmetry_40 : decode cX0_hasSymmetry 40 = .ok (.aload_n 0, 1) := by decide +kernel
theorem dX0_hasSymmetry_41 : decode cX0_hasSymmetry 41 = .ok (.lload_n 1, 1) := by decide +kernel
theorem dX0_hasSymmetry_42 : decode cX0_hasSymmetry 42 = .ok (.invokevirtual 65, 3) := by decide +kernel
theorem dX0_hasSymmetry_45 : decode cX0_hasSymmetry 45 = .ok (.lcmp, 1) := by decide +kernel
theorem dX0_hasSymmetry_46 : decode cX0_hasSymmetry 46 = .ok (.ifCond .ne 7, 3) := by decide +kernel
theorem dX0_hasSymmetry_49 : decode cX0_hasSymmetry 49 = .ok (.iconst 1, 1) := by decide +kernel
theorem dX0_hasSymmetry_50 : decode cX0_hasSymmetry 50 = .ok (.goto 4, 3) := by decide +kernel
theorem dX0_hasSymmetry_53 : decode cX0_hasSymmetry 53 = .ok (.iconst 0, 1) := by decide +kernel
theorem dX0_hasSymmetry_54 : decode cX0_hasSymmetry 54 = .ok (.ireturn, 1) := by decide +kernel
theorem dX0_hasSymmetry_55 : decode cX0_hasSymmetry 55 = .ok (.aload_n 0, 1) := by decide +kernel
theorem dX0_hasSymmetry_56 : decode cX0_hasSymmetry 56 = .ok (.getfield 9, 3) := by decide +kernel
theorem dX0_hasSymmetry_59 : decode cX0_hasSymmetry 59 = .ok (.aload_n 0, 1) := by decide +kernel
theorem dX0_hasSymmetry_60 : decode cX0_hasSymmetry 60 = .ok (.getfield 15, 3) := by decide +kernel
theorem dX0_hasSymmetry_63 : decode cX0_hasSymmetry 63 = .ok (.if_icmp .ne 28, 3) := by decide +kernel
theorem dX0_hasSymmetry_66 : decode cX0_hasSymmetry 66 = .ok (.aload_n 0, 1) := by decide +kernel
theorem dX0_hasSymmetry_67 : decode cX0_hasSymmetry 67 = .ok (.getfield 15, 3) := by decide +kernel
theorem dX0_hasSymmetry_70 : decode cX0_hasSymmetry 70 = .ok (.aload_n 0, 1) := by decide +kernel
theorem dX0_hasSymmetry_71 : decode cX0_hasSymmetry 71 = .ok (.getfield 18, 3) := by decide +kernel
theorem dX0_hasSymmetry_74 : decode cX0_hasSymmetry 74 = .ok (.if_icmp .ne 17, 3) := by decide +kernel
theorem dX0_hasSymmetry_77 : decode cX0_hasSymmetry 77 = .ok (.lload_n 1, 1) := by decide +kernel
theorem dX0_hasSymmetry_78 : decode cX0_hasSymmetry 78 = .ok (.aload_n 0, 1) := by decide +kernel
theorem dX0_hasSymmetry_79 : decode cX0_hasSymmetry 79 = .ok (.lload_n 1, 1) := by decide +kernel
theorem dX0_hasSymmetry_80 : decode cX0_hasSymmetry 80 = .ok (.invokevirtual 69, 3) := by decide +kernel
theorem dX0_hasSymmetry_83 : decode cX0_hasSymmetry 83 = .ok (.lcmp, 1) := by decide +kernel
theorem dX0_hasSymmetry_84 : decode cX0_hasSymmetry 84 = .ok (.ifCond .ne 7, 3) := by decide +kernel
theorem dX0_hasSymmetry_87 : decode cX0_hasSymmetry 87 = .ok (.iconst 1, 1) := by decide +kernel
theorem dX0_hasSymmetry_88 : decode cX0_hasSymmetry 88 = .ok (.goto 4, 3) := by decide +kernel
theorem dX0_hasSymmetry_91 : decode cX0_hasSymmetry 91 = .ok (.iconst 0, 1) := by decide +kernel
theorem dX0_hasSymmetry_92 : decode cX0_hasSymmetry 92 = .ok (.ireturn, 1) := by decide +kernel
theorem dX0_hasSymmetry_93 : decode cX0_hasSymmetry 93 = .ok (.lload_n 1, 1) := by decide +kernel
theorem dX0_hasSymmetry_94 : decode cX0_hasSymmetry 94 = .ok (.aload_n 0, 1) := by decide +kernel
theorem dX0_hasSymmetry_95 : decode cX0_hasSymmetry 95 = .ok (.lload_n 1, 1) := by decide +kernel
theorem dX0_hasSymmetry_96 : decode cX0_hasSymmetry 96 = .ok (.invokevirtual 72, 3) := by decide +kernel
theorem dX0_hasSymmetry_99 : decode cX0_hasSymmetry 99 = .ok (.lcmp, 1) := by decide +kernel
theorem dX0_hasSymmetry_100 : decode cX0_hasSymmetry 100 = .ok (.ifCond .ne 7, 3) := by decide +kernel
theorem dX0_hasSymmetry_103 : decode cX0_hasSymmetry 103 = .ok (.iconst 1, 1) := by decide +kernel
theorem dX0_hasSymmetry_104 : decode cX0_hasSymmetry 104 = .ok (.goto 4, 3) := by decide +kernel
theorem dX0_hasSymmetry_107 : decode cX0_hasSymmetry 107 = .ok (.iconst 0, 1) := by decide +kernel
theorem dX0_hasSymmetry_108 : decode cX0_hasSymmetry 108 = .ok (.ireturn, 1) := by decide +kernel
theorem dX0_hasSymmetry_109 : decode cX0_hasSymmetry 109 = .ok (.aload_n 0, 1) := by decide +kernel
theorem dX0_hasSymmetry_110 : decode cX0_hasSymmetry 110 = .ok (.getfield 9, 3) := by decide +kernel
theorem dX0_hasSymmetry_113 : decode cX0_hasSymmetry 113 = .ok (.aload_n 0, 1) := by decide +kernel
theorem dX0_hasSymmetry_114 : decode cX0_hasSymmetry 114 = .ok (.getfield 15, 3) := by decide +kernel
theorem dX0_hasSymmetry_117 : decode cX0_hasSymmetry 117 = .ok (.if_icmp .ne 21, 3) := by decide +kernel
theorem dX0_hasSymmetry_120 : decode cX0_hasSymmetry 120 = .ok (.lload_n 1, 1) := by decide +kernel
theorem dX0_hasSymmetry_121 : decode cX0_hasSymmetry 121 = .ok (.aload_n 0, 1) := by decide +kernel
theorem dX0_hasSymmetry_122 : decode cX0_hasSymmetry 122 = .ok (.aload_n 0, 1) := by decide +kernel
theorem dX0_hasSymmetry_123 : decode cX0_hasSymmetry 123 = .ok (.lload_n 1, 1) := by decide +kernel
theorem dX0_hasSymmetry_124 : decode cX0_hasSymmetry 124 = .ok (.invokevirtual 65, 3) := by decide +kernel
theorem dX0_hasSymmetry_127 : decode cX0_hasSymmetry 127 = .ok (.invokevirtual 72, 3) := by decide +kernel
theorem dX0_hasSymmetry_130 : decode cX0_hasSymmetry 130 = .ok (.lcmp, 1) := by decide +kernel
theorem dX0_hasSymmetry_131 : decode cX0_hasSymmetry 131 = .ok (.ifCond .ne 7, 3) := by decide +kernel
theorem dX0_hasSymmetry_134 : decode cX0_hasSymmetry 134 = .ok (.iconst 1, 1) := by decide +kernel
theorem dX0_hasSymmetry_135 : decode cX0_hasSymmetry 135 = .ok (.goto 4, 3) := by decide +kernel
theorem dX0_hasSymmetry_138 : decode cX0_hasSymmetry 138 = .ok (.iconst 0, 1) := by decide +kernel
theorem dX0_hasSymmetry_139 : decode cX0_hasSymmetry 139 = .ok (.ireturn, 1) := by decide +kernel
set_option maxRecDepth 20000 in
theorem ggX0_letter_X0_isFlat : GoodIn wsX0_letter wsX0_isFlat := goodIn_r _ [8, 1, 9, 10, 11, 7, 12, 2, 13, 14, 15, 16] (by decide +kernel) (by decide +kernel)
set_option maxRecDepth 20000 in
theorem gX0_letter_X0_isFlat : GoodIn wsX0_letter (wsV RX0 76 RX0 yX0_isFlat wsX0_isFlat) := goodIn_app (goodIn_of _ (by decide +kernel)) ggX0_letter_X0_isFlat
theorem dX0_letter_0 : decode cX0_letter 0 = .ok (.iload 4, 2) := by decide +kernel
theorem dX0_letter_2 : decode cX0_letter 2 = .ok (.aload_n 0, 1) := by decide +kernel
theorem dX0_letter_3 : decode cX0_letter 3 = .ok (.getfield 15, 3) := by decide +kernel
theorem dX0_letter_6 : decode cX0_letter 6 = .ok (.aload_n 0, 1) := by decide +kernel
theorem dX0_letter_7 : decode cX0_letter 7 = .ok (.getfield 18, 3) := by decide +kernel
theorem dX0_letter_10 : decode cX0_letter 10 = .ok (.iadd, 1) := by decide +kernel
theorem dX0_letter_11 : decode cX0_letter 11 = .ok (.if_icmp .lt 6, 3) := by decide +kernel
theorem dX0_letter_14 : decode cX0_letter 14 = .ok (.ldc 75, 2) := by decide +kernel
theorem dX0_letter_16 : decode cX0_letter 16 = .ok (.ireturn, 1) := by decide +kernel
theorem dX0_letter_17 : decode cX0_letter 17 = .ok (.aload_n 0, 1) := by decide +kernel
theorem dX0_letter_18 : decode cX0_letter 18 = .ok (.getfield 18, 3) := by decide +kernel
theorem dX0_letter_21 : decode cX0_letter 21 = .ok (.istore 5, 2) := by decide +kernel
theorem dX0_letter_23 : decode cX0_letter 23 = .ok (.iconst 0, 1) := by decide +kernel
theorem dX0_letter_24 : decode cX0_letter 24 = .ok (.istore 6, 2) := by decide +kernel
theorem dX0_letter_26 : decode cX0_letter 26 = .ok (.iconst 0, 1) := by decide +kernel
theorem dX0_letter_27 : decode cX0_letter 27 = .ok (.istore 7, 2) := by decide +kernel
theorem dX0_letter_29 : decode cX0_letter 29 = .ok (.iload 7, 2) := by decide +kernel
theorem dX0_letter_31 : decode cX0_letter 31 = .ok (.iload 4, 2) := by decide +kernel
theorem dX0_letter_33 : decode cX0_letter 33 = .ok (.if_icmp .ge 31, 3) := by decide +kernel
theorem dX0_letter_36 : decode cX0_letter 36 = .ok (.aload_n 0, 1) := by decide +kernel
theorem dX0_letter_37 : decode cX0_letter 37 = .ok (.lload_n 1, 1) := by decide +kernel
theorem dX0_letter_38 : decode cX0_letter 38 = .ok (.iload_n 3, 1) := by decide +kernel
theorem dX0_letter_39 : decode cX0_letter 39 = .ok (.iload 6, 2) := by decide +kernel
theorem dX0_letter_41 : decode cX0_letter 41 = .ok (.iload 5, 2) := by decide +kernel
theorem dX0_letter_43 : decode cX0_letter 43 = .ok (.invokevirtual 76, 3) := by decide +kernel
theorem dX0_letter_46 : decode cX0_letter 46 = .ok (.ifCond .eq 9, 3) := by decide +kernel
theorem dX0_letter_49 : decode cX0_letter 49 = .ok (.iinc 6 1, 3) := by decide +kernel
theorem dX0_letter_52 : decode cX0_letter 52 = .ok (.goto 6, 3) := by decide +kernel
theorem dX0_letter_55 : decode cX0_letter 55 = .ok (.iinc 5 (-1), 3) := by decide +kernel
theorem dX0_letter_58 : decode cX0_letter 58 = .ok (.iinc 7 1, 3) := by decide +kernel
theorem dX0_letter_61 : decode cX0_letter 61 = .ok (.goto (-32), 3) := by decide +kernel
theorem dX0_letter_64 : decode cX0_letter 64 = .ok (.aload_n 0, 1) := by decide +kernel
theorem dX0_letter_65 : decode cX0_letter 65 = .ok (.lload_n 1, 1) := by decide +kernel
theorem dX0_letter_66 : decode cX0_letter 66 = .ok (.iload_n 3, 1) := by decide +kernel
theorem dX0_letter_67 : decode cX0_letter 67 = .ok (.iload 6, 2) := by decide +kernel
theorem dX0_letter_69 : decode cX0_letter 69 = .ok (.iload 5, 2) := by decide +kernel
theorem dX0_letter_71 : decode cX0_letter 71 = .ok (.invokevirtual 76, 3) := by decide +kernel
theorem dX0_letter_74 : decode cX0_letter 74 = .ok (.ifCond .eq 8, 3) := by decide +kernel
theorem dX0_letter_77 : decode cX0_letter 77 = .ok (.bipush 101, 2) := by decide +kernel
theorem dX0_letter_79 : decode cX0_letter 79 = .ok (.goto 5, 3) := by decide +kernel
theorem dX0_letter_82 : decode cX0_letter 82 = .ok (.bipush 110, 2) := by decide +kernel
theorem dX0_letter_84 : decode cX0_letter 84 = .ok (.ireturn, 1) := by decide +kernel
set_option maxRecDepth 20000 in
theorem ggX0_isFlat_X0_level : GoodIn wsX0_isFlat wsX0_level := goodIn_r _ [6, 7, 8, 1, 9, 10, 11] (by decide +kernel) (by decide +kernel)
set_option maxRecDepth 20000 in
theorem gX0_isFlat_X0_level : GoodIn wsX0_isFlat (wsV RX0 33 RX0 yX0_level wsX0_level) := goodIn_app (goodIn_of _ (by decide +kernel)) ggX0_isFlat_X0_level
theorem dX0_isFlat_0 : decode cX0_isFlat 0 = .ok (.iload 4, 2) := by decide +kernel
theorem dX0_isFlat_2 : decode cX0_isFlat 2 = .ok (.aload_n 0, 1) := by decide +kernel
theorem dX0_isFlat_3 : decode cX0_isFlat 3 = .ok (.getfield 15, 3) := by decide +kernel
theorem dX0_isFlat_6 : decode cX0_isFlat 6 = .ok (.if_icmp .ge 20, 3) := by decide +kernel
theorem dX0_isFlat_9 : decode cX0_isFlat 9 = .ok (.aload_n 0, 1) := by decide +kernel
theorem dX0_isFlat_10 : decode cX0_isFlat 10 = .ok (.lload_n 1, 1) := by decide +kernel
theorem dX0_isFlat_11 : decode cX0_isFlat 11 = .ok (.iload_n 3, 1) := by decide +kernel
theorem dX0_isFlat_12 : decode cX0_isFlat 12 = .ok (.iload 4, 2) := by decide +kernel
theorem dX0_isFlat_14 : decode cX0_isFlat 14 = .ok (.invokevirtual 33, 3) := by decide +kernel
theorem dX0_isFlat_17 : decode cX0_isFlat 17 = .ok (.iload 5, 2) := by decide +kernel
theorem dX0_isFlat_19 : decode cX0_isFlat 19 = .ok (.if_icmp .ne 7, 3) := by decide +kernel
theorem dX0_isFlat_22 : decode cX0_isFlat 22 = .ok (.iconst 1, 1) := by decide +kernel
theorem dX0_isFlat_23 : decode cX0_isFlat 23 = .ok (.goto 4, 3) := by decide +kernel
theorem dX0_isFlat_26 : decode cX0_isFlat 26 = .ok (.iconst 0, 1) := by decide +kernel
theorem dX0_isFlat_27 : decode cX0_isFlat 27 = .ok (.ireturn, 1) := by decide +kernel
set_option maxRecDepth 20000 in
theorem ggX0_faceAt_X0_level : GoodIn wsX0_faceAt wsX0_level := goodIn_r _ [7, 8, 1, 2, 12, 13, 14] (by decide +kernel) (by decide +kernel)
set_option maxRecDepth 20000 in
theorem gX0_faceAt_X0_level : GoodIn wsX0_faceAt (wsV RX0 33 RX0 yX0_level wsX0_level) := goodIn_app (goodIn_of _ (by decide +kernel)) ggX0_faceAt_X0_level
set_option maxRecDepth 20000 in
theorem ggX0_faceAt_X0_isSideFace : GoodIn wsX0_faceAt wsX0_isSideFace := goodIn_r _ [11] (by decide +kernel) (by decide +kernel)
set_option maxRecDepth 20000 in
theorem gX0_faceAt_X0_isSideFace : GoodIn wsX0_faceAt (va_wsS RX0 80 yX0_isSideFace wsX0_isSideFace) := goodIn_app (goodIn_of _ (by decide +kernel)) ggX0_faceAt_X0_isSideFace
theorem dX0_faceAt_0 : decode cX0_faceAt 0 = .ok (.iconst (-1), 1) := by decide +kernel
theorem dX0_faceAt_1 : decode cX0_faceAt 1 = .ok (.istore 5, 2) := by decide +kernel
theorem dX0_faceAt_3 : decode cX0_faceAt 3 = .ok (.iload 5, 2) := by decide +kernel
theorem dX0_faceAt_5 : decode cX0_faceAt 5 = .ok (.aload_n 0, 1) := by decide +kernel
theorem dX0_faceAt_6 : decode cX0_faceAt 6 = .ok (.getfield 9, 3) := by decide +kernel
theorem dX0_faceAt_9 : decode cX0_faceAt 9 = .ok (.if_icmp .ge 166, 3) := by decide +kernel
theorem dX0_faceAt_12 : decode cX0_faceAt 12 = .ok (.iconst (-1), 1) := by decide +kernel
theorem dX0_faceAt_13 : decode cX0_faceAt 13 = .ok (.istore 6, 2) := by decide +kernel
theorem dX0_faceAt_15 : decode cX0_faceAt 15 = .ok (.iload 6, 2) := by decide +kernel
theorem dX0_faceAt_17 : decode cX0_faceAt 17 = .ok (.aload_n 0, 1) := by decide +kernel
theorem dX0_faceAt_18 : decode cX0_faceAt 18 = .ok (.getfield 15, 3) := by decide +kernel
theorem dX0_faceAt_21 : decode cX0_faceAt 21 = .ok (.if_icmp .ge 148, 3) := by decide +kernel
theorem dX0_faceAt_24 : decode cX0_faceAt 24 = .ok (.iconst 2, 1) := by decide +kernel
theorem dX0_faceAt_25 : decode cX0_faceAt 25 = .ok (.iload 6, 2) := by decide +kernel
theorem dX0_faceAt_27 : decode cX0_faceAt 27 = .ok (.iload 5, 2) := by decide +kernel
theorem dX0_faceAt_29 : decode cX0_faceAt 29 = .ok (.isub, 1) := by decide +kernel
theorem dX0_faceAt_30 : decode cX0_faceAt 30 = .ok (.imul, 1) := by decide +kernel
theorem dX0_faceAt_31 : decode cX0_faceAt 31 = .ok (.istore 7, 2) := by decide +kernel
theorem dX0_faceAt_33 : decode cX0_faceAt 33 = .ok (.iconst 2, 1) := by decide +kernel
theorem dX0_faceAt_34 : decode cX0_faceAt 34 = .ok (.iload 5, 2) := by decide +kernel
theorem dX0_faceAt_36 : decode cX0_faceAt 36 = .ok (.imul, 1) := by decide +kernel
theorem dX0_faceAt_37 : decode cX0_faceAt 37 = .ok (.iconst 2, 1) := by decide +kernel
theorem dX0_faceAt_38 : decode cX0_faceAt 38 = .ok (.iload 6, 2) := by decide +kernel
theorem dX0_faceAt_40 : decode cX0_faceAt 40 = .ok (.imul, 1) := by decide +kernel
theorem dX0_faceAt_41 : decode cX0_faceAt 41 = .ok (.iadd, 1) := by decide +kernel
theorem dX0_faceAt_42 : decode cX0_faceAt 42 = .ok (.istore 8, 2) := by decide +kernel
theorem dX0_faceAt_44 : decode cX0_faceAt 44 = .ok (.aload_n 0, 1) := by decide +kernel
theorem dX0_faceAt_45 : decode cX0_faceAt 45 = .ok (.lload_n 1, 1) := by decide +kernel
theorem dX0_faceAt_46 : decode cX0_faceAt 46 = .ok (.iload 5, 2) := by decide +kernel
theorem dX0_faceAt_48 : decode cX0_faceAt 48 = .ok (.iload 6, 2) := by decide +kernel
theorem dX0_faceAt_50 : decode cX0_faceAt 50 = .ok (.invokevirtual 33, 3) := by decide +kernel
theorem dX0_faceAt_53 : decode cX0_faceAt 53 = .ok (.istore 9, 2) := by decide +kernel
theorem dX0_faceAt_55 : decode cX0_faceAt 55 = .ok (.iload 5, 2) := by decide +kernel
theorem dX0_faceAt_57 : decode cX0_faceAt 57 = .ok (.ifCond .lt 30, 3) := by decide +kernel
theorem dX0_faceAt_60 : decode cX0_faceAt 60 = .ok (.iload 6, 2) := by decide +kernel
theorem dX0_faceAt_62 : decode cX0_faceAt 62 = .ok (.ifCond .lt 25, 3) := by decide +kernel
theorem dX0_faceAt_65 : decode cX0_faceAt 65 = .ok (.iload_n 3, 1) := by decide +kernel
theorem dX0_faceAt_66 : decode cX0_faceAt 66 = .ok (.iload 7, 2) := by decide +kernel
theorem dX0_faceAt_68 : decode cX0_faceAt 68 = .ok (.if_icmp .ne 19, 3) := by decide +kernel
theorem dX0_faceAt_71 : decode cX0_faceAt 71 = .ok (.iload 4, 2) := by decide +kernel
theorem dX0_faceAt_73 : decode cX0_faceAt 73 = .ok (.iconst 4, 1) := by decide +kernel
theorem dX0_faceAt_74 : decode cX0_faceAt 74 = .ok (.iload 9, 2) := by decide +kernel
theorem dX0_faceAt_76 : decode cX0_faceAt 76 = .ok (.imul, 1) := by decide +kernel
theorem dX0_faceAt_77 : decode cX0_faceAt 77 = .ok (.iload 8, 2) := by decide +kernel
theorem dX0_faceAt_79 : decode cX0_faceAt 79 = .ok (.isub, 1) := by decide +kernel
theorem dX0_faceAt_80 : decode cX0_faceAt 80 = .ok (.iconst 2, 1) := by decide +kernel
theorem dX0_faceAt_81 : decode cX0_faceAt 81 = .ok (.isub, 1) := by decide +kernel
theorem dX0_faceAt_82 : decode cX0_faceAt 82 = .ok (.if_icmp .ne 5, 3) := by decide +kernel
theorem dX0_faceAt_85 : decode cX0_faceAt 85 = .ok (.iconst 1, 1) := by decide +kernel
theorem dX0_faceAt_86 : decode cX0_faceAt 86 = .ok (.ireturn, 1) := by decide +kernel
theorem dX0_faceAt_87 : decode cX0_faceAt 87 = .ok (.iload 6, 2) := by decide +kernel
theorem dX0_faceAt_89 : decode cX0_faceAt 89 = .ok (.ifCond .lt 36, 3) := by decide +kernel
theorem dX0_faceAt_92 : decode cX0_faceAt 92 = .ok (.iload_n 3, 1) := by decide +kernel
theorem dX0_faceAt_93 : decode cX0_faceAt 93 = .ok (.iload 7, 2) := by decide +kernel
theorem dX0_faceAt_95 : decode cX0_faceAt 95 = .ok (.iconst 1, 1) := by decide +kernel
theorem dX0_faceAt_96 : decode cX0_faceAt 96 = .ok (.isub, 1) := by decide +kernel
theorem dX0_faceAt_97 : decode cX0_faceAt 97 = .ok (.if_icmp .ne 28, 3) := by decide +kernel
theorem dX0_faceAt_100 : decode cX0_faceAt 100 = .ok (.iload 4, 2) := by decide +kernel
theorem dX0_faceAt_102 : decode cX0_faceAt 102 = .ok (.iload 8, 2) := by decide +kernel
theorem dX0_faceAt_104 : decode cX0_faceAt 104 = .ok (.aload_n 0, 1) := by decide +kernel
theorem dX0_faceAt_105 : decode cX0_faceAt 105 = .ok (.lload_n 1, 1) := by decide +kernel
theorem dX0_faceAt_106 : decode cX0_faceAt 106 = .ok (.iload 5, 2) := by decide +kernel
theorem dX0_faceAt_108 : decode cX0_faceAt 108 = .ok (.iconst 1, 1) := by decide +kernel
theorem dX0_faceAt_109 : decode cX0_faceAt 109 = .ok (.iadd, 1) := by decide +kernel
theorem dX0_faceAt_110 : decode cX0_faceAt 110 = .ok (.iload 6, 2) := by decide +kernel
theorem dX0_faceAt_112 : decode cX0_faceAt 112 = .ok (.invokevirtual 33, 3) := by decide +kernel
theorem dX0_faceAt_115 : decode cX0_faceAt 115 = .ok (.iload 9, 2) := by decide +kernel
theorem dX0_faceAt_117 : decode cX0_faceAt 117 = .ok (.invokestatic 80, 3) := by decide +kernel
theorem dX0_faceAt_120 : decode cX0_faceAt 120 = .ok (.ifCond .eq 5, 3) := by decide +kernel
theorem dX0_faceAt_123 : decode cX0_faceAt 123 = .ok (.iconst 2, 1) := by decide +kernel
theorem dX0_faceAt_124 : decode cX0_faceAt 124 = .ok (.ireturn, 1) := by decide +kernel
theorem dX0_faceAt_125 : decode cX0_faceAt 125 = .ok (.iload 5, 2) := by decide +kernel
theorem dX0_faceAt_127 : decode cX0_faceAt 127 = .ok (.ifCond .lt 36, 3) := by decide +kernel
theorem dX0_faceAt_130 : decode cX0_faceAt 130 = .ok (.iload_n 3, 1) := by decide +kernel
theorem dX0_faceAt_131 : decode cX0_faceAt 131 = .ok (.iload 7, 2) := by decide +kernel
theorem dX0_faceAt_133 : decode cX0_faceAt 133 = .ok (.iconst 1, 1) := by decide +kernel
theorem dX0_faceAt_134 : decode cX0_faceAt 134 = .ok (.iadd, 1) := by decide +kernel
theorem dX0_faceAt_135 : decode cX0_faceAt 135 = .ok (.if_icmp .ne 28, 3) := by decide +kernel
theorem dX0_faceAt_138 : decode cX0_faceAt 138 = .ok (.iload 4, 2) := by decide +kernel
theorem dX0_faceAt_140 : decode cX0_faceAt 140 = .ok (.iload 8, 2) := by decide +kernel
theorem dX0_faceAt_142 : decode cX0_faceAt 142 = .ok (.aload_n 0, 1) := by decide +kernel
theorem dX0_faceAt_143 : decode cX0_faceAt 143 = .ok (.lload_n 1, 1) := by decide +kernel
theorem dX0_faceAt_144 : decode cX0_faceAt 144 = .ok (.iload 5, 2) := by decide +kernel
theorem dX0_faceAt_146 : decode cX0_faceAt 146 = .ok (.iload 6, 2) := by decide +kernel
theorem dX0_faceAt_148 : decode cX0_faceAt 148 = .ok (.iconst 1, 1) := by decide +kernel
theorem dX0_faceAt_149 : decode cX0_faceAt 149 = .ok (.iadd, 1) := by decide +kernel
theorem dX0_faceAt_150 : decode cX0_faceAt 150 = .ok (.invokevirtual 33, 3) := by decide +kernel
theorem dX0_faceAt_153 : decode cX0_faceAt 153 = .ok (.iload 9, 2) := by decide +kernel
theorem dX0_faceAt_155 : decode cX0_faceAt 155 = .ok (.invokestatic 80, 3) := by decide +kernel
theorem dX0_faceAt_158 : decode cX0_faceAt 158 = .ok (.ifCond .eq 5, 3) := by decide +kernel
theorem dX0_faceAt_161 : decode cX0_faceAt 161 = .ok (.iconst 3, 1) := by decide +kernel
theorem dX0_faceAt_162 : decode cX0_faceAt 162 = .ok (.ireturn, 1) := by decide +kernel
theorem dX0_faceAt_163 : decode cX0_faceAt 163 = .ok (.iinc 6 1, 3) := by decide +kernel
theorem dX0_faceAt_166 : decode cX0_faceAt 166 = .ok (.goto (-151), 3) := by decide +kernel
theorem dX0_faceAt_169 : decode cX0_faceAt 169 = .ok (.iinc 5 1, 3) := by decide +kernel
theorem dX0_faceAt_172 : decode cX0_faceAt 172 = .ok (.goto (-169), 3) := by decide +kernel
theorem dX0_faceAt_175 : decode cX0_faceAt 175 = .ok (.iconst 0, 1) := by decide +kernel
theorem dX0_faceAt_176 : decode cX0_faceAt 176 = .ok (.ireturn, 1) := by decide +kernel
theorem dX0_isSideFace_0 : decode cX0_isSideFace 0 = .ok (.iload_n 2, 1) := by decide +kernel
theorem dX0_isSideFace_1 : decode cX0_isSideFace 1 = .ok (.iconst 1, 1) := by decide +kernel
theorem dX0_isSideFace_2 : decode cX0_isSideFace 2 = .ok (.iadd, 1) := by decide +kernel
theorem dX0_isSideFace_3 : decode cX0_isSideFace 3 = .ok (.istore 4, 2) := by decide +kernel
theorem dX0_isSideFace_5 : decode cX0_isSideFace 5 = .ok (.iload 4, 2) := by decide +kernel
theorem dX0_isSideFace_7 : decode cX0_isSideFace 7 = .ok (.iload_n 3, 1) := by decide +kernel
theorem dX0_isSideFace_8 : decode cX0_isSideFace 8 = .ok (.if_icmp .gt 23, 3) := by decide +kernel
theorem dX0_isSideFace_11 : decode cX0_isSideFace 11 = .ok (.iload_n 0, 1) := by decide +kernel
theorem dX0_isSideFace_12 : decode cX0_isSideFace 12 = .ok (.iconst 4, 1) := by decide +kernel
theorem dX0_isSideFace_13 : decode cX0_isSideFace 13 = .ok (.iload 4, 2) := by decide +kernel
theorem dX0_isSideFace_15 : decode cX0_isSideFace 15 = .ok (.imul, 1) := by decide +kernel
theorem dX0_isSideFace_16 : decode cX0_isSideFace 16 = .ok (.iload_n 1, 1) := by decide +kernel
theorem dX0_isSideFace_17 : decode cX0_isSideFace 17 = .ok (.isub, 1) := by decide +kernel
theorem dX0_isSideFace_18 : decode cX0_isSideFace 18 = .ok (.iconst 5, 1) := by decide +kernel
theorem dX0_isSideFace_19 : decode cX0_isSideFace 19 = .ok (.isub, 1) := by decide +kernel
theorem dX0_isSideFace_20 : decode cX0_isSideFace 20 = .ok (.if_icmp .ne 5, 3) := by decide +kernel
theorem dX0_isSideFace_23 : decode cX0_isSideFace 23 = .ok (.iconst 1, 1) := by decide +kernel
theorem dX0_isSideFace_24 : decode cX0_isSideFace 24 = .ok (.ireturn, 1) := by decide +kernel
theorem dX0_isSideFace_25 : decode cX0_isSideFace 25 = .ok (.iinc 4 1, 3) := by decide +kernel
theorem dX0_isSideFace_28 : decode cX0_isSideFace 28 = .ok (.goto (-23), 3) := by decide +kernel
theorem dX0_isSideFace_31 : decode cX0_isSideFace 31 = .ok (.iconst 0, 1) := by decide +kernel
theorem dX0_isSideFace_32 : decode cX0_isSideFace 32 = .ok (.ireturn, 1) := by decide +kernel
theorem dX1_init_0 : decode cX1_init 0 = .ok (.aload_n 0, 1) := by decide +kernel
theorem dX1_init_1 : decode cX1_init 1 = .ok (.invokespecial 1, 3) := by decide +kernel
theorem dX1_init_4 : decode cX1_init 4 = .ok (.aload_n 0, 1) := by decide +kernel
theorem dX1_init_5 : decode cX1_init 5 = .ok (.aload_n 1, 1) := by decide +kernel
theorem dX1_init_6 : decode cX1_init 6 = .ok (.putfield 7, 3) := by decide +kernel
theorem dX1_init_9 : decode cX1_init 9 = .ok (.aload_n 0, 1) := by decide +kernel
theorem dX1_init_10 : decode cX1_init 10 = .ok (.lload_n 2, 1) := by decide +kernel
theorem dX1_init_11 : decode cX1_init 11 = .ok (.putfield 13, 3) := by decide +kernel
theorem dX1_init_14 : decode cX1_init 14 = .ok (.return_, 1) := by decide +kernel
set_option maxRecDepth 20000 in
theorem ggX1_volume_X0_volume : GoodIn wsX1_volume wsX0_volume := goodIn_r _ [5] (by decide +kernel) (by decide +kernel)
set_option maxRecDepth 20000 in
theorem gX1_volume_X0_volume : GoodIn wsX1_volume (va_wsS RX1 17 yX0_volume wsX0_volume) := goodIn_app (goodIn_of _ (by decide +kernel)) ggX1_volume_X0_volume
theorem dX1_volume_0 : decode cX1_volume 0 = .ok (.aload_n 0, 1) := by decide +kernel
theorem dX1_volume_1 : decode cX1_volume 1 = .ok (.getfield 13, 3) := by decide +kernel
theorem dX1_volume_4 : decode cX1_volume 4 = .ok (.invokestatic 17, 3) := by decide +kernel
theorem dX1_volume_7 : decode cX1_volume 7 = .ok (.ireturn, 1) := by decide +kernel
set_option maxRecDepth 20000 in
theorem ggX1_turned_X0_init : GoodIn wsX1_turned wsX0_init := goodIn_r _ [13, 14, 15, 16, 17, 18, 19, 45, 46, 47] (by decide +kernel) (by decide +kernel)
set_option maxRecDepth 20000 in
theorem gX1_turned_X0_init_n33 : GoodIn wsX1_turned (wsX0_init) := ggX1_turned_X0_init
set_option maxRecDepth 20000 in
theorem ggX1_turned_X0_transposed : GoodIn wsX1_turned wsX0_transposed := goodIn_r _ [23, 17, 18, 24, 25, 6, 26, 27, 28, 29, 30, 19, 45, 46, 47] (by decide +kernel) (by decide +kernel)
set_option maxRecDepth 20000 in
theorem gX1_turned_X0_transposed : GoodIn wsX1_turned (wsV RX1 36 RX0 yX0_transposed wsX0_transposed) := goodIn_app (goodIn_of _ (by decide +kernel)) ggX1_turned_X0_transposed
set_option maxRecDepth 20000 in
theorem ggX1_turned_X1_init : GoodIn wsX1_turned wsX1_init := goodIn_r _ [33, 34, 15, 16, 7, 11, 43, 44] (by decide +kernel) (by decide +kernel)
set_option maxRecDepth 20000 in
theorem gX1_turned_X1_init : GoodIn wsX1_turned (wsX1_init) := ggX1_turned_X1_init
set_option maxRecDepth 20000 in
theorem ggX1_turned_X0_rotated : GoodIn wsX1_turned wsX0_rotated := goodIn_r _ [38, 17, 18, 27, 28, 29, 6, 30, 19, 24, 25, 26, 45, 46, 47] (by decide +kernel) (by decide +kernel)
set_option maxRecDepth 20000 in
theorem gX1_turned_X0_rotated : GoodIn wsX1_turned (wsV RX1 43 RX0 yX0_rotated wsX0_rotated) := goodIn_app (goodIn_of _ (by decide +kernel)) ggX1_turned_X0_rotated
set_option maxRecDepth 20000 in
theorem ggX1_turned_X0_complemented : GoodIn wsX1_turned wsX0_complemented := goodIn_r _ [42, 17, 18, 19, 24, 25, 6, 26, 27, 28, 29, 30, 45, 46, 47] (by decide +kernel) (by decide +kernel)
set_option maxRecDepth 20000 in
theorem gX1_turned_X0_complemented : GoodIn wsX1_turned (wsV RX1 46 RX0 yX0_complemented wsX0_complemented) := goodIn_app (goodIn_of _ (by decide +kernel)) ggX1_turned_X0_complemented
theorem dX1_turned_0 : decode cX1_turned 0 = .ok (.iload_n 1, 1) := by decide +kernel
theorem dX1_turned_1 : decode cX1_turned 1 = .ok (.lookupswitch 121 #[(0, 27), (1, 74)], 27) := by decide +kernel
theorem dX1_turned_28 : decode cX1_turned 28 = .ok (.new 8, 3) := by decide +kernel
theorem dX1_turned_31 : decode cX1_turned 31 = .ok (.dup, 1) := by decide +kernel
theorem dX1_turned_32 : decode cX1_turned 32 = .ok (.new 18, 3) := by decide +kernel
theorem dX1_turned_35 : decode cX1_turned 35 = .ok (.dup, 1) := by decide +kernel
theorem dX1_turned_36 : decode cX1_turned 36 = .ok (.aload_n 0, 1) := by decide +kernel
theorem dX1_turned_37 : decode cX1_turned 37 = .ok (.getfield 7, 3) := by decide +kernel
theorem dX1_turned_40 : decode cX1_turned 40 = .ok (.getfield 23, 3) := by decide +kernel
theorem dX1_turned_43 : decode cX1_turned 43 = .ok (.aload_n 0, 1) := by decide +kernel
theorem dX1_turned_44 : decode cX1_turned 44 = .ok (.getfield 7, 3) := by decide +kernel
theorem dX1_turned_47 : decode cX1_turned 47 = .ok (.getfield 27, 3) := by decide +kernel
theorem dX1_turned_50 : decode cX1_turned 50 = .ok (.aload_n 0, 1) := by decide +kernel
theorem dX1_turned_51 : decode cX1_turned 51 = .ok (.getfield 7, 3) := by decide +kernel
theorem dX1_turned_54 : decode cX1_turned 54 = .ok (.getfield 30, 3) := by decide +kernel
theorem dX1_turned_57 : decode cX1_turned 57 = .ok (.invokespecial 33, 3) := by decide +kernel
theorem dX1_turned_60 : decode cX1_turned 60 = .ok (.aload_n 0, 1) := by decide +kernel
theorem dX1_turned_61 : decode cX1_turned 61 = .ok (.getfield 7, 3) := by decide +kernel
theorem dX1_turned_64 : decode cX1_turned 64 = .ok (.aload_n 0, 1) := by decide +kernel
theorem dX1_turned_65 : decode cX1_turned 65 = .ok (.getfield 13, 3) := by decide +kernel
theorem dX1_turned_68 : decode cX1_turned 68 = .ok (.invokevirtual 36, 3) := by decide +kernel
theorem dX1_turned_71 : decode cX1_turned 71 = .ok (.invokespecial 40, 3) := by decide +kernel
theorem dX1_turned_74 : decode cX1_turned 74 = .ok (.areturn, 1) := by decide +kernel
theorem dX1_turned_75 : decode cX1_turned 75 = .ok (.new 8, 3) := by decide +kernel
theorem dX1_turned_78 : decode cX1_turned 78 = .ok (.dup, 1) := by decide +kernel
theorem dX1_turned_79 : decode cX1_turned 79 = .ok (.new 18, 3) := by decide +kernel
theorem dX1_turned_82 : decode cX1_turned 82 = .ok (.dup, 1) := by decide +kernel
theorem dX1_turned_83 : decode cX1_turned 83 = .ok (.aload_n 0, 1) := by decide +kernel
theorem dX1_turned_84 : decode cX1_turned 84 = .ok (.getfield 7, 3) := by decide +kernel
theorem dX1_turned_87 : decode cX1_turned 87 = .ok (.getfield 23, 3) := by decide +kernel
theorem dX1_turned_90 : decode cX1_turned 90 = .ok (.aload_n 0, 1) := by decide +kernel
theorem dX1_turned_91 : decode cX1_turned 91 = .ok (.getfield 7, 3) := by decide +kernel
theorem dX1_turned_94 : decode cX1_turned 94 = .ok (.getfield 30, 3) := by decide +kernel
theorem dX1_turned_97 : decode cX1_turned 97 = .ok (.aload_n 0, 1) := by decide +kernel
theorem dX1_turned_98 : decode cX1_turned 98 = .ok (.getfield 7, 3) := by decide +kernel
theorem dX1_turned_101 : decode cX1_turned 101 = .ok (.getfield 27, 3) := by decide +kernel
theorem dX1_turned_104 : decode cX1_turned 104 = .ok (.invokespecial 33, 3) := by decide +kernel
theorem dX1_turned_107 : decode cX1_turned 107 = .ok (.aload_n 0, 1) := by decide +kernel
theorem dX1_turned_108 : decode cX1_turned 108 = .ok (.getfield 7, 3) := by decide +kernel
theorem dX1_turned_111 : decode cX1_turned 111 = .ok (.aload_n 0, 1) := by decide +kernel
theorem dX1_turned_112 : decode cX1_turned 112 = .ok (.getfield 13, 3) := by decide +kernel
theorem dX1_turned_115 : decode cX1_turned 115 = .ok (.invokevirtual 43, 3) := by decide +kernel
theorem dX1_turned_118 : decode cX1_turned 118 = .ok (.invokespecial 40, 3) := by decide +kernel
theorem dX1_turned_121 : decode cX1_turned 121 = .ok (.areturn, 1) := by decide +kernel
theorem dX1_turned_122 : decode cX1_turned 122 = .ok (.new 8, 3) := by decide +kernel
theorem dX1_turned_125 : decode cX1_turned 125 = .ok (.dup, 1) := by decide +kernel
theorem dX1_turned_126 : decode cX1_turned 126 = .ok (.aload_n 0, 1) := by decide +kernel
theorem dX1_turned_127 : decode cX1_turned 127 = .ok (.getfield 7, 3) := by decide +kernel
theorem dX1_turned_130 : decode cX1_turned 130 = .ok (.aload_n 0, 1) := by decide +kernel
theorem dX1_turned_131 : decode cX1_turned 131 = .ok (.getfield 7, 3) := by decide +kernel
theorem dX1_turned_134 : decode cX1_turned 134 = .ok (.aload_n 0, 1) := by decide +kernel
theorem dX1_turned_135 : decode cX1_turned 135 = .ok (.getfield 13, 3) := by decide +kernel
theorem dX1_turned_138 : decode cX1_turned 138 = .ok (.invokevirtual 46, 3) := by decide +kernel
theorem dX1_turned_141 : decode cX1_turned 141 = .ok (.invokespecial 40, 3) := by decide +kernel
theorem dX1_turned_144 : decode cX1_turned 144 = .ok (.areturn, 1) := by decide +kernel
set_option maxRecDepth 20000 in
theorem ggX1_equalTo_X0_sameAs : GoodIn wsX1_equalTo wsX0_sameAs := goodIn_r _ [7, 8, 9, 10, 13, 14, 15] (by decide +kernel) (by decide +kernel)
set_option maxRecDepth 20000 in
theorem gX1_equalTo_X0_sameAs : GoodIn wsX1_equalTo (wsV RX1 49 RX0 yX0_sameAs wsX0_sameAs) := goodIn_app (goodIn_of _ (by decide +kernel)) ggX1_equalTo_X0_sameAs
theorem dX1_equalTo_0 : decode cX1_equalTo 0 = .ok (.aload_n 0, 1) := by decide +kernel
theorem dX1_equalTo_1 : decode cX1_equalTo 1 = .ok (.getfield 7, 3) := by decide +kernel
theorem dX1_equalTo_4 : decode cX1_equalTo 4 = .ok (.aload_n 1, 1) := by decide +kernel
theorem dX1_equalTo_5 : decode cX1_equalTo 5 = .ok (.getfield 7, 3) := by decide +kernel
theorem dX1_equalTo_8 : decode cX1_equalTo 8 = .ok (.invokevirtual 49, 3) := by decide +kernel
theorem dX1_equalTo_11 : decode cX1_equalTo 11 = .ok (.ifCond .eq 19, 3) := by decide +kernel
theorem dX1_equalTo_14 : decode cX1_equalTo 14 = .ok (.aload_n 0, 1) := by decide +kernel
theorem dX1_equalTo_15 : decode cX1_equalTo 15 = .ok (.getfield 13, 3) := by decide +kernel
theorem dX1_equalTo_18 : decode cX1_equalTo 18 = .ok (.aload_n 1, 1) := by decide +kernel
theorem dX1_equalTo_19 : decode cX1_equalTo 19 = .ok (.getfield 13, 3) := by decide +kernel
theorem dX1_equalTo_22 : decode cX1_equalTo 22 = .ok (.lcmp, 1) := by decide +kernel
theorem dX1_equalTo_23 : decode cX1_equalTo 23 = .ok (.ifCond .ne 7, 3) := by decide +kernel
theorem dX1_equalTo_26 : decode cX1_equalTo 26 = .ok (.iconst 1, 1) := by decide +kernel
theorem dX1_equalTo_27 : decode cX1_equalTo 27 = .ok (.goto 4, 3) := by decide +kernel
theorem dX1_equalTo_30 : decode cX1_equalTo 30 = .ok (.iconst 0, 1) := by decide +kernel
theorem dX1_equalTo_31 : decode cX1_equalTo 31 = .ok (.ireturn, 1) := by decide +kernel
theorem dX1_before_0 : decode cX1_before 0 = .ok (.aload_n 0, 1) := by decide +kernel
theorem dX1_before_1 : decode cX1_before 1 = .ok (.getfield 7, 3) := by decide +kernel
theorem dX1_before_4 : decode cX1_before 4 = .ok (.getfield 27, 3) := by decide +kernel
theorem dX1_before_7 : decode cX1_before 7 = .ok (.aload_n 1, 1) := by decide +kernel
theorem dX1_before_8 : decode cX1_before 8 = .ok (.getfield 7, 3) := by decide +kernel
theorem dX1_before_11 : decode cX1_before 11 = .ok (.getfield 27, 3) := by decide +kernel
theorem dX1_before_14 : decode cX1_before 14 = .ok (.if_icmp .eq 26, 3) := by decide +kernel
theorem dX1_before_17 : decode cX1_before 17 = .ok (.aload_n 0, 1) := by decide +kernel
theorem dX1_before_18 : decode cX1_before 18 = .ok (.getfield 7, 3) := by decide +kernel
theorem dX1_before_21 : decode cX1_before 21 = .ok (.getfield 27, 3) := by decide +kernel
theorem dX1_before_24 : decode cX1_before 24 = .ok (.aload_n 1, 1) := by decide +kernel
theorem dX1_before_25 : decode cX1_before 25 = .ok (.getfield 7, 3) := by decide +kernel
theorem dX1_before_28 : decode cX1_before 28 = .ok (.getfield 27, 3) := by decide +kernel
theorem dX1_before_31 : decode cX1_before 31 = .ok (.if_icmp .ge 7, 3) := by decide +kernel
theorem dX1_before_34 : decode cX1_before 34 = .ok (.iconst 1, 1) := by decide +kernel
theorem dX1_before_35 : decode cX1_before 35 = .ok (.goto 4, 3) := by decide +kernel
theorem dX1_before_38 : decode cX1_before 38 = .ok (.iconst 0, 1) := by decide +kernel
theorem dX1_before_39 : decode cX1_before 39 = .ok (.ireturn, 1) := by decide +kernel
theorem dX1_before_40 : decode cX1_before 40 = .ok (.aload_n 0, 1) := by decide +kernel
theorem dX1_before_41 : decode cX1_before 41 = .ok (.getfield 7, 3) := by decide +kernel
theorem dX1_before_44 : decode cX1_before 44 = .ok (.getfield 23, 3) := by decide +kernel
theorem dX1_before_47 : decode cX1_before 47 = .ok (.aload_n 1, 1) := by decide +kernel
theorem dX1_before_48 : decode cX1_before 48 = .ok (.getfield 7, 3) := by decide +kernel
theorem dX1_before_51 : decode cX1_before 51 = .ok (.getfield 23, 3) := by decide +kernel
theorem dX1_before_54 : decode cX1_before 54 = .ok (.if_icmp .eq 26, 3) := by decide +kernel
theorem dX1_before_57 : decode cX1_before 57 = .ok (.aload_n 0, 1) := by decide +kernel
theorem dX1_before_58 : decode cX1_before 58 = .ok (.getfield 7, 3) := by decide +kernel
theorem dX1_before_61 : decode cX1_before 61 = .ok (.getfield 23, 3) := by decide +kernel
theorem dX1_before_64 : decode cX1_before 64 = .ok (.aload_n 1, 1) := by decide +kernel
theorem dX1_before_65 : decode cX1_before 65 = .ok (.getfield 7, 3) := by decide +kernel
theorem dX1_before_68 : decode cX1_before 68 = .ok (.getfield 23, 3) := by decide +kernel
theorem dX1_before_71 : decode cX1_before 71 = .ok (.if_icmp .ge 7, 3) := by decide +kernel
theorem dX1_before_74 : decode cX1_before 74 = .ok (.iconst 1, 1) := by decide +kernel
theorem dX1_before_75 : decode cX1_before 75 = .ok (.goto 4, 3) := by decide +kernel
theorem dX1_before_78 : decode cX1_before 78 = .ok (.iconst 0, 1) := by decide +kernel
theorem dX1_before_79 : decode cX1_before 79 = .ok (.ireturn, 1) := by decide +kernel
theorem dX1_before_80 : decode cX1_before 80 = .ok (.aload_n 0, 1) := by decide +kernel
theorem dX1_before_81 : decode cX1_before 81 = .ok (.getfield 7, 3) := by decide +kernel
theorem dX1_before_84 : decode cX1_before 84 = .ok (.getfield 30, 3) := by decide +kernel
theorem dX1_before_87 : decode cX1_before 87 = .ok (.aload_n 1, 1) := by decide +kernel
theorem dX1_before_88 : decode cX1_before 88 = .ok (.getfield 7, 3) := by decide +kernel
theorem dX1_before_91 : decode cX1_before 91 = .ok (.getfield 30, 3) := by decide +kernel
theorem dX1_before_94 : decode cX1_before 94 = .ok (.if_icmp .eq 26, 3) := by decide +kernel
theorem dX1_before_97 : decode cX1_before 97 = .ok (.aload_n 0, 1) := by decide +kernel
theorem dX1_before_98 : decode cX1_before 98 = .ok (.getfield 7, 3) := by decide +kernel
theorem dX1_before_101 : decode cX1_before 101 = .ok (.getfield 30, 3) := by decide +kernel
theorem dX1_before_104 : decode cX1_before 104 = .ok (.aload_n 1, 1) := by decide +kernel
theorem dX1_before_105 : decode cX1_before 105 = .ok (.getfield 7, 3) := by decide +kernel
theorem dX1_before_108 : decode cX1_before 108 = .ok (.getfield 30, 3) := by decide +kernel
theorem dX1_before_111 : decode cX1_before 111 = .ok (.if_icmp .ge 7, 3) := by decide +kernel
theorem dX1_before_114 : decode cX1_before 114 = .ok (.iconst 1, 1) := by decide +kernel
theorem dX1_before_115 : decode cX1_before 115 = .ok (.goto 4, 3) := by decide +kernel
theorem dX1_before_118 : decode cX1_before 118 = .ok (.iconst 0, 1) := by decide +kernel
theorem dX1_before_119 : decode cX1_before 119 = .ok (.ireturn, 1) := by decide +kernel
theorem dX1_before_120 : decode cX1_before 120 = .ok (.aload_n 0, 1) := by decide +kernel
theorem dX1_before_121 : decode cX1_before 121 = .ok (.getfield 13, 3) := by decide +kernel
theorem dX1_before_124 : decode cX1_before 124 = .ok (.aload_n 1, 1) := by decide +kernel
theorem dX1_before_125 : decode cX1_before 125 = .ok (.getfield 13, 3) := by decide +kernel
theorem dX1_before_128 : decode cX1_before 128 = .ok (.lcmp, 1) := by decide +kernel
theorem dX1_before_129 : decode cX1_before 129 = .ok (.ifCond .ge 7, 3) := by decide +kernel
theorem dX1_before_132 : decode cX1_before 132 = .ok (.iconst 1, 1) := by decide +kernel
theorem dX1_before_133 : decode cX1_before 133 = .ok (.goto 4, 3) := by decide +kernel
theorem dX1_before_136 : decode cX1_before 136 = .ok (.iconst 0, 1) := by decide +kernel
theorem dX1_before_137 : decode cX1_before 137 = .ok (.ireturn, 1) := by decide +kernel
theorem dX2_init_0 : decode cX2_init 0 = .ok (.aload_n 0, 1) := by decide +kernel
theorem dX2_init_1 : decode cX2_init 1 = .ok (.invokespecial 1, 3) := by decide +kernel
theorem dX2_init_4 : decode cX2_init 4 = .ok (.aload_n 0, 1) := by decide +kernel
theorem dX2_init_5 : decode cX2_init 5 = .ok (.bipush 12, 2) := by decide +kernel
theorem dX2_init_7 : decode cX2_init 7 = .ok (.anewarray 9, 3) := by decide +kernel
theorem dX2_init_10 : decode cX2_init 10 = .ok (.putfield 11, 3) := by decide +kernel
theorem dX2_init_13 : decode cX2_init 13 = .ok (.aload_n 0, 1) := by decide +kernel
theorem dX2_init_14 : decode cX2_init 14 = .ok (.iconst 0, 1) := by decide +kernel
theorem dX2_init_15 : decode cX2_init 15 = .ok (.putfield 15, 3) := by decide +kernel
theorem dX2_init_18 : decode cX2_init 18 = .ok (.return_, 1) := by decide +kernel
set_option maxRecDepth 20000 in
theorem ggX2_gather_X2_insert : GoodIn wsX2_gather wsX2_insert := goodIn_r _ [6, 1, 7, 8, 9, 10, 11, 12, 13, 14, 15, 16, 17, 18, 19, 20, 21, 22, 23, 24, 25, 26, 27, 28, 29, 66, 67, 68, 69, 70, 71, 72] (by decide +kernel) (by decide +kernel)
set_option maxRecDepth 20000 in
theorem gX2_gather_X2_insert : GoodIn wsX2_gather (wsV RX2 19 RX2 yX2_insert wsX2_insert) := goodIn_app (goodIn_of _ (by decide +kernel)) ggX2_gather_X2_insert
set_option maxRecDepth 20000 in
theorem ggX2_gather_X1_turned : GoodIn wsX2_gather wsX1_turned := goodIn_r _ [33, 34, 35, 11, 36, 37, 25, 13, 15, 14, 16, 17, 38, 39, 40, 41, 42, 27, 28, 29, 43, 44, 45, 46, 47, 48, 49, 50, 51, 52, 53, 54, 55, 56, 57, 58, 59, 60, 61, 62, 63, 64, 65, 68, 69, 70, 71, 72] (by decide +kernel) (by decide +kernel)
set_option maxRecDepth 20000 in
theorem gX2_gather_X1_turned : GoodIn wsX2_gather (wsV RX2 23 RX1 yX1_turned wsX1_turned) := goodIn_app (goodIn_of _ (by decide +kernel)) ggX2_gather_X1_turned
theorem dX2_gather_0 : decode cX2_gather 0 = .ok (.aload_n 0, 1) := by decide +kernel
theorem dX2_gather_1 : decode cX2_gather 1 = .ok (.iconst 0, 1) := by decide +kernel
theorem dX2_gather_2 : decode cX2_gather 2 = .ok (.putfield 15, 3) := by decide +kernel
theorem dX2_gather_5 : decode cX2_gather 5 = .ok (.aload_n 1, 1) := by decide +kernel
theorem dX2_gather_6 : decode cX2_gather 6 = .ok (.astore_n 2, 1) := by decide +kernel
theorem dX2_gather_7 : decode cX2_gather 7 = .ok (.iconst 0, 1) := by decide +kernel
theorem dX2_gather_8 : decode cX2_gather 8 = .ok (.istore_n 3, 1) := by decide +kernel
theorem dX2_gather_9 : decode cX2_gather 9 = .ok (.iload_n 3, 1) := by decide +kernel
theorem dX2_gather_10 : decode cX2_gather 10 = .ok (.iconst 2, 1) := by decide +kernel
theorem dX2_gather_11 : decode cX2_gather 11 = .ok (.if_icmp .ge 50, 3) := by decide +kernel
theorem dX2_gather_14 : decode cX2_gather 14 = .ok (.iconst 0, 1) := by decide +kernel
theorem dX2_gather_15 : decode cX2_gather 15 = .ok (.istore 4, 2) := by decide +kernel
theorem dX2_gather_17 : decode cX2_gather 17 = .ok (.iload 4, 2) := by decide +kernel
theorem dX2_gather_19 : decode cX2_gather 19 = .ok (.iconst 3, 1) := by decide +kernel
theorem dX2_gather_20 : decode cX2_gather 20 = .ok (.if_icmp .ge 29, 3) := by decide +kernel
theorem dX2_gather_23 : decode cX2_gather 23 = .ok (.aload_n 0, 1) := by decide +kernel
theorem dX2_gather_24 : decode cX2_gather 24 = .ok (.aload_n 2, 1) := by decide +kernel
theorem dX2_gather_25 : decode cX2_gather 25 = .ok (.invokevirtual 19, 3) := by decide +kernel
theorem dX2_gather_28 : decode cX2_gather 28 = .ok (.aload_n 0, 1) := by decide +kernel
theorem dX2_gather_29 : decode cX2_gather 29 = .ok (.aload_n 2, 1) := by decide +kernel
theorem dX2_gather_30 : decode cX2_gather 30 = .ok (.iconst 0, 1) := by decide +kernel
theorem dX2_gather_31 : decode cX2_gather 31 = .ok (.invokevirtual 23, 3) := by decide +kernel
theorem dX2_gather_34 : decode cX2_gather 34 = .ok (.invokevirtual 19, 3) := by decide +kernel
theorem dX2_gather_37 : decode cX2_gather 37 = .ok (.aload_n 2, 1) := by decide +kernel
theorem dX2_gather_38 : decode cX2_gather 38 = .ok (.iconst 1, 1) := by decide +kernel
theorem dX2_gather_39 : decode cX2_gather 39 = .ok (.invokevirtual 23, 3) := by decide +kernel
theorem dX2_gather_42 : decode cX2_gather 42 = .ok (.astore_n 2, 1) := by decide +kernel
theorem dX2_gather_43 : decode cX2_gather 43 = .ok (.iinc 4 1, 3) := by decide +kernel
theorem dX2_gather_46 : decode cX2_gather 46 = .ok (.goto (-29), 3) := by decide +kernel
theorem dX2_gather_49 : decode cX2_gather 49 = .ok (.aload_n 2, 1) := by decide +kernel
theorem dX2_gather_50 : decode cX2_gather 50 = .ok (.iconst 2, 1) := by decide +kernel
theorem dX2_gather_51 : decode cX2_gather 51 = .ok (.invokevirtual 23, 3) := by decide +kernel
theorem dX2_gather_54 : decode cX2_gather 54 = .ok (.astore_n 2, 1) := by decide +kernel
theorem dX2_gather_55 : decode cX2_gather 55 = .ok (.iinc 3 1, 3) := by decide +kernel
theorem dX2_gather_58 : decode cX2_gather 58 = .ok (.goto (-49), 3) := by decide +kernel
theorem dX2_gather_61 : decode cX2_gather 61 = .ok (.aload_n 0, 1) := by decide +kernel
theorem dX2_gather_62 : decode cX2_gather 62 = .ok (.getfield 15, 3) := by decide +kernel
theorem dX2_gather_65 : decode cX2_gather 65 = .ok (.ireturn, 1) := by decide +kernel
theorem dX2_member_0 : decode cX2_member 0 = .ok (.iload_n 1, 1) := by decide +kernel
theorem dX2_member_1 : decode cX2_member 1 = .ok (.ifCond .lt 20, 3) := by decide +kernel
theorem dX2_member_4 : decode cX2_member 4 = .ok (.iload_n 1, 1) := by decide +kernel
theorem dX2_member_5 : decode cX2_member 5 = .ok (.aload_n 0, 1) := by decide +kernel
theorem dX2_member_6 : decode cX2_member 6 = .ok (.getfield 15, 3) := by decide +kernel
theorem dX2_member_9 : decode cX2_member 9 = .ok (.if_icmp .ge 12, 3) := by decide +kernel
theorem dX2_member_12 : decode cX2_member 12 = .ok (.aload_n 0, 1) := by decide +kernel
theorem dX2_member_13 : decode cX2_member 13 = .ok (.getfield 11, 3) := by decide +kernel
theorem dX2_member_16 : decode cX2_member 16 = .ok (.iload_n 1, 1) := by decide +kernel
theorem dX2_member_17 : decode cX2_member 17 = .ok (.aaload, 1) := by decide +kernel
theorem dX2_member_18 : decode cX2_member 18 = .ok (.goto 4, 3) := by decide +kernel
theorem dX2_member_21 : decode cX2_member 21 = .ok (.aconst_null, 1) := by decide +kernel
theorem dX2_member_22 : decode cX2_member 22 = .ok (.areturn, 1) := by decide +kernel
set_option maxRecDepth 20000 in
theorem ggX2_insert_X1_before : GoodIn wsX2_insert wsX1_before := goodIn_r _ [7, 8, 9, 10, 11, 12, 27, 28, 29, 30, 31] (by decide +kernel) (by decide +kernel)
set_option maxRecDepth 20000 in
theorem gX2_insert_X1_before : GoodIn wsX2_insert (wsV RX2 27 RX1 yX1_before wsX1_before) := goodIn_app (goodIn_of _ (by decide +kernel)) ggX2_insert_X1_before
set_option maxRecDepth 20000 in
theorem ggX2_insert_X1_equalTo : GoodIn wsX2_insert wsX1_equalTo := goodIn_r _ [16, 8, 12, 17, 18, 19, 20, 21, 22, 23, 24, 27, 28, 29, 30, 31] (by decide +kernel) (by decide +kernel)
set_option maxRecDepth 20000 in
theorem gX2_insert_X1_equalTo : GoodIn wsX2_insert (wsV RX2 31 RX1 yX1_equalTo wsX1_equalTo) := goodIn_app (goodIn_of _ (by decide +kernel)) ggX2_insert_X1_equalTo
theorem dX2_insert_0 : decode cX2_insert 0 = .ok (.iconst 0, 1) := by decide +kernel
theorem dX2_insert_1 : decode cX2_insert 1 = .ok (.istore_n 2, 1) := by decide +kernel
theorem dX2_insert_2 : decode cX2_insert 2 = .ok (.iload_n 2, 1) := by decide +kernel
theorem dX2_insert_3 : decode cX2_insert 3 = .ok (.aload_n 0, 1) := by decide +kernel
theorem dX2_insert_4 : decode cX2_insert 4 = .ok (.getfield 15, 3) := by decide +kernel
theorem dX2_insert_7 : decode cX2_insert 7 = .ok (.if_icmp .ge 22, 3) := by decide +kernel
theorem dX2_insert_10 : decode cX2_insert 10 = .ok (.aload_n 0, 1) := by decide +kernel
theorem dX2_insert_11 : decode cX2_insert 11 = .ok (.getfield 11, 3) := by decide +kernel
theorem dX2_insert_14 : decode cX2_insert 14 = .ok (.iload_n 2, 1) := by decide +kernel
theorem dX2_insert_15 : decode cX2_insert 15 = .ok (.aaload, 1) := by decide +kernel
theorem dX2_insert_16 : decode cX2_insert 16 = .ok (.aload_n 1, 1) := by decide +kernel
theorem dX2_insert_17 : decode cX2_insert 17 = .ok (.invokevirtual 27, 3) := by decide +kernel
theorem dX2_insert_20 : decode cX2_insert 20 = .ok (.ifCond .eq 9, 3) := by decide +kernel
theorem dX2_insert_23 : decode cX2_insert 23 = .ok (.iinc 2 1, 3) := by decide +kernel
theorem dX2_insert_26 : decode cX2_insert 26 = .ok (.goto (-24), 3) := by decide +kernel
theorem dX2_insert_29 : decode cX2_insert 29 = .ok (.aload_n 0, 1) := by decide +kernel
theorem dX2_insert_30 : decode cX2_insert 30 = .ok (.getfield 15, 3) := by decide +kernel
theorem dX2_insert_33 : decode cX2_insert 33 = .ok (.bipush 12, 2) := by decide +kernel
theorem dX2_insert_35 : decode cX2_insert 35 = .ok (.if_icmp .ge 24, 3) := by decide +kernel
theorem dX2_insert_38 : decode cX2_insert 38 = .ok (.iload_n 2, 1) := by decide +kernel
theorem dX2_insert_39 : decode cX2_insert 39 = .ok (.aload_n 0, 1) := by decide +kernel
theorem dX2_insert_40 : decode cX2_insert 40 = .ok (.getfield 15, 3) := by decide +kernel
theorem dX2_insert_43 : decode cX2_insert 43 = .ok (.if_icmp .ge 17, 3) := by decide +kernel
theorem dX2_insert_46 : decode cX2_insert 46 = .ok (.aload_n 0, 1) := by decide +kernel
theorem dX2_insert_47 : decode cX2_insert 47 = .ok (.getfield 11, 3) := by decide +kernel
theorem dX2_insert_50 : decode cX2_insert 50 = .ok (.iload_n 2, 1) := by decide +kernel
theorem dX2_insert_51 : decode cX2_insert 51 = .ok (.aaload, 1) := by decide +kernel
theorem dX2_insert_52 : decode cX2_insert 52 = .ok (.aload_n 1, 1) := by decide +kernel
theorem dX2_insert_53 : decode cX2_insert 53 = .ok (.invokevirtual 31, 3) := by decide +kernel
theorem dX2_insert_56 : decode cX2_insert 56 = .ok (.ifCond .eq 4, 3) := by decide +kernel
theorem dX2_insert_59 : decode cX2_insert 59 = .ok (.return_, 1) := by decide +kernel
theorem dX2_insert_60 : decode cX2_insert 60 = .ok (.aload_n 0, 1) := by decide +kernel
theorem dX2_insert_61 : decode cX2_insert 61 = .ok (.getfield 15, 3) := by decide +kernel
theorem dX2_insert_64 : decode cX2_insert 64 = .ok (.istore_n 3, 1) := by decide +kernel
theorem dX2_insert_65 : decode cX2_insert 65 = .ok (.iload_n 3, 1) := by decide +kernel
theorem dX2_insert_66 : decode cX2_insert 66 = .ok (.iload_n 2, 1) := by decide +kernel
theorem dX2_insert_67 : decode cX2_insert 67 = .ok (.if_icmp .le 23, 3) := by decide +kernel
theorem dX2_insert_70 : decode cX2_insert 70 = .ok (.aload_n 0, 1) := by decide +kernel
theorem dX2_insert_71 : decode cX2_insert 71 = .ok (.getfield 11, 3) := by decide +kernel
theorem dX2_insert_74 : decode cX2_insert 74 = .ok (.iload_n 3, 1) := by decide +kernel
theorem dX2_insert_75 : decode cX2_insert 75 = .ok (.aload_n 0, 1) := by decide +kernel
theorem dX2_insert_76 : decode cX2_insert 76 = .ok (.getfield 11, 3) := by decide +kernel
theorem dX2_insert_79 : decode cX2_insert 79 = .ok (.iload_n 3, 1) := by decide +kernel
theorem dX2_insert_80 : decode cX2_insert 80 = .ok (.iconst 1, 1) := by decide +kernel
theorem dX2_insert_81 : decode cX2_insert 81 = .ok (.isub, 1) := by decide +kernel
theorem dX2_insert_82 : decode cX2_insert 82 = .ok (.aaload, 1) := by decide +kernel
theorem dX2_insert_83 : decode cX2_insert 83 = .ok (.aastore, 1) := by decide +kernel
theorem dX2_insert_84 : decode cX2_insert 84 = .ok (.iinc 3 (-1), 3) := by decide +kernel
theorem dX2_insert_87 : decode cX2_insert 87 = .ok (.goto (-22), 3) := by decide +kernel
theorem dX2_insert_90 : decode cX2_insert 90 = .ok (.aload_n 0, 1) := by decide +kernel
theorem dX2_insert_91 : decode cX2_insert 91 = .ok (.getfield 11, 3) := by decide +kernel
theorem dX2_insert_94 : decode cX2_insert 94 = .ok (.iload_n 2, 1) := by decide +kernel
theorem dX2_insert_95 : decode cX2_insert 95 = .ok (.aload_n 1, 1) := by decide +kernel
theorem dX2_insert_96 : decode cX2_insert 96 = .ok (.aastore, 1) := by decide +kernel
theorem dX2_insert_97 : decode cX2_insert 97 = .ok (.aload_n 0, 1) := by decide +kernel
theorem dX2_insert_98 : decode cX2_insert 98 = .ok (.dup, 1) := by decide +kernel
theorem dX2_insert_99 : decode cX2_insert 99 = .ok (.getfield 15, 3) := by decide +kernel
theorem dX2_insert_102 : decode cX2_insert 102 = .ok (.iconst 1, 1) := by decide +kernel
theorem dX2_insert_103 : decode cX2_insert 103 = .ok (.iadd, 1) := by decide +kernel
theorem dX2_insert_104 : decode cX2_insert 104 = .ok (.putfield 15, 3) := by decide +kernel
theorem dX2_insert_107 : decode cX2_insert 107 = .ok (.return_, 1) := by decide +kernel
theorem dX3_init_0 : decode cX3_init 0 = .ok (.aload_n 0, 1) := by decide +kernel
theorem dX3_init_1 : decode cX3_init 1 = .ok (.invokespecial 3, 3) := by decide +kernel
theorem dX3_init_4 : decode cX3_init 4 = .ok (.aload_n 0, 1) := by decide +kernel
theorem dX3_init_5 : decode cX3_init 5 = .ok (.bipush 48, 2) := by decide +kernel
theorem dX3_init_7 : decode cX3_init 7 = .ok (.anewarray 11, 3) := by decide +kernel
theorem dX3_init_10 : decode cX3_init 10 = .ok (.putfield 13, 3) := by decide +kernel
theorem dX3_init_13 : decode cX3_init 13 = .ok (.aload_n 0, 1) := by decide +kernel
theorem dX3_init_14 : decode cX3_init 14 = .ok (.iconst 0, 1) := by decide +kernel
theorem dX3_init_15 : decode cX3_init 15 = .ok (.putfield 17, 3) := by decide +kernel
theorem dX3_init_18 : decode cX3_init 18 = .ok (.aload_n 0, 1) := by decide +kernel
theorem dX3_init_19 : decode cX3_init 19 = .ok (.iconst 0, 1) := by decide +kernel
theorem dX3_init_20 : decode cX3_init 20 = .ok (.putfield 21, 3) := by decide +kernel
theorem dX3_init_23 : decode cX3_init 23 = .ok (.return_, 1) := by decide +kernel
set_option maxRecDepth 20000 in
theorem ggX3_keep_X7_copyPlaces : GoodIn wsX3_keep wsX7_copyPlaces := goodIn_r _ [10] (by decide +kernel) (by decide +kernel)
set_option maxRecDepth 20000 in
theorem gX3_keep_X7_copyPlaces_n24 : GoodIn wsX3_keep (wsX7_copyPlaces) := ggX3_keep_X7_copyPlaces
theorem dX3_keep_0 : decode cX3_keep 0 = .ok (.aload_n 0, 1) := by decide +kernel
theorem dX3_keep_1 : decode cX3_keep 1 = .ok (.aload_n 0, 1) := by decide +kernel
theorem dX3_keep_2 : decode cX3_keep 2 = .ok (.getfield 17, 3) := by decide +kernel
theorem dX3_keep_5 : decode cX3_keep 5 = .ok (.iconst 1, 1) := by decide +kernel
theorem dX3_keep_6 : decode cX3_keep 6 = .ok (.iadd, 1) := by decide +kernel
theorem dX3_keep_7 : decode cX3_keep 7 = .ok (.bipush 12, 2) := by decide +kernel
theorem dX3_keep_9 : decode cX3_keep 9 = .ok (.irem, 1) := by decide +kernel
theorem dX3_keep_10 : decode cX3_keep 10 = .ok (.putfield 17, 3) := by decide +kernel
theorem dX3_keep_13 : decode cX3_keep 13 = .ok (.aload_n 1, 1) := by decide +kernel
theorem dX3_keep_14 : decode cX3_keep 14 = .ok (.iconst 0, 1) := by decide +kernel
theorem dX3_keep_15 : decode cX3_keep 15 = .ok (.aload_n 0, 1) := by decide +kernel
theorem dX3_keep_16 : decode cX3_keep 16 = .ok (.getfield 13, 3) := by decide +kernel
theorem dX3_keep_19 : decode cX3_keep 19 = .ok (.aload_n 0, 1) := by decide +kernel
theorem dX3_keep_20 : decode cX3_keep 20 = .ok (.getfield 17, 3) := by decide +kernel
theorem dX3_keep_23 : decode cX3_keep 23 = .ok (.iconst 4, 1) := by decide +kernel
theorem dX3_keep_24 : decode cX3_keep 24 = .ok (.imul, 1) := by decide +kernel
theorem dX3_keep_25 : decode cX3_keep 25 = .ok (.invokestatic 24, 3) := by decide +kernel
theorem dX3_keep_28 : decode cX3_keep 28 = .ok (.aload_n 0, 1) := by decide +kernel
theorem dX3_keep_29 : decode cX3_keep 29 = .ok (.aload_n 0, 1) := by decide +kernel
theorem dX3_keep_30 : decode cX3_keep 30 = .ok (.getfield 21, 3) := by decide +kernel
theorem dX3_keep_33 : decode cX3_keep 33 = .ok (.iconst 1, 1) := by decide +kernel
theorem dX3_keep_34 : decode cX3_keep 34 = .ok (.iadd, 1) := by decide +kernel
theorem dX3_keep_35 : decode cX3_keep 35 = .ok (.bipush 12, 2) := by decide +kernel
theorem dX3_keep_37 : decode cX3_keep 37 = .ok (.invokestatic 28, 3) := by decide +kernel
theorem dX3_keep_40 : decode cX3_keep 40 = .ok (.putfield 21, 3) := by decide +kernel
theorem dX3_keep_43 : decode cX3_keep 43 = .ok (.return_, 1) := by decide +kernel
set_option maxRecDepth 20000 in
theorem ggX3_giveBack_X7_copyPlaces : GoodIn wsX3_giveBack wsX7_copyPlaces := goodIn_r _ [6] (by decide +kernel) (by decide +kernel)
set_option maxRecDepth 20000 in
theorem gX3_giveBack_X7_copyPlaces_n24 : GoodIn wsX3_giveBack (wsX7_copyPlaces) := ggX3_giveBack_X7_copyPlaces
theorem dX3_giveBack_0 : decode cX3_giveBack 0 = .ok (.aload_n 0, 1) := by decide +kernel
theorem dX3_giveBack_1 : decode cX3_giveBack 1 = .ok (.getfield 13, 3) := by decide +kernel
theorem dX3_giveBack_4 : decode cX3_giveBack 4 = .ok (.aload_n 0, 1) := by decide +kernel
theorem dX3_giveBack_5 : decode cX3_giveBack 5 = .ok (.getfield 17, 3) := by decide +kernel
theorem dX3_giveBack_8 : decode cX3_giveBack 8 = .ok (.iconst 4, 1) := by decide +kernel
theorem dX3_giveBack_9 : decode cX3_giveBack 9 = .ok (.imul, 1) := by decide +kernel
theorem dX3_giveBack_10 : decode cX3_giveBack 10 = .ok (.aload_n 1, 1) := by decide +kernel
theorem dX3_giveBack_11 : decode cX3_giveBack 11 = .ok (.iconst 0, 1) := by decide +kernel
theorem dX3_giveBack_12 : decode cX3_giveBack 12 = .ok (.invokestatic 24, 3) := by decide +kernel
theorem dX3_giveBack_15 : decode cX3_giveBack 15 = .ok (.aload_n 0, 1) := by decide +kernel
theorem dX3_giveBack_16 : decode cX3_giveBack 16 = .ok (.aload_n 0, 1) := by decide +kernel
theorem dX3_giveBack_17 : decode cX3_giveBack 17 = .ok (.getfield 17, 3) := by decide +kernel
theorem dX3_giveBack_20 : decode cX3_giveBack 20 = .ok (.bipush 12, 2) := by decide +kernel
theorem dX3_giveBack_22 : decode cX3_giveBack 22 = .ok (.iadd, 1) := by decide +kernel
theorem dX3_giveBack_23 : decode cX3_giveBack 23 = .ok (.iconst 1, 1) := by decide +kernel
theorem dX3_giveBack_24 : decode cX3_giveBack 24 = .ok (.isub, 1) := by decide +kernel
theorem dX3_giveBack_25 : decode cX3_giveBack 25 = .ok (.bipush 12, 2) := by decide +kernel
theorem dX3_giveBack_27 : decode cX3_giveBack 27 = .ok (.irem, 1) := by decide +kernel
theorem dX3_giveBack_28 : decode cX3_giveBack 28 = .ok (.putfield 17, 3) := by decide +kernel
theorem dX3_giveBack_31 : decode cX3_giveBack 31 = .ok (.aload_n 0, 1) := by decide +kernel
theorem dX3_giveBack_32 : decode cX3_giveBack 32 = .ok (.dup, 1) := by decide +kernel
theorem dX3_giveBack_33 : decode cX3_giveBack 33 = .ok (.getfield 21, 3) := by decide +kernel
theorem dX3_giveBack_36 : decode cX3_giveBack 36 = .ok (.iconst 1, 1) := by decide +kernel
theorem dX3_giveBack_37 : decode cX3_giveBack 37 = .ok (.isub, 1) := by decide +kernel
theorem dX3_giveBack_38 : decode cX3_giveBack 38 = .ok (.putfield 21, 3) := by decide +kernel
theorem dX3_giveBack_41 : decode cX3_giveBack 41 = .ok (.return_, 1) := by decide +kernel
set_option maxRecDepth 20000 in
theorem ggX4_init_X7_choose : GoodIn wsX4_init wsX7_choose := goodIn_r _ [16] (by decide +kernel) (by decide +kernel)
set_option maxRecDepth 20000 in
theorem gX4_init_X7_choose_n9 : GoodIn wsX4_init (wsX7_choose) := ggX4_init_X7_choose
set_option maxRecDepth 20000 in
theorem ggX4_init_X0_init : GoodIn wsX4_init wsX0_init := goodIn_r _ [18, 19, 2, 3, 20, 21, 22, 59, 60, 61] (by decide +kernel) (by decide +kernel)
set_option maxRecDepth 20000 in
theorem gX4_init_X0_init_n33 : GoodIn wsX4_init (wsX0_init) := ggX4_init_X0_init
set_option maxRecDepth 20000 in
theorem ggX4_init_X0_rowIn : GoodIn wsX4_init wsX0_rowIn := goodIn_r _ [25, 26] (by decide +kernel) (by decide +kernel)
set_option maxRecDepth 20000 in
theorem gX4_init_X0_rowIn : GoodIn wsX4_init (va_wsS RX4 36 yX0_rowIn wsX0_rowIn) := goodIn_app (goodIn_of _ (by decide +kernel)) ggX4_init_X0_rowIn
set_option maxRecDepth 20000 in
theorem ggX4_init_X0_following : GoodIn wsX4_init wsX0_following := goodIn_r _ [30, 20, 21, 31, 32, 33, 13, 34, 35, 36, 37, 38, 22, 39, 40, 41, 59, 60, 61] (by decide +kernel) (by decide +kernel)
set_option maxRecDepth 20000 in
theorem gX4_init_X0_following : GoodIn wsX4_init (wsV RX4 40 RX0 yX0_following wsX0_following) := goodIn_app (goodIn_of _ (by decide +kernel)) ggX4_init_X0_following
set_option maxRecDepth 20000 in
theorem ggX4_init_X4_countUnder : GoodIn wsX4_init wsX4_countUnder := goodIn_r _ [46, 7, 5, 47, 48, 49, 50, 51, 52, 45, 53, 54, 55, 56, 57, 58] (by decide +kernel) (by decide +kernel)
set_option maxRecDepth 20000 in
theorem gX4_init_X4_countUnder : GoodIn wsX4_init (wsV RX4 44 RX4 yX4_countUnder wsX4_countUnder) := goodIn_app (goodIn_of _ (by decide +kernel)) ggX4_init_X4_countUnder
theorem dX4_init_0 : decode cX4_init 0 = .ok (.aload_n 0, 1) := by decide +kernel
theorem dX4_init_1 : decode cX4_init 1 = .ok (.invokespecial 3, 3) := by decide +kernel
theorem dX4_init_4 : decode cX4_init 4 = .ok (.iload_n 1, 1) := by decide +kernel
theorem dX4_init_5 : decode cX4_init 5 = .ok (.iload_n 2, 1) := by decide +kernel
theorem dX4_init_6 : decode cX4_init 6 = .ok (.iadd, 1) := by decide +kernel
theorem dX4_init_7 : decode cX4_init 7 = .ok (.iload_n 1, 1) := by decide +kernel
theorem dX4_init_8 : decode cX4_init 8 = .ok (.invokestatic 9, 3) := by decide +kernel
theorem dX4_init_11 : decode cX4_init 11 = .ok (.istore_n 3, 1) := by decide +kernel
theorem dX4_init_12 : decode cX4_init 12 = .ok (.aload_n 0, 1) := by decide +kernel
theorem dX4_init_13 : decode cX4_init 13 = .ok (.iload_n 3, 1) := by decide +kernel
theorem dX4_init_14 : decode cX4_init 14 = .ok (.newarray .int, 2) := by decide +kernel
theorem dX4_init_16 : decode cX4_init 16 = .ok (.putfield 13, 3) := by decide +kernel
theorem dX4_init_19 : decode cX4_init 19 = .ok (.aload_n 0, 1) := by decide +kernel
theorem dX4_init_20 : decode cX4_init 20 = .ok (.iconst 5, 1) := by decide +kernel
theorem dX4_init_21 : decode cX4_init 21 = .ok (.iload_n 3, 1) := by decide +kernel
theorem dX4_init_22 : decode cX4_init 22 = .ok (.multianewarray 19 2, 4) := by decide +kernel
theorem dX4_init_26 : decode cX4_init 26 = .ok (.putfield 21, 3) := by decide +kernel
theorem dX4_init_29 : decode cX4_init 29 = .ok (.aload_n 0, 1) := by decide +kernel
theorem dX4_init_30 : decode cX4_init 30 = .ok (.iload_n 3, 1) := by decide +kernel
theorem dX4_init_31 : decode cX4_init 31 = .ok (.newarray .long, 2) := by decide +kernel
theorem dX4_init_33 : decode cX4_init 33 = .ok (.putfield 24, 3) := by decide +kernel
theorem dX4_init_36 : decode cX4_init 36 = .ok (.aload_n 0, 1) := by decide +kernel
theorem dX4_init_37 : decode cX4_init 37 = .ok (.iload_n 3, 1) := by decide +kernel
theorem dX4_init_38 : decode cX4_init 38 = .ok (.newarray .long, 2) := by decide +kernel
theorem dX4_init_40 : decode cX4_init 40 = .ok (.putfield 28, 3) := by decide +kernel
theorem dX4_init_43 : decode cX4_init 43 = .ok (.new 31, 3) := by decide +kernel
theorem dX4_init_46 : decode cX4_init 46 = .ok (.dup, 1) := by decide +kernel
theorem dX4_init_47 : decode cX4_init 47 = .ok (.iconst 1, 1) := by decide +kernel
theorem dX4_init_48 : decode cX4_init 48 = .ok (.iload_n 1, 1) := by decide +kernel
theorem dX4_init_49 : decode cX4_init 49 = .ok (.iload_n 2, 1) := by decide +kernel
theorem dX4_init_50 : decode cX4_init 50 = .ok (.invokespecial 33, 3) := by decide +kernel
theorem dX4_init_53 : decode cX4_init 53 = .ok (.astore 4, 2) := by decide +kernel
theorem dX4_init_55 : decode cX4_init 55 = .ok (.lconst 0, 1) := by decide +kernel
theorem dX4_init_56 : decode cX4_init 56 = .ok (.lstore 5, 2) := by decide +kernel
theorem dX4_init_58 : decode cX4_init 58 = .ok (.iconst 0, 1) := by decide +kernel
theorem dX4_init_59 : decode cX4_init 59 = .ok (.istore 7, 2) := by decide +kernel
theorem dX4_init_61 : decode cX4_init 61 = .ok (.iload 7, 2) := by decide +kernel
theorem dX4_init_63 : decode cX4_init 63 = .ok (.iload_n 3, 1) := by decide +kernel
theorem dX4_init_64 : decode cX4_init 64 = .ok (.if_icmp .ge 31, 3) := by decide +kernel
theorem dX4_init_67 : decode cX4_init 67 = .ok (.aload_n 0, 1) := by decide +kernel
theorem dX4_init_68 : decode cX4_init 68 = .ok (.getfield 13, 3) := by decide +kernel
theorem dX4_init_71 : decode cX4_init 71 = .ok (.iload 7, 2) := by decide +kernel
theorem dX4_init_73 : decode cX4_init 73 = .ok (.lload 5, 2) := by decide +kernel
theorem dX4_init_75 : decode cX4_init 75 = .ok (.iconst 0, 1) := by decide +kernel
theorem dX4_init_76 : decode cX4_init 76 = .ok (.invokestatic 36, 3) := by decide +kernel
theorem dX4_init_79 : decode cX4_init 79 = .ok (.iastore, 1) := by decide +kernel
theorem dX4_init_80 : decode cX4_init 80 = .ok (.aload 4, 2) := by decide +kernel
theorem dX4_init_82 : decode cX4_init 82 = .ok (.lload 5, 2) := by decide +kernel
theorem dX4_init_84 : decode cX4_init 84 = .ok (.invokevirtual 40, 3) := by decide +kernel
theorem dX4_init_87 : decode cX4_init 87 = .ok (.lstore 5, 2) := by decide +kernel
theorem dX4_init_89 : decode cX4_init 89 = .ok (.iinc 7 1, 3) := by decide +kernel
theorem dX4_init_92 : decode cX4_init 92 = .ok (.goto (-31), 3) := by decide +kernel
theorem dX4_init_95 : decode cX4_init 95 = .ok (.aload_n 0, 1) := by decide +kernel
theorem dX4_init_96 : decode cX4_init 96 = .ok (.invokevirtual 44, 3) := by decide +kernel
theorem dX4_init_99 : decode cX4_init 99 = .ok (.return_, 1) := by decide +kernel
set_option maxRecDepth 20000 in
theorem ggX4_countUnder_J7_fill_53178 : GoodIn wsX4_countUnder wsJ7_fill_53178 := goodIn_r _ [6] (by decide +kernel) (by decide +kernel)
set_option maxRecDepth 20000 in
theorem gX4_countUnder_J7_fill_53178 : GoodIn wsX4_countUnder (va_wsS RX4 47 yJ7_fill_53178 wsJ7_fill_53178) := goodIn_app (goodIn_of _ (by decide +kernel)) ggX4_countUnder_J7_fill_53178
set_option maxRecDepth 20000 in
theorem ggX4_countUnder_X4_covers : GoodIn wsX4_countUnder wsX4_covers := goodIn_r _ [10, 11] (by decide +kernel) (by decide +kernel)
set_option maxRecDepth 20000 in
theorem gX4_countUnder_X4_covers : GoodIn wsX4_countUnder (va_wsS RX4 53 yX4_covers wsX4_covers) := goodIn_app (goodIn_of _ (by decide +kernel)) ggX4_countUnder_X4_covers
theorem dX4_countUnder_0 : decode cX4_countUnder 0 = .ok (.aload_n 0, 1) := by decide +kernel
theorem dX4_countUnder_1 : decode cX4_countUnder 1 = .ok (.getfield 21, 3) := by decide +kernel
theorem dX4_countUnder_4 : decode cX4_countUnder 4 = .ok (.iconst 0, 1) := by decide +kernel
theorem dX4_countUnder_5 : decode cX4_countUnder 5 = .ok (.aaload, 1) := by decide +kernel
theorem dX4_countUnder_6 : decode cX4_countUnder 6 = .ok (.iconst 1, 1) := by decide +kernel
theorem dX4_countUnder_7 : decode cX4_countUnder 7 = .ok (.invokestatic 47, 3) := by decide +kernel
theorem dX4_countUnder_10 : decode cX4_countUnder 10 = .ok (.iconst 1, 1) := by decide +kernel
theorem dX4_countUnder_11 : decode cX4_countUnder 11 = .ok (.istore_n 1, 1) := by decide +kernel
theorem dX4_countUnder_12 : decode cX4_countUnder 12 = .ok (.iload_n 1, 1) := by decide +kernel
theorem dX4_countUnder_13 : decode cX4_countUnder 13 = .ok (.iconst 4, 1) := by decide +kernel
theorem dX4_countUnder_14 : decode cX4_countUnder 14 = .ok (.if_icmp .gt 85, 3) := by decide +kernel
theorem dX4_countUnder_17 : decode cX4_countUnder 17 = .ok (.iconst 0, 1) := by decide +kernel
theorem dX4_countUnder_18 : decode cX4_countUnder 18 = .ok (.istore_n 2, 1) := by decide +kernel
theorem dX4_countUnder_19 : decode cX4_countUnder 19 = .ok (.iload_n 2, 1) := by decide +kernel
theorem dX4_countUnder_20 : decode cX4_countUnder 20 = .ok (.aload_n 0, 1) := by decide +kernel
theorem dX4_countUnder_21 : decode cX4_countUnder 21 = .ok (.getfield 13, 3) := by decide +kernel
theorem dX4_countUnder_24 : decode cX4_countUnder 24 = .ok (.arraylength, 1) := by decide +kernel
theorem dX4_countUnder_25 : decode cX4_countUnder 25 = .ok (.if_icmp .ge 68, 3) := by decide +kernel
theorem dX4_countUnder_28 : decode cX4_countUnder 28 = .ok (.iconst 0, 1) := by decide +kernel
theorem dX4_countUnder_29 : decode cX4_countUnder 29 = .ok (.istore_n 3, 1) := by decide +kernel
theorem dX4_countUnder_30 : decode cX4_countUnder 30 = .ok (.iconst 0, 1) := by decide +kernel
theorem dX4_countUnder_31 : decode cX4_countUnder 31 = .ok (.istore 4, 2) := by decide +kernel
theorem dX4_countUnder_33 : decode cX4_countUnder 33 = .ok (.iload 4, 2) := by decide +kernel
theorem dX4_countUnder_35 : decode cX4_countUnder 35 = .ok (.iload_n 2, 1) := by decide +kernel
theorem dX4_countUnder_36 : decode cX4_countUnder 36 = .ok (.if_icmp .gt 42, 3) := by decide +kernel
theorem dX4_countUnder_39 : decode cX4_countUnder 39 = .ok (.aload_n 0, 1) := by decide +kernel
theorem dX4_countUnder_40 : decode cX4_countUnder 40 = .ok (.getfield 13, 3) := by decide +kernel
theorem dX4_countUnder_43 : decode cX4_countUnder 43 = .ok (.iload_n 2, 1) := by decide +kernel
theorem dX4_countUnder_44 : decode cX4_countUnder 44 = .ok (.iaload, 1) := by decide +kernel
theorem dX4_countUnder_45 : decode cX4_countUnder 45 = .ok (.aload_n 0, 1) := by decide +kernel
theorem dX4_countUnder_46 : decode cX4_countUnder 46 = .ok (.getfield 13, 3) := by decide +kernel
theorem dX4_countUnder_49 : decode cX4_countUnder 49 = .ok (.iload 4, 2) := by decide +kernel
theorem dX4_countUnder_51 : decode cX4_countUnder 51 = .ok (.iaload, 1) := by decide +kernel
theorem dX4_countUnder_52 : decode cX4_countUnder 52 = .ok (.invokestatic 53, 3) := by decide +kernel
theorem dX4_countUnder_55 : decode cX4_countUnder 55 = .ok (.ifCond .eq 17, 3) := by decide +kernel
theorem dX4_countUnder_58 : decode cX4_countUnder 58 = .ok (.iload_n 3, 1) := by decide +kernel
theorem dX4_countUnder_59 : decode cX4_countUnder 59 = .ok (.aload_n 0, 1) := by decide +kernel
theorem dX4_countUnder_60 : decode cX4_countUnder 60 = .ok (.getfield 21, 3) := by decide +kernel
theorem dX4_countUnder_63 : decode cX4_countUnder 63 = .ok (.iload_n 1, 1) := by decide +kernel
theorem dX4_countUnder_64 : decode cX4_countUnder 64 = .ok (.iconst 1, 1) := by decide +kernel
theorem dX4_countUnder_65 : decode cX4_countUnder 65 = .ok (.isub, 1) := by decide +kernel
theorem dX4_countUnder_66 : decode cX4_countUnder 66 = .ok (.aaload, 1) := by decide +kernel
theorem dX4_countUnder_67 : decode cX4_countUnder 67 = .ok (.iload 4, 2) := by decide +kernel
theorem dX4_countUnder_69 : decode cX4_countUnder 69 = .ok (.iaload, 1) := by decide +kernel
theorem dX4_countUnder_70 : decode cX4_countUnder 70 = .ok (.iadd, 1) := by decide +kernel
theorem dX4_countUnder_71 : decode cX4_countUnder 71 = .ok (.istore_n 3, 1) := by decide +kernel
theorem dX4_countUnder_72 : decode cX4_countUnder 72 = .ok (.iinc 4 1, 3) := by decide +kernel
theorem dX4_countUnder_75 : decode cX4_countUnder 75 = .ok (.goto (-42), 3) := by decide +kernel
theorem dX4_countUnder_78 : decode cX4_countUnder 78 = .ok (.aload_n 0, 1) := by decide +kernel
theorem dX4_countUnder_79 : decode cX4_countUnder 79 = .ok (.getfield 21, 3) := by decide +kernel
theorem dX4_countUnder_82 : decode cX4_countUnder 82 = .ok (.iload_n 1, 1) := by decide +kernel
theorem dX4_countUnder_83 : decode cX4_countUnder 83 = .ok (.aaload, 1) := by decide +kernel
theorem dX4_countUnder_84 : decode cX4_countUnder 84 = .ok (.iload_n 2, 1) := by decide +kernel
theorem dX4_countUnder_85 : decode cX4_countUnder 85 = .ok (.iload_n 3, 1) := by decide +kernel
theorem dX4_countUnder_86 : decode cX4_countUnder 86 = .ok (.iastore, 1) := by decide +kernel
theorem dX4_countUnder_87 : decode cX4_countUnder 87 = .ok (.iinc 2 1, 3) := by decide +kernel
theorem dX4_countUnder_90 : decode cX4_countUnder 90 = .ok (.goto (-71), 3) := by decide +kernel
theorem dX4_countUnder_93 : decode cX4_countUnder 93 = .ok (.iinc 1 1, 3) := by decide +kernel
theorem dX4_countUnder_96 : decode cX4_countUnder 96 = .ok (.goto (-84), 3) := by decide +kernel
theorem dX4_countUnder_99 : decode cX4_countUnder 99 = .ok (.return_, 1) := by decide +kernel
theorem dX4_covers_0 : decode cX4_covers 0 = .ok (.iload_n 0, 1) := by decide +kernel
theorem dX4_covers_1 : decode cX4_covers 1 = .ok (.ldc 57, 2) := by decide +kernel
theorem dX4_covers_3 : decode cX4_covers 3 = .ok (.ior, 1) := by decide +kernel
theorem dX4_covers_4 : decode cX4_covers 4 = .ok (.iload_n 1, 1) := by decide +kernel
theorem dX4_covers_5 : decode cX4_covers 5 = .ok (.isub, 1) := by decide +kernel
theorem dX4_covers_6 : decode cX4_covers 6 = .ok (.ldc 57, 2) := by decide +kernel
theorem dX4_covers_8 : decode cX4_covers 8 = .ok (.iand, 1) := by decide +kernel
theorem dX4_covers_9 : decode cX4_covers 9 = .ok (.ldc 57, 2) := by decide +kernel
theorem dX4_covers_11 : decode cX4_covers 11 = .ok (.if_icmp .ne 7, 3) := by decide +kernel
theorem dX4_covers_14 : decode cX4_covers 14 = .ok (.iconst 1, 1) := by decide +kernel
theorem dX4_covers_15 : decode cX4_covers 15 = .ok (.goto 4, 3) := by decide +kernel
theorem dX4_covers_18 : decode cX4_covers 18 = .ok (.iconst 0, 1) := by decide +kernel
theorem dX4_covers_19 : decode cX4_covers 19 = .ok (.ireturn, 1) := by decide +kernel
theorem dX4_heapsWith_0 : decode cX4_heapsWith 0 = .ok (.aload_n 0, 1) := by decide +kernel
theorem dX4_heapsWith_1 : decode cX4_heapsWith 1 = .ok (.getfield 21, 3) := by decide +kernel
theorem dX4_heapsWith_4 : decode cX4_heapsWith 4 = .ok (.iload_n 1, 1) := by decide +kernel
theorem dX4_heapsWith_5 : decode cX4_heapsWith 5 = .ok (.aaload, 1) := by decide +kernel
theorem dX4_heapsWith_6 : decode cX4_heapsWith 6 = .ok (.aload_n 0, 1) := by decide +kernel
theorem dX4_heapsWith_7 : decode cX4_heapsWith 7 = .ok (.getfield 13, 3) := by decide +kernel
theorem dX4_heapsWith_10 : decode cX4_heapsWith 10 = .ok (.arraylength, 1) := by decide +kernel
theorem dX4_heapsWith_11 : decode cX4_heapsWith 11 = .ok (.iconst 1, 1) := by decide +kernel
theorem dX4_heapsWith_12 : decode cX4_heapsWith 12 = .ok (.isub, 1) := by decide +kernel
theorem dX4_heapsWith_13 : decode cX4_heapsWith 13 = .ok (.iaload, 1) := by decide +kernel
theorem dX4_heapsWith_14 : decode cX4_heapsWith 14 = .ok (.ireturn, 1) := by decide +kernel
set_option maxRecDepth 20000 in
theorem ggX4_numberOf_X0_rowIn : GoodIn wsX4_numberOf wsX0_rowIn := goodIn_r _ [6, 7] (by decide +kernel) (by decide +kernel)
set_option maxRecDepth 20000 in
theorem gX4_numberOf_X0_rowIn : GoodIn wsX4_numberOf (va_wsS RX4 36 yX0_rowIn wsX0_rowIn) := goodIn_app (goodIn_of _ (by decide +kernel)) ggX4_numberOf_X0_rowIn
set_option maxRecDepth 20000 in
theorem ggX4_numberOf_X4_covers : GoodIn wsX4_numberOf wsX4_covers := goodIn_r _ [11, 12] (by decide +kernel) (by decide +kernel)
set_option maxRecDepth 20000 in
theorem gX4_numberOf_X4_covers : GoodIn wsX4_numberOf (va_wsS RX4 53 yX4_covers wsX4_covers) := goodIn_app (goodIn_of _ (by decide +kernel)) ggX4_numberOf_X4_covers
theorem dX4_numberOf_0 : decode cX4_numberOf 0 = .ok (.iconst 0, 1) := by decide +kernel
theorem dX4_numberOf_1 : decode cX4_numberOf 1 = .ok (.istore 4, 2) := by decide +kernel
theorem dX4_numberOf_3 : decode cX4_numberOf 3 = .ok (.aload_n 0, 1) := by decide +kernel
theorem dX4_numberOf_4 : decode cX4_numberOf 4 = .ok (.getfield 13, 3) := by decide +kernel
theorem dX4_numberOf_7 : decode cX4_numberOf 7 = .ok (.aload_n 0, 1) := by decide +kernel
theorem dX4_numberOf_8 : decode cX4_numberOf 8 = .ok (.getfield 13, 3) := by decide +kernel
theorem dX4_numberOf_11 : decode cX4_numberOf 11 = .ok (.arraylength, 1) := by decide +kernel
theorem dX4_numberOf_12 : decode cX4_numberOf 12 = .ok (.iconst 1, 1) := by decide +kernel
theorem dX4_numberOf_13 : decode cX4_numberOf 13 = .ok (.isub, 1) := by decide +kernel
theorem dX4_numberOf_14 : decode cX4_numberOf 14 = .ok (.iaload, 1) := by decide +kernel
theorem dX4_numberOf_15 : decode cX4_numberOf 15 = .ok (.istore 5, 2) := by decide +kernel
theorem dX4_numberOf_17 : decode cX4_numberOf 17 = .ok (.iconst 0, 1) := by decide +kernel
theorem dX4_numberOf_18 : decode cX4_numberOf 18 = .ok (.istore 6, 2) := by decide +kernel
theorem dX4_numberOf_20 : decode cX4_numberOf 20 = .ok (.iload 6, 2) := by decide +kernel
theorem dX4_numberOf_22 : decode cX4_numberOf 22 = .ok (.iload_n 1, 1) := by decide +kernel
theorem dX4_numberOf_23 : decode cX4_numberOf 23 = .ok (.if_icmp .ge 86, 3) := by decide +kernel
theorem dX4_numberOf_26 : decode cX4_numberOf 26 = .ok (.lload_n 2, 1) := by decide +kernel
theorem dX4_numberOf_27 : decode cX4_numberOf 27 = .ok (.iload 6, 2) := by decide +kernel
theorem dX4_numberOf_29 : decode cX4_numberOf 29 = .ok (.invokestatic 36, 3) := by decide +kernel
theorem dX4_numberOf_32 : decode cX4_numberOf 32 = .ok (.istore 7, 2) := by decide +kernel
theorem dX4_numberOf_34 : decode cX4_numberOf 34 = .ok (.iconst 0, 1) := by decide +kernel
theorem dX4_numberOf_35 : decode cX4_numberOf 35 = .ok (.istore 8, 2) := by decide +kernel
theorem dX4_numberOf_37 : decode cX4_numberOf 37 = .ok (.iload 8, 2) := by decide +kernel
theorem dX4_numberOf_39 : decode cX4_numberOf 39 = .ok (.aload_n 0, 1) := by decide +kernel
theorem dX4_numberOf_40 : decode cX4_numberOf 40 = .ok (.getfield 13, 3) := by decide +kernel
theorem dX4_numberOf_43 : decode cX4_numberOf 43 = .ok (.arraylength, 1) := by decide +kernel
theorem dX4_numberOf_44 : decode cX4_numberOf 44 = .ok (.if_icmp .ge 55, 3) := by decide +kernel
theorem dX4_numberOf_47 : decode cX4_numberOf 47 = .ok (.aload_n 0, 1) := by decide +kernel
theorem dX4_numberOf_48 : decode cX4_numberOf 48 = .ok (.getfield 13, 3) := by decide +kernel
theorem dX4_numberOf_51 : decode cX4_numberOf 51 = .ok (.iload 8, 2) := by decide +kernel
theorem dX4_numberOf_53 : decode cX4_numberOf 53 = .ok (.iaload, 1) := by decide +kernel
theorem dX4_numberOf_54 : decode cX4_numberOf 54 = .ok (.iload 7, 2) := by decide +kernel
theorem dX4_numberOf_56 : decode cX4_numberOf 56 = .ok (.if_icmp .ge 43, 3) := by decide +kernel
theorem dX4_numberOf_59 : decode cX4_numberOf 59 = .ok (.iload 5, 2) := by decide +kernel
theorem dX4_numberOf_61 : decode cX4_numberOf 61 = .ok (.aload_n 0, 1) := by decide +kernel
theorem dX4_numberOf_62 : decode cX4_numberOf 62 = .ok (.getfield 13, 3) := by decide +kernel
theorem dX4_numberOf_65 : decode cX4_numberOf 65 = .ok (.iload 8, 2) := by decide +kernel
theorem dX4_numberOf_67 : decode cX4_numberOf 67 = .ok (.iaload, 1) := by decide +kernel
theorem dX4_numberOf_68 : decode cX4_numberOf 68 = .ok (.invokestatic 53, 3) := by decide +kernel
theorem dX4_numberOf_71 : decode cX4_numberOf 71 = .ok (.ifCond .eq 22, 3) := by decide +kernel
theorem dX4_numberOf_74 : decode cX4_numberOf 74 = .ok (.iload 4, 2) := by decide +kernel
theorem dX4_numberOf_76 : decode cX4_numberOf 76 = .ok (.aload_n 0, 1) := by decide +kernel
theorem dX4_numberOf_77 : decode cX4_numberOf 77 = .ok (.getfield 21, 3) := by decide +kernel
theorem dX4_numberOf_80 : decode cX4_numberOf 80 = .ok (.iload_n 1, 1) := by decide +kernel
theorem dX4_numberOf_81 : decode cX4_numberOf 81 = .ok (.iconst 1, 1) := by decide +kernel
theorem dX4_numberOf_82 : decode cX4_numberOf 82 = .ok (.isub, 1) := by decide +kernel
theorem dX4_numberOf_83 : decode cX4_numberOf 83 = .ok (.iload 6, 2) := by decide +kernel
theorem dX4_numberOf_85 : decode cX4_numberOf 85 = .ok (.isub, 1) := by decide +kernel
theorem dX4_numberOf_86 : decode cX4_numberOf 86 = .ok (.aaload, 1) := by decide +kernel
theorem dX4_numberOf_87 : decode cX4_numberOf 87 = .ok (.iload 8, 2) := by decide +kernel
theorem dX4_numberOf_89 : decode cX4_numberOf 89 = .ok (.iaload, 1) := by decide +kernel
theorem dX4_numberOf_90 : decode cX4_numberOf 90 = .ok (.iadd, 1) := by decide +kernel
theorem dX4_numberOf_91 : decode cX4_numberOf 91 = .ok (.istore 4, 2) := by decide +kernel
theorem dX4_numberOf_93 : decode cX4_numberOf 93 = .ok (.iinc 8 1, 3) := by decide +kernel
theorem dX4_numberOf_96 : decode cX4_numberOf 96 = .ok (.goto (-59), 3) := by decide +kernel
theorem dX4_numberOf_99 : decode cX4_numberOf 99 = .ok (.iload 7, 2) := by decide +kernel
theorem dX4_numberOf_101 : decode cX4_numberOf 101 = .ok (.istore 5, 2) := by decide +kernel
theorem dX4_numberOf_103 : decode cX4_numberOf 103 = .ok (.iinc 6 1, 3) := by decide +kernel
theorem dX4_numberOf_106 : decode cX4_numberOf 106 = .ok (.goto (-86), 3) := by decide +kernel
theorem dX4_numberOf_109 : decode cX4_numberOf 109 = .ok (.iload 4, 2) := by decide +kernel
theorem dX4_numberOf_111 : decode cX4_numberOf 111 = .ok (.ireturn, 1) := by decide +kernel
set_option maxRecDepth 20000 in
theorem ggX4_cubesOf_X4_covers : GoodIn wsX4_cubesOf wsX4_covers := goodIn_r _ [6, 7] (by decide +kernel) (by decide +kernel)
set_option maxRecDepth 20000 in
theorem gX4_cubesOf_X4_covers : GoodIn wsX4_cubesOf (va_wsS RX4 53 yX4_covers wsX4_covers) := goodIn_app (goodIn_of _ (by decide +kernel)) ggX4_cubesOf_X4_covers
set_option maxRecDepth 20000 in
theorem ggX4_cubesOf_X0_withRow : GoodIn wsX4_cubesOf wsX0_withRow := goodIn_r _ [11] (by decide +kernel) (by decide +kernel)
set_option maxRecDepth 20000 in
theorem gX4_cubesOf_X0_withRow : GoodIn wsX4_cubesOf (va_wsS RX4 58 yX0_withRow wsX0_withRow) := goodIn_app (goodIn_of _ (by decide +kernel)) ggX4_cubesOf_X0_withRow
theorem dX4_cubesOf_0 : decode cX4_cubesOf 0 = .ok (.lconst 0, 1) := by decide +kernel
theorem dX4_cubesOf_1 : decode cX4_cubesOf 1 = .ok (.lstore_n 3, 1) := by decide +kernel
theorem dX4_cubesOf_2 : decode cX4_cubesOf 2 = .ok (.iload_n 2, 1) := by decide +kernel
theorem dX4_cubesOf_3 : decode cX4_cubesOf 3 = .ok (.istore 5, 2) := by decide +kernel
theorem dX4_cubesOf_5 : decode cX4_cubesOf 5 = .ok (.aload_n 0, 1) := by decide +kernel
theorem dX4_cubesOf_6 : decode cX4_cubesOf 6 = .ok (.getfield 13, 3) := by decide +kernel
theorem dX4_cubesOf_9 : decode cX4_cubesOf 9 = .ok (.aload_n 0, 1) := by decide +kernel
theorem dX4_cubesOf_10 : decode cX4_cubesOf 10 = .ok (.getfield 13, 3) := by decide +kernel
theorem dX4_cubesOf_13 : decode cX4_cubesOf 13 = .ok (.arraylength, 1) := by decide +kernel
theorem dX4_cubesOf_14 : decode cX4_cubesOf 14 = .ok (.iconst 1, 1) := by decide +kernel
theorem dX4_cubesOf_15 : decode cX4_cubesOf 15 = .ok (.isub, 1) := by decide +kernel
theorem dX4_cubesOf_16 : decode cX4_cubesOf 16 = .ok (.iaload, 1) := by decide +kernel
theorem dX4_cubesOf_17 : decode cX4_cubesOf 17 = .ok (.istore 6, 2) := by decide +kernel
theorem dX4_cubesOf_19 : decode cX4_cubesOf 19 = .ok (.iconst 0, 1) := by decide +kernel
theorem dX4_cubesOf_20 : decode cX4_cubesOf 20 = .ok (.istore 7, 2) := by decide +kernel
theorem dX4_cubesOf_22 : decode cX4_cubesOf 22 = .ok (.iload 7, 2) := by decide +kernel
theorem dX4_cubesOf_24 : decode cX4_cubesOf 24 = .ok (.iload_n 1, 1) := by decide +kernel
theorem dX4_cubesOf_25 : decode cX4_cubesOf 25 = .ok (.if_icmp .ge 98, 3) := by decide +kernel
theorem dX4_cubesOf_28 : decode cX4_cubesOf 28 = .ok (.iconst 0, 1) := by decide +kernel
theorem dX4_cubesOf_29 : decode cX4_cubesOf 29 = .ok (.istore 8, 2) := by decide +kernel
theorem dX4_cubesOf_31 : decode cX4_cubesOf 31 = .ok (.iload 8, 2) := by decide +kernel
theorem dX4_cubesOf_33 : decode cX4_cubesOf 33 = .ok (.aload_n 0, 1) := by decide +kernel
theorem dX4_cubesOf_34 : decode cX4_cubesOf 34 = .ok (.getfield 13, 3) := by decide +kernel
theorem dX4_cubesOf_37 : decode cX4_cubesOf 37 = .ok (.arraylength, 1) := by decide +kernel
theorem dX4_cubesOf_38 : decode cX4_cubesOf 38 = .ok (.if_icmp .ge 79, 3) := by decide +kernel
theorem dX4_cubesOf_41 : decode cX4_cubesOf 41 = .ok (.iload 6, 2) := by decide +kernel
theorem dX4_cubesOf_43 : decode cX4_cubesOf 43 = .ok (.aload_n 0, 1) := by decide +kernel
theorem dX4_cubesOf_44 : decode cX4_cubesOf 44 = .ok (.getfield 13, 3) := by decide +kernel
theorem dX4_cubesOf_47 : decode cX4_cubesOf 47 = .ok (.iload 8, 2) := by decide +kernel
theorem dX4_cubesOf_49 : decode cX4_cubesOf 49 = .ok (.iaload, 1) := by decide +kernel
theorem dX4_cubesOf_50 : decode cX4_cubesOf 50 = .ok (.invokestatic 53, 3) := by decide +kernel
theorem dX4_cubesOf_53 : decode cX4_cubesOf 53 = .ok (.ifCond .eq 20, 3) := by decide +kernel
theorem dX4_cubesOf_56 : decode cX4_cubesOf 56 = .ok (.aload_n 0, 1) := by decide +kernel
theorem dX4_cubesOf_57 : decode cX4_cubesOf 57 = .ok (.getfield 21, 3) := by decide +kernel
theorem dX4_cubesOf_60 : decode cX4_cubesOf 60 = .ok (.iload_n 1, 1) := by decide +kernel
theorem dX4_cubesOf_61 : decode cX4_cubesOf 61 = .ok (.iconst 1, 1) := by decide +kernel
theorem dX4_cubesOf_62 : decode cX4_cubesOf 62 = .ok (.isub, 1) := by decide +kernel
theorem dX4_cubesOf_63 : decode cX4_cubesOf 63 = .ok (.iload 7, 2) := by decide +kernel
theorem dX4_cubesOf_65 : decode cX4_cubesOf 65 = .ok (.isub, 1) := by decide +kernel
theorem dX4_cubesOf_66 : decode cX4_cubesOf 66 = .ok (.aaload, 1) := by decide +kernel
theorem dX4_cubesOf_67 : decode cX4_cubesOf 67 = .ok (.iload 8, 2) := by decide +kernel
theorem dX4_cubesOf_69 : decode cX4_cubesOf 69 = .ok (.iaload, 1) := by decide +kernel
theorem dX4_cubesOf_70 : decode cX4_cubesOf 70 = .ok (.goto 4, 3) := by decide +kernel
theorem dX4_cubesOf_73 : decode cX4_cubesOf 73 = .ok (.iconst 0, 1) := by decide +kernel
theorem dX4_cubesOf_74 : decode cX4_cubesOf 74 = .ok (.istore 9, 2) := by decide +kernel
theorem dX4_cubesOf_76 : decode cX4_cubesOf 76 = .ok (.iload 5, 2) := by decide +kernel
theorem dX4_cubesOf_78 : decode cX4_cubesOf 78 = .ok (.iload 9, 2) := by decide +kernel
theorem dX4_cubesOf_80 : decode cX4_cubesOf 80 = .ok (.if_icmp .ge 24, 3) := by decide +kernel
theorem dX4_cubesOf_83 : decode cX4_cubesOf 83 = .ok (.aload_n 0, 1) := by decide +kernel
theorem dX4_cubesOf_84 : decode cX4_cubesOf 84 = .ok (.getfield 13, 3) := by decide +kernel
theorem dX4_cubesOf_87 : decode cX4_cubesOf 87 = .ok (.iload 8, 2) := by decide +kernel
theorem dX4_cubesOf_89 : decode cX4_cubesOf 89 = .ok (.iaload, 1) := by decide +kernel
theorem dX4_cubesOf_90 : decode cX4_cubesOf 90 = .ok (.istore 6, 2) := by decide +kernel
theorem dX4_cubesOf_92 : decode cX4_cubesOf 92 = .ok (.lload_n 3, 1) := by decide +kernel
theorem dX4_cubesOf_93 : decode cX4_cubesOf 93 = .ok (.iload 7, 2) := by decide +kernel
theorem dX4_cubesOf_95 : decode cX4_cubesOf 95 = .ok (.iload 6, 2) := by decide +kernel
theorem dX4_cubesOf_97 : decode cX4_cubesOf 97 = .ok (.invokestatic 58, 3) := by decide +kernel
theorem dX4_cubesOf_100 : decode cX4_cubesOf 100 = .ok (.lstore_n 3, 1) := by decide +kernel
theorem dX4_cubesOf_101 : decode cX4_cubesOf 101 = .ok (.goto 16, 3) := by decide +kernel
theorem dX4_cubesOf_104 : decode cX4_cubesOf 104 = .ok (.iload 5, 2) := by decide +kernel
theorem dX4_cubesOf_106 : decode cX4_cubesOf 106 = .ok (.iload 9, 2) := by decide +kernel
theorem dX4_cubesOf_108 : decode cX4_cubesOf 108 = .ok (.isub, 1) := by decide +kernel
theorem dX4_cubesOf_109 : decode cX4_cubesOf 109 = .ok (.istore 5, 2) := by decide +kernel
theorem dX4_cubesOf_111 : decode cX4_cubesOf 111 = .ok (.iinc 8 1, 3) := by decide +kernel
theorem dX4_cubesOf_114 : decode cX4_cubesOf 114 = .ok (.goto (-83), 3) := by decide +kernel
theorem dX4_cubesOf_117 : decode cX4_cubesOf 117 = .ok (.iinc 7 1, 3) := by decide +kernel
theorem dX4_cubesOf_120 : decode cX4_cubesOf 120 = .ok (.goto (-98), 3) := by decide +kernel
theorem dX4_cubesOf_123 : decode cX4_cubesOf 123 = .ok (.lload_n 3, 1) := by decide +kernel
theorem dX4_cubesOf_124 : decode cX4_cubesOf 124 = .ok (.lreturn, 1) := by decide +kernel
set_option maxRecDepth 20000 in
theorem ggX4_heapsBetween_X4_beginWithFullRow : GoodIn wsX4_heapsBetween wsX4_beginWithFullRow := goodIn_r _ [8, 3, 9, 10, 11, 12, 38, 39, 40, 41] (by decide +kernel) (by decide +kernel)
set_option maxRecDepth 20000 in
theorem gX4_heapsBetween_X4_beginWithFullRow : GoodIn wsX4_heapsBetween (wsV RX4 62 RX4 yX4_beginWithFullRow wsX4_beginWithFullRow) := goodIn_app (goodIn_of _ (by decide +kernel)) ggX4_heapsBetween_X4_beginWithFullRow
set_option maxRecDepth 20000 in
theorem ggX4_heapsBetween_X0_rowIn : GoodIn wsX4_heapsBetween wsX0_rowIn := goodIn_r _ [16, 17] (by decide +kernel) (by decide +kernel)
set_option maxRecDepth 20000 in
theorem gX4_heapsBetween_X0_rowIn : GoodIn wsX4_heapsBetween (va_wsS RX4 36 yX0_rowIn wsX0_rowIn) := goodIn_app (goodIn_of _ (by decide +kernel)) ggX4_heapsBetween_X0_rowIn
set_option maxRecDepth 20000 in
theorem ggX4_heapsBetween_X4_covers : GoodIn wsX4_heapsBetween wsX4_covers := goodIn_r _ [20, 21] (by decide +kernel) (by decide +kernel)
set_option maxRecDepth 20000 in
theorem gX4_heapsBetween_X4_covers : GoodIn wsX4_heapsBetween (va_wsS RX4 53 yX4_covers wsX4_covers) := goodIn_app (goodIn_of _ (by decide +kernel)) ggX4_heapsBetween_X4_covers
set_option maxRecDepth 20000 in
theorem ggX4_heapsBetween_X4_sumOfOthersAbove : GoodIn wsX4_heapsBetween wsX4_sumOfOthersAbove := goodIn_r _ [25, 1, 3, 18, 19, 7, 20, 21, 38, 39, 40, 41] (by decide +kernel) (by decide +kernel)
set_option maxRecDepth 20000 in
theorem gX4_heapsBetween_X4_sumOfOthersAbove : GoodIn wsX4_heapsBetween (wsV RX4 65 RX4 yX4_sumOfOthersAbove wsX4_sumOfOthersAbove) := goodIn_app (goodIn_of _ (by decide +kernel)) ggX4_heapsBetween_X4_sumOfOthersAbove
set_option maxRecDepth 20000 in
theorem ggX4_heapsBetween_X4_goToNextRow : GoodIn wsX4_heapsBetween wsX4_goToNextRow := goodIn_r _ [29, 2, 3, 30, 31, 32, 33, 38, 39, 40, 41] (by decide +kernel) (by decide +kernel)
set_option maxRecDepth 20000 in
theorem gX4_heapsBetween_X4_goToNextRow : GoodIn wsX4_heapsBetween (wsV RX4 69 RX4 yX4_goToNextRow wsX4_goToNextRow) := goodIn_app (goodIn_of _ (by decide +kernel)) ggX4_heapsBetween_X4_goToNextRow
set_option maxRecDepth 20000 in
theorem ggX4_heapsBetween_X4_sumOfAll : GoodIn wsX4_heapsBetween wsX4_sumOfAll := goodIn_r _ [37, 3, 38, 39, 40, 41] (by decide +kernel) (by decide +kernel)
set_option maxRecDepth 20000 in
theorem gX4_heapsBetween_X4_sumOfAll : GoodIn wsX4_heapsBetween (wsV RX4 72 RX4 yX4_sumOfAll wsX4_sumOfAll) := goodIn_app (goodIn_of _ (by decide +kernel)) ggX4_heapsBetween_X4_sumOfAll
theorem dX4_heapsBetween_0 : decode cX4_heapsBetween 0 = .ok (.aload_n 0, 1) := by decide +kernel
theorem dX4_heapsBetween_1 : decode cX4_heapsBetween 1 = .ok (.invokevirtual 62, 3) := by decide +kernel
theorem dX4_heapsBetween_4 : decode cX4_heapsBetween 4 = .ok (.iconst 0, 1) := by decide +kernel
theorem dX4_heapsBetween_5 : decode cX4_heapsBetween 5 = .ok (.istore 6, 2) := by decide +kernel
theorem dX4_heapsBetween_7 : decode cX4_heapsBetween 7 = .ok (.iload 6, 2) := by decide +kernel
theorem dX4_heapsBetween_9 : decode cX4_heapsBetween 9 = .ok (.iload_n 1, 1) := by decide +kernel
theorem dX4_heapsBetween_10 : decode cX4_heapsBetween 10 = .ok (.if_icmp .ge 116, 3) := by decide +kernel
theorem dX4_heapsBetween_13 : decode cX4_heapsBetween 13 = .ok (.lload_n 2, 1) := by decide +kernel
theorem dX4_heapsBetween_14 : decode cX4_heapsBetween 14 = .ok (.iload 6, 2) := by decide +kernel
theorem dX4_heapsBetween_16 : decode cX4_heapsBetween 16 = .ok (.invokestatic 36, 3) := by decide +kernel
theorem dX4_heapsBetween_19 : decode cX4_heapsBetween 19 = .ok (.istore 7, 2) := by decide +kernel
theorem dX4_heapsBetween_21 : decode cX4_heapsBetween 21 = .ok (.lload 4, 2) := by decide +kernel
theorem dX4_heapsBetween_23 : decode cX4_heapsBetween 23 = .ok (.iload 6, 2) := by decide +kernel
theorem dX4_heapsBetween_25 : decode cX4_heapsBetween 25 = .ok (.invokestatic 36, 3) := by decide +kernel
theorem dX4_heapsBetween_28 : decode cX4_heapsBetween 28 = .ok (.istore 8, 2) := by decide +kernel
theorem dX4_heapsBetween_30 : decode cX4_heapsBetween 30 = .ok (.iconst 0, 1) := by decide +kernel
theorem dX4_heapsBetween_31 : decode cX4_heapsBetween 31 = .ok (.istore 9, 2) := by decide +kernel
theorem dX4_heapsBetween_33 : decode cX4_heapsBetween 33 = .ok (.iload 9, 2) := by decide +kernel
theorem dX4_heapsBetween_35 : decode cX4_heapsBetween 35 = .ok (.aload_n 0, 1) := by decide +kernel
theorem dX4_heapsBetween_36 : decode cX4_heapsBetween 36 = .ok (.getfield 13, 3) := by decide +kernel
theorem dX4_heapsBetween_39 : decode cX4_heapsBetween 39 = .ok (.arraylength, 1) := by decide +kernel
theorem dX4_heapsBetween_40 : decode cX4_heapsBetween 40 = .ok (.if_icmp .ge 76, 3) := by decide +kernel
theorem dX4_heapsBetween_43 : decode cX4_heapsBetween 43 = .ok (.aload_n 0, 1) := by decide +kernel
theorem dX4_heapsBetween_44 : decode cX4_heapsBetween 44 = .ok (.getfield 13, 3) := by decide +kernel
theorem dX4_heapsBetween_47 : decode cX4_heapsBetween 47 = .ok (.iload 9, 2) := by decide +kernel
theorem dX4_heapsBetween_49 : decode cX4_heapsBetween 49 = .ok (.iaload, 1) := by decide +kernel
theorem dX4_heapsBetween_50 : decode cX4_heapsBetween 50 = .ok (.iload 7, 2) := by decide +kernel
theorem dX4_heapsBetween_52 : decode cX4_heapsBetween 52 = .ok (.invokestatic 53, 3) := by decide +kernel
theorem dX4_heapsBetween_55 : decode cX4_heapsBetween 55 = .ok (.ifCond .eq 22, 3) := by decide +kernel
theorem dX4_heapsBetween_58 : decode cX4_heapsBetween 58 = .ok (.iload 8, 2) := by decide +kernel
theorem dX4_heapsBetween_60 : decode cX4_heapsBetween 60 = .ok (.aload_n 0, 1) := by decide +kernel
theorem dX4_heapsBetween_61 : decode cX4_heapsBetween 61 = .ok (.getfield 13, 3) := by decide +kernel
theorem dX4_heapsBetween_64 : decode cX4_heapsBetween 64 = .ok (.iload 9, 2) := by decide +kernel
theorem dX4_heapsBetween_66 : decode cX4_heapsBetween 66 = .ok (.iaload, 1) := by decide +kernel
theorem dX4_heapsBetween_67 : decode cX4_heapsBetween 67 = .ok (.invokestatic 53, 3) := by decide +kernel
theorem dX4_heapsBetween_70 : decode cX4_heapsBetween 70 = .ok (.ifCond .eq 7, 3) := by decide +kernel
theorem dX4_heapsBetween_73 : decode cX4_heapsBetween 73 = .ok (.iconst 1, 1) := by decide +kernel
theorem dX4_heapsBetween_74 : decode cX4_heapsBetween 74 = .ok (.goto 4, 3) := by decide +kernel
theorem dX4_heapsBetween_77 : decode cX4_heapsBetween 77 = .ok (.iconst 0, 1) := by decide +kernel
theorem dX4_heapsBetween_78 : decode cX4_heapsBetween 78 = .ok (.istore 10, 2) := by decide +kernel
theorem dX4_heapsBetween_80 : decode cX4_heapsBetween 80 = .ok (.aload_n 0, 1) := by decide +kernel
theorem dX4_heapsBetween_81 : decode cX4_heapsBetween 81 = .ok (.getfield 28, 3) := by decide +kernel
theorem dX4_heapsBetween_84 : decode cX4_heapsBetween 84 = .ok (.iload 9, 2) := by decide +kernel
theorem dX4_heapsBetween_86 : decode cX4_heapsBetween 86 = .ok (.iload 10, 2) := by decide +kernel
theorem dX4_heapsBetween_88 : decode cX4_heapsBetween 88 = .ok (.ifCond .eq 20, 3) := by decide +kernel
theorem dX4_heapsBetween_91 : decode cX4_heapsBetween 91 = .ok (.aload_n 0, 1) := by decide +kernel
theorem dX4_heapsBetween_92 : decode cX4_heapsBetween 92 = .ok (.getfield 24, 3) := by decide +kernel
theorem dX4_heapsBetween_95 : decode cX4_heapsBetween 95 = .ok (.iload 9, 2) := by decide +kernel
theorem dX4_heapsBetween_97 : decode cX4_heapsBetween 97 = .ok (.laload, 1) := by decide +kernel
theorem dX4_heapsBetween_98 : decode cX4_heapsBetween 98 = .ok (.aload_n 0, 1) := by decide +kernel
theorem dX4_heapsBetween_99 : decode cX4_heapsBetween 99 = .ok (.iload 9, 2) := by decide +kernel
theorem dX4_heapsBetween_101 : decode cX4_heapsBetween 101 = .ok (.invokevirtual 65, 3) := by decide +kernel
theorem dX4_heapsBetween_104 : decode cX4_heapsBetween 104 = .ok (.ladd, 1) := by decide +kernel
theorem dX4_heapsBetween_105 : decode cX4_heapsBetween 105 = .ok (.goto 4, 3) := by decide +kernel
theorem dX4_heapsBetween_108 : decode cX4_heapsBetween 108 = .ok (.lconst 0, 1) := by decide +kernel
theorem dX4_heapsBetween_109 : decode cX4_heapsBetween 109 = .ok (.lastore, 1) := by decide +kernel
theorem dX4_heapsBetween_110 : decode cX4_heapsBetween 110 = .ok (.iinc 9 1, 3) := by decide +kernel
theorem dX4_heapsBetween_113 : decode cX4_heapsBetween 113 = .ok (.goto (-80), 3) := by decide +kernel
theorem dX4_heapsBetween_116 : decode cX4_heapsBetween 116 = .ok (.aload_n 0, 1) := by decide +kernel
theorem dX4_heapsBetween_117 : decode cX4_heapsBetween 117 = .ok (.invokevirtual 69, 3) := by decide +kernel
theorem dX4_heapsBetween_120 : decode cX4_heapsBetween 120 = .ok (.iinc 6 1, 3) := by decide +kernel
theorem dX4_heapsBetween_123 : decode cX4_heapsBetween 123 = .ok (.goto (-116), 3) := by decide +kernel
theorem dX4_heapsBetween_126 : decode cX4_heapsBetween 126 = .ok (.aload_n 0, 1) := by decide +kernel
theorem dX4_heapsBetween_127 : decode cX4_heapsBetween 127 = .ok (.invokevirtual 72, 3) := by decide +kernel
theorem dX4_heapsBetween_130 : decode cX4_heapsBetween 130 = .ok (.l2i, 1) := by decide +kernel
theorem dX4_heapsBetween_131 : decode cX4_heapsBetween 131 = .ok (.ireturn, 1) := by decide +kernel
set_option maxRecDepth 20000 in
theorem ggX4_sumOfWeights_X4_beginWithFullRow : GoodIn wsX4_sumOfWeights wsX4_beginWithFullRow := goodIn_r _ [9, 4, 10, 11, 12, 13, 50, 51, 52, 53] (by decide +kernel) (by decide +kernel)
set_option maxRecDepth 20000 in
theorem gX4_sumOfWeights_X4_beginWithFullRow : GoodIn wsX4_sumOfWeights (wsV RX4 62 RX4 yX4_beginWithFullRow wsX4_beginWithFullRow) := goodIn_app (goodIn_of _ (by decide +kernel)) ggX4_sumOfWeights_X4_beginWithFullRow
set_option maxRecDepth 20000 in
theorem ggX4_sumOfWeights_X4_exponent : GoodIn wsX4_sumOfWeights wsX4_exponent := goodIn_r _ [16, 17, 18, 8, 19, 20, 21, 22, 23, 24, 25, 26] (by decide +kernel) (by decide +kernel)
set_option maxRecDepth 20000 in
theorem gX4_sumOfWeights_X4_exponent : GoodIn wsX4_sumOfWeights (va_wsS RX4 76 yX4_exponent wsX4_exponent) := goodIn_app (goodIn_of _ (by decide +kernel)) ggX4_sumOfWeights_X4_exponent
set_option maxRecDepth 20000 in
theorem ggX4_sumOfWeights_X4_power : GoodIn wsX4_sumOfWeights wsX4_power := goodIn_r _ [29, 2] (by decide +kernel) (by decide +kernel)
set_option maxRecDepth 20000 in
theorem gX4_sumOfWeights_X4_power : GoodIn wsX4_sumOfWeights (va_wsS RX4 80 yX4_power wsX4_power) := goodIn_app (goodIn_of _ (by decide +kernel)) ggX4_sumOfWeights_X4_power
set_option maxRecDepth 20000 in
theorem ggX4_sumOfWeights_X4_sumOfOthersAbove : GoodIn wsX4_sumOfWeights wsX4_sumOfOthersAbove := goodIn_r _ [33, 1, 4, 34, 35, 8, 36, 37, 50, 51, 52, 53] (by decide +kernel) (by decide +kernel)
set_option maxRecDepth 20000 in
theorem gX4_sumOfWeights_X4_sumOfOthersAbove : GoodIn wsX4_sumOfWeights (wsV RX4 65 RX4 yX4_sumOfOthersAbove wsX4_sumOfOthersAbove) := goodIn_app (goodIn_of _ (by decide +kernel)) ggX4_sumOfWeights_X4_sumOfOthersAbove
set_option maxRecDepth 20000 in
theorem ggX4_sumOfWeights_X4_goToNextRow : GoodIn wsX4_sumOfWeights wsX4_goToNextRow := goodIn_r _ [41, 3, 4, 42, 43, 44, 45, 50, 51, 52, 53] (by decide +kernel) (by decide +kernel)
set_option maxRecDepth 20000 in
theorem gX4_sumOfWeights_X4_goToNextRow : GoodIn wsX4_sumOfWeights (wsV RX4 69 RX4 yX4_goToNextRow wsX4_goToNextRow) := goodIn_app (goodIn_of _ (by decide +kernel)) ggX4_sumOfWeights_X4_goToNextRow
set_option maxRecDepth 20000 in
theorem ggX4_sumOfWeights_X4_sumOfAll : GoodIn wsX4_sumOfWeights wsX4_sumOfAll := goodIn_r _ [49, 4, 50, 51, 52, 53] (by decide +kernel) (by decide +kernel)
set_option maxRecDepth 20000 in
theorem gX4_sumOfWeights_X4_sumOfAll : GoodIn wsX4_sumOfWeights (wsV RX4 72 RX4 yX4_sumOfAll wsX4_sumOfAll) := goodIn_app (goodIn_of _ (by decide +kernel)) ggX4_sumOfWeights_X4_sumOfAll
theorem dX4_sumOfWeights_0 : decode cX4_sumOfWeights 0 = .ok (.aload_n 0, 1) := by decide +kernel
theorem dX4_sumOfWeights_1 : decode cX4_sumOfWeights 1 = .ok (.invokevirtual 62, 3) := by decide +kernel
theorem dX4_sumOfWeights_4 : decode cX4_sumOfWeights 4 = .ok (.iconst 0, 1) := by decide +kernel
theorem dX4_sumOfWeights_5 : decode cX4_sumOfWeights 5 = .ok (.istore 4, 2) := by decide +kernel
theorem dX4_sumOfWeights_7 : decode cX4_sumOfWeights 7 = .ok (.iload 4, 2) := by decide +kernel
theorem dX4_sumOfWeights_9 : decode cX4_sumOfWeights 9 = .ok (.iload_n 1, 1) := by decide +kernel
theorem dX4_sumOfWeights_10 : decode cX4_sumOfWeights 10 = .ok (.if_icmp .ge 107, 3) := by decide +kernel
theorem dX4_sumOfWeights_13 : decode cX4_sumOfWeights 13 = .ok (.iconst 0, 1) := by decide +kernel
theorem dX4_sumOfWeights_14 : decode cX4_sumOfWeights 14 = .ok (.istore 5, 2) := by decide +kernel
theorem dX4_sumOfWeights_16 : decode cX4_sumOfWeights 16 = .ok (.iload 5, 2) := by decide +kernel
theorem dX4_sumOfWeights_18 : decode cX4_sumOfWeights 18 = .ok (.aload_n 0, 1) := by decide +kernel
theorem dX4_sumOfWeights_19 : decode cX4_sumOfWeights 19 = .ok (.getfield 13, 3) := by decide +kernel
theorem dX4_sumOfWeights_22 : decode cX4_sumOfWeights 22 = .ok (.arraylength, 1) := by decide +kernel
theorem dX4_sumOfWeights_23 : decode cX4_sumOfWeights 23 = .ok (.if_icmp .ge 84, 3) := by decide +kernel
theorem dX4_sumOfWeights_26 : decode cX4_sumOfWeights 26 = .ok (.iload_n 3, 1) := by decide +kernel
theorem dX4_sumOfWeights_27 : decode cX4_sumOfWeights 27 = .ok (.iload_n 2, 1) := by decide +kernel
theorem dX4_sumOfWeights_28 : decode cX4_sumOfWeights 28 = .ok (.aload_n 0, 1) := by decide +kernel
theorem dX4_sumOfWeights_29 : decode cX4_sumOfWeights 29 = .ok (.getfield 13, 3) := by decide +kernel
theorem dX4_sumOfWeights_32 : decode cX4_sumOfWeights 32 = .ok (.iload 5, 2) := by decide +kernel
theorem dX4_sumOfWeights_34 : decode cX4_sumOfWeights 34 = .ok (.iaload, 1) := by decide +kernel
theorem dX4_sumOfWeights_35 : decode cX4_sumOfWeights 35 = .ok (.iload 4, 2) := by decide +kernel
theorem dX4_sumOfWeights_37 : decode cX4_sumOfWeights 37 = .ok (.invokestatic 76, 3) := by decide +kernel
theorem dX4_sumOfWeights_40 : decode cX4_sumOfWeights 40 = .ok (.invokestatic 80, 3) := by decide +kernel
theorem dX4_sumOfWeights_43 : decode cX4_sumOfWeights 43 = .ok (.lstore 6, 2) := by decide +kernel
theorem dX4_sumOfWeights_45 : decode cX4_sumOfWeights 45 = .ok (.iload_n 2, 1) := by decide +kernel
theorem dX4_sumOfWeights_46 : decode cX4_sumOfWeights 46 = .ok (.iconst 4, 1) := by decide +kernel
theorem dX4_sumOfWeights_47 : decode cX4_sumOfWeights 47 = .ok (.if_icmp .ne 7, 3) := by decide +kernel
theorem dX4_sumOfWeights_50 : decode cX4_sumOfWeights 50 = .ok (.lconst 1, 1) := by decide +kernel
theorem dX4_sumOfWeights_51 : decode cX4_sumOfWeights 51 = .ok (.goto 5, 3) := by decide +kernel
theorem dX4_sumOfWeights_54 : decode cX4_sumOfWeights 54 = .ok (.lload 6, 2) := by decide +kernel
theorem dX4_sumOfWeights_56 : decode cX4_sumOfWeights 56 = .ok (.lstore 8, 2) := by decide +kernel
theorem dX4_sumOfWeights_58 : decode cX4_sumOfWeights 58 = .ok (.aload_n 0, 1) := by decide +kernel
theorem dX4_sumOfWeights_59 : decode cX4_sumOfWeights 59 = .ok (.iload 5, 2) := by decide +kernel
theorem dX4_sumOfWeights_61 : decode cX4_sumOfWeights 61 = .ok (.invokevirtual 65, 3) := by decide +kernel
theorem dX4_sumOfWeights_64 : decode cX4_sumOfWeights 64 = .ok (.ldc2_w 84, 3) := by decide +kernel
theorem dX4_sumOfWeights_67 : decode cX4_sumOfWeights 67 = .ok (.lrem, 1) := by decide +kernel
theorem dX4_sumOfWeights_68 : decode cX4_sumOfWeights 68 = .ok (.lload 6, 2) := by decide +kernel
theorem dX4_sumOfWeights_70 : decode cX4_sumOfWeights 70 = .ok (.lmul, 1) := by decide +kernel
theorem dX4_sumOfWeights_71 : decode cX4_sumOfWeights 71 = .ok (.ldc2_w 84, 3) := by decide +kernel
theorem dX4_sumOfWeights_74 : decode cX4_sumOfWeights 74 = .ok (.lrem, 1) := by decide +kernel
theorem dX4_sumOfWeights_75 : decode cX4_sumOfWeights 75 = .ok (.lstore 10, 2) := by decide +kernel
theorem dX4_sumOfWeights_77 : decode cX4_sumOfWeights 77 = .ok (.aload_n 0, 1) := by decide +kernel
theorem dX4_sumOfWeights_78 : decode cX4_sumOfWeights 78 = .ok (.getfield 28, 3) := by decide +kernel
theorem dX4_sumOfWeights_81 : decode cX4_sumOfWeights 81 = .ok (.iload 5, 2) := by decide +kernel
theorem dX4_sumOfWeights_83 : decode cX4_sumOfWeights 83 = .ok (.lload 10, 2) := by decide +kernel
theorem dX4_sumOfWeights_85 : decode cX4_sumOfWeights 85 = .ok (.aload_n 0, 1) := by decide +kernel
theorem dX4_sumOfWeights_86 : decode cX4_sumOfWeights 86 = .ok (.getfield 24, 3) := by decide +kernel
theorem dX4_sumOfWeights_89 : decode cX4_sumOfWeights 89 = .ok (.iload 5, 2) := by decide +kernel
theorem dX4_sumOfWeights_91 : decode cX4_sumOfWeights 91 = .ok (.laload, 1) := by decide +kernel
theorem dX4_sumOfWeights_92 : decode cX4_sumOfWeights 92 = .ok (.lload 8, 2) := by decide +kernel
theorem dX4_sumOfWeights_94 : decode cX4_sumOfWeights 94 = .ok (.lmul, 1) := by decide +kernel
theorem dX4_sumOfWeights_95 : decode cX4_sumOfWeights 95 = .ok (.ladd, 1) := by decide +kernel
theorem dX4_sumOfWeights_96 : decode cX4_sumOfWeights 96 = .ok (.ldc2_w 84, 3) := by decide +kernel
theorem dX4_sumOfWeights_99 : decode cX4_sumOfWeights 99 = .ok (.lrem, 1) := by decide +kernel
theorem dX4_sumOfWeights_100 : decode cX4_sumOfWeights 100 = .ok (.lastore, 1) := by decide +kernel
theorem dX4_sumOfWeights_101 : decode cX4_sumOfWeights 101 = .ok (.iinc 5 1, 3) := by decide +kernel
theorem dX4_sumOfWeights_104 : decode cX4_sumOfWeights 104 = .ok (.goto (-88), 3) := by decide +kernel
theorem dX4_sumOfWeights_107 : decode cX4_sumOfWeights 107 = .ok (.aload_n 0, 1) := by decide +kernel
theorem dX4_sumOfWeights_108 : decode cX4_sumOfWeights 108 = .ok (.invokevirtual 69, 3) := by decide +kernel
theorem dX4_sumOfWeights_111 : decode cX4_sumOfWeights 111 = .ok (.iinc 4 1, 3) := by decide +kernel
theorem dX4_sumOfWeights_114 : decode cX4_sumOfWeights 114 = .ok (.goto (-107), 3) := by decide +kernel
theorem dX4_sumOfWeights_117 : decode cX4_sumOfWeights 117 = .ok (.aload_n 0, 1) := by decide +kernel
theorem dX4_sumOfWeights_118 : decode cX4_sumOfWeights 118 = .ok (.invokevirtual 72, 3) := by decide +kernel
theorem dX4_sumOfWeights_121 : decode cX4_sumOfWeights 121 = .ok (.ldc2_w 84, 3) := by decide +kernel
theorem dX4_sumOfWeights_124 : decode cX4_sumOfWeights 124 = .ok (.lrem, 1) := by decide +kernel
theorem dX4_sumOfWeights_125 : decode cX4_sumOfWeights 125 = .ok (.l2i, 1) := by decide +kernel
theorem dX4_sumOfWeights_126 : decode cX4_sumOfWeights 126 = .ok (.ireturn, 1) := by decide +kernel
set_option maxRecDepth 20000 in
theorem ggX4_exponent_X4_sumOfHeights : GoodIn wsX4_exponent wsX4_sumOfHeights := goodIn_r _ [4, 5, 6, 7, 8] (by decide +kernel) (by decide +kernel)
set_option maxRecDepth 20000 in
theorem gX4_exponent_X4_sumOfHeights : GoodIn wsX4_exponent (va_wsS RX4 86 yX4_sumOfHeights wsX4_sumOfHeights) := goodIn_app (goodIn_of _ (by decide +kernel)) ggX4_exponent_X4_sumOfHeights
set_option maxRecDepth 20000 in
theorem ggX4_exponent_X0_heightInRow : GoodIn wsX4_exponent wsX0_heightInRow := goodIn_r _ [8] (by decide +kernel) (by decide +kernel)
set_option maxRecDepth 20000 in
theorem gX4_exponent_X0_heightInRow : GoodIn wsX4_exponent (va_wsS RX4 90 yX0_heightInRow wsX0_heightInRow) := goodIn_app (goodIn_of _ (by decide +kernel)) ggX4_exponent_X0_heightInRow
set_option maxRecDepth 20000 in
theorem ggX4_exponent_X4_heightsAboveZero : GoodIn wsX4_exponent wsX4_heightsAboveZero := goodIn_r _ [11, 5, 6, 7, 8] (by decide +kernel) (by decide +kernel)
set_option maxRecDepth 20000 in
theorem gX4_exponent_X4_heightsAboveZero : GoodIn wsX4_exponent (va_wsS RX4 93 yX4_heightsAboveZero wsX4_heightsAboveZero) := goodIn_app (goodIn_of _ (by decide +kernel)) ggX4_exponent_X4_heightsAboveZero
theorem dX4_exponent_0 : decode cX4_exponent 0 = .ok (.iload_n 0, 1) := by decide +kernel
theorem dX4_exponent_1 : decode cX4_exponent 1 = .ok (.tableswitch 49 1 4 #[31, 36, 42, 47], 31) := by decide +kernel
theorem dX4_exponent_32 : decode cX4_exponent 32 = .ok (.iload_n 1, 1) := by decide +kernel
theorem dX4_exponent_33 : decode cX4_exponent 33 = .ok (.invokestatic 86, 3) := by decide +kernel
theorem dX4_exponent_36 : decode cX4_exponent 36 = .ok (.ireturn, 1) := by decide +kernel
theorem dX4_exponent_37 : decode cX4_exponent 37 = .ok (.iload_n 1, 1) := by decide +kernel
theorem dX4_exponent_38 : decode cX4_exponent 38 = .ok (.iload_n 2, 1) := by decide +kernel
theorem dX4_exponent_39 : decode cX4_exponent 39 = .ok (.invokestatic 90, 3) := by decide +kernel
theorem dX4_exponent_42 : decode cX4_exponent 42 = .ok (.ireturn, 1) := by decide +kernel
theorem dX4_exponent_43 : decode cX4_exponent 43 = .ok (.iload_n 1, 1) := by decide +kernel
theorem dX4_exponent_44 : decode cX4_exponent 44 = .ok (.invokestatic 93, 3) := by decide +kernel
theorem dX4_exponent_47 : decode cX4_exponent 47 = .ok (.ireturn, 1) := by decide +kernel
theorem dX4_exponent_48 : decode cX4_exponent 48 = .ok (.iconst 1, 1) := by decide +kernel
theorem dX4_exponent_49 : decode cX4_exponent 49 = .ok (.ireturn, 1) := by decide +kernel
theorem dX4_exponent_50 : decode cX4_exponent 50 = .ok (.iconst 0, 1) := by decide +kernel
theorem dX4_exponent_51 : decode cX4_exponent 51 = .ok (.ireturn, 1) := by decide +kernel
set_option maxRecDepth 20000 in
theorem ggX4_sumOfHeights_X0_heightInRow : GoodIn wsX4_sumOfHeights wsX0_heightInRow := goodIn_r _ [4] (by decide +kernel) (by decide +kernel)
set_option maxRecDepth 20000 in
theorem gX4_sumOfHeights_X0_heightInRow : GoodIn wsX4_sumOfHeights (va_wsS RX4 90 yX0_heightInRow wsX0_heightInRow) := goodIn_app (goodIn_of _ (by decide +kernel)) ggX4_sumOfHeights_X0_heightInRow
theorem dX4_sumOfHeights_0 : decode cX4_sumOfHeights 0 = .ok (.iconst 0, 1) := by decide +kernel
theorem dX4_sumOfHeights_1 : decode cX4_sumOfHeights 1 = .ok (.istore_n 1, 1) := by decide +kernel
theorem dX4_sumOfHeights_2 : decode cX4_sumOfHeights 2 = .ok (.iconst 0, 1) := by decide +kernel
theorem dX4_sumOfHeights_3 : decode cX4_sumOfHeights 3 = .ok (.istore_n 2, 1) := by decide +kernel
theorem dX4_sumOfHeights_4 : decode cX4_sumOfHeights 4 = .ok (.iload_n 2, 1) := by decide +kernel
theorem dX4_sumOfHeights_5 : decode cX4_sumOfHeights 5 = .ok (.iconst 4, 1) := by decide +kernel
theorem dX4_sumOfHeights_6 : decode cX4_sumOfHeights 6 = .ok (.if_icmp .ge 17, 3) := by decide +kernel
theorem dX4_sumOfHeights_9 : decode cX4_sumOfHeights 9 = .ok (.iload_n 1, 1) := by decide +kernel
theorem dX4_sumOfHeights_10 : decode cX4_sumOfHeights 10 = .ok (.iload_n 0, 1) := by decide +kernel
theorem dX4_sumOfHeights_11 : decode cX4_sumOfHeights 11 = .ok (.iload_n 2, 1) := by decide +kernel
theorem dX4_sumOfHeights_12 : decode cX4_sumOfHeights 12 = .ok (.invokestatic 90, 3) := by decide +kernel
theorem dX4_sumOfHeights_15 : decode cX4_sumOfHeights 15 = .ok (.iadd, 1) := by decide +kernel
theorem dX4_sumOfHeights_16 : decode cX4_sumOfHeights 16 = .ok (.istore_n 1, 1) := by decide +kernel
theorem dX4_sumOfHeights_17 : decode cX4_sumOfHeights 17 = .ok (.iinc 2 1, 3) := by decide +kernel
theorem dX4_sumOfHeights_20 : decode cX4_sumOfHeights 20 = .ok (.goto (-16), 3) := by decide +kernel
theorem dX4_sumOfHeights_23 : decode cX4_sumOfHeights 23 = .ok (.iload_n 1, 1) := by decide +kernel
theorem dX4_sumOfHeights_24 : decode cX4_sumOfHeights 24 = .ok (.ireturn, 1) := by decide +kernel
set_option maxRecDepth 20000 in
theorem ggX4_heightsAboveZero_X0_heightInRow : GoodIn wsX4_heightsAboveZero wsX0_heightInRow := goodIn_r _ [4] (by decide +kernel) (by decide +kernel)
set_option maxRecDepth 20000 in
theorem gX4_heightsAboveZero_X0_heightInRow : GoodIn wsX4_heightsAboveZero (va_wsS RX4 90 yX0_heightInRow wsX0_heightInRow) := goodIn_app (goodIn_of _ (by decide +kernel)) ggX4_heightsAboveZero_X0_heightInRow
theorem dX4_heightsAboveZero_0 : decode cX4_heightsAboveZero 0 = .ok (.iconst 0, 1) := by decide +kernel
theorem dX4_heightsAboveZero_1 : decode cX4_heightsAboveZero 1 = .ok (.istore_n 1, 1) := by decide +kernel
theorem dX4_heightsAboveZero_2 : decode cX4_heightsAboveZero 2 = .ok (.iconst 0, 1) := by decide +kernel
theorem dX4_heightsAboveZero_3 : decode cX4_heightsAboveZero 3 = .ok (.istore_n 2, 1) := by decide +kernel
theorem dX4_heightsAboveZero_4 : decode cX4_heightsAboveZero 4 = .ok (.iload_n 2, 1) := by decide +kernel
theorem dX4_heightsAboveZero_5 : decode cX4_heightsAboveZero 5 = .ok (.iconst 4, 1) := by decide +kernel
theorem dX4_heightsAboveZero_6 : decode cX4_heightsAboveZero 6 = .ok (.if_icmp .ge 20, 3) := by decide +kernel
theorem dX4_heightsAboveZero_9 : decode cX4_heightsAboveZero 9 = .ok (.iload_n 0, 1) := by decide +kernel
theorem dX4_heightsAboveZero_10 : decode cX4_heightsAboveZero 10 = .ok (.iload_n 2, 1) := by decide +kernel
theorem dX4_heightsAboveZero_11 : decode cX4_heightsAboveZero 11 = .ok (.invokestatic 90, 3) := by decide +kernel
theorem dX4_heightsAboveZero_14 : decode cX4_heightsAboveZero 14 = .ok (.ifCond .le 6, 3) := by decide +kernel
theorem dX4_heightsAboveZero_17 : decode cX4_heightsAboveZero 17 = .ok (.iinc 1 1, 3) := by decide +kernel
theorem dX4_heightsAboveZero_20 : decode cX4_heightsAboveZero 20 = .ok (.iinc 2 1, 3) := by decide +kernel
theorem dX4_heightsAboveZero_23 : decode cX4_heightsAboveZero 23 = .ok (.goto (-19), 3) := by decide +kernel
theorem dX4_heightsAboveZero_26 : decode cX4_heightsAboveZero 26 = .ok (.iload_n 1, 1) := by decide +kernel
theorem dX4_heightsAboveZero_27 : decode cX4_heightsAboveZero 27 = .ok (.ireturn, 1) := by decide +kernel
theorem dX4_power_0 : decode cX4_power 0 = .ok (.lconst 1, 1) := by decide +kernel
theorem dX4_power_1 : decode cX4_power 1 = .ok (.lstore_n 2, 1) := by decide +kernel
theorem dX4_power_2 : decode cX4_power 2 = .ok (.iconst 0, 1) := by decide +kernel
theorem dX4_power_3 : decode cX4_power 3 = .ok (.istore 4, 2) := by decide +kernel
theorem dX4_power_5 : decode cX4_power 5 = .ok (.iload 4, 2) := by decide +kernel
theorem dX4_power_7 : decode cX4_power 7 = .ok (.iload_n 1, 1) := by decide +kernel
theorem dX4_power_8 : decode cX4_power 8 = .ok (.if_icmp .ge 18, 3) := by decide +kernel
theorem dX4_power_11 : decode cX4_power 11 = .ok (.lload_n 2, 1) := by decide +kernel
theorem dX4_power_12 : decode cX4_power 12 = .ok (.iload_n 0, 1) := by decide +kernel
theorem dX4_power_13 : decode cX4_power 13 = .ok (.i2l, 1) := by decide +kernel
theorem dX4_power_14 : decode cX4_power 14 = .ok (.lmul, 1) := by decide +kernel
theorem dX4_power_15 : decode cX4_power 15 = .ok (.ldc2_w 84, 3) := by decide +kernel
theorem dX4_power_18 : decode cX4_power 18 = .ok (.lrem, 1) := by decide +kernel
theorem dX4_power_19 : decode cX4_power 19 = .ok (.lstore_n 2, 1) := by decide +kernel
theorem dX4_power_20 : decode cX4_power 20 = .ok (.iinc 4 1, 3) := by decide +kernel
theorem dX4_power_23 : decode cX4_power 23 = .ok (.goto (-18), 3) := by decide +kernel
theorem dX4_power_26 : decode cX4_power 26 = .ok (.lload_n 2, 1) := by decide +kernel
theorem dX4_power_27 : decode cX4_power 27 = .ok (.lreturn, 1) := by decide +kernel
set_option maxRecDepth 20000 in
theorem ggX4_beginWithFullRow_J7_fill_d0a16 : GoodIn wsX4_beginWithFullRow wsJ7_fill_d0a16 := goodIn_r _ [5] (by decide +kernel) (by decide +kernel)
set_option maxRecDepth 20000 in
theorem gX4_beginWithFullRow_J7_fill_d0a16 : GoodIn wsX4_beginWithFullRow (va_wsS RX4 96 yJ7_fill_d0a16 wsJ7_fill_d0a16) := goodIn_app (goodIn_of _ (by decide +kernel)) ggX4_beginWithFullRow_J7_fill_d0a16
theorem dX4_beginWithFullRow_0 : decode cX4_beginWithFullRow 0 = .ok (.aload_n 0, 1) := by decide +kernel
theorem dX4_beginWithFullRow_1 : decode cX4_beginWithFullRow 1 = .ok (.getfield 24, 3) := by decide +kernel
theorem dX4_beginWithFullRow_4 : decode cX4_beginWithFullRow 4 = .ok (.lconst 0, 1) := by decide +kernel
theorem dX4_beginWithFullRow_5 : decode cX4_beginWithFullRow 5 = .ok (.invokestatic 96, 3) := by decide +kernel
theorem dX4_beginWithFullRow_8 : decode cX4_beginWithFullRow 8 = .ok (.aload_n 0, 1) := by decide +kernel
theorem dX4_beginWithFullRow_9 : decode cX4_beginWithFullRow 9 = .ok (.getfield 24, 3) := by decide +kernel
theorem dX4_beginWithFullRow_12 : decode cX4_beginWithFullRow 12 = .ok (.aload_n 0, 1) := by decide +kernel
theorem dX4_beginWithFullRow_13 : decode cX4_beginWithFullRow 13 = .ok (.getfield 24, 3) := by decide +kernel
theorem dX4_beginWithFullRow_16 : decode cX4_beginWithFullRow 16 = .ok (.arraylength, 1) := by decide +kernel
theorem dX4_beginWithFullRow_17 : decode cX4_beginWithFullRow 17 = .ok (.iconst 1, 1) := by decide +kernel
theorem dX4_beginWithFullRow_18 : decode cX4_beginWithFullRow 18 = .ok (.isub, 1) := by decide +kernel
theorem dX4_beginWithFullRow_19 : decode cX4_beginWithFullRow 19 = .ok (.lconst 1, 1) := by decide +kernel
theorem dX4_beginWithFullRow_20 : decode cX4_beginWithFullRow 20 = .ok (.lastore, 1) := by decide +kernel
theorem dX4_beginWithFullRow_21 : decode cX4_beginWithFullRow 21 = .ok (.return_, 1) := by decide +kernel
set_option maxRecDepth 20000 in
theorem ggX4_sumOfOthersAbove_X4_covers : GoodIn wsX4_sumOfOthersAbove wsX4_covers := goodIn_r _ [6, 7] (by decide +kernel) (by decide +kernel)
set_option maxRecDepth 20000 in
theorem gX4_sumOfOthersAbove_X4_covers : GoodIn wsX4_sumOfOthersAbove (va_wsS RX4 53 yX4_covers wsX4_covers) := goodIn_app (goodIn_of _ (by decide +kernel)) ggX4_sumOfOthersAbove_X4_covers
theorem dX4_sumOfOthersAbove_0 : decode cX4_sumOfOthersAbove 0 = .ok (.lconst 0, 1) := by decide +kernel
theorem dX4_sumOfOthersAbove_1 : decode cX4_sumOfOthersAbove 1 = .ok (.lstore_n 2, 1) := by decide +kernel
theorem dX4_sumOfOthersAbove_2 : decode cX4_sumOfOthersAbove 2 = .ok (.iload_n 1, 1) := by decide +kernel
theorem dX4_sumOfOthersAbove_3 : decode cX4_sumOfOthersAbove 3 = .ok (.iconst 1, 1) := by decide +kernel
theorem dX4_sumOfOthersAbove_4 : decode cX4_sumOfOthersAbove 4 = .ok (.iadd, 1) := by decide +kernel
theorem dX4_sumOfOthersAbove_5 : decode cX4_sumOfOthersAbove 5 = .ok (.istore 4, 2) := by decide +kernel
theorem dX4_sumOfOthersAbove_7 : decode cX4_sumOfOthersAbove 7 = .ok (.iload 4, 2) := by decide +kernel
theorem dX4_sumOfOthersAbove_9 : decode cX4_sumOfOthersAbove 9 = .ok (.aload_n 0, 1) := by decide +kernel
theorem dX4_sumOfOthersAbove_10 : decode cX4_sumOfOthersAbove 10 = .ok (.getfield 13, 3) := by decide +kernel
theorem dX4_sumOfOthersAbove_13 : decode cX4_sumOfOthersAbove 13 = .ok (.arraylength, 1) := by decide +kernel
theorem dX4_sumOfOthersAbove_14 : decode cX4_sumOfOthersAbove 14 = .ok (.if_icmp .ge 38, 3) := by decide +kernel
theorem dX4_sumOfOthersAbove_17 : decode cX4_sumOfOthersAbove 17 = .ok (.aload_n 0, 1) := by decide +kernel
theorem dX4_sumOfOthersAbove_18 : decode cX4_sumOfOthersAbove 18 = .ok (.getfield 13, 3) := by decide +kernel
theorem dX4_sumOfOthersAbove_21 : decode cX4_sumOfOthersAbove 21 = .ok (.iload 4, 2) := by decide +kernel
theorem dX4_sumOfOthersAbove_23 : decode cX4_sumOfOthersAbove 23 = .ok (.iaload, 1) := by decide +kernel
theorem dX4_sumOfOthersAbove_24 : decode cX4_sumOfOthersAbove 24 = .ok (.aload_n 0, 1) := by decide +kernel
theorem dX4_sumOfOthersAbove_25 : decode cX4_sumOfOthersAbove 25 = .ok (.getfield 13, 3) := by decide +kernel
theorem dX4_sumOfOthersAbove_28 : decode cX4_sumOfOthersAbove 28 = .ok (.iload_n 1, 1) := by decide +kernel
theorem dX4_sumOfOthersAbove_29 : decode cX4_sumOfOthersAbove 29 = .ok (.iaload, 1) := by decide +kernel
theorem dX4_sumOfOthersAbove_30 : decode cX4_sumOfOthersAbove 30 = .ok (.invokestatic 53, 3) := by decide +kernel
theorem dX4_sumOfOthersAbove_33 : decode cX4_sumOfOthersAbove 33 = .ok (.ifCond .eq 13, 3) := by decide +kernel
theorem dX4_sumOfOthersAbove_36 : decode cX4_sumOfOthersAbove 36 = .ok (.lload_n 2, 1) := by decide +kernel
theorem dX4_sumOfOthersAbove_37 : decode cX4_sumOfOthersAbove 37 = .ok (.aload_n 0, 1) := by decide +kernel
theorem dX4_sumOfOthersAbove_38 : decode cX4_sumOfOthersAbove 38 = .ok (.getfield 24, 3) := by decide +kernel
theorem dX4_sumOfOthersAbove_41 : decode cX4_sumOfOthersAbove 41 = .ok (.iload 4, 2) := by decide +kernel
theorem dX4_sumOfOthersAbove_43 : decode cX4_sumOfOthersAbove 43 = .ok (.laload, 1) := by decide +kernel
theorem dX4_sumOfOthersAbove_44 : decode cX4_sumOfOthersAbove 44 = .ok (.ladd, 1) := by decide +kernel
theorem dX4_sumOfOthersAbove_45 : decode cX4_sumOfOthersAbove 45 = .ok (.lstore_n 2, 1) := by decide +kernel
theorem dX4_sumOfOthersAbove_46 : decode cX4_sumOfOthersAbove 46 = .ok (.iinc 4 1, 3) := by decide +kernel
theorem dX4_sumOfOthersAbove_49 : decode cX4_sumOfOthersAbove 49 = .ok (.goto (-42), 3) := by decide +kernel
theorem dX4_sumOfOthersAbove_52 : decode cX4_sumOfOthersAbove 52 = .ok (.lload_n 2, 1) := by decide +kernel
theorem dX4_sumOfOthersAbove_53 : decode cX4_sumOfOthersAbove 53 = .ok (.lreturn, 1) := by decide +kernel
theorem dX4_goToNextRow_0 : decode cX4_goToNextRow 0 = .ok (.aload_n 0, 1) := by decide +kernel
theorem dX4_goToNextRow_1 : decode cX4_goToNextRow 1 = .ok (.getfield 28, 3) := by decide +kernel
theorem dX4_goToNextRow_4 : decode cX4_goToNextRow 4 = .ok (.iconst 0, 1) := by decide +kernel
theorem dX4_goToNextRow_5 : decode cX4_goToNextRow 5 = .ok (.aload_n 0, 1) := by decide +kernel
theorem dX4_goToNextRow_6 : decode cX4_goToNextRow 6 = .ok (.getfield 24, 3) := by decide +kernel
theorem dX4_goToNextRow_9 : decode cX4_goToNextRow 9 = .ok (.iconst 0, 1) := by decide +kernel
theorem dX4_goToNextRow_10 : decode cX4_goToNextRow 10 = .ok (.aload_n 0, 1) := by decide +kernel
theorem dX4_goToNextRow_11 : decode cX4_goToNextRow 11 = .ok (.getfield 24, 3) := by decide +kernel
theorem dX4_goToNextRow_14 : decode cX4_goToNextRow 14 = .ok (.arraylength, 1) := by decide +kernel
theorem dX4_goToNextRow_15 : decode cX4_goToNextRow 15 = .ok (.invokestatic 99, 3) := by decide +kernel
theorem dX4_goToNextRow_18 : decode cX4_goToNextRow 18 = .ok (.return_, 1) := by decide +kernel
theorem dX4_sumOfAll_0 : decode cX4_sumOfAll 0 = .ok (.lconst 0, 1) := by decide +kernel
theorem dX4_sumOfAll_1 : decode cX4_sumOfAll 1 = .ok (.lstore_n 1, 1) := by decide +kernel
theorem dX4_sumOfAll_2 : decode cX4_sumOfAll 2 = .ok (.iconst 0, 1) := by decide +kernel
theorem dX4_sumOfAll_3 : decode cX4_sumOfAll 3 = .ok (.istore_n 3, 1) := by decide +kernel
theorem dX4_sumOfAll_4 : decode cX4_sumOfAll 4 = .ok (.iload_n 3, 1) := by decide +kernel
theorem dX4_sumOfAll_5 : decode cX4_sumOfAll 5 = .ok (.aload_n 0, 1) := by decide +kernel
theorem dX4_sumOfAll_6 : decode cX4_sumOfAll 6 = .ok (.getfield 24, 3) := by decide +kernel
theorem dX4_sumOfAll_9 : decode cX4_sumOfAll 9 = .ok (.arraylength, 1) := by decide +kernel
theorem dX4_sumOfAll_10 : decode cX4_sumOfAll 10 = .ok (.if_icmp .ge 18, 3) := by decide +kernel
theorem dX4_sumOfAll_13 : decode cX4_sumOfAll 13 = .ok (.lload_n 1, 1) := by decide +kernel
theorem dX4_sumOfAll_14 : decode cX4_sumOfAll 14 = .ok (.aload_n 0, 1) := by decide +kernel
theorem dX4_sumOfAll_15 : decode cX4_sumOfAll 15 = .ok (.getfield 24, 3) := by decide +kernel
theorem dX4_sumOfAll_18 : decode cX4_sumOfAll 18 = .ok (.iload_n 3, 1) := by decide +kernel
theorem dX4_sumOfAll_19 : decode cX4_sumOfAll 19 = .ok (.laload, 1) := by decide +kernel
theorem dX4_sumOfAll_20 : decode cX4_sumOfAll 20 = .ok (.ladd, 1) := by decide +kernel
theorem dX4_sumOfAll_21 : decode cX4_sumOfAll 21 = .ok (.lstore_n 1, 1) := by decide +kernel
theorem dX4_sumOfAll_22 : decode cX4_sumOfAll 22 = .ok (.iinc 3 1, 3) := by decide +kernel
theorem dX4_sumOfAll_25 : decode cX4_sumOfAll 25 = .ok (.goto (-21), 3) := by decide +kernel
theorem dX4_sumOfAll_28 : decode cX4_sumOfAll 28 = .ok (.lload_n 1, 1) := by decide +kernel
theorem dX4_sumOfAll_29 : decode cX4_sumOfAll 29 = .ok (.lreturn, 1) := by decide +kernel
theorem dX5_init_0 : decode cX5_init 0 = .ok (.aload_n 0, 1) := by decide +kernel
theorem dX5_init_1 : decode cX5_init 1 = .ok (.invokespecial 3, 3) := by decide +kernel
theorem dX5_init_4 : decode cX5_init 4 = .ok (.aload_n 0, 1) := by decide +kernel
theorem dX5_init_5 : decode cX5_init 5 = .ok (.sipush 200, 3) := by decide +kernel
theorem dX5_init_8 : decode cX5_init 8 = .ok (.newarray .long, 2) := by decide +kernel
theorem dX5_init_10 : decode cX5_init 10 = .ok (.putfield 9, 3) := by decide +kernel
theorem dX5_init_13 : decode cX5_init 13 = .ok (.aload_n 0, 1) := by decide +kernel
theorem dX5_init_14 : decode cX5_init 14 = .ok (.sipush 200, 3) := by decide +kernel
theorem dX5_init_17 : decode cX5_init 17 = .ok (.newarray .int, 2) := by decide +kernel
theorem dX5_init_19 : decode cX5_init 19 = .ok (.putfield 15, 3) := by decide +kernel
theorem dX5_init_22 : decode cX5_init 22 = .ok (.aload_n 0, 1) := by decide +kernel
theorem dX5_init_23 : decode cX5_init 23 = .ok (.sipush 200, 3) := by decide +kernel
theorem dX5_init_26 : decode cX5_init 26 = .ok (.newarray .int, 2) := by decide +kernel
theorem dX5_init_28 : decode cX5_init 28 = .ok (.putfield 19, 3) := by decide +kernel
theorem dX5_init_31 : decode cX5_init 31 = .ok (.aload_n 0, 1) := by decide +kernel
theorem dX5_init_32 : decode cX5_init 32 = .ok (.iconst 0, 1) := by decide +kernel
theorem dX5_init_33 : decode cX5_init 33 = .ok (.putfield 22, 3) := by decide +kernel
theorem dX5_init_36 : decode cX5_init 36 = .ok (.aload_n 0, 1) := by decide +kernel
theorem dX5_init_37 : decode cX5_init 37 = .ok (.iconst 0, 1) := by decide +kernel
theorem dX5_init_38 : decode cX5_init 38 = .ok (.putfield 26, 3) := by decide +kernel
theorem dX5_init_41 : decode cX5_init 41 = .ok (.return_, 1) := by decide +kernel
set_option maxRecDepth 20000 in
theorem ggX5_prepare_X0_volume : GoodIn wsX5_prepare wsX0_volume := goodIn_r _ [12] (by decide +kernel) (by decide +kernel)
set_option maxRecDepth 20000 in
theorem gX5_prepare_X0_volume : GoodIn wsX5_prepare (va_wsS RX5 35 yX0_volume wsX0_volume) := goodIn_app (goodIn_of _ (by decide +kernel)) ggX5_prepare_X0_volume
set_option maxRecDepth 20000 in
theorem ggX5_prepare_X0_following : GoodIn wsX5_prepare wsX0_following := goodIn_r _ [16, 17, 18, 19, 20, 21, 11, 22, 23, 24, 25, 26, 27, 28, 29, 30, 36, 37, 38] (by decide +kernel) (by decide +kernel)
set_option maxRecDepth 20000 in
theorem gX5_prepare_X0_following : GoodIn wsX5_prepare (wsV RX5 41 RX0 yX0_following wsX0_following) := goodIn_app (goodIn_of _ (by decide +kernel)) ggX5_prepare_X0_following
theorem dX5_prepare_0 : decode cX5_prepare 0 = .ok (.aload_n 0, 1) := by decide +kernel
theorem dX5_prepare_1 : decode cX5_prepare 1 = .ok (.iload_n 2, 1) := by decide +kernel
theorem dX5_prepare_2 : decode cX5_prepare 2 = .ok (.sipush 200, 3) := by decide +kernel
theorem dX5_prepare_5 : decode cX5_prepare 5 = .ok (.invokestatic 29, 3) := by decide +kernel
theorem dX5_prepare_8 : decode cX5_prepare 8 = .ok (.putfield 22, 3) := by decide +kernel
theorem dX5_prepare_11 : decode cX5_prepare 11 = .ok (.aload_n 0, 1) := by decide +kernel
theorem dX5_prepare_12 : decode cX5_prepare 12 = .ok (.iconst 0, 1) := by decide +kernel
theorem dX5_prepare_13 : decode cX5_prepare 13 = .ok (.putfield 26, 3) := by decide +kernel
theorem dX5_prepare_16 : decode cX5_prepare 16 = .ok (.lconst 0, 1) := by decide +kernel
theorem dX5_prepare_17 : decode cX5_prepare 17 = .ok (.lstore 4, 2) := by decide +kernel
theorem dX5_prepare_19 : decode cX5_prepare 19 = .ok (.iconst 0, 1) := by decide +kernel
theorem dX5_prepare_20 : decode cX5_prepare 20 = .ok (.istore 6, 2) := by decide +kernel
theorem dX5_prepare_22 : decode cX5_prepare 22 = .ok (.iload 6, 2) := by decide +kernel
theorem dX5_prepare_24 : decode cX5_prepare 24 = .ok (.aload_n 0, 1) := by decide +kernel
theorem dX5_prepare_25 : decode cX5_prepare 25 = .ok (.getfield 22, 3) := by decide +kernel
theorem dX5_prepare_28 : decode cX5_prepare 28 = .ok (.if_icmp .ge 53, 3) := by decide +kernel
theorem dX5_prepare_31 : decode cX5_prepare 31 = .ok (.aload_n 0, 1) := by decide +kernel
theorem dX5_prepare_32 : decode cX5_prepare 32 = .ok (.getfield 9, 3) := by decide +kernel
theorem dX5_prepare_35 : decode cX5_prepare 35 = .ok (.iload 6, 2) := by decide +kernel
theorem dX5_prepare_37 : decode cX5_prepare 37 = .ok (.lload 4, 2) := by decide +kernel
theorem dX5_prepare_39 : decode cX5_prepare 39 = .ok (.lastore, 1) := by decide +kernel
theorem dX5_prepare_40 : decode cX5_prepare 40 = .ok (.aload_n 0, 1) := by decide +kernel
theorem dX5_prepare_41 : decode cX5_prepare 41 = .ok (.getfield 15, 3) := by decide +kernel
theorem dX5_prepare_44 : decode cX5_prepare 44 = .ok (.iload 6, 2) := by decide +kernel
theorem dX5_prepare_46 : decode cX5_prepare 46 = .ok (.iload_n 3, 1) := by decide +kernel
theorem dX5_prepare_47 : decode cX5_prepare 47 = .ok (.ifCond .eq 18, 3) := by decide +kernel
theorem dX5_prepare_50 : decode cX5_prepare 50 = .ok (.lload 4, 2) := by decide +kernel
theorem dX5_prepare_52 : decode cX5_prepare 52 = .ok (.invokestatic 35, 3) := by decide +kernel
theorem dX5_prepare_55 : decode cX5_prepare 55 = .ok (.iload_n 3, 1) := by decide +kernel
theorem dX5_prepare_56 : decode cX5_prepare 56 = .ok (.irem, 1) := by decide +kernel
theorem dX5_prepare_57 : decode cX5_prepare 57 = .ok (.ifCond .ne 8, 3) := by decide +kernel
theorem dX5_prepare_60 : decode cX5_prepare 60 = .ok (.bipush (-2), 2) := by decide +kernel
theorem dX5_prepare_62 : decode cX5_prepare 62 = .ok (.goto 4, 3) := by decide +kernel
theorem dX5_prepare_65 : decode cX5_prepare 65 = .ok (.iconst (-1), 1) := by decide +kernel
theorem dX5_prepare_66 : decode cX5_prepare 66 = .ok (.iastore, 1) := by decide +kernel
theorem dX5_prepare_67 : decode cX5_prepare 67 = .ok (.aload_n 1, 1) := by decide +kernel
theorem dX5_prepare_68 : decode cX5_prepare 68 = .ok (.lload 4, 2) := by decide +kernel
theorem dX5_prepare_70 : decode cX5_prepare 70 = .ok (.invokevirtual 41, 3) := by decide +kernel
theorem dX5_prepare_73 : decode cX5_prepare 73 = .ok (.lstore 4, 2) := by decide +kernel
theorem dX5_prepare_75 : decode cX5_prepare 75 = .ok (.iinc 6 1, 3) := by decide +kernel
theorem dX5_prepare_78 : decode cX5_prepare 78 = .ok (.goto (-56), 3) := by decide +kernel
theorem dX5_prepare_81 : decode cX5_prepare 81 = .ok (.return_, 1) := by decide +kernel
set_option maxRecDepth 20000 in
theorem ggX5_shortest_X5_indexOf : GoodIn wsX5_shortest wsX5_indexOf := goodIn_r _ [9, 10, 11, 41, 42, 43, 44, 45] (by decide +kernel) (by decide +kernel)
set_option maxRecDepth 20000 in
theorem gX5_shortest_X5_indexOf : GoodIn wsX5_shortest (wsV RX5 45 RX5 yX5_indexOf wsX5_indexOf) := goodIn_app (goodIn_of _ (by decide +kernel)) ggX5_shortest_X5_indexOf
set_option maxRecDepth 20000 in
theorem ggX5_shortest_X5_reach : GoodIn wsX5_shortest wsX5_reach := goodIn_r _ [15, 2, 3, 10, 4, 41, 42, 43, 44, 45] (by decide +kernel) (by decide +kernel)
set_option maxRecDepth 20000 in
theorem gX5_shortest_X5_reach : GoodIn wsX5_shortest (wsV RX5 49 RX5 yX5_reach wsX5_reach) := goodIn_app (goodIn_of _ (by decide +kernel)) ggX5_shortest_X5_reach
set_option maxRecDepth 20000 in
theorem ggX5_shortest_X5_reachNeighbours : GoodIn wsX5_shortest wsX5_reachNeighbours := goodIn_r _ [19, 11, 20, 21, 2, 22, 23, 24, 25, 26, 27, 28, 29, 30, 31, 32, 33, 34, 35, 36, 5, 6, 7, 8, 9, 10, 12, 13, 14, 15, 3, 4, 37, 38, 39, 40, 41, 42, 43, 44, 45, 46, 47, 48] (by decide +kernel) (by decide +kernel)
set_option maxRecDepth 20000 in
theorem gX5_shortest_X5_reachNeighbours : GoodIn wsX5_shortest (wsV RX5 53 RX5 yX5_reachNeighbours wsX5_reachNeighbours) := goodIn_app (goodIn_of _ (by decide +kernel)) ggX5_shortest_X5_reachNeighbours
theorem dX5_shortest_0 : decode cX5_shortest 0 = .ok (.aload_n 0, 1) := by decide +kernel
theorem dX5_shortest_1 : decode cX5_shortest 1 = .ok (.lload_n 2, 1) := by decide +kernel
theorem dX5_shortest_2 : decode cX5_shortest 2 = .ok (.invokevirtual 45, 3) := by decide +kernel
theorem dX5_shortest_5 : decode cX5_shortest 5 = .ok (.istore 6, 2) := by decide +kernel
theorem dX5_shortest_7 : decode cX5_shortest 7 = .ok (.aload_n 0, 1) := by decide +kernel
theorem dX5_shortest_8 : decode cX5_shortest 8 = .ok (.lload 4, 2) := by decide +kernel
theorem dX5_shortest_10 : decode cX5_shortest 10 = .ok (.invokevirtual 45, 3) := by decide +kernel
theorem dX5_shortest_13 : decode cX5_shortest 13 = .ok (.istore 7, 2) := by decide +kernel
theorem dX5_shortest_15 : decode cX5_shortest 15 = .ok (.iload 6, 2) := by decide +kernel
theorem dX5_shortest_17 : decode cX5_shortest 17 = .ok (.ifCond .lt 8, 3) := by decide +kernel
theorem dX5_shortest_20 : decode cX5_shortest 20 = .ok (.iload 7, 2) := by decide +kernel
theorem dX5_shortest_22 : decode cX5_shortest 22 = .ok (.ifCond .ge 6, 3) := by decide +kernel
theorem dX5_shortest_25 : decode cX5_shortest 25 = .ok (.ldc 48, 2) := by decide +kernel
theorem dX5_shortest_27 : decode cX5_shortest 27 = .ok (.ireturn, 1) := by decide +kernel
theorem dX5_shortest_28 : decode cX5_shortest 28 = .ok (.aload_n 0, 1) := by decide +kernel
theorem dX5_shortest_29 : decode cX5_shortest 29 = .ok (.getfield 15, 3) := by decide +kernel
theorem dX5_shortest_32 : decode cX5_shortest 32 = .ok (.iload 7, 2) := by decide +kernel
theorem dX5_shortest_34 : decode cX5_shortest 34 = .ok (.iconst (-1), 1) := by decide +kernel
theorem dX5_shortest_35 : decode cX5_shortest 35 = .ok (.iastore, 1) := by decide +kernel
theorem dX5_shortest_36 : decode cX5_shortest 36 = .ok (.aload_n 0, 1) := by decide +kernel
theorem dX5_shortest_37 : decode cX5_shortest 37 = .ok (.getfield 15, 3) := by decide +kernel
theorem dX5_shortest_40 : decode cX5_shortest 40 = .ok (.iload 6, 2) := by decide +kernel
theorem dX5_shortest_42 : decode cX5_shortest 42 = .ok (.iconst (-1), 1) := by decide +kernel
theorem dX5_shortest_43 : decode cX5_shortest 43 = .ok (.iastore, 1) := by decide +kernel
theorem dX5_shortest_44 : decode cX5_shortest 44 = .ok (.aload_n 0, 1) := by decide +kernel
theorem dX5_shortest_45 : decode cX5_shortest 45 = .ok (.iload 6, 2) := by decide +kernel
theorem dX5_shortest_47 : decode cX5_shortest 47 = .ok (.iconst 0, 1) := by decide +kernel
theorem dX5_shortest_48 : decode cX5_shortest 48 = .ok (.invokevirtual 49, 3) := by decide +kernel
theorem dX5_shortest_51 : decode cX5_shortest 51 = .ok (.iconst 0, 1) := by decide +kernel
theorem dX5_shortest_52 : decode cX5_shortest 52 = .ok (.istore 8, 2) := by decide +kernel
theorem dX5_shortest_54 : decode cX5_shortest 54 = .ok (.iload 8, 2) := by decide +kernel
theorem dX5_shortest_56 : decode cX5_shortest 56 = .ok (.aload_n 0, 1) := by decide +kernel
theorem dX5_shortest_57 : decode cX5_shortest 57 = .ok (.getfield 26, 3) := by decide +kernel
theorem dX5_shortest_60 : decode cX5_shortest 60 = .ok (.if_icmp .ge 31, 3) := by decide +kernel
theorem dX5_shortest_63 : decode cX5_shortest 63 = .ok (.aload_n 0, 1) := by decide +kernel
theorem dX5_shortest_64 : decode cX5_shortest 64 = .ok (.getfield 15, 3) := by decide +kernel
theorem dX5_shortest_67 : decode cX5_shortest 67 = .ok (.iload 7, 2) := by decide +kernel
theorem dX5_shortest_69 : decode cX5_shortest 69 = .ok (.iaload, 1) := by decide +kernel
theorem dX5_shortest_70 : decode cX5_shortest 70 = .ok (.ifCond .ge 21, 3) := by decide +kernel
theorem dX5_shortest_73 : decode cX5_shortest 73 = .ok (.aload_n 0, 1) := by decide +kernel
theorem dX5_shortest_74 : decode cX5_shortest 74 = .ok (.aload_n 1, 1) := by decide +kernel
theorem dX5_shortest_75 : decode cX5_shortest 75 = .ok (.aload_n 0, 1) := by decide +kernel
theorem dX5_shortest_76 : decode cX5_shortest 76 = .ok (.getfield 19, 3) := by decide +kernel
theorem dX5_shortest_79 : decode cX5_shortest 79 = .ok (.iload 8, 2) := by decide +kernel
theorem dX5_shortest_81 : decode cX5_shortest 81 = .ok (.iaload, 1) := by decide +kernel
theorem dX5_shortest_82 : decode cX5_shortest 82 = .ok (.invokevirtual 53, 3) := by decide +kernel
theorem dX5_shortest_85 : decode cX5_shortest 85 = .ok (.iinc 8 1, 3) := by decide +kernel
theorem dX5_shortest_88 : decode cX5_shortest 88 = .ok (.goto (-34), 3) := by decide +kernel
theorem dX5_shortest_91 : decode cX5_shortest 91 = .ok (.aload_n 0, 1) := by decide +kernel
theorem dX5_shortest_92 : decode cX5_shortest 92 = .ok (.getfield 15, 3) := by decide +kernel
theorem dX5_shortest_95 : decode cX5_shortest 95 = .ok (.iload 7, 2) := by decide +kernel
theorem dX5_shortest_97 : decode cX5_shortest 97 = .ok (.iaload, 1) := by decide +kernel
theorem dX5_shortest_98 : decode cX5_shortest 98 = .ok (.ifCond .ge 8, 3) := by decide +kernel
theorem dX5_shortest_101 : decode cX5_shortest 101 = .ok (.ldc 48, 2) := by decide +kernel
theorem dX5_shortest_103 : decode cX5_shortest 103 = .ok (.goto 10, 3) := by decide +kernel
theorem dX5_shortest_106 : decode cX5_shortest 106 = .ok (.aload_n 0, 1) := by decide +kernel
theorem dX5_shortest_107 : decode cX5_shortest 107 = .ok (.getfield 15, 3) := by decide +kernel
theorem dX5_shortest_110 : decode cX5_shortest 110 = .ok (.iload 7, 2) := by decide +kernel
theorem dX5_shortest_112 : decode cX5_shortest 112 = .ok (.iaload, 1) := by decide +kernel
theorem dX5_shortest_113 : decode cX5_shortest 113 = .ok (.ireturn, 1) := by decide +kernel
set_option maxRecDepth 20000 in
theorem ggX5_reachNeighbours_X0_growsAt : GoodIn wsX5_reachNeighbours wsX0_growsAt := goodIn_r _ [9, 10, 11, 12, 8, 13, 14, 15, 16, 41, 42, 43] (by decide +kernel) (by decide +kernel)
set_option maxRecDepth 20000 in
theorem gX5_reachNeighbours_X0_growsAt : GoodIn wsX5_reachNeighbours (wsV RX5 63 RX0 yX0_growsAt wsX0_growsAt) := goodIn_app (goodIn_of _ (by decide +kernel)) ggX5_reachNeighbours_X0_growsAt
set_option maxRecDepth 20000 in
theorem ggX5_reachNeighbours_X0_cube : GoodIn wsX5_reachNeighbours wsX0_cube := goodIn_r _ [19] (by decide +kernel) (by decide +kernel)
set_option maxRecDepth 20000 in
theorem gX5_reachNeighbours_X0_cube : GoodIn wsX5_reachNeighbours (va_wsS RX5 67 yX0_cube wsX0_cube) := goodIn_app (goodIn_of _ (by decide +kernel)) ggX5_reachNeighbours_X0_cube
set_option maxRecDepth 20000 in
theorem ggX5_reachNeighbours_X5_indexOf : GoodIn wsX5_reachNeighbours wsX5_indexOf := goodIn_r _ [24, 25, 1, 36, 37, 38, 39, 40] (by decide +kernel) (by decide +kernel)
set_option maxRecDepth 20000 in
theorem gX5_reachNeighbours_X5_indexOf : GoodIn wsX5_reachNeighbours (wsV RX5 45 RX5 yX5_indexOf wsX5_indexOf) := goodIn_app (goodIn_of _ (by decide +kernel)) ggX5_reachNeighbours_X5_indexOf
set_option maxRecDepth 20000 in
theorem ggX5_reachNeighbours_X5_reach : GoodIn wsX5_reachNeighbours wsX5_reach := goodIn_r _ [29, 4, 30, 25, 31, 36, 37, 38, 39, 40] (by decide +kernel) (by decide +kernel)
set_option maxRecDepth 20000 in
theorem gX5_reachNeighbours_X5_reach : GoodIn wsX5_reachNeighbours (wsV RX5 49 RX5 yX5_reach wsX5_reach) := goodIn_app (goodIn_of _ (by decide +kernel)) ggX5_reachNeighbours_X5_reach
set_option maxRecDepth 20000 in
theorem ggX5_reachNeighbours_X0_shrinksAt : GoodIn wsX5_reachNeighbours wsX0_shrinksAt := goodIn_r _ [35, 10, 11, 12, 8, 13, 14, 15, 16, 41, 42, 43] (by decide +kernel) (by decide +kernel)
set_option maxRecDepth 20000 in
theorem gX5_reachNeighbours_X0_shrinksAt : GoodIn wsX5_reachNeighbours (wsV RX5 71 RX0 yX0_shrinksAt wsX0_shrinksAt) := goodIn_app (goodIn_of _ (by decide +kernel)) ggX5_reachNeighbours_X0_shrinksAt
theorem dX5_reachNeighbours_0 : decode cX5_reachNeighbours 0 = .ok (.aload_n 0, 1) := by decide +kernel
theorem dX5_reachNeighbours_1 : decode cX5_reachNeighbours 1 = .ok (.getfield 9, 3) := by decide +kernel
theorem dX5_reachNeighbours_4 : decode cX5_reachNeighbours 4 = .ok (.iload_n 2, 1) := by decide +kernel
theorem dX5_reachNeighbours_5 : decode cX5_reachNeighbours 5 = .ok (.laload, 1) := by decide +kernel
theorem dX5_reachNeighbours_6 : decode cX5_reachNeighbours 6 = .ok (.lstore_n 3, 1) := by decide +kernel
theorem dX5_reachNeighbours_7 : decode cX5_reachNeighbours 7 = .ok (.iconst 0, 1) := by decide +kernel
theorem dX5_reachNeighbours_8 : decode cX5_reachNeighbours 8 = .ok (.istore 5, 2) := by decide +kernel
theorem dX5_reachNeighbours_10 : decode cX5_reachNeighbours 10 = .ok (.iload 5, 2) := by decide +kernel
theorem dX5_reachNeighbours_12 : decode cX5_reachNeighbours 12 = .ok (.aload_n 1, 1) := by decide +kernel
theorem dX5_reachNeighbours_13 : decode cX5_reachNeighbours 13 = .ok (.getfield 57, 3) := by decide +kernel
theorem dX5_reachNeighbours_16 : decode cX5_reachNeighbours 16 = .ok (.if_icmp .ge 101, 3) := by decide +kernel
theorem dX5_reachNeighbours_19 : decode cX5_reachNeighbours 19 = .ok (.iconst 0, 1) := by decide +kernel
theorem dX5_reachNeighbours_20 : decode cX5_reachNeighbours 20 = .ok (.istore 6, 2) := by decide +kernel
theorem dX5_reachNeighbours_22 : decode cX5_reachNeighbours 22 = .ok (.iload 6, 2) := by decide +kernel
theorem dX5_reachNeighbours_24 : decode cX5_reachNeighbours 24 = .ok (.aload_n 1, 1) := by decide +kernel
theorem dX5_reachNeighbours_25 : decode cX5_reachNeighbours 25 = .ok (.getfield 60, 3) := by decide +kernel
theorem dX5_reachNeighbours_28 : decode cX5_reachNeighbours 28 = .ok (.if_icmp .ge 83, 3) := by decide +kernel
theorem dX5_reachNeighbours_31 : decode cX5_reachNeighbours 31 = .ok (.aload_n 1, 1) := by decide +kernel
theorem dX5_reachNeighbours_32 : decode cX5_reachNeighbours 32 = .ok (.lload_n 3, 1) := by decide +kernel
theorem dX5_reachNeighbours_33 : decode cX5_reachNeighbours 33 = .ok (.iload 5, 2) := by decide +kernel
theorem dX5_reachNeighbours_35 : decode cX5_reachNeighbours 35 = .ok (.iload 6, 2) := by decide +kernel
theorem dX5_reachNeighbours_37 : decode cX5_reachNeighbours 37 = .ok (.invokevirtual 63, 3) := by decide +kernel
theorem dX5_reachNeighbours_40 : decode cX5_reachNeighbours 40 = .ok (.ifCond .eq 28, 3) := by decide +kernel
theorem dX5_reachNeighbours_43 : decode cX5_reachNeighbours 43 = .ok (.aload_n 0, 1) := by decide +kernel
theorem dX5_reachNeighbours_44 : decode cX5_reachNeighbours 44 = .ok (.aload_n 0, 1) := by decide +kernel
theorem dX5_reachNeighbours_45 : decode cX5_reachNeighbours 45 = .ok (.lload_n 3, 1) := by decide +kernel
theorem dX5_reachNeighbours_46 : decode cX5_reachNeighbours 46 = .ok (.iload 5, 2) := by decide +kernel
theorem dX5_reachNeighbours_48 : decode cX5_reachNeighbours 48 = .ok (.iload 6, 2) := by decide +kernel
theorem dX5_reachNeighbours_50 : decode cX5_reachNeighbours 50 = .ok (.invokestatic 67, 3) := by decide +kernel
theorem dX5_reachNeighbours_53 : decode cX5_reachNeighbours 53 = .ok (.ladd, 1) := by decide +kernel
theorem dX5_reachNeighbours_54 : decode cX5_reachNeighbours 54 = .ok (.invokevirtual 45, 3) := by decide +kernel
theorem dX5_reachNeighbours_57 : decode cX5_reachNeighbours 57 = .ok (.aload_n 0, 1) := by decide +kernel
theorem dX5_reachNeighbours_58 : decode cX5_reachNeighbours 58 = .ok (.getfield 15, 3) := by decide +kernel
theorem dX5_reachNeighbours_61 : decode cX5_reachNeighbours 61 = .ok (.iload_n 2, 1) := by decide +kernel
theorem dX5_reachNeighbours_62 : decode cX5_reachNeighbours 62 = .ok (.iaload, 1) := by decide +kernel
theorem dX5_reachNeighbours_63 : decode cX5_reachNeighbours 63 = .ok (.iconst 1, 1) := by decide +kernel
theorem dX5_reachNeighbours_64 : decode cX5_reachNeighbours 64 = .ok (.iadd, 1) := by decide +kernel
theorem dX5_reachNeighbours_65 : decode cX5_reachNeighbours 65 = .ok (.invokevirtual 49, 3) := by decide +kernel
theorem dX5_reachNeighbours_68 : decode cX5_reachNeighbours 68 = .ok (.aload_n 1, 1) := by decide +kernel
theorem dX5_reachNeighbours_69 : decode cX5_reachNeighbours 69 = .ok (.lload_n 3, 1) := by decide +kernel
theorem dX5_reachNeighbours_70 : decode cX5_reachNeighbours 70 = .ok (.iload 5, 2) := by decide +kernel
theorem dX5_reachNeighbours_72 : decode cX5_reachNeighbours 72 = .ok (.iload 6, 2) := by decide +kernel
theorem dX5_reachNeighbours_74 : decode cX5_reachNeighbours 74 = .ok (.invokevirtual 71, 3) := by decide +kernel
theorem dX5_reachNeighbours_77 : decode cX5_reachNeighbours 77 = .ok (.ifCond .eq 28, 3) := by decide +kernel
theorem dX5_reachNeighbours_80 : decode cX5_reachNeighbours 80 = .ok (.aload_n 0, 1) := by decide +kernel
theorem dX5_reachNeighbours_81 : decode cX5_reachNeighbours 81 = .ok (.aload_n 0, 1) := by decide +kernel
theorem dX5_reachNeighbours_82 : decode cX5_reachNeighbours 82 = .ok (.lload_n 3, 1) := by decide +kernel
theorem dX5_reachNeighbours_83 : decode cX5_reachNeighbours 83 = .ok (.iload 5, 2) := by decide +kernel
theorem dX5_reachNeighbours_85 : decode cX5_reachNeighbours 85 = .ok (.iload 6, 2) := by decide +kernel
theorem dX5_reachNeighbours_87 : decode cX5_reachNeighbours 87 = .ok (.invokestatic 67, 3) := by decide +kernel
theorem dX5_reachNeighbours_90 : decode cX5_reachNeighbours 90 = .ok (.lsub, 1) := by decide +kernel
theorem dX5_reachNeighbours_91 : decode cX5_reachNeighbours 91 = .ok (.invokevirtual 45, 3) := by decide +kernel
theorem dX5_reachNeighbours_94 : decode cX5_reachNeighbours 94 = .ok (.aload_n 0, 1) := by decide +kernel
theorem dX5_reachNeighbours_95 : decode cX5_reachNeighbours 95 = .ok (.getfield 15, 3) := by decide +kernel
theorem dX5_reachNeighbours_98 : decode cX5_reachNeighbours 98 = .ok (.iload_n 2, 1) := by decide +kernel
theorem dX5_reachNeighbours_99 : decode cX5_reachNeighbours 99 = .ok (.iaload, 1) := by decide +kernel
theorem dX5_reachNeighbours_100 : decode cX5_reachNeighbours 100 = .ok (.iconst 1, 1) := by decide +kernel
theorem dX5_reachNeighbours_101 : decode cX5_reachNeighbours 101 = .ok (.iadd, 1) := by decide +kernel
theorem dX5_reachNeighbours_102 : decode cX5_reachNeighbours 102 = .ok (.invokevirtual 49, 3) := by decide +kernel
theorem dX5_reachNeighbours_105 : decode cX5_reachNeighbours 105 = .ok (.iinc 6 1, 3) := by decide +kernel
theorem dX5_reachNeighbours_108 : decode cX5_reachNeighbours 108 = .ok (.goto (-86), 3) := by decide +kernel
theorem dX5_reachNeighbours_111 : decode cX5_reachNeighbours 111 = .ok (.iinc 5 1, 3) := by decide +kernel
theorem dX5_reachNeighbours_114 : decode cX5_reachNeighbours 114 = .ok (.goto (-104), 3) := by decide +kernel
theorem dX5_reachNeighbours_117 : decode cX5_reachNeighbours 117 = .ok (.return_, 1) := by decide +kernel
theorem dX5_reach_0 : decode cX5_reach 0 = .ok (.iload_n 1, 1) := by decide +kernel
theorem dX5_reach_1 : decode cX5_reach 1 = .ok (.ifCond .lt 51, 3) := by decide +kernel
theorem dX5_reach_4 : decode cX5_reach 4 = .ok (.aload_n 0, 1) := by decide +kernel
theorem dX5_reach_5 : decode cX5_reach 5 = .ok (.getfield 15, 3) := by decide +kernel
theorem dX5_reach_8 : decode cX5_reach 8 = .ok (.iload_n 1, 1) := by decide +kernel
theorem dX5_reach_9 : decode cX5_reach 9 = .ok (.iaload, 1) := by decide +kernel
theorem dX5_reach_10 : decode cX5_reach 10 = .ok (.iconst (-1), 1) := by decide +kernel
theorem dX5_reach_11 : decode cX5_reach 11 = .ok (.if_icmp .ne 41, 3) := by decide +kernel
theorem dX5_reach_14 : decode cX5_reach 14 = .ok (.aload_n 0, 1) := by decide +kernel
theorem dX5_reach_15 : decode cX5_reach 15 = .ok (.getfield 26, 3) := by decide +kernel
theorem dX5_reach_18 : decode cX5_reach 18 = .ok (.aload_n 0, 1) := by decide +kernel
theorem dX5_reach_19 : decode cX5_reach 19 = .ok (.getfield 22, 3) := by decide +kernel
theorem dX5_reach_22 : decode cX5_reach 22 = .ok (.if_icmp .ge 30, 3) := by decide +kernel
theorem dX5_reach_25 : decode cX5_reach 25 = .ok (.aload_n 0, 1) := by decide +kernel
theorem dX5_reach_26 : decode cX5_reach 26 = .ok (.getfield 15, 3) := by decide +kernel
theorem dX5_reach_29 : decode cX5_reach 29 = .ok (.iload_n 1, 1) := by decide +kernel
theorem dX5_reach_30 : decode cX5_reach 30 = .ok (.iload_n 2, 1) := by decide +kernel
theorem dX5_reach_31 : decode cX5_reach 31 = .ok (.iastore, 1) := by decide +kernel
theorem dX5_reach_32 : decode cX5_reach 32 = .ok (.aload_n 0, 1) := by decide +kernel
theorem dX5_reach_33 : decode cX5_reach 33 = .ok (.getfield 19, 3) := by decide +kernel
theorem dX5_reach_36 : decode cX5_reach 36 = .ok (.aload_n 0, 1) := by decide +kernel
theorem dX5_reach_37 : decode cX5_reach 37 = .ok (.getfield 26, 3) := by decide +kernel
theorem dX5_reach_40 : decode cX5_reach 40 = .ok (.iload_n 1, 1) := by decide +kernel
theorem dX5_reach_41 : decode cX5_reach 41 = .ok (.iastore, 1) := by decide +kernel
theorem dX5_reach_42 : decode cX5_reach 42 = .ok (.aload_n 0, 1) := by decide +kernel
theorem dX5_reach_43 : decode cX5_reach 43 = .ok (.dup, 1) := by decide +kernel
theorem dX5_reach_44 : decode cX5_reach 44 = .ok (.getfield 26, 3) := by decide +kernel
theorem dX5_reach_47 : decode cX5_reach 47 = .ok (.iconst 1, 1) := by decide +kernel
theorem dX5_reach_48 : decode cX5_reach 48 = .ok (.iadd, 1) := by decide +kernel
theorem dX5_reach_49 : decode cX5_reach 49 = .ok (.putfield 26, 3) := by decide +kernel
theorem dX5_reach_52 : decode cX5_reach 52 = .ok (.return_, 1) := by decide +kernel
theorem dX5_indexOf_0 : decode cX5_indexOf 0 = .ok (.iconst 0, 1) := by decide +kernel
theorem dX5_indexOf_1 : decode cX5_indexOf 1 = .ok (.istore_n 3, 1) := by decide +kernel
theorem dX5_indexOf_2 : decode cX5_indexOf 2 = .ok (.aload_n 0, 1) := by decide +kernel
theorem dX5_indexOf_3 : decode cX5_indexOf 3 = .ok (.getfield 22, 3) := by decide +kernel
theorem dX5_indexOf_6 : decode cX5_indexOf 6 = .ok (.iconst 1, 1) := by decide +kernel
theorem dX5_indexOf_7 : decode cX5_indexOf 7 = .ok (.isub, 1) := by decide +kernel
theorem dX5_indexOf_8 : decode cX5_indexOf 8 = .ok (.istore 4, 2) := by decide +kernel
theorem dX5_indexOf_10 : decode cX5_indexOf 10 = .ok (.iconst 0, 1) := by decide +kernel
theorem dX5_indexOf_11 : decode cX5_indexOf 11 = .ok (.istore 5, 2) := by decide +kernel
theorem dX5_indexOf_13 : decode cX5_indexOf 13 = .ok (.iload 5, 2) := by decide +kernel
theorem dX5_indexOf_15 : decode cX5_indexOf 15 = .ok (.aload_n 0, 1) := by decide +kernel
theorem dX5_indexOf_16 : decode cX5_indexOf 16 = .ok (.getfield 22, 3) := by decide +kernel
theorem dX5_indexOf_19 : decode cX5_indexOf 19 = .ok (.if_icmp .ge 64, 3) := by decide +kernel
theorem dX5_indexOf_22 : decode cX5_indexOf 22 = .ok (.iload_n 3, 1) := by decide +kernel
theorem dX5_indexOf_23 : decode cX5_indexOf 23 = .ok (.iload 4, 2) := by decide +kernel
theorem dX5_indexOf_25 : decode cX5_indexOf 25 = .ok (.if_icmp .gt 58, 3) := by decide +kernel
theorem dX5_indexOf_28 : decode cX5_indexOf 28 = .ok (.iload_n 3, 1) := by decide +kernel
theorem dX5_indexOf_29 : decode cX5_indexOf 29 = .ok (.iload 4, 2) := by decide +kernel
theorem dX5_indexOf_31 : decode cX5_indexOf 31 = .ok (.iadd, 1) := by decide +kernel
theorem dX5_indexOf_32 : decode cX5_indexOf 32 = .ok (.iconst 2, 1) := by decide +kernel
theorem dX5_indexOf_33 : decode cX5_indexOf 33 = .ok (.idiv, 1) := by decide +kernel
theorem dX5_indexOf_34 : decode cX5_indexOf 34 = .ok (.istore 6, 2) := by decide +kernel
theorem dX5_indexOf_36 : decode cX5_indexOf 36 = .ok (.aload_n 0, 1) := by decide +kernel
theorem dX5_indexOf_37 : decode cX5_indexOf 37 = .ok (.getfield 9, 3) := by decide +kernel
theorem dX5_indexOf_40 : decode cX5_indexOf 40 = .ok (.iload 6, 2) := by decide +kernel
theorem dX5_indexOf_42 : decode cX5_indexOf 42 = .ok (.laload, 1) := by decide +kernel
theorem dX5_indexOf_43 : decode cX5_indexOf 43 = .ok (.lload_n 1, 1) := by decide +kernel
theorem dX5_indexOf_44 : decode cX5_indexOf 44 = .ok (.lcmp, 1) := by decide +kernel
theorem dX5_indexOf_45 : decode cX5_indexOf 45 = .ok (.ifCond .ne 6, 3) := by decide +kernel
theorem dX5_indexOf_48 : decode cX5_indexOf 48 = .ok (.iload 6, 2) := by decide +kernel
theorem dX5_indexOf_50 : decode cX5_indexOf 50 = .ok (.ireturn, 1) := by decide +kernel
theorem dX5_indexOf_51 : decode cX5_indexOf 51 = .ok (.aload_n 0, 1) := by decide +kernel
theorem dX5_indexOf_52 : decode cX5_indexOf 52 = .ok (.getfield 9, 3) := by decide +kernel
theorem dX5_indexOf_55 : decode cX5_indexOf 55 = .ok (.iload 6, 2) := by decide +kernel
theorem dX5_indexOf_57 : decode cX5_indexOf 57 = .ok (.laload, 1) := by decide +kernel
theorem dX5_indexOf_58 : decode cX5_indexOf 58 = .ok (.lload_n 1, 1) := by decide +kernel
theorem dX5_indexOf_59 : decode cX5_indexOf 59 = .ok (.lcmp, 1) := by decide +kernel
theorem dX5_indexOf_60 : decode cX5_indexOf 60 = .ok (.ifCond .ge 11, 3) := by decide +kernel
theorem dX5_indexOf_63 : decode cX5_indexOf 63 = .ok (.iload 6, 2) := by decide +kernel
theorem dX5_indexOf_65 : decode cX5_indexOf 65 = .ok (.iconst 1, 1) := by decide +kernel
theorem dX5_indexOf_66 : decode cX5_indexOf 66 = .ok (.iadd, 1) := by decide +kernel
theorem dX5_indexOf_67 : decode cX5_indexOf 67 = .ok (.istore_n 3, 1) := by decide +kernel
theorem dX5_indexOf_68 : decode cX5_indexOf 68 = .ok (.goto 9, 3) := by decide +kernel
theorem dX5_indexOf_71 : decode cX5_indexOf 71 = .ok (.iload 6, 2) := by decide +kernel
theorem dX5_indexOf_73 : decode cX5_indexOf 73 = .ok (.iconst 1, 1) := by decide +kernel
theorem dX5_indexOf_74 : decode cX5_indexOf 74 = .ok (.isub, 1) := by decide +kernel
theorem dX5_indexOf_75 : decode cX5_indexOf 75 = .ok (.istore 4, 2) := by decide +kernel
theorem dX5_indexOf_77 : decode cX5_indexOf 77 = .ok (.iinc 5 1, 3) := by decide +kernel
theorem dX5_indexOf_80 : decode cX5_indexOf 80 = .ok (.goto (-67), 3) := by decide +kernel
theorem dX5_indexOf_83 : decode cX5_indexOf 83 = .ok (.iconst (-1), 1) := by decide +kernel
theorem dX5_indexOf_84 : decode cX5_indexOf 84 = .ok (.ireturn, 1) := by decide +kernel
