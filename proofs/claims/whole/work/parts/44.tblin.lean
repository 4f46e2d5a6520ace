theorem kl_app {a b big : List Cond} (ha : ∀ w ∈ a, w ∈ big) (hb : ∀ w ∈ b, w ∈ big) : ∀ w ∈ a ++ b, w ∈ big := fun w h => (List.mem_append.mp h).elim (ha w) (hb w)
set_option maxRecDepth 20000 in
theorem kl_in1 : ∀ w ∈ wsL_law_r1, w ∈ lw_tbl := fun w h => (goodIn_p wsL_law_r1 [98, 101] rfl (by decide +kernel) w h).1
set_option maxRecDepth 20000 in
theorem kl_in2 : ∀ w ∈ wsL_law_r2, w ∈ lw_tbl := fun w h => (goodIn_p wsL_law_r2 [106] rfl (by decide +kernel) w h).1
set_option maxRecDepth 20000 in
theorem kl_in3 : ∀ w ∈ wsL_law_r3, w ∈ lw_tbl := fun w h => (goodIn_p wsL_law_r3 [143, 163, 178] rfl (by decide +kernel) w h).1
set_option maxRecDepth 20000 in
theorem kl_in4 : ∀ w ∈ wsL_law_r4, w ∈ lw_tbl := fun w h => (goodIn_p wsL_law_r4 [802] rfl (by decide +kernel) w h).1
set_option maxRecDepth 20000 in
theorem kl_in5 : ∀ w ∈ wsL_law_r5, w ∈ lw_tbl := fun w h => (goodIn_p wsL_law_r5 [231, 236, 903, 906] rfl (by decide +kernel) w h).1
set_option maxRecDepth 20000 in
theorem kl_in6 : ∀ w ∈ wsL_law_r6, w ∈ lw_tbl := fun w h => (goodIn_p wsL_law_r6 [241, 244, 248, 251] rfl (by decide +kernel) w h).1
set_option maxRecDepth 20000 in
theorem kl_in7 : ∀ w ∈ wsL_law_r7, w ∈ lw_tbl := fun w h => (goodIn_p wsL_law_r7 [255, 259, 263, 267, 271, 275] rfl (by decide +kernel) w h).1
set_option maxRecDepth 20000 in
theorem kl_in8 : ∀ w ∈ wsL_law_r8, w ∈ lw_tbl := fun w h => (goodIn_p wsL_law_r8 [278, 281, 285, 289, 293, 297] rfl (by decide +kernel) w h).1
set_option maxRecDepth 20000 in
theorem kl_in9 : ∀ w ∈ wsL_law_r9, w ∈ lw_tbl := fun w h => (goodIn_p wsL_law_r9 [304, 307, 301, 311, 315, 319, 323] rfl (by decide +kernel) w h).1
set_option maxRecDepth 20000 in
theorem kl_in10 : ∀ w ∈ wsL_law_r10, w ∈ lw_tbl := fun w h => (goodIn_p wsL_law_r10 [330, 353, 356, 359, 374] rfl (by decide +kernel) w h).1
set_option maxRecDepth 20000 in
theorem kl_in11 : ∀ w ∈ wsL_law_r11, w ∈ lw_tbl := fun w h => (goodIn_p wsL_law_r11 [378, 381, 386, 389, 912, 915] rfl (by decide +kernel) w h).1
set_option maxRecDepth 20000 in
theorem kl_in12 : ∀ w ∈ wsL_law_r12, w ∈ lw_tbl := fun w h => (goodIn_p wsL_law_r12 [919, 923, 927, 931, 935, 939] rfl (by decide +kernel) w h).1
set_option maxRecDepth 20000 in
theorem kl_in13 : ∀ w ∈ wsL_law_r13, w ∈ lw_tbl := fun w h => (goodIn_p wsL_law_r13 [942, 946, 950, 954, 958, 961] rfl (by decide +kernel) w h).1
set_option maxRecDepth 20000 in
theorem kl_in14 : ∀ w ∈ wsL_law_r14, w ∈ lw_tbl := fun w h => (goodIn_p wsL_law_r14 [965, 969, 973, 978, 982, 899, 985] rfl (by decide +kernel) w h).1
set_option maxRecDepth 20000 in
theorem kl_in15 : ∀ w ∈ wsL_law_r15, w ∈ lw_tbl := fun w h => (goodIn_p wsL_law_r15 [393, 989, 397, 402, 895] rfl (by decide +kernel) w h).1
set_option maxRecDepth 20000 in
theorem kl_in16 : ∀ w ∈ wsL_law_r16, w ∈ lw_tbl := fun w h => (goodIn_p wsL_law_r16 [406, 409, 416, 420] rfl (by decide +kernel) w h).1
set_option maxRecDepth 20000 in
theorem kl_in17 : ∀ w ∈ wsL_law_r17, w ∈ lw_tbl := fun w h => (goodIn_p wsL_law_r17 [424, 431, 436, 440, 444] rfl (by decide +kernel) w h).1
set_option maxRecDepth 20000 in
theorem kl_in18 : ∀ w ∈ wsL_law_r18, w ∈ lw_tbl := fun w h => (goodIn_p wsL_law_r18 [449, 453, 471, 475, 478, 993] rfl (by decide +kernel) w h).1
set_option maxRecDepth 20000 in
theorem kl_in19 : ∀ w ∈ wsL_law_r19, w ∈ lw_tbl := fun w h => (goodIn_p wsL_law_r19 [996, 1000, 1004, 1008, 1012, 483] rfl (by decide +kernel) w h).1
set_option maxRecDepth 20000 in
theorem kl_in20 : ∀ w ∈ wsL_law_r20, w ∈ lw_tbl := fun w h => (goodIn_p wsL_law_r20 [1016, 491, 495, 499] rfl (by decide +kernel) w h).1
set_option maxRecDepth 20000 in
theorem kl_in21 : ∀ w ∈ wsL_law_r21, w ∈ lw_tbl := fun w h => (goodIn_p wsL_law_r21 [503, 507, 511, 516, 1023] rfl (by decide +kernel) w h).1
set_option maxRecDepth 20000 in
theorem kl_in22 : ∀ w ∈ wsL_law_r22, w ∈ lw_tbl := fun w h => (goodIn_p wsL_law_r22 [1027, 1031, 1034, 521, 1038, 1041, 525] rfl (by decide +kernel) w h).1
set_option maxRecDepth 20000 in
theorem kl_in23 : ∀ w ∈ wsL_law_r23, w ∈ lw_tbl := fun w h => (goodIn_p wsL_law_r23 [529, 536, 541, 545] rfl (by decide +kernel) w h).1
set_option maxRecDepth 20000 in
theorem kl_in24 : ∀ w ∈ wsL_law_r24, w ∈ lw_tbl := fun w h => (goodIn_p wsL_law_r24 [1045, 1048, 1051, 549, 553, 557] rfl (by decide +kernel) w h).1
set_option maxRecDepth 20000 in
theorem kl_in25 : ∀ w ∈ wsL_law_r25, w ∈ lw_tbl := fun w h => (goodIn_p wsL_law_r25 [1055, 1059, 1062, 563, 1066, 1070] rfl (by decide +kernel) w h).1
set_option maxRecDepth 20000 in
theorem kl_in26 : ∀ w ∈ wsL_law_r26, w ∈ lw_tbl := fun w h => (goodIn_p wsL_law_r26 [568, 572, 576, 580, 584, 589] rfl (by decide +kernel) w h).1
set_option maxRecDepth 20000 in
theorem kl_in27 : ∀ w ∈ wsL_law_r27, w ∈ lw_tbl := fun w h => (goodIn_p wsL_law_r27 [593, 600, 604, 608, 612] rfl (by decide +kernel) w h).1
set_option maxRecDepth 20000 in
theorem kl_in28 : ∀ w ∈ wsL_law_r28, w ∈ lw_tbl := fun w h => (goodIn_p wsL_law_r28 [1095, 1086, 1090, 1099, 1103] rfl (by decide +kernel) w h).1
set_option maxRecDepth 20000 in
theorem kl_in29 : ∀ w ∈ wsL_law_r29, w ∈ lw_tbl := fun w h => (goodIn_p wsL_law_r29 [1107, 1111, 1078, 618, 622, 627] rfl (by decide +kernel) w h).1
set_option maxRecDepth 20000 in
theorem kl_in30 : ∀ w ∈ wsL_law_r30, w ∈ lw_tbl := fun w h => (goodIn_p wsL_law_r30 [1115, 631, 1119, 636, 640, 643] rfl (by decide +kernel) w h).1
set_option maxRecDepth 20000 in
theorem kl_in31 : ∀ w ∈ wsL_law_r31, w ∈ lw_tbl := fun w h => (goodIn_p wsL_law_r31 [1123, 1127, 1131, 1135, 647, 651] rfl (by decide +kernel) w h).1
set_option maxRecDepth 20000 in
theorem kl_in32 : ∀ w ∈ wsL_law_r32, w ∈ lw_tbl := fun w h => (goodIn_p wsL_law_r32 [1074, 1082, 655, 658, 1139, 1143] rfl (by decide +kernel) w h).1
set_option maxRecDepth 20000 in
theorem kl_in33 : ∀ w ∈ wsL_law_r33, w ∈ lw_tbl := fun w h => (goodIn_p wsL_law_r33 [1147, 663, 1151, 667, 671] rfl (by decide +kernel) w h).1
set_option maxRecDepth 20000 in
theorem kl_in34 : ∀ w ∈ wsL_law_r34, w ∈ lw_tbl := fun w h => (goodIn_p wsL_law_r34 [1155, 1159, 1162, 676, 680, 684] rfl (by decide +kernel) w h).1
set_option maxRecDepth 20000 in
theorem kl_in35 : ∀ w ∈ wsL_law_r35, w ∈ lw_tbl := fun w h => (goodIn_p wsL_law_r35 [1167, 1171, 1175, 688, 692, 696] rfl (by decide +kernel) w h).1
set_option maxRecDepth 20000 in
theorem kl_in36 : ∀ w ∈ wsL_law_r36, w ∈ lw_tbl := fun w h => (goodIn_p wsL_law_r36 [700, 703, 706, 709, 712, 717, 721] rfl (by decide +kernel) w h).1
set_option maxRecDepth 20000 in
theorem kl_in37 : ∀ w ∈ wsL_law_r37, w ∈ lw_tbl := fun w h => (goodIn_p wsL_law_r37 [728, 1179, 1183, 1187, 1190] rfl (by decide +kernel) w h).1
set_option maxRecDepth 20000 in
theorem kl_in38 : ∀ w ∈ wsL_law_r38, w ∈ lw_tbl := fun w h => (goodIn_p wsL_law_r38 [1195, 1199, 732, 736, 1203, 741] rfl (by decide +kernel) w h).1
set_option maxRecDepth 20000 in
theorem kl_in39 : ∀ w ∈ wsL_law_r39, w ∈ lw_tbl := fun w h => (goodIn_p wsL_law_r39 [745, 1207, 1211, 749, 753] rfl (by decide +kernel) w h).1
set_option maxRecDepth 20000 in
theorem kl_in40 : ∀ w ∈ wsL_law_r40, w ∈ lw_tbl := fun w h => (goodIn_p wsL_law_r40 [760, 764, 769, 773, 1215] rfl (by decide +kernel) w h).1
set_option maxRecDepth 20000 in
theorem kl_in41 : ∀ w ∈ wsL_law_r41, w ∈ lw_tbl := fun w h => (goodIn_p wsL_law_r41 [1219, 1223, 780, 785, 1227] rfl (by decide +kernel) w h).1
set_option maxRecDepth 20000 in
theorem kl_in42 : ∀ w ∈ wsL_law_r42, w ∈ lw_tbl := fun w h => (goodIn_p wsL_law_r42 [1231, 789, 1235, 793, 797, 1239] rfl (by decide +kernel) w h).1
theorem kl_inX7 : ∀ w ∈ wsX70, w ∈ lw_tbl := by decide +kernel
theorem kl_inX8 : ∀ w ∈ wsX80, w ∈ lw_tbl := by decide +kernel
theorem kl_inX6 : ∀ w ∈ wsX60, w ∈ lw_tbl := by decide +kernel
theorem kl_inX3 : ∀ w ∈ wsX30, w ∈ lw_tbl := by decide +kernel
theorem kl_inX2 : ∀ w ∈ wsX20, w ∈ lw_tbl := by decide +kernel
theorem kl_inX5 : ∀ w ∈ wsX50, w ∈ lw_tbl := by decide +kernel
theorem kl_inX1 : ∀ w ∈ wsX10, w ∈ lw_tbl := by decide +kernel
theorem kl_inX0 : ∀ w ∈ wsX00, w ∈ lw_tbl := by decide +kernel
theorem kl_inX4 : ∀ w ∈ wsX40, w ∈ lw_tbl := by decide +kernel
theorem wsL_law_in : ∀ w ∈ wsL_law, w ∈ lw_tbl := (kl_app (kl_app (kl_app (kl_app (kl_app (kl_app (kl_app (kl_app (kl_app (kl_app (kl_app kl_in1 (kl_app kl_in2 (kl_app kl_in3 (kl_app kl_in4 (kl_app kl_in5 (kl_app kl_in6 (kl_app kl_in7 (kl_app kl_in8 (kl_app kl_in9 (kl_app kl_in10 (kl_app kl_in11 (kl_app kl_in12 (kl_app kl_in13 (kl_app kl_in14 (kl_app kl_in15 (kl_app kl_in16 (kl_app kl_in17 (kl_app kl_in18 (kl_app kl_in19 (kl_app kl_in20 (kl_app kl_in21 (kl_app kl_in22 (kl_app kl_in23 (kl_app kl_in24 (kl_app kl_in25 (kl_app kl_in26 (kl_app kl_in27 (kl_app kl_in28 (kl_app kl_in29 (kl_app kl_in30 (kl_app kl_in31 (kl_app kl_in32 (kl_app kl_in33 (kl_app kl_in34 (kl_app kl_in35 (kl_app kl_in36 (kl_app kl_in37 (kl_app kl_in38 (kl_app kl_in39 (kl_app kl_in40 (kl_app kl_in41 kl_in42))))))))))))))))))))))))))))))))))))))))) kl_inX7) kl_inX8) kl_inX6) kl_inX3) kl_inX2) kl_inX5) kl_inX1) kl_inX0) kl_inX4) (fun _ h => absurd h List.not_mem_nil))
