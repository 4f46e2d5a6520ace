set_option maxRecDepth 20000 in
theorem ggL_law_X7_init : GoodIn wsL_law wsX7_init := goodIn_r _ [8, 9, 10, 11, 12, 13, 14, 15, 16, 17, 18, 19, 20, 21, 22, 23, 24, 25, 26, 27, 28, 29, 30, 31, 32, 33, 34, 35, 36, 37, 38, 39, 40, 41, 42, 43, 44, 45, 46, 47, 48, 49, 50, 51, 52, 53, 54, 55, 56, 57, 58, 59, 60, 61, 62, 63, 64, 65, 66, 67, 68, 69, 70, 1044, 1045, 1046, 1047, 1048, 1049, 1050, 1051, 1005, 1006, 1007, 1008, 1009, 1010, 1011, 1012, 1013, 1014, 1052, 1053, 1054, 1055, 1056, 1057, 1058, 1059, 1060, 1061] (by decide +kernel) (by decide +kernel)
set_option maxRecDepth 20000 in
theorem gL_law_X7_init : GoodIn wsL_law (wsX7_init) := ggL_law_X7_init
set_option maxRecDepth 20000 in
theorem ggL_law_X8_init : GoodIn wsL_law wsX8_init := goodIn_r _ [73, 74, 10, 11, 41, 75, 76, 77, 23, 78, 79, 80, 81, 82, 83, 84, 85, 86, 87, 88, 89, 90, 91, 35, 92, 93, 94, 95, 96, 97, 1015, 1016, 1017, 1018, 1019, 1020, 1021, 1022, 1023, 1024, 1025, 1026, 1027, 1028, 1029, 1030, 1031, 1032, 1033, 1034, 1035, 1036, 1037, 1038, 1039, 1040, 1041, 1042, 1043] (by decide +kernel) (by decide +kernel)
set_option maxRecDepth 20000 in
theorem gL_law_X8_init : GoodIn wsL_law (wsX8_init) := ggL_law_X8_init
set_option maxRecDepth 20000 in
theorem ggL_law_X7_feed : GoodIn wsL_law wsX7_feed := goodIn_r _ [101, 102, 15, 103, 104, 105, 106, 107, 14, 108, 47, 42, 1005, 1006, 1007, 1008, 1009, 1010, 1011, 1012, 1013, 1014, 1044, 1045, 1046, 1047, 1048, 1049, 1050, 1051] (by decide +kernel) (by decide +kernel)
set_option maxRecDepth 20000 in
theorem gL_law_X7_feed : GoodIn wsL_law (wsV RL 13 RX7 yX7_feed wsX7_feed) := goodIn_app (goodIn_of _ (by decide +kernel)) ggL_law_X7_feed
set_option maxRecDepth 20000 in
theorem ggL_law_X8_feed : GoodIn wsL_law wsX8_feed := goodIn_r _ [112, 113, 114, 115, 79, 116, 117, 5, 118, 1015, 1016, 1017, 1018, 1019, 1020, 1021, 1022, 1023, 1024, 1025, 1026, 1027, 1028, 1029, 1030, 1031, 1032, 1033, 1034, 1035, 1036, 1037, 1038, 1039, 1040, 1041, 1042, 1043] (by decide +kernel) (by decide +kernel)
set_option maxRecDepth 20000 in
theorem gL_law_X8_feed : GoodIn wsL_law (wsV RL 17 RX8 yX8_feed wsX8_feed) := goodIn_app (goodIn_of _ (by decide +kernel)) ggL_law_X8_feed
set_option maxRecDepth 20000 in
theorem ggL_law_X7_heap : GoodIn wsL_law wsX7_heap := goodIn_r _ [122, 102, 15, 103, 123, 37, 124, 125, 126, 127, 2, 128, 129, 130, 131, 14, 132, 48, 49, 43, 47, 133, 134, 135, 136, 137, 138, 44, 45, 46, 139, 140, 141, 142, 143, 144, 145, 146, 147, 148, 149, 150, 42, 151, 152, 153, 154, 155, 156, 157, 158, 159, 160, 161, 162, 163, 164, 165, 166, 167, 168, 169, 170, 171, 172, 173, 174, 175, 176, 177, 178, 179, 180, 181, 182, 183, 184, 185, 186, 187, 188, 189, 190, 191, 192, 193, 194, 195, 196, 197, 198, 199, 200, 201, 202, 203, 204, 205, 206, 207, 208, 209, 210, 211, 212, 213, 214, 215, 216, 217, 218, 10, 11, 219, 220, 221, 222, 223, 224, 225, 226, 227, 228, 229, 230, 231, 232, 233, 234, 235, 236, 237, 238, 21, 17, 239, 240, 241, 20, 242, 55, 54, 56, 243, 244, 245, 246, 247, 248, 249, 250, 251, 252, 1005, 1006, 1007, 1008, 1009, 1010, 1011, 1012, 1013, 1014, 1044, 1045, 1046, 1047, 1048, 1049, 1050, 1051, 1062, 1063, 1064, 1065, 1066, 1052, 1053, 1054] (by decide +kernel) (by decide +kernel)
set_option maxRecDepth 20000 in
theorem gL_law_X7_heap : GoodIn wsL_law (wsV RL 18 RX7 yX7_heap wsX7_heap) := goodIn_app (goodIn_of _ (by decide +kernel)) ggL_law_X7_heap
set_option maxRecDepth 20000 in
theorem ggL_law_X8_heap : GoodIn wsL_law wsX8_heap := goodIn_r _ [256, 113, 114, 257, 97, 258, 259, 260, 261, 5, 262, 116, 117, 118, 263, 264, 265, 266, 82, 267, 268, 269, 270, 271, 272, 273, 274, 79, 275, 276, 277, 278, 279, 280, 281, 282, 283, 284, 285, 286, 80, 287, 288, 289, 290, 291, 292, 293, 294, 295, 296, 297, 298, 299, 300, 301, 302, 303, 304, 305, 306, 307, 308, 309, 310, 311, 312, 313, 314, 315, 316, 317, 318, 319, 320, 321, 322, 323, 324, 75, 325, 326, 327, 328, 329, 76, 330, 331, 332, 333, 334, 335, 1015, 1016, 1017, 1018, 1019, 1020, 1021, 1022, 1023, 1024, 1025, 1026, 1027, 1028, 1029, 1030, 1031, 1032, 1033, 1034, 1035, 1036, 1037, 1038, 1039, 1040, 1041, 1042, 1043] (by decide +kernel) (by decide +kernel)
set_option maxRecDepth 20000 in
theorem gL_law_X8_heap : GoodIn wsL_law (wsV RL 21 RX8 yX8_heap wsX8_heap) := goodIn_app (goodIn_of _ (by decide +kernel)) ggL_law_X8_heap
set_option maxRecDepth 20000 in
theorem ggL_law_X7_fault : GoodIn wsL_law wsX7_fault := goodIn_r _ [339, 37, 1005, 1006, 1007, 1008, 1009, 1010, 1011, 1012, 1013, 1014] (by decide +kernel) (by decide +kernel)
set_option maxRecDepth 20000 in
theorem gL_law_X7_fault : GoodIn wsL_law (wsV RL 22 RX7 yX7_fault wsX7_fault) := goodIn_app (goodIn_of _ (by decide +kernel)) ggL_law_X7_fault
set_option maxRecDepth 20000 in
theorem ggL_law_X8_fault : GoodIn wsL_law wsX8_fault := goodIn_r _ [343, 97, 1015, 1016, 1017, 1018, 1019, 1020, 1021, 1022, 1023, 1024, 1025, 1026, 1027, 1028, 1029, 1030, 1031, 1032, 1033, 1034, 1035, 1036, 1037, 1038, 1039, 1040, 1041, 1042, 1043] (by decide +kernel) (by decide +kernel)
set_option maxRecDepth 20000 in
theorem gL_law_X8_fault : GoodIn wsL_law (wsV RL 26 RX8 yX8_fault wsX8_fault) := goodIn_app (goodIn_of _ (by decide +kernel)) ggL_law_X8_fault
set_option maxRecDepth 20000 in
theorem ggL_law_X7_undo : GoodIn wsL_law wsX7_undo := goodIn_r _ [347, 21, 348, 349, 17, 350, 351, 352, 20, 353, 54, 55, 56, 244, 2, 245, 1005, 1006, 1007, 1008, 1009, 1010, 1011, 1012, 1013, 1014, 1052, 1053, 1054] (by decide +kernel) (by decide +kernel)
set_option maxRecDepth 20000 in
theorem gL_law_X7_undo : GoodIn wsL_law (wsV RL 27 RX7 yX7_undo wsX7_undo) := goodIn_app (goodIn_of _ (by decide +kernel)) ggL_law_X7_undo
set_option maxRecDepth 20000 in
theorem ggL_law_X8_undo : GoodIn wsL_law wsX8_undo := goodIn_r _ [357, 329, 358, 76, 75, 330, 331, 5, 332, 1015, 1016, 1017, 1018, 1019, 1020, 1021, 1022, 1023, 1024, 1025, 1026, 1027, 1028, 1029, 1030, 1031, 1032, 1033, 1034, 1035, 1036, 1037, 1038, 1039, 1040, 1041, 1042, 1043] (by decide +kernel) (by decide +kernel)
set_option maxRecDepth 20000 in
theorem gL_law_X8_undo : GoodIn wsL_law (wsV RL 30 RX8 yX8_undo wsX8_undo) := goodIn_app (goodIn_of _ (by decide +kernel)) ggL_law_X8_undo
set_option maxRecDepth 20000 in
theorem ggL_law_X7_take : GoodIn wsL_law wsX7_take := goodIn_r _ [362, 102, 16, 134, 135, 363, 364, 138, 365, 366, 137, 367, 168, 169, 170, 171, 172, 368, 216, 217, 218, 10, 11, 219, 220, 221, 126, 127, 2, 128, 369, 370, 371, 372, 373, 374, 26, 25, 375, 376, 377, 378, 379, 380, 41, 381, 382, 383, 35, 384, 385, 386, 387, 388, 389, 390, 391, 392, 393, 394, 395, 396, 397, 398, 399, 400, 401, 402, 403, 404, 405, 227, 228, 406, 407, 408, 409, 410, 140, 141, 142, 411, 412, 413, 414, 415, 416, 417, 418, 419, 420, 421, 422, 423, 424, 425, 426, 230, 231, 232, 233, 234, 235, 236, 237, 238, 21, 17, 239, 240, 241, 20, 242, 55, 54, 56, 243, 190, 191, 192, 244, 245, 246, 247, 248, 249, 250, 251, 252, 1062, 1063, 1064, 1065, 1066, 1005, 1006, 1007, 1008, 1009, 1010, 1011, 1012, 1013, 1014, 1067, 1068, 1069, 1070, 1052, 1053, 1054] (by decide +kernel) (by decide +kernel)
set_option maxRecDepth 20000 in
theorem gL_law_X7_take : GoodIn wsL_law (wsV RL 31 RX7 yX7_take wsX7_take) := goodIn_app (goodIn_of _ (by decide +kernel)) ggL_law_X7_take
set_option maxRecDepth 20000 in
theorem ggL_law_X8_take : GoodIn wsL_law wsX8_take := goodIn_r _ [430, 113, 431, 432, 5, 433, 116, 117, 118, 260, 261, 262, 434, 435, 436, 437, 438, 84, 439, 440, 441, 442, 83, 443, 444, 445, 446, 447, 448, 449, 450, 80, 287, 288, 289, 306, 307, 308, 330, 331, 332, 321, 322, 323, 324, 75, 325, 326, 327, 328, 329, 76, 333, 334, 335, 1015, 1016, 1017, 1018, 1019, 1020, 1021, 1022, 1023, 1024, 1025, 1026, 1027, 1028, 1029, 1030, 1031, 1032, 1033, 1034, 1035, 1036, 1037, 1038, 1039, 1040, 1041, 1042, 1043] (by decide +kernel) (by decide +kernel)
set_option maxRecDepth 20000 in
theorem gL_law_X8_take : GoodIn wsL_law (wsV RL 35 RX8 yX8_take wsX8_take) := goodIn_app (goodIn_of _ (by decide +kernel)) ggL_law_X8_take
set_option maxRecDepth 20000 in
theorem ggL_law_X7_drawn : GoodIn wsL_law wsX7_drawn := goodIn_r _ [454, 455, 102, 456, 194, 191, 195, 457, 458, 16, 134, 135, 363, 364, 138, 365, 366, 137, 367, 168, 169, 170, 171, 172, 368, 216, 217, 218, 10, 11, 219, 220, 221, 126, 127, 2, 128, 369, 370, 371, 372, 373, 374, 26, 25, 375, 376, 377, 378, 379, 380, 41, 381, 382, 383, 35, 384, 385, 386, 387, 388, 389, 390, 391, 392, 393, 394, 395, 396, 397, 398, 399, 400, 401, 402, 403, 404, 405, 227, 228, 406, 407, 408, 409, 410, 140, 141, 142, 411, 412, 413, 414, 415, 416, 417, 418, 419, 420, 421, 422, 423, 424, 425, 426, 230, 231, 232, 233, 234, 235, 236, 237, 238, 21, 17, 239, 240, 241, 20, 242, 55, 54, 56, 243, 190, 192, 244, 245, 246, 247, 248, 249, 250, 251, 252, 1062, 1063, 1064, 1065, 1066, 1005, 1006, 1007, 1008, 1009, 1010, 1011, 1012, 1013, 1014, 1067, 1068, 1069, 1070, 1052, 1053, 1054] (by decide +kernel) (by decide +kernel)
set_option maxRecDepth 20000 in
theorem gL_law_X7_drawn : GoodIn wsL_law (wsV RL 36 RX7 yX7_drawn wsX7_drawn) := goodIn_app (goodIn_of _ (by decide +kernel)) ggL_law_X7_drawn
set_option maxRecDepth 20000 in
theorem ggL_law_X8_drawn : GoodIn wsL_law wsX8_drawn := goodIn_r _ [462, 463, 113, 464, 465, 431, 432, 5, 433, 116, 117, 118, 260, 261, 262, 434, 435, 436, 437, 438, 84, 439, 440, 441, 442, 83, 443, 444, 445, 446, 447, 448, 449, 450, 80, 287, 288, 289, 306, 307, 308, 330, 331, 332, 321, 322, 323, 324, 75, 325, 326, 327, 328, 329, 76, 333, 334, 335, 1015, 1016, 1017, 1018, 1019, 1020, 1021, 1022, 1023, 1024, 1025, 1026, 1027, 1028, 1029, 1030, 1031, 1032, 1033, 1034, 1035, 1036, 1037, 1038, 1039, 1040, 1041, 1042, 1043] (by decide +kernel) (by decide +kernel)
set_option maxRecDepth 20000 in
theorem gL_law_X8_drawn : GoodIn wsL_law (wsV RL 39 RX8 yX8_drawn wsX8_drawn) := goodIn_app (goodIn_of _ (by decide +kernel)) ggL_law_X8_drawn
set_option maxRecDepth 20000 in
theorem ggL_law_X7_lay : GoodIn wsL_law wsX7_lay := goodIn_r _ [469, 470, 471, 472, 2, 473, 474, 102, 475, 349, 16, 134, 135, 476, 477, 478, 479, 17, 126, 127, 128, 480, 481, 482, 138, 483, 219, 220, 484, 485, 486, 487, 397, 398, 399, 400, 401, 402, 403, 404, 221, 488, 489, 490, 491, 492, 227, 228, 426, 230, 231, 232, 10, 11, 233, 234, 235, 236, 237, 238, 21, 239, 240, 241, 20, 242, 55, 54, 56, 243, 190, 191, 192, 244, 245, 246, 247, 248, 249, 250, 251, 252, 493, 494, 495, 496, 497, 1062, 1063, 1005, 1006, 1007, 1008, 1009, 1010, 1011, 1012, 1013, 1014, 1064, 1065, 1066, 1052, 1053, 1054] (by decide +kernel) (by decide +kernel)
set_option maxRecDepth 20000 in
theorem gL_law_X7_lay : GoodIn wsL_law (wsV RL 40 RX7 yX7_lay wsX7_lay) := goodIn_app (goodIn_of _ (by decide +kernel)) ggL_law_X7_lay
set_option maxRecDepth 20000 in
theorem ggL_law_X8_lay : GoodIn wsL_law wsX8_lay := goodIn_r _ [501, 113, 75, 358, 502, 503, 504, 5, 505, 506, 507, 508, 509, 260, 261, 262, 116, 117, 118, 510, 511, 512, 306, 307, 308, 325, 326, 327, 328, 329, 76, 330, 331, 332, 1015, 1016, 1017, 1018, 1019, 1020, 1021, 1022, 1023, 1024, 1025, 1026, 1027, 1028, 1029, 1030, 1031, 1032, 1033, 1034, 1035, 1036, 1037, 1038, 1039, 1040, 1041, 1042, 1043] (by decide +kernel) (by decide +kernel)
set_option maxRecDepth 20000 in
theorem gL_law_X8_lay : GoodIn wsL_law (wsV RL 44 RX8 yX8_lay wsX8_lay) := goodIn_app (goodIn_of _ (by decide +kernel)) ggL_law_X8_lay
set_option maxRecDepth 20000 in
theorem ggL_law_X7_off : GoodIn wsL_law wsX7_off := goodIn_r _ [516, 470, 471, 472, 2, 473, 474, 102, 475, 349, 16, 134, 135, 476, 477, 478, 479, 17, 126, 127, 128, 480, 481, 482, 138, 483, 219, 220, 484, 485, 486, 487, 397, 398, 399, 400, 401, 402, 403, 404, 221, 488, 489, 490, 491, 492, 227, 228, 426, 230, 231, 232, 10, 11, 233, 234, 235, 236, 237, 238, 21, 239, 240, 241, 20, 242, 55, 54, 56, 243, 190, 191, 192, 244, 245, 246, 247, 248, 249, 250, 251, 252, 493, 494, 495, 496, 497, 1062, 1063, 1005, 1006, 1007, 1008, 1009, 1010, 1011, 1012, 1013, 1014, 1064, 1065, 1066, 1052, 1053, 1054] (by decide +kernel) (by decide +kernel)
set_option maxRecDepth 20000 in
theorem gL_law_X7_off : GoodIn wsL_law (wsV RL 45 RX7 yX7_off wsX7_off) := goodIn_app (goodIn_of _ (by decide +kernel)) ggL_law_X7_off
set_option maxRecDepth 20000 in
theorem ggL_law_X8_off : GoodIn wsL_law wsX8_off := goodIn_r _ [520, 113, 75, 358, 502, 503, 504, 5, 505, 506, 507, 508, 509, 260, 261, 262, 116, 117, 118, 521, 522, 523, 306, 307, 308, 325, 326, 327, 328, 329, 76, 330, 331, 332, 1015, 1016, 1017, 1018, 1019, 1020, 1021, 1022, 1023, 1024, 1025, 1026, 1027, 1028, 1029, 1030, 1031, 1032, 1033, 1034, 1035, 1036, 1037, 1038, 1039, 1040, 1041, 1042, 1043] (by decide +kernel) (by decide +kernel)
set_option maxRecDepth 20000 in
theorem gL_law_X8_off : GoodIn wsL_law (wsV RL 48 RX8 yX8_off wsX8_off) := goodIn_app (goodIn_of _ (by decide +kernel)) ggL_law_X8_off
set_option maxRecDepth 20000 in
theorem ggL_law_X7_turn : GoodIn wsL_law wsX7_turn := goodIn_r _ [527, 102, 476, 477, 478, 2, 479, 17, 126, 127, 128, 528, 529, 530, 135, 531, 532, 134, 533, 137, 138, 233, 534, 535, 536, 234, 216, 217, 218, 10, 11, 219, 220, 221, 537, 538, 539, 540, 405, 227, 228, 401, 402, 403, 404, 541, 230, 231, 232, 542, 543, 544, 545, 546, 547, 548, 549, 235, 236, 237, 238, 21, 239, 240, 241, 20, 242, 55, 54, 56, 243, 190, 191, 192, 244, 245, 246, 247, 248, 249, 250, 251, 252, 1005, 1006, 1007, 1008, 1009, 1010, 1011, 1012, 1013, 1014, 1062, 1063, 1064, 1065, 1066, 1052, 1053, 1054] (by decide +kernel) (by decide +kernel)
set_option maxRecDepth 20000 in
theorem gL_law_X7_turn : GoodIn wsL_law (wsV RL 49 RX7 yX7_turn wsX7_turn) := goodIn_app (goodIn_of _ (by decide +kernel)) ggL_law_X7_turn
set_option maxRecDepth 20000 in
theorem ggL_law_X8_turn : GoodIn wsL_law wsX8_turn := goodIn_r _ [553, 113, 75, 80, 506, 507, 508, 5, 509, 260, 261, 262, 116, 117, 118, 554, 555, 556, 287, 288, 289, 306, 307, 308, 557, 558, 559, 321, 322, 323, 324, 325, 326, 327, 328, 329, 76, 330, 331, 332, 333, 334, 335, 1015, 1016, 1017, 1018, 1019, 1020, 1021, 1022, 1023, 1024, 1025, 1026, 1027, 1028, 1029, 1030, 1031, 1032, 1033, 1034, 1035, 1036, 1037, 1038, 1039, 1040, 1041, 1042, 1043] (by decide +kernel) (by decide +kernel)
set_option maxRecDepth 20000 in
theorem gL_law_X8_turn : GoodIn wsL_law (wsV RL 52 RX8 yX8_turn wsX8_turn) := goodIn_app (goodIn_of _ (by decide +kernel)) ggL_law_X8_turn
