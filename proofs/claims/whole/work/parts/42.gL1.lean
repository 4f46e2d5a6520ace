set_option maxRecDepth 20000 in
theorem ggL_law_X7_join : GoodIn wsL_law wsX7_join := goodIn_r _ [563, 102, 474, 349, 475, 16, 134, 135, 476, 477, 478, 2, 479, 17, 126, 127, 128, 564, 565, 566, 138, 567, 219, 220, 221, 568, 569, 570, 571, 572, 194, 191, 195, 573, 190, 192, 401, 402, 403, 404, 405, 227, 228, 426, 230, 231, 232, 10, 11, 233, 234, 235, 236, 237, 238, 21, 239, 240, 241, 20, 242, 55, 54, 56, 243, 244, 245, 246, 247, 248, 249, 250, 251, 252, 1062, 1063, 1005, 1006, 1007, 1008, 1009, 1010, 1011, 1012, 1013, 1014, 1064, 1065, 1066, 1052, 1053, 1054] (by decide +kernel) (by decide +kernel)
set_option maxRecDepth 20000 in
theorem gL_law_X7_join : GoodIn wsL_law (wsV RL 53 RX7 yX7_join wsX7_join) := goodIn_app (goodIn_of _ (by decide +kernel)) ggL_law_X7_join
set_option maxRecDepth 20000 in
theorem ggL_law_X8_join : GoodIn wsL_law wsX8_join := goodIn_r _ [577, 113, 358, 75, 80, 506, 507, 508, 5, 509, 260, 261, 262, 116, 117, 118, 578, 579, 580, 581, 582, 583, 584, 330, 331, 332, 321, 322, 323, 324, 325, 326, 327, 328, 329, 76, 333, 334, 335, 1015, 1016, 1017, 1018, 1019, 1020, 1021, 1022, 1023, 1024, 1025, 1026, 1027, 1028, 1029, 1030, 1031, 1032, 1033, 1034, 1035, 1036, 1037, 1038, 1039, 1040, 1041, 1042, 1043] (by decide +kernel) (by decide +kernel)
set_option maxRecDepth 20000 in
theorem gL_law_X8_join : GoodIn wsL_law (wsV RL 57 RX8 yX8_join wsX8_join) := goodIn_app (goodIn_of _ (by decide +kernel)) ggL_law_X8_join
set_option maxRecDepth 20000 in
theorem ggL_law_X7_drop : GoodIn wsL_law wsX7_drop := goodIn_r _ [588, 102, 476, 477, 478, 2, 479, 17, 126, 127, 128, 235, 236, 237, 238, 21, 239, 240, 241, 20, 242, 55, 54, 56, 243, 190, 191, 192, 244, 245, 246, 247, 248, 135, 249, 234, 250, 251, 138, 252, 1005, 1006, 1007, 1008, 1009, 1010, 1011, 1012, 1013, 1014, 1052, 1053, 1054, 1062, 1063] (by decide +kernel) (by decide +kernel)
set_option maxRecDepth 20000 in
theorem gL_law_X7_drop : GoodIn wsL_law (wsV RL 58 RX7 yX7_drop wsX7_drop) := goodIn_app (goodIn_of _ (by decide +kernel)) ggL_law_X7_drop
set_option maxRecDepth 20000 in
theorem ggL_law_X8_drop : GoodIn wsL_law wsX8_drop := goodIn_r _ [592, 113, 75, 506, 507, 508, 5, 509, 260, 261, 262, 116, 117, 118, 325, 326, 327, 328, 329, 76, 330, 331, 332, 333, 334, 335, 1015, 1016, 1017, 1018, 1019, 1020, 1021, 1022, 1023, 1024, 1025, 1026, 1027, 1028, 1029, 1030, 1031, 1032, 1033, 1034, 1035, 1036, 1037, 1038, 1039, 1040, 1041, 1042, 1043] (by decide +kernel) (by decide +kernel)
set_option maxRecDepth 20000 in
theorem gL_law_X8_drop : GoodIn wsL_law (wsV RL 61 RX8 yX8_drop wsX8_drop) := goodIn_app (goodIn_of _ (by decide +kernel)) ggL_law_X8_drop
set_option maxRecDepth 20000 in
theorem ggL_law_X7_height : GoodIn wsL_law wsX7_height := goodIn_r _ [496, 474, 102, 475, 476, 477, 478, 2, 479, 17, 126, 127, 128, 480, 481, 482, 138, 483, 219, 220, 497, 402, 403, 404, 221, 1062, 1063, 1005, 1006, 1007, 1008, 1009, 1010, 1011, 1012, 1013, 1014, 1064, 1065, 1066] (by decide +kernel) (by decide +kernel)
set_option maxRecDepth 20000 in
theorem gL_law_X7_height : GoodIn wsL_law (wsV RL 62 RX7 yX7_height wsX7_height) := goodIn_app (goodIn_of _ (by decide +kernel)) ggL_law_X7_height
set_option maxRecDepth 20000 in
theorem ggL_law_X8_height : GoodIn wsL_law wsX8_height := goodIn_r _ [597, 75, 113, 502, 503, 504, 5, 505, 506, 507, 508, 509, 260, 261, 262, 116, 117, 118, 306, 307, 308, 1015, 1016, 1017, 1018, 1019, 1020, 1021, 1022, 1023, 1024, 1025, 1026, 1027, 1028, 1029, 1030, 1031, 1032, 1033, 1034, 1035, 1036, 1037, 1038, 1039, 1040, 1041, 1042, 1043] (by decide +kernel) (by decide +kernel)
set_option maxRecDepth 20000 in
theorem gL_law_X8_height : GoodIn wsL_law (wsV RL 65 RX8 yX8_height wsX8_height) := goodIn_app (goodIn_of _ (by decide +kernel)) ggL_law_X8_height
set_option maxRecDepth 20000 in
theorem ggL_law_X7_whole : GoodIn wsL_law wsX7_whole := goodIn_r _ [601, 102, 474, 602, 373, 374, 475, 30, 476, 477, 478, 2, 479, 17, 126, 127, 128, 246, 247, 248, 135, 249, 234, 250, 251, 138, 252, 603, 604, 605, 606, 369, 370, 371, 372, 26, 25, 375, 376, 377, 378, 379, 380, 10, 11, 41, 381, 382, 383, 35, 384, 385, 386, 137, 387, 388, 216, 217, 218, 219, 220, 221, 389, 390, 391, 392, 393, 394, 395, 396, 397, 398, 399, 400, 401, 402, 403, 404, 405, 227, 228, 406, 407, 408, 409, 410, 140, 141, 142, 411, 412, 413, 414, 607, 608, 609, 610, 611, 612, 613, 614, 615, 616, 617, 618, 619, 485, 486, 487, 488, 489, 490, 491, 620, 621, 622, 623, 624, 625, 626, 627, 628, 538, 539, 540, 629, 543, 544, 545, 630, 547, 548, 549, 631, 632, 633, 29, 634, 62, 635, 636, 637, 638, 61, 639, 640, 641, 642, 233, 535, 534, 536, 643, 644, 645, 646, 647, 565, 566, 567, 648, 529, 530, 531, 532, 134, 533, 537, 541, 230, 231, 232, 542, 546, 1062, 1063, 1064, 1065, 1066, 1005, 1006, 1007, 1008, 1009, 1010, 1011, 1012, 1013, 1014, 1067, 1068, 1069, 1070, 1055, 1056] (by decide +kernel) (by decide +kernel)
set_option maxRecDepth 20000 in
theorem gL_law_X7_whole : GoodIn wsL_law (wsV RL 66 RX7 yX7_whole wsX7_whole) := goodIn_app (goodIn_of _ (by decide +kernel)) ggL_law_X7_whole
set_option maxRecDepth 20000 in
theorem ggL_law_X8_whole : GoodIn wsL_law wsX8_whole := goodIn_r _ [652, 113, 75, 506, 507, 508, 5, 509, 260, 261, 262, 116, 117, 118, 333, 334, 335, 653, 654, 655, 656, 438, 84, 434, 435, 436, 437, 439, 440, 441, 442, 83, 443, 444, 445, 446, 657, 658, 659, 660, 306, 307, 308, 582, 583, 584, 661, 662, 663, 664, 665, 666, 667, 668, 510, 511, 512, 521, 522, 523, 669, 670, 671, 672, 81, 85, 554, 555, 556, 287, 288, 289, 557, 558, 559, 673, 674, 675, 676, 677, 678, 679, 680, 681, 86, 330, 331, 332, 1015, 1016, 1017, 1018, 1019, 1020, 1021, 1022, 1023, 1024, 1025, 1026, 1027, 1028, 1029, 1030, 1031, 1032, 1033, 1034, 1035, 1036, 1037, 1038, 1039, 1040, 1041, 1042, 1043] (by decide +kernel) (by decide +kernel)
set_option maxRecDepth 20000 in
theorem gL_law_X8_whole : GoodIn wsL_law (wsV RL 70 RX8 yX8_whole wsX8_whole) := goodIn_app (goodIn_of _ (by decide +kernel)) ggL_law_X8_whole
set_option maxRecDepth 20000 in
theorem ggL_law_X7_path : GoodIn wsL_law wsX7_path := goodIn_r _ [685, 474, 602, 102, 475, 476, 477, 478, 2, 479, 17, 126, 127, 128, 686, 687, 688, 138, 689, 220, 221, 690, 691, 692, 693, 694, 401, 402, 403, 404, 219, 1062, 1063, 1064, 1065, 1066, 1005, 1006, 1007, 1008, 1009, 1010, 1011, 1012, 1013, 1014] (by decide +kernel) (by decide +kernel)
set_option maxRecDepth 20000 in
theorem gL_law_X7_path : GoodIn wsL_law (wsV RL 71 RX7 yX7_path wsX7_path) := goodIn_app (goodIn_of _ (by decide +kernel)) ggL_law_X7_path
set_option maxRecDepth 20000 in
theorem ggL_law_X8_path : GoodIn wsL_law wsX8_path := goodIn_r _ [698, 75, 113, 699, 506, 507, 508, 5, 509, 260, 261, 262, 116, 117, 118, 306, 307, 308, 1015, 1016, 1017, 1018, 1019, 1020, 1021, 1022, 1023, 1024, 1025, 1026, 1027, 1028, 1029, 1030, 1031, 1032, 1033, 1034, 1035, 1036, 1037, 1038, 1039, 1040, 1041, 1042, 1043] (by decide +kernel) (by decide +kernel)
set_option maxRecDepth 20000 in
theorem gL_law_X8_path : GoodIn wsL_law (wsV RL 74 RX8 yX8_path wsX8_path) := goodIn_app (goodIn_of _ (by decide +kernel)) ggL_law_X8_path
set_option maxRecDepth 20000 in
theorem ggL_law_X7_slice : GoodIn wsL_law wsX7_slice := goodIn_r _ [703, 474, 602, 373, 102, 704, 456, 194, 191, 195, 475, 476, 477, 478, 2, 479, 17, 126, 127, 128, 480, 481, 482, 138, 483, 219, 220, 497, 402, 403, 404, 221, 1062, 1063, 1064, 1065, 1066, 1005, 1006, 1007, 1008, 1009, 1010, 1011, 1012, 1013, 1014] (by decide +kernel) (by decide +kernel)
set_option maxRecDepth 20000 in
theorem gL_law_X7_slice : GoodIn wsL_law (wsV RL 75 RX7 yX7_slice wsX7_slice) := goodIn_app (goodIn_of _ (by decide +kernel)) ggL_law_X7_slice
set_option maxRecDepth 20000 in
theorem ggL_law_X8_slice : GoodIn wsL_law wsX8_slice := goodIn_r _ [708, 113, 75, 699, 506, 507, 508, 5, 509, 260, 261, 262, 116, 117, 118, 306, 307, 308, 1015, 1016, 1017, 1018, 1019, 1020, 1021, 1022, 1023, 1024, 1025, 1026, 1027, 1028, 1029, 1030, 1031, 1032, 1033, 1034, 1035, 1036, 1037, 1038, 1039, 1040, 1041, 1042, 1043] (by decide +kernel) (by decide +kernel)
set_option maxRecDepth 20000 in
theorem gL_law_X8_slice : GoodIn wsL_law (wsV RL 78 RX8 yX8_slice wsX8_slice) := goodIn_app (goodIn_of _ (by decide +kernel)) ggL_law_X8_slice
set_option maxRecDepth 20000 in
theorem ggL_law_X7_face : GoodIn wsL_law wsX7_face := goodIn_r _ [712, 102, 474, 475, 476, 477, 478, 2, 479, 17, 126, 127, 128, 713, 714, 715, 138, 716, 219, 220, 401, 402, 403, 404, 221, 717, 718, 719, 1062, 1063, 1005, 1006, 1007, 1008, 1009, 1010, 1011, 1012, 1013, 1014, 1064, 1065, 1066] (by decide +kernel) (by decide +kernel)
set_option maxRecDepth 20000 in
theorem gL_law_X7_face : GoodIn wsL_law (wsV RL 79 RX7 yX7_face wsX7_face) := goodIn_app (goodIn_of _ (by decide +kernel)) ggL_law_X7_face
set_option maxRecDepth 20000 in
theorem ggL_law_X8_face : GoodIn wsL_law wsX8_face := goodIn_r _ [723, 113, 75, 506, 507, 508, 5, 509, 260, 261, 262, 116, 117, 118, 724, 725, 726, 727, 306, 307, 308, 728, 729, 730, 731, 732, 733, 734, 735, 1015, 1016, 1017, 1018, 1019, 1020, 1021, 1022, 1023, 1024, 1025, 1026, 1027, 1028, 1029, 1030, 1031, 1032, 1033, 1034, 1035, 1036, 1037, 1038, 1039, 1040, 1041, 1042, 1043] (by decide +kernel) (by decide +kernel)
set_option maxRecDepth 20000 in
theorem gL_law_X8_face : GoodIn wsL_law (wsV RL 82 RX8 yX8_face wsX8_face) := goodIn_app (goodIn_of _ (by decide +kernel)) ggL_law_X8_face
set_option maxRecDepth 20000 in
theorem ggL_law_X7_kin : GoodIn wsL_law wsX7_kin := goodIn_r _ [739, 102, 30, 704, 476, 477, 478, 2, 479, 17, 126, 127, 128, 631, 632, 633, 29, 634, 62, 635, 636, 637, 638, 61, 639, 640, 641, 135, 642, 233, 535, 534, 536, 234, 643, 644, 645, 646, 647, 565, 566, 138, 567, 219, 220, 221, 648, 529, 530, 531, 532, 134, 533, 137, 216, 217, 218, 10, 11, 537, 538, 539, 540, 405, 227, 228, 401, 402, 403, 404, 541, 230, 231, 232, 542, 543, 544, 545, 546, 547, 548, 549, 740, 741, 742, 743, 603, 604, 605, 606, 474, 602, 475, 369, 370, 371, 372, 373, 374, 26, 25, 375, 376, 377, 378, 379, 380, 41, 381, 382, 383, 35, 384, 385, 386, 387, 388, 389, 390, 391, 392, 393, 394, 395, 396, 397, 398, 399, 400, 406, 407, 408, 409, 410, 140, 141, 142, 411, 412, 413, 414, 607, 608, 609, 610, 1005, 1006, 1007, 1008, 1009, 1010, 1011, 1012, 1013, 1014, 1055, 1056, 1062, 1063, 1064, 1065, 1066, 1067, 1068, 1069, 1070] (by decide +kernel) (by decide +kernel)
set_option maxRecDepth 20000 in
theorem gL_law_X7_kin : GoodIn wsL_law (wsV RL 83 RX7 yX7_kin wsX7_kin) := goodIn_app (goodIn_of _ (by decide +kernel)) ggL_law_X7_kin
set_option maxRecDepth 20000 in
theorem ggL_law_X8_kin : GoodIn wsL_law wsX8_kin := goodIn_r _ [747, 113, 677, 86, 699, 506, 507, 508, 5, 509, 75, 260, 261, 262, 116, 117, 118, 678, 679, 680, 681, 81, 330, 331, 332, 554, 555, 556, 287, 288, 289, 306, 307, 308, 557, 558, 559, 582, 583, 584, 748, 749, 750, 751, 653, 654, 655, 656, 438, 84, 434, 435, 436, 437, 439, 440, 441, 442, 83, 443, 444, 445, 446, 657, 658, 659, 660, 1015, 1016, 1017, 1018, 1019, 1020, 1021, 1022, 1023, 1024, 1025, 1026, 1027, 1028, 1029, 1030, 1031, 1032, 1033, 1034, 1035, 1036, 1037, 1038, 1039, 1040, 1041, 1042, 1043] (by decide +kernel) (by decide +kernel)
set_option maxRecDepth 20000 in
theorem gL_law_X8_kin : GoodIn wsL_law (wsV RL 86 RX8 yX8_kin wsX8_kin) := goodIn_app (goodIn_of _ (by decide +kernel)) ggL_law_X8_kin
set_option maxRecDepth 20000 in
theorem ggL_law_X7_orders : GoodIn wsL_law wsX7_orders := goodIn_r _ [755, 102, 104, 474, 475, 476, 477, 478, 2, 479, 17, 126, 127, 128, 246, 247, 248, 135, 249, 234, 250, 251, 138, 252, 756, 757, 758, 602, 373, 497, 402, 403, 404, 221, 219, 220, 759, 489, 490, 491, 401, 492, 227, 228, 1062, 1063, 1005, 1006, 1007, 1008, 1009, 1010, 1011, 1012, 1013, 1014, 1064, 1065, 1066] (by decide +kernel) (by decide +kernel)
set_option maxRecDepth 20000 in
theorem gL_law_X7_orders : GoodIn wsL_law (wsV RL 87 RX7 yX7_orders wsX7_orders) := goodIn_app (goodIn_of _ (by decide +kernel)) ggL_law_X7_orders
set_option maxRecDepth 20000 in
theorem ggL_law_X8_orders : GoodIn wsL_law wsX8_orders := goodIn_r _ [763, 113, 75, 115, 89, 88, 506, 507, 508, 5, 509, 260, 261, 262, 116, 117, 118, 333, 334, 335, 764, 765, 766, 767, 87, 306, 307, 308, 768, 769, 770, 771, 1015, 1016, 1017, 1018, 1019, 1020, 1021, 1022, 1023, 1024, 1025, 1026, 1027, 1028, 1029, 1030, 1031, 1032, 1033, 1034, 1035, 1036, 1037, 1038, 1039, 1040, 1041, 1042, 1043] (by decide +kernel) (by decide +kernel)
set_option maxRecDepth 20000 in
theorem gL_law_X8_orders : GoodIn wsL_law (wsV RL 90 RX8 yX8_orders wsX8_orders) := goodIn_app (goodIn_of _ (by decide +kernel)) ggL_law_X8_orders
set_option maxRecDepth 20000 in
theorem ggL_law_X7_many : GoodIn wsL_law wsX7_many := goodIn_r _ [775, 102, 363, 364, 138, 365, 366, 137, 367, 168, 169, 170, 171, 172, 368, 216, 217, 218, 10, 11, 219, 220, 221, 369, 370, 371, 2, 372, 373, 374, 26, 25, 375, 376, 377, 378, 379, 380, 41, 381, 382, 383, 35, 384, 385, 386, 387, 388, 389, 390, 391, 392, 393, 394, 395, 396, 397, 398, 399, 400, 401, 402, 403, 404, 405, 227, 228, 406, 407, 408, 409, 410, 140, 141, 142, 411, 412, 413, 414, 415, 416, 417, 418, 1064, 1065, 1066, 1005, 1006, 1007, 1008, 1009, 1010, 1011, 1012, 1013, 1014, 1067, 1068, 1069, 1070] (by decide +kernel) (by decide +kernel)
set_option maxRecDepth 20000 in
theorem gL_law_X7_many : GoodIn wsL_law (wsV RL 91 RX7 yX7_many wsX7_many) := goodIn_app (goodIn_of _ (by decide +kernel)) ggL_law_X7_many
set_option maxRecDepth 20000 in
theorem ggL_law_X8_many : GoodIn wsL_law wsX8_many := goodIn_r _ [779, 113, 431, 432, 5, 433, 116, 117, 118, 434, 435, 436, 437, 438, 84, 439, 440, 441, 442, 83, 443, 444, 445, 446, 1015, 1016, 1017, 1018, 1019, 1020, 1021, 1022, 1023, 1024, 1025, 1026, 1027, 1028, 1029, 1030, 1031, 1032, 1033, 1034, 1035, 1036, 1037, 1038, 1039, 1040, 1041, 1042, 1043] (by decide +kernel) (by decide +kernel)
set_option maxRecDepth 20000 in
theorem gL_law_X8_many : GoodIn wsL_law (wsV RL 94 RX8 yX8_many wsX8_many) := goodIn_app (goodIn_of _ (by decide +kernel)) ggL_law_X8_many
