set_option maxRecDepth 20000 in
theorem ggL_law_X7_minor : GoodIn wsL_law wsX7_minor := goodIn_r _ [783, 784, 363, 364, 138, 365, 366, 137, 367, 168, 169, 170, 171, 172, 368, 216, 217, 218, 10, 11, 219, 220, 221, 785, 786, 2, 787, 373, 374, 788, 387, 388, 1064, 1065, 1066] (by decide +kernel) (by decide +kernel)
set_option maxRecDepth 20000 in
theorem gL_law_X7_minor : GoodIn wsL_law (wsV RL 95 RX7 yX7_minor wsX7_minor) := goodIn_app (goodIn_of _ (by decide +kernel)) ggL_law_X7_minor
set_option maxRecDepth 20000 in
theorem ggL_law_X8_minor : GoodIn wsL_law wsX8_minor := goodIn_r _ [792, 793, 431, 432, 5, 433, 116, 117, 118, 794, 795, 796, 797, 798, 799, 800] (by decide +kernel) (by decide +kernel)
set_option maxRecDepth 20000 in
theorem gL_law_X8_minor : GoodIn wsL_law (wsV RL 99 RX8 yX8_minor wsX8_minor) := goodIn_app (goodIn_of _ (by decide +kernel)) ggL_law_X8_minor
set_option maxRecDepth 20000 in
theorem ggL_law_X7_series : GoodIn wsL_law wsX7_series := goodIn_r _ [804, 102, 363, 364, 138, 365, 366, 137, 367, 168, 169, 170, 171, 172, 368, 216, 217, 218, 10, 11, 219, 220, 221, 805, 806, 807, 2, 808, 809, 190, 191, 192, 36, 602, 373, 374, 810, 811, 141, 812, 1064, 1065, 1066, 1005, 1006, 1007, 1008, 1009, 1010, 1011, 1012, 1013, 1014] (by decide +kernel) (by decide +kernel)
set_option maxRecDepth 20000 in
theorem gL_law_X7_series : GoodIn wsL_law (wsV RL 100 RX7 yX7_series wsX7_series) := goodIn_app (goodIn_of _ (by decide +kernel)) ggL_law_X7_series
set_option maxRecDepth 20000 in
theorem ggL_law_X8_series : GoodIn wsL_law wsX8_series := goodIn_r _ [816, 113, 438, 83, 431, 432, 5, 433, 116, 117, 118, 439, 440, 441, 442, 817, 818, 819, 820, 90, 91, 821, 822, 823, 824, 443, 444, 445, 446, 330, 331, 332, 1015, 1016, 1017, 1018, 1019, 1020, 1021, 1022, 1023, 1024, 1025, 1026, 1027, 1028, 1029, 1030, 1031, 1032, 1033, 1034, 1035, 1036, 1037, 1038, 1039, 1040, 1041, 1042, 1043] (by decide +kernel) (by decide +kernel)
set_option maxRecDepth 20000 in
theorem gL_law_X8_series : GoodIn wsL_law (wsV RL 103 RX8 yX8_series wsX8_series) := goodIn_app (goodIn_of _ (by decide +kernel)) ggL_law_X8_series
set_option maxRecDepth 20000 in
theorem ggL_law_X7_weighed : GoodIn wsL_law wsX7_weighed := goodIn_r _ [828, 102, 363, 364, 138, 365, 366, 137, 367, 168, 169, 170, 171, 172, 368, 216, 217, 218, 10, 11, 219, 220, 221, 369, 370, 371, 2, 372, 373, 374, 26, 25, 375, 376, 377, 378, 379, 380, 41, 381, 382, 383, 35, 384, 385, 386, 387, 388, 389, 390, 391, 392, 393, 394, 395, 396, 397, 398, 399, 400, 401, 402, 403, 404, 405, 227, 228, 406, 407, 408, 409, 410, 140, 141, 142, 411, 412, 413, 414, 829, 830, 831, 832, 833, 834, 835, 836, 837, 838, 811, 812, 839, 840, 841, 842, 843, 844, 845, 846, 847, 848, 849, 850, 851, 852, 853, 854, 855, 856, 857, 858, 859, 860, 861, 862, 863, 864, 865, 866, 867, 868, 869, 1064, 1065, 1066, 1005, 1006, 1007, 1008, 1009, 1010, 1011, 1012, 1013, 1014, 1067, 1068, 1069, 1070] (by decide +kernel) (by decide +kernel)
set_option maxRecDepth 20000 in
theorem gL_law_X7_weighed : GoodIn wsL_law (wsV RL 104 RX7 yX7_weighed wsX7_weighed) := goodIn_app (goodIn_of _ (by decide +kernel)) ggL_law_X7_weighed
set_option maxRecDepth 20000 in
theorem ggL_law_X8_weighed : GoodIn wsL_law wsX8_weighed := goodIn_r _ [873, 113, 438, 93, 92, 874, 431, 432, 5, 433, 116, 117, 118, 439, 440, 441, 442, 83, 875, 876, 877, 878, 443, 444, 445, 446, 879, 880, 881, 882, 883, 884, 885, 886, 887, 888, 889, 890, 891, 892, 893, 1015, 1016, 1017, 1018, 1019, 1020, 1021, 1022, 1023, 1024, 1025, 1026, 1027, 1028, 1029, 1030, 1031, 1032, 1033, 1034, 1035, 1036, 1037, 1038, 1039, 1040, 1041, 1042, 1043] (by decide +kernel) (by decide +kernel)
set_option maxRecDepth 20000 in
theorem gL_law_X8_weighed : GoodIn wsL_law (wsV RL 107 RX8 yX8_weighed wsX8_weighed) := goodIn_app (goodIn_of _ (by decide +kernel)) ggL_law_X8_weighed
set_option maxRecDepth 20000 in
theorem ggL_law_X7_symmetric : GoodIn wsL_law wsX7_symmetric := goodIn_r _ [897, 102, 104, 363, 364, 138, 365, 366, 137, 367, 168, 169, 170, 171, 172, 368, 216, 217, 218, 10, 11, 219, 220, 221, 369, 370, 371, 2, 372, 373, 374, 26, 25, 375, 376, 377, 378, 379, 380, 41, 381, 382, 383, 35, 384, 385, 386, 387, 388, 389, 390, 391, 392, 393, 394, 395, 396, 397, 398, 399, 400, 401, 402, 403, 404, 405, 227, 228, 406, 407, 408, 409, 410, 140, 141, 142, 411, 412, 413, 414, 415, 416, 417, 418, 898, 899, 900, 901, 624, 625, 626, 627, 628, 538, 539, 540, 629, 543, 544, 545, 630, 547, 548, 549, 902, 1064, 1065, 1066, 1005, 1006, 1007, 1008, 1009, 1010, 1011, 1012, 1013, 1014, 1067, 1068, 1069, 1070] (by decide +kernel) (by decide +kernel)
set_option maxRecDepth 20000 in
theorem gL_law_X7_symmetric : GoodIn wsL_law (wsV RL 108 RX7 yX7_symmetric wsX7_symmetric) := goodIn_app (goodIn_of _ (by decide +kernel)) ggL_law_X7_symmetric
set_option maxRecDepth 20000 in
theorem ggL_law_X8_symmetric : GoodIn wsL_law wsX8_symmetric := goodIn_r _ [906, 113, 115, 80, 431, 432, 5, 433, 116, 117, 118, 434, 435, 436, 437, 438, 84, 439, 440, 441, 442, 83, 443, 444, 445, 446, 447, 448, 449, 450, 287, 288, 289, 306, 307, 308, 330, 331, 332, 669, 670, 671, 672, 81, 85, 554, 555, 556, 557, 558, 559, 582, 583, 584, 1015, 1016, 1017, 1018, 1019, 1020, 1021, 1022, 1023, 1024, 1025, 1026, 1027, 1028, 1029, 1030, 1031, 1032, 1033, 1034, 1035, 1036, 1037, 1038, 1039, 1040, 1041, 1042, 1043] (by decide +kernel) (by decide +kernel)
set_option maxRecDepth 20000 in
theorem gL_law_X8_symmetric : GoodIn wsL_law (wsV RL 111 RX8 yX8_symmetric wsX8_symmetric) := goodIn_app (goodIn_of _ (by decide +kernel)) ggL_law_X8_symmetric
set_option maxRecDepth 20000 in
theorem ggL_law_X7_between : GoodIn wsL_law wsX7_between := goodIn_r _ [910, 102, 474, 349, 602, 475, 476, 477, 478, 2, 479, 17, 126, 127, 128, 564, 565, 566, 138, 567, 219, 220, 221, 369, 370, 371, 372, 373, 374, 26, 25, 375, 376, 377, 378, 379, 380, 10, 11, 41, 381, 382, 383, 35, 384, 385, 386, 137, 387, 388, 216, 217, 218, 389, 390, 391, 392, 393, 394, 395, 396, 397, 398, 399, 400, 401, 402, 403, 404, 405, 227, 228, 406, 407, 408, 409, 410, 140, 141, 142, 411, 412, 413, 414, 911, 912, 913, 914, 834, 835, 836, 837, 838, 811, 812, 854, 855, 856, 857, 858, 859, 860, 861, 862, 863, 864, 865, 866, 867, 868, 869, 1062, 1063, 1064, 1065, 1066, 1005, 1006, 1007, 1008, 1009, 1010, 1011, 1012, 1013, 1014, 1067, 1068, 1069, 1070] (by decide +kernel) (by decide +kernel)
set_option maxRecDepth 20000 in
theorem gL_law_X7_between : GoodIn wsL_law (wsV RL 112 RX7 yX7_between wsX7_between) := goodIn_app (goodIn_of _ (by decide +kernel)) ggL_law_X7_between
set_option maxRecDepth 20000 in
theorem ggL_law_X8_between : GoodIn wsL_law wsX8_between := goodIn_r _ [918, 113, 358, 75, 438, 93, 92, 506, 507, 508, 5, 509, 260, 261, 262, 116, 117, 118, 578, 579, 580, 581, 582, 583, 584, 439, 440, 441, 442, 83, 875, 876, 877, 878, 919, 920, 921, 922, 306, 307, 308, 443, 444, 445, 446, 886, 887, 888, 889, 890, 891, 892, 893, 1015, 1016, 1017, 1018, 1019, 1020, 1021, 1022, 1023, 1024, 1025, 1026, 1027, 1028, 1029, 1030, 1031, 1032, 1033, 1034, 1035, 1036, 1037, 1038, 1039, 1040, 1041, 1042, 1043] (by decide +kernel) (by decide +kernel)
set_option maxRecDepth 20000 in
theorem gL_law_X8_between : GoodIn wsL_law (wsV RL 115 RX8 yX8_between wsX8_between) := goodIn_app (goodIn_of _ (by decide +kernel)) ggL_law_X8_between
set_option maxRecDepth 20000 in
theorem ggL_law_X7_way : GoodIn wsL_law wsX7_way := goodIn_r _ [926, 102, 474, 349, 602, 104, 34, 475, 476, 477, 478, 2, 479, 17, 126, 127, 128, 564, 565, 566, 138, 567, 219, 220, 221, 369, 370, 371, 372, 373, 374, 26, 25, 375, 376, 377, 378, 379, 380, 10, 11, 41, 381, 382, 383, 35, 384, 385, 386, 137, 387, 388, 216, 217, 218, 389, 390, 391, 392, 393, 394, 395, 396, 397, 398, 399, 400, 401, 402, 403, 404, 405, 227, 228, 406, 407, 408, 409, 410, 140, 141, 142, 411, 412, 413, 414, 415, 416, 417, 418, 927, 928, 929, 33, 930, 931, 190, 191, 192, 69, 70, 66, 67, 932, 251, 252, 933, 934, 935, 936, 937, 938, 68, 939, 940, 941, 942, 943, 944, 945, 946, 947, 948, 949, 950, 951, 952, 953, 954, 955, 489, 490, 491, 1062, 1063, 1064, 1065, 1066, 1005, 1006, 1007, 1008, 1009, 1010, 1011, 1012, 1013, 1014, 1067, 1068, 1069, 1070, 1057, 1058, 1059, 1060, 1061] (by decide +kernel) (by decide +kernel)
set_option maxRecDepth 20000 in
theorem gL_law_X7_way : GoodIn wsL_law (wsV RL 116 RX7 yX7_way wsX7_way) := goodIn_app (goodIn_of _ (by decide +kernel)) ggL_law_X7_way
set_option maxRecDepth 20000 in
theorem ggL_law_X8_way : GoodIn wsL_law wsX8_way := goodIn_r _ [959, 113, 358, 75, 115, 80, 94, 506, 507, 508, 5, 509, 260, 261, 262, 116, 117, 118, 578, 579, 580, 581, 582, 583, 584, 653, 654, 655, 656, 438, 84, 434, 435, 436, 437, 439, 440, 441, 442, 83, 443, 444, 445, 446, 657, 658, 659, 660, 306, 307, 308, 447, 448, 449, 450, 287, 288, 289, 330, 331, 332, 960, 961, 962, 963, 95, 699, 96, 333, 334, 335, 964, 965, 966, 967, 1015, 1016, 1017, 1018, 1019, 1020, 1021, 1022, 1023, 1024, 1025, 1026, 1027, 1028, 1029, 1030, 1031, 1032, 1033, 1034, 1035, 1036, 1037, 1038, 1039, 1040, 1041, 1042, 1043] (by decide +kernel) (by decide +kernel)
set_option maxRecDepth 20000 in
theorem gL_law_X8_way : GoodIn wsL_law (wsV RL 119 RX8 yX8_way wsX8_way) := goodIn_app (goodIn_of _ (by decide +kernel)) ggL_law_X8_way
set_option maxRecDepth 20000 in
theorem ggL_law_X7_image : GoodIn wsL_law wsX7_image := goodIn_r _ [971, 102, 17, 22, 24, 972, 244, 2, 245, 973, 974, 975, 976, 1005, 1006, 1007, 1008, 1009, 1010, 1011, 1012, 1013, 1014] (by decide +kernel) (by decide +kernel)
set_option maxRecDepth 20000 in
theorem gL_law_X7_image : GoodIn wsL_law (wsV RL 120 RX7 yX7_image wsX7_image) := goodIn_app (goodIn_of _ (by decide +kernel)) ggL_law_X7_image
set_option maxRecDepth 20000 in
theorem ggL_law_X8_image : GoodIn wsL_law wsX8_image := goodIn_r _ [980, 113, 78, 75, 77, 116, 117, 5, 118, 330, 331, 332, 981, 982, 983, 984, 1015, 1016, 1017, 1018, 1019, 1020, 1021, 1022, 1023, 1024, 1025, 1026, 1027, 1028, 1029, 1030, 1031, 1032, 1033, 1034, 1035, 1036, 1037, 1038, 1039, 1040, 1041, 1042, 1043] (by decide +kernel) (by decide +kernel)
set_option maxRecDepth 20000 in
theorem gL_law_X8_image : GoodIn wsL_law (wsV RL 123 RX8 yX8_image wsX8_image) := goodIn_app (goodIn_of _ (by decide +kernel)) ggL_law_X8_image
set_option maxRecDepth 20000 in
theorem ggL_law_X7_restore : GoodIn wsL_law wsX7_restore := goodIn_r _ [988, 102, 24, 349, 22, 17, 21, 348, 972, 244, 2, 245, 973, 974, 975, 976, 1005, 1006, 1007, 1008, 1009, 1010, 1011, 1012, 1013, 1014, 1052, 1053, 1054] (by decide +kernel) (by decide +kernel)
set_option maxRecDepth 20000 in
theorem gL_law_X7_restore : GoodIn wsL_law (wsV RL 124 RX7 yX7_restore wsX7_restore) := goodIn_app (goodIn_of _ (by decide +kernel)) ggL_law_X7_restore
set_option maxRecDepth 20000 in
theorem ggL_law_X8_restore : GoodIn wsL_law wsX8_restore := goodIn_r _ [992, 113, 78, 358, 77, 75, 329, 116, 117, 5, 118, 330, 331, 332, 981, 982, 983, 984, 1015, 1016, 1017, 1018, 1019, 1020, 1021, 1022, 1023, 1024, 1025, 1026, 1027, 1028, 1029, 1030, 1031, 1032, 1033, 1034, 1035, 1036, 1037, 1038, 1039, 1040, 1041, 1042, 1043] (by decide +kernel) (by decide +kernel)
set_option maxRecDepth 20000 in
theorem gL_law_X8_restore : GoodIn wsL_law (wsV RL 127 RX8 yX8_restore wsX8_restore) := goodIn_app (goodIn_of _ (by decide +kernel)) ggL_law_X8_restore
set_option maxRecDepth 20000 in
theorem ggL_law_X7_count : GoodIn wsL_law wsX7_count := goodIn_r _ [996, 21, 348, 15, 103, 102, 973, 974, 975, 2, 976, 17, 997, 998, 999, 1000, 246, 247, 248, 135, 249, 234, 250, 251, 138, 252, 1005, 1006, 1007, 1008, 1009, 1010, 1011, 1012, 1013, 1014, 1052, 1053, 1054, 1044, 1045, 1046, 1047, 1048, 1049, 1050, 1051, 1062, 1063] (by decide +kernel) (by decide +kernel)
set_option maxRecDepth 20000 in
theorem gL_law_X7_count : GoodIn wsL_law (wsV RL 128 RX7 yX7_count wsX7_count) := goodIn_app (goodIn_of _ (by decide +kernel)) ggL_law_X7_count
set_option maxRecDepth 20000 in
theorem ggL_law_X8_count : GoodIn wsL_law wsX8_count := goodIn_r _ [1004, 75, 329, 114, 113, 981, 982, 983, 5, 984, 333, 334, 335, 1015, 1016, 1017, 1018, 1019, 1020, 1021, 1022, 1023, 1024, 1025, 1026, 1027, 1028, 1029, 1030, 1031, 1032, 1033, 1034, 1035, 1036, 1037, 1038, 1039, 1040, 1041, 1042, 1043] (by decide +kernel) (by decide +kernel)
set_option maxRecDepth 20000 in
theorem gL_law_X8_count : GoodIn wsL_law (wsV RL 131 RX8 yX8_count wsX8_count) := goodIn_app (goodIn_of _ (by decide +kernel)) ggL_law_X8_count
