
set_option maxRecDepth 20000 in
theorem ggL_law_X7_init_c0 : GoodIn wsL_law wsX7_init_r1 := goodIn_r _ [11, 12, 13, 14, 15, 16, 17, 18, 19, 20, 21, 22, 23, 24, 25, 26, 27, 28, 29, 30, 31, 32, 33, 34] (by decide +kernel) (by decide +kernel)
theorem ggL_law_X7_init_c1 : GoodIn wsL_law wsX7_init_r2 := goodIn_r _ [35, 36, 37, 38, 39, 40, 41, 42, 43, 44, 45, 46, 47, 48, 49, 50, 51, 52, 53, 54, 55, 56, 57, 58] (by decide +kernel) (by decide +kernel)
theorem ggL_law_X7_init_c2 : GoodIn wsL_law wsX7_init_r3 := goodIn_r _ [59, 60, 61, 62, 63, 64, 65, 66, 67, 68, 69, 70, 71, 72, 73, 74, 75, 76, 77, 78, 79, 80, 81, 82] (by decide +kernel) (by decide +kernel)
theorem ggL_law_X7_init_c3 : GoodIn wsL_law wsX7_init_r4 := goodIn_r _ [83, 84, 85, 86, 87, 88, 89, 90, 91, 92, 93, 94, 95, 96, 97, 98, 99, 100, 101, 102, 103, 104, 105, 106] (by decide +kernel) (by decide +kernel)
theorem ggL_law_X7_init_c4 : GoodIn wsL_law wsX7_init_r5 := goodIn_r _ [107, 108, 109, 110, 111, 112, 113, 114, 115, 116, 117, 118, 119, 120, 121, 122, 123, 124, 125, 126, 127, 128, 129, 130] (by decide +kernel) (by decide +kernel)
theorem ggL_law_X7_init_c5 : GoodIn wsL_law wsX7_init_r6 := goodIn_r _ [131, 132, 133, 134, 135, 136, 137, 138, 139, 140, 141, 142, 143, 144, 145, 146, 147, 148, 149, 150, 151, 152, 153, 154] (by decide +kernel) (by decide +kernel)
theorem ggL_law_X7_init_c6 : GoodIn wsL_law wsX7_init_r7 := goodIn_r _ [155, 156, 157, 158, 159, 160, 161, 162, 163, 164, 165, 166, 167, 168, 169, 170, 171, 172, 173, 174, 175, 176, 177, 178] (by decide +kernel) (by decide +kernel)
theorem ggL_law_X7_init_c7 : GoodIn wsL_law wsX7_init_r8 := goodIn_r _ [179, 180, 181, 182, 183, 184, 185, 186, 187, 188, 189, 190, 191, 192, 193, 194, 195, 196, 197, 198, 199, 200, 201, 202] (by decide +kernel) (by decide +kernel)
theorem ggL_law_X7_init_c8 : GoodIn wsL_law wsX7_init_r9 := goodIn_r _ [203, 204, 2, 205, 206, 207, 208, 209, 210, 211, 212, 213, 214, 215, 216, 217, 218, 219, 220, 221, 222, 223, 224, 225] (by decide +kernel) (by decide +kernel)
theorem ggL_law_X7_init_c9 : GoodIn wsL_law wsX7_init_r10 := goodIn_r _ [226, 227, 228, 229, 230, 231, 232, 233, 234, 235, 236, 237, 238, 239, 240, 241, 242, 243, 244, 245, 246, 247, 248, 249] (by decide +kernel) (by decide +kernel)
theorem ggL_law_X7_init_c10 : GoodIn wsL_law wsX7_init_r11 := goodIn_r _ [250, 251, 252, 253, 254, 255, 256, 257, 258, 259, 260, 261, 262, 263, 264, 265, 266, 267, 268, 269, 270, 271, 272, 273] (by decide +kernel) (by decide +kernel)
theorem ggL_law_X7_init_c11 : GoodIn wsL_law wsX7_init_r12 := goodIn_r _ [274, 275, 276, 277, 278, 279, 280, 281, 282, 283, 284, 285, 286, 287, 288, 289, 290, 291, 292, 293, 294, 295, 296, 297] (by decide +kernel) (by decide +kernel)
theorem ggL_law_X7_init_c12 : GoodIn wsL_law wsX7_init_r13 := goodIn_r _ [298, 299, 300, 301, 302, 303, 304, 305, 306, 307, 308, 309, 310, 311, 312, 313, 314, 315, 316, 317, 318, 319, 320] (by decide +kernel) (by decide +kernel)
theorem ggL_law_X7_init_c13 : GoodIn wsL_law wsX70 := goodIn_r _ [968, 969, 970, 971, 972, 973, 974, 975, 976] (by decide +kernel) (by decide +kernel)
theorem ggL_law_X7_init_c14 : GoodIn wsL_law wsX40 := goodIn_r _ [1035, 1036, 1037, 1038, 1039, 1040, 1041, 1042, 1043, 1044, 1045, 1046, 1047, 1048, 1049] (by decide +kernel) (by decide +kernel)
theorem ggL_law_X7_init_c15 : GoodIn wsL_law wsX20 := goodIn_r _ [1050, 1051, 1052, 1053, 1054, 1055, 1056, 1057, 1058, 1059] (by decide +kernel) (by decide +kernel)
theorem ggL_law_X7_init_c16 : GoodIn wsL_law wsX00 := goodIn_r _ [1060, 1061, 1062, 1063] (by decide +kernel) (by decide +kernel)
theorem ggL_law_X7_init_c17 : GoodIn wsL_law wsX30 := goodIn_r _ [1064, 1065, 1066, 1067] (by decide +kernel) (by decide +kernel)
theorem ggL_law_X7_init_c18 : GoodIn wsL_law wsX60 := goodIn_r _ [1068, 1069, 1070, 1071, 1072, 1073, 1074, 1075, 1076, 1077, 1078, 1079, 1080, 1081, 1082, 1083] (by decide +kernel) (by decide +kernel)
theorem ggL_law_X7_init_c19 : GoodIn wsL_law wsX10 := goodIn_r _ [1084, 1085, 1086, 1087, 1088, 1089, 1090, 1091] (by decide +kernel) (by decide +kernel)
theorem ggL_law_X7_init_c20 : GoodIn wsL_law wsX50 := goodIn_r _ [1092, 1093, 1094, 1095, 1096, 1097] (by decide +kernel) (by decide +kernel)
theorem ggL_law_X7_init : GoodIn wsL_law wsX7_init := (goodIn_cons (goodIn_r _ [10] (by decide +kernel) (by decide +kernel)) (goodIn_app (goodIn_app (goodIn_app (goodIn_app (goodIn_app (goodIn_app (goodIn_app (goodIn_app (goodIn_app ggL_law_X7_init_c0 (goodIn_app ggL_law_X7_init_c1 (goodIn_app ggL_law_X7_init_c2 (goodIn_app ggL_law_X7_init_c3 (goodIn_app ggL_law_X7_init_c4 (goodIn_app ggL_law_X7_init_c5 (goodIn_app ggL_law_X7_init_c6 (goodIn_app ggL_law_X7_init_c7 (goodIn_app ggL_law_X7_init_c8 (goodIn_app ggL_law_X7_init_c9 (goodIn_app ggL_law_X7_init_c10 (goodIn_app ggL_law_X7_init_c11 ggL_law_X7_init_c12)))))))))))) ggL_law_X7_init_c13) ggL_law_X7_init_c14) ggL_law_X7_init_c15) ggL_law_X7_init_c16) ggL_law_X7_init_c17) ggL_law_X7_init_c18) ggL_law_X7_init_c19) ggL_law_X7_init_c20))
set_option maxRecDepth 20000 in
theorem gL_law_X7_init : GoodIn wsL_law (wsX7_init) := ggL_law_X7_init
set_option maxRecDepth 20000 in
theorem ggL_law_X8_init_c0 : GoodIn wsL_law wsX8_init_r1 := goodIn_r _ [324, 12, 13, 325, 326, 14, 327, 328, 329, 330, 331, 332, 333, 334, 335, 336, 337, 338, 339, 340, 341, 342, 343, 344] (by decide +kernel) (by decide +kernel)
theorem ggL_law_X8_init_c1 : GoodIn wsL_law wsX8_init_r2 := goodIn_r _ [345, 346, 347, 348, 349, 350, 351, 352, 353, 354, 355, 356, 357, 358, 359, 360, 5, 361, 362, 363, 364, 365, 366, 367] (by decide +kernel) (by decide +kernel)
theorem ggL_law_X8_init_c2 : GoodIn wsL_law wsX8_init_r3 := goodIn_r _ [368, 369, 370, 371, 372, 373, 374, 375, 376, 377, 378, 379, 380, 381, 382, 383, 384, 385, 386, 387, 388, 389, 390, 391] (by decide +kernel) (by decide +kernel)
theorem ggL_law_X8_init_c3 : GoodIn wsL_law wsX8_init_r4 := goodIn_r _ [392, 393, 394, 395, 396, 397, 398, 399, 400, 401, 402, 403, 404, 405, 406, 407, 408, 409, 410, 411, 412, 413, 414, 415] (by decide +kernel) (by decide +kernel)
theorem ggL_law_X8_init_c4 : GoodIn wsL_law wsX8_init_r5 := goodIn_r _ [416, 417, 418, 419, 420, 421] (by decide +kernel) (by decide +kernel)
theorem ggL_law_X8_init_c5 : GoodIn wsL_law wsX80 := goodIn_r _ [977, 978, 979, 980, 981, 982, 983, 984, 985, 986, 987, 988, 989, 990, 991, 992, 993, 994, 995, 996, 997, 998, 999, 1000, 1001, 1002, 1003, 1004, 1005, 1006, 1007, 1008, 1009, 1010, 1011, 1012, 1013, 1014, 1015, 1016, 1017, 1018, 1019, 1020, 1021, 1022, 1023, 1024, 1025, 1026, 1027, 1028, 1029, 1030, 1031, 1032, 1033, 1034] (by decide +kernel) (by decide +kernel)
theorem ggL_law_X8_init : GoodIn wsL_law wsX8_init := (goodIn_cons (goodIn_r _ [323] (by decide +kernel) (by decide +kernel)) (goodIn_app (goodIn_app ggL_law_X8_init_c0 (goodIn_app ggL_law_X8_init_c1 (goodIn_app ggL_law_X8_init_c2 (goodIn_app ggL_law_X8_init_c3 ggL_law_X8_init_c4)))) ggL_law_X8_init_c5))
set_option maxRecDepth 20000 in
theorem gL_law_X8_init : GoodIn wsL_law (wsX8_init) := ggL_law_X8_init
set_option maxRecDepth 20000 in
theorem ggL_law_L_type : GoodIn wsL_law wsL_type := goodIn_ca (goodIn_ca (goodIn_r _ [425, 426, 427, 428, 429, 430, 2, 431, 432, 433, 434, 435, 436, 15, 968, 969, 970, 971, 972, 973, 974, 975, 976] (by decide +kernel) (by decide +kernel)) (goodIn_sub (fun _ h => List.mem_append_left _ (List.mem_append_left _ (List.mem_append_right _ h))) (by decide +kernel))) (goodIn_sub (fun _ h => List.mem_append_left _ (List.mem_append_right _ h)) (by decide +kernel))
set_option maxRecDepth 20000 in
theorem gL_law_L_type : GoodIn wsL_law (va_wsS RL 42 yL_type wsL_type) := goodIn_app (goodIn_of _ (by decide +kernel)) ggL_law_L_type
set_option maxRecDepth 20000 in
theorem ggL_law_X8_type : GoodIn wsL_law wsX8_type := goodIn_r _ [440, 441, 442, 326, 977, 978, 979, 980, 981, 982, 983, 984, 985, 986, 987, 988, 989, 990, 991, 992, 993, 994, 995, 996, 997, 998, 999, 1000, 1001, 1002, 1003, 1004, 1005, 1006, 1007, 1008, 1009, 1010, 1011, 1012, 1013, 1014, 1015, 1016, 1017, 1018, 1019, 1020, 1021, 1022, 1023, 1024, 1025, 1026, 1027, 1028, 1029, 1030, 1031, 1032, 1033, 1034] (by decide +kernel) (by decide +kernel)
set_option maxRecDepth 20000 in
theorem gL_law_X8_type : GoodIn wsL_law (wsV RL 47 RX8 yX8_type wsX8_type) := goodIn_app (goodIn_of _ (by decide +kernel)) ggL_law_X8_type
set_option maxRecDepth 20000 in
theorem ggL_law_X8_thrown : GoodIn wsL_law wsX8_thrown := goodIn_r _ [446, 442, 977, 978, 979, 980, 981, 982, 983, 984, 985, 986, 987, 988, 989, 990, 991, 992, 993, 994, 995, 996, 997, 998, 999, 1000, 1001, 1002, 1003, 1004, 1005, 1006, 1007, 1008, 1009, 1010, 1011, 1012, 1013, 1014, 1015, 1016, 1017, 1018, 1019, 1020, 1021, 1022, 1023, 1024, 1025, 1026, 1027, 1028, 1029, 1030, 1031, 1032, 1033, 1034] (by decide +kernel) (by decide +kernel)
set_option maxRecDepth 20000 in
theorem gL_law_X8_thrown : GoodIn wsL_law (wsV RL 48 RX8 yX8_thrown wsX8_thrown) := goodIn_app (goodIn_of _ (by decide +kernel)) ggL_law_X8_thrown
set_option maxRecDepth 20000 in
theorem ggL_law_L_keep : GoodIn wsL_law wsL_keep := goodIn_ca (goodIn_r _ [449, 426, 450, 451, 452, 2, 453, 432, 433, 436, 968, 969, 970, 971, 972, 973, 974, 975, 976] (by decide +kernel) (by decide +kernel)) (goodIn_sub (fun _ h => List.mem_append_left _ (List.mem_append_left _ (List.mem_append_right _ h))) (by decide +kernel))
set_option maxRecDepth 20000 in
theorem gL_law_L_keep : GoodIn wsL_law (va_wsS RL 52 yL_keep wsL_keep) := goodIn_app (goodIn_of _ (by decide +kernel)) ggL_law_L_keep
set_option maxRecDepth 20000 in
theorem ggL_law_X8_keep : GoodIn wsL_law wsX8_keep := goodIn_r _ [457, 441, 442, 977, 978, 979, 980, 981, 982, 983, 984, 985, 986, 987, 988, 989, 990, 991, 992, 993, 994, 995, 996, 997, 998, 999, 1000, 1001, 1002, 1003, 1004, 1005, 1006, 1007, 1008, 1009, 1010, 1011, 1012, 1013, 1014, 1015, 1016, 1017, 1018, 1019, 1020, 1021, 1022, 1023, 1024, 1025, 1026, 1027, 1028, 1029, 1030, 1031, 1032, 1033, 1034] (by decide +kernel) (by decide +kernel)
set_option maxRecDepth 20000 in
theorem gL_law_X8_keep : GoodIn wsL_law (wsV RL 55 RX8 yX8_keep wsX8_keep) := goodIn_app (goodIn_of _ (by decide +kernel)) ggL_law_X8_keep
set_option maxRecDepth 20000 in
theorem ggL_law_X7_read_c0 : GoodIn wsL_law wsX7_read_r1 := goodIn_r _ [19, 15, 436, 462, 23, 109, 110, 111, 18, 112, 113, 114, 115, 116, 117, 118, 119, 45, 120, 121, 122, 123, 124, 125] (by decide +kernel) (by decide +kernel)
theorem ggL_law_X7_read_c1 : GoodIn wsL_law wsX7_read_r2 := goodIn_r _ [126, 127, 128, 129, 130, 131, 132, 133, 134, 135, 136, 137, 138, 139, 140, 141, 142, 143, 144, 145, 146, 147, 148, 149] (by decide +kernel) (by decide +kernel)
theorem ggL_law_X7_read_c2 : GoodIn wsL_law wsX7_read_r3 := goodIn_r _ [150, 151, 152, 153, 154, 155, 156, 157, 158, 159, 160, 161, 162, 163, 164, 165, 42, 43, 44, 166, 167, 168, 169, 170] (by decide +kernel) (by decide +kernel)
theorem ggL_law_X7_read_c3 : GoodIn wsL_law wsX7_read_r4 := goodIn_r _ [171, 172, 173, 174, 175, 176, 177, 178, 179, 180, 181, 182, 183, 184, 185, 39, 40, 41, 186, 187, 188, 189, 190, 191] (by decide +kernel) (by decide +kernel)
theorem ggL_law_X7_read_c4 : GoodIn wsL_law wsX7_read_r5 := goodIn_r _ [192, 193, 194, 195, 196, 197, 198, 199, 200, 201, 463, 464, 465, 466, 202, 203, 204, 2, 205, 31, 27, 206, 207, 208] (by decide +kernel) (by decide +kernel)
theorem ggL_law_X7_read_c5 : GoodIn wsL_law wsX7_read_r6 := goodIn_r _ [209, 22, 210, 49, 56, 52, 53, 211, 212, 213, 214, 215, 216, 30, 217, 218, 219, 220, 221, 222, 223, 26, 224, 225] (by decide +kernel) (by decide +kernel)
theorem ggL_law_X7_read_c6 : GoodIn wsL_law wsX7_read_r7 := goodIn_r _ [64, 61, 226, 227, 228, 229, 50, 230, 231, 232, 233, 234, 235, 236, 237, 238, 239, 240, 241, 242, 243, 244, 245, 246] (by decide +kernel) (by decide +kernel)
theorem ggL_law_X7_read_c7 : GoodIn wsL_law wsX7_read_r8 := goodIn_r _ [247, 248, 249, 63, 250, 251, 252, 253, 254, 255, 256, 257, 258, 259, 51, 260, 261, 262, 263, 264, 265, 54, 266, 267] (by decide +kernel) (by decide +kernel)
theorem ggL_law_X7_read_c8 : GoodIn wsL_law wsX7_read_r9 := goodIn_r _ [268, 269, 270, 271, 272, 273, 274, 275, 276, 277, 278, 279, 280, 281, 282, 283, 284, 285, 286, 287, 288, 289, 290, 291] (by decide +kernel) (by decide +kernel)
theorem ggL_law_X7_read_c9 : GoodIn wsL_law wsX7_read_r10 := goodIn_r _ [292, 293, 294, 295, 296, 297, 298, 299, 300, 301, 302, 303, 304, 305, 306, 307, 308, 309, 310, 311, 312, 313, 314, 315] (by decide +kernel) (by decide +kernel)
theorem ggL_law_X7_read_c10 : GoodIn wsL_law wsX7_read_r11 := goodIn_r _ [316, 317, 318, 319, 320, 467, 468, 469, 470] (by decide +kernel) (by decide +kernel)
theorem ggL_law_X7_read_c11 : GoodIn wsL_law wsX70 := goodIn_r _ [968, 969, 970, 971, 972, 973, 974, 975, 976] (by decide +kernel) (by decide +kernel)
theorem ggL_law_X7_read_c12 : GoodIn wsL_law wsX40 := goodIn_r _ [1035, 1036, 1037, 1038, 1039, 1040, 1041, 1042, 1043, 1044, 1045, 1046, 1047, 1048, 1049] (by decide +kernel) (by decide +kernel)
theorem ggL_law_X7_read_c13 : GoodIn wsL_law wsX20 := goodIn_r _ [1050, 1051, 1052, 1053, 1054, 1055, 1056, 1057, 1058, 1059] (by decide +kernel) (by decide +kernel)
theorem ggL_law_X7_read_c14 : GoodIn wsL_law wsX30 := goodIn_r _ [1064, 1065, 1066, 1067] (by decide +kernel) (by decide +kernel)
theorem ggL_law_X7_read_c15 : GoodIn wsL_law wsX00 := goodIn_r _ [1060, 1061, 1062, 1063] (by decide +kernel) (by decide +kernel)
theorem ggL_law_X7_read : GoodIn wsL_law wsX7_read := (goodIn_cons (goodIn_r _ [461] (by decide +kernel) (by decide +kernel)) (goodIn_app (goodIn_app (goodIn_app (goodIn_app (goodIn_app (goodIn_app ggL_law_X7_read_c0 (goodIn_app ggL_law_X7_read_c1 (goodIn_app ggL_law_X7_read_c2 (goodIn_app ggL_law_X7_read_c3 (goodIn_app ggL_law_X7_read_c4 (goodIn_app ggL_law_X7_read_c5 (goodIn_app ggL_law_X7_read_c6 (goodIn_app ggL_law_X7_read_c7 (goodIn_app ggL_law_X7_read_c8 (goodIn_app ggL_law_X7_read_c9 ggL_law_X7_read_c10)))))))))) ggL_law_X7_read_c11) ggL_law_X7_read_c12) ggL_law_X7_read_c13) ggL_law_X7_read_c14) ggL_law_X7_read_c15))
set_option maxRecDepth 20000 in
theorem gL_law_X7_read : GoodIn wsL_law (wsV RL 56 RX7 yX7_read wsX7_read) := goodIn_app (goodIn_of _ (by decide +kernel)) ggL_law_X7_read
set_option maxRecDepth 20000 in
theorem ggL_law_X8_read_c0 : GoodIn wsL_law wsX8_read_r1 := goodIn_r _ [442, 475, 476, 477, 478, 479, 357, 362, 441, 368, 480, 481, 482, 5, 483, 333, 484, 485, 486, 487, 326, 488, 489, 490] (by decide +kernel) (by decide +kernel)
theorem ggL_law_X8_read_c1 : GoodIn wsL_law wsX8_read_r2 := goodIn_r _ [491, 331, 330, 492, 493, 494, 495, 332, 496, 497, 498, 499, 500, 501, 502, 503, 504, 505, 506, 358, 359, 360, 361, 327] (by decide +kernel) (by decide +kernel)
theorem ggL_law_X8_read_c2 : GoodIn wsL_law wsX8_read_r3 := goodIn_r _ [328, 329, 507, 508, 509, 510, 511, 512, 513, 514, 363, 364, 365, 366, 367, 334, 337, 369, 370, 371, 372, 373, 374, 375] (by decide +kernel) (by decide +kernel)
theorem ggL_law_X8_read_c3 : GoodIn wsL_law wsX8_read_r4 := goodIn_r _ [376, 377, 378, 335, 379, 380, 381, 382, 340, 341, 383, 384, 385, 386, 339, 387, 388, 389, 390, 391, 392, 393, 394, 336] (by decide +kernel) (by decide +kernel)
theorem ggL_law_X8_read_c4 : GoodIn wsL_law wsX8_read_r5 := goodIn_r _ [395, 396, 397, 398, 338, 399, 400, 401, 402, 403, 404, 405, 406, 407, 408, 409, 410, 411, 412, 413, 414, 415, 416, 417] (by decide +kernel) (by decide +kernel)
theorem ggL_law_X8_read_c5 : GoodIn wsL_law wsX8_read_r6 := goodIn_r _ [418, 419, 420, 421] (by decide +kernel) (by decide +kernel)
theorem ggL_law_X8_read_c6 : GoodIn wsL_law wsX80 := goodIn_r _ [977, 978, 979, 980, 981, 982, 983, 984, 985, 986, 987, 988, 989, 990, 991, 992, 993, 994, 995, 996, 997, 998, 999, 1000, 1001, 1002, 1003, 1004, 1005, 1006, 1007, 1008, 1009, 1010, 1011, 1012, 1013, 1014, 1015, 1016, 1017, 1018, 1019, 1020, 1021, 1022, 1023, 1024, 1025, 1026, 1027, 1028, 1029, 1030, 1031, 1032, 1033, 1034] (by decide +kernel) (by decide +kernel)
theorem ggL_law_X8_read : GoodIn wsL_law wsX8_read := (goodIn_cons (goodIn_r _ [474] (by decide +kernel) (by decide +kernel)) (goodIn_app (goodIn_app ggL_law_X8_read_c0 (goodIn_app ggL_law_X8_read_c1 (goodIn_app ggL_law_X8_read_c2 (goodIn_app ggL_law_X8_read_c3 (goodIn_app ggL_law_X8_read_c4 ggL_law_X8_read_c5))))) ggL_law_X8_read_c6))
set_option maxRecDepth 20000 in
theorem gL_law_X8_read : GoodIn wsL_law (wsV RL 59 RX8 yX8_read wsX8_read) := goodIn_app (goodIn_of _ (by decide +kernel)) ggL_law_X8_read
set_option maxRecDepth 20000 in
theorem ggL_law_L_run_c0 : GoodIn wsL_law wsL_run_r1 := goodIn_r _ [426, 518, 519, 520, 2, 521, 432, 433, 522, 35, 206, 523, 524, 525, 526, 31, 23, 527, 528, 529, 34, 530, 77, 531] (by decide +kernel) (by decide +kernel)
theorem ggL_law_L_run_c1 : GoodIn wsL_law wsL_run_r2 := goodIn_r _ [532, 533, 534, 535, 536, 537, 538, 539, 76, 540, 541, 542, 94, 543, 544, 545, 93, 546, 108, 107, 103, 104, 105, 106] (by decide +kernel) (by decide +kernel)
theorem ggL_law_L_run_c2 : GoodIn wsL_law wsL_run_r3 := goodIn_r _ [547, 548, 549, 250, 251, 550, 551, 552, 553, 87, 80, 554, 288, 289, 22, 290, 51, 555, 556, 557, 558, 299, 300, 260] (by decide +kernel) (by decide +kernel)
theorem ggL_law_L_run_c3 : GoodIn wsL_law wsL_run_r4 := goodIn_r _ [261, 559, 292, 293, 294, 49, 560, 561, 562, 563, 564, 565, 566, 567, 50, 568, 569, 570, 571, 572, 573, 574, 575, 84] (by decide +kernel) (by decide +kernel)
theorem ggL_law_L_run_c4 : GoodIn wsL_law wsL_run_r5 := goodIn_r _ [85, 576, 577, 578, 579, 79, 580, 581, 582, 583, 86, 584, 585, 586, 587, 588, 14, 589, 590, 591, 592, 95, 593, 594] (by decide +kernel) (by decide +kernel)
theorem ggL_law_L_run_c5 : GoodIn wsL_law wsL_run_r6 := goodIn_r _ [595, 596, 81, 82, 83, 597, 598, 599, 600, 601, 602, 603, 604, 605, 606, 607, 608, 609, 610, 611, 612, 613, 614, 615] (by decide +kernel) (by decide +kernel)
theorem ggL_law_L_run_c6 : GoodIn wsL_law wsL_run_r7 := goodIn_r _ [616, 617, 618, 619, 620, 621, 622, 623, 624, 625, 626, 627, 628, 96, 97, 98, 99, 629, 630, 631, 632, 633, 634, 635] (by decide +kernel) (by decide +kernel)
theorem ggL_law_L_run_c7 : GoodIn wsL_law wsL_run_r8 := goodIn_r _ [636, 637, 638, 639, 640, 641, 642, 643, 644, 645, 646, 647, 648, 649, 650, 651, 652, 653, 654, 655, 656, 657, 658, 659] (by decide +kernel) (by decide +kernel)
theorem ggL_law_L_run_c8 : GoodIn wsL_law wsL_run_r9 := goodIn_r _ [660, 661, 662, 663, 664, 665, 666, 667, 668, 669, 670, 671, 672, 673, 674, 675, 676, 677, 678, 679, 680, 681, 682, 683] (by decide +kernel) (by decide +kernel)
theorem ggL_law_L_run_c9 : GoodIn wsL_law wsL_run_r10 := goodIn_r _ [684, 685, 686, 687, 688, 689, 690, 691, 692, 693, 694, 695, 696, 697, 698, 699, 700, 701, 702, 703, 704, 705, 706, 707] (by decide +kernel) (by decide +kernel)
theorem ggL_law_L_run_c10 : GoodIn wsL_law wsL_run_r11 := goodIn_r _ [708, 709, 710, 711, 712, 713, 714, 715, 716, 717, 718, 719, 720, 721, 722, 723, 724, 30, 725, 726, 727, 728, 729, 69] (by decide +kernel) (by decide +kernel)
theorem ggL_law_L_run_c11 : GoodIn wsL_law wsL_run_r12 := goodIn_r _ [730, 731, 732, 733, 734, 735, 736, 737, 738, 739, 740, 741, 742, 743, 744, 745, 746, 747, 748, 749, 750, 468, 469, 470] (by decide +kernel) (by decide +kernel)
theorem ggL_law_L_run_c12 : GoodIn wsL_law wsL_run_r13 := goodIn_r _ [211, 313, 314, 751, 752, 753, 754, 755, 756, 757, 758, 759, 760, 761, 762, 763, 218, 219, 764, 765, 766, 767, 768, 769] (by decide +kernel) (by decide +kernel)
theorem ggL_law_L_run_c13 : GoodIn wsL_law wsL_run_r14 := goodIn_r _ [770, 771, 287, 320, 257, 258, 259, 262, 263, 264, 265, 212, 56, 54, 772, 296, 297, 298, 53, 52, 291, 773, 774, 775] (by decide +kernel) (by decide +kernel)
theorem ggL_law_L_run_c14 : GoodIn wsL_law wsL_run_r15 := goodIn_r _ [776, 220, 777, 227, 228, 229, 778, 317, 318, 319, 779, 278, 279, 280, 281, 282, 283, 284, 285, 286, 295, 301, 302, 303] (by decide +kernel) (by decide +kernel)
theorem ggL_law_L_run_c15 : GoodIn wsL_law wsL_run_r16 := goodIn_r _ [304, 305, 306, 307, 308, 309, 310, 311, 312, 213, 315, 316, 780, 781, 782, 783] (by decide +kernel) (by decide +kernel)
theorem ggL_law_L_run_c16 : GoodIn wsL_law wsX70 := goodIn_r _ [968, 969, 970, 971, 972, 973, 974, 975, 976] (by decide +kernel) (by decide +kernel)
theorem ggL_law_L_run_c17 : GoodIn wsL_law wsX60 := goodIn_r _ [1068, 1069, 1070, 1071, 1072, 1073, 1074, 1075, 1076, 1077, 1078, 1079, 1080, 1081, 1082, 1083] (by decide +kernel) (by decide +kernel)
theorem ggL_law_L_run_c18 : GoodIn wsL_law wsX10 := goodIn_r _ [1084, 1085, 1086, 1087, 1088, 1089, 1090, 1091] (by decide +kernel) (by decide +kernel)
theorem ggL_law_L_run_c19 : GoodIn wsL_law wsX50 := goodIn_r _ [1092, 1093, 1094, 1095, 1096, 1097] (by decide +kernel) (by decide +kernel)
theorem ggL_law_L_run_c20 : GoodIn wsL_law wsX20 := goodIn_r _ [1050, 1051, 1052, 1053, 1054, 1055, 1056, 1057, 1058, 1059] (by decide +kernel) (by decide +kernel)
theorem ggL_law_L_run_c21 : GoodIn wsL_law wsX30 := goodIn_r _ [1064, 1065, 1066, 1067] (by decide +kernel) (by decide +kernel)
theorem ggL_law_L_run : GoodIn wsL_law wsL_run := goodIn_ca (goodIn_cons (goodIn_r _ [517] (by decide +kernel) (by decide +kernel)) (goodIn_app (goodIn_app (goodIn_app (goodIn_app (goodIn_app (goodIn_app (goodIn_app ggL_law_L_run_c0 (goodIn_app ggL_law_L_run_c1 (goodIn_app ggL_law_L_run_c2 (goodIn_app ggL_law_L_run_c3 (goodIn_app ggL_law_L_run_c4 (goodIn_app ggL_law_L_run_c5 (goodIn_app ggL_law_L_run_c6 (goodIn_app ggL_law_L_run_c7 (goodIn_app ggL_law_L_run_c8 (goodIn_app ggL_law_L_run_c9 (goodIn_app ggL_law_L_run_c10 (goodIn_app ggL_law_L_run_c11 (goodIn_app ggL_law_L_run_c12 (goodIn_app ggL_law_L_run_c13 (goodIn_app ggL_law_L_run_c14 ggL_law_L_run_c15))))))))))))))) ggL_law_L_run_c16) ggL_law_L_run_c17) ggL_law_L_run_c18) ggL_law_L_run_c19) ggL_law_L_run_c20) ggL_law_L_run_c21)) (goodIn_sub (fun _ h => List.mem_append_left _ (List.mem_append_left _ (List.mem_append_right _ h))) (by decide +kernel))
set_option maxRecDepth 20000 in
theorem gL_law_L_run : GoodIn wsL_law (va_wsS RL 60 yL_run wsL_run) := goodIn_app (goodIn_of _ (by decide +kernel)) ggL_law_L_run
set_option maxRecDepth 20000 in
theorem ggL_law_X8_run_c0 : GoodIn wsL_law wsX8_run_r1 := goodIn_r _ [788, 442, 374, 789, 790, 791, 792, 793, 794, 5, 795, 347, 796, 797, 798, 799, 800, 801, 802, 803, 804, 805, 336, 334] (by decide +kernel) (by decide +kernel)
theorem ggL_law_X8_run_c1 : GoodIn wsL_law wsX8_run_r2 := goodIn_r _ [806, 807, 808, 809, 353, 354, 810, 811, 812, 813, 335, 814, 815, 816, 817, 818, 819, 820, 821, 349, 822, 823, 824, 825] (by decide +kernel) (by decide +kernel)
theorem ggL_law_X8_run_c2 : GoodIn wsL_law wsX8_run_r3 := goodIn_r _ [350, 826, 827, 828, 829, 830, 831, 832, 833, 352, 834, 835, 836, 837, 355, 356, 838, 839, 840, 841, 842, 843, 844, 845] (by decide +kernel) (by decide +kernel)
theorem ggL_law_X8_run_c3 : GoodIn wsL_law wsX8_run_r4 := goodIn_r _ [846, 847, 848, 849, 343, 344, 850, 851, 852, 853, 854, 855, 856, 857, 858, 345, 346, 859, 860, 861, 862, 863, 864, 865] (by decide +kernel) (by decide +kernel)
theorem ggL_law_X8_run_c4 : GoodIn wsL_law wsX8_run_r5 := goodIn_r _ [866, 351, 867, 868, 869, 870, 871, 872, 873, 874, 875, 876, 877, 878, 879, 880, 881, 882, 883, 368, 419, 420, 421, 884] (by decide +kernel) (by decide +kernel)
theorem ggL_law_X8_run_c5 : GoodIn wsL_law wsX8_run_r6 := goodIn_r _ [885, 886, 887, 371, 369, 370, 888, 889, 890, 891, 342, 375, 376, 377, 378, 367, 337, 391, 392, 393, 394, 395, 396, 397] (by decide +kernel) (by decide +kernel)
theorem ggL_law_X8_run_c6 : GoodIn wsL_law wsX8_run_r7 := goodIn_r _ [398, 338, 373, 892, 893, 894, 895, 411, 412, 413, 414, 896, 897, 898, 899, 900, 901, 902, 903, 904, 905, 906, 907, 403] (by decide +kernel) (by decide +kernel)
theorem ggL_law_X8_run_c7 : GoodIn wsL_law wsX8_run_r8 := goodIn_r _ [404, 405, 406, 407, 408, 409, 410, 415, 416, 417, 418, 372] (by decide +kernel) (by decide +kernel)
theorem ggL_law_X8_run_c8 : GoodIn wsL_law wsX80 := goodIn_r _ [977, 978, 979, 980, 981, 982, 983, 984, 985, 986, 987, 988, 989, 990, 991, 992, 993, 994, 995, 996, 997, 998, 999, 1000, 1001, 1002, 1003, 1004, 1005, 1006, 1007, 1008, 1009, 1010, 1011, 1012, 1013, 1014, 1015, 1016, 1017, 1018, 1019, 1020, 1021, 1022, 1023, 1024, 1025, 1026, 1027, 1028, 1029, 1030, 1031, 1032, 1033, 1034] (by decide +kernel) (by decide +kernel)
theorem ggL_law_X8_run : GoodIn wsL_law wsX8_run := (goodIn_cons (goodIn_r _ [787] (by decide +kernel) (by decide +kernel)) (goodIn_app (goodIn_app ggL_law_X8_run_c0 (goodIn_app ggL_law_X8_run_c1 (goodIn_app ggL_law_X8_run_c2 (goodIn_app ggL_law_X8_run_c3 (goodIn_app ggL_law_X8_run_c4 (goodIn_app ggL_law_X8_run_c5 (goodIn_app ggL_law_X8_run_c6 ggL_law_X8_run_c7))))))) ggL_law_X8_run_c8))
set_option maxRecDepth 20000 in
theorem gL_law_X8_run : GoodIn wsL_law (wsV RL 63 RX8 yX8_run wsX8_run) := goodIn_app (goodIn_of _ (by decide +kernel)) ggL_law_X8_run
set_option maxRecDepth 20000 in
theorem ggL_law_L_count : GoodIn wsL_law wsL_count := goodIn_ca (goodIn_r _ [910, 911, 912, 913, 914, 2, 915, 916, 917, 462, 31, 23, 206, 436, 918, 919, 920, 30, 921, 218, 922, 923, 924, 925, 219, 926, 927, 928, 929, 220, 930, 931, 932, 22, 933, 213, 467, 468, 469, 470, 211, 968, 969, 970, 971, 972, 973, 974, 975, 976, 1064, 1065, 1066, 1067, 1050, 1051, 1052, 1053, 1054, 1055, 1056, 1057, 1058, 1059] (by decide +kernel) (by decide +kernel)) (goodIn_sub (fun _ h => List.mem_append_right _ h) (by decide +kernel))
set_option maxRecDepth 20000 in
theorem gL_law_L_count : GoodIn wsL_law (va_wsS RL 64 yL_count wsL_count) := goodIn_app (goodIn_of _ (by decide +kernel)) ggL_law_L_count
set_option maxRecDepth 20000 in
theorem ggL_law_X8_count : GoodIn wsL_law wsX8_count := goodIn_r _ [937, 442, 476, 369, 370, 371, 372, 368, 374, 441, 977, 978, 979, 980, 981, 982, 983, 984, 985, 986, 987, 988, 989, 990, 991, 992, 993, 994, 995, 996, 997, 998, 999, 1000, 1001, 1002, 1003, 1004, 1005, 1006, 1007, 1008, 1009, 1010, 1011, 1012, 1013, 1014, 1015, 1016, 1017, 1018, 1019, 1020, 1021, 1022, 1023, 1024, 1025, 1026, 1027, 1028, 1029, 1030, 1031, 1032, 1033, 1034] (by decide +kernel) (by decide +kernel)
set_option maxRecDepth 20000 in
theorem gL_law_X8_count : GoodIn wsL_law (wsV RL 66 RX8 yX8_count wsX8_count) := goodIn_app (goodIn_of _ (by decide +kernel)) ggL_law_X8_count
set_option maxRecDepth 20000 in
theorem ggL_law_L_letter : GoodIn wsL_law wsL_letter := goodIn_ca (goodIn_r _ [940, 911, 941, 942, 943, 2, 944, 916, 917, 206, 35, 945, 946, 947, 34, 948, 531, 79, 968, 969, 970, 971, 972, 973, 974, 975, 976, 1068, 1069, 1070, 1071, 1072, 1073, 1074, 1075, 1076, 1077, 1078, 1079, 1080, 1081, 1082, 1083] (by decide +kernel) (by decide +kernel)) (goodIn_sub (fun _ h => List.mem_append_right _ h) (by decide +kernel))
set_option maxRecDepth 20000 in
theorem gL_law_L_letter : GoodIn wsL_law (va_wsS RL 67 yL_letter wsL_letter) := goodIn_app (goodIn_of _ (by decide +kernel)) ggL_law_L_letter
set_option maxRecDepth 20000 in
theorem ggL_law_X8_letter : GoodIn wsL_law wsX8_letter := goodIn_r _ [952, 374, 442, 352, 977, 978, 979, 980, 981, 982, 983, 984, 985, 986, 987, 988, 989, 990, 991, 992, 993, 994, 995, 996, 997, 998, 999, 1000, 1001, 1002, 1003, 1004, 1005, 1006, 1007, 1008, 1009, 1010, 1011, 1012, 1013, 1014, 1015, 1016, 1017, 1018, 1019, 1020, 1021, 1022, 1023, 1024, 1025, 1026, 1027, 1028, 1029, 1030, 1031, 1032, 1033, 1034] (by decide +kernel) (by decide +kernel)
set_option maxRecDepth 20000 in
theorem gL_law_X8_letter : GoodIn wsL_law (wsV RL 69 RX8 yX8_letter wsX8_letter) := goodIn_app (goodIn_of _ (by decide +kernel)) ggL_law_X8_letter
set_option maxRecDepth 20000 in
theorem ggL_law_L_nodes : GoodIn wsL_law wsL_nodes := goodIn_ca (goodIn_r _ [955, 911, 956, 957, 958, 2, 959, 916, 917, 23, 960, 961, 962, 22, 963, 53, 968, 969, 970, 971, 972, 973, 974, 975, 976, 1050, 1051, 1052, 1053, 1054, 1055, 1056, 1057, 1058, 1059] (by decide +kernel) (by decide +kernel)) (goodIn_sub (fun _ h => List.mem_append_right _ h) (by decide +kernel))
set_option maxRecDepth 20000 in
theorem gL_law_L_nodes : GoodIn wsL_law (va_wsS RL 70 yL_nodes wsL_nodes) := goodIn_app (goodIn_of _ (by decide +kernel)) ggL_law_L_nodes
set_option maxRecDepth 20000 in
theorem ggL_law_X8_nodes : GoodIn wsL_law wsX8_nodes := goodIn_r _ [967, 442, 334, 977, 978, 979, 980, 981, 982, 983, 984, 985, 986, 987, 988, 989, 990, 991, 992, 993, 994, 995, 996, 997, 998, 999, 1000, 1001, 1002, 1003, 1004, 1005, 1006, 1007, 1008, 1009, 1010, 1011, 1012, 1013, 1014, 1015, 1016, 1017, 1018, 1019, 1020, 1021, 1022, 1023, 1024, 1025, 1026, 1027, 1028, 1029, 1030, 1031, 1032, 1033, 1034] (by decide +kernel) (by decide +kernel)
set_option maxRecDepth 20000 in
theorem gL_law_X8_nodes : GoodIn wsL_law (wsV RL 72 RX8 yX8_nodes wsX8_nodes) := goodIn_app (goodIn_of _ (by decide +kernel)) ggL_law_X8_nodes
theorem dL_law_0 : decode cL_law 0 = .ok (.new 8, 3) := by decide +kernel
theorem dL_law_3 : decode cL_law 3 = .ok (.dup, 1) := by decide +kernel
theorem dL_law_4 : decode cL_law 4 = .ok (.invokespecial 36, 3) := by decide +kernel
theorem dL_law_7 : decode cL_law 7 = .ok (.astore_n 1, 1) := by decide +kernel
theorem dL_law_8 : decode cL_law 8 = .ok (.new 37, 3) := by decide +kernel
theorem dL_law_11 : decode cL_law 11 = .ok (.dup, 1) := by decide +kernel
theorem dL_law_12 : decode cL_law 12 = .ok (.invokespecial 39, 3) := by decide +kernel
theorem dL_law_15 : decode cL_law 15 = .ok (.astore_n 2, 1) := by decide +kernel
theorem dL_law_16 : decode cL_law 16 = .ok (.iconst 1, 1) := by decide +kernel
theorem dL_law_17 : decode cL_law 17 = .ok (.newarray .long, 2) := by decide +kernel
theorem dL_law_19 : decode cL_law 19 = .ok (.astore_n 3, 1) := by decide +kernel
theorem dL_law_20 : decode cL_law 20 = .ok (.iconst 0, 1) := by decide +kernel
theorem dL_law_21 : decode cL_law 21 = .ok (.istore 4, 2) := by decide +kernel
theorem dL_law_23 : decode cL_law 23 = .ok (.iload 4, 2) := by decide +kernel
theorem dL_law_25 : decode cL_law 25 = .ok (.aload_n 0, 1) := by decide +kernel
theorem dL_law_26 : decode cL_law 26 = .ok (.arraylength, 1) := by decide +kernel
theorem dL_law_27 : decode cL_law 27 = .ok (.iconst 4, 1) := by decide +kernel
theorem dL_law_28 : decode cL_law 28 = .ok (.isub, 1) := by decide +kernel
theorem dL_law_29 : decode cL_law 29 = .ok (.if_icmp .gt 430, 3) := by decide +kernel
theorem dL_law_32 : decode cL_law 32 = .ok (.aload_n 0, 1) := by decide +kernel
theorem dL_law_33 : decode cL_law 33 = .ok (.iload 4, 2) := by decide +kernel
theorem dL_law_35 : decode cL_law 35 = .ok (.iaload, 1) := by decide +kernel
theorem dL_law_36 : decode cL_law 36 = .ok (.bipush 7, 2) := by decide +kernel
theorem dL_law_38 : decode cL_law 38 = .ok (.iand, 1) := by decide +kernel
theorem dL_law_39 : decode cL_law 39 = .ok (.tableswitch 414 0 6 #[41, 141, 177, 190, 246, 302, 358], 41) := by decide +kernel
theorem dL_law_80 : decode cL_law 80 = .ok (.aload_n 1, 1) := by decide +kernel
theorem dL_law_81 : decode cL_law 81 = .ok (.aload_n 0, 1) := by decide +kernel
theorem dL_law_82 : decode cL_law 82 = .ok (.iload 4, 2) := by decide +kernel
theorem dL_law_84 : decode cL_law 84 = .ok (.iconst 1, 1) := by decide +kernel
theorem dL_law_85 : decode cL_law 85 = .ok (.iadd, 1) := by decide +kernel
theorem dL_law_86 : decode cL_law 86 = .ok (.iaload, 1) := by decide +kernel
theorem dL_law_87 : decode cL_law 87 = .ok (.i2l, 1) := by decide +kernel
theorem dL_law_88 : decode cL_law 88 = .ok (.bipush 32, 2) := by decide +kernel
theorem dL_law_90 : decode cL_law 90 = .ok (.lshl, 1) := by decide +kernel
theorem dL_law_91 : decode cL_law 91 = .ok (.aload_n 0, 1) := by decide +kernel
theorem dL_law_92 : decode cL_law 92 = .ok (.iload 4, 2) := by decide +kernel
theorem dL_law_94 : decode cL_law 94 = .ok (.iconst 2, 1) := by decide +kernel
theorem dL_law_95 : decode cL_law 95 = .ok (.iadd, 1) := by decide +kernel
theorem dL_law_96 : decode cL_law 96 = .ok (.iaload, 1) := by decide +kernel
theorem dL_law_97 : decode cL_law 97 = .ok (.i2l, 1) := by decide +kernel
theorem dL_law_98 : decode cL_law 98 = .ok (.ldc2_w 40, 3) := by decide +kernel
theorem dL_law_101 : decode cL_law 101 = .ok (.land, 1) := by decide +kernel
theorem dL_law_102 : decode cL_law 102 = .ok (.lor, 1) := by decide +kernel
theorem dL_law_103 : decode cL_law 103 = .ok (.aload_n 0, 1) := by decide +kernel
theorem dL_law_104 : decode cL_law 104 = .ok (.iload 4, 2) := by decide +kernel
theorem dL_law_106 : decode cL_law 106 = .ok (.iconst 3, 1) := by decide +kernel
theorem dL_law_107 : decode cL_law 107 = .ok (.iadd, 1) := by decide +kernel
theorem dL_law_108 : decode cL_law 108 = .ok (.iaload, 1) := by decide +kernel
theorem dL_law_109 : decode cL_law 109 = .ok (.aload_n 3, 1) := by decide +kernel
theorem dL_law_110 : decode cL_law 110 = .ok (.invokestatic 42, 3) := by decide +kernel
theorem dL_law_113 : decode cL_law 113 = .ok (.istore 5, 2) := by decide +kernel
theorem dL_law_115 : decode cL_law 115 = .ok (.aload_n 2, 1) := by decide +kernel
theorem dL_law_116 : decode cL_law 116 = .ok (.aload_n 0, 1) := by decide +kernel
theorem dL_law_117 : decode cL_law 117 = .ok (.iload 4, 2) := by decide +kernel
theorem dL_law_119 : decode cL_law 119 = .ok (.iconst 1, 1) := by decide +kernel
theorem dL_law_120 : decode cL_law 120 = .ok (.iadd, 1) := by decide +kernel
theorem dL_law_121 : decode cL_law 121 = .ok (.iaload, 1) := by decide +kernel
theorem dL_law_122 : decode cL_law 122 = .ok (.i2l, 1) := by decide +kernel
theorem dL_law_123 : decode cL_law 123 = .ok (.bipush 32, 2) := by decide +kernel
theorem dL_law_125 : decode cL_law 125 = .ok (.lshl, 1) := by decide +kernel
theorem dL_law_126 : decode cL_law 126 = .ok (.aload_n 0, 1) := by decide +kernel
theorem dL_law_127 : decode cL_law 127 = .ok (.iload 4, 2) := by decide +kernel
theorem dL_law_129 : decode cL_law 129 = .ok (.iconst 2, 1) := by decide +kernel
theorem dL_law_130 : decode cL_law 130 = .ok (.iadd, 1) := by decide +kernel
theorem dL_law_131 : decode cL_law 131 = .ok (.iaload, 1) := by decide +kernel
theorem dL_law_132 : decode cL_law 132 = .ok (.i2l, 1) := by decide +kernel
theorem dL_law_133 : decode cL_law 133 = .ok (.ldc2_w 40, 3) := by decide +kernel
theorem dL_law_136 : decode cL_law 136 = .ok (.land, 1) := by decide +kernel
theorem dL_law_137 : decode cL_law 137 = .ok (.lor, 1) := by decide +kernel
theorem dL_law_138 : decode cL_law 138 = .ok (.aload_n 0, 1) := by decide +kernel
theorem dL_law_139 : decode cL_law 139 = .ok (.iload 4, 2) := by decide +kernel
theorem dL_law_141 : decode cL_law 141 = .ok (.iconst 3, 1) := by decide +kernel
theorem dL_law_142 : decode cL_law 142 = .ok (.iadd, 1) := by decide +kernel
theorem dL_law_143 : decode cL_law 143 = .ok (.iaload, 1) := by decide +kernel
theorem dL_law_144 : decode cL_law 144 = .ok (.invokevirtual 47, 3) := by decide +kernel
theorem dL_law_147 : decode cL_law 147 = .ok (.istore 6, 2) := by decide +kernel
theorem dL_law_149 : decode cL_law 149 = .ok (.aload_n 2, 1) := by decide +kernel
theorem dL_law_150 : decode cL_law 150 = .ok (.invokevirtual 48, 3) := by decide +kernel
theorem dL_law_153 : decode cL_law 153 = .ok (.iload 5, 2) := by decide +kernel
theorem dL_law_155 : decode cL_law 155 = .ok (.if_icmp .eq 5, 3) := by decide +kernel
theorem dL_law_158 : decode cL_law 158 = .ok (.iconst 0, 1) := by decide +kernel
theorem dL_law_159 : decode cL_law 159 = .ok (.ireturn, 1) := by decide +kernel
theorem dL_law_160 : decode cL_law 160 = .ok (.iload 5, 2) := by decide +kernel
theorem dL_law_162 : decode cL_law 162 = .ok (.ifCond .ne 15, 3) := by decide +kernel
theorem dL_law_165 : decode cL_law 165 = .ok (.aload_n 3, 1) := by decide +kernel
theorem dL_law_166 : decode cL_law 166 = .ok (.iconst 0, 1) := by decide +kernel
theorem dL_law_167 : decode cL_law 167 = .ok (.laload, 1) := by decide +kernel
theorem dL_law_168 : decode cL_law 168 = .ok (.iload 6, 2) := by decide +kernel
theorem dL_law_170 : decode cL_law 170 = .ok (.i2l, 1) := by decide +kernel
theorem dL_law_171 : decode cL_law 171 = .ok (.lcmp, 1) := by decide +kernel
theorem dL_law_172 : decode cL_law 172 = .ok (.ifCond .eq 5, 3) := by decide +kernel
theorem dL_law_175 : decode cL_law 175 = .ok (.iconst 0, 1) := by decide +kernel
theorem dL_law_176 : decode cL_law 176 = .ok (.ireturn, 1) := by decide +kernel
theorem dL_law_177 : decode cL_law 177 = .ok (.goto 276, 3) := by decide +kernel
theorem dL_law_180 : decode cL_law 180 = .ok (.aload_n 1, 1) := by decide +kernel
theorem dL_law_181 : decode cL_law 181 = .ok (.aload_n 0, 1) := by decide +kernel
theorem dL_law_182 : decode cL_law 182 = .ok (.iload 4, 2) := by decide +kernel
theorem dL_law_184 : decode cL_law 184 = .ok (.iconst 1, 1) := by decide +kernel
theorem dL_law_185 : decode cL_law 185 = .ok (.iadd, 1) := by decide +kernel
theorem dL_law_186 : decode cL_law 186 = .ok (.iaload, 1) := by decide +kernel
theorem dL_law_187 : decode cL_law 187 = .ok (.invokestatic 52, 3) := by decide +kernel
theorem dL_law_190 : decode cL_law 190 = .ok (.istore 5, 2) := by decide +kernel
theorem dL_law_192 : decode cL_law 192 = .ok (.aload_n 2, 1) := by decide +kernel
theorem dL_law_193 : decode cL_law 193 = .ok (.aload_n 0, 1) := by decide +kernel
theorem dL_law_194 : decode cL_law 194 = .ok (.iload 4, 2) := by decide +kernel
theorem dL_law_196 : decode cL_law 196 = .ok (.iconst 1, 1) := by decide +kernel
theorem dL_law_197 : decode cL_law 197 = .ok (.iadd, 1) := by decide +kernel
theorem dL_law_198 : decode cL_law 198 = .ok (.iaload, 1) := by decide +kernel
theorem dL_law_199 : decode cL_law 199 = .ok (.invokevirtual 55, 3) := by decide +kernel
theorem dL_law_202 : decode cL_law 202 = .ok (.aload_n 2, 1) := by decide +kernel
theorem dL_law_203 : decode cL_law 203 = .ok (.invokevirtual 48, 3) := by decide +kernel
theorem dL_law_206 : decode cL_law 206 = .ok (.iload 5, 2) := by decide +kernel
theorem dL_law_208 : decode cL_law 208 = .ok (.if_icmp .eq 5, 3) := by decide +kernel
theorem dL_law_211 : decode cL_law 211 = .ok (.iconst 0, 1) := by decide +kernel
theorem dL_law_212 : decode cL_law 212 = .ok (.ireturn, 1) := by decide +kernel
theorem dL_law_213 : decode cL_law 213 = .ok (.goto 240, 3) := by decide +kernel
theorem dL_law_216 : decode cL_law 216 = .ok (.aload_n 1, 1) := by decide +kernel
theorem dL_law_217 : decode cL_law 217 = .ok (.invokevirtual 56, 3) := by decide +kernel
theorem dL_law_220 : decode cL_law 220 = .ok (.aload_n 2, 1) := by decide +kernel
theorem dL_law_221 : decode cL_law 221 = .ok (.invokevirtual 59, 3) := by decide +kernel
theorem dL_law_224 : decode cL_law 224 = .ok (.if_icmp .eq 229, 3) := by decide +kernel
theorem dL_law_227 : decode cL_law 227 = .ok (.iconst 0, 1) := by decide +kernel
theorem dL_law_228 : decode cL_law 228 = .ok (.ireturn, 1) := by decide +kernel
theorem dL_law_229 : decode cL_law 229 = .ok (.aload_n 1, 1) := by decide +kernel
theorem dL_law_230 : decode cL_law 230 = .ok (.aload_n 0, 1) := by decide +kernel
theorem dL_law_231 : decode cL_law 231 = .ok (.iload 4, 2) := by decide +kernel
theorem dL_law_233 : decode cL_law 233 = .ok (.iconst 1, 1) := by decide +kernel
theorem dL_law_234 : decode cL_law 234 = .ok (.iadd, 1) := by decide +kernel
theorem dL_law_235 : decode cL_law 235 = .ok (.iaload, 1) := by decide +kernel
theorem dL_law_236 : decode cL_law 236 = .ok (.aload_n 3, 1) := by decide +kernel
theorem dL_law_237 : decode cL_law 237 = .ok (.invokestatic 60, 3) := by decide +kernel
theorem dL_law_240 : decode cL_law 240 = .ok (.istore 5, 2) := by decide +kernel
theorem dL_law_242 : decode cL_law 242 = .ok (.aload_n 2, 1) := by decide +kernel
theorem dL_law_243 : decode cL_law 243 = .ok (.aload_n 0, 1) := by decide +kernel
theorem dL_law_244 : decode cL_law 244 = .ok (.iload 4, 2) := by decide +kernel
theorem dL_law_246 : decode cL_law 246 = .ok (.iconst 1, 1) := by decide +kernel
theorem dL_law_247 : decode cL_law 247 = .ok (.iadd, 1) := by decide +kernel
theorem dL_law_248 : decode cL_law 248 = .ok (.iaload, 1) := by decide +kernel
theorem dL_law_249 : decode cL_law 249 = .ok (.invokevirtual 63, 3) := by decide +kernel
theorem dL_law_252 : decode cL_law 252 = .ok (.istore 6, 2) := by decide +kernel
theorem dL_law_254 : decode cL_law 254 = .ok (.aload_n 2, 1) := by decide +kernel
theorem dL_law_255 : decode cL_law 255 = .ok (.invokevirtual 48, 3) := by decide +kernel
theorem dL_law_258 : decode cL_law 258 = .ok (.iload 5, 2) := by decide +kernel
theorem dL_law_260 : decode cL_law 260 = .ok (.if_icmp .eq 5, 3) := by decide +kernel
theorem dL_law_263 : decode cL_law 263 = .ok (.iconst 0, 1) := by decide +kernel
theorem dL_law_264 : decode cL_law 264 = .ok (.ireturn, 1) := by decide +kernel
theorem dL_law_265 : decode cL_law 265 = .ok (.iload 5, 2) := by decide +kernel
theorem dL_law_267 : decode cL_law 267 = .ok (.ifCond .ne 15, 3) := by decide +kernel
theorem dL_law_270 : decode cL_law 270 = .ok (.aload_n 3, 1) := by decide +kernel
theorem dL_law_271 : decode cL_law 271 = .ok (.iconst 0, 1) := by decide +kernel
theorem dL_law_272 : decode cL_law 272 = .ok (.laload, 1) := by decide +kernel
theorem dL_law_273 : decode cL_law 273 = .ok (.iload 6, 2) := by decide +kernel
theorem dL_law_275 : decode cL_law 275 = .ok (.i2l, 1) := by decide +kernel
theorem dL_law_276 : decode cL_law 276 = .ok (.lcmp, 1) := by decide +kernel
theorem dL_law_277 : decode cL_law 277 = .ok (.ifCond .eq 5, 3) := by decide +kernel
theorem dL_law_280 : decode cL_law 280 = .ok (.iconst 0, 1) := by decide +kernel
theorem dL_law_281 : decode cL_law 281 = .ok (.ireturn, 1) := by decide +kernel
theorem dL_law_282 : decode cL_law 282 = .ok (.goto 171, 3) := by decide +kernel
theorem dL_law_285 : decode cL_law 285 = .ok (.aload_n 1, 1) := by decide +kernel
theorem dL_law_286 : decode cL_law 286 = .ok (.aload_n 0, 1) := by decide +kernel
theorem dL_law_287 : decode cL_law 287 = .ok (.iload 4, 2) := by decide +kernel
theorem dL_law_289 : decode cL_law 289 = .ok (.iconst 1, 1) := by decide +kernel
theorem dL_law_290 : decode cL_law 290 = .ok (.iadd, 1) := by decide +kernel
theorem dL_law_291 : decode cL_law 291 = .ok (.iaload, 1) := by decide +kernel
theorem dL_law_292 : decode cL_law 292 = .ok (.aload_n 3, 1) := by decide +kernel
theorem dL_law_293 : decode cL_law 293 = .ok (.invokestatic 64, 3) := by decide +kernel
theorem dL_law_296 : decode cL_law 296 = .ok (.istore 5, 2) := by decide +kernel
theorem dL_law_298 : decode cL_law 298 = .ok (.aload_n 2, 1) := by decide +kernel
theorem dL_law_299 : decode cL_law 299 = .ok (.aload_n 0, 1) := by decide +kernel
theorem dL_law_300 : decode cL_law 300 = .ok (.iload 4, 2) := by decide +kernel
theorem dL_law_302 : decode cL_law 302 = .ok (.iconst 1, 1) := by decide +kernel
theorem dL_law_303 : decode cL_law 303 = .ok (.iadd, 1) := by decide +kernel
theorem dL_law_304 : decode cL_law 304 = .ok (.iaload, 1) := by decide +kernel
theorem dL_law_305 : decode cL_law 305 = .ok (.invokevirtual 66, 3) := by decide +kernel
theorem dL_law_308 : decode cL_law 308 = .ok (.istore 6, 2) := by decide +kernel
theorem dL_law_310 : decode cL_law 310 = .ok (.aload_n 2, 1) := by decide +kernel
theorem dL_law_311 : decode cL_law 311 = .ok (.invokevirtual 48, 3) := by decide +kernel
theorem dL_law_314 : decode cL_law 314 = .ok (.iload 5, 2) := by decide +kernel
theorem dL_law_316 : decode cL_law 316 = .ok (.if_icmp .eq 5, 3) := by decide +kernel
theorem dL_law_319 : decode cL_law 319 = .ok (.iconst 0, 1) := by decide +kernel
theorem dL_law_320 : decode cL_law 320 = .ok (.ireturn, 1) := by decide +kernel
theorem dL_law_321 : decode cL_law 321 = .ok (.iload 5, 2) := by decide +kernel
theorem dL_law_323 : decode cL_law 323 = .ok (.ifCond .ne 15, 3) := by decide +kernel
theorem dL_law_326 : decode cL_law 326 = .ok (.aload_n 3, 1) := by decide +kernel
theorem dL_law_327 : decode cL_law 327 = .ok (.iconst 0, 1) := by decide +kernel
theorem dL_law_328 : decode cL_law 328 = .ok (.laload, 1) := by decide +kernel
theorem dL_law_329 : decode cL_law 329 = .ok (.iload 6, 2) := by decide +kernel
theorem dL_law_331 : decode cL_law 331 = .ok (.i2l, 1) := by decide +kernel
theorem dL_law_332 : decode cL_law 332 = .ok (.lcmp, 1) := by decide +kernel
theorem dL_law_333 : decode cL_law 333 = .ok (.ifCond .eq 5, 3) := by decide +kernel
theorem dL_law_336 : decode cL_law 336 = .ok (.iconst 0, 1) := by decide +kernel
theorem dL_law_337 : decode cL_law 337 = .ok (.ireturn, 1) := by decide +kernel
theorem dL_law_338 : decode cL_law 338 = .ok (.goto 115, 3) := by decide +kernel
theorem dL_law_341 : decode cL_law 341 = .ok (.aload_n 1, 1) := by decide +kernel
theorem dL_law_342 : decode cL_law 342 = .ok (.aload_n 0, 1) := by decide +kernel
theorem dL_law_343 : decode cL_law 343 = .ok (.iload 4, 2) := by decide +kernel
theorem dL_law_345 : decode cL_law 345 = .ok (.iconst 1, 1) := by decide +kernel
theorem dL_law_346 : decode cL_law 346 = .ok (.iadd, 1) := by decide +kernel
theorem dL_law_347 : decode cL_law 347 = .ok (.iaload, 1) := by decide +kernel
theorem dL_law_348 : decode cL_law 348 = .ok (.aload_n 3, 1) := by decide +kernel
theorem dL_law_349 : decode cL_law 349 = .ok (.invokestatic 67, 3) := by decide +kernel
theorem dL_law_352 : decode cL_law 352 = .ok (.istore 5, 2) := by decide +kernel
theorem dL_law_354 : decode cL_law 354 = .ok (.aload_n 2, 1) := by decide +kernel
theorem dL_law_355 : decode cL_law 355 = .ok (.aload_n 0, 1) := by decide +kernel
theorem dL_law_356 : decode cL_law 356 = .ok (.iload 4, 2) := by decide +kernel
theorem dL_law_358 : decode cL_law 358 = .ok (.iconst 1, 1) := by decide +kernel
theorem dL_law_359 : decode cL_law 359 = .ok (.iadd, 1) := by decide +kernel
theorem dL_law_360 : decode cL_law 360 = .ok (.iaload, 1) := by decide +kernel
theorem dL_law_361 : decode cL_law 361 = .ok (.invokevirtual 69, 3) := by decide +kernel
theorem dL_law_364 : decode cL_law 364 = .ok (.istore 6, 2) := by decide +kernel
theorem dL_law_366 : decode cL_law 366 = .ok (.aload_n 2, 1) := by decide +kernel
theorem dL_law_367 : decode cL_law 367 = .ok (.invokevirtual 48, 3) := by decide +kernel
theorem dL_law_370 : decode cL_law 370 = .ok (.iload 5, 2) := by decide +kernel
theorem dL_law_372 : decode cL_law 372 = .ok (.if_icmp .eq 5, 3) := by decide +kernel
theorem dL_law_375 : decode cL_law 375 = .ok (.iconst 0, 1) := by decide +kernel
theorem dL_law_376 : decode cL_law 376 = .ok (.ireturn, 1) := by decide +kernel
theorem dL_law_377 : decode cL_law 377 = .ok (.iload 5, 2) := by decide +kernel
theorem dL_law_379 : decode cL_law 379 = .ok (.ifCond .ne 15, 3) := by decide +kernel
theorem dL_law_382 : decode cL_law 382 = .ok (.aload_n 3, 1) := by decide +kernel
theorem dL_law_383 : decode cL_law 383 = .ok (.iconst 0, 1) := by decide +kernel
theorem dL_law_384 : decode cL_law 384 = .ok (.laload, 1) := by decide +kernel
theorem dL_law_385 : decode cL_law 385 = .ok (.iload 6, 2) := by decide +kernel
theorem dL_law_387 : decode cL_law 387 = .ok (.i2l, 1) := by decide +kernel
theorem dL_law_388 : decode cL_law 388 = .ok (.lcmp, 1) := by decide +kernel
theorem dL_law_389 : decode cL_law 389 = .ok (.ifCond .eq 5, 3) := by decide +kernel
theorem dL_law_392 : decode cL_law 392 = .ok (.iconst 0, 1) := by decide +kernel
theorem dL_law_393 : decode cL_law 393 = .ok (.ireturn, 1) := by decide +kernel
theorem dL_law_394 : decode cL_law 394 = .ok (.goto 59, 3) := by decide +kernel
theorem dL_law_397 : decode cL_law 397 = .ok (.aload_n 1, 1) := by decide +kernel
theorem dL_law_398 : decode cL_law 398 = .ok (.aload_n 0, 1) := by decide +kernel
theorem dL_law_399 : decode cL_law 399 = .ok (.iload 4, 2) := by decide +kernel
theorem dL_law_401 : decode cL_law 401 = .ok (.iconst 1, 1) := by decide +kernel
theorem dL_law_402 : decode cL_law 402 = .ok (.iadd, 1) := by decide +kernel
theorem dL_law_403 : decode cL_law 403 = .ok (.iaload, 1) := by decide +kernel
theorem dL_law_404 : decode cL_law 404 = .ok (.aload_n 3, 1) := by decide +kernel
theorem dL_law_405 : decode cL_law 405 = .ok (.invokestatic 70, 3) := by decide +kernel
theorem dL_law_408 : decode cL_law 408 = .ok (.istore 5, 2) := by decide +kernel
theorem dL_law_410 : decode cL_law 410 = .ok (.aload_n 2, 1) := by decide +kernel
theorem dL_law_411 : decode cL_law 411 = .ok (.aload_n 0, 1) := by decide +kernel
theorem dL_law_412 : decode cL_law 412 = .ok (.iload 4, 2) := by decide +kernel
theorem dL_law_414 : decode cL_law 414 = .ok (.iconst 1, 1) := by decide +kernel
theorem dL_law_415 : decode cL_law 415 = .ok (.iadd, 1) := by decide +kernel
theorem dL_law_416 : decode cL_law 416 = .ok (.iaload, 1) := by decide +kernel
theorem dL_law_417 : decode cL_law 417 = .ok (.invokevirtual 72, 3) := by decide +kernel
theorem dL_law_420 : decode cL_law 420 = .ok (.istore 6, 2) := by decide +kernel
theorem dL_law_422 : decode cL_law 422 = .ok (.aload_n 2, 1) := by decide +kernel
theorem dL_law_423 : decode cL_law 423 = .ok (.invokevirtual 48, 3) := by decide +kernel
theorem dL_law_426 : decode cL_law 426 = .ok (.iload 5, 2) := by decide +kernel
theorem dL_law_428 : decode cL_law 428 = .ok (.if_icmp .eq 5, 3) := by decide +kernel
theorem dL_law_431 : decode cL_law 431 = .ok (.iconst 0, 1) := by decide +kernel
theorem dL_law_432 : decode cL_law 432 = .ok (.ireturn, 1) := by decide +kernel
theorem dL_law_433 : decode cL_law 433 = .ok (.iload 5, 2) := by decide +kernel
theorem dL_law_435 : decode cL_law 435 = .ok (.ifCond .ne 15, 3) := by decide +kernel
theorem dL_law_438 : decode cL_law 438 = .ok (.aload_n 3, 1) := by decide +kernel
theorem dL_law_439 : decode cL_law 439 = .ok (.iconst 0, 1) := by decide +kernel
theorem dL_law_440 : decode cL_law 440 = .ok (.laload, 1) := by decide +kernel
theorem dL_law_441 : decode cL_law 441 = .ok (.iload 6, 2) := by decide +kernel
theorem dL_law_443 : decode cL_law 443 = .ok (.i2l, 1) := by decide +kernel
theorem dL_law_444 : decode cL_law 444 = .ok (.lcmp, 1) := by decide +kernel
theorem dL_law_445 : decode cL_law 445 = .ok (.ifCond .eq 5, 3) := by decide +kernel
theorem dL_law_448 : decode cL_law 448 = .ok (.iconst 0, 1) := by decide +kernel
theorem dL_law_449 : decode cL_law 449 = .ok (.ireturn, 1) := by decide +kernel
theorem dL_law_450 : decode cL_law 450 = .ok (.goto 3, 3) := by decide +kernel
theorem dL_law_453 : decode cL_law 453 = .ok (.iinc 4 4, 3) := by decide +kernel
theorem dL_law_456 : decode cL_law 456 = .ok (.goto (-433), 3) := by decide +kernel
theorem dL_law_459 : decode cL_law 459 = .ok (.iconst 1, 1) := by decide +kernel
theorem dL_law_460 : decode cL_law 460 = .ok (.ireturn, 1) := by decide +kernel





theorem inlX0 : ∀ w ∈ wsX00, w ∈ wsL_law := fun _ h => List.mem_append_left _ (List.mem_append_left _ (List.mem_append_left _ (List.mem_append_left _ (List.mem_append_left _ (List.mem_append_left _ (List.mem_append_left _ (List.mem_append_left _ (List.mem_append_right _ h))))))))
theorem inX0 : ∀ w ∈ wsX00, w ∈ lw_tbl := fun w h => wsL_law_in w (inlX0 w h)
theorem inlX1 : ∀ w ∈ wsX10, w ∈ wsL_law := fun _ h => List.mem_append_left _ (List.mem_append_left _ (List.mem_append_left _ (List.mem_append_left _ (List.mem_append_left _ (List.mem_append_right _ h)))))
theorem inX1 : ∀ w ∈ wsX10, w ∈ lw_tbl := fun w h => wsL_law_in w (inlX1 w h)
theorem inlX2 : ∀ w ∈ wsX20, w ∈ wsL_law := fun _ h => List.mem_append_left _ (List.mem_append_left _ (List.mem_append_left _ (List.mem_append_left _ (List.mem_append_left _ (List.mem_append_left _ (List.mem_append_left _ (List.mem_append_left _ (List.mem_append_left _ (List.mem_append_right _ h)))))))))
theorem inX2 : ∀ w ∈ wsX20, w ∈ lw_tbl := fun w h => wsL_law_in w (inlX2 w h)
theorem inlX3 : ∀ w ∈ wsX30, w ∈ wsL_law := fun _ h => List.mem_append_left _ (List.mem_append_left _ (List.mem_append_left _ (List.mem_append_left _ (List.mem_append_left _ (List.mem_append_left _ (List.mem_append_left _ (List.mem_append_right _ h)))))))
theorem inX3 : ∀ w ∈ wsX30, w ∈ lw_tbl := fun w h => wsL_law_in w (inlX3 w h)
theorem inlX4 : ∀ w ∈ wsX40, w ∈ wsL_law := fun _ h => List.mem_append_left _ (List.mem_append_left _ (List.mem_append_left _ (List.mem_append_left _ (List.mem_append_left _ (List.mem_append_left _ (List.mem_append_left _ (List.mem_append_left _ (List.mem_append_left _ (List.mem_append_left _ (List.mem_append_right _ h))))))))))
theorem inX4 : ∀ w ∈ wsX40, w ∈ lw_tbl := fun w h => wsL_law_in w (inlX4 w h)
theorem inlX5 : ∀ w ∈ wsX50, w ∈ wsL_law := fun _ h => List.mem_append_left _ (List.mem_append_left _ (List.mem_append_left _ (List.mem_append_left _ (List.mem_append_right _ h))))
theorem inX5 : ∀ w ∈ wsX50, w ∈ lw_tbl := fun w h => wsL_law_in w (inlX5 w h)
theorem inlX6 : ∀ w ∈ wsX60, w ∈ wsL_law := fun _ h => List.mem_append_left _ (List.mem_append_left _ (List.mem_append_left _ (List.mem_append_left _ (List.mem_append_left _ (List.mem_append_left _ (List.mem_append_right _ h))))))
theorem inX6 : ∀ w ∈ wsX60, w ∈ lw_tbl := fun w h => wsL_law_in w (inlX6 w h)
theorem inlX7 : ∀ w ∈ wsX70, w ∈ wsL_law := fun _ h => List.mem_append_left _ (List.mem_append_left _ (List.mem_append_left _ (List.mem_append_left _ (List.mem_append_left _ (List.mem_append_left _ (List.mem_append_left _ (List.mem_append_left _ (List.mem_append_left _ (List.mem_append_left _ (List.mem_append_left _ (List.mem_append_left _ (List.mem_append_right _ h))))))))))))
theorem inX7 : ∀ w ∈ wsX70, w ∈ lw_tbl := fun w h => wsL_law_in w (inlX7 w h)
theorem inlX8 : ∀ w ∈ wsX80, w ∈ wsL_law := fun _ h => List.mem_append_left _ (List.mem_append_left _ (List.mem_append_left _ (List.mem_append_left _ (List.mem_append_left _ (List.mem_append_left _ (List.mem_append_left _ (List.mem_append_left _ (List.mem_append_left _ (List.mem_append_left _ (List.mem_append_left _ (List.mem_append_right _ h)))))))))))
theorem inX8 : ∀ w ∈ wsX80, w ∈ lw_tbl := fun w h => wsL_law_in w (inlX8 w h)
