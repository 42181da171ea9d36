/-! ===== the words of the law, part 3 ===== -/
set_option maxRecDepth 20000 in
theorem ggL_law_X9_close : GoodIn wsL_law wsX9_close := goodIn_r _ [526, 128, 129, 130, 2, 131, 16, 15, 132, 133, 134, 14, 135, 39, 43, 47, 51, 136, 53, 137, 138, 139, 140, 141, 142, 143, 144, 38, 145, 58, 59, 60, 61, 62, 63, 146, 147, 148, 149, 150, 151, 152, 153, 154, 155, 156, 157, 158, 42, 159, 67, 68, 69, 70, 160, 161, 162, 46, 163, 164, 74, 75, 76, 77, 78, 79, 80, 165, 166, 167, 50, 168, 169, 170, 171, 172, 84, 85, 527, 528, 529, 530, 243, 514, 531, 532, 533, 178, 534, 535, 536, 537, 538, 539, 540, 541, 252, 253, 254, 255, 256, 257, 258, 259, 542, 185, 186, 187, 188, 20, 189, 190, 191, 19, 192, 193, 91, 194, 195, 196, 197, 198, 1000, 1001, 1002, 1003, 1004, 1005, 1021, 1022, 1023, 1024, 1025, 1026, 1027, 1028, 1029, 1030, 1031, 1050, 1051, 1052, 1053, 1054, 1055, 1056, 1057, 1058, 1059, 1060, 1061, 1062, 1063, 1064, 1065, 1066, 1067, 1068, 1069, 1070, 1071, 1072, 1073, 1032, 1033] (by decide +kernel) (by decide +kernel)
set_option maxRecDepth 20000 in
theorem gL_law_X9_close : GoodIn wsL_law (wsV RL 62 RX9 yX9_close wsX9_close) := goodIn_app (goodIn_of _ (by decide +kernel)) ggL_law_X9_close
set_option maxRecDepth 20000 in
theorem ggL_law_X10_close : GoodIn wsL_law wsX10_close := goodIn_r _ [546, 203, 204, 205, 5, 206, 115, 114, 547, 548, 549, 550, 276, 277, 278, 279, 280, 281, 282, 283, 284, 285, 286, 287, 288, 289, 290, 291, 502, 503, 504, 505, 214, 215, 216, 217, 218, 116, 1006, 1007, 1008, 1009, 1010, 1011, 1012, 1013, 1014, 1015, 1016, 1017, 1018, 1019, 1020] (by decide +kernel) (by decide +kernel)
set_option maxRecDepth 20000 in
theorem gL_law_X10_close : GoodIn wsL_law (wsV RL 65 RX10 yX10_close wsX10_close) := goodIn_app (goodIn_of _ (by decide +kernel)) ggL_law_X10_close
set_option maxRecDepth 20000 in
theorem ggL_law_X9_roundOf : GoodIn wsL_law wsX9_roundOf := goodIn_r _ [554, 15, 555, 556, 557, 14, 558, 51, 243, 459, 514, 531, 533, 532, 244, 245, 246, 247, 136, 183, 2, 184, 1000, 1001, 1002, 1003, 1004, 1005, 1021, 1022, 1023, 1024, 1025, 1026, 1027, 1028, 1029, 1030, 1031, 1068, 1069, 1070, 1071, 1072, 1073] (by decide +kernel) (by decide +kernel)
set_option maxRecDepth 20000 in
theorem gL_law_X9_roundOf : GoodIn wsL_law (wsV RL 66 RX9 yX9_roundOf wsX9_roundOf) := goodIn_app (goodIn_of _ (by decide +kernel)) ggL_law_X9_roundOf
set_option maxRecDepth 20000 in
theorem ggL_law_X10_roundOf : GoodIn wsL_law wsX10_roundOf := goodIn_r _ [562, 114, 268, 269, 270, 5, 271, 211, 212, 213, 276, 277, 278, 279, 1006, 1007, 1008, 1009, 1010, 1011, 1012, 1013, 1014, 1015, 1016, 1017, 1018, 1019, 1020] (by decide +kernel) (by decide +kernel)
set_option maxRecDepth 20000 in
theorem gL_law_X10_roundOf : GoodIn wsL_law (wsV RL 69 RX10 yX10_roundOf wsX10_roundOf) := goodIn_app (goodIn_of _ (by decide +kernel)) ggL_law_X10_roundOf
set_option maxRecDepth 20000 in
theorem ggL_law_X9_classOf : GoodIn wsL_law wsX9_classOf := goodIn_r _ [566, 15, 567, 568, 569, 14, 570, 43, 39, 178, 179, 180, 181, 182, 248, 249, 250, 251, 177, 183, 2, 184, 468, 469, 470, 42, 471, 68, 69, 571, 572, 573, 38, 574, 59, 60, 472, 473, 474, 475, 63, 1000, 1001, 1002, 1003, 1004, 1005, 1021, 1022, 1023, 1024, 1025, 1026, 1027, 1028, 1029, 1030, 1031, 1050, 1051, 1052, 1053, 1054, 1055, 1056, 1057, 1058, 1059] (by decide +kernel) (by decide +kernel)
set_option maxRecDepth 20000 in
theorem gL_law_X9_classOf : GoodIn wsL_law (wsV RL 70 RX9 yX9_classOf wsX9_classOf) := goodIn_app (goodIn_of _ (by decide +kernel)) ggL_law_X9_classOf
set_option maxRecDepth 20000 in
theorem ggL_law_X10_classOf : GoodIn wsL_law wsX10_classOf := goodIn_r _ [578, 272, 273, 274, 5, 275, 114, 211, 212, 213, 498, 499, 500, 501, 284, 285, 286, 287, 579, 580, 581, 582, 502, 503, 504, 505, 1006, 1007, 1008, 1009, 1010, 1011, 1012, 1013, 1014, 1015, 1016, 1017, 1018, 1019, 1020] (by decide +kernel) (by decide +kernel)
set_option maxRecDepth 20000 in
theorem gL_law_X10_classOf : GoodIn wsL_law (wsV RL 73 RX10 yX10_classOf wsX10_classOf) := goodIn_app (goodIn_of _ (by decide +kernel)) ggL_law_X10_classOf
set_option maxRecDepth 20000 in
theorem ggL_law_X9_certificateOf : GoodIn wsL_law wsX9_certificateOf := goodIn_r _ [586, 15, 587, 588, 589, 14, 590, 43, 300, 302, 301, 591, 303, 304, 305, 42, 306, 69, 183, 2, 184, 1000, 1001, 1002, 1003, 1004, 1005, 1021, 1022, 1023, 1024, 1025, 1026, 1027, 1028, 1029, 1030, 1031, 1056, 1057, 1058, 1059] (by decide +kernel) (by decide +kernel)
set_option maxRecDepth 20000 in
theorem gL_law_X9_certificateOf : GoodIn wsL_law (wsV RL 74 RX9 yX9_certificateOf wsX9_certificateOf) := goodIn_app (goodIn_of _ (by decide +kernel)) ggL_law_X9_certificateOf
set_option maxRecDepth 20000 in
theorem ggL_law_X10_certificateOf : GoodIn wsL_law wsX10_certificateOf := goodIn_r _ [595, 315, 316, 317, 5, 318, 211, 212, 213, 284, 285, 286, 287, 114, 1006, 1007, 1008, 1009, 1010, 1011, 1012, 1013, 1014, 1015, 1016, 1017, 1018, 1019, 1020] (by decide +kernel) (by decide +kernel)
set_option maxRecDepth 20000 in
theorem gL_law_X10_certificateOf : GoodIn wsL_law (wsV RL 77 RX10 yX10_certificateOf wsX10_certificateOf) := goodIn_app (goodIn_of _ (by decide +kernel)) ggL_law_X10_certificateOf
set_option maxRecDepth 20000 in
theorem ggL_law_X9_grantOf : GoodIn wsL_law wsX9_grantOf := goodIn_r _ [599, 15, 600, 601, 602, 14, 603, 47, 348, 349, 350, 354, 353, 375, 376, 377, 378, 347, 183, 2, 184, 383, 384, 385, 386, 53, 137, 352, 351, 379, 380, 381, 382, 1000, 1001, 1002, 1003, 1004, 1005, 1021, 1022, 1023, 1024, 1025, 1026, 1027, 1028, 1029, 1030, 1031, 1060, 1061, 1062, 1063, 1064, 1065, 1066, 1067] (by decide +kernel) (by decide +kernel)
set_option maxRecDepth 20000 in
theorem gL_law_X9_grantOf : GoodIn wsL_law (wsV RL 78 RX9 yX9_grantOf wsX9_grantOf) := goodIn_app (goodIn_of _ (by decide +kernel)) ggL_law_X9_grantOf
set_option maxRecDepth 20000 in
theorem ggL_law_X10_grantOf : GoodIn wsL_law wsX10_grantOf := goodIn_r _ [607, 395, 396, 397, 5, 398, 114, 211, 212, 213, 403, 404, 405, 406, 407, 408, 409, 410, 363, 364, 365, 366, 399, 400, 401, 402, 1006, 1007, 1008, 1009, 1010, 1011, 1012, 1013, 1014, 1015, 1016, 1017, 1018, 1019, 1020] (by decide +kernel) (by decide +kernel)
set_option maxRecDepth 20000 in
theorem gL_law_X10_grantOf : GoodIn wsL_law (wsV RL 81 RX10 yX10_grantOf wsX10_grantOf) := goodIn_app (goodIn_of _ (by decide +kernel)) ggL_law_X10_grantOf
set_option maxRecDepth 20000 in
theorem ggL_law_X9_holderOf : GoodIn wsL_law wsX9_holderOf := goodIn_r _ [611, 15, 612, 613, 614, 14, 615, 53, 43, 244, 245, 246, 247, 136, 183, 2, 184, 476, 477, 478, 479, 39, 177, 480, 481, 482, 42, 483, 68, 67, 69, 472, 473, 474, 38, 475, 63, 616, 617, 618, 619, 419, 420, 421, 422, 47, 347, 348, 379, 380, 381, 382, 137, 354, 383, 384, 385, 386, 353, 352, 351, 349, 620, 621, 622, 623, 464, 465, 466, 467, 468, 469, 470, 471, 484, 485, 1000, 1001, 1002, 1003, 1004, 1005, 1021, 1022, 1023, 1024, 1025, 1026, 1027, 1028, 1029, 1030, 1031, 1050, 1051, 1052, 1053, 1054, 1055, 1056, 1057, 1058, 1059, 1060, 1061, 1062, 1063, 1064, 1065, 1066, 1067] (by decide +kernel) (by decide +kernel)
set_option maxRecDepth 20000 in
theorem gL_law_X9_holderOf : GoodIn wsL_law (wsV RL 82 RX9 yX9_holderOf wsX9_holderOf) := goodIn_app (goodIn_of _ (by decide +kernel)) ggL_law_X9_holderOf
set_option maxRecDepth 20000 in
theorem ggL_law_X10_holderOf : GoodIn wsL_law wsX10_holderOf := goodIn_r _ [627, 114, 628, 268, 269, 270, 5, 271, 211, 212, 213, 494, 495, 496, 497, 498, 499, 500, 501, 284, 285, 286, 287, 502, 503, 504, 505, 363, 364, 365, 366, 629, 630, 631, 632, 431, 432, 433, 434, 403, 404, 405, 406, 399, 400, 401, 402, 407, 408, 409, 410, 1006, 1007, 1008, 1009, 1010, 1011, 1012, 1013, 1014, 1015, 1016, 1017, 1018, 1019, 1020] (by decide +kernel) (by decide +kernel)
set_option maxRecDepth 20000 in
theorem gL_law_X10_holderOf : GoodIn wsL_law (wsV RL 85 RX10 yX10_holderOf wsX10_holderOf) := goodIn_app (goodIn_of _ (by decide +kernel)) ggL_law_X10_holderOf
