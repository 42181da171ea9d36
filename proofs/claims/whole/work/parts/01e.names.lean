theorem dX9_fault_9 : decode cX9_fault 9 = .ok (.iconst (-1), 1) := by decide +kernel
theorem dX9_fault_10 : decode cX9_fault 10 = .ok (.ireturn, 1) := by decide +kernel
theorem dX9_fault_11 : decode cX9_fault 11 = .ok (.aload_n 0, 1) := by decide +kernel
theorem dX9_fault_12 : decode cX9_fault 12 = .ok (.getfield 43, 3) := by decide +kernel
theorem dX9_fault_15 : decode cX9_fault 15 = .ok (.aload_n 0, 1) := by decide +kernel
theorem dX9_fault_16 : decode cX9_fault 16 = .ok (.getfield 36, 3) := by decide +kernel
theorem dX9_fault_19 : decode cX9_fault 19 = .ok (.aload_n 0, 1) := by decide +kernel
theorem dX9_fault_20 : decode cX9_fault 20 = .ok (.invokevirtual 47, 3) := by decide +kernel
theorem dX9_fault_23 : decode cX9_fault 23 = .ok (.invokevirtual 164, 3) := by decide +kernel
theorem dX9_fault_26 : decode cX9_fault 26 = .ok (.aload_n 0, 1) := by decide +kernel
theorem dX9_fault_27 : decode cX9_fault 27 = .ok (.getfield 43, 3) := by decide +kernel
theorem dX9_fault_30 : decode cX9_fault 30 = .ok (.iload_n 1, 1) := by decide +kernel
theorem dX9_fault_31 : decode cX9_fault 31 = .ok (.invokevirtual 168, 3) := by decide +kernel
theorem dX9_fault_34 : decode cX9_fault 34 = .ok (.ireturn, 1) := by decide +kernel
set_option maxRecDepth 20000 in
theorem ggX9_play_X9_newDraft : GoodIn wsX9_play wsX9_newDraft := goodIn_r _ [8, 9, 10, 11, 12, 13, 14, 15, 16, 17, 18, 19, 20, 21, 22, 23, 24, 25, 26, 27, 28, 29, 30, 31, 32, 33, 34, 35, 36, 37, 38, 7, 39, 40, 41, 42, 43, 44, 45, 46, 47, 48, 49, 50, 51, 52, 53, 54, 55, 56, 57, 58, 59, 60, 61, 62, 63, 64, 65, 66, 67, 68, 69, 70, 71, 72, 73, 74, 75, 76, 77, 78, 79, 80, 277, 278, 279, 280, 281, 282, 287, 288, 289, 290, 291, 292, 293, 294, 295, 296, 297, 298, 299, 300, 301, 302, 303, 304, 305, 306, 307, 308, 309, 310, 311, 312, 313, 314, 315, 316, 317, 318, 319, 320, 321] (by decide +kernel) (by decide +kernel)
set_option maxRecDepth 20000 in
theorem gX9_play_X9_newDraft : GoodIn wsX9_play (wsV RX9 47 RX9 yX9_newDraft wsX9_newDraft) := goodIn_app (goodIn_of _ (by decide +kernel)) ggX9_play_X9_newDraft
set_option maxRecDepth 20000 in
theorem ggX9_play_X6_run : GoodIn wsX9_play wsX6_run := goodIn_r _ [85, 86, 87, 88, 89, 90, 91, 92, 93, 94, 95, 96, 97, 98, 99, 100, 101, 102, 103, 104, 105, 106, 107, 108, 109, 110, 111, 112, 113, 114, 115, 116, 117, 118, 119, 120, 121, 122, 123, 124, 125, 126, 127, 128, 129, 130, 131, 132, 133, 134, 135, 136, 137, 138, 139, 140, 141, 142, 143, 144, 145, 146, 147, 148, 149, 150, 151, 152, 153, 154, 155, 156, 157, 158, 159, 160, 161, 7, 162, 163, 164, 165, 166, 167, 168, 169, 170, 171, 172, 173, 174, 175, 176, 177, 84, 178, 179, 180, 181, 14, 182, 19, 183, 17, 23, 22, 184, 185, 186, 187, 20, 188, 189, 190, 191, 16, 192, 193, 194, 195, 51, 196, 55, 197, 198, 199, 200, 53, 54, 56, 201, 202, 203, 204, 205, 206, 207, 208, 209, 210, 211, 212, 213, 214, 215, 24, 216, 217, 218, 219, 21, 18, 220, 221, 222, 223, 224, 225, 226, 227, 228, 229, 230, 231, 25, 232, 233, 234, 235, 236, 237, 238, 239, 240, 241, 242, 243, 244, 245, 246, 247, 248, 249, 250, 251, 252, 253, 254, 255, 283, 284, 285, 286, 322, 323, 324, 325, 287, 288, 289, 290, 291, 292, 293, 294, 295, 296, 297, 316, 317, 318, 319, 320, 321, 298, 299, 300, 301, 302, 303, 304, 305, 306, 307, 308, 309, 310, 311, 312, 313, 314, 315] (by decide +kernel) (by decide +kernel)
set_option maxRecDepth 20000 in
theorem gX9_play_X6_run : GoodIn wsX9_play (wsV RX9 164 RX6 yX6_run wsX6_run) := goodIn_app (goodIn_of _ (by decide +kernel)) ggX9_play_X6_run
set_option maxRecDepth 20000 in
theorem ggX9_play_X6_failed : GoodIn wsX9_play wsX6_failed := goodIn_r _ [259, 88, 283, 284, 285, 286] (by decide +kernel) (by decide +kernel)
set_option maxRecDepth 20000 in
theorem gX9_play_X6_failed : GoodIn wsX9_play (wsV RX9 171 RX6 yX6_failed wsX6_failed) := goodIn_app (goodIn_of _ (by decide +kernel)) ggX9_play_X6_failed
set_option maxRecDepth 20000 in
theorem ggX9_play_X9_accepted : GoodIn wsX9_play wsX9_accepted := goodIn_r _ [263, 264, 10, 9, 265, 266, 267, 268, 269, 270, 271, 272, 273, 274, 275, 276, 12, 13, 14, 15, 16, 17, 18, 19, 20, 21, 22, 23, 24, 25, 26, 27, 28, 29, 30, 31, 32, 33, 34, 35, 36, 37, 38, 7, 39, 40, 41, 42, 43, 44, 45, 46, 47, 48, 49, 50, 51, 52, 53, 54, 55, 56, 57, 58, 59, 60, 61, 62, 63, 64, 65, 66, 67, 68, 69, 70, 71, 72, 73, 74, 75, 76, 77, 78, 79, 80, 11, 277, 278, 279, 280, 281, 282, 326, 327, 287, 288, 289, 290, 291, 292, 293, 294, 295, 296, 297, 298, 299, 300, 301, 302, 303, 304, 305, 306, 307, 308, 309, 310, 311, 312, 313, 314, 315, 316, 317, 318, 319, 320, 321] (by decide +kernel) (by decide +kernel)
set_option maxRecDepth 20000 in
theorem gX9_play_X9_accepted : GoodIn wsX9_play (wsV RX9 55 RX9 yX9_accepted wsX9_accepted) := goodIn_app (goodIn_of _ (by decide +kernel)) ggX9_play_X9_accepted
theorem dX9_play_0 : decode cX9_play 0 = .ok (.aload_n 0, 1) := by decide +kernel
theorem dX9_play_1 : decode cX9_play 1 = .ok (.getfield 43, 3) := by decide +kernel
theorem dX9_play_4 : decode cX9_play 4 = .ok (.aload_n 0, 1) := by decide +kernel
theorem dX9_play_5 : decode cX9_play 5 = .ok (.getfield 36, 3) := by decide +kernel
theorem dX9_play_8 : decode cX9_play 8 = .ok (.aload_n 0, 1) := by decide +kernel
theorem dX9_play_9 : decode cX9_play 9 = .ok (.invokevirtual 47, 3) := by decide +kernel
theorem dX9_play_12 : decode cX9_play 12 = .ok (.invokevirtual 164, 3) := by decide +kernel
theorem dX9_play_15 : decode cX9_play 15 = .ok (.aload_n 0, 1) := by decide +kernel
theorem dX9_play_16 : decode cX9_play 16 = .ok (.aload_n 0, 1) := by decide +kernel
theorem dX9_play_17 : decode cX9_play 17 = .ok (.getfield 43, 3) := by decide +kernel
theorem dX9_play_20 : decode cX9_play 20 = .ok (.invokevirtual 171, 3) := by decide +kernel
theorem dX9_play_23 : decode cX9_play 23 = .ok (.ifCond .eq 8, 3) := by decide +kernel
theorem dX9_play_26 : decode cX9_play 26 = .ok (.bipush (-2), 2) := by decide +kernel
theorem dX9_play_28 : decode cX9_play 28 = .ok (.goto 10, 3) := by decide +kernel
theorem dX9_play_31 : decode cX9_play 31 = .ok (.aload_n 0, 1) := by decide +kernel
theorem dX9_play_32 : decode cX9_play 32 = .ok (.getfield 43, 3) := by decide +kernel
theorem dX9_play_35 : decode cX9_play 35 = .ok (.getfield 175, 3) := by decide +kernel
theorem dX9_play_38 : decode cX9_play 38 = .ok (.invokevirtual 55, 3) := by decide +kernel
theorem dX9_play_41 : decode cX9_play 41 = .ok (.ireturn, 1) := by decide +kernel
set_option maxRecDepth 20000 in
theorem ggX9_newDraft_X2_copyFrom : GoodIn wsX9_newDraft wsX2_copyFrom := goodIn_r _ [7, 8, 9, 10, 11, 12, 13, 14, 15, 16, 17, 18, 19, 20, 21, 22, 23, 24, 25, 26, 27, 28, 29, 30, 31, 32, 33, 34, 35, 36, 37, 38, 39, 40, 41, 42, 43, 44, 45, 46, 47, 48, 49, 50, 51, 52, 53, 54, 55, 56, 57, 58, 59, 60, 61, 62, 63, 64, 65, 66, 67, 68, 69, 70, 71, 72, 73, 80, 81, 82, 83, 84, 85, 86, 87, 88, 89, 90, 91, 92, 93, 94, 95, 96, 97, 98, 99, 100, 101, 102, 103, 104, 105, 106, 107, 108, 109, 110, 111, 112, 113, 114] (by decide +kernel) (by decide +kernel)
set_option maxRecDepth 20000 in
theorem gX9_newDraft_X2_copyFrom : GoodIn wsX9_newDraft (wsV RX9 178 RX2 yX2_copyFrom wsX2_copyFrom) := goodIn_app (goodIn_of _ (by decide +kernel)) ggX9_newDraft_X2_copyFrom
theorem dX9_newDraft_0 : decode cX9_newDraft 0 = .ok (.aload_n 0, 1) := by decide +kernel
theorem dX9_newDraft_1 : decode cX9_newDraft 1 = .ok (.getfield 16, 3) := by decide +kernel
theorem dX9_newDraft_4 : decode cX9_newDraft 4 = .ok (.aload_n 0, 1) := by decide +kernel
theorem dX9_newDraft_5 : decode cX9_newDraft 5 = .ok (.getfield 10, 3) := by decide +kernel
theorem dX9_newDraft_8 : decode cX9_newDraft 8 = .ok (.invokevirtual 178, 3) := by decide +kernel
theorem dX9_newDraft_11 : decode cX9_newDraft 11 = .ok (.aload_n 0, 1) := by decide +kernel
theorem dX9_newDraft_12 : decode cX9_newDraft 12 = .ok (.getfield 16, 3) := by decide +kernel
theorem dX9_newDraft_15 : decode cX9_newDraft 15 = .ok (.areturn, 1) := by decide +kernel
set_option maxRecDepth 20000 in
theorem ggX9_accepted_X5_keep : GoodIn wsX9_accepted wsX5_keep := goodIn_r _ [8, 9, 10, 11, 12, 13, 7, 14, 15, 16, 17, 18, 19, 20, 21, 22, 23, 24, 25, 26, 27, 28, 29, 30, 31, 32, 33, 34, 35, 36, 37, 38, 39, 40, 41, 42, 43, 44, 45, 46, 47, 48, 49, 50, 51, 52, 53, 54, 55, 56, 57, 58, 59, 60, 61, 62, 63, 64, 65, 66, 67, 68, 69, 70, 71, 72, 73, 74, 75, 76, 77, 78, 79, 80, 81, 82, 83, 84, 85, 93, 94, 95, 96, 97, 98, 99, 100, 101, 102, 103, 104, 105, 106, 107, 108, 109, 110, 111, 112, 113, 114, 115, 116, 117, 118, 119, 120, 121, 122, 123, 124, 125, 126, 127, 128, 129] (by decide +kernel) (by decide +kernel)
set_option maxRecDepth 20000 in
theorem gX9_accepted_X5_keep : GoodIn wsX9_accepted (wsV RX9 181 RX5 yX5_keep wsX5_keep) := goodIn_app (goodIn_of _ (by decide +kernel)) ggX9_accepted_X5_keep
set_option maxRecDepth 20000 in
theorem ggX9_accepted_X2_copyFrom : GoodIn wsX9_accepted wsX2_copyFrom := goodIn_r _ [19, 20, 21, 22, 23, 24, 25, 26, 27, 28, 29, 30, 31, 32, 33, 34, 35, 36, 37, 38, 39, 40, 41, 42, 43, 44, 45, 46, 47, 48, 49, 50, 51, 52, 53, 54, 55, 56, 57, 58, 59, 60, 61, 62, 63, 64, 65, 66, 67, 68, 69, 70, 71, 72, 73, 74, 75, 76, 77, 78, 79, 80, 81, 82, 83, 84, 85, 95, 96, 97, 98, 99, 100, 101, 102, 103, 104, 105, 106, 107, 108, 109, 110, 111, 112, 113, 114, 115, 116, 117, 118, 119, 120, 121, 122, 123, 124, 125, 126, 127, 128, 129] (by decide +kernel) (by decide +kernel)
set_option maxRecDepth 20000 in
theorem gX9_accepted_X2_copyFrom : GoodIn wsX9_accepted (wsV RX9 178 RX2 yX2_copyFrom wsX2_copyFrom) := goodIn_app (goodIn_of _ (by decide +kernel)) ggX9_accepted_X2_copyFrom
theorem dX9_accepted_0 : decode cX9_accepted 0 = .ok (.iload_n 1, 1) := by decide +kernel
theorem dX9_accepted_1 : decode cX9_accepted 1 = .ok (.ifCond .lt 25, 3) := by decide +kernel
theorem dX9_accepted_4 : decode cX9_accepted 4 = .ok (.aload_n 0, 1) := by decide +kernel
theorem dX9_accepted_5 : decode cX9_accepted 5 = .ok (.getfield 22, 3) := by decide +kernel
theorem dX9_accepted_8 : decode cX9_accepted 8 = .ok (.aload_n 0, 1) := by decide +kernel
theorem dX9_accepted_9 : decode cX9_accepted 9 = .ok (.getfield 10, 3) := by decide +kernel
theorem dX9_accepted_12 : decode cX9_accepted 12 = .ok (.invokevirtual 181, 3) := by decide +kernel
theorem dX9_accepted_15 : decode cX9_accepted 15 = .ok (.aload_n 0, 1) := by decide +kernel
theorem dX9_accepted_16 : decode cX9_accepted 16 = .ok (.getfield 10, 3) := by decide +kernel
theorem dX9_accepted_19 : decode cX9_accepted 19 = .ok (.aload_n 0, 1) := by decide +kernel
theorem dX9_accepted_20 : decode cX9_accepted 20 = .ok (.getfield 16, 3) := by decide +kernel
theorem dX9_accepted_23 : decode cX9_accepted 23 = .ok (.invokevirtual 178, 3) := by decide +kernel
theorem dX9_accepted_26 : decode cX9_accepted 26 = .ok (.iload_n 1, 1) := by decide +kernel
theorem dX9_accepted_27 : decode cX9_accepted 27 = .ok (.ireturn, 1) := by decide +kernel
theorem dX9_within_0 : decode cX9_within 0 = .ok (.iload_n 0, 1) := by decide +kernel
theorem dX9_within_1 : decode cX9_within 1 = .ok (.iload_n 1, 1) := by decide +kernel
theorem dX9_within_2 : decode cX9_within 2 = .ok (.if_icmp .lt 12, 3) := by decide +kernel
theorem dX9_within_5 : decode cX9_within 5 = .ok (.iload_n 0, 1) := by decide +kernel
theorem dX9_within_6 : decode cX9_within 6 = .ok (.iload_n 2, 1) := by decide +kernel
theorem dX9_within_7 : decode cX9_within 7 = .ok (.if_icmp .gt 7, 3) := by decide +kernel
theorem dX9_within_10 : decode cX9_within 10 = .ok (.iconst 1, 1) := by decide +kernel
theorem dX9_within_11 : decode cX9_within 11 = .ok (.goto 4, 3) := by decide +kernel
theorem dX9_within_14 : decode cX9_within 14 = .ok (.iconst 0, 1) := by decide +kernel
theorem dX9_within_15 : decode cX9_within 15 = .ok (.ireturn, 1) := by decide +kernel
theorem dX9_contains_0 : decode cX9_contains 0 = .ok (.iload_n 0, 1) := by decide +kernel
theorem dX9_contains_1 : decode cX9_contains 1 = .ok (.iload_n 1, 1) := by decide +kernel
theorem dX9_contains_2 : decode cX9_contains 2 = .ok (.ishr, 1) := by decide +kernel
theorem dX9_contains_3 : decode cX9_contains 3 = .ok (.iconst 1, 1) := by decide +kernel
theorem dX9_contains_4 : decode cX9_contains 4 = .ok (.iand, 1) := by decide +kernel
theorem dX9_contains_5 : decode cX9_contains 5 = .ok (.iconst 1, 1) := by decide +kernel
theorem dX9_contains_6 : decode cX9_contains 6 = .ok (.if_icmp .ne 7, 3) := by decide +kernel
theorem dX9_contains_9 : decode cX9_contains 9 = .ok (.iconst 1, 1) := by decide +kernel
theorem dX9_contains_10 : decode cX9_contains 10 = .ok (.goto 4, 3) := by decide +kernel
theorem dX9_contains_13 : decode cX9_contains 13 = .ok (.iconst 0, 1) := by decide +kernel
theorem dX9_contains_14 : decode cX9_contains 14 = .ok (.ireturn, 1) := by decide +kernel
theorem dX9_portion_0 : decode cX9_portion 0 = .ok (.iload_n 2, 1) := by decide +kernel
theorem dX9_portion_1 : decode cX9_portion 1 = .ok (.ifCond .gt 5, 3) := by decide +kernel
theorem dX9_portion_4 : decode cX9_portion 4 = .ok (.iconst 0, 1) := by decide +kernel
theorem dX9_portion_5 : decode cX9_portion 5 = .ok (.ireturn, 1) := by decide +kernel
theorem dX9_portion_6 : decode cX9_portion 6 = .ok (.iload_n 0, 1) := by decide +kernel
theorem dX9_portion_7 : decode cX9_portion 7 = .ok (.i2l, 1) := by decide +kernel
theorem dX9_portion_8 : decode cX9_portion 8 = .ok (.iload_n 1, 1) := by decide +kernel
theorem dX9_portion_9 : decode cX9_portion 9 = .ok (.i2l, 1) := by decide +kernel
theorem dX9_portion_10 : decode cX9_portion 10 = .ok (.lmul, 1) := by decide +kernel
theorem dX9_portion_11 : decode cX9_portion 11 = .ok (.iload_n 2, 1) := by decide +kernel
theorem dX9_portion_12 : decode cX9_portion 12 = .ok (.i2l, 1) := by decide +kernel
theorem dX9_portion_13 : decode cX9_portion 13 = .ok (.ldiv, 1) := by decide +kernel
theorem dX9_portion_14 : decode cX9_portion 14 = .ok (.l2i, 1) := by decide +kernel
theorem dX9_portion_15 : decode cX9_portion 15 = .ok (.ireturn, 1) := by decide +kernel
theorem dX9_copyRow_0 : decode cX9_copyRow 0 = .ok (.aload_n 0, 1) := by decide +kernel
theorem dX9_copyRow_1 : decode cX9_copyRow 1 = .ok (.iconst 0, 1) := by decide +kernel
theorem dX9_copyRow_2 : decode cX9_copyRow 2 = .ok (.aload_n 1, 1) := by decide +kernel
theorem dX9_copyRow_3 : decode cX9_copyRow 3 = .ok (.iconst 0, 1) := by decide +kernel
theorem dX9_copyRow_4 : decode cX9_copyRow 4 = .ok (.aload_n 0, 1) := by decide +kernel
theorem dX9_copyRow_5 : decode cX9_copyRow 5 = .ok (.arraylength, 1) := by decide +kernel
theorem dX9_copyRow_6 : decode cX9_copyRow 6 = .ok (.aload_n 1, 1) := by decide +kernel
theorem dX9_copyRow_7 : decode cX9_copyRow 7 = .ok (.arraylength, 1) := by decide +kernel
theorem dX9_copyRow_8 : decode cX9_copyRow 8 = .ok (.invokestatic 184, 3) := by decide +kernel
theorem dX9_copyRow_11 : decode cX9_copyRow 11 = .ok (.invokestatic 189, 3) := by decide +kernel
theorem dX9_copyRow_14 : decode cX9_copyRow 14 = .ok (.return_, 1) := by decide +kernel
theorem dX10_init_0 : decode cX10_init 0 = .ok (.aload_n 0, 1) := by decide +kernel
theorem dX10_init_1 : decode cX10_init 1 = .ok (.invokespecial 1, 3) := by decide +kernel
theorem dX10_init_4 : decode cX10_init 4 = .ok (.aload_n 0, 1) := by decide +kernel
theorem dX10_init_5 : decode cX10_init 5 = .ok (.sipush 213, 3) := by decide +kernel
theorem dX10_init_8 : decode cX10_init 8 = .ok (.newarray .int, 2) := by decide +kernel
theorem dX10_init_10 : decode cX10_init 10 = .ok (.putfield 7, 3) := by decide +kernel
theorem dX10_init_13 : decode cX10_init 13 = .ok (.aload_n 0, 1) := by decide +kernel
theorem dX10_init_14 : decode cX10_init 14 = .ok (.sipush 213, 3) := by decide +kernel
theorem dX10_init_17 : decode cX10_init 17 = .ok (.newarray .int, 2) := by decide +kernel
theorem dX10_init_19 : decode cX10_init 19 = .ok (.putfield 13, 3) := by decide +kernel
theorem dX10_init_22 : decode cX10_init 22 = .ok (.aload_n 0, 1) := by decide +kernel
theorem dX10_init_23 : decode cX10_init 23 = .ok (.sipush 852, 3) := by decide +kernel
theorem dX10_init_26 : decode cX10_init 26 = .ok (.newarray .int, 2) := by decide +kernel
theorem dX10_init_28 : decode cX10_init 28 = .ok (.putfield 16, 3) := by decide +kernel
theorem dX10_init_31 : decode cX10_init 31 = .ok (.aload_n 0, 1) := by decide +kernel
theorem dX10_init_32 : decode cX10_init 32 = .ok (.bipush 80, 2) := by decide +kernel
theorem dX10_init_34 : decode cX10_init 34 = .ok (.newarray .int, 2) := by decide +kernel
theorem dX10_init_36 : decode cX10_init 36 = .ok (.putfield 19, 3) := by decide +kernel
theorem dX10_init_39 : decode cX10_init 39 = .ok (.aload_n 0, 1) := by decide +kernel
theorem dX10_init_40 : decode cX10_init 40 = .ok (.iconst 5, 1) := by decide +kernel
theorem dX10_init_41 : decode cX10_init 41 = .ok (.newarray .long, 2) := by decide +kernel
theorem dX10_init_43 : decode cX10_init 43 = .ok (.putfield 22, 3) := by decide +kernel
theorem dX10_init_46 : decode cX10_init 46 = .ok (.aload_n 0, 1) := by decide +kernel
theorem dX10_init_47 : decode cX10_init 47 = .ok (.iconst 5, 1) := by decide +kernel
theorem dX10_init_48 : decode cX10_init 48 = .ok (.newarray .long, 2) := by decide +kernel
theorem dX10_init_50 : decode cX10_init 50 = .ok (.putfield 26, 3) := by decide +kernel
theorem dX10_init_53 : decode cX10_init 53 = .ok (.aload_n 0, 1) := by decide +kernel
theorem dX10_init_54 : decode cX10_init 54 = .ok (.iconst 5, 1) := by decide +kernel
theorem dX10_init_55 : decode cX10_init 55 = .ok (.newarray .long, 2) := by decide +kernel
theorem dX10_init_57 : decode cX10_init 57 = .ok (.putfield 29, 3) := by decide +kernel
theorem dX10_init_60 : decode cX10_init 60 = .ok (.aload_n 0, 1) := by decide +kernel
theorem dX10_init_61 : decode cX10_init 61 = .ok (.iconst 5, 1) := by decide +kernel
theorem dX10_init_62 : decode cX10_init 62 = .ok (.newarray .long, 2) := by decide +kernel
theorem dX10_init_64 : decode cX10_init 64 = .ok (.putfield 32, 3) := by decide +kernel
theorem dX10_init_67 : decode cX10_init 67 = .ok (.aload_n 0, 1) := by decide +kernel
theorem dX10_init_68 : decode cX10_init 68 = .ok (.iconst 5, 1) := by decide +kernel
theorem dX10_init_69 : decode cX10_init 69 = .ok (.newarray .int, 2) := by decide +kernel
theorem dX10_init_71 : decode cX10_init 71 = .ok (.putfield 35, 3) := by decide +kernel
theorem dX10_init_74 : decode cX10_init 74 = .ok (.aload_n 0, 1) := by decide +kernel
theorem dX10_init_75 : decode cX10_init 75 = .ok (.getfield 7, 3) := by decide +kernel
theorem dX10_init_78 : decode cX10_init 78 = .ok (.iconst 0, 1) := by decide +kernel
theorem dX10_init_79 : decode cX10_init 79 = .ok (.iconst 1, 1) := by decide +kernel
theorem dX10_init_80 : decode cX10_init 80 = .ok (.iastore, 1) := by decide +kernel
theorem dX10_init_81 : decode cX10_init 81 = .ok (.aload_n 0, 1) := by decide +kernel
theorem dX10_init_82 : decode cX10_init 82 = .ok (.getfield 7, 3) := by decide +kernel
theorem dX10_init_85 : decode cX10_init 85 = .ok (.bipush 32, 2) := by decide +kernel
theorem dX10_init_87 : decode cX10_init 87 = .ok (.iconst 1, 1) := by decide +kernel
theorem dX10_init_88 : decode cX10_init 88 = .ok (.iastore, 1) := by decide +kernel
theorem dX10_init_89 : decode cX10_init 89 = .ok (.return_, 1) := by decide +kernel
theorem dX10_in_0 : decode cX10_in 0 = .ok (.iload_n 0, 1) := by decide +kernel
theorem dX10_in_1 : decode cX10_in 1 = .ok (.iload_n 1, 1) := by decide +kernel
theorem dX10_in_2 : decode cX10_in 2 = .ok (.if_icmp .lt 12, 3) := by decide +kernel
theorem dX10_in_5 : decode cX10_in 5 = .ok (.iload_n 0, 1) := by decide +kernel
theorem dX10_in_6 : decode cX10_in 6 = .ok (.iload_n 2, 1) := by decide +kernel
theorem dX10_in_7 : decode cX10_in 7 = .ok (.if_icmp .gt 7, 3) := by decide +kernel
theorem dX10_in_10 : decode cX10_in 10 = .ok (.iconst 1, 1) := by decide +kernel
theorem dX10_in_11 : decode cX10_in 11 = .ok (.goto 4, 3) := by decide +kernel
theorem dX10_in_14 : decode cX10_in 14 = .ok (.iconst 0, 1) := by decide +kernel
theorem dX10_in_15 : decode cX10_in 15 = .ok (.ireturn, 1) := by decide +kernel
theorem dX10_begins_0 : decode cX10_begins 0 = .ok (.iconst 0, 1) := by decide +kernel
theorem dX10_begins_1 : decode cX10_begins 1 = .ok (.istore_n 1, 1) := by decide +kernel
theorem dX10_begins_2 : decode cX10_begins 2 = .ok (.iload_n 1, 1) := by decide +kernel
theorem dX10_begins_3 : decode cX10_begins 3 = .ok (.sipush 213, 3) := by decide +kernel
theorem dX10_begins_6 : decode cX10_begins 6 = .ok (.if_icmp .ge 21, 3) := by decide +kernel
theorem dX10_begins_9 : decode cX10_begins 9 = .ok (.aload_n 0, 1) := by decide +kernel
theorem dX10_begins_10 : decode cX10_begins 10 = .ok (.getfield 13, 3) := by decide +kernel
theorem dX10_begins_13 : decode cX10_begins 13 = .ok (.iload_n 1, 1) := by decide +kernel
theorem dX10_begins_14 : decode cX10_begins 14 = .ok (.aload_n 0, 1) := by decide +kernel
theorem dX10_begins_15 : decode cX10_begins 15 = .ok (.getfield 7, 3) := by decide +kernel
theorem dX10_begins_18 : decode cX10_begins 18 = .ok (.iload_n 1, 1) := by decide +kernel
theorem dX10_begins_19 : decode cX10_begins 19 = .ok (.iaload, 1) := by decide +kernel
theorem dX10_begins_20 : decode cX10_begins 20 = .ok (.iastore, 1) := by decide +kernel
theorem dX10_begins_21 : decode cX10_begins 21 = .ok (.iinc 1 1, 3) := by decide +kernel
theorem dX10_begins_24 : decode cX10_begins 24 = .ok (.goto (-22), 3) := by decide +kernel
theorem dX10_begins_27 : decode cX10_begins 27 = .ok (.return_, 1) := by decide +kernel
theorem dX10_returns_0 : decode cX10_returns 0 = .ok (.iconst 0, 1) := by decide +kernel
theorem dX10_returns_1 : decode cX10_returns 1 = .ok (.istore_n 1, 1) := by decide +kernel
theorem dX10_returns_2 : decode cX10_returns 2 = .ok (.iload_n 1, 1) := by decide +kernel
theorem dX10_returns_3 : decode cX10_returns 3 = .ok (.sipush 213, 3) := by decide +kernel
theorem dX10_returns_6 : decode cX10_returns 6 = .ok (.if_icmp .ge 21, 3) := by decide +kernel
theorem dX10_returns_9 : decode cX10_returns 9 = .ok (.aload_n 0, 1) := by decide +kernel
theorem dX10_returns_10 : decode cX10_returns 10 = .ok (.getfield 7, 3) := by decide +kernel
theorem dX10_returns_13 : decode cX10_returns 13 = .ok (.iload_n 1, 1) := by decide +kernel
theorem dX10_returns_14 : decode cX10_returns 14 = .ok (.aload_n 0, 1) := by decide +kernel
theorem dX10_returns_15 : decode cX10_returns 15 = .ok (.getfield 13, 3) := by decide +kernel
theorem dX10_returns_18 : decode cX10_returns 18 = .ok (.iload_n 1, 1) := by decide +kernel
theorem dX10_returns_19 : decode cX10_returns 19 = .ok (.iaload, 1) := by decide +kernel
theorem dX10_returns_20 : decode cX10_returns 20 = .ok (.iastore, 1) := by decide +kernel
theorem dX10_returns_21 : decode cX10_returns 21 = .ok (.iinc 1 1, 3) := by decide +kernel
theorem dX10_returns_24 : decode cX10_returns 24 = .ok (.goto (-22), 3) := by decide +kernel
theorem dX10_returns_27 : decode cX10_returns 27 = .ok (.return_, 1) := by decide +kernel
theorem dX10_acted_0 : decode cX10_acted 0 = .ok (.iload_n 1, 1) := by decide +kernel
theorem dX10_acted_1 : decode cX10_acted 1 = .ok (.ifCond .ge 5, 3) := by decide +kernel
theorem dX10_acted_4 : decode cX10_acted 4 = .ok (.iload_n 1, 1) := by decide +kernel
theorem dX10_acted_5 : decode cX10_acted 5 = .ok (.ireturn, 1) := by decide +kernel
theorem dX10_acted_6 : decode cX10_acted 6 = .ok (.aload_n 0, 1) := by decide +kernel
theorem dX10_acted_7 : decode cX10_acted 7 = .ok (.getfield 38, 3) := by decide +kernel
theorem dX10_acted_10 : decode cX10_acted 10 = .ok (.iconst 4, 1) := by decide +kernel
theorem dX10_acted_11 : decode cX10_acted 11 = .ok (.if_icmp .ne 44, 3) := by decide +kernel
theorem dX10_acted_14 : decode cX10_acted 14 = .ok (.iconst 0, 1) := by decide +kernel
theorem dX10_acted_15 : decode cX10_acted 15 = .ok (.istore_n 2, 1) := by decide +kernel
theorem dX10_acted_16 : decode cX10_acted 16 = .ok (.iload_n 2, 1) := by decide +kernel
theorem dX10_acted_17 : decode cX10_acted 17 = .ok (.sipush 639, 3) := by decide +kernel
theorem dX10_acted_20 : decode cX10_acted 20 = .ok (.if_icmp .ge 25, 3) := by decide +kernel
theorem dX10_acted_23 : decode cX10_acted 23 = .ok (.aload_n 0, 1) := by decide +kernel
theorem dX10_acted_24 : decode cX10_acted 24 = .ok (.getfield 16, 3) := by decide +kernel
theorem dX10_acted_27 : decode cX10_acted 27 = .ok (.iload_n 2, 1) := by decide +kernel
theorem dX10_acted_28 : decode cX10_acted 28 = .ok (.aload_n 0, 1) := by decide +kernel
theorem dX10_acted_29 : decode cX10_acted 29 = .ok (.getfield 16, 3) := by decide +kernel
theorem dX10_acted_32 : decode cX10_acted 32 = .ok (.iload_n 2, 1) := by decide +kernel
theorem dX10_acted_33 : decode cX10_acted 33 = .ok (.sipush 213, 3) := by decide +kernel
theorem dX10_acted_36 : decode cX10_acted 36 = .ok (.iadd, 1) := by decide +kernel
theorem dX10_acted_37 : decode cX10_acted 37 = .ok (.iaload, 1) := by decide +kernel
theorem dX10_acted_38 : decode cX10_acted 38 = .ok (.iastore, 1) := by decide +kernel
theorem dX10_acted_39 : decode cX10_acted 39 = .ok (.iinc 2 1, 3) := by decide +kernel
theorem dX10_acted_42 : decode cX10_acted 42 = .ok (.goto (-26), 3) := by decide +kernel
theorem dX10_acted_45 : decode cX10_acted 45 = .ok (.aload_n 0, 1) := by decide +kernel
theorem dX10_acted_46 : decode cX10_acted 46 = .ok (.dup, 1) := by decide +kernel
theorem dX10_acted_47 : decode cX10_acted 47 = .ok (.getfield 38, 3) := by decide +kernel
theorem dX10_acted_50 : decode cX10_acted 50 = .ok (.iconst 1, 1) := by decide +kernel
theorem dX10_acted_51 : decode cX10_acted 51 = .ok (.isub, 1) := by decide +kernel
theorem dX10_acted_52 : decode cX10_acted 52 = .ok (.putfield 38, 3) := by decide +kernel
theorem dX10_acted_55 : decode cX10_acted 55 = .ok (.iconst 0, 1) := by decide +kernel
theorem dX10_acted_56 : decode cX10_acted 56 = .ok (.istore_n 2, 1) := by decide +kernel
theorem dX10_acted_57 : decode cX10_acted 57 = .ok (.iload_n 2, 1) := by decide +kernel
theorem dX10_acted_58 : decode cX10_acted 58 = .ok (.sipush 213, 3) := by decide +kernel
theorem dX10_acted_61 : decode cX10_acted 61 = .ok (.if_icmp .ge 30, 3) := by decide +kernel
theorem dX10_acted_64 : decode cX10_acted 64 = .ok (.aload_n 0, 1) := by decide +kernel
theorem dX10_acted_65 : decode cX10_acted 65 = .ok (.getfield 16, 3) := by decide +kernel
theorem dX10_acted_68 : decode cX10_acted 68 = .ok (.sipush 213, 3) := by decide +kernel
theorem dX10_acted_71 : decode cX10_acted 71 = .ok (.aload_n 0, 1) := by decide +kernel
theorem dX10_acted_72 : decode cX10_acted 72 = .ok (.getfield 38, 3) := by decide +kernel
theorem dX10_acted_75 : decode cX10_acted 75 = .ok (.imul, 1) := by decide +kernel
theorem dX10_acted_76 : decode cX10_acted 76 = .ok (.iload_n 2, 1) := by decide +kernel
theorem dX10_acted_77 : decode cX10_acted 77 = .ok (.iadd, 1) := by decide +kernel
theorem dX10_acted_78 : decode cX10_acted 78 = .ok (.aload_n 0, 1) := by decide +kernel
theorem dX10_acted_79 : decode cX10_acted 79 = .ok (.getfield 13, 3) := by decide +kernel
theorem dX10_acted_82 : decode cX10_acted 82 = .ok (.iload_n 2, 1) := by decide +kernel
theorem dX10_acted_83 : decode cX10_acted 83 = .ok (.iaload, 1) := by decide +kernel
theorem dX10_acted_84 : decode cX10_acted 84 = .ok (.iastore, 1) := by decide +kernel
theorem dX10_acted_85 : decode cX10_acted 85 = .ok (.iinc 2 1, 3) := by decide +kernel
theorem dX10_acted_88 : decode cX10_acted 88 = .ok (.goto (-31), 3) := by decide +kernel
theorem dX10_acted_91 : decode cX10_acted 91 = .ok (.aload_n 0, 1) := by decide +kernel
theorem dX10_acted_92 : decode cX10_acted 92 = .ok (.dup, 1) := by decide +kernel
theorem dX10_acted_93 : decode cX10_acted 93 = .ok (.getfield 38, 3) := by decide +kernel
theorem dX10_acted_96 : decode cX10_acted 96 = .ok (.iconst 1, 1) := by decide +kernel
theorem dX10_acted_97 : decode cX10_acted 97 = .ok (.iadd, 1) := by decide +kernel
theorem dX10_acted_98 : decode cX10_acted 98 = .ok (.putfield 38, 3) := by decide +kernel
theorem dX10_acted_101 : decode cX10_acted 101 = .ok (.iload_n 1, 1) := by decide +kernel
theorem dX10_acted_102 : decode cX10_acted 102 = .ok (.ireturn, 1) := by decide +kernel
set_option maxRecDepth 20000 in
theorem ggX10_isClass_X10_in : GoodIn wsX10_isClass wsX10_in := goodIn_r _ [5] (by decide +kernel) (by decide +kernel)
set_option maxRecDepth 20000 in
theorem gX10_isClass_X10_in : GoodIn wsX10_isClass (va_wsS RX10 42 yX10_in wsX10_in) := goodIn_app (goodIn_of _ (by decide +kernel)) ggX10_isClass_X10_in
theorem dX10_isClass_0 : decode cX10_isClass 0 = .ok (.iload_n 1, 1) := by decide +kernel
theorem dX10_isClass_1 : decode cX10_isClass 1 = .ok (.iconst 0, 1) := by decide +kernel
theorem dX10_isClass_2 : decode cX10_isClass 2 = .ok (.aload_n 0, 1) := by decide +kernel
theorem dX10_isClass_3 : decode cX10_isClass 3 = .ok (.getfield 7, 3) := by decide +kernel
theorem dX10_isClass_6 : decode cX10_isClass 6 = .ok (.iconst 0, 1) := by decide +kernel
theorem dX10_isClass_7 : decode cX10_isClass 7 = .ok (.iaload, 1) := by decide +kernel
theorem dX10_isClass_8 : decode cX10_isClass 8 = .ok (.iconst 1, 1) := by decide +kernel
theorem dX10_isClass_9 : decode cX10_isClass 9 = .ok (.isub, 1) := by decide +kernel
theorem dX10_isClass_10 : decode cX10_isClass 10 = .ok (.invokestatic 42, 3) := by decide +kernel
theorem dX10_isClass_13 : decode cX10_isClass 13 = .ok (.ireturn, 1) := by decide +kernel
set_option maxRecDepth 20000 in
theorem ggX10_isHolder_X10_in : GoodIn wsX10_isHolder wsX10_in := goodIn_r _ [5] (by decide +kernel) (by decide +kernel)
set_option maxRecDepth 20000 in
theorem gX10_isHolder_X10_in : GoodIn wsX10_isHolder (va_wsS RX10 42 yX10_in wsX10_in) := goodIn_app (goodIn_of _ (by decide +kernel)) ggX10_isHolder_X10_in
theorem dX10_isHolder_0 : decode cX10_isHolder 0 = .ok (.iload_n 1, 1) := by decide +kernel
theorem dX10_isHolder_1 : decode cX10_isHolder 1 = .ok (.iconst 0, 1) := by decide +kernel
theorem dX10_isHolder_2 : decode cX10_isHolder 2 = .ok (.aload_n 0, 1) := by decide +kernel
theorem dX10_isHolder_3 : decode cX10_isHolder 3 = .ok (.getfield 7, 3) := by decide +kernel
theorem dX10_isHolder_6 : decode cX10_isHolder 6 = .ok (.iconst 1, 1) := by decide +kernel
theorem dX10_isHolder_7 : decode cX10_isHolder 7 = .ok (.iaload, 1) := by decide +kernel
theorem dX10_isHolder_8 : decode cX10_isHolder 8 = .ok (.iconst 1, 1) := by decide +kernel
theorem dX10_isHolder_9 : decode cX10_isHolder 9 = .ok (.isub, 1) := by decide +kernel
theorem dX10_isHolder_10 : decode cX10_isHolder 10 = .ok (.invokestatic 42, 3) := by decide +kernel
theorem dX10_isHolder_13 : decode cX10_isHolder 13 = .ok (.ireturn, 1) := by decide +kernel
set_option maxRecDepth 20000 in
theorem ggX10_isCertificate_X10_in : GoodIn wsX10_isCertificate wsX10_in := goodIn_r _ [4] (by decide +kernel) (by decide +kernel)
set_option maxRecDepth 20000 in
theorem gX10_isCertificate_X10_in : GoodIn wsX10_isCertificate (va_wsS RX10 42 yX10_in wsX10_in) := goodIn_app (goodIn_of _ (by decide +kernel)) ggX10_isCertificate_X10_in
set_option maxRecDepth 20000 in
theorem ggX10_isCertificate_X10_ofCertificate : GoodIn wsX10_isCertificate wsX10_ofCertificate := goodIn_r _ [8, 9, 10, 11, 12, 13, 14, 15, 16, 17, 18, 19, 20, 21, 22, 23, 24] (by decide +kernel) (by decide +kernel)
set_option maxRecDepth 20000 in
theorem gX10_isCertificate_X10_ofCertificate : GoodIn wsX10_isCertificate (wsV RX10 46 RX10 yX10_ofCertificate wsX10_ofCertificate) := goodIn_app (goodIn_of _ (by decide +kernel)) ggX10_isCertificate_X10_ofCertificate
theorem dX10_isCertificate_0 : decode cX10_isCertificate 0 = .ok (.iload_n 1, 1) := by decide +kernel
theorem dX10_isCertificate_1 : decode cX10_isCertificate 1 = .ok (.iconst 0, 1) := by decide +kernel
theorem dX10_isCertificate_2 : decode cX10_isCertificate 2 = .ok (.bipush 23, 2) := by decide +kernel
theorem dX10_isCertificate_4 : decode cX10_isCertificate 4 = .ok (.invokestatic 42, 3) := by decide +kernel
theorem dX10_isCertificate_7 : decode cX10_isCertificate 7 = .ok (.ifCond .eq 16, 3) := by decide +kernel
theorem dX10_isCertificate_10 : decode cX10_isCertificate 10 = .ok (.aload_n 0, 1) := by decide +kernel
theorem dX10_isCertificate_11 : decode cX10_isCertificate 11 = .ok (.iload_n 1, 1) := by decide +kernel
theorem dX10_isCertificate_12 : decode cX10_isCertificate 12 = .ok (.iconst 0, 1) := by decide +kernel
theorem dX10_isCertificate_13 : decode cX10_isCertificate 13 = .ok (.invokevirtual 46, 3) := by decide +kernel
theorem dX10_isCertificate_16 : decode cX10_isCertificate 16 = .ok (.ifCond .le 7, 3) := by decide +kernel
theorem dX10_isCertificate_19 : decode cX10_isCertificate 19 = .ok (.iconst 1, 1) := by decide +kernel
theorem dX10_isCertificate_20 : decode cX10_isCertificate 20 = .ok (.goto 4, 3) := by decide +kernel
theorem dX10_isCertificate_23 : decode cX10_isCertificate 23 = .ok (.iconst 0, 1) := by decide +kernel
theorem dX10_isCertificate_24 : decode cX10_isCertificate 24 = .ok (.ireturn, 1) := by decide +kernel
set_option maxRecDepth 20000 in
theorem ggX10_isGrant_X10_in : GoodIn wsX10_isGrant wsX10_in := goodIn_r _ [5] (by decide +kernel) (by decide +kernel)
set_option maxRecDepth 20000 in
theorem gX10_isGrant_X10_in : GoodIn wsX10_isGrant (va_wsS RX10 42 yX10_in wsX10_in) := goodIn_app (goodIn_of _ (by decide +kernel)) ggX10_isGrant_X10_in
theorem dX10_isGrant_0 : decode cX10_isGrant 0 = .ok (.iload_n 1, 1) := by decide +kernel
theorem dX10_isGrant_1 : decode cX10_isGrant 1 = .ok (.iconst 0, 1) := by decide +kernel
theorem dX10_isGrant_2 : decode cX10_isGrant 2 = .ok (.aload_n 0, 1) := by decide +kernel
theorem dX10_isGrant_3 : decode cX10_isGrant 3 = .ok (.getfield 7, 3) := by decide +kernel
theorem dX10_isGrant_6 : decode cX10_isGrant 6 = .ok (.iconst 2, 1) := by decide +kernel
theorem dX10_isGrant_7 : decode cX10_isGrant 7 = .ok (.iaload, 1) := by decide +kernel
theorem dX10_isGrant_8 : decode cX10_isGrant 8 = .ok (.iconst 1, 1) := by decide +kernel
theorem dX10_isGrant_9 : decode cX10_isGrant 9 = .ok (.isub, 1) := by decide +kernel
theorem dX10_isGrant_10 : decode cX10_isGrant 10 = .ok (.invokestatic 42, 3) := by decide +kernel
theorem dX10_isGrant_13 : decode cX10_isGrant 13 = .ok (.ireturn, 1) := by decide +kernel
theorem dX10_isRound_0 : decode cX10_isRound 0 = .ok (.aload_n 0, 1) := by decide +kernel
theorem dX10_isRound_1 : decode cX10_isRound 1 = .ok (.getfield 7, 3) := by decide +kernel
theorem dX10_isRound_4 : decode cX10_isRound 4 = .ok (.bipush 8, 2) := by decide +kernel
theorem dX10_isRound_6 : decode cX10_isRound 6 = .ok (.iaload, 1) := by decide +kernel
theorem dX10_isRound_7 : decode cX10_isRound 7 = .ok (.iconst 1, 1) := by decide +kernel
theorem dX10_isRound_8 : decode cX10_isRound 8 = .ok (.if_icmp .ne 7, 3) := by decide +kernel
theorem dX10_isRound_11 : decode cX10_isRound 11 = .ok (.iconst 1, 1) := by decide +kernel
theorem dX10_isRound_12 : decode cX10_isRound 12 = .ok (.goto 4, 3) := by decide +kernel
theorem dX10_isRound_15 : decode cX10_isRound 15 = .ok (.iconst 0, 1) := by decide +kernel
theorem dX10_isRound_16 : decode cX10_isRound 16 = .ok (.ireturn, 1) := by decide +kernel
theorem dX10_ofClass_0 : decode cX10_ofClass 0 = .ok (.aload_n 0, 1) := by decide +kernel
theorem dX10_ofClass_1 : decode cX10_ofClass 1 = .ok (.getfield 7, 3) := by decide +kernel
theorem dX10_ofClass_4 : decode cX10_ofClass 4 = .ok (.bipush 28, 2) := by decide +kernel
theorem dX10_ofClass_6 : decode cX10_ofClass 6 = .ok (.iconst 5, 1) := by decide +kernel
theorem dX10_ofClass_7 : decode cX10_ofClass 7 = .ok (.iload_n 1, 1) := by decide +kernel
theorem dX10_ofClass_8 : decode cX10_ofClass 8 = .ok (.imul, 1) := by decide +kernel
theorem dX10_ofClass_9 : decode cX10_ofClass 9 = .ok (.iadd, 1) := by decide +kernel
theorem dX10_ofClass_10 : decode cX10_ofClass 10 = .ok (.iload_n 2, 1) := by decide +kernel
theorem dX10_ofClass_11 : decode cX10_ofClass 11 = .ok (.iadd, 1) := by decide +kernel
theorem dX10_ofClass_12 : decode cX10_ofClass 12 = .ok (.iaload, 1) := by decide +kernel
theorem dX10_ofClass_13 : decode cX10_ofClass 13 = .ok (.ireturn, 1) := by decide +kernel
theorem dX10_ofCertificate_0 : decode cX10_ofCertificate 0 = .ok (.aload_n 0, 1) := by decide +kernel
theorem dX10_ofCertificate_1 : decode cX10_ofCertificate 1 = .ok (.getfield 7, 3) := by decide +kernel
theorem dX10_ofCertificate_4 : decode cX10_ofCertificate 4 = .ok (.bipush 61, 2) := by decide +kernel
theorem dX10_ofCertificate_6 : decode cX10_ofCertificate 6 = .ok (.iconst 4, 1) := by decide +kernel
theorem dX10_ofCertificate_7 : decode cX10_ofCertificate 7 = .ok (.iload_n 1, 1) := by decide +kernel
theorem dX10_ofCertificate_8 : decode cX10_ofCertificate 8 = .ok (.imul, 1) := by decide +kernel
theorem dX10_ofCertificate_9 : decode cX10_ofCertificate 9 = .ok (.iadd, 1) := by decide +kernel
theorem dX10_ofCertificate_10 : decode cX10_ofCertificate 10 = .ok (.iload_n 2, 1) := by decide +kernel
theorem dX10_ofCertificate_11 : decode cX10_ofCertificate 11 = .ok (.iadd, 1) := by decide +kernel
theorem dX10_ofCertificate_12 : decode cX10_ofCertificate 12 = .ok (.iaload, 1) := by decide +kernel
theorem dX10_ofCertificate_13 : decode cX10_ofCertificate 13 = .ok (.ireturn, 1) := by decide +kernel
theorem dX10_ofGrant_0 : decode cX10_ofGrant 0 = .ok (.aload_n 0, 1) := by decide +kernel
theorem dX10_ofGrant_1 : decode cX10_ofGrant 1 = .ok (.getfield 7, 3) := by decide +kernel
theorem dX10_ofGrant_4 : decode cX10_ofGrant 4 = .ok (.sipush 157, 3) := by decide +kernel
theorem dX10_ofGrant_7 : decode cX10_ofGrant 7 = .ok (.bipush 7, 2) := by decide +kernel
theorem dX10_ofGrant_9 : decode cX10_ofGrant 9 = .ok (.iload_n 1, 1) := by decide +kernel
theorem dX10_ofGrant_10 : decode cX10_ofGrant 10 = .ok (.imul, 1) := by decide +kernel
theorem dX10_ofGrant_11 : decode cX10_ofGrant 11 = .ok (.iadd, 1) := by decide +kernel
theorem dX10_ofGrant_12 : decode cX10_ofGrant 12 = .ok (.iload_n 2, 1) := by decide +kernel
theorem dX10_ofGrant_13 : decode cX10_ofGrant 13 = .ok (.iadd, 1) := by decide +kernel
theorem dX10_ofGrant_14 : decode cX10_ofGrant 14 = .ok (.iaload, 1) := by decide +kernel
theorem dX10_ofGrant_15 : decode cX10_ofGrant 15 = .ok (.ireturn, 1) := by decide +kernel
theorem dX10_hasLeft_0 : decode cX10_hasLeft 0 = .ok (.aload_n 0, 1) := by decide +kernel
theorem dX10_hasLeft_1 : decode cX10_hasLeft 1 = .ok (.getfield 7, 3) := by decide +kernel
theorem dX10_hasLeft_4 : decode cX10_hasLeft 4 = .ok (.bipush 53, 2) := by decide +kernel
theorem dX10_hasLeft_6 : decode cX10_hasLeft 6 = .ok (.iload_n 1, 1) := by decide +kernel
theorem dX10_hasLeft_7 : decode cX10_hasLeft 7 = .ok (.iadd, 1) := by decide +kernel
theorem dX10_hasLeft_8 : decode cX10_hasLeft 8 = .ok (.iaload, 1) := by decide +kernel
theorem dX10_hasLeft_9 : decode cX10_hasLeft 9 = .ok (.ifCond .le 7, 3) := by decide +kernel
theorem dX10_hasLeft_12 : decode cX10_hasLeft 12 = .ok (.iconst 1, 1) := by decide +kernel
theorem dX10_hasLeft_13 : decode cX10_hasLeft 13 = .ok (.goto 4, 3) := by decide +kernel
theorem dX10_hasLeft_16 : decode cX10_hasLeft 16 = .ok (.iconst 0, 1) := by decide +kernel
theorem dX10_hasLeft_17 : decode cX10_hasLeft 17 = .ok (.ireturn, 1) := by decide +kernel
set_option maxRecDepth 20000 in
theorem ggX10_sharesOf_X10_ofCertificate : GoodIn wsX10_sharesOf wsX10_ofCertificate := goodIn_r _ [5, 6, 7, 8, 9, 10, 11, 12, 13, 14, 15, 16, 17, 18, 19, 20, 21] (by decide +kernel) (by decide +kernel)
set_option maxRecDepth 20000 in
theorem gX10_sharesOf_X10_ofCertificate : GoodIn wsX10_sharesOf (wsV RX10 46 RX10 yX10_ofCertificate wsX10_ofCertificate) := goodIn_app (goodIn_of _ (by decide +kernel)) ggX10_sharesOf_X10_ofCertificate
theorem dX10_sharesOf_0 : decode cX10_sharesOf 0 = .ok (.iconst 0, 1) := by decide +kernel
theorem dX10_sharesOf_1 : decode cX10_sharesOf 1 = .ok (.istore_n 3, 1) := by decide +kernel
theorem dX10_sharesOf_2 : decode cX10_sharesOf 2 = .ok (.iconst 0, 1) := by decide +kernel
theorem dX10_sharesOf_3 : decode cX10_sharesOf 3 = .ok (.istore 4, 2) := by decide +kernel
theorem dX10_sharesOf_5 : decode cX10_sharesOf 5 = .ok (.iload 4, 2) := by decide +kernel
theorem dX10_sharesOf_7 : decode cX10_sharesOf 7 = .ok (.bipush 24, 2) := by decide +kernel
theorem dX10_sharesOf_9 : decode cX10_sharesOf 9 = .ok (.if_icmp .ge 73, 3) := by decide +kernel
theorem dX10_sharesOf_12 : decode cX10_sharesOf 12 = .ok (.aload_n 0, 1) := by decide +kernel
theorem dX10_sharesOf_13 : decode cX10_sharesOf 13 = .ok (.iload 4, 2) := by decide +kernel
theorem dX10_sharesOf_15 : decode cX10_sharesOf 15 = .ok (.iconst 0, 1) := by decide +kernel
theorem dX10_sharesOf_16 : decode cX10_sharesOf 16 = .ok (.invokevirtual 46, 3) := by decide +kernel
theorem dX10_sharesOf_19 : decode cX10_sharesOf 19 = .ok (.ifCond .le 18, 3) := by decide +kernel
theorem dX10_sharesOf_22 : decode cX10_sharesOf 22 = .ok (.aload_n 0, 1) := by decide +kernel
theorem dX10_sharesOf_23 : decode cX10_sharesOf 23 = .ok (.iload 4, 2) := by decide +kernel
theorem dX10_sharesOf_25 : decode cX10_sharesOf 25 = .ok (.iconst 1, 1) := by decide +kernel
theorem dX10_sharesOf_26 : decode cX10_sharesOf 26 = .ok (.invokevirtual 46, 3) := by decide +kernel
theorem dX10_sharesOf_29 : decode cX10_sharesOf 29 = .ok (.iload_n 2, 1) := by decide +kernel
theorem dX10_sharesOf_30 : decode cX10_sharesOf 30 = .ok (.if_icmp .ne 7, 3) := by decide +kernel
theorem dX10_sharesOf_33 : decode cX10_sharesOf 33 = .ok (.iconst 1, 1) := by decide +kernel
theorem dX10_sharesOf_34 : decode cX10_sharesOf 34 = .ok (.goto 4, 3) := by decide +kernel
theorem dX10_sharesOf_37 : decode cX10_sharesOf 37 = .ok (.iconst 0, 1) := by decide +kernel
theorem dX10_sharesOf_38 : decode cX10_sharesOf 38 = .ok (.istore 5, 2) := by decide +kernel
theorem dX10_sharesOf_40 : decode cX10_sharesOf 40 = .ok (.iload_n 3, 1) := by decide +kernel
theorem dX10_sharesOf_41 : decode cX10_sharesOf 41 = .ok (.iload 5, 2) := by decide +kernel
theorem dX10_sharesOf_43 : decode cX10_sharesOf 43 = .ok (.ifCond .eq 30, 3) := by decide +kernel
theorem dX10_sharesOf_46 : decode cX10_sharesOf 46 = .ok (.iload_n 1, 1) := by decide +kernel
theorem dX10_sharesOf_47 : decode cX10_sharesOf 47 = .ok (.ifCond .lt 16, 3) := by decide +kernel
theorem dX10_sharesOf_50 : decode cX10_sharesOf 50 = .ok (.aload_n 0, 1) := by decide +kernel
theorem dX10_sharesOf_51 : decode cX10_sharesOf 51 = .ok (.iload 4, 2) := by decide +kernel
theorem dX10_sharesOf_53 : decode cX10_sharesOf 53 = .ok (.iconst 0, 1) := by decide +kernel
theorem dX10_sharesOf_54 : decode cX10_sharesOf 54 = .ok (.invokevirtual 46, 3) := by decide +kernel
theorem dX10_sharesOf_57 : decode cX10_sharesOf 57 = .ok (.iload_n 1, 1) := by decide +kernel
theorem dX10_sharesOf_58 : decode cX10_sharesOf 58 = .ok (.iconst 1, 1) := by decide +kernel
theorem dX10_sharesOf_59 : decode cX10_sharesOf 59 = .ok (.iadd, 1) := by decide +kernel
theorem dX10_sharesOf_60 : decode cX10_sharesOf 60 = .ok (.if_icmp .ne 13, 3) := by decide +kernel
theorem dX10_sharesOf_63 : decode cX10_sharesOf 63 = .ok (.aload_n 0, 1) := by decide +kernel
theorem dX10_sharesOf_64 : decode cX10_sharesOf 64 = .ok (.iload 4, 2) := by decide +kernel
theorem dX10_sharesOf_66 : decode cX10_sharesOf 66 = .ok (.iconst 2, 1) := by decide +kernel
theorem dX10_sharesOf_67 : decode cX10_sharesOf 67 = .ok (.invokevirtual 46, 3) := by decide +kernel
theorem dX10_sharesOf_70 : decode cX10_sharesOf 70 = .ok (.goto 4, 3) := by decide +kernel
theorem dX10_sharesOf_73 : decode cX10_sharesOf 73 = .ok (.iconst 0, 1) := by decide +kernel
theorem dX10_sharesOf_74 : decode cX10_sharesOf 74 = .ok (.iadd, 1) := by decide +kernel
theorem dX10_sharesOf_75 : decode cX10_sharesOf 75 = .ok (.istore_n 3, 1) := by decide +kernel
theorem dX10_sharesOf_76 : decode cX10_sharesOf 76 = .ok (.iinc 4 1, 3) := by decide +kernel
theorem dX10_sharesOf_79 : decode cX10_sharesOf 79 = .ok (.goto (-74), 3) := by decide +kernel
theorem dX10_sharesOf_82 : decode cX10_sharesOf 82 = .ok (.iload_n 3, 1) := by decide +kernel
theorem dX10_sharesOf_83 : decode cX10_sharesOf 83 = .ok (.ireturn, 1) := by decide +kernel
set_option maxRecDepth 20000 in
theorem ggX10_commonOf_X10_sharesOf : GoodIn wsX10_commonOf wsX10_sharesOf := goodIn_r _ [6, 7, 8, 9, 5, 10, 1, 15, 16, 17, 18, 19, 20, 21, 22, 23, 24, 25, 26, 27, 28, 29] (by decide +kernel) (by decide +kernel)
set_option maxRecDepth 20000 in
theorem gX10_commonOf_X10_sharesOf : GoodIn wsX10_commonOf (wsV RX10 50 RX10 yX10_sharesOf wsX10_sharesOf) := goodIn_app (goodIn_of _ (by decide +kernel)) ggX10_commonOf_X10_sharesOf
set_option maxRecDepth 20000 in
theorem ggX10_commonOf_X10_ofClass : GoodIn wsX10_commonOf wsX10_ofClass := goodIn_r _ [14, 1, 15, 16, 17, 18, 19, 20, 21, 22, 23, 24, 25, 26, 27, 28, 29] (by decide +kernel) (by decide +kernel)
set_option maxRecDepth 20000 in
theorem gX10_commonOf_X10_ofClass : GoodIn wsX10_commonOf (wsV RX10 53 RX10 yX10_ofClass wsX10_ofClass) := goodIn_app (goodIn_of _ (by decide +kernel)) ggX10_commonOf_X10_ofClass
theorem dX10_commonOf_0 : decode cX10_commonOf 0 = .ok (.iconst 0, 1) := by decide +kernel
theorem dX10_commonOf_1 : decode cX10_commonOf 1 = .ok (.istore_n 2, 1) := by decide +kernel
theorem dX10_commonOf_2 : decode cX10_commonOf 2 = .ok (.iconst 0, 1) := by decide +kernel
theorem dX10_commonOf_3 : decode cX10_commonOf 3 = .ok (.istore_n 3, 1) := by decide +kernel
theorem dX10_commonOf_4 : decode cX10_commonOf 4 = .ok (.iload_n 3, 1) := by decide +kernel
theorem dX10_commonOf_5 : decode cX10_commonOf 5 = .ok (.aload_n 0, 1) := by decide +kernel
theorem dX10_commonOf_6 : decode cX10_commonOf 6 = .ok (.getfield 7, 3) := by decide +kernel
theorem dX10_commonOf_9 : decode cX10_commonOf 9 = .ok (.iconst 0, 1) := by decide +kernel
theorem dX10_commonOf_10 : decode cX10_commonOf 10 = .ok (.iaload, 1) := by decide +kernel
theorem dX10_commonOf_11 : decode cX10_commonOf 11 = .ok (.if_icmp .ge 25, 3) := by decide +kernel
theorem dX10_commonOf_14 : decode cX10_commonOf 14 = .ok (.iload_n 2, 1) := by decide +kernel
theorem dX10_commonOf_15 : decode cX10_commonOf 15 = .ok (.aload_n 0, 1) := by decide +kernel
theorem dX10_commonOf_16 : decode cX10_commonOf 16 = .ok (.iload_n 1, 1) := by decide +kernel
theorem dX10_commonOf_17 : decode cX10_commonOf 17 = .ok (.iload_n 3, 1) := by decide +kernel
theorem dX10_commonOf_18 : decode cX10_commonOf 18 = .ok (.invokevirtual 50, 3) := by decide +kernel
theorem dX10_commonOf_21 : decode cX10_commonOf 21 = .ok (.aload_n 0, 1) := by decide +kernel
theorem dX10_commonOf_22 : decode cX10_commonOf 22 = .ok (.iload_n 3, 1) := by decide +kernel
theorem dX10_commonOf_23 : decode cX10_commonOf 23 = .ok (.iconst 4, 1) := by decide +kernel
theorem dX10_commonOf_24 : decode cX10_commonOf 24 = .ok (.invokevirtual 53, 3) := by decide +kernel
theorem dX10_commonOf_27 : decode cX10_commonOf 27 = .ok (.imul, 1) := by decide +kernel
theorem dX10_commonOf_28 : decode cX10_commonOf 28 = .ok (.iadd, 1) := by decide +kernel
theorem dX10_commonOf_29 : decode cX10_commonOf 29 = .ok (.istore_n 2, 1) := by decide +kernel
theorem dX10_commonOf_30 : decode cX10_commonOf 30 = .ok (.iinc 3 1, 3) := by decide +kernel
theorem dX10_commonOf_33 : decode cX10_commonOf 33 = .ok (.goto (-29), 3) := by decide +kernel
theorem dX10_commonOf_36 : decode cX10_commonOf 36 = .ok (.iload_n 2, 1) := by decide +kernel
theorem dX10_commonOf_37 : decode cX10_commonOf 37 = .ok (.ireturn, 1) := by decide +kernel
set_option maxRecDepth 20000 in
theorem ggX10_certificates_X10_ofCertificate : GoodIn wsX10_certificates wsX10_ofCertificate := goodIn_r _ [5, 6, 7, 8, 9, 10, 11, 12, 13, 14, 15, 16, 17, 18, 19, 20, 21] (by decide +kernel) (by decide +kernel)
set_option maxRecDepth 20000 in
theorem gX10_certificates_X10_ofCertificate : GoodIn wsX10_certificates (wsV RX10 46 RX10 yX10_ofCertificate wsX10_ofCertificate) := goodIn_app (goodIn_of _ (by decide +kernel)) ggX10_certificates_X10_ofCertificate
theorem dX10_certificates_0 : decode cX10_certificates 0 = .ok (.iconst 0, 1) := by decide +kernel
theorem dX10_certificates_1 : decode cX10_certificates 1 = .ok (.istore_n 1, 1) := by decide +kernel
theorem dX10_certificates_2 : decode cX10_certificates 2 = .ok (.iconst 0, 1) := by decide +kernel
theorem dX10_certificates_3 : decode cX10_certificates 3 = .ok (.istore_n 2, 1) := by decide +kernel
theorem dX10_certificates_4 : decode cX10_certificates 4 = .ok (.iload_n 2, 1) := by decide +kernel
theorem dX10_certificates_5 : decode cX10_certificates 5 = .ok (.bipush 24, 2) := by decide +kernel
theorem dX10_certificates_7 : decode cX10_certificates 7 = .ok (.if_icmp .ge 26, 3) := by decide +kernel
theorem dX10_certificates_10 : decode cX10_certificates 10 = .ok (.iload_n 1, 1) := by decide +kernel
theorem dX10_certificates_11 : decode cX10_certificates 11 = .ok (.aload_n 0, 1) := by decide +kernel
theorem dX10_certificates_12 : decode cX10_certificates 12 = .ok (.iload_n 2, 1) := by decide +kernel
theorem dX10_certificates_13 : decode cX10_certificates 13 = .ok (.iconst 0, 1) := by decide +kernel
theorem dX10_certificates_14 : decode cX10_certificates 14 = .ok (.invokevirtual 46, 3) := by decide +kernel
theorem dX10_certificates_17 : decode cX10_certificates 17 = .ok (.ifCond .le 7, 3) := by decide +kernel
theorem dX10_certificates_20 : decode cX10_certificates 20 = .ok (.iconst 1, 1) := by decide +kernel
theorem dX10_certificates_21 : decode cX10_certificates 21 = .ok (.goto 4, 3) := by decide +kernel
theorem dX10_certificates_24 : decode cX10_certificates 24 = .ok (.iconst 0, 1) := by decide +kernel
theorem dX10_certificates_25 : decode cX10_certificates 25 = .ok (.iadd, 1) := by decide +kernel
theorem dX10_certificates_26 : decode cX10_certificates 26 = .ok (.istore_n 1, 1) := by decide +kernel
theorem dX10_certificates_27 : decode cX10_certificates 27 = .ok (.iinc 2 1, 3) := by decide +kernel
theorem dX10_certificates_30 : decode cX10_certificates 30 = .ok (.goto (-26), 3) := by decide +kernel
theorem dX10_certificates_33 : decode cX10_certificates 33 = .ok (.iload_n 1, 1) := by decide +kernel
theorem dX10_certificates_34 : decode cX10_certificates 34 = .ok (.ireturn, 1) := by decide +kernel
set_option maxRecDepth 20000 in
theorem ggX10_makes_X10_ofCertificate : GoodIn wsX10_makes wsX10_ofCertificate := goodIn_r _ [6, 1, 7, 8, 9, 10, 11, 12, 13, 14, 15, 16, 17, 18, 19, 20, 21] (by decide +kernel) (by decide +kernel)
set_option maxRecDepth 20000 in
theorem gX10_makes_X10_ofCertificate : GoodIn wsX10_makes (wsV RX10 46 RX10 yX10_ofCertificate wsX10_ofCertificate) := goodIn_app (goodIn_of _ (by decide +kernel)) ggX10_makes_X10_ofCertificate
theorem dX10_makes_0 : decode cX10_makes 0 = .ok (.iconst (-1), 1) := by decide +kernel
theorem dX10_makes_1 : decode cX10_makes 1 = .ok (.istore 4, 2) := by decide +kernel
theorem dX10_makes_3 : decode cX10_makes 3 = .ok (.bipush 23, 2) := by decide +kernel
theorem dX10_makes_5 : decode cX10_makes 5 = .ok (.istore 5, 2) := by decide +kernel
theorem dX10_makes_7 : decode cX10_makes 7 = .ok (.iload 5, 2) := by decide +kernel
theorem dX10_makes_9 : decode cX10_makes 9 = .ok (.ifCond .lt 28, 3) := by decide +kernel
theorem dX10_makes_12 : decode cX10_makes 12 = .ok (.aload_n 0, 1) := by decide +kernel
theorem dX10_makes_13 : decode cX10_makes 13 = .ok (.iload 5, 2) := by decide +kernel
theorem dX10_makes_15 : decode cX10_makes 15 = .ok (.iconst 0, 1) := by decide +kernel
theorem dX10_makes_16 : decode cX10_makes 16 = .ok (.invokevirtual 46, 3) := by decide +kernel
theorem dX10_makes_19 : decode cX10_makes 19 = .ok (.ifCond .le 8, 3) := by decide +kernel
theorem dX10_makes_22 : decode cX10_makes 22 = .ok (.iload 4, 2) := by decide +kernel
theorem dX10_makes_24 : decode cX10_makes 24 = .ok (.goto 5, 3) := by decide +kernel
theorem dX10_makes_27 : decode cX10_makes 27 = .ok (.iload 5, 2) := by decide +kernel
theorem dX10_makes_29 : decode cX10_makes 29 = .ok (.istore 4, 2) := by decide +kernel
theorem dX10_makes_31 : decode cX10_makes 31 = .ok (.iinc 5 (-1), 3) := by decide +kernel
theorem dX10_makes_34 : decode cX10_makes 34 = .ok (.goto (-27), 3) := by decide +kernel
theorem dX10_makes_37 : decode cX10_makes 37 = .ok (.bipush 61, 2) := by decide +kernel
theorem dX10_makes_39 : decode cX10_makes 39 = .ok (.iconst 4, 1) := by decide +kernel
theorem dX10_makes_40 : decode cX10_makes 40 = .ok (.iload 4, 2) := by decide +kernel
theorem dX10_makes_42 : decode cX10_makes 42 = .ok (.imul, 1) := by decide +kernel
theorem dX10_makes_43 : decode cX10_makes 43 = .ok (.iadd, 1) := by decide +kernel
theorem dX10_makes_44 : decode cX10_makes 44 = .ok (.istore 5, 2) := by decide +kernel
theorem dX10_makes_46 : decode cX10_makes 46 = .ok (.aload_n 0, 1) := by decide +kernel
theorem dX10_makes_47 : decode cX10_makes 47 = .ok (.getfield 7, 3) := by decide +kernel
theorem dX10_makes_50 : decode cX10_makes 50 = .ok (.iload 5, 2) := by decide +kernel
theorem dX10_makes_52 : decode cX10_makes 52 = .ok (.iconst 0, 1) := by decide +kernel
theorem dX10_makes_53 : decode cX10_makes 53 = .ok (.iadd, 1) := by decide +kernel
theorem dX10_makes_54 : decode cX10_makes 54 = .ok (.iload_n 1, 1) := by decide +kernel
theorem dX10_makes_55 : decode cX10_makes 55 = .ok (.iconst 1, 1) := by decide +kernel
theorem dX10_makes_56 : decode cX10_makes 56 = .ok (.iadd, 1) := by decide +kernel
theorem dX10_makes_57 : decode cX10_makes 57 = .ok (.iastore, 1) := by decide +kernel
theorem dX10_makes_58 : decode cX10_makes 58 = .ok (.aload_n 0, 1) := by decide +kernel
theorem dX10_makes_59 : decode cX10_makes 59 = .ok (.getfield 7, 3) := by decide +kernel
theorem dX10_makes_62 : decode cX10_makes 62 = .ok (.iload 5, 2) := by decide +kernel
theorem dX10_makes_64 : decode cX10_makes 64 = .ok (.iconst 1, 1) := by decide +kernel
theorem dX10_makes_65 : decode cX10_makes 65 = .ok (.iadd, 1) := by decide +kernel
theorem dX10_makes_66 : decode cX10_makes 66 = .ok (.iload_n 2, 1) := by decide +kernel
theorem dX10_makes_67 : decode cX10_makes 67 = .ok (.iastore, 1) := by decide +kernel
theorem dX10_makes_68 : decode cX10_makes 68 = .ok (.aload_n 0, 1) := by decide +kernel
theorem dX10_makes_69 : decode cX10_makes 69 = .ok (.getfield 7, 3) := by decide +kernel
theorem dX10_makes_72 : decode cX10_makes 72 = .ok (.iload 5, 2) := by decide +kernel
theorem dX10_makes_74 : decode cX10_makes 74 = .ok (.iconst 2, 1) := by decide +kernel
theorem dX10_makes_75 : decode cX10_makes 75 = .ok (.iadd, 1) := by decide +kernel
theorem dX10_makes_76 : decode cX10_makes 76 = .ok (.iload_n 3, 1) := by decide +kernel
theorem dX10_makes_77 : decode cX10_makes 77 = .ok (.iastore, 1) := by decide +kernel
theorem dX10_makes_78 : decode cX10_makes 78 = .ok (.aload_n 0, 1) := by decide +kernel
theorem dX10_makes_79 : decode cX10_makes 79 = .ok (.getfield 7, 3) := by decide +kernel
theorem dX10_makes_82 : decode cX10_makes 82 = .ok (.iload 5, 2) := by decide +kernel
theorem dX10_makes_84 : decode cX10_makes 84 = .ok (.iconst 3, 1) := by decide +kernel
theorem dX10_makes_85 : decode cX10_makes 85 = .ok (.iadd, 1) := by decide +kernel
theorem dX10_makes_86 : decode cX10_makes 86 = .ok (.aload_n 0, 1) := by decide +kernel
theorem dX10_makes_87 : decode cX10_makes 87 = .ok (.getfield 7, 3) := by decide +kernel
theorem dX10_makes_90 : decode cX10_makes 90 = .ok (.iconst 3, 1) := by decide +kernel
theorem dX10_makes_91 : decode cX10_makes 91 = .ok (.iaload, 1) := by decide +kernel
theorem dX10_makes_92 : decode cX10_makes 92 = .ok (.iastore, 1) := by decide +kernel
theorem dX10_makes_93 : decode cX10_makes 93 = .ok (.iload 4, 2) := by decide +kernel
theorem dX10_makes_95 : decode cX10_makes 95 = .ok (.ireturn, 1) := by decide +kernel
theorem dX10_lessens_0 : decode cX10_lessens 0 = .ok (.bipush 61, 2) := by decide +kernel
theorem dX10_lessens_2 : decode cX10_lessens 2 = .ok (.iconst 4, 1) := by decide +kernel
theorem dX10_lessens_3 : decode cX10_lessens 3 = .ok (.iload_n 1, 1) := by decide +kernel
theorem dX10_lessens_4 : decode cX10_lessens 4 = .ok (.imul, 1) := by decide +kernel
theorem dX10_lessens_5 : decode cX10_lessens 5 = .ok (.iadd, 1) := by decide +kernel
theorem dX10_lessens_6 : decode cX10_lessens 6 = .ok (.istore_n 3, 1) := by decide +kernel
theorem dX10_lessens_7 : decode cX10_lessens 7 = .ok (.aload_n 0, 1) := by decide +kernel
theorem dX10_lessens_8 : decode cX10_lessens 8 = .ok (.getfield 7, 3) := by decide +kernel
theorem dX10_lessens_11 : decode cX10_lessens 11 = .ok (.iload_n 3, 1) := by decide +kernel
theorem dX10_lessens_12 : decode cX10_lessens 12 = .ok (.iconst 2, 1) := by decide +kernel
theorem dX10_lessens_13 : decode cX10_lessens 13 = .ok (.iadd, 1) := by decide +kernel
theorem dX10_lessens_14 : decode cX10_lessens 14 = .ok (.dup2, 1) := by decide +kernel
theorem dX10_lessens_15 : decode cX10_lessens 15 = .ok (.iaload, 1) := by decide +kernel
theorem dX10_lessens_16 : decode cX10_lessens 16 = .ok (.iload_n 2, 1) := by decide +kernel
theorem dX10_lessens_17 : decode cX10_lessens 17 = .ok (.isub, 1) := by decide +kernel
theorem dX10_lessens_18 : decode cX10_lessens 18 = .ok (.iastore, 1) := by decide +kernel
theorem dX10_lessens_19 : decode cX10_lessens 19 = .ok (.aload_n 0, 1) := by decide +kernel
theorem dX10_lessens_20 : decode cX10_lessens 20 = .ok (.getfield 7, 3) := by decide +kernel
theorem dX10_lessens_23 : decode cX10_lessens 23 = .ok (.iload_n 3, 1) := by decide +kernel
theorem dX10_lessens_24 : decode cX10_lessens 24 = .ok (.iconst 2, 1) := by decide +kernel
theorem dX10_lessens_25 : decode cX10_lessens 25 = .ok (.iadd, 1) := by decide +kernel
theorem dX10_lessens_26 : decode cX10_lessens 26 = .ok (.iaload, 1) := by decide +kernel
theorem dX10_lessens_27 : decode cX10_lessens 27 = .ok (.ifCond .ne 28, 3) := by decide +kernel
theorem dX10_lessens_30 : decode cX10_lessens 30 = .ok (.iconst 0, 1) := by decide +kernel
theorem dX10_lessens_31 : decode cX10_lessens 31 = .ok (.istore 4, 2) := by decide +kernel
theorem dX10_lessens_33 : decode cX10_lessens 33 = .ok (.iload 4, 2) := by decide +kernel
theorem dX10_lessens_35 : decode cX10_lessens 35 = .ok (.iconst 4, 1) := by decide +kernel
theorem dX10_lessens_36 : decode cX10_lessens 36 = .ok (.if_icmp .ge 19, 3) := by decide +kernel
theorem dX10_lessens_39 : decode cX10_lessens 39 = .ok (.aload_n 0, 1) := by decide +kernel
theorem dX10_lessens_40 : decode cX10_lessens 40 = .ok (.getfield 7, 3) := by decide +kernel
theorem dX10_lessens_43 : decode cX10_lessens 43 = .ok (.iload_n 3, 1) := by decide +kernel
theorem dX10_lessens_44 : decode cX10_lessens 44 = .ok (.iload 4, 2) := by decide +kernel
theorem dX10_lessens_46 : decode cX10_lessens 46 = .ok (.iadd, 1) := by decide +kernel
theorem dX10_lessens_47 : decode cX10_lessens 47 = .ok (.iconst 0, 1) := by decide +kernel
theorem dX10_lessens_48 : decode cX10_lessens 48 = .ok (.iastore, 1) := by decide +kernel
theorem dX10_lessens_49 : decode cX10_lessens 49 = .ok (.iinc 4 1, 3) := by decide +kernel
theorem dX10_lessens_52 : decode cX10_lessens 52 = .ok (.goto (-19), 3) := by decide +kernel
theorem dX10_lessens_55 : decode cX10_lessens 55 = .ok (.return_, 1) := by decide +kernel
set_option maxRecDepth 20000 in
theorem ggX10_vested_X10_ofGrant : GoodIn wsX10_vested wsX10_ofGrant := goodIn_r _ [6, 1, 11, 12, 13, 14, 15, 16, 17, 18, 19, 20, 21, 22, 23, 24, 25] (by decide +kernel) (by decide +kernel)
set_option maxRecDepth 20000 in
theorem gX10_vested_X10_ofGrant : GoodIn wsX10_vested (wsV RX10 56 RX10 yX10_ofGrant wsX10_ofGrant) := goodIn_app (goodIn_of _ (by decide +kernel)) ggX10_vested_X10_ofGrant
set_option maxRecDepth 20000 in
theorem ggX10_vested_X10_hasLeft : GoodIn wsX10_vested wsX10_hasLeft := goodIn_r _ [10, 1, 11, 12, 13, 14, 15, 16, 17, 18, 19, 20, 21, 22, 23, 24, 25] (by decide +kernel) (by decide +kernel)
set_option maxRecDepth 20000 in
theorem gX10_vested_X10_hasLeft : GoodIn wsX10_vested (wsV RX10 59 RX10 yX10_hasLeft wsX10_hasLeft) := goodIn_app (goodIn_of _ (by decide +kernel)) ggX10_vested_X10_hasLeft
theorem dX10_vested_0 : decode cX10_vested 0 = .ok (.aload_n 0, 1) := by decide +kernel
theorem dX10_vested_1 : decode cX10_vested 1 = .ok (.iload_n 1, 1) := by decide +kernel
theorem dX10_vested_2 : decode cX10_vested 2 = .ok (.iconst 0, 1) := by decide +kernel
theorem dX10_vested_3 : decode cX10_vested 3 = .ok (.invokevirtual 56, 3) := by decide +kernel
theorem dX10_vested_6 : decode cX10_vested 6 = .ok (.istore_n 2, 1) := by decide +kernel
theorem dX10_vested_7 : decode cX10_vested 7 = .ok (.aload_n 0, 1) := by decide +kernel
theorem dX10_vested_8 : decode cX10_vested 8 = .ok (.iload_n 2, 1) := by decide +kernel
theorem dX10_vested_9 : decode cX10_vested 9 = .ok (.invokevirtual 59, 3) := by decide +kernel
theorem dX10_vested_12 : decode cX10_vested 12 = .ok (.ifCond .eq 17, 3) := by decide +kernel
theorem dX10_vested_15 : decode cX10_vested 15 = .ok (.aload_n 0, 1) := by decide +kernel
theorem dX10_vested_16 : decode cX10_vested 16 = .ok (.getfield 7, 3) := by decide +kernel
theorem dX10_vested_19 : decode cX10_vested 19 = .ok (.bipush 53, 2) := by decide +kernel
theorem dX10_vested_21 : decode cX10_vested 21 = .ok (.iload_n 2, 1) := by decide +kernel
theorem dX10_vested_22 : decode cX10_vested 22 = .ok (.iadd, 1) := by decide +kernel
theorem dX10_vested_23 : decode cX10_vested 23 = .ok (.iaload, 1) := by decide +kernel
theorem dX10_vested_24 : decode cX10_vested 24 = .ok (.iconst 1, 1) := by decide +kernel
theorem dX10_vested_25 : decode cX10_vested 25 = .ok (.isub, 1) := by decide +kernel
theorem dX10_vested_26 : decode cX10_vested 26 = .ok (.goto 9, 3) := by decide +kernel
theorem dX10_vested_29 : decode cX10_vested 29 = .ok (.aload_n 0, 1) := by decide +kernel
theorem dX10_vested_30 : decode cX10_vested 30 = .ok (.getfield 7, 3) := by decide +kernel
theorem dX10_vested_33 : decode cX10_vested 33 = .ok (.iconst 3, 1) := by decide +kernel
theorem dX10_vested_34 : decode cX10_vested 34 = .ok (.iaload, 1) := by decide +kernel
theorem dX10_vested_35 : decode cX10_vested 35 = .ok (.istore_n 3, 1) := by decide +kernel
theorem dX10_vested_36 : decode cX10_vested 36 = .ok (.iload_n 3, 1) := by decide +kernel
theorem dX10_vested_37 : decode cX10_vested 37 = .ok (.aload_n 0, 1) := by decide +kernel
theorem dX10_vested_38 : decode cX10_vested 38 = .ok (.iload_n 1, 1) := by decide +kernel
theorem dX10_vested_39 : decode cX10_vested 39 = .ok (.bipush 6, 2) := by decide +kernel
theorem dX10_vested_41 : decode cX10_vested 41 = .ok (.invokevirtual 56, 3) := by decide +kernel
theorem dX10_vested_44 : decode cX10_vested 44 = .ok (.isub, 1) := by decide +kernel
theorem dX10_vested_45 : decode cX10_vested 45 = .ok (.istore 4, 2) := by decide +kernel
theorem dX10_vested_47 : decode cX10_vested 47 = .ok (.aload_n 0, 1) := by decide +kernel
theorem dX10_vested_48 : decode cX10_vested 48 = .ok (.iload_n 1, 1) := by decide +kernel
theorem dX10_vested_49 : decode cX10_vested 49 = .ok (.iconst 1, 1) := by decide +kernel
theorem dX10_vested_50 : decode cX10_vested 50 = .ok (.invokevirtual 56, 3) := by decide +kernel
theorem dX10_vested_53 : decode cX10_vested 53 = .ok (.istore 5, 2) := by decide +kernel
theorem dX10_vested_55 : decode cX10_vested 55 = .ok (.iload 4, 2) := by decide +kernel
theorem dX10_vested_57 : decode cX10_vested 57 = .ok (.aload_n 0, 1) := by decide +kernel
theorem dX10_vested_58 : decode cX10_vested 58 = .ok (.iload_n 1, 1) := by decide +kernel
theorem dX10_vested_59 : decode cX10_vested 59 = .ok (.iconst 3, 1) := by decide +kernel
theorem dX10_vested_60 : decode cX10_vested 60 = .ok (.invokevirtual 56, 3) := by decide +kernel
theorem dX10_vested_63 : decode cX10_vested 63 = .ok (.if_icmp .ge 7, 3) := by decide +kernel
theorem dX10_vested_66 : decode cX10_vested 66 = .ok (.iconst 0, 1) := by decide +kernel
theorem dX10_vested_67 : decode cX10_vested 67 = .ok (.goto 31, 3) := by decide +kernel
theorem dX10_vested_70 : decode cX10_vested 70 = .ok (.iload 4, 2) := by decide +kernel
theorem dX10_vested_72 : decode cX10_vested 72 = .ok (.aload_n 0, 1) := by decide +kernel
theorem dX10_vested_73 : decode cX10_vested 73 = .ok (.iload_n 1, 1) := by decide +kernel
theorem dX10_vested_74 : decode cX10_vested 74 = .ok (.iconst 4, 1) := by decide +kernel
theorem dX10_vested_75 : decode cX10_vested 75 = .ok (.invokevirtual 56, 3) := by decide +kernel
theorem dX10_vested_78 : decode cX10_vested 78 = .ok (.if_icmp .lt 8, 3) := by decide +kernel
theorem dX10_vested_81 : decode cX10_vested 81 = .ok (.iload 5, 2) := by decide +kernel
theorem dX10_vested_83 : decode cX10_vested 83 = .ok (.goto 15, 3) := by decide +kernel
theorem dX10_vested_86 : decode cX10_vested 86 = .ok (.iload 5, 2) := by decide +kernel
theorem dX10_vested_88 : decode cX10_vested 88 = .ok (.iload 4, 2) := by decide +kernel
theorem dX10_vested_90 : decode cX10_vested 90 = .ok (.imul, 1) := by decide +kernel
theorem dX10_vested_91 : decode cX10_vested 91 = .ok (.aload_n 0, 1) := by decide +kernel
theorem dX10_vested_92 : decode cX10_vested 92 = .ok (.iload_n 1, 1) := by decide +kernel
theorem dX10_vested_93 : decode cX10_vested 93 = .ok (.iconst 4, 1) := by decide +kernel
theorem dX10_vested_94 : decode cX10_vested 94 = .ok (.invokevirtual 56, 3) := by decide +kernel
theorem dX10_vested_97 : decode cX10_vested 97 = .ok (.idiv, 1) := by decide +kernel
theorem dX10_vested_98 : decode cX10_vested 98 = .ok (.ireturn, 1) := by decide +kernel
set_option maxRecDepth 20000 in
theorem ggX10_canBeTaken_X10_ofGrant : GoodIn wsX10_canBeTaken wsX10_ofGrant := goodIn_r _ [6, 1, 15, 16, 17, 18, 19, 20, 21, 22, 23, 24, 25, 26, 27, 28, 29] (by decide +kernel) (by decide +kernel)
set_option maxRecDepth 20000 in
theorem gX10_canBeTaken_X10_ofGrant : GoodIn wsX10_canBeTaken (wsV RX10 56 RX10 yX10_ofGrant wsX10_ofGrant) := goodIn_app (goodIn_of _ (by decide +kernel)) ggX10_canBeTaken_X10_ofGrant
set_option maxRecDepth 20000 in
theorem ggX10_canBeTaken_X10_hasLeft : GoodIn wsX10_canBeTaken wsX10_hasLeft := goodIn_r _ [10, 1, 15, 16, 17, 18, 19, 20, 21, 22, 23, 24, 25, 26, 27, 28, 29] (by decide +kernel) (by decide +kernel)
set_option maxRecDepth 20000 in
theorem gX10_canBeTaken_X10_hasLeft : GoodIn wsX10_canBeTaken (wsV RX10 59 RX10 yX10_hasLeft wsX10_hasLeft) := goodIn_app (goodIn_of _ (by decide +kernel)) ggX10_canBeTaken_X10_hasLeft
set_option maxRecDepth 20000 in
theorem ggX10_canBeTaken_X10_vested : GoodIn wsX10_canBeTaken wsX10_vested := goodIn_r _ [14, 1, 2, 3, 4, 5, 6, 7, 8, 9, 10, 15, 16, 17, 18, 19, 20, 21, 22, 23, 24, 25, 26, 27, 28, 29] (by decide +kernel) (by decide +kernel)
set_option maxRecDepth 20000 in
theorem gX10_canBeTaken_X10_vested : GoodIn wsX10_canBeTaken (wsV RX10 63 RX10 yX10_vested wsX10_vested) := goodIn_app (goodIn_of _ (by decide +kernel)) ggX10_canBeTaken_X10_vested
theorem dX10_canBeTaken_0 : decode cX10_canBeTaken 0 = .ok (.aload_n 0, 1) := by decide +kernel
theorem dX10_canBeTaken_1 : decode cX10_canBeTaken 1 = .ok (.iload_n 1, 1) := by decide +kernel
theorem dX10_canBeTaken_2 : decode cX10_canBeTaken 2 = .ok (.iconst 0, 1) := by decide +kernel
theorem dX10_canBeTaken_3 : decode cX10_canBeTaken 3 = .ok (.invokevirtual 56, 3) := by decide +kernel
theorem dX10_canBeTaken_6 : decode cX10_canBeTaken 6 = .ok (.istore_n 2, 1) := by decide +kernel
theorem dX10_canBeTaken_7 : decode cX10_canBeTaken 7 = .ok (.aload_n 0, 1) := by decide +kernel
theorem dX10_canBeTaken_8 : decode cX10_canBeTaken 8 = .ok (.iload_n 2, 1) := by decide +kernel
theorem dX10_canBeTaken_9 : decode cX10_canBeTaken 9 = .ok (.invokevirtual 59, 3) := by decide +kernel
theorem dX10_canBeTaken_12 : decode cX10_canBeTaken 12 = .ok (.ifCond .eq 29, 3) := by decide +kernel
theorem dX10_canBeTaken_15 : decode cX10_canBeTaken 15 = .ok (.aload_n 0, 1) := by decide +kernel
theorem dX10_canBeTaken_16 : decode cX10_canBeTaken 16 = .ok (.getfield 7, 3) := by decide +kernel
theorem dX10_canBeTaken_19 : decode cX10_canBeTaken 19 = .ok (.iconst 3, 1) := by decide +kernel
theorem dX10_canBeTaken_20 : decode cX10_canBeTaken 20 = .ok (.iaload, 1) := by decide +kernel
theorem dX10_canBeTaken_21 : decode cX10_canBeTaken 21 = .ok (.aload_n 0, 1) := by decide +kernel
theorem dX10_canBeTaken_22 : decode cX10_canBeTaken 22 = .ok (.getfield 7, 3) := by decide +kernel
theorem dX10_canBeTaken_25 : decode cX10_canBeTaken 25 = .ok (.bipush 53, 2) := by decide +kernel
theorem dX10_canBeTaken_27 : decode cX10_canBeTaken 27 = .ok (.iload_n 2, 1) := by decide +kernel
theorem dX10_canBeTaken_28 : decode cX10_canBeTaken 28 = .ok (.iadd, 1) := by decide +kernel
theorem dX10_canBeTaken_29 : decode cX10_canBeTaken 29 = .ok (.iaload, 1) := by decide +kernel
theorem dX10_canBeTaken_30 : decode cX10_canBeTaken 30 = .ok (.iconst 1, 1) := by decide +kernel
theorem dX10_canBeTaken_31 : decode cX10_canBeTaken 31 = .ok (.isub, 1) := by decide +kernel
theorem dX10_canBeTaken_32 : decode cX10_canBeTaken 32 = .ok (.isub, 1) := by decide +kernel
theorem dX10_canBeTaken_33 : decode cX10_canBeTaken 33 = .ok (.iconst 3, 1) := by decide +kernel
theorem dX10_canBeTaken_34 : decode cX10_canBeTaken 34 = .ok (.if_icmp .le 7, 3) := by decide +kernel
theorem dX10_canBeTaken_37 : decode cX10_canBeTaken 37 = .ok (.iconst 1, 1) := by decide +kernel
theorem dX10_canBeTaken_38 : decode cX10_canBeTaken 38 = .ok (.goto 4, 3) := by decide +kernel
theorem dX10_canBeTaken_41 : decode cX10_canBeTaken 41 = .ok (.iconst 0, 1) := by decide +kernel
theorem dX10_canBeTaken_42 : decode cX10_canBeTaken 42 = .ok (.istore_n 3, 1) := by decide +kernel
theorem dX10_canBeTaken_43 : decode cX10_canBeTaken 43 = .ok (.iload_n 3, 1) := by decide +kernel
theorem dX10_canBeTaken_44 : decode cX10_canBeTaken 44 = .ok (.ifCond .eq 7, 3) := by decide +kernel
theorem dX10_canBeTaken_47 : decode cX10_canBeTaken 47 = .ok (.iconst 0, 1) := by decide +kernel
theorem dX10_canBeTaken_48 : decode cX10_canBeTaken 48 = .ok (.goto 15, 3) := by decide +kernel
theorem dX10_canBeTaken_51 : decode cX10_canBeTaken 51 = .ok (.aload_n 0, 1) := by decide +kernel
theorem dX10_canBeTaken_52 : decode cX10_canBeTaken 52 = .ok (.iload_n 1, 1) := by decide +kernel
theorem dX10_canBeTaken_53 : decode cX10_canBeTaken 53 = .ok (.invokevirtual 63, 3) := by decide +kernel
theorem dX10_canBeTaken_56 : decode cX10_canBeTaken 56 = .ok (.aload_n 0, 1) := by decide +kernel
theorem dX10_canBeTaken_57 : decode cX10_canBeTaken 57 = .ok (.iload_n 1, 1) := by decide +kernel
theorem dX10_canBeTaken_58 : decode cX10_canBeTaken 58 = .ok (.iconst 5, 1) := by decide +kernel
theorem dX10_canBeTaken_59 : decode cX10_canBeTaken 59 = .ok (.invokevirtual 56, 3) := by decide +kernel
theorem dX10_canBeTaken_62 : decode cX10_canBeTaken 62 = .ok (.isub, 1) := by decide +kernel
theorem dX10_canBeTaken_63 : decode cX10_canBeTaken 63 = .ok (.ireturn, 1) := by decide +kernel
set_option maxRecDepth 20000 in
theorem ggX10_allToTake_X10_ofGrant : GoodIn wsX10_allToTake wsX10_ofGrant := goodIn_r _ [6, 1, 19, 20, 21, 22, 23, 24, 25, 26, 27, 28, 29, 30, 31, 32, 33] (by decide +kernel) (by decide +kernel)
set_option maxRecDepth 20000 in
theorem gX10_allToTake_X10_ofGrant : GoodIn wsX10_allToTake (wsV RX10 56 RX10 yX10_ofGrant wsX10_ofGrant) := goodIn_app (goodIn_of _ (by decide +kernel)) ggX10_allToTake_X10_ofGrant
set_option maxRecDepth 20000 in
theorem ggX10_allToTake_X10_canBeTaken : GoodIn wsX10_allToTake wsX10_canBeTaken := goodIn_r _ [10, 1, 2, 3, 4, 5, 6, 11, 12, 13, 14, 15, 16, 17, 18, 19, 20, 21, 22, 23, 24, 25, 26, 27, 28, 29, 30, 31, 32, 33] (by decide +kernel) (by decide +kernel)
set_option maxRecDepth 20000 in
theorem gX10_allToTake_X10_canBeTaken : GoodIn wsX10_allToTake (wsV RX10 67 RX10 yX10_canBeTaken wsX10_canBeTaken) := goodIn_app (goodIn_of _ (by decide +kernel)) ggX10_allToTake_X10_canBeTaken
theorem dX10_allToTake_0 : decode cX10_allToTake 0 = .ok (.iconst 0, 1) := by decide +kernel
theorem dX10_allToTake_1 : decode cX10_allToTake 1 = .ok (.istore_n 2, 1) := by decide +kernel
theorem dX10_allToTake_2 : decode cX10_allToTake 2 = .ok (.iconst 0, 1) := by decide +kernel
theorem dX10_allToTake_3 : decode cX10_allToTake 3 = .ok (.istore_n 3, 1) := by decide +kernel
theorem dX10_allToTake_4 : decode cX10_allToTake 4 = .ok (.iload_n 3, 1) := by decide +kernel
theorem dX10_allToTake_5 : decode cX10_allToTake 5 = .ok (.aload_n 0, 1) := by decide +kernel
theorem dX10_allToTake_6 : decode cX10_allToTake 6 = .ok (.getfield 7, 3) := by decide +kernel
theorem dX10_allToTake_9 : decode cX10_allToTake 9 = .ok (.iconst 2, 1) := by decide +kernel
theorem dX10_allToTake_10 : decode cX10_allToTake 10 = .ok (.iaload, 1) := by decide +kernel
theorem dX10_allToTake_11 : decode cX10_allToTake 11 = .ok (.if_icmp .ge 31, 3) := by decide +kernel
theorem dX10_allToTake_14 : decode cX10_allToTake 14 = .ok (.iload_n 2, 1) := by decide +kernel
theorem dX10_allToTake_15 : decode cX10_allToTake 15 = .ok (.aload_n 0, 1) := by decide +kernel
theorem dX10_allToTake_16 : decode cX10_allToTake 16 = .ok (.iload_n 3, 1) := by decide +kernel
theorem dX10_allToTake_17 : decode cX10_allToTake 17 = .ok (.iconst 0, 1) := by decide +kernel
theorem dX10_allToTake_18 : decode cX10_allToTake 18 = .ok (.invokevirtual 56, 3) := by decide +kernel
theorem dX10_allToTake_21 : decode cX10_allToTake 21 = .ok (.iload_n 1, 1) := by decide +kernel
theorem dX10_allToTake_22 : decode cX10_allToTake 22 = .ok (.if_icmp .ne 11, 3) := by decide +kernel
theorem dX10_allToTake_25 : decode cX10_allToTake 25 = .ok (.aload_n 0, 1) := by decide +kernel
theorem dX10_allToTake_26 : decode cX10_allToTake 26 = .ok (.iload_n 3, 1) := by decide +kernel
theorem dX10_allToTake_27 : decode cX10_allToTake 27 = .ok (.invokevirtual 67, 3) := by decide +kernel
theorem dX10_allToTake_30 : decode cX10_allToTake 30 = .ok (.goto 4, 3) := by decide +kernel
theorem dX10_allToTake_33 : decode cX10_allToTake 33 = .ok (.iconst 0, 1) := by decide +kernel
theorem dX10_allToTake_34 : decode cX10_allToTake 34 = .ok (.iadd, 1) := by decide +kernel
theorem dX10_allToTake_35 : decode cX10_allToTake 35 = .ok (.istore_n 2, 1) := by decide +kernel
theorem dX10_allToTake_36 : decode cX10_allToTake 36 = .ok (.iinc 3 1, 3) := by decide +kernel
theorem dX10_allToTake_39 : decode cX10_allToTake 39 = .ok (.goto (-35), 3) := by decide +kernel
theorem dX10_allToTake_42 : decode cX10_allToTake 42 = .ok (.iload_n 2, 1) := by decide +kernel
theorem dX10_allToTake_43 : decode cX10_allToTake 43 = .ok (.ireturn, 1) := by decide +kernel
set_option maxRecDepth 20000 in
theorem ggX10_founds_X10_in : GoodIn wsX10_founds wsX10_in := goodIn_r _ [5] (by decide +kernel) (by decide +kernel)
set_option maxRecDepth 20000 in
theorem gX10_founds_X10_in : GoodIn wsX10_founds (va_wsS RX10 42 yX10_in wsX10_in) := goodIn_app (goodIn_of _ (by decide +kernel)) ggX10_founds_X10_in
theorem dX10_founds_0 : decode cX10_founds 0 = .ok (.iload_n 1, 1) := by decide +kernel
theorem dX10_founds_1 : decode cX10_founds 1 = .ok (.iconst 1, 1) := by decide +kernel
theorem dX10_founds_2 : decode cX10_founds 2 = .ok (.bipush 99, 2) := by decide +kernel
theorem dX10_founds_4 : decode cX10_founds 4 = .ok (.invokestatic 42, 3) := by decide +kernel
theorem dX10_founds_7 : decode cX10_founds 7 = .ok (.ifCond .eq 42, 3) := by decide +kernel
theorem dX10_founds_10 : decode cX10_founds 10 = .ok (.iload_n 2, 1) := by decide +kernel
theorem dX10_founds_11 : decode cX10_founds 11 = .ok (.iconst 1, 1) := by decide +kernel
theorem dX10_founds_12 : decode cX10_founds 12 = .ok (.iconst 3, 1) := by decide +kernel
theorem dX10_founds_13 : decode cX10_founds 13 = .ok (.invokestatic 42, 3) := by decide +kernel
theorem dX10_founds_16 : decode cX10_founds 16 = .ok (.ifCond .eq 33, 3) := by decide +kernel
theorem dX10_founds_19 : decode cX10_founds 19 = .ok (.iload_n 3, 1) := by decide +kernel
theorem dX10_founds_20 : decode cX10_founds 20 = .ok (.iconst 0, 1) := by decide +kernel
theorem dX10_founds_21 : decode cX10_founds 21 = .ok (.bipush 9, 2) := by decide +kernel
theorem dX10_founds_23 : decode cX10_founds 23 = .ok (.invokestatic 42, 3) := by decide +kernel
theorem dX10_founds_26 : decode cX10_founds 26 = .ok (.ifCond .eq 23, 3) := by decide +kernel
theorem dX10_founds_29 : decode cX10_founds 29 = .ok (.iload 4, 2) := by decide +kernel
theorem dX10_founds_31 : decode cX10_founds 31 = .ok (.iconst 0, 1) := by decide +kernel
theorem dX10_founds_32 : decode cX10_founds 32 = .ok (.iconst 2, 1) := by decide +kernel
theorem dX10_founds_33 : decode cX10_founds 33 = .ok (.invokestatic 42, 3) := by decide +kernel
theorem dX10_founds_36 : decode cX10_founds 36 = .ok (.ifCond .eq 13, 3) := by decide +kernel
theorem dX10_founds_39 : decode cX10_founds 39 = .ok (.iload 5, 2) := by decide +kernel
theorem dX10_founds_41 : decode cX10_founds 41 = .ok (.iconst 1, 1) := by decide +kernel
theorem dX10_founds_42 : decode cX10_founds 42 = .ok (.iconst 4, 1) := by decide +kernel
theorem dX10_founds_43 : decode cX10_founds 43 = .ok (.invokestatic 42, 3) := by decide +kernel
theorem dX10_founds_46 : decode cX10_founds 46 = .ok (.ifCond .ne 5, 3) := by decide +kernel
theorem dX10_founds_49 : decode cX10_founds 49 = .ok (.iconst (-1), 1) := by decide +kernel
theorem dX10_founds_50 : decode cX10_founds 50 = .ok (.ireturn, 1) := by decide +kernel
theorem dX10_founds_51 : decode cX10_founds 51 = .ok (.aload_n 0, 1) := by decide +kernel
theorem dX10_founds_52 : decode cX10_founds 52 = .ok (.getfield 7, 3) := by decide +kernel
theorem dX10_founds_55 : decode cX10_founds 55 = .ok (.iconst 0, 1) := by decide +kernel
theorem dX10_founds_56 : decode cX10_founds 56 = .ok (.iaload, 1) := by decide +kernel
theorem dX10_founds_57 : decode cX10_founds 57 = .ok (.iconst 5, 1) := by decide +kernel
theorem dX10_founds_58 : decode cX10_founds 58 = .ok (.if_icmp .ne 6, 3) := by decide +kernel
theorem dX10_founds_61 : decode cX10_founds 61 = .ok (.bipush (-3), 2) := by decide +kernel
theorem dX10_founds_63 : decode cX10_founds 63 = .ok (.ireturn, 1) := by decide +kernel
theorem dX10_founds_64 : decode cX10_founds 64 = .ok (.bipush 28, 2) := by decide +kernel
theorem dX10_founds_66 : decode cX10_founds 66 = .ok (.iconst 5, 1) := by decide +kernel
theorem dX10_founds_67 : decode cX10_founds 67 = .ok (.aload_n 0, 1) := by decide +kernel
theorem dX10_founds_68 : decode cX10_founds 68 = .ok (.getfield 7, 3) := by decide +kernel
theorem dX10_founds_71 : decode cX10_founds 71 = .ok (.iconst 0, 1) := by decide +kernel
theorem dX10_founds_72 : decode cX10_founds 72 = .ok (.iaload, 1) := by decide +kernel
theorem dX10_founds_73 : decode cX10_founds 73 = .ok (.imul, 1) := by decide +kernel
theorem dX10_founds_74 : decode cX10_founds 74 = .ok (.iadd, 1) := by decide +kernel
theorem dX10_founds_75 : decode cX10_founds 75 = .ok (.istore 6, 2) := by decide +kernel
theorem dX10_founds_77 : decode cX10_founds 77 = .ok (.aload_n 0, 1) := by decide +kernel
theorem dX10_founds_78 : decode cX10_founds 78 = .ok (.getfield 7, 3) := by decide +kernel
theorem dX10_founds_81 : decode cX10_founds 81 = .ok (.iload 6, 2) := by decide +kernel
theorem dX10_founds_83 : decode cX10_founds 83 = .ok (.iconst 0, 1) := by decide +kernel
theorem dX10_founds_84 : decode cX10_founds 84 = .ok (.iadd, 1) := by decide +kernel
theorem dX10_founds_85 : decode cX10_founds 85 = .ok (.iload_n 1, 1) := by decide +kernel
theorem dX10_founds_86 : decode cX10_founds 86 = .ok (.iastore, 1) := by decide +kernel
theorem dX10_founds_87 : decode cX10_founds 87 = .ok (.aload_n 0, 1) := by decide +kernel
theorem dX10_founds_88 : decode cX10_founds 88 = .ok (.getfield 7, 3) := by decide +kernel
theorem dX10_founds_91 : decode cX10_founds 91 = .ok (.iload 6, 2) := by decide +kernel
theorem dX10_founds_93 : decode cX10_founds 93 = .ok (.iconst 1, 1) := by decide +kernel
theorem dX10_founds_94 : decode cX10_founds 94 = .ok (.iadd, 1) := by decide +kernel
theorem dX10_founds_95 : decode cX10_founds 95 = .ok (.iload_n 2, 1) := by decide +kernel
theorem dX10_founds_96 : decode cX10_founds 96 = .ok (.iastore, 1) := by decide +kernel
theorem dX10_founds_97 : decode cX10_founds 97 = .ok (.aload_n 0, 1) := by decide +kernel
theorem dX10_founds_98 : decode cX10_founds 98 = .ok (.getfield 7, 3) := by decide +kernel
theorem dX10_founds_101 : decode cX10_founds 101 = .ok (.iload 6, 2) := by decide +kernel
theorem dX10_founds_103 : decode cX10_founds 103 = .ok (.iconst 2, 1) := by decide +kernel
theorem dX10_founds_104 : decode cX10_founds 104 = .ok (.iadd, 1) := by decide +kernel
theorem dX10_founds_105 : decode cX10_founds 105 = .ok (.iload_n 3, 1) := by decide +kernel
theorem dX10_founds_106 : decode cX10_founds 106 = .ok (.iastore, 1) := by decide +kernel
theorem dX10_founds_107 : decode cX10_founds 107 = .ok (.aload_n 0, 1) := by decide +kernel
theorem dX10_founds_108 : decode cX10_founds 108 = .ok (.getfield 7, 3) := by decide +kernel
theorem dX10_founds_111 : decode cX10_founds 111 = .ok (.iload 6, 2) := by decide +kernel
theorem dX10_founds_113 : decode cX10_founds 113 = .ok (.iconst 3, 1) := by decide +kernel
theorem dX10_founds_114 : decode cX10_founds 114 = .ok (.iadd, 1) := by decide +kernel
theorem dX10_founds_115 : decode cX10_founds 115 = .ok (.iload 4, 2) := by decide +kernel
theorem dX10_founds_117 : decode cX10_founds 117 = .ok (.iastore, 1) := by decide +kernel
theorem dX10_founds_118 : decode cX10_founds 118 = .ok (.aload_n 0, 1) := by decide +kernel
theorem dX10_founds_119 : decode cX10_founds 119 = .ok (.getfield 7, 3) := by decide +kernel
theorem dX10_founds_122 : decode cX10_founds 122 = .ok (.iload 6, 2) := by decide +kernel
theorem dX10_founds_124 : decode cX10_founds 124 = .ok (.iconst 4, 1) := by decide +kernel
theorem dX10_founds_125 : decode cX10_founds 125 = .ok (.iadd, 1) := by decide +kernel
theorem dX10_founds_126 : decode cX10_founds 126 = .ok (.iload 5, 2) := by decide +kernel
theorem dX10_founds_128 : decode cX10_founds 128 = .ok (.iastore, 1) := by decide +kernel
theorem dX10_founds_129 : decode cX10_founds 129 = .ok (.aload_n 0, 1) := by decide +kernel
theorem dX10_founds_130 : decode cX10_founds 130 = .ok (.getfield 7, 3) := by decide +kernel
theorem dX10_founds_133 : decode cX10_founds 133 = .ok (.iconst 0, 1) := by decide +kernel
theorem dX10_founds_134 : decode cX10_founds 134 = .ok (.dup2, 1) := by decide +kernel
theorem dX10_founds_135 : decode cX10_founds 135 = .ok (.iaload, 1) := by decide +kernel
theorem dX10_founds_136 : decode cX10_founds 136 = .ok (.iconst 1, 1) := by decide +kernel
theorem dX10_founds_137 : decode cX10_founds 137 = .ok (.iadd, 1) := by decide +kernel
theorem dX10_founds_138 : decode cX10_founds 138 = .ok (.iastore, 1) := by decide +kernel
theorem dX10_founds_139 : decode cX10_founds 139 = .ok (.aload_n 0, 1) := by decide +kernel
theorem dX10_founds_140 : decode cX10_founds 140 = .ok (.getfield 7, 3) := by decide +kernel
theorem dX10_founds_143 : decode cX10_founds 143 = .ok (.iconst 0, 1) := by decide +kernel
theorem dX10_founds_144 : decode cX10_founds 144 = .ok (.iaload, 1) := by decide +kernel
theorem dX10_founds_145 : decode cX10_founds 145 = .ok (.iconst 1, 1) := by decide +kernel
theorem dX10_founds_146 : decode cX10_founds 146 = .ok (.isub, 1) := by decide +kernel
theorem dX10_founds_147 : decode cX10_founds 147 = .ok (.ireturn, 1) := by decide +kernel
theorem dX10_comes_0 : decode cX10_comes 0 = .ok (.aload_n 0, 1) := by decide +kernel
theorem dX10_comes_1 : decode cX10_comes 1 = .ok (.getfield 7, 3) := by decide +kernel
theorem dX10_comes_4 : decode cX10_comes 4 = .ok (.iconst 1, 1) := by decide +kernel
theorem dX10_comes_5 : decode cX10_comes 5 = .ok (.iaload, 1) := by decide +kernel
theorem dX10_comes_6 : decode cX10_comes 6 = .ok (.bipush 8, 2) := by decide +kernel
theorem dX10_comes_8 : decode cX10_comes 8 = .ok (.if_icmp .ne 6, 3) := by decide +kernel
theorem dX10_comes_11 : decode cX10_comes 11 = .ok (.bipush (-3), 2) := by decide +kernel
theorem dX10_comes_13 : decode cX10_comes 13 = .ok (.ireturn, 1) := by decide +kernel
theorem dX10_comes_14 : decode cX10_comes 14 = .ok (.aload_n 0, 1) := by decide +kernel
theorem dX10_comes_15 : decode cX10_comes 15 = .ok (.getfield 7, 3) := by decide +kernel
theorem dX10_comes_18 : decode cX10_comes 18 = .ok (.iconst 1, 1) := by decide +kernel
theorem dX10_comes_19 : decode cX10_comes 19 = .ok (.dup2, 1) := by decide +kernel
theorem dX10_comes_20 : decode cX10_comes 20 = .ok (.iaload, 1) := by decide +kernel
theorem dX10_comes_21 : decode cX10_comes 21 = .ok (.iconst 1, 1) := by decide +kernel
theorem dX10_comes_22 : decode cX10_comes 22 = .ok (.iadd, 1) := by decide +kernel
theorem dX10_comes_23 : decode cX10_comes 23 = .ok (.iastore, 1) := by decide +kernel
theorem dX10_comes_24 : decode cX10_comes 24 = .ok (.aload_n 0, 1) := by decide +kernel
theorem dX10_comes_25 : decode cX10_comes 25 = .ok (.getfield 7, 3) := by decide +kernel
theorem dX10_comes_28 : decode cX10_comes 28 = .ok (.iconst 1, 1) := by decide +kernel
theorem dX10_comes_29 : decode cX10_comes 29 = .ok (.iaload, 1) := by decide +kernel
theorem dX10_comes_30 : decode cX10_comes 30 = .ok (.iconst 1, 1) := by decide +kernel
theorem dX10_comes_31 : decode cX10_comes 31 = .ok (.isub, 1) := by decide +kernel
theorem dX10_comes_32 : decode cX10_comes 32 = .ok (.ireturn, 1) := by decide +kernel
set_option maxRecDepth 20000 in
theorem ggX10_issues_X10_isHolder : GoodIn wsX10_issues wsX10_isHolder := goodIn_r _ [6, 1, 7, 8, 5, 9, 30, 31, 32, 33, 34, 35, 36, 37, 38, 39, 40, 41, 42, 43, 44] (by decide +kernel) (by decide +kernel)
set_option maxRecDepth 20000 in
theorem gX10_issues_X10_isHolder : GoodIn wsX10_issues (wsV RX10 70 RX10 yX10_isHolder wsX10_isHolder) := goodIn_app (goodIn_of _ (by decide +kernel)) ggX10_issues_X10_isHolder
set_option maxRecDepth 20000 in
theorem ggX10_issues_X10_isClass : GoodIn wsX10_issues wsX10_isClass := goodIn_r _ [13, 1, 7, 8, 5, 9, 30, 31, 32, 33, 34, 35, 36, 37, 38, 39, 40, 41, 42, 43, 44] (by decide +kernel) (by decide +kernel)
set_option maxRecDepth 20000 in
theorem gX10_issues_X10_isClass : GoodIn wsX10_issues (wsV RX10 73 RX10 yX10_isClass wsX10_isClass) := goodIn_app (goodIn_of _ (by decide +kernel)) ggX10_issues_X10_isClass
set_option maxRecDepth 20000 in
theorem ggX10_issues_X10_in : GoodIn wsX10_issues wsX10_in := goodIn_r _ [9] (by decide +kernel) (by decide +kernel)
set_option maxRecDepth 20000 in
theorem gX10_issues_X10_in : GoodIn wsX10_issues (va_wsS RX10 42 yX10_in wsX10_in) := goodIn_app (goodIn_of _ (by decide +kernel)) ggX10_issues_X10_in
set_option maxRecDepth 20000 in
theorem ggX10_issues_X10_isRound : GoodIn wsX10_issues wsX10_isRound := goodIn_r _ [17, 1, 30, 31, 32, 33, 34, 35, 36, 37, 38, 39, 40, 41, 42, 43, 44] (by decide +kernel) (by decide +kernel)
set_option maxRecDepth 20000 in
theorem gX10_issues_X10_isRound : GoodIn wsX10_issues (wsV RX10 76 RX10 yX10_isRound wsX10_isRound) := goodIn_app (goodIn_of _ (by decide +kernel)) ggX10_issues_X10_isRound
set_option maxRecDepth 20000 in
theorem ggX10_issues_X10_certificates : GoodIn wsX10_issues wsX10_certificates := goodIn_r _ [21, 22, 23, 24, 5, 25, 1, 30, 31, 32, 33, 34, 35, 36, 37, 38, 39, 40, 41, 42, 43, 44] (by decide +kernel) (by decide +kernel)
set_option maxRecDepth 20000 in
theorem gX10_issues_X10_certificates : GoodIn wsX10_issues (wsV RX10 80 RX10 yX10_certificates wsX10_certificates) := goodIn_app (goodIn_of _ (by decide +kernel)) ggX10_issues_X10_certificates
set_option maxRecDepth 20000 in
theorem ggX10_issues_X10_makes : GoodIn wsX10_issues wsX10_makes := goodIn_r _ [29, 1, 22, 23, 24, 5, 25, 30, 31, 32, 33, 34, 35, 36, 37, 38, 39, 40, 41, 42, 43, 44] (by decide +kernel) (by decide +kernel)
set_option maxRecDepth 20000 in
theorem gX10_issues_X10_makes : GoodIn wsX10_issues (wsV RX10 84 RX10 yX10_makes wsX10_makes) := goodIn_app (goodIn_of _ (by decide +kernel)) ggX10_issues_X10_makes
theorem dX10_issues_0 : decode cX10_issues 0 = .ok (.aload_n 0, 1) := by decide +kernel
theorem dX10_issues_1 : decode cX10_issues 1 = .ok (.iload_n 1, 1) := by decide +kernel
theorem dX10_issues_2 : decode cX10_issues 2 = .ok (.invokevirtual 70, 3) := by decide +kernel
theorem dX10_issues_5 : decode cX10_issues 5 = .ok (.ifCond .eq 22, 3) := by decide +kernel
theorem dX10_issues_8 : decode cX10_issues 8 = .ok (.aload_n 0, 1) := by decide +kernel
theorem dX10_issues_9 : decode cX10_issues 9 = .ok (.iload_n 2, 1) := by decide +kernel
theorem dX10_issues_10 : decode cX10_issues 10 = .ok (.invokevirtual 73, 3) := by decide +kernel
theorem dX10_issues_13 : decode cX10_issues 13 = .ok (.ifCond .eq 14, 3) := by decide +kernel
theorem dX10_issues_16 : decode cX10_issues 16 = .ok (.iload_n 3, 1) := by decide +kernel
theorem dX10_issues_17 : decode cX10_issues 17 = .ok (.iconst 1, 1) := by decide +kernel
theorem dX10_issues_18 : decode cX10_issues 18 = .ok (.sipush 9999, 3) := by decide +kernel
theorem dX10_issues_21 : decode cX10_issues 21 = .ok (.invokestatic 42, 3) := by decide +kernel
theorem dX10_issues_24 : decode cX10_issues 24 = .ok (.ifCond .ne 5, 3) := by decide +kernel
theorem dX10_issues_27 : decode cX10_issues 27 = .ok (.iconst (-1), 1) := by decide +kernel
theorem dX10_issues_28 : decode cX10_issues 28 = .ok (.ireturn, 1) := by decide +kernel
theorem dX10_issues_29 : decode cX10_issues 29 = .ok (.aload_n 0, 1) := by decide +kernel
theorem dX10_issues_30 : decode cX10_issues 30 = .ok (.invokevirtual 76, 3) := by decide +kernel
theorem dX10_issues_33 : decode cX10_issues 33 = .ok (.ifCond .eq 6, 3) := by decide +kernel
theorem dX10_issues_36 : decode cX10_issues 36 = .ok (.bipush (-2), 2) := by decide +kernel
theorem dX10_issues_38 : decode cX10_issues 38 = .ok (.ireturn, 1) := by decide +kernel
theorem dX10_issues_39 : decode cX10_issues 39 = .ok (.aload_n 0, 1) := by decide +kernel
theorem dX10_issues_40 : decode cX10_issues 40 = .ok (.invokevirtual 80, 3) := by decide +kernel
theorem dX10_issues_43 : decode cX10_issues 43 = .ok (.bipush 24, 2) := by decide +kernel
theorem dX10_issues_45 : decode cX10_issues 45 = .ok (.if_icmp .ne 6, 3) := by decide +kernel
theorem dX10_issues_48 : decode cX10_issues 48 = .ok (.bipush (-3), 2) := by decide +kernel
theorem dX10_issues_50 : decode cX10_issues 50 = .ok (.ireturn, 1) := by decide +kernel
theorem dX10_issues_51 : decode cX10_issues 51 = .ok (.aload_n 0, 1) := by decide +kernel
theorem dX10_issues_52 : decode cX10_issues 52 = .ok (.getfield 7, 3) := by decide +kernel
theorem dX10_issues_55 : decode cX10_issues 55 = .ok (.iconst 4, 1) := by decide +kernel
theorem dX10_issues_56 : decode cX10_issues 56 = .ok (.dup2, 1) := by decide +kernel
theorem dX10_issues_57 : decode cX10_issues 57 = .ok (.iaload, 1) := by decide +kernel
theorem dX10_issues_58 : decode cX10_issues 58 = .ok (.iload_n 3, 1) := by decide +kernel
theorem dX10_issues_59 : decode cX10_issues 59 = .ok (.iadd, 1) := by decide +kernel
theorem dX10_issues_60 : decode cX10_issues 60 = .ok (.iastore, 1) := by decide +kernel
theorem dX10_issues_61 : decode cX10_issues 61 = .ok (.aload_n 0, 1) := by decide +kernel
theorem dX10_issues_62 : decode cX10_issues 62 = .ok (.iload_n 1, 1) := by decide +kernel
theorem dX10_issues_63 : decode cX10_issues 63 = .ok (.iload_n 2, 1) := by decide +kernel
theorem dX10_issues_64 : decode cX10_issues 64 = .ok (.iload_n 3, 1) := by decide +kernel
theorem dX10_issues_65 : decode cX10_issues 65 = .ok (.invokevirtual 84, 3) := by decide +kernel
theorem dX10_issues_68 : decode cX10_issues 68 = .ok (.ireturn, 1) := by decide +kernel
set_option maxRecDepth 20000 in
theorem ggX10_splits_X10_isCertificate : GoodIn wsX10_splits wsX10_isCertificate := goodIn_r _ [5, 6, 7, 4, 8, 9, 10, 11, 12, 13, 34, 35, 36, 37, 38, 39, 40, 41, 42, 43, 44, 45, 46, 47, 48] (by decide +kernel) (by decide +kernel)
set_option maxRecDepth 20000 in
theorem gX10_splits_X10_isCertificate : GoodIn wsX10_splits (wsV RX10 88 RX10 yX10_isCertificate wsX10_isCertificate) := goodIn_app (goodIn_of _ (by decide +kernel)) ggX10_splits_X10_isCertificate
set_option maxRecDepth 20000 in
theorem ggX10_splits_X10_isHolder : GoodIn wsX10_splits wsX10_isHolder := goodIn_r _ [17, 13, 6, 7, 4, 8, 34, 35, 36, 37, 38, 39, 40, 41, 42, 43, 44, 45, 46, 47, 48] (by decide +kernel) (by decide +kernel)
set_option maxRecDepth 20000 in
theorem gX10_splits_X10_isHolder : GoodIn wsX10_splits (wsV RX10 70 RX10 yX10_isHolder wsX10_isHolder) := goodIn_app (goodIn_of _ (by decide +kernel)) ggX10_splits_X10_isHolder
set_option maxRecDepth 20000 in
theorem ggX10_splits_X10_ofCertificate : GoodIn wsX10_splits wsX10_ofCertificate := goodIn_r _ [12, 13, 34, 35, 36, 37, 38, 39, 40, 41, 42, 43, 44, 45, 46, 47, 48] (by decide +kernel) (by decide +kernel)
set_option maxRecDepth 20000 in
theorem gX10_splits_X10_ofCertificate : GoodIn wsX10_splits (wsV RX10 46 RX10 yX10_ofCertificate wsX10_ofCertificate) := goodIn_app (goodIn_of _ (by decide +kernel)) ggX10_splits_X10_ofCertificate
set_option maxRecDepth 20000 in
theorem ggX10_splits_X10_in : GoodIn wsX10_splits wsX10_in := goodIn_r _ [8] (by decide +kernel) (by decide +kernel)
set_option maxRecDepth 20000 in
theorem gX10_splits_X10_in : GoodIn wsX10_splits (va_wsS RX10 42 yX10_in wsX10_in) := goodIn_app (goodIn_of _ (by decide +kernel)) ggX10_splits_X10_in
set_option maxRecDepth 20000 in
theorem ggX10_splits_X10_isRound : GoodIn wsX10_splits wsX10_isRound := goodIn_r _ [21, 13, 34, 35, 36, 37, 38, 39, 40, 41, 42, 43, 44, 45, 46, 47, 48] (by decide +kernel) (by decide +kernel)
set_option maxRecDepth 20000 in
theorem gX10_splits_X10_isRound : GoodIn wsX10_splits (wsV RX10 76 RX10 yX10_isRound wsX10_isRound) := goodIn_app (goodIn_of _ (by decide +kernel)) ggX10_splits_X10_isRound
set_option maxRecDepth 20000 in
theorem ggX10_splits_X10_certificates : GoodIn wsX10_splits wsX10_certificates := goodIn_r _ [25, 9, 10, 11, 4, 12, 13, 34, 35, 36, 37, 38, 39, 40, 41, 42, 43, 44, 45, 46, 47, 48] (by decide +kernel) (by decide +kernel)
set_option maxRecDepth 20000 in
theorem gX10_splits_X10_certificates : GoodIn wsX10_splits (wsV RX10 80 RX10 yX10_certificates wsX10_certificates) := goodIn_app (goodIn_of _ (by decide +kernel)) ggX10_splits_X10_certificates
set_option maxRecDepth 20000 in
theorem ggX10_splits_X10_lessens : GoodIn wsX10_splits wsX10_lessens := goodIn_r _ [29, 13, 34, 35, 36, 37, 38, 39, 40, 41, 42, 43, 44, 45, 46, 47, 48] (by decide +kernel) (by decide +kernel)
set_option maxRecDepth 20000 in
theorem gX10_splits_X10_lessens : GoodIn wsX10_splits (wsV RX10 91 RX10 yX10_lessens wsX10_lessens) := goodIn_app (goodIn_of _ (by decide +kernel)) ggX10_splits_X10_lessens
set_option maxRecDepth 20000 in
theorem ggX10_splits_X10_makes : GoodIn wsX10_splits wsX10_makes := goodIn_r _ [33, 13, 9, 10, 11, 4, 12, 34, 35, 36, 37, 38, 39, 40, 41, 42, 43, 44, 45, 46, 47, 48] (by decide +kernel) (by decide +kernel)
set_option maxRecDepth 20000 in
theorem gX10_splits_X10_makes : GoodIn wsX10_splits (wsV RX10 84 RX10 yX10_makes wsX10_makes) := goodIn_app (goodIn_of _ (by decide +kernel)) ggX10_splits_X10_makes
theorem dX10_splits_0 : decode cX10_splits 0 = .ok (.aload_n 0, 1) := by decide +kernel
theorem dX10_splits_1 : decode cX10_splits 1 = .ok (.iload_n 1, 1) := by decide +kernel
theorem dX10_splits_2 : decode cX10_splits 2 = .ok (.invokevirtual 88, 3) := by decide +kernel
theorem dX10_splits_5 : decode cX10_splits 5 = .ok (.ifCond .eq 37, 3) := by decide +kernel
theorem dX10_splits_8 : decode cX10_splits 8 = .ok (.aload_n 0, 1) := by decide +kernel
theorem dX10_splits_9 : decode cX10_splits 9 = .ok (.iload_n 2, 1) := by decide +kernel
theorem dX10_splits_10 : decode cX10_splits 10 = .ok (.invokevirtual 70, 3) := by decide +kernel
theorem dX10_splits_13 : decode cX10_splits 13 = .ok (.ifCond .eq 29, 3) := by decide +kernel
theorem dX10_splits_16 : decode cX10_splits 16 = .ok (.aload_n 0, 1) := by decide +kernel
theorem dX10_splits_17 : decode cX10_splits 17 = .ok (.iload_n 1, 1) := by decide +kernel
theorem dX10_splits_18 : decode cX10_splits 18 = .ok (.iconst 0, 1) := by decide +kernel
theorem dX10_splits_19 : decode cX10_splits 19 = .ok (.invokevirtual 46, 3) := by decide +kernel
theorem dX10_splits_22 : decode cX10_splits 22 = .ok (.iload_n 2, 1) := by decide +kernel
theorem dX10_splits_23 : decode cX10_splits 23 = .ok (.iconst 1, 1) := by decide +kernel
theorem dX10_splits_24 : decode cX10_splits 24 = .ok (.iadd, 1) := by decide +kernel
theorem dX10_splits_25 : decode cX10_splits 25 = .ok (.if_icmp .eq 17, 3) := by decide +kernel
theorem dX10_splits_28 : decode cX10_splits 28 = .ok (.iload_n 3, 1) := by decide +kernel
theorem dX10_splits_29 : decode cX10_splits 29 = .ok (.iconst 1, 1) := by decide +kernel
theorem dX10_splits_30 : decode cX10_splits 30 = .ok (.aload_n 0, 1) := by decide +kernel
theorem dX10_splits_31 : decode cX10_splits 31 = .ok (.iload_n 1, 1) := by decide +kernel
theorem dX10_splits_32 : decode cX10_splits 32 = .ok (.iconst 2, 1) := by decide +kernel
theorem dX10_splits_33 : decode cX10_splits 33 = .ok (.invokevirtual 46, 3) := by decide +kernel
theorem dX10_splits_36 : decode cX10_splits 36 = .ok (.invokestatic 42, 3) := by decide +kernel
theorem dX10_splits_39 : decode cX10_splits 39 = .ok (.ifCond .ne 5, 3) := by decide +kernel
theorem dX10_splits_42 : decode cX10_splits 42 = .ok (.iconst (-1), 1) := by decide +kernel
theorem dX10_splits_43 : decode cX10_splits 43 = .ok (.ireturn, 1) := by decide +kernel
theorem dX10_splits_44 : decode cX10_splits 44 = .ok (.aload_n 0, 1) := by decide +kernel
theorem dX10_splits_45 : decode cX10_splits 45 = .ok (.invokevirtual 76, 3) := by decide +kernel
theorem dX10_splits_48 : decode cX10_splits 48 = .ok (.ifCond .eq 6, 3) := by decide +kernel
theorem dX10_splits_51 : decode cX10_splits 51 = .ok (.bipush (-2), 2) := by decide +kernel
theorem dX10_splits_53 : decode cX10_splits 53 = .ok (.ireturn, 1) := by decide +kernel
theorem dX10_splits_54 : decode cX10_splits 54 = .ok (.aload_n 0, 1) := by decide +kernel
theorem dX10_splits_55 : decode cX10_splits 55 = .ok (.invokevirtual 80, 3) := by decide +kernel
theorem dX10_splits_58 : decode cX10_splits 58 = .ok (.bipush 24, 2) := by decide +kernel
theorem dX10_splits_60 : decode cX10_splits 60 = .ok (.if_icmp .ne 16, 3) := by decide +kernel
theorem dX10_splits_63 : decode cX10_splits 63 = .ok (.iload_n 3, 1) := by decide +kernel
theorem dX10_splits_64 : decode cX10_splits 64 = .ok (.aload_n 0, 1) := by decide +kernel
theorem dX10_splits_65 : decode cX10_splits 65 = .ok (.iload_n 1, 1) := by decide +kernel
theorem dX10_splits_66 : decode cX10_splits 66 = .ok (.iconst 2, 1) := by decide +kernel
theorem dX10_splits_67 : decode cX10_splits 67 = .ok (.invokevirtual 46, 3) := by decide +kernel
theorem dX10_splits_70 : decode cX10_splits 70 = .ok (.if_icmp .ge 6, 3) := by decide +kernel
theorem dX10_splits_73 : decode cX10_splits 73 = .ok (.bipush (-3), 2) := by decide +kernel
theorem dX10_splits_75 : decode cX10_splits 75 = .ok (.ireturn, 1) := by decide +kernel
theorem dX10_splits_76 : decode cX10_splits 76 = .ok (.aload_n 0, 1) := by decide +kernel
theorem dX10_splits_77 : decode cX10_splits 77 = .ok (.iload_n 1, 1) := by decide +kernel
theorem dX10_splits_78 : decode cX10_splits 78 = .ok (.iconst 1, 1) := by decide +kernel
theorem dX10_splits_79 : decode cX10_splits 79 = .ok (.invokevirtual 46, 3) := by decide +kernel
theorem dX10_splits_82 : decode cX10_splits 82 = .ok (.istore 4, 2) := by decide +kernel
theorem dX10_splits_84 : decode cX10_splits 84 = .ok (.aload_n 0, 1) := by decide +kernel
theorem dX10_splits_85 : decode cX10_splits 85 = .ok (.iload_n 1, 1) := by decide +kernel
theorem dX10_splits_86 : decode cX10_splits 86 = .ok (.iload_n 3, 1) := by decide +kernel
theorem dX10_splits_87 : decode cX10_splits 87 = .ok (.invokevirtual 91, 3) := by decide +kernel
theorem dX10_splits_90 : decode cX10_splits 90 = .ok (.aload_n 0, 1) := by decide +kernel
theorem dX10_splits_91 : decode cX10_splits 91 = .ok (.iload_n 2, 1) := by decide +kernel
theorem dX10_splits_92 : decode cX10_splits 92 = .ok (.iload 4, 2) := by decide +kernel
theorem dX10_splits_94 : decode cX10_splits 94 = .ok (.iload_n 3, 1) := by decide +kernel
theorem dX10_splits_95 : decode cX10_splits 95 = .ok (.invokevirtual 84, 3) := by decide +kernel
theorem dX10_splits_98 : decode cX10_splits 98 = .ok (.ireturn, 1) := by decide +kernel
set_option maxRecDepth 20000 in
theorem ggX10_buys_X10_isCertificate : GoodIn wsX10_buys wsX10_isCertificate := goodIn_r _ [6, 7, 8, 5, 9, 10, 11, 12, 13, 1, 22, 23, 24, 25, 26, 27, 28, 29, 30, 31, 32, 33, 34, 35, 36] (by decide +kernel) (by decide +kernel)
set_option maxRecDepth 20000 in
theorem gX10_buys_X10_isCertificate : GoodIn wsX10_buys (wsV RX10 88 RX10 yX10_isCertificate wsX10_isCertificate) := goodIn_app (goodIn_of _ (by decide +kernel)) ggX10_buys_X10_isCertificate
set_option maxRecDepth 20000 in
theorem ggX10_buys_X10_ofCertificate : GoodIn wsX10_buys wsX10_ofCertificate := goodIn_r _ [13, 1, 22, 23, 24, 25, 26, 27, 28, 29, 30, 31, 32, 33, 34, 35, 36] (by decide +kernel) (by decide +kernel)
set_option maxRecDepth 20000 in
theorem gX10_buys_X10_ofCertificate : GoodIn wsX10_buys (wsV RX10 46 RX10 yX10_ofCertificate wsX10_ofCertificate) := goodIn_app (goodIn_of _ (by decide +kernel)) ggX10_buys_X10_ofCertificate
set_option maxRecDepth 20000 in
theorem ggX10_buys_X10_in : GoodIn wsX10_buys wsX10_in := goodIn_r _ [9] (by decide +kernel) (by decide +kernel)
set_option maxRecDepth 20000 in
theorem gX10_buys_X10_in : GoodIn wsX10_buys (va_wsS RX10 42 yX10_in wsX10_in) := goodIn_app (goodIn_of _ (by decide +kernel)) ggX10_buys_X10_in
set_option maxRecDepth 20000 in
theorem ggX10_buys_X10_isRound : GoodIn wsX10_buys wsX10_isRound := goodIn_r _ [17, 1, 22, 23, 24, 25, 26, 27, 28, 29, 30, 31, 32, 33, 34, 35, 36] (by decide +kernel) (by decide +kernel)
set_option maxRecDepth 20000 in
theorem gX10_buys_X10_isRound : GoodIn wsX10_buys (wsV RX10 76 RX10 yX10_isRound wsX10_isRound) := goodIn_app (goodIn_of _ (by decide +kernel)) ggX10_buys_X10_isRound
set_option maxRecDepth 20000 in
theorem ggX10_buys_X10_lessens : GoodIn wsX10_buys wsX10_lessens := goodIn_r _ [21, 1, 22, 23, 24, 25, 26, 27, 28, 29, 30, 31, 32, 33, 34, 35, 36] (by decide +kernel) (by decide +kernel)
set_option maxRecDepth 20000 in
theorem gX10_buys_X10_lessens : GoodIn wsX10_buys (wsV RX10 91 RX10 yX10_lessens wsX10_lessens) := goodIn_app (goodIn_of _ (by decide +kernel)) ggX10_buys_X10_lessens
theorem dX10_buys_0 : decode cX10_buys 0 = .ok (.aload_n 0, 1) := by decide +kernel
theorem dX10_buys_1 : decode cX10_buys 1 = .ok (.iload_n 1, 1) := by decide +kernel
theorem dX10_buys_2 : decode cX10_buys 2 = .ok (.invokevirtual 88, 3) := by decide +kernel
theorem dX10_buys_5 : decode cX10_buys 5 = .ok (.ifCond .eq 17, 3) := by decide +kernel
theorem dX10_buys_8 : decode cX10_buys 8 = .ok (.iload_n 2, 1) := by decide +kernel
theorem dX10_buys_9 : decode cX10_buys 9 = .ok (.iconst 1, 1) := by decide +kernel
theorem dX10_buys_10 : decode cX10_buys 10 = .ok (.aload_n 0, 1) := by decide +kernel
theorem dX10_buys_11 : decode cX10_buys 11 = .ok (.iload_n 1, 1) := by decide +kernel
theorem dX10_buys_12 : decode cX10_buys 12 = .ok (.iconst 2, 1) := by decide +kernel
theorem dX10_buys_13 : decode cX10_buys 13 = .ok (.invokevirtual 46, 3) := by decide +kernel
theorem dX10_buys_16 : decode cX10_buys 16 = .ok (.invokestatic 42, 3) := by decide +kernel
theorem dX10_buys_19 : decode cX10_buys 19 = .ok (.ifCond .ne 5, 3) := by decide +kernel
theorem dX10_buys_22 : decode cX10_buys 22 = .ok (.iconst (-1), 1) := by decide +kernel
theorem dX10_buys_23 : decode cX10_buys 23 = .ok (.ireturn, 1) := by decide +kernel
theorem dX10_buys_24 : decode cX10_buys 24 = .ok (.aload_n 0, 1) := by decide +kernel
theorem dX10_buys_25 : decode cX10_buys 25 = .ok (.invokevirtual 76, 3) := by decide +kernel
theorem dX10_buys_28 : decode cX10_buys 28 = .ok (.ifCond .eq 6, 3) := by decide +kernel
theorem dX10_buys_31 : decode cX10_buys 31 = .ok (.bipush (-2), 2) := by decide +kernel
theorem dX10_buys_33 : decode cX10_buys 33 = .ok (.ireturn, 1) := by decide +kernel
theorem dX10_buys_34 : decode cX10_buys 34 = .ok (.aload_n 0, 1) := by decide +kernel
theorem dX10_buys_35 : decode cX10_buys 35 = .ok (.iload_n 1, 1) := by decide +kernel
theorem dX10_buys_36 : decode cX10_buys 36 = .ok (.iconst 2, 1) := by decide +kernel
theorem dX10_buys_37 : decode cX10_buys 37 = .ok (.invokevirtual 46, 3) := by decide +kernel
theorem dX10_buys_40 : decode cX10_buys 40 = .ok (.iload_n 2, 1) := by decide +kernel
theorem dX10_buys_41 : decode cX10_buys 41 = .ok (.isub, 1) := by decide +kernel
theorem dX10_buys_42 : decode cX10_buys 42 = .ok (.istore_n 3, 1) := by decide +kernel
theorem dX10_buys_43 : decode cX10_buys 43 = .ok (.aload_n 0, 1) := by decide +kernel
theorem dX10_buys_44 : decode cX10_buys 44 = .ok (.iload_n 1, 1) := by decide +kernel
theorem dX10_buys_45 : decode cX10_buys 45 = .ok (.iload_n 2, 1) := by decide +kernel
theorem dX10_buys_46 : decode cX10_buys 46 = .ok (.invokevirtual 91, 3) := by decide +kernel
theorem dX10_buys_49 : decode cX10_buys 49 = .ok (.aload_n 0, 1) := by decide +kernel
theorem dX10_buys_50 : decode cX10_buys 50 = .ok (.getfield 7, 3) := by decide +kernel
theorem dX10_buys_53 : decode cX10_buys 53 = .ok (.iconst 5, 1) := by decide +kernel
theorem dX10_buys_54 : decode cX10_buys 54 = .ok (.dup2, 1) := by decide +kernel
theorem dX10_buys_55 : decode cX10_buys 55 = .ok (.iaload, 1) := by decide +kernel
theorem dX10_buys_56 : decode cX10_buys 56 = .ok (.iload_n 2, 1) := by decide +kernel
theorem dX10_buys_57 : decode cX10_buys 57 = .ok (.iadd, 1) := by decide +kernel
theorem dX10_buys_58 : decode cX10_buys 58 = .ok (.iastore, 1) := by decide +kernel
theorem dX10_buys_59 : decode cX10_buys 59 = .ok (.iload_n 3, 1) := by decide +kernel
theorem dX10_buys_60 : decode cX10_buys 60 = .ok (.ireturn, 1) := by decide +kernel
set_option maxRecDepth 20000 in
theorem ggX10_grants_X10_isHolder : GoodIn wsX10_grants wsX10_isHolder := goodIn_r _ [6, 1, 7, 8, 5, 9, 14, 15, 16, 17, 18, 19, 20, 21, 22, 23, 24, 25, 26, 27, 28] (by decide +kernel) (by decide +kernel)
set_option maxRecDepth 20000 in
theorem gX10_grants_X10_isHolder : GoodIn wsX10_grants (wsV RX10 70 RX10 yX10_isHolder wsX10_isHolder) := goodIn_app (goodIn_of _ (by decide +kernel)) ggX10_grants_X10_isHolder
set_option maxRecDepth 20000 in
theorem ggX10_grants_X10_in : GoodIn wsX10_grants wsX10_in := goodIn_r _ [9] (by decide +kernel) (by decide +kernel)
set_option maxRecDepth 20000 in
theorem gX10_grants_X10_in : GoodIn wsX10_grants (va_wsS RX10 42 yX10_in wsX10_in) := goodIn_app (goodIn_of _ (by decide +kernel)) ggX10_grants_X10_in
set_option maxRecDepth 20000 in
theorem ggX10_grants_X10_hasLeft : GoodIn wsX10_grants wsX10_hasLeft := goodIn_r _ [13, 1, 14, 15, 16, 17, 18, 19, 20, 21, 22, 23, 24, 25, 26, 27, 28] (by decide +kernel) (by decide +kernel)
set_option maxRecDepth 20000 in
theorem gX10_grants_X10_hasLeft : GoodIn wsX10_grants (wsV RX10 59 RX10 yX10_hasLeft wsX10_hasLeft) := goodIn_app (goodIn_of _ (by decide +kernel)) ggX10_grants_X10_hasLeft
theorem dX10_grants_0 : decode cX10_grants 0 = .ok (.aload_n 0, 1) := by decide +kernel
theorem dX10_grants_1 : decode cX10_grants 1 = .ok (.iload_n 1, 1) := by decide +kernel
theorem dX10_grants_2 : decode cX10_grants 2 = .ok (.invokevirtual 70, 3) := by decide +kernel
theorem dX10_grants_5 : decode cX10_grants 5 = .ok (.ifCond .eq 46, 3) := by decide +kernel
theorem dX10_grants_8 : decode cX10_grants 8 = .ok (.iload_n 2, 1) := by decide +kernel
theorem dX10_grants_9 : decode cX10_grants 9 = .ok (.iconst 1, 1) := by decide +kernel
theorem dX10_grants_10 : decode cX10_grants 10 = .ok (.sipush 9999, 3) := by decide +kernel
theorem dX10_grants_13 : decode cX10_grants 13 = .ok (.invokestatic 42, 3) := by decide +kernel
theorem dX10_grants_16 : decode cX10_grants 16 = .ok (.ifCond .eq 35, 3) := by decide +kernel
theorem dX10_grants_19 : decode cX10_grants 19 = .ok (.iload_n 3, 1) := by decide +kernel
theorem dX10_grants_20 : decode cX10_grants 20 = .ok (.iconst 0, 1) := by decide +kernel
theorem dX10_grants_21 : decode cX10_grants 21 = .ok (.bipush 99, 2) := by decide +kernel
theorem dX10_grants_23 : decode cX10_grants 23 = .ok (.invokestatic 42, 3) := by decide +kernel
theorem dX10_grants_26 : decode cX10_grants 26 = .ok (.ifCond .eq 25, 3) := by decide +kernel
theorem dX10_grants_29 : decode cX10_grants 29 = .ok (.iload 5, 2) := by decide +kernel
theorem dX10_grants_31 : decode cX10_grants 31 = .ok (.iconst 1, 1) := by decide +kernel
theorem dX10_grants_32 : decode cX10_grants 32 = .ok (.bipush 60, 2) := by decide +kernel
theorem dX10_grants_34 : decode cX10_grants 34 = .ok (.invokestatic 42, 3) := by decide +kernel
theorem dX10_grants_37 : decode cX10_grants 37 = .ok (.ifCond .eq 14, 3) := by decide +kernel
theorem dX10_grants_40 : decode cX10_grants 40 = .ok (.iload 4, 2) := by decide +kernel
theorem dX10_grants_42 : decode cX10_grants 42 = .ok (.iconst 0, 1) := by decide +kernel
theorem dX10_grants_43 : decode cX10_grants 43 = .ok (.iload 5, 2) := by decide +kernel
theorem dX10_grants_45 : decode cX10_grants 45 = .ok (.invokestatic 42, 3) := by decide +kernel
theorem dX10_grants_48 : decode cX10_grants 48 = .ok (.ifCond .ne 5, 3) := by decide +kernel
theorem dX10_grants_51 : decode cX10_grants 51 = .ok (.iconst (-1), 1) := by decide +kernel
theorem dX10_grants_52 : decode cX10_grants 52 = .ok (.ireturn, 1) := by decide +kernel
theorem dX10_grants_53 : decode cX10_grants 53 = .ok (.aload_n 0, 1) := by decide +kernel
theorem dX10_grants_54 : decode cX10_grants 54 = .ok (.iload_n 1, 1) := by decide +kernel
theorem dX10_grants_55 : decode cX10_grants 55 = .ok (.invokevirtual 59, 3) := by decide +kernel
theorem dX10_grants_58 : decode cX10_grants 58 = .ok (.ifCond .eq 6, 3) := by decide +kernel
theorem dX10_grants_61 : decode cX10_grants 61 = .ok (.bipush (-2), 2) := by decide +kernel
theorem dX10_grants_63 : decode cX10_grants 63 = .ok (.ireturn, 1) := by decide +kernel
theorem dX10_grants_64 : decode cX10_grants 64 = .ok (.aload_n 0, 1) := by decide +kernel
theorem dX10_grants_65 : decode cX10_grants 65 = .ok (.getfield 7, 3) := by decide +kernel
theorem dX10_grants_68 : decode cX10_grants 68 = .ok (.iconst 2, 1) := by decide +kernel
theorem dX10_grants_69 : decode cX10_grants 69 = .ok (.iaload, 1) := by decide +kernel
theorem dX10_grants_70 : decode cX10_grants 70 = .ok (.bipush 8, 2) := by decide +kernel
theorem dX10_grants_72 : decode cX10_grants 72 = .ok (.if_icmp .ne 6, 3) := by decide +kernel
theorem dX10_grants_75 : decode cX10_grants 75 = .ok (.bipush (-3), 2) := by decide +kernel
theorem dX10_grants_77 : decode cX10_grants 77 = .ok (.ireturn, 1) := by decide +kernel
theorem dX10_grants_78 : decode cX10_grants 78 = .ok (.sipush 157, 3) := by decide +kernel
theorem dX10_grants_81 : decode cX10_grants 81 = .ok (.bipush 7, 2) := by decide +kernel
theorem dX10_grants_83 : decode cX10_grants 83 = .ok (.aload_n 0, 1) := by decide +kernel
theorem dX10_grants_84 : decode cX10_grants 84 = .ok (.getfield 7, 3) := by decide +kernel
theorem dX10_grants_87 : decode cX10_grants 87 = .ok (.iconst 2, 1) := by decide +kernel
theorem dX10_grants_88 : decode cX10_grants 88 = .ok (.iaload, 1) := by decide +kernel
theorem dX10_grants_89 : decode cX10_grants 89 = .ok (.imul, 1) := by decide +kernel
theorem dX10_grants_90 : decode cX10_grants 90 = .ok (.iadd, 1) := by decide +kernel
theorem dX10_grants_91 : decode cX10_grants 91 = .ok (.istore 6, 2) := by decide +kernel
theorem dX10_grants_93 : decode cX10_grants 93 = .ok (.aload_n 0, 1) := by decide +kernel
theorem dX10_grants_94 : decode cX10_grants 94 = .ok (.getfield 7, 3) := by decide +kernel
theorem dX10_grants_97 : decode cX10_grants 97 = .ok (.iload 6, 2) := by decide +kernel
theorem dX10_grants_99 : decode cX10_grants 99 = .ok (.iconst 0, 1) := by decide +kernel
theorem dX10_grants_100 : decode cX10_grants 100 = .ok (.iadd, 1) := by decide +kernel
theorem dX10_grants_101 : decode cX10_grants 101 = .ok (.iload_n 1, 1) := by decide +kernel
theorem dX10_grants_102 : decode cX10_grants 102 = .ok (.iastore, 1) := by decide +kernel
theorem dX10_grants_103 : decode cX10_grants 103 = .ok (.aload_n 0, 1) := by decide +kernel
theorem dX10_grants_104 : decode cX10_grants 104 = .ok (.getfield 7, 3) := by decide +kernel
theorem dX10_grants_107 : decode cX10_grants 107 = .ok (.iload 6, 2) := by decide +kernel
theorem dX10_grants_109 : decode cX10_grants 109 = .ok (.iconst 1, 1) := by decide +kernel
theorem dX10_grants_110 : decode cX10_grants 110 = .ok (.iadd, 1) := by decide +kernel
theorem dX10_grants_111 : decode cX10_grants 111 = .ok (.iload_n 2, 1) := by decide +kernel
theorem dX10_grants_112 : decode cX10_grants 112 = .ok (.iastore, 1) := by decide +kernel
theorem dX10_grants_113 : decode cX10_grants 113 = .ok (.aload_n 0, 1) := by decide +kernel
theorem dX10_grants_114 : decode cX10_grants 114 = .ok (.getfield 7, 3) := by decide +kernel
theorem dX10_grants_117 : decode cX10_grants 117 = .ok (.iload 6, 2) := by decide +kernel
theorem dX10_grants_119 : decode cX10_grants 119 = .ok (.iconst 2, 1) := by decide +kernel
theorem dX10_grants_120 : decode cX10_grants 120 = .ok (.iadd, 1) := by decide +kernel
theorem dX10_grants_121 : decode cX10_grants 121 = .ok (.iload_n 3, 1) := by decide +kernel
theorem dX10_grants_122 : decode cX10_grants 122 = .ok (.iastore, 1) := by decide +kernel
theorem dX10_grants_123 : decode cX10_grants 123 = .ok (.aload_n 0, 1) := by decide +kernel
theorem dX10_grants_124 : decode cX10_grants 124 = .ok (.getfield 7, 3) := by decide +kernel
theorem dX10_grants_127 : decode cX10_grants 127 = .ok (.iload 6, 2) := by decide +kernel
theorem dX10_grants_129 : decode cX10_grants 129 = .ok (.iconst 3, 1) := by decide +kernel
theorem dX10_grants_130 : decode cX10_grants 130 = .ok (.iadd, 1) := by decide +kernel
theorem dX10_grants_131 : decode cX10_grants 131 = .ok (.iload 4, 2) := by decide +kernel
theorem dX10_grants_133 : decode cX10_grants 133 = .ok (.iastore, 1) := by decide +kernel
theorem dX10_grants_134 : decode cX10_grants 134 = .ok (.aload_n 0, 1) := by decide +kernel
theorem dX10_grants_135 : decode cX10_grants 135 = .ok (.getfield 7, 3) := by decide +kernel
theorem dX10_grants_138 : decode cX10_grants 138 = .ok (.iload 6, 2) := by decide +kernel
theorem dX10_grants_140 : decode cX10_grants 140 = .ok (.iconst 4, 1) := by decide +kernel
theorem dX10_grants_141 : decode cX10_grants 141 = .ok (.iadd, 1) := by decide +kernel
theorem dX10_grants_142 : decode cX10_grants 142 = .ok (.iload 5, 2) := by decide +kernel
theorem dX10_grants_144 : decode cX10_grants 144 = .ok (.iastore, 1) := by decide +kernel
theorem dX10_grants_145 : decode cX10_grants 145 = .ok (.aload_n 0, 1) := by decide +kernel
theorem dX10_grants_146 : decode cX10_grants 146 = .ok (.getfield 7, 3) := by decide +kernel
theorem dX10_grants_149 : decode cX10_grants 149 = .ok (.iload 6, 2) := by decide +kernel
theorem dX10_grants_151 : decode cX10_grants 151 = .ok (.bipush 6, 2) := by decide +kernel
theorem dX10_grants_153 : decode cX10_grants 153 = .ok (.iadd, 1) := by decide +kernel
theorem dX10_grants_154 : decode cX10_grants 154 = .ok (.aload_n 0, 1) := by decide +kernel
theorem dX10_grants_155 : decode cX10_grants 155 = .ok (.getfield 7, 3) := by decide +kernel
theorem dX10_grants_158 : decode cX10_grants 158 = .ok (.iconst 3, 1) := by decide +kernel
theorem dX10_grants_159 : decode cX10_grants 159 = .ok (.iaload, 1) := by decide +kernel
theorem dX10_grants_160 : decode cX10_grants 160 = .ok (.iastore, 1) := by decide +kernel
theorem dX10_grants_161 : decode cX10_grants 161 = .ok (.aload_n 0, 1) := by decide +kernel
theorem dX10_grants_162 : decode cX10_grants 162 = .ok (.getfield 7, 3) := by decide +kernel
theorem dX10_grants_165 : decode cX10_grants 165 = .ok (.iconst 2, 1) := by decide +kernel
theorem dX10_grants_166 : decode cX10_grants 166 = .ok (.dup2, 1) := by decide +kernel
theorem dX10_grants_167 : decode cX10_grants 167 = .ok (.iaload, 1) := by decide +kernel
theorem dX10_grants_168 : decode cX10_grants 168 = .ok (.iconst 1, 1) := by decide +kernel
theorem dX10_grants_169 : decode cX10_grants 169 = .ok (.iadd, 1) := by decide +kernel
theorem dX10_grants_170 : decode cX10_grants 170 = .ok (.iastore, 1) := by decide +kernel
theorem dX10_grants_171 : decode cX10_grants 171 = .ok (.aload_n 0, 1) := by decide +kernel
theorem dX10_grants_172 : decode cX10_grants 172 = .ok (.getfield 7, 3) := by decide +kernel
theorem dX10_grants_175 : decode cX10_grants 175 = .ok (.iconst 2, 1) := by decide +kernel
theorem dX10_grants_176 : decode cX10_grants 176 = .ok (.iaload, 1) := by decide +kernel
theorem dX10_grants_177 : decode cX10_grants 177 = .ok (.iconst 1, 1) := by decide +kernel
theorem dX10_grants_178 : decode cX10_grants 178 = .ok (.isub, 1) := by decide +kernel
theorem dX10_grants_179 : decode cX10_grants 179 = .ok (.ireturn, 1) := by decide +kernel
set_option maxRecDepth 20000 in
theorem ggX10_takes_X10_isGrant : GoodIn wsX10_takes wsX10_isGrant := goodIn_r _ [6, 1, 7, 8, 5, 9, 42, 43, 44, 45, 46, 47, 48, 49, 50, 51, 52, 53, 54, 55, 56] (by decide +kernel) (by decide +kernel)
set_option maxRecDepth 20000 in
theorem gX10_takes_X10_isGrant : GoodIn wsX10_takes (wsV RX10 95 RX10 yX10_isGrant wsX10_isGrant) := goodIn_app (goodIn_of _ (by decide +kernel)) ggX10_takes_X10_isGrant
set_option maxRecDepth 20000 in
theorem ggX10_takes_X10_in : GoodIn wsX10_takes wsX10_in := goodIn_r _ [9] (by decide +kernel) (by decide +kernel)
set_option maxRecDepth 20000 in
theorem gX10_takes_X10_in : GoodIn wsX10_takes (va_wsS RX10 42 yX10_in wsX10_in) := goodIn_app (goodIn_of _ (by decide +kernel)) ggX10_takes_X10_in
set_option maxRecDepth 20000 in
theorem ggX10_takes_X10_isRound : GoodIn wsX10_takes wsX10_isRound := goodIn_r _ [13, 1, 42, 43, 44, 45, 46, 47, 48, 49, 50, 51, 52, 53, 54, 55, 56] (by decide +kernel) (by decide +kernel)
set_option maxRecDepth 20000 in
theorem gX10_takes_X10_isRound : GoodIn wsX10_takes (wsV RX10 76 RX10 yX10_isRound wsX10_isRound) := goodIn_app (goodIn_of _ (by decide +kernel)) ggX10_takes_X10_isRound
set_option maxRecDepth 20000 in
theorem ggX10_takes_X10_canBeTaken : GoodIn wsX10_takes wsX10_canBeTaken := goodIn_r _ [17, 1, 18, 19, 20, 5, 21, 22, 23, 24, 25, 26, 27, 28, 29, 42, 43, 44, 45, 46, 47, 48, 49, 50, 51, 52, 53, 54, 55, 56] (by decide +kernel) (by decide +kernel)
set_option maxRecDepth 20000 in
theorem gX10_takes_X10_canBeTaken : GoodIn wsX10_takes (wsV RX10 67 RX10 yX10_canBeTaken wsX10_canBeTaken) := goodIn_app (goodIn_of _ (by decide +kernel)) ggX10_takes_X10_canBeTaken
set_option maxRecDepth 20000 in
theorem ggX10_takes_X10_certificates : GoodIn wsX10_takes wsX10_certificates := goodIn_r _ [33, 34, 35, 36, 5, 37, 1, 42, 43, 44, 45, 46, 47, 48, 49, 50, 51, 52, 53, 54, 55, 56] (by decide +kernel) (by decide +kernel)
set_option maxRecDepth 20000 in
theorem gX10_takes_X10_certificates : GoodIn wsX10_takes (wsV RX10 80 RX10 yX10_certificates wsX10_certificates) := goodIn_app (goodIn_of _ (by decide +kernel)) ggX10_takes_X10_certificates
set_option maxRecDepth 20000 in
theorem ggX10_takes_X10_ofGrant : GoodIn wsX10_takes wsX10_ofGrant := goodIn_r _ [21, 1, 42, 43, 44, 45, 46, 47, 48, 49, 50, 51, 52, 53, 54, 55, 56] (by decide +kernel) (by decide +kernel)
set_option maxRecDepth 20000 in
theorem gX10_takes_X10_ofGrant : GoodIn wsX10_takes (wsV RX10 56 RX10 yX10_ofGrant wsX10_ofGrant) := goodIn_app (goodIn_of _ (by decide +kernel)) ggX10_takes_X10_ofGrant
set_option maxRecDepth 20000 in
theorem ggX10_takes_X10_makes : GoodIn wsX10_takes wsX10_makes := goodIn_r _ [41, 1, 34, 35, 36, 5, 37, 42, 43, 44, 45, 46, 47, 48, 49, 50, 51, 52, 53, 54, 55, 56] (by decide +kernel) (by decide +kernel)
set_option maxRecDepth 20000 in
theorem gX10_takes_X10_makes : GoodIn wsX10_takes (wsV RX10 84 RX10 yX10_makes wsX10_makes) := goodIn_app (goodIn_of _ (by decide +kernel)) ggX10_takes_X10_makes
theorem dX10_takes_0 : decode cX10_takes 0 = .ok (.aload_n 0, 1) := by decide +kernel
theorem dX10_takes_1 : decode cX10_takes 1 = .ok (.iload_n 1, 1) := by decide +kernel
theorem dX10_takes_2 : decode cX10_takes 2 = .ok (.invokevirtual 95, 3) := by decide +kernel
theorem dX10_takes_5 : decode cX10_takes 5 = .ok (.ifCond .eq 14, 3) := by decide +kernel
theorem dX10_takes_8 : decode cX10_takes 8 = .ok (.iload_n 2, 1) := by decide +kernel
theorem dX10_takes_9 : decode cX10_takes 9 = .ok (.iconst 1, 1) := by decide +kernel
theorem dX10_takes_10 : decode cX10_takes 10 = .ok (.sipush 9999, 3) := by decide +kernel
