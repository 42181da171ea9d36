theorem dX4_init_47 : decode cX4_init 47 = .ok (.newarray .int, 2) := by decide +kernel
theorem dX4_init_49 : decode cX4_init 49 = .ok (.putfield 27, 3) := by decide +kernel
theorem dX4_init_52 : decode cX4_init 52 = .ok (.aload_n 0, 1) := by decide +kernel
theorem dX4_init_53 : decode cX4_init 53 = .ok (.bipush 8, 2) := by decide +kernel
theorem dX4_init_55 : decode cX4_init 55 = .ok (.newarray .int, 2) := by decide +kernel
theorem dX4_init_57 : decode cX4_init 57 = .ok (.putfield 30, 3) := by decide +kernel
theorem dX4_init_60 : decode cX4_init 60 = .ok (.return_, 1) := by decide +kernel
set_option maxRecDepth 20000 in
theorem ggX4_copyFrom_X9_copyRow : GoodIn wsX4_copyFrom wsX9_copyRow := goodIn_r _ [11, 12, 13, 14, 15, 16, 17, 18, 19] (by decide +kernel) (by decide +kernel)
set_option maxRecDepth 20000 in
theorem gX4_copyFrom_X9_copyRow_n37 : GoodIn wsX4_copyFrom (wsX9_copyRow) := ggX4_copyFrom_X9_copyRow
theorem dX4_copyFrom_0 : decode cX4_copyFrom 0 = .ok (.aload_n 0, 1) := by decide +kernel
theorem dX4_copyFrom_1 : decode cX4_copyFrom 1 = .ok (.aload_n 1, 1) := by decide +kernel
theorem dX4_copyFrom_2 : decode cX4_copyFrom 2 = .ok (.getfield 33, 3) := by decide +kernel
theorem dX4_copyFrom_5 : decode cX4_copyFrom 5 = .ok (.putfield 33, 3) := by decide +kernel
theorem dX4_copyFrom_8 : decode cX4_copyFrom 8 = .ok (.aload_n 1, 1) := by decide +kernel
theorem dX4_copyFrom_9 : decode cX4_copyFrom 9 = .ok (.getfield 9, 3) := by decide +kernel
theorem dX4_copyFrom_12 : decode cX4_copyFrom 12 = .ok (.aload_n 0, 1) := by decide +kernel
theorem dX4_copyFrom_13 : decode cX4_copyFrom 13 = .ok (.getfield 9, 3) := by decide +kernel
theorem dX4_copyFrom_16 : decode cX4_copyFrom 16 = .ok (.invokestatic 37, 3) := by decide +kernel
theorem dX4_copyFrom_19 : decode cX4_copyFrom 19 = .ok (.aload_n 1, 1) := by decide +kernel
theorem dX4_copyFrom_20 : decode cX4_copyFrom 20 = .ok (.getfield 15, 3) := by decide +kernel
theorem dX4_copyFrom_23 : decode cX4_copyFrom 23 = .ok (.aload_n 0, 1) := by decide +kernel
theorem dX4_copyFrom_24 : decode cX4_copyFrom 24 = .ok (.getfield 15, 3) := by decide +kernel
theorem dX4_copyFrom_27 : decode cX4_copyFrom 27 = .ok (.invokestatic 37, 3) := by decide +kernel
theorem dX4_copyFrom_30 : decode cX4_copyFrom 30 = .ok (.aload_n 1, 1) := by decide +kernel
theorem dX4_copyFrom_31 : decode cX4_copyFrom 31 = .ok (.getfield 18, 3) := by decide +kernel
theorem dX4_copyFrom_34 : decode cX4_copyFrom 34 = .ok (.aload_n 0, 1) := by decide +kernel
theorem dX4_copyFrom_35 : decode cX4_copyFrom 35 = .ok (.getfield 18, 3) := by decide +kernel
theorem dX4_copyFrom_38 : decode cX4_copyFrom 38 = .ok (.invokestatic 37, 3) := by decide +kernel
theorem dX4_copyFrom_41 : decode cX4_copyFrom 41 = .ok (.aload_n 1, 1) := by decide +kernel
theorem dX4_copyFrom_42 : decode cX4_copyFrom 42 = .ok (.getfield 21, 3) := by decide +kernel
theorem dX4_copyFrom_45 : decode cX4_copyFrom 45 = .ok (.aload_n 0, 1) := by decide +kernel
theorem dX4_copyFrom_46 : decode cX4_copyFrom 46 = .ok (.getfield 21, 3) := by decide +kernel
theorem dX4_copyFrom_49 : decode cX4_copyFrom 49 = .ok (.invokestatic 37, 3) := by decide +kernel
theorem dX4_copyFrom_52 : decode cX4_copyFrom 52 = .ok (.aload_n 1, 1) := by decide +kernel
theorem dX4_copyFrom_53 : decode cX4_copyFrom 53 = .ok (.getfield 24, 3) := by decide +kernel
theorem dX4_copyFrom_56 : decode cX4_copyFrom 56 = .ok (.aload_n 0, 1) := by decide +kernel
theorem dX4_copyFrom_57 : decode cX4_copyFrom 57 = .ok (.getfield 24, 3) := by decide +kernel
theorem dX4_copyFrom_60 : decode cX4_copyFrom 60 = .ok (.invokestatic 37, 3) := by decide +kernel
theorem dX4_copyFrom_63 : decode cX4_copyFrom 63 = .ok (.aload_n 1, 1) := by decide +kernel
theorem dX4_copyFrom_64 : decode cX4_copyFrom 64 = .ok (.getfield 27, 3) := by decide +kernel
theorem dX4_copyFrom_67 : decode cX4_copyFrom 67 = .ok (.aload_n 0, 1) := by decide +kernel
theorem dX4_copyFrom_68 : decode cX4_copyFrom 68 = .ok (.getfield 27, 3) := by decide +kernel
theorem dX4_copyFrom_71 : decode cX4_copyFrom 71 = .ok (.invokestatic 37, 3) := by decide +kernel
theorem dX4_copyFrom_74 : decode cX4_copyFrom 74 = .ok (.aload_n 1, 1) := by decide +kernel
theorem dX4_copyFrom_75 : decode cX4_copyFrom 75 = .ok (.getfield 30, 3) := by decide +kernel
theorem dX4_copyFrom_78 : decode cX4_copyFrom 78 = .ok (.aload_n 0, 1) := by decide +kernel
theorem dX4_copyFrom_79 : decode cX4_copyFrom 79 = .ok (.getfield 30, 3) := by decide +kernel
theorem dX4_copyFrom_82 : decode cX4_copyFrom 82 = .ok (.invokestatic 37, 3) := by decide +kernel
theorem dX4_copyFrom_85 : decode cX4_copyFrom 85 = .ok (.return_, 1) := by decide +kernel
set_option maxRecDepth 20000 in
theorem ggX5_init_X2_init : GoodIn wsX5_init wsX2_init := goodIn_r _ [9, 10, 2, 3, 11, 12, 13, 14, 15, 16, 17, 18, 19, 20, 21, 22, 23, 24, 25, 26, 27, 28, 29, 30, 31, 32, 33, 34, 35, 36, 37, 38, 39, 40, 41, 42, 43, 44, 45, 46, 47, 48, 49, 50, 51, 52, 53, 54, 55, 56, 57, 58, 59, 60, 74, 75, 76, 77, 78, 79, 63, 64, 65, 66, 67, 68, 69, 70, 71, 72, 73, 80, 81, 82, 83, 84, 85, 86, 87, 88, 89, 90, 91, 92, 93, 94, 95, 96, 97] (by decide +kernel) (by decide +kernel)
set_option maxRecDepth 20000 in
theorem gX5_init_X2_init_n17 : GoodIn wsX5_init (wsX2_init) := ggX5_init_X2_init
theorem dX5_init_0 : decode cX5_init 0 = .ok (.aload_n 0, 1) := by decide +kernel
theorem dX5_init_1 : decode cX5_init 1 = .ok (.invokespecial 3, 3) := by decide +kernel
theorem dX5_init_4 : decode cX5_init 4 = .ok (.aload_n 0, 1) := by decide +kernel
theorem dX5_init_5 : decode cX5_init 5 = .ok (.iconst 4, 1) := by decide +kernel
theorem dX5_init_6 : decode cX5_init 6 = .ok (.anewarray 9, 3) := by decide +kernel
theorem dX5_init_9 : decode cX5_init 9 = .ok (.putfield 11, 3) := by decide +kernel
theorem dX5_init_12 : decode cX5_init 12 = .ok (.iconst 0, 1) := by decide +kernel
theorem dX5_init_13 : decode cX5_init 13 = .ok (.istore_n 1, 1) := by decide +kernel
theorem dX5_init_14 : decode cX5_init 14 = .ok (.iload_n 1, 1) := by decide +kernel
theorem dX5_init_15 : decode cX5_init 15 = .ok (.iconst 4, 1) := by decide +kernel
theorem dX5_init_16 : decode cX5_init 16 = .ok (.if_icmp .ge 22, 3) := by decide +kernel
theorem dX5_init_19 : decode cX5_init 19 = .ok (.aload_n 0, 1) := by decide +kernel
theorem dX5_init_20 : decode cX5_init 20 = .ok (.getfield 11, 3) := by decide +kernel
theorem dX5_init_23 : decode cX5_init 23 = .ok (.iload_n 1, 1) := by decide +kernel
theorem dX5_init_24 : decode cX5_init 24 = .ok (.new 9, 3) := by decide +kernel
theorem dX5_init_27 : decode cX5_init 27 = .ok (.dup, 1) := by decide +kernel
theorem dX5_init_28 : decode cX5_init 28 = .ok (.invokespecial 17, 3) := by decide +kernel
theorem dX5_init_31 : decode cX5_init 31 = .ok (.aastore, 1) := by decide +kernel
theorem dX5_init_32 : decode cX5_init 32 = .ok (.iinc 1 1, 3) := by decide +kernel
theorem dX5_init_35 : decode cX5_init 35 = .ok (.goto (-21), 3) := by decide +kernel
theorem dX5_init_38 : decode cX5_init 38 = .ok (.return_, 1) := by decide +kernel
set_option maxRecDepth 20000 in
theorem ggX5_keep_X5_dropOldest : GoodIn wsX5_keep wsX5_dropOldest := goodIn_r _ [7, 2, 1, 79, 80] (by decide +kernel) (by decide +kernel)
set_option maxRecDepth 20000 in
theorem gX5_keep_X5_dropOldest : GoodIn wsX5_keep (wsV RX5 22 RX5 yX5_dropOldest wsX5_dropOldest) := goodIn_app (goodIn_of _ (by decide +kernel)) ggX5_keep_X5_dropOldest
set_option maxRecDepth 20000 in
theorem ggX5_keep_X2_copyFrom : GoodIn wsX5_keep wsX2_copyFrom := goodIn_r _ [12, 13, 14, 15, 16, 17, 18, 19, 20, 21, 22, 23, 24, 25, 26, 27, 28, 29, 30, 31, 32, 33, 34, 35, 36, 37, 38, 39, 40, 41, 42, 43, 44, 45, 46, 47, 48, 49, 50, 51, 52, 53, 54, 55, 56, 57, 58, 59, 60, 61, 62, 63, 64, 65, 66, 67, 68, 69, 70, 71, 72, 73, 74, 75, 76, 77, 78, 81, 82, 83, 84, 85, 86, 87, 88, 89, 90, 91, 92, 93, 94, 95, 96, 97, 98, 99, 100, 101, 102, 103, 104, 105, 106, 107, 108, 109, 110, 111, 112, 113, 114, 115] (by decide +kernel) (by decide +kernel)
set_option maxRecDepth 20000 in
theorem gX5_keep_X2_copyFrom : GoodIn wsX5_keep (wsV RX5 25 RX2 yX2_copyFrom wsX2_copyFrom) := goodIn_app (goodIn_of _ (by decide +kernel)) ggX5_keep_X2_copyFrom
theorem dX5_keep_0 : decode cX5_keep 0 = .ok (.aload_n 0, 1) := by decide +kernel
theorem dX5_keep_1 : decode cX5_keep 1 = .ok (.getfield 18, 3) := by decide +kernel
theorem dX5_keep_4 : decode cX5_keep 4 = .ok (.iconst 4, 1) := by decide +kernel
theorem dX5_keep_5 : decode cX5_keep 5 = .ok (.if_icmp .lt 7, 3) := by decide +kernel
theorem dX5_keep_8 : decode cX5_keep 8 = .ok (.aload_n 0, 1) := by decide +kernel
theorem dX5_keep_9 : decode cX5_keep 9 = .ok (.invokevirtual 22, 3) := by decide +kernel
theorem dX5_keep_12 : decode cX5_keep 12 = .ok (.aload_n 0, 1) := by decide +kernel
theorem dX5_keep_13 : decode cX5_keep 13 = .ok (.getfield 11, 3) := by decide +kernel
theorem dX5_keep_16 : decode cX5_keep 16 = .ok (.aload_n 0, 1) := by decide +kernel
theorem dX5_keep_17 : decode cX5_keep 17 = .ok (.getfield 18, 3) := by decide +kernel
theorem dX5_keep_20 : decode cX5_keep 20 = .ok (.aaload, 1) := by decide +kernel
theorem dX5_keep_21 : decode cX5_keep 21 = .ok (.aload_n 1, 1) := by decide +kernel
theorem dX5_keep_22 : decode cX5_keep 22 = .ok (.invokevirtual 25, 3) := by decide +kernel
theorem dX5_keep_25 : decode cX5_keep 25 = .ok (.aload_n 0, 1) := by decide +kernel
theorem dX5_keep_26 : decode cX5_keep 26 = .ok (.dup, 1) := by decide +kernel
theorem dX5_keep_27 : decode cX5_keep 27 = .ok (.getfield 18, 3) := by decide +kernel
theorem dX5_keep_30 : decode cX5_keep 30 = .ok (.iconst 1, 1) := by decide +kernel
theorem dX5_keep_31 : decode cX5_keep 31 = .ok (.iadd, 1) := by decide +kernel
theorem dX5_keep_32 : decode cX5_keep 32 = .ok (.putfield 18, 3) := by decide +kernel
theorem dX5_keep_35 : decode cX5_keep 35 = .ok (.return_, 1) := by decide +kernel
set_option maxRecDepth 20000 in
theorem ggX5_restore_X2_copyFrom : GoodIn wsX5_restore wsX2_copyFrom := goodIn_r _ [7, 8, 9, 10, 11, 12, 13, 14, 15, 16, 17, 18, 19, 20, 21, 22, 23, 24, 25, 26, 27, 28, 29, 30, 31, 32, 33, 34, 35, 36, 37, 38, 39, 40, 41, 42, 43, 44, 45, 46, 47, 48, 49, 50, 51, 52, 53, 54, 55, 56, 57, 58, 59, 60, 61, 62, 63, 64, 65, 66, 67, 68, 69, 70, 71, 72, 73, 76, 77, 78, 79, 80, 81, 82, 83, 84, 85, 86, 87, 88, 89, 90, 91, 92, 93, 94, 95, 96, 97, 98, 99, 100, 101, 102, 103, 104, 105, 106, 107, 108, 109, 110] (by decide +kernel) (by decide +kernel)
set_option maxRecDepth 20000 in
theorem gX5_restore_X2_copyFrom : GoodIn wsX5_restore (wsV RX5 25 RX2 yX2_copyFrom wsX2_copyFrom) := goodIn_app (goodIn_of _ (by decide +kernel)) ggX5_restore_X2_copyFrom
theorem dX5_restore_0 : decode cX5_restore 0 = .ok (.aload_n 0, 1) := by decide +kernel
theorem dX5_restore_1 : decode cX5_restore 1 = .ok (.getfield 18, 3) := by decide +kernel
theorem dX5_restore_4 : decode cX5_restore 4 = .ok (.ifCond .le 26, 3) := by decide +kernel
theorem dX5_restore_7 : decode cX5_restore 7 = .ok (.aload_n 0, 1) := by decide +kernel
theorem dX5_restore_8 : decode cX5_restore 8 = .ok (.dup, 1) := by decide +kernel
theorem dX5_restore_9 : decode cX5_restore 9 = .ok (.getfield 18, 3) := by decide +kernel
theorem dX5_restore_12 : decode cX5_restore 12 = .ok (.iconst 1, 1) := by decide +kernel
theorem dX5_restore_13 : decode cX5_restore 13 = .ok (.isub, 1) := by decide +kernel
theorem dX5_restore_14 : decode cX5_restore 14 = .ok (.putfield 18, 3) := by decide +kernel
theorem dX5_restore_17 : decode cX5_restore 17 = .ok (.aload_n 1, 1) := by decide +kernel
theorem dX5_restore_18 : decode cX5_restore 18 = .ok (.aload_n 0, 1) := by decide +kernel
theorem dX5_restore_19 : decode cX5_restore 19 = .ok (.getfield 11, 3) := by decide +kernel
theorem dX5_restore_22 : decode cX5_restore 22 = .ok (.aload_n 0, 1) := by decide +kernel
theorem dX5_restore_23 : decode cX5_restore 23 = .ok (.getfield 18, 3) := by decide +kernel
theorem dX5_restore_26 : decode cX5_restore 26 = .ok (.aaload, 1) := by decide +kernel
theorem dX5_restore_27 : decode cX5_restore 27 = .ok (.invokevirtual 25, 3) := by decide +kernel
theorem dX5_restore_30 : decode cX5_restore 30 = .ok (.return_, 1) := by decide +kernel
theorem dX5_dropOldest_0 : decode cX5_dropOldest 0 = .ok (.aload_n 0, 1) := by decide +kernel
theorem dX5_dropOldest_1 : decode cX5_dropOldest 1 = .ok (.getfield 11, 3) := by decide +kernel
theorem dX5_dropOldest_4 : decode cX5_dropOldest 4 = .ok (.iconst 0, 1) := by decide +kernel
theorem dX5_dropOldest_5 : decode cX5_dropOldest 5 = .ok (.aaload, 1) := by decide +kernel
theorem dX5_dropOldest_6 : decode cX5_dropOldest 6 = .ok (.astore_n 1, 1) := by decide +kernel
theorem dX5_dropOldest_7 : decode cX5_dropOldest 7 = .ok (.iconst 1, 1) := by decide +kernel
theorem dX5_dropOldest_8 : decode cX5_dropOldest 8 = .ok (.istore_n 2, 1) := by decide +kernel
theorem dX5_dropOldest_9 : decode cX5_dropOldest 9 = .ok (.iload_n 2, 1) := by decide +kernel
theorem dX5_dropOldest_10 : decode cX5_dropOldest 10 = .ok (.iconst 4, 1) := by decide +kernel
theorem dX5_dropOldest_11 : decode cX5_dropOldest 11 = .ok (.if_icmp .ge 23, 3) := by decide +kernel
theorem dX5_dropOldest_14 : decode cX5_dropOldest 14 = .ok (.aload_n 0, 1) := by decide +kernel
theorem dX5_dropOldest_15 : decode cX5_dropOldest 15 = .ok (.getfield 11, 3) := by decide +kernel
theorem dX5_dropOldest_18 : decode cX5_dropOldest 18 = .ok (.iload_n 2, 1) := by decide +kernel
theorem dX5_dropOldest_19 : decode cX5_dropOldest 19 = .ok (.iconst 1, 1) := by decide +kernel
theorem dX5_dropOldest_20 : decode cX5_dropOldest 20 = .ok (.isub, 1) := by decide +kernel
theorem dX5_dropOldest_21 : decode cX5_dropOldest 21 = .ok (.aload_n 0, 1) := by decide +kernel
theorem dX5_dropOldest_22 : decode cX5_dropOldest 22 = .ok (.getfield 11, 3) := by decide +kernel
theorem dX5_dropOldest_25 : decode cX5_dropOldest 25 = .ok (.iload_n 2, 1) := by decide +kernel
theorem dX5_dropOldest_26 : decode cX5_dropOldest 26 = .ok (.aaload, 1) := by decide +kernel
theorem dX5_dropOldest_27 : decode cX5_dropOldest 27 = .ok (.aastore, 1) := by decide +kernel
theorem dX5_dropOldest_28 : decode cX5_dropOldest 28 = .ok (.iinc 2 1, 3) := by decide +kernel
theorem dX5_dropOldest_31 : decode cX5_dropOldest 31 = .ok (.goto (-22), 3) := by decide +kernel
theorem dX5_dropOldest_34 : decode cX5_dropOldest 34 = .ok (.aload_n 0, 1) := by decide +kernel
theorem dX5_dropOldest_35 : decode cX5_dropOldest 35 = .ok (.getfield 11, 3) := by decide +kernel
theorem dX5_dropOldest_38 : decode cX5_dropOldest 38 = .ok (.iconst 3, 1) := by decide +kernel
theorem dX5_dropOldest_39 : decode cX5_dropOldest 39 = .ok (.aload_n 1, 1) := by decide +kernel
theorem dX5_dropOldest_40 : decode cX5_dropOldest 40 = .ok (.aastore, 1) := by decide +kernel
theorem dX5_dropOldest_41 : decode cX5_dropOldest 41 = .ok (.aload_n 0, 1) := by decide +kernel
theorem dX5_dropOldest_42 : decode cX5_dropOldest 42 = .ok (.iconst 3, 1) := by decide +kernel
theorem dX5_dropOldest_43 : decode cX5_dropOldest 43 = .ok (.putfield 18, 3) := by decide +kernel
theorem dX5_dropOldest_46 : decode cX5_dropOldest 46 = .ok (.return_, 1) := by decide +kernel
theorem dX6_init_0 : decode cX6_init 0 = .ok (.aload_n 0, 1) := by decide +kernel
theorem dX6_init_1 : decode cX6_init 1 = .ok (.invokespecial 3, 3) := by decide +kernel
theorem dX6_init_4 : decode cX6_init 4 = .ok (.return_, 1) := by decide +kernel
set_option maxRecDepth 20000 in
theorem ggX6_run_X8_readCommand : GoodIn wsX6_run wsX8_readCommand := goodIn_r _ [12, 13, 14, 15, 11, 16, 17, 18, 19, 20, 21, 22, 23, 24, 25, 26, 27, 28, 29, 30, 31, 32, 33, 34, 35, 36, 37, 38, 39, 40, 41, 42, 43, 44, 45, 46, 47, 48, 49, 50, 51, 52, 53, 54, 55, 56, 57, 58, 59, 60, 61, 62, 63, 64, 65, 66, 67, 68, 69, 70, 71, 72, 73, 74, 75, 76, 77, 78, 79, 80, 81, 82, 83, 84, 85, 86, 87, 88, 89, 90, 91, 193, 194, 195, 196] (by decide +kernel) (by decide +kernel)
set_option maxRecDepth 20000 in
theorem gX6_run_X8_readCommand : GoodIn wsX6_run (wsV RX6 29 RX8 yX8_readCommand wsX8_readCommand) := goodIn_app (goodIn_of _ (by decide +kernel)) ggX6_run_X8_readCommand
set_option maxRecDepth 20000 in
theorem ggX6_run_X6_perform : GoodIn wsX6_run wsX6_perform := goodIn_r _ [95, 96, 97, 98, 99, 100, 101, 102, 103, 104, 105, 106, 107, 108, 109, 110, 76, 77, 78, 111, 112, 113, 114, 115, 116, 117, 118, 119, 120, 121, 122, 123, 124, 125, 126, 127, 128, 129, 130, 131, 132, 133, 134, 135, 136, 137, 138, 139, 140, 141, 142, 143, 144, 145, 146, 147, 148, 149, 150, 151, 152, 153, 154, 155, 156, 157, 158, 159, 160, 161, 162, 163, 164, 165, 166, 167, 168, 169, 170, 171, 172, 173, 174, 175, 176, 177, 178, 179, 180, 181, 182, 183, 184, 185, 186, 187, 188, 197, 198, 199, 200, 201, 202, 203, 204, 205, 206, 207, 208, 209, 210, 211, 212, 213, 214, 215, 216, 217, 218, 219, 220, 221, 222, 223, 224, 225, 226, 227, 228, 229, 230, 231] (by decide +kernel) (by decide +kernel)
set_option maxRecDepth 20000 in
theorem gX6_run_X6_perform : GoodIn wsX6_run (va_wsS RX6 40 yX6_perform wsX6_perform) := goodIn_app (goodIn_of _ (by decide +kernel)) ggX6_run_X6_perform
theorem dX6_run_0 : decode cX6_run 0 = .ok (.aload_n 0, 1) := by decide +kernel
theorem dX6_run_1 : decode cX6_run 1 = .ok (.iconst 0, 1) := by decide +kernel
theorem dX6_run_2 : decode cX6_run 2 = .ok (.putfield 9, 3) := by decide +kernel
theorem dX6_run_5 : decode cX6_run 5 = .ok (.aload_n 0, 1) := by decide +kernel
theorem dX6_run_6 : decode cX6_run 6 = .ok (.iconst 0, 1) := by decide +kernel
theorem dX6_run_7 : decode cX6_run 7 = .ok (.putfield 15, 3) := by decide +kernel
theorem dX6_run_10 : decode cX6_run 10 = .ok (.aload_n 0, 1) := by decide +kernel
theorem dX6_run_11 : decode cX6_run 11 = .ok (.iconst 0, 1) := by decide +kernel
theorem dX6_run_12 : decode cX6_run 12 = .ok (.putfield 18, 3) := by decide +kernel
theorem dX6_run_15 : decode cX6_run 15 = .ok (.aload_n 0, 1) := by decide +kernel
theorem dX6_run_16 : decode cX6_run 16 = .ok (.iconst 0, 1) := by decide +kernel
theorem dX6_run_17 : decode cX6_run 17 = .ok (.putfield 21, 3) := by decide +kernel
theorem dX6_run_20 : decode cX6_run 20 = .ok (.iconst 0, 1) := by decide +kernel
theorem dX6_run_21 : decode cX6_run 21 = .ok (.istore_n 3, 1) := by decide +kernel
theorem dX6_run_22 : decode cX6_run 22 = .ok (.iload_n 3, 1) := by decide +kernel
theorem dX6_run_23 : decode cX6_run 23 = .ok (.bipush 80, 2) := by decide +kernel
theorem dX6_run_25 : decode cX6_run 25 = .ok (.if_icmp .ge 89, 3) := by decide +kernel
theorem dX6_run_28 : decode cX6_run 28 = .ok (.aload_n 0, 1) := by decide +kernel
theorem dX6_run_29 : decode cX6_run 29 = .ok (.getfield 15, 3) := by decide +kernel
theorem dX6_run_32 : decode cX6_run 32 = .ok (.aload_n 1, 1) := by decide +kernel
theorem dX6_run_33 : decode cX6_run 33 = .ok (.getfield 24, 3) := by decide +kernel
theorem dX6_run_36 : decode cX6_run 36 = .ok (.if_icmp .ge 78, 3) := by decide +kernel
theorem dX6_run_39 : decode cX6_run 39 = .ok (.aload_n 1, 1) := by decide +kernel
theorem dX6_run_40 : decode cX6_run 40 = .ok (.aload_n 0, 1) := by decide +kernel
theorem dX6_run_41 : decode cX6_run 41 = .ok (.getfield 15, 3) := by decide +kernel
theorem dX6_run_44 : decode cX6_run 44 = .ok (.invokevirtual 29, 3) := by decide +kernel
theorem dX6_run_47 : decode cX6_run 47 = .ok (.istore 4, 2) := by decide +kernel
theorem dX6_run_49 : decode cX6_run 49 = .ok (.iload 4, 2) := by decide +kernel
theorem dX6_run_51 : decode cX6_run 51 = .ok (.iconst (-1), 1) := by decide +kernel
theorem dX6_run_52 : decode cX6_run 52 = .ok (.if_icmp .ne 9, 3) := by decide +kernel
theorem dX6_run_55 : decode cX6_run 55 = .ok (.aload_n 0, 1) := by decide +kernel
theorem dX6_run_56 : decode cX6_run 56 = .ok (.iconst 1, 1) := by decide +kernel
theorem dX6_run_57 : decode cX6_run 57 = .ok (.putfield 18, 3) := by decide +kernel
theorem dX6_run_60 : decode cX6_run 60 = .ok (.return_, 1) := by decide +kernel
theorem dX6_run_61 : decode cX6_run 61 = .ok (.aload_n 1, 1) := by decide +kernel
theorem dX6_run_62 : decode cX6_run 62 = .ok (.getfield 33, 3) := by decide +kernel
theorem dX6_run_65 : decode cX6_run 65 = .ok (.aload_n 1, 1) := by decide +kernel
theorem dX6_run_66 : decode cX6_run 66 = .ok (.getfield 36, 3) := by decide +kernel
theorem dX6_run_69 : decode cX6_run 69 = .ok (.aload_n 2, 1) := by decide +kernel
theorem dX6_run_70 : decode cX6_run 70 = .ok (.invokestatic 40, 3) := by decide +kernel
theorem dX6_run_73 : decode cX6_run 73 = .ok (.istore 5, 2) := by decide +kernel
theorem dX6_run_75 : decode cX6_run 75 = .ok (.iload 5, 2) := by decide +kernel
theorem dX6_run_77 : decode cX6_run 77 = .ok (.ifCond .ge 15, 3) := by decide +kernel
theorem dX6_run_80 : decode cX6_run 80 = .ok (.aload_n 0, 1) := by decide +kernel
theorem dX6_run_81 : decode cX6_run 81 = .ok (.iconst 2, 1) := by decide +kernel
theorem dX6_run_82 : decode cX6_run 82 = .ok (.putfield 18, 3) := by decide +kernel
theorem dX6_run_85 : decode cX6_run 85 = .ok (.aload_n 0, 1) := by decide +kernel
theorem dX6_run_86 : decode cX6_run 86 = .ok (.iload 5, 2) := by decide +kernel
theorem dX6_run_88 : decode cX6_run 88 = .ok (.putfield 21, 3) := by decide +kernel
theorem dX6_run_91 : decode cX6_run 91 = .ok (.return_, 1) := by decide +kernel
theorem dX6_run_92 : decode cX6_run 92 = .ok (.aload_n 0, 1) := by decide +kernel
theorem dX6_run_93 : decode cX6_run 93 = .ok (.dup, 1) := by decide +kernel
theorem dX6_run_94 : decode cX6_run 94 = .ok (.getfield 9, 3) := by decide +kernel
theorem dX6_run_97 : decode cX6_run 97 = .ok (.iconst 1, 1) := by decide +kernel
theorem dX6_run_98 : decode cX6_run 98 = .ok (.iadd, 1) := by decide +kernel
theorem dX6_run_99 : decode cX6_run 99 = .ok (.putfield 9, 3) := by decide +kernel
theorem dX6_run_102 : decode cX6_run 102 = .ok (.aload_n 0, 1) := by decide +kernel
theorem dX6_run_103 : decode cX6_run 103 = .ok (.iload 4, 2) := by decide +kernel
theorem dX6_run_105 : decode cX6_run 105 = .ok (.putfield 15, 3) := by decide +kernel
theorem dX6_run_108 : decode cX6_run 108 = .ok (.iinc 3 1, 3) := by decide +kernel
theorem dX6_run_111 : decode cX6_run 111 = .ok (.goto (-89), 3) := by decide +kernel
theorem dX6_run_114 : decode cX6_run 114 = .ok (.return_, 1) := by decide +kernel
theorem dX6_failed_0 : decode cX6_failed 0 = .ok (.aload_n 0, 1) := by decide +kernel
theorem dX6_failed_1 : decode cX6_failed 1 = .ok (.getfield 18, 3) := by decide +kernel
theorem dX6_failed_4 : decode cX6_failed 4 = .ok (.ifCond .eq 7, 3) := by decide +kernel
theorem dX6_failed_7 : decode cX6_failed 7 = .ok (.iconst 1, 1) := by decide +kernel
theorem dX6_failed_8 : decode cX6_failed 8 = .ok (.goto 4, 3) := by decide +kernel
theorem dX6_failed_11 : decode cX6_failed 11 = .ok (.iconst 0, 1) := by decide +kernel
theorem dX6_failed_12 : decode cX6_failed 12 = .ok (.ireturn, 1) := by decide +kernel
set_option maxRecDepth 20000 in
theorem ggX6_about_X6_failed : GoodIn wsX6_about wsX6_failed := goodIn_r _ [8, 1, 9, 10, 11, 12] (by decide +kernel) (by decide +kernel)
set_option maxRecDepth 20000 in
theorem gX6_about_X6_failed : GoodIn wsX6_about (wsV RX6 44 RX6 yX6_failed wsX6_failed) := goodIn_app (goodIn_of _ (by decide +kernel)) ggX6_about_X6_failed
theorem dX6_about_0 : decode cX6_about 0 = .ok (.aload_n 0, 1) := by decide +kernel
theorem dX6_about_1 : decode cX6_about 1 = .ok (.invokevirtual 44, 3) := by decide +kernel
theorem dX6_about_4 : decode cX6_about 4 = .ok (.ifCond .eq 16, 3) := by decide +kernel
theorem dX6_about_7 : decode cX6_about 7 = .ok (.iload_n 1, 1) := by decide +kernel
theorem dX6_about_8 : decode cX6_about 8 = .ok (.iconst 2, 1) := by decide +kernel
theorem dX6_about_9 : decode cX6_about 9 = .ok (.if_icmp .ne 14, 3) := by decide +kernel
theorem dX6_about_12 : decode cX6_about 12 = .ok (.aload_n 0, 1) := by decide +kernel
theorem dX6_about_13 : decode cX6_about 13 = .ok (.getfield 18, 3) := by decide +kernel
theorem dX6_about_16 : decode cX6_about 16 = .ok (.iconst 1, 1) := by decide +kernel
theorem dX6_about_17 : decode cX6_about 17 = .ok (.if_icmp .ne 6, 3) := by decide +kernel
theorem dX6_about_20 : decode cX6_about 20 = .ok (.bipush (-4), 2) := by decide +kernel
theorem dX6_about_22 : decode cX6_about 22 = .ok (.ireturn, 1) := by decide +kernel
theorem dX6_about_23 : decode cX6_about 23 = .ok (.iload_n 1, 1) := by decide +kernel
theorem dX6_about_24 : decode cX6_about 24 = .ok (.lookupswitch 38 #[(0, 28), (1, 33)], 28) := by decide +kernel
theorem dX6_about_52 : decode cX6_about 52 = .ok (.aload_n 0, 1) := by decide +kernel
theorem dX6_about_53 : decode cX6_about 53 = .ok (.getfield 15, 3) := by decide +kernel
theorem dX6_about_56 : decode cX6_about 56 = .ok (.ireturn, 1) := by decide +kernel
theorem dX6_about_57 : decode cX6_about 57 = .ok (.aload_n 0, 1) := by decide +kernel
theorem dX6_about_58 : decode cX6_about 58 = .ok (.getfield 18, 3) := by decide +kernel
theorem dX6_about_61 : decode cX6_about 61 = .ok (.ireturn, 1) := by decide +kernel
theorem dX6_about_62 : decode cX6_about 62 = .ok (.aload_n 0, 1) := by decide +kernel
theorem dX6_about_63 : decode cX6_about 63 = .ok (.getfield 21, 3) := by decide +kernel
theorem dX6_about_66 : decode cX6_about 66 = .ok (.ireturn, 1) := by decide +kernel
set_option maxRecDepth 20000 in
theorem ggX6_perform_X2_issueShares : GoodIn wsX6_perform wsX2_issueShares := goodIn_r _ [5, 6, 7, 8, 9, 10, 11, 12, 13, 4, 14, 15, 16, 17, 18, 19, 20, 21, 22, 23, 24, 25, 26, 27, 28, 29, 30, 31, 32, 33, 34, 35, 36, 37, 97, 98, 99, 100, 101, 102, 103, 104, 105, 106, 107, 108, 109, 110, 111, 112, 113, 114, 115, 116, 117, 118, 119, 120, 121, 122, 123] (by decide +kernel) (by decide +kernel)
set_option maxRecDepth 20000 in
theorem gX6_perform_X2_issueShares : GoodIn wsX6_perform (wsV RX6 48 RX2 yX2_issueShares wsX2_issueShares) := goodIn_app (goodIn_of _ (by decide +kernel)) ggX6_perform_X2_issueShares
set_option maxRecDepth 20000 in
theorem ggX6_perform_X2_splitCertificate : GoodIn wsX6_perform wsX2_splitCertificate := goodIn_r _ [41, 8, 42, 43, 6, 7, 44, 10, 45, 46, 47, 28, 48, 30, 16, 17, 18, 11, 12, 13, 4, 14, 15, 25, 26, 27, 29, 31, 32, 33, 34, 35, 36, 37, 97, 98, 99, 100, 101, 102, 103, 104, 105, 106, 107, 120, 121, 122, 123, 108, 109, 110, 111, 112, 113] (by decide +kernel) (by decide +kernel)
set_option maxRecDepth 20000 in
theorem gX6_perform_X2_splitCertificate : GoodIn wsX6_perform (wsV RX6 54 RX2 yX2_splitCertificate wsX2_splitCertificate) := goodIn_app (goodIn_of _ (by decide +kernel)) ggX6_perform_X2_splitCertificate
set_option maxRecDepth 20000 in
theorem ggX6_perform_X2_buySharesBack : GoodIn wsX6_perform wsX2_buySharesBack := goodIn_r _ [52, 8, 43, 6, 7, 53, 45, 46, 47, 28, 48, 30, 16, 17, 18, 97, 98, 99, 100, 101, 102, 103, 104, 105, 106, 107, 120, 121, 122, 123, 108, 109, 110, 111, 112, 113] (by decide +kernel) (by decide +kernel)
set_option maxRecDepth 20000 in
theorem gX6_perform_X2_buySharesBack : GoodIn wsX6_perform (wsV RX6 57 RX2 yX2_buySharesBack wsX2_buySharesBack) := goodIn_app (goodIn_of _ (by decide +kernel)) ggX6_perform_X2_buySharesBack
set_option maxRecDepth 20000 in
theorem ggX6_perform_X2_addGrant : GoodIn wsX6_perform wsX2_addGrant := goodIn_r _ [57, 58, 59, 60, 61, 62, 63, 64, 65, 66, 10, 67, 11, 12, 13, 4, 14, 15, 16, 17, 18, 97, 98, 99, 100, 101, 102, 103, 104, 105, 106, 107, 124, 125, 126, 127, 128, 129, 130, 131] (by decide +kernel) (by decide +kernel)
set_option maxRecDepth 20000 in
theorem gX6_perform_X2_addGrant : GoodIn wsX6_perform (wsV RX6 61 RX2 yX2_addGrant wsX2_addGrant) := goodIn_app (goodIn_of _ (by decide +kernel)) ggX6_perform_X2_addGrant
set_option maxRecDepth 20000 in
theorem ggX6_perform_X2_takeOptions : GoodIn wsX6_perform wsX2_takeOptions := goodIn_r _ [71, 6, 7, 8, 59, 63, 67, 72, 9, 61, 10, 73, 74, 75, 4, 76, 60, 16, 17, 18, 77, 78, 79, 80, 58, 81, 82, 83, 84, 66, 65, 64, 62, 25, 26, 27, 28, 29, 30, 31, 32, 33, 34, 35, 36, 37, 97, 98, 99, 100, 101, 102, 103, 104, 105, 106, 107, 108, 109, 110, 111, 112, 113, 124, 125, 126, 127, 128, 129, 130, 131, 120, 121, 122, 123] (by decide +kernel) (by decide +kernel)
set_option maxRecDepth 20000 in
theorem gX6_perform_X2_takeOptions : GoodIn wsX6_perform (wsV RX6 65 RX2 yX2_takeOptions wsX2_takeOptions) := goodIn_app (goodIn_of _ (by decide +kernel)) ggX6_perform_X2_takeOptions
set_option maxRecDepth 20000 in
theorem ggX6_perform_X2_letLeave : GoodIn wsX6_perform wsX2_letLeave := goodIn_r _ [88, 58, 10, 11, 12, 13, 4, 14, 15, 16, 17, 18, 89, 90, 91, 92, 59, 60, 61, 77, 78, 79, 80, 67, 81, 82, 83, 84, 66, 65, 64, 62, 97, 98, 99, 100, 101, 102, 103, 104, 105, 106, 107, 124, 125, 126, 127, 128, 129, 130, 131] (by decide +kernel) (by decide +kernel)
set_option maxRecDepth 20000 in
theorem gX6_perform_X2_letLeave : GoodIn wsX6_perform (wsV RX6 68 RX2 yX2_letLeave wsX2_letLeave) := goodIn_app (goodIn_of _ (by decide +kernel)) ggX6_perform_X2_letLeave
set_option maxRecDepth 20000 in
theorem ggX6_perform_X2_passMonths : GoodIn wsX6_perform wsX2_passMonths := goodIn_r _ [96, 10, 16, 17, 18, 97, 98, 99, 100, 101, 102, 103, 104, 105, 106, 107] (by decide +kernel) (by decide +kernel)
set_option maxRecDepth 20000 in
theorem gX6_perform_X2_passMonths : GoodIn wsX6_perform (wsV RX6 71 RX2 yX2_passMonths wsX2_passMonths) := goodIn_app (goodIn_of _ (by decide +kernel)) ggX6_perform_X2_passMonths
theorem dX6_perform_0 : decode cX6_perform 0 = .ok (.aload_n 1, 1) := by decide +kernel
theorem dX6_perform_1 : decode cX6_perform 1 = .ok (.arraylength, 1) := by decide +kernel
theorem dX6_perform_2 : decode cX6_perform 2 = .ok (.iconst 5, 1) := by decide +kernel
theorem dX6_perform_3 : decode cX6_perform 3 = .ok (.if_icmp .ge 5, 3) := by decide +kernel
theorem dX6_perform_6 : decode cX6_perform 6 = .ok (.iconst (-1), 1) := by decide +kernel
theorem dX6_perform_7 : decode cX6_perform 7 = .ok (.ireturn, 1) := by decide +kernel
theorem dX6_perform_8 : decode cX6_perform 8 = .ok (.iload_n 0, 1) := by decide +kernel
theorem dX6_perform_9 : decode cX6_perform 9 = .ok (.tableswitch 117 0 5 #[39, 53, 67, 78, 98, 109], 39) := by decide +kernel
theorem dX6_perform_48 : decode cX6_perform 48 = .ok (.aload_n 2, 1) := by decide +kernel
theorem dX6_perform_49 : decode cX6_perform 49 = .ok (.aload_n 1, 1) := by decide +kernel
theorem dX6_perform_50 : decode cX6_perform 50 = .ok (.iconst 0, 1) := by decide +kernel
theorem dX6_perform_51 : decode cX6_perform 51 = .ok (.iaload, 1) := by decide +kernel
theorem dX6_perform_52 : decode cX6_perform 52 = .ok (.aload_n 1, 1) := by decide +kernel
theorem dX6_perform_53 : decode cX6_perform 53 = .ok (.iconst 1, 1) := by decide +kernel
theorem dX6_perform_54 : decode cX6_perform 54 = .ok (.iaload, 1) := by decide +kernel
theorem dX6_perform_55 : decode cX6_perform 55 = .ok (.aload_n 1, 1) := by decide +kernel
theorem dX6_perform_56 : decode cX6_perform 56 = .ok (.iconst 2, 1) := by decide +kernel
theorem dX6_perform_57 : decode cX6_perform 57 = .ok (.iaload, 1) := by decide +kernel
theorem dX6_perform_58 : decode cX6_perform 58 = .ok (.invokevirtual 48, 3) := by decide +kernel
theorem dX6_perform_61 : decode cX6_perform 61 = .ok (.ireturn, 1) := by decide +kernel
theorem dX6_perform_62 : decode cX6_perform 62 = .ok (.aload_n 2, 1) := by decide +kernel
theorem dX6_perform_63 : decode cX6_perform 63 = .ok (.aload_n 1, 1) := by decide +kernel
theorem dX6_perform_64 : decode cX6_perform 64 = .ok (.iconst 0, 1) := by decide +kernel
theorem dX6_perform_65 : decode cX6_perform 65 = .ok (.iaload, 1) := by decide +kernel
theorem dX6_perform_66 : decode cX6_perform 66 = .ok (.aload_n 1, 1) := by decide +kernel
theorem dX6_perform_67 : decode cX6_perform 67 = .ok (.iconst 1, 1) := by decide +kernel
theorem dX6_perform_68 : decode cX6_perform 68 = .ok (.iaload, 1) := by decide +kernel
theorem dX6_perform_69 : decode cX6_perform 69 = .ok (.aload_n 1, 1) := by decide +kernel
theorem dX6_perform_70 : decode cX6_perform 70 = .ok (.iconst 2, 1) := by decide +kernel
theorem dX6_perform_71 : decode cX6_perform 71 = .ok (.iaload, 1) := by decide +kernel
theorem dX6_perform_72 : decode cX6_perform 72 = .ok (.invokevirtual 54, 3) := by decide +kernel
theorem dX6_perform_75 : decode cX6_perform 75 = .ok (.ireturn, 1) := by decide +kernel
theorem dX6_perform_76 : decode cX6_perform 76 = .ok (.aload_n 2, 1) := by decide +kernel
theorem dX6_perform_77 : decode cX6_perform 77 = .ok (.aload_n 1, 1) := by decide +kernel
theorem dX6_perform_78 : decode cX6_perform 78 = .ok (.iconst 0, 1) := by decide +kernel
theorem dX6_perform_79 : decode cX6_perform 79 = .ok (.iaload, 1) := by decide +kernel
theorem dX6_perform_80 : decode cX6_perform 80 = .ok (.aload_n 1, 1) := by decide +kernel
theorem dX6_perform_81 : decode cX6_perform 81 = .ok (.iconst 1, 1) := by decide +kernel
theorem dX6_perform_82 : decode cX6_perform 82 = .ok (.iaload, 1) := by decide +kernel
theorem dX6_perform_83 : decode cX6_perform 83 = .ok (.invokevirtual 57, 3) := by decide +kernel
theorem dX6_perform_86 : decode cX6_perform 86 = .ok (.ireturn, 1) := by decide +kernel
theorem dX6_perform_87 : decode cX6_perform 87 = .ok (.aload_n 2, 1) := by decide +kernel
theorem dX6_perform_88 : decode cX6_perform 88 = .ok (.aload_n 1, 1) := by decide +kernel
theorem dX6_perform_89 : decode cX6_perform 89 = .ok (.iconst 0, 1) := by decide +kernel
theorem dX6_perform_90 : decode cX6_perform 90 = .ok (.iaload, 1) := by decide +kernel
theorem dX6_perform_91 : decode cX6_perform 91 = .ok (.aload_n 1, 1) := by decide +kernel
theorem dX6_perform_92 : decode cX6_perform 92 = .ok (.iconst 1, 1) := by decide +kernel
theorem dX6_perform_93 : decode cX6_perform 93 = .ok (.iaload, 1) := by decide +kernel
theorem dX6_perform_94 : decode cX6_perform 94 = .ok (.aload_n 1, 1) := by decide +kernel
theorem dX6_perform_95 : decode cX6_perform 95 = .ok (.iconst 2, 1) := by decide +kernel
theorem dX6_perform_96 : decode cX6_perform 96 = .ok (.iaload, 1) := by decide +kernel
theorem dX6_perform_97 : decode cX6_perform 97 = .ok (.aload_n 1, 1) := by decide +kernel
theorem dX6_perform_98 : decode cX6_perform 98 = .ok (.iconst 3, 1) := by decide +kernel
theorem dX6_perform_99 : decode cX6_perform 99 = .ok (.iaload, 1) := by decide +kernel
theorem dX6_perform_100 : decode cX6_perform 100 = .ok (.aload_n 1, 1) := by decide +kernel
theorem dX6_perform_101 : decode cX6_perform 101 = .ok (.iconst 4, 1) := by decide +kernel
theorem dX6_perform_102 : decode cX6_perform 102 = .ok (.iaload, 1) := by decide +kernel
theorem dX6_perform_103 : decode cX6_perform 103 = .ok (.invokevirtual 61, 3) := by decide +kernel
theorem dX6_perform_106 : decode cX6_perform 106 = .ok (.ireturn, 1) := by decide +kernel
theorem dX6_perform_107 : decode cX6_perform 107 = .ok (.aload_n 2, 1) := by decide +kernel
theorem dX6_perform_108 : decode cX6_perform 108 = .ok (.aload_n 1, 1) := by decide +kernel
theorem dX6_perform_109 : decode cX6_perform 109 = .ok (.iconst 0, 1) := by decide +kernel
theorem dX6_perform_110 : decode cX6_perform 110 = .ok (.iaload, 1) := by decide +kernel
theorem dX6_perform_111 : decode cX6_perform 111 = .ok (.aload_n 1, 1) := by decide +kernel
theorem dX6_perform_112 : decode cX6_perform 112 = .ok (.iconst 1, 1) := by decide +kernel
theorem dX6_perform_113 : decode cX6_perform 113 = .ok (.iaload, 1) := by decide +kernel
theorem dX6_perform_114 : decode cX6_perform 114 = .ok (.invokevirtual 65, 3) := by decide +kernel
theorem dX6_perform_117 : decode cX6_perform 117 = .ok (.ireturn, 1) := by decide +kernel
theorem dX6_perform_118 : decode cX6_perform 118 = .ok (.aload_n 2, 1) := by decide +kernel
theorem dX6_perform_119 : decode cX6_perform 119 = .ok (.aload_n 1, 1) := by decide +kernel
theorem dX6_perform_120 : decode cX6_perform 120 = .ok (.iconst 0, 1) := by decide +kernel
theorem dX6_perform_121 : decode cX6_perform 121 = .ok (.iaload, 1) := by decide +kernel
theorem dX6_perform_122 : decode cX6_perform 122 = .ok (.invokevirtual 68, 3) := by decide +kernel
theorem dX6_perform_125 : decode cX6_perform 125 = .ok (.ireturn, 1) := by decide +kernel
theorem dX6_perform_126 : decode cX6_perform 126 = .ok (.aload_n 2, 1) := by decide +kernel
theorem dX6_perform_127 : decode cX6_perform 127 = .ok (.aload_n 1, 1) := by decide +kernel
theorem dX6_perform_128 : decode cX6_perform 128 = .ok (.iconst 0, 1) := by decide +kernel
theorem dX6_perform_129 : decode cX6_perform 129 = .ok (.iaload, 1) := by decide +kernel
theorem dX6_perform_130 : decode cX6_perform 130 = .ok (.invokevirtual 71, 3) := by decide +kernel
theorem dX6_perform_133 : decode cX6_perform 133 = .ok (.ireturn, 1) := by decide +kernel
theorem dX7_init_0 : decode cX7_init 0 = .ok (.aload_n 0, 1) := by decide +kernel
theorem dX7_init_1 : decode cX7_init 1 = .ok (.invokespecial 3, 3) := by decide +kernel
theorem dX7_init_4 : decode cX7_init 4 = .ok (.aload_n 0, 1) := by decide +kernel
theorem dX7_init_5 : decode cX7_init 5 = .ok (.bipush 8, 2) := by decide +kernel
theorem dX7_init_7 : decode cX7_init 7 = .ok (.newarray .int, 2) := by decide +kernel
theorem dX7_init_9 : decode cX7_init 9 = .ok (.putfield 9, 3) := by decide +kernel
theorem dX7_init_12 : decode cX7_init 12 = .ok (.aload_n 0, 1) := by decide +kernel
theorem dX7_init_13 : decode cX7_init 13 = .ok (.bipush 8, 2) := by decide +kernel
theorem dX7_init_15 : decode cX7_init 15 = .ok (.newarray .int, 2) := by decide +kernel
theorem dX7_init_17 : decode cX7_init 17 = .ok (.putfield 15, 3) := by decide +kernel
theorem dX7_init_20 : decode cX7_init 20 = .ok (.return_, 1) := by decide +kernel
set_option maxRecDepth 20000 in
theorem ggX7_copyFrom_X9_copyRow : GoodIn wsX7_copyFrom wsX9_copyRow := goodIn_r _ [9, 10, 11, 12, 13, 14, 15, 16, 17] (by decide +kernel) (by decide +kernel)
set_option maxRecDepth 20000 in
theorem gX7_copyFrom_X9_copyRow_n32 : GoodIn wsX7_copyFrom (wsX9_copyRow) := ggX7_copyFrom_X9_copyRow
theorem dX7_copyFrom_0 : decode cX7_copyFrom 0 = .ok (.aload_n 0, 1) := by decide +kernel
theorem dX7_copyFrom_1 : decode cX7_copyFrom 1 = .ok (.aload_n 1, 1) := by decide +kernel
theorem dX7_copyFrom_2 : decode cX7_copyFrom 2 = .ok (.getfield 18, 3) := by decide +kernel
theorem dX7_copyFrom_5 : decode cX7_copyFrom 5 = .ok (.putfield 18, 3) := by decide +kernel
theorem dX7_copyFrom_8 : decode cX7_copyFrom 8 = .ok (.aload_n 0, 1) := by decide +kernel
theorem dX7_copyFrom_9 : decode cX7_copyFrom 9 = .ok (.aload_n 1, 1) := by decide +kernel
theorem dX7_copyFrom_10 : decode cX7_copyFrom 10 = .ok (.getfield 22, 3) := by decide +kernel
theorem dX7_copyFrom_13 : decode cX7_copyFrom 13 = .ok (.putfield 22, 3) := by decide +kernel
theorem dX7_copyFrom_16 : decode cX7_copyFrom 16 = .ok (.aload_n 0, 1) := by decide +kernel
theorem dX7_copyFrom_17 : decode cX7_copyFrom 17 = .ok (.aload_n 1, 1) := by decide +kernel
theorem dX7_copyFrom_18 : decode cX7_copyFrom 18 = .ok (.getfield 26, 3) := by decide +kernel
theorem dX7_copyFrom_21 : decode cX7_copyFrom 21 = .ok (.putfield 26, 3) := by decide +kernel
theorem dX7_copyFrom_24 : decode cX7_copyFrom 24 = .ok (.aload_n 0, 1) := by decide +kernel
theorem dX7_copyFrom_25 : decode cX7_copyFrom 25 = .ok (.aload_n 1, 1) := by decide +kernel
theorem dX7_copyFrom_26 : decode cX7_copyFrom 26 = .ok (.getfield 29, 3) := by decide +kernel
theorem dX7_copyFrom_29 : decode cX7_copyFrom 29 = .ok (.putfield 29, 3) := by decide +kernel
theorem dX7_copyFrom_32 : decode cX7_copyFrom 32 = .ok (.aload_n 1, 1) := by decide +kernel
theorem dX7_copyFrom_33 : decode cX7_copyFrom 33 = .ok (.getfield 9, 3) := by decide +kernel
theorem dX7_copyFrom_36 : decode cX7_copyFrom 36 = .ok (.aload_n 0, 1) := by decide +kernel
theorem dX7_copyFrom_37 : decode cX7_copyFrom 37 = .ok (.getfield 9, 3) := by decide +kernel
theorem dX7_copyFrom_40 : decode cX7_copyFrom 40 = .ok (.invokestatic 32, 3) := by decide +kernel
theorem dX7_copyFrom_43 : decode cX7_copyFrom 43 = .ok (.aload_n 1, 1) := by decide +kernel
theorem dX7_copyFrom_44 : decode cX7_copyFrom 44 = .ok (.getfield 15, 3) := by decide +kernel
theorem dX7_copyFrom_47 : decode cX7_copyFrom 47 = .ok (.aload_n 0, 1) := by decide +kernel
theorem dX7_copyFrom_48 : decode cX7_copyFrom 48 = .ok (.getfield 15, 3) := by decide +kernel
theorem dX7_copyFrom_51 : decode cX7_copyFrom 51 = .ok (.invokestatic 32, 3) := by decide +kernel
theorem dX7_copyFrom_54 : decode cX7_copyFrom 54 = .ok (.return_, 1) := by decide +kernel
theorem dX7_begin_0 : decode cX7_begin 0 = .ok (.aload_n 0, 1) := by decide +kernel
theorem dX7_begin_1 : decode cX7_begin 1 = .ok (.iconst 1, 1) := by decide +kernel
theorem dX7_begin_2 : decode cX7_begin 2 = .ok (.putfield 18, 3) := by decide +kernel
theorem dX7_begin_5 : decode cX7_begin 5 = .ok (.aload_n 0, 1) := by decide +kernel
theorem dX7_begin_6 : decode cX7_begin 6 = .ok (.iload_n 1, 1) := by decide +kernel
theorem dX7_begin_7 : decode cX7_begin 7 = .ok (.putfield 22, 3) := by decide +kernel
theorem dX7_begin_10 : decode cX7_begin 10 = .ok (.aload_n 0, 1) := by decide +kernel
theorem dX7_begin_11 : decode cX7_begin 11 = .ok (.iload_n 2, 1) := by decide +kernel
theorem dX7_begin_12 : decode cX7_begin 12 = .ok (.putfield 26, 3) := by decide +kernel
theorem dX7_begin_15 : decode cX7_begin 15 = .ok (.aload_n 0, 1) := by decide +kernel
theorem dX7_begin_16 : decode cX7_begin 16 = .ok (.iload_n 3, 1) := by decide +kernel
theorem dX7_begin_17 : decode cX7_begin 17 = .ok (.putfield 29, 3) := by decide +kernel
theorem dX7_begin_20 : decode cX7_begin 20 = .ok (.iconst 0, 1) := by decide +kernel
theorem dX7_begin_21 : decode cX7_begin 21 = .ok (.istore 4, 2) := by decide +kernel
theorem dX7_begin_23 : decode cX7_begin 23 = .ok (.iload 4, 2) := by decide +kernel
theorem dX7_begin_25 : decode cX7_begin 25 = .ok (.bipush 8, 2) := by decide +kernel
theorem dX7_begin_27 : decode cX7_begin 27 = .ok (.if_icmp .ge 25, 3) := by decide +kernel
theorem dX7_begin_30 : decode cX7_begin 30 = .ok (.aload_n 0, 1) := by decide +kernel
theorem dX7_begin_31 : decode cX7_begin 31 = .ok (.getfield 9, 3) := by decide +kernel
theorem dX7_begin_34 : decode cX7_begin 34 = .ok (.iload 4, 2) := by decide +kernel
theorem dX7_begin_36 : decode cX7_begin 36 = .ok (.iconst 0, 1) := by decide +kernel
theorem dX7_begin_37 : decode cX7_begin 37 = .ok (.iastore, 1) := by decide +kernel
theorem dX7_begin_38 : decode cX7_begin 38 = .ok (.aload_n 0, 1) := by decide +kernel
theorem dX7_begin_39 : decode cX7_begin 39 = .ok (.getfield 15, 3) := by decide +kernel
theorem dX7_begin_42 : decode cX7_begin 42 = .ok (.iload 4, 2) := by decide +kernel
theorem dX7_begin_44 : decode cX7_begin 44 = .ok (.iconst 0, 1) := by decide +kernel
theorem dX7_begin_45 : decode cX7_begin 45 = .ok (.iastore, 1) := by decide +kernel
theorem dX7_begin_46 : decode cX7_begin 46 = .ok (.iinc 4 1, 3) := by decide +kernel
theorem dX7_begin_49 : decode cX7_begin 49 = .ok (.goto (-26), 3) := by decide +kernel
theorem dX7_begin_52 : decode cX7_begin 52 = .ok (.return_, 1) := by decide +kernel
theorem dX7_notTakenUp_0 : decode cX7_notTakenUp 0 = .ok (.aload_n 0, 1) := by decide +kernel
theorem dX7_notTakenUp_1 : decode cX7_notTakenUp 1 = .ok (.getfield 26, 3) := by decide +kernel
theorem dX7_notTakenUp_4 : decode cX7_notTakenUp 4 = .ok (.istore_n 1, 1) := by decide +kernel
theorem dX7_notTakenUp_5 : decode cX7_notTakenUp 5 = .ok (.iconst 0, 1) := by decide +kernel
theorem dX7_notTakenUp_6 : decode cX7_notTakenUp 6 = .ok (.istore_n 2, 1) := by decide +kernel
theorem dX7_notTakenUp_7 : decode cX7_notTakenUp 7 = .ok (.iload_n 2, 1) := by decide +kernel
theorem dX7_notTakenUp_8 : decode cX7_notTakenUp 8 = .ok (.bipush 8, 2) := by decide +kernel
theorem dX7_notTakenUp_10 : decode cX7_notTakenUp 10 = .ok (.if_icmp .ge 18, 3) := by decide +kernel
theorem dX7_notTakenUp_13 : decode cX7_notTakenUp 13 = .ok (.iload_n 1, 1) := by decide +kernel
theorem dX7_notTakenUp_14 : decode cX7_notTakenUp 14 = .ok (.aload_n 0, 1) := by decide +kernel
theorem dX7_notTakenUp_15 : decode cX7_notTakenUp 15 = .ok (.getfield 15, 3) := by decide +kernel
theorem dX7_notTakenUp_18 : decode cX7_notTakenUp 18 = .ok (.iload_n 2, 1) := by decide +kernel
theorem dX7_notTakenUp_19 : decode cX7_notTakenUp 19 = .ok (.iaload, 1) := by decide +kernel
theorem dX7_notTakenUp_20 : decode cX7_notTakenUp 20 = .ok (.isub, 1) := by decide +kernel
theorem dX7_notTakenUp_21 : decode cX7_notTakenUp 21 = .ok (.istore_n 1, 1) := by decide +kernel
theorem dX7_notTakenUp_22 : decode cX7_notTakenUp 22 = .ok (.iinc 2 1, 3) := by decide +kernel
theorem dX7_notTakenUp_25 : decode cX7_notTakenUp 25 = .ok (.goto (-18), 3) := by decide +kernel
theorem dX7_notTakenUp_28 : decode cX7_notTakenUp 28 = .ok (.iload_n 1, 1) := by decide +kernel
theorem dX7_notTakenUp_29 : decode cX7_notTakenUp 29 = .ok (.ireturn, 1) := by decide +kernel
set_option maxRecDepth 20000 in
theorem ggX7_certificatesToMake_X7_notTakenUp : GoodIn wsX7_certificatesToMake wsX7_notTakenUp := goodIn_r _ [6, 7, 1, 8, 9, 10, 11, 12, 13] (by decide +kernel) (by decide +kernel)
set_option maxRecDepth 20000 in
theorem gX7_certificatesToMake_X7_notTakenUp : GoodIn wsX7_certificatesToMake (wsV RX7 36 RX7 yX7_notTakenUp wsX7_notTakenUp) := goodIn_app (goodIn_of _ (by decide +kernel)) ggX7_certificatesToMake_X7_notTakenUp
theorem dX7_certificatesToMake_0 : decode cX7_certificatesToMake 0 = .ok (.aload_n 0, 1) := by decide +kernel
theorem dX7_certificatesToMake_1 : decode cX7_certificatesToMake 1 = .ok (.invokevirtual 36, 3) := by decide +kernel
theorem dX7_certificatesToMake_4 : decode cX7_certificatesToMake 4 = .ok (.ifCond .le 7, 3) := by decide +kernel
theorem dX7_certificatesToMake_7 : decode cX7_certificatesToMake 7 = .ok (.iconst 1, 1) := by decide +kernel
theorem dX7_certificatesToMake_8 : decode cX7_certificatesToMake 8 = .ok (.goto 4, 3) := by decide +kernel
theorem dX7_certificatesToMake_11 : decode cX7_certificatesToMake 11 = .ok (.iconst 0, 1) := by decide +kernel
theorem dX7_certificatesToMake_12 : decode cX7_certificatesToMake 12 = .ok (.istore_n 1, 1) := by decide +kernel
theorem dX7_certificatesToMake_13 : decode cX7_certificatesToMake 13 = .ok (.iconst 0, 1) := by decide +kernel
theorem dX7_certificatesToMake_14 : decode cX7_certificatesToMake 14 = .ok (.istore_n 2, 1) := by decide +kernel
theorem dX7_certificatesToMake_15 : decode cX7_certificatesToMake 15 = .ok (.iload_n 2, 1) := by decide +kernel
theorem dX7_certificatesToMake_16 : decode cX7_certificatesToMake 16 = .ok (.bipush 8, 2) := by decide +kernel
theorem dX7_certificatesToMake_18 : decode cX7_certificatesToMake 18 = .ok (.if_icmp .ge 21, 3) := by decide +kernel
theorem dX7_certificatesToMake_21 : decode cX7_certificatesToMake 21 = .ok (.aload_n 0, 1) := by decide +kernel
theorem dX7_certificatesToMake_22 : decode cX7_certificatesToMake 22 = .ok (.getfield 15, 3) := by decide +kernel
theorem dX7_certificatesToMake_25 : decode cX7_certificatesToMake 25 = .ok (.iload_n 2, 1) := by decide +kernel
theorem dX7_certificatesToMake_26 : decode cX7_certificatesToMake 26 = .ok (.iaload, 1) := by decide +kernel
theorem dX7_certificatesToMake_27 : decode cX7_certificatesToMake 27 = .ok (.ifCond .le 6, 3) := by decide +kernel
theorem dX7_certificatesToMake_30 : decode cX7_certificatesToMake 30 = .ok (.iinc 1 1, 3) := by decide +kernel
theorem dX7_certificatesToMake_33 : decode cX7_certificatesToMake 33 = .ok (.iinc 2 1, 3) := by decide +kernel
theorem dX7_certificatesToMake_36 : decode cX7_certificatesToMake 36 = .ok (.goto (-21), 3) := by decide +kernel
theorem dX7_certificatesToMake_39 : decode cX7_certificatesToMake 39 = .ok (.iload_n 1, 1) := by decide +kernel
theorem dX7_certificatesToMake_40 : decode cX7_certificatesToMake 40 = .ok (.ireturn, 1) := by decide +kernel
theorem dX8_init_0 : decode cX8_init 0 = .ok (.aload_n 0, 1) := by decide +kernel
theorem dX8_init_1 : decode cX8_init 1 = .ok (.invokespecial 3, 3) := by decide +kernel
theorem dX8_init_4 : decode cX8_init 4 = .ok (.aload_n 0, 1) := by decide +kernel
theorem dX8_init_5 : decode cX8_init 5 = .ok (.iconst 5, 1) := by decide +kernel
theorem dX8_init_6 : decode cX8_init 6 = .ok (.newarray .int, 2) := by decide +kernel
theorem dX8_init_8 : decode cX8_init 8 = .ok (.putfield 9, 3) := by decide +kernel
theorem dX8_init_11 : decode cX8_init 11 = .ok (.aload_n 0, 1) := by decide +kernel
theorem dX8_init_12 : decode cX8_init 12 = .ok (.bipush 80, 2) := by decide +kernel
theorem dX8_init_14 : decode cX8_init 14 = .ok (.newarray .char, 2) := by decide +kernel
theorem dX8_init_16 : decode cX8_init 16 = .ok (.putfield 15, 3) := by decide +kernel
theorem dX8_init_19 : decode cX8_init 19 = .ok (.return_, 1) := by decide +kernel
set_option maxRecDepth 20000 in
theorem ggX8_append_X9_within : GoodIn wsX8_append wsX9_within := goodIn_r _ [5] (by decide +kernel) (by decide +kernel)
set_option maxRecDepth 20000 in
theorem gX8_append_X9_within_n19 : GoodIn wsX8_append (wsX9_within) := ggX8_append_X9_within
theorem dX8_append_0 : decode cX8_append 0 = .ok (.iload_n 1, 1) := by decide +kernel
theorem dX8_append_1 : decode cX8_append 1 = .ok (.bipush 32, 2) := by decide +kernel
theorem dX8_append_3 : decode cX8_append 3 = .ok (.bipush 126, 2) := by decide +kernel
theorem dX8_append_5 : decode cX8_append 5 = .ok (.invokestatic 19, 3) := by decide +kernel
theorem dX8_append_8 : decode cX8_append 8 = .ok (.ifCond .ne 5, 3) := by decide +kernel
theorem dX8_append_11 : decode cX8_append 11 = .ok (.iconst (-1), 1) := by decide +kernel
theorem dX8_append_12 : decode cX8_append 12 = .ok (.ireturn, 1) := by decide +kernel
theorem dX8_append_13 : decode cX8_append 13 = .ok (.aload_n 0, 1) := by decide +kernel
theorem dX8_append_14 : decode cX8_append 14 = .ok (.getfield 23, 3) := by decide +kernel
theorem dX8_append_17 : decode cX8_append 17 = .ok (.bipush 80, 2) := by decide +kernel
theorem dX8_append_19 : decode cX8_append 19 = .ok (.if_icmp .lt 6, 3) := by decide +kernel
theorem dX8_append_22 : decode cX8_append 22 = .ok (.bipush (-3), 2) := by decide +kernel
theorem dX8_append_24 : decode cX8_append 24 = .ok (.ireturn, 1) := by decide +kernel
theorem dX8_append_25 : decode cX8_append 25 = .ok (.aload_n 0, 1) := by decide +kernel
theorem dX8_append_26 : decode cX8_append 26 = .ok (.getfield 15, 3) := by decide +kernel
theorem dX8_append_29 : decode cX8_append 29 = .ok (.aload_n 0, 1) := by decide +kernel
theorem dX8_append_30 : decode cX8_append 30 = .ok (.getfield 23, 3) := by decide +kernel
theorem dX8_append_33 : decode cX8_append 33 = .ok (.iload_n 1, 1) := by decide +kernel
theorem dX8_append_34 : decode cX8_append 34 = .ok (.i2c, 1) := by decide +kernel
theorem dX8_append_35 : decode cX8_append 35 = .ok (.castore, 1) := by decide +kernel
theorem dX8_append_36 : decode cX8_append 36 = .ok (.aload_n 0, 1) := by decide +kernel
theorem dX8_append_37 : decode cX8_append 37 = .ok (.dup, 1) := by decide +kernel
theorem dX8_append_38 : decode cX8_append 38 = .ok (.getfield 23, 3) := by decide +kernel
theorem dX8_append_41 : decode cX8_append 41 = .ok (.iconst 1, 1) := by decide +kernel
theorem dX8_append_42 : decode cX8_append 42 = .ok (.iadd, 1) := by decide +kernel
theorem dX8_append_43 : decode cX8_append 43 = .ok (.putfield 23, 3) := by decide +kernel
theorem dX8_append_46 : decode cX8_append 46 = .ok (.aload_n 0, 1) := by decide +kernel
theorem dX8_append_47 : decode cX8_append 47 = .ok (.getfield 23, 3) := by decide +kernel
theorem dX8_append_50 : decode cX8_append 50 = .ok (.ireturn, 1) := by decide +kernel
set_option maxRecDepth 20000 in
theorem ggX8_readCommand_X8_wordOf : GoodIn wsX8_readCommand wsX8_wordOf := goodIn_r _ [5] (by decide +kernel) (by decide +kernel)
set_option maxRecDepth 20000 in
theorem gX8_readCommand_X8_wordOf : GoodIn wsX8_readCommand (va_wsS RX8 27 yX8_wordOf wsX8_wordOf) := goodIn_app (goodIn_of _ (by decide +kernel)) ggX8_readCommand_X8_wordOf
set_option maxRecDepth 20000 in
theorem ggX8_readCommand_X8_behindWord : GoodIn wsX8_readCommand wsX8_behindWord := goodIn_r _ [9, 10, 11, 12, 13, 14, 15, 16, 17, 18, 19, 20, 21, 22, 23, 24, 25, 26, 27, 28, 29, 30, 31, 32, 33, 34, 35, 36, 37, 38, 39, 40, 41, 42, 43, 44, 45, 46, 47, 48, 49, 50, 51, 52, 53, 54, 55, 56, 57, 58, 59, 60, 61, 4, 62, 63, 64, 65, 66, 67, 81, 82, 83, 84] (by decide +kernel) (by decide +kernel)
set_option maxRecDepth 20000 in
theorem gX8_readCommand_X8_behindWord : GoodIn wsX8_readCommand (wsV RX8 31 RX8 yX8_behindWord wsX8_behindWord) := goodIn_app (goodIn_of _ (by decide +kernel)) ggX8_readCommand_X8_behindWord
set_option maxRecDepth 20000 in
theorem ggX8_readCommand_X8_readNumbers : GoodIn wsX8_readCommand wsX8_readNumbers := goodIn_r _ [71, 72, 59, 60, 61, 4, 62, 63, 64, 65, 66, 67, 73, 74, 75, 76, 77, 78, 79, 80, 81, 82, 83, 84] (by decide +kernel) (by decide +kernel)
set_option maxRecDepth 20000 in
theorem gX8_readCommand_X8_readNumbers : GoodIn wsX8_readCommand (wsV RX8 41 RX8 yX8_readNumbers wsX8_readNumbers) := goodIn_app (goodIn_of _ (by decide +kernel)) ggX8_readCommand_X8_readNumbers
theorem dX8_readCommand_0 : decode cX8_readCommand 0 = .ok (.iconst 0, 1) := by decide +kernel
theorem dX8_readCommand_1 : decode cX8_readCommand 1 = .ok (.istore_n 2, 1) := by decide +kernel
theorem dX8_readCommand_2 : decode cX8_readCommand 2 = .ok (.iload_n 2, 1) := by decide +kernel
theorem dX8_readCommand_3 : decode cX8_readCommand 3 = .ok (.bipush 6, 2) := by decide +kernel
theorem dX8_readCommand_5 : decode cX8_readCommand 5 = .ok (.if_icmp .gt 40, 3) := by decide +kernel
theorem dX8_readCommand_8 : decode cX8_readCommand 8 = .ok (.aload_n 0, 1) := by decide +kernel
theorem dX8_readCommand_9 : decode cX8_readCommand 9 = .ok (.iload_n 1, 1) := by decide +kernel
theorem dX8_readCommand_10 : decode cX8_readCommand 10 = .ok (.iload_n 2, 1) := by decide +kernel
theorem dX8_readCommand_11 : decode cX8_readCommand 11 = .ok (.invokestatic 27, 3) := by decide +kernel
theorem dX8_readCommand_14 : decode cX8_readCommand 14 = .ok (.invokevirtual 31, 3) := by decide +kernel
theorem dX8_readCommand_17 : decode cX8_readCommand 17 = .ok (.istore_n 3, 1) := by decide +kernel
theorem dX8_readCommand_18 : decode cX8_readCommand 18 = .ok (.iload_n 3, 1) := by decide +kernel
theorem dX8_readCommand_19 : decode cX8_readCommand 19 = .ok (.iconst (-1), 1) := by decide +kernel
theorem dX8_readCommand_20 : decode cX8_readCommand 20 = .ok (.if_icmp .eq 19, 3) := by decide +kernel
theorem dX8_readCommand_23 : decode cX8_readCommand 23 = .ok (.aload_n 0, 1) := by decide +kernel
theorem dX8_readCommand_24 : decode cX8_readCommand 24 = .ok (.iload_n 2, 1) := by decide +kernel
theorem dX8_readCommand_25 : decode cX8_readCommand 25 = .ok (.putfield 35, 3) := by decide +kernel
theorem dX8_readCommand_28 : decode cX8_readCommand 28 = .ok (.aload_n 0, 1) := by decide +kernel
theorem dX8_readCommand_29 : decode cX8_readCommand 29 = .ok (.iload_n 3, 1) := by decide +kernel
theorem dX8_readCommand_30 : decode cX8_readCommand 30 = .ok (.getstatic 38, 3) := by decide +kernel
theorem dX8_readCommand_33 : decode cX8_readCommand 33 = .ok (.iload_n 2, 1) := by decide +kernel
theorem dX8_readCommand_34 : decode cX8_readCommand 34 = .ok (.iaload, 1) := by decide +kernel
theorem dX8_readCommand_35 : decode cX8_readCommand 35 = .ok (.invokevirtual 41, 3) := by decide +kernel
theorem dX8_readCommand_38 : decode cX8_readCommand 38 = .ok (.ireturn, 1) := by decide +kernel
theorem dX8_readCommand_39 : decode cX8_readCommand 39 = .ok (.iinc 2 1, 3) := by decide +kernel
theorem dX8_readCommand_42 : decode cX8_readCommand 42 = .ok (.goto (-40), 3) := by decide +kernel
theorem dX8_readCommand_45 : decode cX8_readCommand 45 = .ok (.iconst (-1), 1) := by decide +kernel
theorem dX8_readCommand_46 : decode cX8_readCommand 46 = .ok (.ireturn, 1) := by decide +kernel
set_option maxRecDepth 20000 in
theorem ggX8_behindWord_J0_length_8abf5 : GoodIn wsX8_behindWord wsJ0_length_8abf5 := goodIn_r _ [5, 6, 7, 8, 9, 4, 10, 11, 12] (by decide +kernel) (by decide +kernel)
set_option maxRecDepth 20000 in
theorem gX8_behindWord_J0_length_8abf5 : GoodIn wsX8_behindWord (wsV RX8 45 RJ0 yJ0_length_8abf5 wsJ0_length_8abf5) := goodIn_app (goodIn_of _ (by decide +kernel)) ggX8_behindWord_J0_length_8abf5
set_option maxRecDepth 20000 in
theorem ggX8_behindWord_J0_charAt_5068e : GoodIn wsX8_behindWord wsJ0_charAt_5068e := goodIn_r _ [16, 6, 17, 18, 19, 4, 20, 11, 12, 21, 22, 23, 24, 25, 26, 27, 28, 29, 30, 31, 32, 33, 34, 35, 36, 37, 38, 39, 40, 41, 42, 43, 44, 45, 46, 47, 48, 49] (by decide +kernel) (by decide +kernel)
set_option maxRecDepth 20000 in
theorem gX8_behindWord_J0_charAt_5068e : GoodIn wsX8_behindWord (wsV RX8 50 RJ0 yJ0_charAt_5068e wsJ0_charAt_5068e) := goodIn_app (goodIn_of _ (by decide +kernel)) ggX8_behindWord_J0_charAt_5068e
set_option maxRecDepth 20000 in
theorem ggX8_behindWord_X8_stands : GoodIn wsX8_behindWord wsX8_stands := goodIn_r _ [54, 55, 56, 57, 58, 59, 60, 61, 62, 63] (by decide +kernel) (by decide +kernel)
set_option maxRecDepth 20000 in
theorem gX8_behindWord_X8_stands : GoodIn wsX8_behindWord (wsV RX8 54 RX8 yX8_stands wsX8_stands) := goodIn_app (goodIn_of _ (by decide +kernel)) ggX8_behindWord_X8_stands
theorem dX8_behindWord_0 : decode cX8_behindWord 0 = .ok (.iconst 0, 1) := by decide +kernel
theorem dX8_behindWord_1 : decode cX8_behindWord 1 = .ok (.istore_n 3, 1) := by decide +kernel
theorem dX8_behindWord_2 : decode cX8_behindWord 2 = .ok (.iload_n 3, 1) := by decide +kernel
theorem dX8_behindWord_3 : decode cX8_behindWord 3 = .ok (.aload_n 2, 1) := by decide +kernel
theorem dX8_behindWord_4 : decode cX8_behindWord 4 = .ok (.invokevirtual 45, 3) := by decide +kernel
theorem dX8_behindWord_7 : decode cX8_behindWord 7 = .ok (.if_icmp .ge 26, 3) := by decide +kernel
theorem dX8_behindWord_10 : decode cX8_behindWord 10 = .ok (.aload_n 0, 1) := by decide +kernel
theorem dX8_behindWord_11 : decode cX8_behindWord 11 = .ok (.iload_n 1, 1) := by decide +kernel
theorem dX8_behindWord_12 : decode cX8_behindWord 12 = .ok (.iload_n 3, 1) := by decide +kernel
theorem dX8_behindWord_13 : decode cX8_behindWord 13 = .ok (.iadd, 1) := by decide +kernel
theorem dX8_behindWord_14 : decode cX8_behindWord 14 = .ok (.aload_n 2, 1) := by decide +kernel
theorem dX8_behindWord_15 : decode cX8_behindWord 15 = .ok (.iload_n 3, 1) := by decide +kernel
theorem dX8_behindWord_16 : decode cX8_behindWord 16 = .ok (.invokevirtual 50, 3) := by decide +kernel
theorem dX8_behindWord_19 : decode cX8_behindWord 19 = .ok (.invokevirtual 54, 3) := by decide +kernel
theorem dX8_behindWord_22 : decode cX8_behindWord 22 = .ok (.ifCond .ne 5, 3) := by decide +kernel
theorem dX8_behindWord_25 : decode cX8_behindWord 25 = .ok (.iconst (-1), 1) := by decide +kernel
theorem dX8_behindWord_26 : decode cX8_behindWord 26 = .ok (.ireturn, 1) := by decide +kernel
theorem dX8_behindWord_27 : decode cX8_behindWord 27 = .ok (.iinc 3 1, 3) := by decide +kernel
theorem dX8_behindWord_30 : decode cX8_behindWord 30 = .ok (.goto (-28), 3) := by decide +kernel
theorem dX8_behindWord_33 : decode cX8_behindWord 33 = .ok (.iload_n 1, 1) := by decide +kernel
theorem dX8_behindWord_34 : decode cX8_behindWord 34 = .ok (.aload_n 2, 1) := by decide +kernel
theorem dX8_behindWord_35 : decode cX8_behindWord 35 = .ok (.invokevirtual 45, 3) := by decide +kernel
theorem dX8_behindWord_38 : decode cX8_behindWord 38 = .ok (.iadd, 1) := by decide +kernel
theorem dX8_behindWord_39 : decode cX8_behindWord 39 = .ok (.ireturn, 1) := by decide +kernel
set_option maxRecDepth 20000 in
theorem ggX8_readNumbers_X8_stands : GoodIn wsX8_readNumbers wsX8_stands := goodIn_r _ [6, 7, 8, 9, 10, 11, 20, 21, 22, 23] (by decide +kernel) (by decide +kernel)
set_option maxRecDepth 20000 in
theorem gX8_readNumbers_X8_stands : GoodIn wsX8_readNumbers (wsV RX8 54 RX8 yX8_stands wsX8_stands) := goodIn_app (goodIn_of _ (by decide +kernel)) ggX8_readNumbers_X8_stands
set_option maxRecDepth 20000 in
theorem ggX8_readNumbers_X8_digitsAt : GoodIn wsX8_readNumbers wsX8_digitsAt := goodIn_r _ [15, 7, 8, 9, 10, 11, 20, 21, 22, 23] (by decide +kernel) (by decide +kernel)
set_option maxRecDepth 20000 in
theorem gX8_readNumbers_X8_digitsAt : GoodIn wsX8_readNumbers (wsV RX8 58 RX8 yX8_digitsAt wsX8_digitsAt) := goodIn_app (goodIn_of _ (by decide +kernel)) ggX8_readNumbers_X8_digitsAt
set_option maxRecDepth 20000 in
theorem ggX8_readNumbers_X9_within : GoodIn wsX8_readNumbers wsX9_within := goodIn_r _ [11] (by decide +kernel) (by decide +kernel)
set_option maxRecDepth 20000 in
theorem gX8_readNumbers_X9_within_n19 : GoodIn wsX8_readNumbers (wsX9_within) := ggX8_readNumbers_X9_within
set_option maxRecDepth 20000 in
theorem ggX8_readNumbers_X8_numberAt : GoodIn wsX8_readNumbers wsX8_numberAt := goodIn_r _ [19, 8, 20, 21, 22, 23] (by decide +kernel) (by decide +kernel)
set_option maxRecDepth 20000 in
theorem gX8_readNumbers_X8_numberAt : GoodIn wsX8_readNumbers (wsV RX8 62 RX8 yX8_numberAt wsX8_numberAt) := goodIn_app (goodIn_of _ (by decide +kernel)) ggX8_readNumbers_X8_numberAt
theorem dX8_readNumbers_0 : decode cX8_readNumbers 0 = .ok (.iload_n 1, 1) := by decide +kernel
theorem dX8_readNumbers_1 : decode cX8_readNumbers 1 = .ok (.istore_n 3, 1) := by decide +kernel
theorem dX8_readNumbers_2 : decode cX8_readNumbers 2 = .ok (.iconst 0, 1) := by decide +kernel
theorem dX8_readNumbers_3 : decode cX8_readNumbers 3 = .ok (.istore 4, 2) := by decide +kernel
theorem dX8_readNumbers_5 : decode cX8_readNumbers 5 = .ok (.iload 4, 2) := by decide +kernel
theorem dX8_readNumbers_7 : decode cX8_readNumbers 7 = .ok (.iload_n 2, 1) := by decide +kernel
theorem dX8_readNumbers_8 : decode cX8_readNumbers 8 = .ok (.if_icmp .ge 65, 3) := by decide +kernel
theorem dX8_readNumbers_11 : decode cX8_readNumbers 11 = .ok (.aload_n 0, 1) := by decide +kernel
theorem dX8_readNumbers_12 : decode cX8_readNumbers 12 = .ok (.iload_n 3, 1) := by decide +kernel
theorem dX8_readNumbers_13 : decode cX8_readNumbers 13 = .ok (.bipush 32, 2) := by decide +kernel
theorem dX8_readNumbers_15 : decode cX8_readNumbers 15 = .ok (.invokevirtual 54, 3) := by decide +kernel
theorem dX8_readNumbers_18 : decode cX8_readNumbers 18 = .ok (.ifCond .ne 5, 3) := by decide +kernel
theorem dX8_readNumbers_21 : decode cX8_readNumbers 21 = .ok (.iconst (-1), 1) := by decide +kernel
theorem dX8_readNumbers_22 : decode cX8_readNumbers 22 = .ok (.ireturn, 1) := by decide +kernel
theorem dX8_readNumbers_23 : decode cX8_readNumbers 23 = .ok (.aload_n 0, 1) := by decide +kernel
theorem dX8_readNumbers_24 : decode cX8_readNumbers 24 = .ok (.iload_n 3, 1) := by decide +kernel
theorem dX8_readNumbers_25 : decode cX8_readNumbers 25 = .ok (.iconst 1, 1) := by decide +kernel
theorem dX8_readNumbers_26 : decode cX8_readNumbers 26 = .ok (.iadd, 1) := by decide +kernel
theorem dX8_readNumbers_27 : decode cX8_readNumbers 27 = .ok (.invokevirtual 58, 3) := by decide +kernel
theorem dX8_readNumbers_30 : decode cX8_readNumbers 30 = .ok (.istore 5, 2) := by decide +kernel
theorem dX8_readNumbers_32 : decode cX8_readNumbers 32 = .ok (.iload 5, 2) := by decide +kernel
theorem dX8_readNumbers_34 : decode cX8_readNumbers 34 = .ok (.iconst 1, 1) := by decide +kernel
theorem dX8_readNumbers_35 : decode cX8_readNumbers 35 = .ok (.iconst 4, 1) := by decide +kernel
theorem dX8_readNumbers_36 : decode cX8_readNumbers 36 = .ok (.invokestatic 19, 3) := by decide +kernel
theorem dX8_readNumbers_39 : decode cX8_readNumbers 39 = .ok (.ifCond .ne 5, 3) := by decide +kernel
theorem dX8_readNumbers_42 : decode cX8_readNumbers 42 = .ok (.iconst (-1), 1) := by decide +kernel
theorem dX8_readNumbers_43 : decode cX8_readNumbers 43 = .ok (.ireturn, 1) := by decide +kernel
theorem dX8_readNumbers_44 : decode cX8_readNumbers 44 = .ok (.aload_n 0, 1) := by decide +kernel
theorem dX8_readNumbers_45 : decode cX8_readNumbers 45 = .ok (.getfield 9, 3) := by decide +kernel
theorem dX8_readNumbers_48 : decode cX8_readNumbers 48 = .ok (.iload 4, 2) := by decide +kernel
theorem dX8_readNumbers_50 : decode cX8_readNumbers 50 = .ok (.aload_n 0, 1) := by decide +kernel
theorem dX8_readNumbers_51 : decode cX8_readNumbers 51 = .ok (.iload_n 3, 1) := by decide +kernel
theorem dX8_readNumbers_52 : decode cX8_readNumbers 52 = .ok (.iconst 1, 1) := by decide +kernel
theorem dX8_readNumbers_53 : decode cX8_readNumbers 53 = .ok (.iadd, 1) := by decide +kernel
theorem dX8_readNumbers_54 : decode cX8_readNumbers 54 = .ok (.iload 5, 2) := by decide +kernel
theorem dX8_readNumbers_56 : decode cX8_readNumbers 56 = .ok (.invokevirtual 62, 3) := by decide +kernel
theorem dX8_readNumbers_59 : decode cX8_readNumbers 59 = .ok (.iastore, 1) := by decide +kernel
theorem dX8_readNumbers_60 : decode cX8_readNumbers 60 = .ok (.iload_n 3, 1) := by decide +kernel
theorem dX8_readNumbers_61 : decode cX8_readNumbers 61 = .ok (.iconst 1, 1) := by decide +kernel
theorem dX8_readNumbers_62 : decode cX8_readNumbers 62 = .ok (.iload 5, 2) := by decide +kernel
theorem dX8_readNumbers_64 : decode cX8_readNumbers 64 = .ok (.iadd, 1) := by decide +kernel
theorem dX8_readNumbers_65 : decode cX8_readNumbers 65 = .ok (.iadd, 1) := by decide +kernel
theorem dX8_readNumbers_66 : decode cX8_readNumbers 66 = .ok (.istore_n 3, 1) := by decide +kernel
theorem dX8_readNumbers_67 : decode cX8_readNumbers 67 = .ok (.iinc 4 1, 3) := by decide +kernel
theorem dX8_readNumbers_70 : decode cX8_readNumbers 70 = .ok (.goto (-65), 3) := by decide +kernel
theorem dX8_readNumbers_73 : decode cX8_readNumbers 73 = .ok (.aload_n 0, 1) := by decide +kernel
theorem dX8_readNumbers_74 : decode cX8_readNumbers 74 = .ok (.iload_n 3, 1) := by decide +kernel
theorem dX8_readNumbers_75 : decode cX8_readNumbers 75 = .ok (.bipush 59, 2) := by decide +kernel
theorem dX8_readNumbers_77 : decode cX8_readNumbers 77 = .ok (.invokevirtual 54, 3) := by decide +kernel
theorem dX8_readNumbers_80 : decode cX8_readNumbers 80 = .ok (.ifCond .eq 9, 3) := by decide +kernel
theorem dX8_readNumbers_83 : decode cX8_readNumbers 83 = .ok (.iload_n 3, 1) := by decide +kernel
theorem dX8_readNumbers_84 : decode cX8_readNumbers 84 = .ok (.iconst 1, 1) := by decide +kernel
theorem dX8_readNumbers_85 : decode cX8_readNumbers 85 = .ok (.iadd, 1) := by decide +kernel
theorem dX8_readNumbers_86 : decode cX8_readNumbers 86 = .ok (.goto 4, 3) := by decide +kernel
theorem dX8_readNumbers_89 : decode cX8_readNumbers 89 = .ok (.iconst (-1), 1) := by decide +kernel
theorem dX8_readNumbers_90 : decode cX8_readNumbers 90 = .ok (.ireturn, 1) := by decide +kernel
set_option maxRecDepth 20000 in
theorem ggX8_digitsAt_X9_within : GoodIn wsX8_digitsAt wsX9_within := goodIn_r _ [5] (by decide +kernel) (by decide +kernel)
set_option maxRecDepth 20000 in
theorem gX8_digitsAt_X9_within_n19 : GoodIn wsX8_digitsAt (wsX9_within) := ggX8_digitsAt_X9_within
theorem dX8_digitsAt_0 : decode cX8_digitsAt 0 = .ok (.iconst 0, 1) := by decide +kernel
theorem dX8_digitsAt_1 : decode cX8_digitsAt 1 = .ok (.istore_n 2, 1) := by decide +kernel
theorem dX8_digitsAt_2 : decode cX8_digitsAt 2 = .ok (.iload_n 1, 1) := by decide +kernel
theorem dX8_digitsAt_3 : decode cX8_digitsAt 3 = .ok (.istore_n 3, 1) := by decide +kernel
theorem dX8_digitsAt_4 : decode cX8_digitsAt 4 = .ok (.iload_n 3, 1) := by decide +kernel
theorem dX8_digitsAt_5 : decode cX8_digitsAt 5 = .ok (.aload_n 0, 1) := by decide +kernel
theorem dX8_digitsAt_6 : decode cX8_digitsAt 6 = .ok (.getfield 23, 3) := by decide +kernel
theorem dX8_digitsAt_9 : decode cX8_digitsAt 9 = .ok (.if_icmp .ge 31, 3) := by decide +kernel
theorem dX8_digitsAt_12 : decode cX8_digitsAt 12 = .ok (.aload_n 0, 1) := by decide +kernel
theorem dX8_digitsAt_13 : decode cX8_digitsAt 13 = .ok (.getfield 15, 3) := by decide +kernel
theorem dX8_digitsAt_16 : decode cX8_digitsAt 16 = .ok (.iload_n 3, 1) := by decide +kernel
theorem dX8_digitsAt_17 : decode cX8_digitsAt 17 = .ok (.caload, 1) := by decide +kernel
theorem dX8_digitsAt_18 : decode cX8_digitsAt 18 = .ok (.bipush 48, 2) := by decide +kernel
theorem dX8_digitsAt_20 : decode cX8_digitsAt 20 = .ok (.bipush 57, 2) := by decide +kernel
theorem dX8_digitsAt_22 : decode cX8_digitsAt 22 = .ok (.invokestatic 19, 3) := by decide +kernel
theorem dX8_digitsAt_25 : decode cX8_digitsAt 25 = .ok (.ifCond .ne 6, 3) := by decide +kernel
theorem dX8_digitsAt_28 : decode cX8_digitsAt 28 = .ok (.goto 12, 3) := by decide +kernel
theorem dX8_digitsAt_31 : decode cX8_digitsAt 31 = .ok (.iinc 2 1, 3) := by decide +kernel
theorem dX8_digitsAt_34 : decode cX8_digitsAt 34 = .ok (.iinc 3 1, 3) := by decide +kernel
theorem dX8_digitsAt_37 : decode cX8_digitsAt 37 = .ok (.goto (-33), 3) := by decide +kernel
theorem dX8_digitsAt_40 : decode cX8_digitsAt 40 = .ok (.iload_n 2, 1) := by decide +kernel
theorem dX8_digitsAt_41 : decode cX8_digitsAt 41 = .ok (.ireturn, 1) := by decide +kernel
theorem dX8_numberAt_0 : decode cX8_numberAt 0 = .ok (.iconst 0, 1) := by decide +kernel
theorem dX8_numberAt_1 : decode cX8_numberAt 1 = .ok (.istore_n 3, 1) := by decide +kernel
theorem dX8_numberAt_2 : decode cX8_numberAt 2 = .ok (.iload_n 1, 1) := by decide +kernel
theorem dX8_numberAt_3 : decode cX8_numberAt 3 = .ok (.istore 4, 2) := by decide +kernel
theorem dX8_numberAt_5 : decode cX8_numberAt 5 = .ok (.iload 4, 2) := by decide +kernel
theorem dX8_numberAt_7 : decode cX8_numberAt 7 = .ok (.iload_n 1, 1) := by decide +kernel
theorem dX8_numberAt_8 : decode cX8_numberAt 8 = .ok (.iload_n 2, 1) := by decide +kernel
theorem dX8_numberAt_9 : decode cX8_numberAt 9 = .ok (.iadd, 1) := by decide +kernel
theorem dX8_numberAt_10 : decode cX8_numberAt 10 = .ok (.if_icmp .ge 25, 3) := by decide +kernel
theorem dX8_numberAt_13 : decode cX8_numberAt 13 = .ok (.iload_n 3, 1) := by decide +kernel
theorem dX8_numberAt_14 : decode cX8_numberAt 14 = .ok (.bipush 10, 2) := by decide +kernel
theorem dX8_numberAt_16 : decode cX8_numberAt 16 = .ok (.imul, 1) := by decide +kernel
theorem dX8_numberAt_17 : decode cX8_numberAt 17 = .ok (.aload_n 0, 1) := by decide +kernel
theorem dX8_numberAt_18 : decode cX8_numberAt 18 = .ok (.getfield 15, 3) := by decide +kernel
theorem dX8_numberAt_21 : decode cX8_numberAt 21 = .ok (.iload 4, 2) := by decide +kernel
theorem dX8_numberAt_23 : decode cX8_numberAt 23 = .ok (.caload, 1) := by decide +kernel
theorem dX8_numberAt_24 : decode cX8_numberAt 24 = .ok (.bipush 48, 2) := by decide +kernel
theorem dX8_numberAt_26 : decode cX8_numberAt 26 = .ok (.isub, 1) := by decide +kernel
theorem dX8_numberAt_27 : decode cX8_numberAt 27 = .ok (.iadd, 1) := by decide +kernel
theorem dX8_numberAt_28 : decode cX8_numberAt 28 = .ok (.istore_n 3, 1) := by decide +kernel
theorem dX8_numberAt_29 : decode cX8_numberAt 29 = .ok (.iinc 4 1, 3) := by decide +kernel
theorem dX8_numberAt_32 : decode cX8_numberAt 32 = .ok (.goto (-27), 3) := by decide +kernel
theorem dX8_numberAt_35 : decode cX8_numberAt 35 = .ok (.iload_n 3, 1) := by decide +kernel
theorem dX8_numberAt_36 : decode cX8_numberAt 36 = .ok (.ireturn, 1) := by decide +kernel
set_option maxRecDepth 20000 in
theorem ggX8_stands_X9_within : GoodIn wsX8_stands wsX9_within := goodIn_r _ [5] (by decide +kernel) (by decide +kernel)
set_option maxRecDepth 20000 in
theorem gX8_stands_X9_within_n19 : GoodIn wsX8_stands (wsX9_within) := ggX8_stands_X9_within
theorem dX8_stands_0 : decode cX8_stands 0 = .ok (.iload_n 1, 1) := by decide +kernel
theorem dX8_stands_1 : decode cX8_stands 1 = .ok (.iconst 0, 1) := by decide +kernel
theorem dX8_stands_2 : decode cX8_stands 2 = .ok (.aload_n 0, 1) := by decide +kernel
theorem dX8_stands_3 : decode cX8_stands 3 = .ok (.getfield 23, 3) := by decide +kernel
theorem dX8_stands_6 : decode cX8_stands 6 = .ok (.iconst 1, 1) := by decide +kernel
theorem dX8_stands_7 : decode cX8_stands 7 = .ok (.isub, 1) := by decide +kernel
theorem dX8_stands_8 : decode cX8_stands 8 = .ok (.invokestatic 19, 3) := by decide +kernel
theorem dX8_stands_11 : decode cX8_stands 11 = .ok (.ifCond .eq 17, 3) := by decide +kernel
theorem dX8_stands_14 : decode cX8_stands 14 = .ok (.aload_n 0, 1) := by decide +kernel
theorem dX8_stands_15 : decode cX8_stands 15 = .ok (.getfield 15, 3) := by decide +kernel
theorem dX8_stands_18 : decode cX8_stands 18 = .ok (.iload_n 1, 1) := by decide +kernel
theorem dX8_stands_19 : decode cX8_stands 19 = .ok (.caload, 1) := by decide +kernel
theorem dX8_stands_20 : decode cX8_stands 20 = .ok (.iload_n 2, 1) := by decide +kernel
theorem dX8_stands_21 : decode cX8_stands 21 = .ok (.if_icmp .ne 7, 3) := by decide +kernel
theorem dX8_stands_24 : decode cX8_stands 24 = .ok (.iconst 1, 1) := by decide +kernel
theorem dX8_stands_25 : decode cX8_stands 25 = .ok (.goto 4, 3) := by decide +kernel
theorem dX8_stands_28 : decode cX8_stands 28 = .ok (.iconst 0, 1) := by decide +kernel
theorem dX8_stands_29 : decode cX8_stands 29 = .ok (.ireturn, 1) := by decide +kernel
theorem dX8_wordOf_0 : decode cX8_wordOf 0 = .ok (.iload_n 0, 1) := by decide +kernel
theorem dX8_wordOf_1 : decode cX8_wordOf 1 = .ok (.tableswitch 57 0 5 #[39, 42, 45, 48, 51, 54], 39) := by decide +kernel
theorem dX8_wordOf_40 : decode cX8_wordOf 40 = .ok (.ldc 65, 2) := by decide +kernel
theorem dX8_wordOf_42 : decode cX8_wordOf 42 = .ok (.areturn, 1) := by decide +kernel
theorem dX8_wordOf_43 : decode cX8_wordOf 43 = .ok (.ldc 67, 2) := by decide +kernel
theorem dX8_wordOf_45 : decode cX8_wordOf 45 = .ok (.areturn, 1) := by decide +kernel
theorem dX8_wordOf_46 : decode cX8_wordOf 46 = .ok (.ldc 69, 2) := by decide +kernel
theorem dX8_wordOf_48 : decode cX8_wordOf 48 = .ok (.areturn, 1) := by decide +kernel
theorem dX8_wordOf_49 : decode cX8_wordOf 49 = .ok (.ldc 71, 2) := by decide +kernel
theorem dX8_wordOf_51 : decode cX8_wordOf 51 = .ok (.areturn, 1) := by decide +kernel
theorem dX8_wordOf_52 : decode cX8_wordOf 52 = .ok (.ldc 73, 2) := by decide +kernel
theorem dX8_wordOf_54 : decode cX8_wordOf 54 = .ok (.areturn, 1) := by decide +kernel
theorem dX8_wordOf_55 : decode cX8_wordOf 55 = .ok (.ldc 75, 2) := by decide +kernel
theorem dX8_wordOf_57 : decode cX8_wordOf 57 = .ok (.areturn, 1) := by decide +kernel
theorem dX8_wordOf_58 : decode cX8_wordOf 58 = .ok (.ldc 77, 2) := by decide +kernel
theorem dX8_wordOf_60 : decode cX8_wordOf 60 = .ok (.areturn, 1) := by decide +kernel
set_option maxRecDepth 20000 in
theorem ggX9_init_X2_init : GoodIn wsX9_init wsX2_init := goodIn_r _ [26, 27, 2, 3, 28, 29, 30, 31, 32, 33, 34, 35, 36, 37, 38, 39, 40, 41, 42, 43, 44, 45, 46, 47, 48, 49, 50, 51, 52, 53, 54, 55, 56, 57, 58, 59, 60, 61, 62, 63, 64, 65, 66, 67, 68, 69, 70, 71, 72, 73, 74, 75, 76, 77, 137, 138, 139, 140, 141, 142, 102, 103, 104, 105, 106, 107, 108, 109, 110, 111, 112, 143, 144, 145, 146, 147, 148, 149, 150, 151, 152, 153, 154, 155, 156, 157, 158, 159, 160] (by decide +kernel) (by decide +kernel)
set_option maxRecDepth 20000 in
theorem gX9_init_X2_init_n9 : GoodIn wsX9_init (wsX2_init) := ggX9_init_X2_init
set_option maxRecDepth 20000 in
theorem ggX9_init_X5_init : GoodIn wsX9_init wsX5_init := goodIn_r _ [80, 81, 2, 3, 82, 83, 5, 6, 25, 26, 27, 28, 29, 30, 31, 32, 33, 34, 35, 36, 37, 38, 39, 40, 41, 42, 43, 44, 45, 46, 47, 48, 49, 50, 51, 52, 53, 54, 55, 56, 57, 58, 59, 60, 61, 62, 63, 64, 65, 66, 67, 68, 69, 70, 71, 72, 73, 74, 75, 76, 77, 119, 120, 102, 103, 104, 105, 106, 107, 108, 109, 110, 111, 112, 137, 138, 139, 140, 141, 142, 143, 144, 145, 146, 147, 148, 149, 150, 151, 152, 153, 154, 155, 156, 157, 158, 159, 160] (by decide +kernel) (by decide +kernel)
set_option maxRecDepth 20000 in
theorem gX9_init_X5_init : GoodIn wsX9_init (wsX5_init) := ggX9_init_X5_init
set_option maxRecDepth 20000 in
theorem ggX9_init_X3_init : GoodIn wsX9_init wsX3_init := goodIn_r _ [85, 86, 2, 3, 44, 87, 88, 89, 90, 91, 92, 121, 122, 123, 124, 125, 126, 127, 128] (by decide +kernel) (by decide +kernel)
set_option maxRecDepth 20000 in
theorem gX9_init_X3_init_n28 : GoodIn wsX9_init (wsX3_init) := ggX9_init_X3_init
set_option maxRecDepth 20000 in
theorem ggX9_init_X8_init : GoodIn wsX9_init wsX8_init := goodIn_r _ [94, 95, 2, 3, 44, 96, 97, 98, 129, 130, 131, 132] (by decide +kernel) (by decide +kernel)
set_option maxRecDepth 20000 in
theorem gX9_init_X8_init_n35 : GoodIn wsX9_init (wsX8_init) := ggX9_init_X8_init
set_option maxRecDepth 20000 in
theorem ggX9_init_X6_init : GoodIn wsX9_init wsX6_init := goodIn_r _ [100, 101, 2, 3] (by decide +kernel) (by decide +kernel)
set_option maxRecDepth 20000 in
theorem gX9_init_X6_init_n42 : GoodIn wsX9_init (wsX6_init) := ggX9_init_X6_init
theorem dX9_init_0 : decode cX9_init 0 = .ok (.aload_n 0, 1) := by decide +kernel
theorem dX9_init_1 : decode cX9_init 1 = .ok (.invokespecial 1, 3) := by decide +kernel
theorem dX9_init_4 : decode cX9_init 4 = .ok (.aload_n 0, 1) := by decide +kernel
theorem dX9_init_5 : decode cX9_init 5 = .ok (.new 7, 3) := by decide +kernel
theorem dX9_init_8 : decode cX9_init 8 = .ok (.dup, 1) := by decide +kernel
theorem dX9_init_9 : decode cX9_init 9 = .ok (.invokespecial 9, 3) := by decide +kernel
theorem dX9_init_12 : decode cX9_init 12 = .ok (.putfield 10, 3) := by decide +kernel
theorem dX9_init_15 : decode cX9_init 15 = .ok (.aload_n 0, 1) := by decide +kernel
theorem dX9_init_16 : decode cX9_init 16 = .ok (.new 7, 3) := by decide +kernel
theorem dX9_init_19 : decode cX9_init 19 = .ok (.dup, 1) := by decide +kernel
theorem dX9_init_20 : decode cX9_init 20 = .ok (.invokespecial 9, 3) := by decide +kernel
theorem dX9_init_23 : decode cX9_init 23 = .ok (.putfield 16, 3) := by decide +kernel
theorem dX9_init_26 : decode cX9_init 26 = .ok (.aload_n 0, 1) := by decide +kernel
theorem dX9_init_27 : decode cX9_init 27 = .ok (.new 19, 3) := by decide +kernel
theorem dX9_init_30 : decode cX9_init 30 = .ok (.dup, 1) := by decide +kernel
theorem dX9_init_31 : decode cX9_init 31 = .ok (.invokespecial 21, 3) := by decide +kernel
theorem dX9_init_34 : decode cX9_init 34 = .ok (.putfield 22, 3) := by decide +kernel
theorem dX9_init_37 : decode cX9_init 37 = .ok (.aload_n 0, 1) := by decide +kernel
theorem dX9_init_38 : decode cX9_init 38 = .ok (.new 26, 3) := by decide +kernel
theorem dX9_init_41 : decode cX9_init 41 = .ok (.dup, 1) := by decide +kernel
theorem dX9_init_42 : decode cX9_init 42 = .ok (.invokespecial 28, 3) := by decide +kernel
theorem dX9_init_45 : decode cX9_init 45 = .ok (.putfield 29, 3) := by decide +kernel
theorem dX9_init_48 : decode cX9_init 48 = .ok (.aload_n 0, 1) := by decide +kernel
theorem dX9_init_49 : decode cX9_init 49 = .ok (.new 33, 3) := by decide +kernel
theorem dX9_init_52 : decode cX9_init 52 = .ok (.dup, 1) := by decide +kernel
theorem dX9_init_53 : decode cX9_init 53 = .ok (.invokespecial 35, 3) := by decide +kernel
theorem dX9_init_56 : decode cX9_init 56 = .ok (.putfield 36, 3) := by decide +kernel
theorem dX9_init_59 : decode cX9_init 59 = .ok (.aload_n 0, 1) := by decide +kernel
theorem dX9_init_60 : decode cX9_init 60 = .ok (.new 40, 3) := by decide +kernel
theorem dX9_init_63 : decode cX9_init 63 = .ok (.dup, 1) := by decide +kernel
theorem dX9_init_64 : decode cX9_init 64 = .ok (.invokespecial 42, 3) := by decide +kernel
theorem dX9_init_67 : decode cX9_init 67 = .ok (.putfield 43, 3) := by decide +kernel
theorem dX9_init_70 : decode cX9_init 70 = .ok (.return_, 1) := by decide +kernel
set_option maxRecDepth 20000 in
theorem ggX9_shareClass_X9_newDraft : GoodIn wsX9_shareClass wsX9_newDraft := goodIn_r _ [5, 6, 7, 8, 9, 10, 11, 12, 13, 14, 15, 16, 17, 18, 19, 20, 21, 22, 23, 24, 25, 26, 27, 28, 29, 30, 31, 32, 33, 34, 35, 4, 36, 37, 38, 39, 40, 41, 42, 43, 44, 45, 46, 47, 48, 49, 50, 51, 52, 53, 54, 55, 56, 57, 58, 59, 60, 61, 62, 63, 64, 65, 66, 67, 68, 69, 70, 71, 72, 73, 74, 75, 76, 77, 107, 108, 109, 110, 111, 112, 113, 114, 115, 116, 117, 118, 119, 120, 121, 122, 123, 124, 125, 126, 127, 128, 129, 130, 131, 132, 133, 134, 135, 136, 137, 138, 139, 140, 141, 142, 143, 144, 145, 146, 147] (by decide +kernel) (by decide +kernel)
set_option maxRecDepth 20000 in
theorem gX9_shareClass_X9_newDraft : GoodIn wsX9_shareClass (wsV RX9 47 RX9 yX9_newDraft wsX9_newDraft) := goodIn_app (goodIn_of _ (by decide +kernel)) ggX9_shareClass_X9_newDraft
set_option maxRecDepth 20000 in
theorem ggX9_shareClass_X2_addClass : GoodIn wsX9_shareClass wsX2_addClass := goodIn_r _ [81, 13, 82, 83, 84, 85, 86, 87, 88, 4, 89, 113, 114, 115, 116, 117, 118, 119, 120, 121, 122, 123, 124, 125, 126, 127, 128, 129] (by decide +kernel) (by decide +kernel)
set_option maxRecDepth 20000 in
theorem gX9_shareClass_X2_addClass : GoodIn wsX9_shareClass (wsV RX9 51 RX2 yX2_addClass wsX2_addClass) := goodIn_app (goodIn_of _ (by decide +kernel)) ggX9_shareClass_X2_addClass
set_option maxRecDepth 20000 in
theorem ggX9_shareClass_X9_accepted : GoodIn wsX9_shareClass wsX9_accepted := goodIn_r _ [93, 94, 7, 6, 95, 96, 97, 98, 99, 100, 101, 102, 103, 104, 105, 106, 9, 10, 11, 12, 13, 14, 15, 16, 17, 18, 19, 20, 21, 22, 23, 24, 25, 26, 27, 28, 29, 30, 31, 32, 33, 34, 35, 4, 36, 37, 38, 39, 40, 41, 42, 43, 44, 45, 46, 47, 48, 49, 50, 51, 52, 53, 54, 55, 56, 57, 58, 59, 60, 61, 62, 63, 64, 65, 66, 67, 68, 69, 70, 71, 72, 73, 74, 75, 76, 77, 8, 107, 108, 109, 110, 111, 112, 148, 149, 113, 114, 115, 116, 117, 118, 119, 120, 121, 122, 123, 124, 125, 126, 127, 128, 129, 130, 131, 132, 133, 134, 135, 136, 137, 138, 139, 140, 141, 142, 143, 144, 145, 146, 147] (by decide +kernel) (by decide +kernel)
set_option maxRecDepth 20000 in
theorem gX9_shareClass_X9_accepted : GoodIn wsX9_shareClass (wsV RX9 55 RX9 yX9_accepted wsX9_accepted) := goodIn_app (goodIn_of _ (by decide +kernel)) ggX9_shareClass_X9_accepted
theorem dX9_shareClass_0 : decode cX9_shareClass 0 = .ok (.aload_n 0, 1) := by decide +kernel
theorem dX9_shareClass_1 : decode cX9_shareClass 1 = .ok (.aload_n 0, 1) := by decide +kernel
theorem dX9_shareClass_2 : decode cX9_shareClass 2 = .ok (.invokevirtual 47, 3) := by decide +kernel
theorem dX9_shareClass_5 : decode cX9_shareClass 5 = .ok (.iload_n 1, 1) := by decide +kernel
theorem dX9_shareClass_6 : decode cX9_shareClass 6 = .ok (.iload_n 2, 1) := by decide +kernel
theorem dX9_shareClass_7 : decode cX9_shareClass 7 = .ok (.iload_n 3, 1) := by decide +kernel
theorem dX9_shareClass_8 : decode cX9_shareClass 8 = .ok (.iload 4, 2) := by decide +kernel
theorem dX9_shareClass_10 : decode cX9_shareClass 10 = .ok (.iload 5, 2) := by decide +kernel
theorem dX9_shareClass_12 : decode cX9_shareClass 12 = .ok (.invokevirtual 51, 3) := by decide +kernel
theorem dX9_shareClass_15 : decode cX9_shareClass 15 = .ok (.invokevirtual 55, 3) := by decide +kernel
theorem dX9_shareClass_18 : decode cX9_shareClass 18 = .ok (.ireturn, 1) := by decide +kernel
set_option maxRecDepth 20000 in
theorem ggX9_holder_X9_newDraft : GoodIn wsX9_holder wsX9_newDraft := goodIn_r _ [5, 6, 7, 8, 9, 10, 11, 12, 13, 14, 15, 16, 17, 18, 19, 20, 21, 22, 23, 24, 25, 26, 27, 28, 29, 30, 31, 32, 33, 34, 35, 4, 36, 37, 38, 39, 40, 41, 42, 43, 44, 45, 46, 47, 48, 49, 50, 51, 52, 53, 54, 55, 56, 57, 58, 59, 60, 61, 62, 63, 64, 65, 66, 67, 68, 69, 70, 71, 72, 73, 74, 75, 76, 77, 99, 100, 101, 102, 103, 104, 105, 106, 107, 108, 109, 110, 111, 112, 113, 114, 115, 116, 117, 118, 119, 120, 121, 122, 123, 124, 125, 126, 127, 128, 129, 130, 131, 132, 133, 134, 135, 136, 137, 138, 139] (by decide +kernel) (by decide +kernel)
set_option maxRecDepth 20000 in
theorem gX9_holder_X9_newDraft : GoodIn wsX9_holder (wsV RX9 47 RX9 yX9_newDraft wsX9_newDraft) := goodIn_app (goodIn_of _ (by decide +kernel)) ggX9_holder_X9_newDraft
set_option maxRecDepth 20000 in
theorem ggX9_holder_X2_addHolder : GoodIn wsX9_holder wsX2_addHolder := goodIn_r _ [81, 17, 18, 105, 106, 107, 108, 109, 110, 111, 112, 113, 114, 115] (by decide +kernel) (by decide +kernel)
set_option maxRecDepth 20000 in
theorem gX9_holder_X2_addHolder : GoodIn wsX9_holder (wsV RX9 59 RX2 yX2_addHolder wsX2_addHolder) := goodIn_app (goodIn_of _ (by decide +kernel)) ggX9_holder_X2_addHolder
set_option maxRecDepth 20000 in
theorem ggX9_holder_X9_accepted : GoodIn wsX9_holder wsX9_accepted := goodIn_r _ [85, 86, 7, 6, 87, 88, 89, 90, 91, 92, 93, 94, 95, 96, 97, 98, 9, 10, 11, 12, 13, 14, 15, 16, 17, 18, 19, 20, 21, 22, 23, 24, 25, 26, 27, 28, 29, 30, 31, 32, 33, 34, 35, 4, 36, 37, 38, 39, 40, 41, 42, 43, 44, 45, 46, 47, 48, 49, 50, 51, 52, 53, 54, 55, 56, 57, 58, 59, 60, 61, 62, 63, 64, 65, 66, 67, 68, 69, 70, 71, 72, 73, 74, 75, 76, 77, 8, 99, 100, 101, 102, 103, 104, 140, 141, 105, 106, 107, 108, 109, 110, 111, 112, 113, 114, 115, 116, 117, 118, 119, 120, 121, 122, 123, 124, 125, 126, 127, 128, 129, 130, 131, 132, 133, 134, 135, 136, 137, 138, 139] (by decide +kernel) (by decide +kernel)
set_option maxRecDepth 20000 in
theorem gX9_holder_X9_accepted : GoodIn wsX9_holder (wsV RX9 55 RX9 yX9_accepted wsX9_accepted) := goodIn_app (goodIn_of _ (by decide +kernel)) ggX9_holder_X9_accepted
theorem dX9_holder_0 : decode cX9_holder 0 = .ok (.aload_n 0, 1) := by decide +kernel
theorem dX9_holder_1 : decode cX9_holder 1 = .ok (.aload_n 0, 1) := by decide +kernel
theorem dX9_holder_2 : decode cX9_holder 2 = .ok (.invokevirtual 47, 3) := by decide +kernel
theorem dX9_holder_5 : decode cX9_holder 5 = .ok (.invokevirtual 59, 3) := by decide +kernel
theorem dX9_holder_8 : decode cX9_holder 8 = .ok (.invokevirtual 55, 3) := by decide +kernel
theorem dX9_holder_11 : decode cX9_holder 11 = .ok (.ireturn, 1) := by decide +kernel
set_option maxRecDepth 20000 in
theorem ggX9_issue_X9_newDraft : GoodIn wsX9_issue wsX9_newDraft := goodIn_r _ [5, 6, 7, 8, 9, 10, 11, 12, 13, 14, 15, 16, 17, 18, 19, 20, 21, 22, 23, 24, 25, 26, 27, 28, 29, 30, 31, 32, 33, 34, 35, 4, 36, 37, 38, 39, 40, 41, 42, 43, 44, 45, 46, 47, 48, 49, 50, 51, 52, 53, 54, 55, 56, 57, 58, 59, 60, 61, 62, 63, 64, 65, 66, 67, 68, 69, 70, 71, 72, 73, 74, 75, 76, 77, 119, 120, 121, 122, 123, 124, 125, 126, 127, 128, 129, 130, 131, 132, 133, 134, 135, 136, 137, 138, 139, 140, 141, 142, 143, 144, 145, 146, 147, 148, 149, 150, 151, 152, 153, 154, 155, 156, 157, 158, 159] (by decide +kernel) (by decide +kernel)
set_option maxRecDepth 20000 in
theorem gX9_issue_X9_newDraft : GoodIn wsX9_issue (wsV RX9 47 RX9 yX9_newDraft wsX9_newDraft) := goodIn_app (goodIn_of _ (by decide +kernel)) ggX9_issue_X9_newDraft
set_option maxRecDepth 20000 in
theorem ggX9_issue_X2_issueShares : GoodIn wsX9_issue wsX2_issueShares := goodIn_r _ [81, 16, 82, 14, 20, 19, 83, 84, 85, 11, 86, 17, 87, 4, 88, 89, 90, 91, 92, 13, 93, 94, 95, 96, 48, 97, 52, 98, 99, 100, 101, 50, 51, 53, 125, 126, 127, 128, 129, 130, 131, 132, 133, 134, 135, 154, 155, 156, 157, 158, 159, 136, 137, 138, 139, 140, 141, 142, 143, 144, 145] (by decide +kernel) (by decide +kernel)
set_option maxRecDepth 20000 in
theorem gX9_issue_X2_issueShares : GoodIn wsX9_issue (wsV RX9 63 RX2 yX2_issueShares wsX2_issueShares) := goodIn_app (goodIn_of _ (by decide +kernel)) ggX9_issue_X2_issueShares
set_option maxRecDepth 20000 in
theorem ggX9_issue_X9_accepted : GoodIn wsX9_issue wsX9_accepted := goodIn_r _ [105, 106, 7, 6, 107, 108, 109, 110, 111, 112, 113, 114, 115, 116, 117, 118, 9, 10, 11, 12, 13, 14, 15, 16, 17, 18, 19, 20, 21, 22, 23, 24, 25, 26, 27, 28, 29, 30, 31, 32, 33, 34, 35, 4, 36, 37, 38, 39, 40, 41, 42, 43, 44, 45, 46, 47, 48, 49, 50, 51, 52, 53, 54, 55, 56, 57, 58, 59, 60, 61, 62, 63, 64, 65, 66, 67, 68, 69, 70, 71, 72, 73, 74, 75, 76, 77, 8, 119, 120, 121, 122, 123, 124, 160, 161, 125, 126, 127, 128, 129, 130, 131, 132, 133, 134, 135, 136, 137, 138, 139, 140, 141, 142, 143, 144, 145, 146, 147, 148, 149, 150, 151, 152, 153, 154, 155, 156, 157, 158, 159] (by decide +kernel) (by decide +kernel)
set_option maxRecDepth 20000 in
theorem gX9_issue_X9_accepted : GoodIn wsX9_issue (wsV RX9 55 RX9 yX9_accepted wsX9_accepted) := goodIn_app (goodIn_of _ (by decide +kernel)) ggX9_issue_X9_accepted
theorem dX9_issue_0 : decode cX9_issue 0 = .ok (.aload_n 0, 1) := by decide +kernel
theorem dX9_issue_1 : decode cX9_issue 1 = .ok (.aload_n 0, 1) := by decide +kernel
theorem dX9_issue_2 : decode cX9_issue 2 = .ok (.invokevirtual 47, 3) := by decide +kernel
theorem dX9_issue_5 : decode cX9_issue 5 = .ok (.iload_n 1, 1) := by decide +kernel
theorem dX9_issue_6 : decode cX9_issue 6 = .ok (.iload_n 2, 1) := by decide +kernel
theorem dX9_issue_7 : decode cX9_issue 7 = .ok (.iload_n 3, 1) := by decide +kernel
theorem dX9_issue_8 : decode cX9_issue 8 = .ok (.invokevirtual 63, 3) := by decide +kernel
theorem dX9_issue_11 : decode cX9_issue 11 = .ok (.invokevirtual 55, 3) := by decide +kernel
theorem dX9_issue_14 : decode cX9_issue 14 = .ok (.ireturn, 1) := by decide +kernel
set_option maxRecDepth 20000 in
theorem ggX9_split_X9_newDraft : GoodIn wsX9_split wsX9_newDraft := goodIn_r _ [5, 6, 7, 8, 9, 10, 11, 12, 13, 14, 15, 16, 17, 18, 19, 20, 21, 22, 23, 24, 25, 26, 27, 28, 29, 30, 31, 32, 33, 34, 35, 4, 36, 37, 38, 39, 40, 41, 42, 43, 44, 45, 46, 47, 48, 49, 50, 51, 52, 53, 54, 55, 56, 57, 58, 59, 60, 61, 62, 63, 64, 65, 66, 67, 68, 69, 70, 71, 72, 73, 74, 75, 76, 77, 121, 122, 123, 124, 125, 126, 127, 128, 129, 130, 131, 132, 133, 134, 135, 136, 137, 138, 139, 140, 141, 142, 143, 144, 145, 146, 147, 148, 149, 150, 151, 152, 153, 154, 155, 156, 157, 158, 159, 160, 161] (by decide +kernel) (by decide +kernel)
set_option maxRecDepth 20000 in
theorem gX9_split_X9_newDraft : GoodIn wsX9_split (wsV RX9 47 RX9 yX9_newDraft wsX9_newDraft) := goodIn_app (goodIn_of _ (by decide +kernel)) ggX9_split_X9_newDraft
set_option maxRecDepth 20000 in
theorem ggX9_split_X2_splitCertificate : GoodIn wsX9_split wsX2_splitCertificate := goodIn_r _ [81, 14, 82, 83, 16, 84, 85, 19, 86, 87, 88, 48, 89, 52, 90, 4, 91, 92, 93, 94, 11, 95, 17, 96, 97, 98, 99, 100, 101, 102, 103, 50, 51, 53, 127, 128, 129, 130, 131, 132, 133, 134, 135, 136, 137, 144, 145, 146, 147, 156, 157, 158, 159, 160, 161] (by decide +kernel) (by decide +kernel)
set_option maxRecDepth 20000 in
theorem gX9_split_X2_splitCertificate : GoodIn wsX9_split (wsV RX9 67 RX2 yX2_splitCertificate wsX2_splitCertificate) := goodIn_app (goodIn_of _ (by decide +kernel)) ggX9_split_X2_splitCertificate
set_option maxRecDepth 20000 in
theorem ggX9_split_X9_accepted : GoodIn wsX9_split wsX9_accepted := goodIn_r _ [107, 108, 7, 6, 109, 110, 111, 112, 113, 114, 115, 116, 117, 118, 119, 120, 9, 10, 11, 12, 13, 14, 15, 16, 17, 18, 19, 20, 21, 22, 23, 24, 25, 26, 27, 28, 29, 30, 31, 32, 33, 34, 35, 4, 36, 37, 38, 39, 40, 41, 42, 43, 44, 45, 46, 47, 48, 49, 50, 51, 52, 53, 54, 55, 56, 57, 58, 59, 60, 61, 62, 63, 64, 65, 66, 67, 68, 69, 70, 71, 72, 73, 74, 75, 76, 77, 8, 121, 122, 123, 124, 125, 126, 162, 163, 127, 128, 129, 130, 131, 132, 133, 134, 135, 136, 137, 138, 139, 140, 141, 142, 143, 144, 145, 146, 147, 148, 149, 150, 151, 152, 153, 154, 155, 156, 157, 158, 159, 160, 161] (by decide +kernel) (by decide +kernel)
set_option maxRecDepth 20000 in
theorem gX9_split_X9_accepted : GoodIn wsX9_split (wsV RX9 55 RX9 yX9_accepted wsX9_accepted) := goodIn_app (goodIn_of _ (by decide +kernel)) ggX9_split_X9_accepted
theorem dX9_split_0 : decode cX9_split 0 = .ok (.aload_n 0, 1) := by decide +kernel
theorem dX9_split_1 : decode cX9_split 1 = .ok (.aload_n 0, 1) := by decide +kernel
theorem dX9_split_2 : decode cX9_split 2 = .ok (.invokevirtual 47, 3) := by decide +kernel
theorem dX9_split_5 : decode cX9_split 5 = .ok (.iload_n 1, 1) := by decide +kernel
theorem dX9_split_6 : decode cX9_split 6 = .ok (.iload_n 2, 1) := by decide +kernel
theorem dX9_split_7 : decode cX9_split 7 = .ok (.iload_n 3, 1) := by decide +kernel
theorem dX9_split_8 : decode cX9_split 8 = .ok (.invokevirtual 67, 3) := by decide +kernel
theorem dX9_split_11 : decode cX9_split 11 = .ok (.invokevirtual 55, 3) := by decide +kernel
theorem dX9_split_14 : decode cX9_split 14 = .ok (.ireturn, 1) := by decide +kernel
set_option maxRecDepth 20000 in
theorem ggX9_buyBack_X9_newDraft : GoodIn wsX9_buyBack wsX9_newDraft := goodIn_r _ [5, 6, 7, 8, 9, 10, 11, 12, 13, 14, 15, 16, 17, 18, 19, 20, 21, 22, 23, 24, 25, 26, 27, 28, 29, 30, 31, 32, 33, 34, 35, 4, 36, 37, 38, 39, 40, 41, 42, 43, 44, 45, 46, 47, 48, 49, 50, 51, 52, 53, 54, 55, 56, 57, 58, 59, 60, 61, 62, 63, 64, 65, 66, 67, 68, 69, 70, 71, 72, 73, 74, 75, 76, 77, 107, 108, 109, 110, 111, 112, 113, 114, 115, 116, 117, 118, 119, 120, 121, 122, 123, 124, 125, 126, 127, 128, 129, 130, 131, 132, 133, 134, 135, 136, 137, 138, 139, 140, 141, 142, 143, 144, 145, 146, 147] (by decide +kernel) (by decide +kernel)
set_option maxRecDepth 20000 in
theorem gX9_buyBack_X9_newDraft : GoodIn wsX9_buyBack (wsV RX9 47 RX9 yX9_newDraft wsX9_newDraft) := goodIn_app (goodIn_of _ (by decide +kernel)) ggX9_buyBack_X9_newDraft
set_option maxRecDepth 20000 in
theorem ggX9_buyBack_X2_buySharesBack : GoodIn wsX9_buyBack wsX2_buySharesBack := goodIn_r _ [81, 14, 82, 16, 83, 21, 84, 85, 86, 48, 87, 52, 88, 4, 89, 113, 114, 115, 116, 117, 118, 119, 120, 121, 122, 123, 130, 131, 132, 133, 142, 143, 144, 145, 146, 147] (by decide +kernel) (by decide +kernel)
set_option maxRecDepth 20000 in
theorem gX9_buyBack_X2_buySharesBack : GoodIn wsX9_buyBack (wsV RX9 70 RX2 yX2_buySharesBack wsX2_buySharesBack) := goodIn_app (goodIn_of _ (by decide +kernel)) ggX9_buyBack_X2_buySharesBack
set_option maxRecDepth 20000 in
theorem ggX9_buyBack_X9_accepted : GoodIn wsX9_buyBack wsX9_accepted := goodIn_r _ [93, 94, 7, 6, 95, 96, 97, 98, 99, 100, 101, 102, 103, 104, 105, 106, 9, 10, 11, 12, 13, 14, 15, 16, 17, 18, 19, 20, 21, 22, 23, 24, 25, 26, 27, 28, 29, 30, 31, 32, 33, 34, 35, 4, 36, 37, 38, 39, 40, 41, 42, 43, 44, 45, 46, 47, 48, 49, 50, 51, 52, 53, 54, 55, 56, 57, 58, 59, 60, 61, 62, 63, 64, 65, 66, 67, 68, 69, 70, 71, 72, 73, 74, 75, 76, 77, 8, 107, 108, 109, 110, 111, 112, 148, 149, 113, 114, 115, 116, 117, 118, 119, 120, 121, 122, 123, 124, 125, 126, 127, 128, 129, 130, 131, 132, 133, 134, 135, 136, 137, 138, 139, 140, 141, 142, 143, 144, 145, 146, 147] (by decide +kernel) (by decide +kernel)
set_option maxRecDepth 20000 in
theorem gX9_buyBack_X9_accepted : GoodIn wsX9_buyBack (wsV RX9 55 RX9 yX9_accepted wsX9_accepted) := goodIn_app (goodIn_of _ (by decide +kernel)) ggX9_buyBack_X9_accepted
theorem dX9_buyBack_0 : decode cX9_buyBack 0 = .ok (.aload_n 0, 1) := by decide +kernel
theorem dX9_buyBack_1 : decode cX9_buyBack 1 = .ok (.aload_n 0, 1) := by decide +kernel
theorem dX9_buyBack_2 : decode cX9_buyBack 2 = .ok (.invokevirtual 47, 3) := by decide +kernel
theorem dX9_buyBack_5 : decode cX9_buyBack 5 = .ok (.iload_n 1, 1) := by decide +kernel
theorem dX9_buyBack_6 : decode cX9_buyBack 6 = .ok (.iload_n 2, 1) := by decide +kernel
theorem dX9_buyBack_7 : decode cX9_buyBack 7 = .ok (.invokevirtual 70, 3) := by decide +kernel
theorem dX9_buyBack_10 : decode cX9_buyBack 10 = .ok (.invokevirtual 55, 3) := by decide +kernel
theorem dX9_buyBack_13 : decode cX9_buyBack 13 = .ok (.ireturn, 1) := by decide +kernel
set_option maxRecDepth 20000 in
theorem ggX9_grant_X9_newDraft : GoodIn wsX9_grant wsX9_newDraft := goodIn_r _ [5, 6, 7, 8, 9, 10, 11, 12, 13, 14, 15, 16, 17, 18, 19, 20, 21, 22, 23, 24, 25, 26, 27, 28, 29, 30, 31, 32, 33, 34, 35, 4, 36, 37, 38, 39, 40, 41, 42, 43, 44, 45, 46, 47, 48, 49, 50, 51, 52, 53, 54, 55, 56, 57, 58, 59, 60, 61, 62, 63, 64, 65, 66, 67, 68, 69, 70, 71, 72, 73, 74, 75, 76, 77, 113, 114, 115, 116, 117, 118, 119, 120, 121, 122, 123, 124, 125, 126, 127, 128, 129, 130, 131, 132, 133, 134, 135, 136, 137, 138, 139, 140, 141, 142, 143, 144, 145, 146, 147, 148, 149, 150, 151, 152, 153] (by decide +kernel) (by decide +kernel)
set_option maxRecDepth 20000 in
theorem gX9_grant_X9_newDraft : GoodIn wsX9_grant (wsV RX9 47 RX9 yX9_newDraft wsX9_newDraft) := goodIn_app (goodIn_of _ (by decide +kernel)) ggX9_grant_X9_newDraft
set_option maxRecDepth 20000 in
theorem ggX9_grant_X2_addGrant : GoodIn wsX9_grant wsX2_addGrant := goodIn_r _ [81, 18, 15, 82, 83, 84, 85, 86, 87, 88, 19, 89, 90, 91, 92, 11, 93, 17, 94, 4, 95, 119, 120, 121, 122, 123, 124, 125, 126, 127, 128, 129, 140, 141, 142, 143, 144, 145, 146, 147] (by decide +kernel) (by decide +kernel)
set_option maxRecDepth 20000 in
theorem gX9_grant_X2_addGrant : GoodIn wsX9_grant (wsV RX9 74 RX2 yX2_addGrant wsX2_addGrant) := goodIn_app (goodIn_of _ (by decide +kernel)) ggX9_grant_X2_addGrant
set_option maxRecDepth 20000 in
theorem ggX9_grant_X9_accepted : GoodIn wsX9_grant wsX9_accepted := goodIn_r _ [99, 100, 7, 6, 101, 102, 103, 104, 105, 106, 107, 108, 109, 110, 111, 112, 9, 10, 11, 12, 13, 14, 15, 16, 17, 18, 19, 20, 21, 22, 23, 24, 25, 26, 27, 28, 29, 30, 31, 32, 33, 34, 35, 4, 36, 37, 38, 39, 40, 41, 42, 43, 44, 45, 46, 47, 48, 49, 50, 51, 52, 53, 54, 55, 56, 57, 58, 59, 60, 61, 62, 63, 64, 65, 66, 67, 68, 69, 70, 71, 72, 73, 74, 75, 76, 77, 8, 113, 114, 115, 116, 117, 118, 154, 155, 119, 120, 121, 122, 123, 124, 125, 126, 127, 128, 129, 130, 131, 132, 133, 134, 135, 136, 137, 138, 139, 140, 141, 142, 143, 144, 145, 146, 147, 148, 149, 150, 151, 152, 153] (by decide +kernel) (by decide +kernel)
set_option maxRecDepth 20000 in
theorem gX9_grant_X9_accepted : GoodIn wsX9_grant (wsV RX9 55 RX9 yX9_accepted wsX9_accepted) := goodIn_app (goodIn_of _ (by decide +kernel)) ggX9_grant_X9_accepted
theorem dX9_grant_0 : decode cX9_grant 0 = .ok (.aload_n 0, 1) := by decide +kernel
theorem dX9_grant_1 : decode cX9_grant 1 = .ok (.aload_n 0, 1) := by decide +kernel
theorem dX9_grant_2 : decode cX9_grant 2 = .ok (.invokevirtual 47, 3) := by decide +kernel
theorem dX9_grant_5 : decode cX9_grant 5 = .ok (.iload_n 1, 1) := by decide +kernel
theorem dX9_grant_6 : decode cX9_grant 6 = .ok (.iload_n 2, 1) := by decide +kernel
theorem dX9_grant_7 : decode cX9_grant 7 = .ok (.iload_n 3, 1) := by decide +kernel
theorem dX9_grant_8 : decode cX9_grant 8 = .ok (.iload 4, 2) := by decide +kernel
theorem dX9_grant_10 : decode cX9_grant 10 = .ok (.iload 5, 2) := by decide +kernel
theorem dX9_grant_12 : decode cX9_grant 12 = .ok (.invokevirtual 74, 3) := by decide +kernel
theorem dX9_grant_15 : decode cX9_grant 15 = .ok (.invokevirtual 55, 3) := by decide +kernel
theorem dX9_grant_18 : decode cX9_grant 18 = .ok (.ireturn, 1) := by decide +kernel
set_option maxRecDepth 20000 in
theorem ggX9_take_X9_newDraft : GoodIn wsX9_take wsX9_newDraft := goodIn_r _ [5, 6, 7, 8, 9, 10, 11, 12, 13, 14, 15, 16, 17, 18, 19, 20, 21, 22, 23, 24, 25, 26, 27, 28, 29, 30, 31, 32, 33, 34, 35, 4, 36, 37, 38, 39, 40, 41, 42, 43, 44, 45, 46, 47, 48, 49, 50, 51, 52, 53, 54, 55, 56, 57, 58, 59, 60, 61, 62, 63, 64, 65, 66, 67, 68, 69, 70, 71, 72, 73, 74, 75, 76, 77, 130, 131, 132, 133, 134, 135, 136, 137, 138, 139, 140, 141, 142, 143, 144, 145, 146, 147, 148, 149, 150, 151, 152, 153, 154, 155, 156, 157, 158, 159, 160, 161, 162, 163, 164, 165, 166, 167, 168, 169, 170] (by decide +kernel) (by decide +kernel)
set_option maxRecDepth 20000 in
theorem gX9_take_X9_newDraft : GoodIn wsX9_take (wsV RX9 47 RX9 yX9_newDraft wsX9_newDraft) := goodIn_app (goodIn_of _ (by decide +kernel)) ggX9_take_X9_newDraft
set_option maxRecDepth 20000 in
theorem ggX9_take_X2_takeOptions : GoodIn wsX9_take wsX2_takeOptions := goodIn_r _ [81, 16, 82, 14, 15, 83, 84, 22, 20, 85, 19, 86, 87, 88, 11, 89, 90, 91, 4, 92, 93, 94, 95, 96, 18, 97, 98, 99, 100, 101, 102, 103, 104, 105, 106, 107, 48, 108, 52, 109, 110, 111, 112, 50, 51, 53, 136, 137, 138, 139, 140, 141, 142, 143, 144, 145, 146, 165, 166, 167, 168, 169, 170, 157, 158, 159, 160, 161, 162, 163, 164, 153, 154, 155, 156] (by decide +kernel) (by decide +kernel)
set_option maxRecDepth 20000 in
theorem gX9_take_X2_takeOptions : GoodIn wsX9_take (wsV RX9 77 RX2 yX2_takeOptions wsX2_takeOptions) := goodIn_app (goodIn_of _ (by decide +kernel)) ggX9_take_X2_takeOptions
set_option maxRecDepth 20000 in
theorem ggX9_take_X9_accepted : GoodIn wsX9_take wsX9_accepted := goodIn_r _ [116, 117, 7, 6, 118, 119, 120, 121, 122, 123, 124, 125, 126, 127, 128, 129, 9, 10, 11, 12, 13, 14, 15, 16, 17, 18, 19, 20, 21, 22, 23, 24, 25, 26, 27, 28, 29, 30, 31, 32, 33, 34, 35, 4, 36, 37, 38, 39, 40, 41, 42, 43, 44, 45, 46, 47, 48, 49, 50, 51, 52, 53, 54, 55, 56, 57, 58, 59, 60, 61, 62, 63, 64, 65, 66, 67, 68, 69, 70, 71, 72, 73, 74, 75, 76, 77, 8, 130, 131, 132, 133, 134, 135, 171, 172, 136, 137, 138, 139, 140, 141, 142, 143, 144, 145, 146, 147, 148, 149, 150, 151, 152, 153, 154, 155, 156, 157, 158, 159, 160, 161, 162, 163, 164, 165, 166, 167, 168, 169, 170] (by decide +kernel) (by decide +kernel)
set_option maxRecDepth 20000 in
theorem gX9_take_X9_accepted : GoodIn wsX9_take (wsV RX9 55 RX9 yX9_accepted wsX9_accepted) := goodIn_app (goodIn_of _ (by decide +kernel)) ggX9_take_X9_accepted
theorem dX9_take_0 : decode cX9_take 0 = .ok (.aload_n 0, 1) := by decide +kernel
theorem dX9_take_1 : decode cX9_take 1 = .ok (.aload_n 0, 1) := by decide +kernel
theorem dX9_take_2 : decode cX9_take 2 = .ok (.invokevirtual 47, 3) := by decide +kernel
theorem dX9_take_5 : decode cX9_take 5 = .ok (.iload_n 1, 1) := by decide +kernel
theorem dX9_take_6 : decode cX9_take 6 = .ok (.iload_n 2, 1) := by decide +kernel
theorem dX9_take_7 : decode cX9_take 7 = .ok (.invokevirtual 77, 3) := by decide +kernel
theorem dX9_take_10 : decode cX9_take 10 = .ok (.invokevirtual 55, 3) := by decide +kernel
theorem dX9_take_13 : decode cX9_take 13 = .ok (.ireturn, 1) := by decide +kernel
set_option maxRecDepth 20000 in
theorem ggX9_leave_X9_newDraft : GoodIn wsX9_leave wsX9_newDraft := goodIn_r _ [5, 6, 7, 8, 9, 10, 11, 12, 13, 14, 15, 16, 17, 18, 19, 20, 21, 22, 23, 24, 25, 26, 27, 28, 29, 30, 31, 32, 33, 34, 35, 4, 36, 37, 38, 39, 40, 41, 42, 43, 44, 45, 46, 47, 48, 49, 50, 51, 52, 53, 54, 55, 56, 57, 58, 59, 60, 61, 62, 63, 64, 65, 66, 67, 68, 69, 70, 71, 72, 73, 74, 75, 76, 77, 124, 125, 126, 127, 128, 129, 130, 131, 132, 133, 134, 135, 136, 137, 138, 139, 140, 141, 142, 143, 144, 145, 146, 147, 148, 149, 150, 151, 152, 153, 154, 155, 156, 157, 158, 159, 160, 161, 162, 163, 164] (by decide +kernel) (by decide +kernel)
set_option maxRecDepth 20000 in
theorem gX9_leave_X9_newDraft : GoodIn wsX9_leave (wsV RX9 47 RX9 yX9_newDraft wsX9_newDraft) := goodIn_app (goodIn_of _ (by decide +kernel)) ggX9_leave_X9_newDraft
set_option maxRecDepth 20000 in
theorem ggX9_leave_X2_letLeave : GoodIn wsX9_leave wsX2_letLeave := goodIn_r _ [81, 18, 19, 82, 83, 84, 11, 85, 17, 86, 4, 87, 88, 89, 90, 91, 15, 92, 93, 94, 95, 96, 97, 98, 99, 100, 101, 102, 103, 104, 105, 106, 130, 131, 132, 133, 134, 135, 136, 137, 138, 139, 140, 151, 152, 153, 154, 155, 156, 157, 158] (by decide +kernel) (by decide +kernel)
set_option maxRecDepth 20000 in
theorem gX9_leave_X2_letLeave : GoodIn wsX9_leave (wsV RX9 80 RX2 yX2_letLeave wsX2_letLeave) := goodIn_app (goodIn_of _ (by decide +kernel)) ggX9_leave_X2_letLeave
set_option maxRecDepth 20000 in
theorem ggX9_leave_X9_accepted : GoodIn wsX9_leave wsX9_accepted := goodIn_r _ [110, 111, 7, 6, 112, 113, 114, 115, 116, 117, 118, 119, 120, 121, 122, 123, 9, 10, 11, 12, 13, 14, 15, 16, 17, 18, 19, 20, 21, 22, 23, 24, 25, 26, 27, 28, 29, 30, 31, 32, 33, 34, 35, 4, 36, 37, 38, 39, 40, 41, 42, 43, 44, 45, 46, 47, 48, 49, 50, 51, 52, 53, 54, 55, 56, 57, 58, 59, 60, 61, 62, 63, 64, 65, 66, 67, 68, 69, 70, 71, 72, 73, 74, 75, 76, 77, 8, 124, 125, 126, 127, 128, 129, 165, 166, 130, 131, 132, 133, 134, 135, 136, 137, 138, 139, 140, 141, 142, 143, 144, 145, 146, 147, 148, 149, 150, 151, 152, 153, 154, 155, 156, 157, 158, 159, 160, 161, 162, 163, 164] (by decide +kernel) (by decide +kernel)
set_option maxRecDepth 20000 in
theorem gX9_leave_X9_accepted : GoodIn wsX9_leave (wsV RX9 55 RX9 yX9_accepted wsX9_accepted) := goodIn_app (goodIn_of _ (by decide +kernel)) ggX9_leave_X9_accepted
theorem dX9_leave_0 : decode cX9_leave 0 = .ok (.aload_n 0, 1) := by decide +kernel
theorem dX9_leave_1 : decode cX9_leave 1 = .ok (.aload_n 0, 1) := by decide +kernel
theorem dX9_leave_2 : decode cX9_leave 2 = .ok (.invokevirtual 47, 3) := by decide +kernel
theorem dX9_leave_5 : decode cX9_leave 5 = .ok (.iload_n 1, 1) := by decide +kernel
theorem dX9_leave_6 : decode cX9_leave 6 = .ok (.invokevirtual 80, 3) := by decide +kernel
theorem dX9_leave_9 : decode cX9_leave 9 = .ok (.invokevirtual 55, 3) := by decide +kernel
theorem dX9_leave_12 : decode cX9_leave 12 = .ok (.ireturn, 1) := by decide +kernel
set_option maxRecDepth 20000 in
theorem ggX9_pass_X9_newDraft : GoodIn wsX9_pass wsX9_newDraft := goodIn_r _ [5, 6, 7, 8, 9, 10, 11, 12, 13, 14, 15, 16, 17, 18, 19, 20, 21, 22, 23, 24, 25, 26, 27, 28, 29, 30, 31, 32, 33, 34, 35, 4, 36, 37, 38, 39, 40, 41, 42, 43, 44, 45, 46, 47, 48, 49, 50, 51, 52, 53, 54, 55, 56, 57, 58, 59, 60, 61, 62, 63, 64, 65, 66, 67, 68, 69, 70, 71, 72, 73, 74, 75, 76, 77, 101, 102, 103, 104, 105, 106, 107, 108, 109, 110, 111, 112, 113, 114, 115, 116, 117, 118, 119, 120, 121, 122, 123, 124, 125, 126, 127, 128, 129, 130, 131, 132, 133, 134, 135, 136, 137, 138, 139, 140, 141] (by decide +kernel) (by decide +kernel)
set_option maxRecDepth 20000 in
theorem gX9_pass_X9_newDraft : GoodIn wsX9_pass (wsV RX9 47 RX9 yX9_newDraft wsX9_newDraft) := goodIn_app (goodIn_of _ (by decide +kernel)) ggX9_pass_X9_newDraft
set_option maxRecDepth 20000 in
theorem ggX9_pass_X2_passMonths : GoodIn wsX9_pass wsX2_passMonths := goodIn_r _ [81, 19, 82, 4, 83, 107, 108, 109, 110, 111, 112, 113, 114, 115, 116, 117] (by decide +kernel) (by decide +kernel)
set_option maxRecDepth 20000 in
theorem gX9_pass_X2_passMonths : GoodIn wsX9_pass (wsV RX9 83 RX2 yX2_passMonths wsX2_passMonths) := goodIn_app (goodIn_of _ (by decide +kernel)) ggX9_pass_X2_passMonths
set_option maxRecDepth 20000 in
theorem ggX9_pass_X9_accepted : GoodIn wsX9_pass wsX9_accepted := goodIn_r _ [87, 88, 7, 6, 89, 90, 91, 92, 93, 94, 95, 96, 97, 98, 99, 100, 9, 10, 11, 12, 13, 14, 15, 16, 17, 18, 19, 20, 21, 22, 23, 24, 25, 26, 27, 28, 29, 30, 31, 32, 33, 34, 35, 4, 36, 37, 38, 39, 40, 41, 42, 43, 44, 45, 46, 47, 48, 49, 50, 51, 52, 53, 54, 55, 56, 57, 58, 59, 60, 61, 62, 63, 64, 65, 66, 67, 68, 69, 70, 71, 72, 73, 74, 75, 76, 77, 8, 101, 102, 103, 104, 105, 106, 142, 143, 107, 108, 109, 110, 111, 112, 113, 114, 115, 116, 117, 118, 119, 120, 121, 122, 123, 124, 125, 126, 127, 128, 129, 130, 131, 132, 133, 134, 135, 136, 137, 138, 139, 140, 141] (by decide +kernel) (by decide +kernel)
set_option maxRecDepth 20000 in
theorem gX9_pass_X9_accepted : GoodIn wsX9_pass (wsV RX9 55 RX9 yX9_accepted wsX9_accepted) := goodIn_app (goodIn_of _ (by decide +kernel)) ggX9_pass_X9_accepted
theorem dX9_pass_0 : decode cX9_pass 0 = .ok (.aload_n 0, 1) := by decide +kernel
theorem dX9_pass_1 : decode cX9_pass 1 = .ok (.aload_n 0, 1) := by decide +kernel
theorem dX9_pass_2 : decode cX9_pass 2 = .ok (.invokevirtual 47, 3) := by decide +kernel
theorem dX9_pass_5 : decode cX9_pass 5 = .ok (.iload_n 1, 1) := by decide +kernel
theorem dX9_pass_6 : decode cX9_pass 6 = .ok (.invokevirtual 83, 3) := by decide +kernel
theorem dX9_pass_9 : decode cX9_pass 9 = .ok (.invokevirtual 55, 3) := by decide +kernel
theorem dX9_pass_12 : decode cX9_pass 12 = .ok (.ireturn, 1) := by decide +kernel
set_option maxRecDepth 20000 in
theorem ggX9_round_X9_newDraft : GoodIn wsX9_round wsX9_newDraft := goodIn_r _ [5, 6, 7, 8, 9, 10, 11, 12, 13, 14, 15, 16, 17, 18, 19, 20, 21, 22, 23, 24, 25, 26, 27, 28, 29, 30, 31, 32, 33, 34, 35, 4, 36, 37, 38, 39, 40, 41, 42, 43, 44, 45, 46, 47, 48, 49, 50, 51, 52, 53, 54, 55, 56, 57, 58, 59, 60, 61, 62, 63, 64, 65, 66, 67, 68, 69, 70, 71, 72, 73, 74, 75, 76, 77, 139, 140, 141, 142, 143, 144, 145, 146, 147, 148, 149, 150, 151, 152, 153, 154, 155, 156, 157, 158, 159, 160, 161, 162, 163, 164, 165, 166, 167, 168, 169, 170, 171, 172, 173, 174, 175, 176, 177, 178, 179] (by decide +kernel) (by decide +kernel)
set_option maxRecDepth 20000 in
theorem gX9_round_X9_newDraft : GoodIn wsX9_round (wsV RX9 47 RX9 yX9_newDraft wsX9_newDraft) := goodIn_app (goodIn_of _ (by decide +kernel)) ggX9_round_X9_newDraft
set_option maxRecDepth 20000 in
theorem ggX9_round_X2_beginRound : GoodIn wsX9_round wsX2_beginRound := goodIn_r _ [81, 16, 82, 17, 83, 13, 84, 85, 86, 87, 11, 88, 89, 90, 4, 91, 92, 93, 94, 95, 96, 97, 98, 70, 99, 72, 73, 74, 75, 76, 77, 100, 101, 102, 103, 14, 104, 105, 106, 48, 107, 51, 52, 108, 109, 110, 27, 111, 34, 112, 113, 114, 115, 116, 117, 118, 119, 50, 120, 121, 145, 146, 147, 148, 149, 150, 151, 152, 153, 154, 155, 174, 175, 176, 177, 178, 179, 156, 157, 158, 159, 160, 161, 162, 163, 164, 165] (by decide +kernel) (by decide +kernel)
set_option maxRecDepth 20000 in
theorem gX9_round_X2_beginRound : GoodIn wsX9_round (wsV RX9 86 RX2 yX2_beginRound wsX2_beginRound) := goodIn_app (goodIn_of _ (by decide +kernel)) ggX9_round_X2_beginRound
set_option maxRecDepth 20000 in
theorem ggX9_round_X9_accepted : GoodIn wsX9_round wsX9_accepted := goodIn_r _ [125, 126, 7, 6, 127, 128, 129, 130, 131, 132, 133, 134, 135, 136, 137, 138, 9, 10, 11, 12, 13, 14, 15, 16, 17, 18, 19, 20, 21, 22, 23, 24, 25, 26, 27, 28, 29, 30, 31, 32, 33, 34, 35, 4, 36, 37, 38, 39, 40, 41, 42, 43, 44, 45, 46, 47, 48, 49, 50, 51, 52, 53, 54, 55, 56, 57, 58, 59, 60, 61, 62, 63, 64, 65, 66, 67, 68, 69, 70, 71, 72, 73, 74, 75, 76, 77, 8, 139, 140, 141, 142, 143, 144, 180, 181, 145, 146, 147, 148, 149, 150, 151, 152, 153, 154, 155, 156, 157, 158, 159, 160, 161, 162, 163, 164, 165, 166, 167, 168, 169, 170, 171, 172, 173, 174, 175, 176, 177, 178, 179] (by decide +kernel) (by decide +kernel)
set_option maxRecDepth 20000 in
theorem gX9_round_X9_accepted : GoodIn wsX9_round (wsV RX9 55 RX9 yX9_accepted wsX9_accepted) := goodIn_app (goodIn_of _ (by decide +kernel)) ggX9_round_X9_accepted
theorem dX9_round_0 : decode cX9_round 0 = .ok (.aload_n 0, 1) := by decide +kernel
theorem dX9_round_1 : decode cX9_round 1 = .ok (.aload_n 0, 1) := by decide +kernel
theorem dX9_round_2 : decode cX9_round 2 = .ok (.invokevirtual 47, 3) := by decide +kernel
theorem dX9_round_5 : decode cX9_round 5 = .ok (.iload_n 1, 1) := by decide +kernel
theorem dX9_round_6 : decode cX9_round 6 = .ok (.iload_n 2, 1) := by decide +kernel
theorem dX9_round_7 : decode cX9_round 7 = .ok (.iload_n 3, 1) := by decide +kernel
theorem dX9_round_8 : decode cX9_round 8 = .ok (.invokevirtual 86, 3) := by decide +kernel
theorem dX9_round_11 : decode cX9_round 11 = .ok (.invokevirtual 55, 3) := by decide +kernel
theorem dX9_round_14 : decode cX9_round 14 = .ok (.ireturn, 1) := by decide +kernel
set_option maxRecDepth 20000 in
theorem ggX9_takeUp_X9_newDraft : GoodIn wsX9_takeUp wsX9_newDraft := goodIn_r _ [5, 6, 7, 8, 9, 10, 11, 12, 13, 14, 15, 16, 17, 18, 19, 20, 21, 22, 23, 24, 25, 26, 27, 28, 29, 30, 31, 32, 33, 34, 35, 4, 36, 37, 38, 39, 40, 41, 42, 43, 44, 45, 46, 47, 48, 49, 50, 51, 52, 53, 54, 55, 56, 57, 58, 59, 60, 61, 62, 63, 64, 65, 66, 67, 68, 69, 70, 71, 72, 73, 74, 75, 76, 77, 108, 109, 110, 111, 112, 113, 114, 115, 116, 117, 118, 119, 120, 121, 122, 123, 124, 125, 126, 127, 128, 129, 130, 131, 132, 133, 134, 135, 136, 137, 138, 139, 140, 141, 142, 143, 144, 145, 146, 147, 148] (by decide +kernel) (by decide +kernel)
set_option maxRecDepth 20000 in
theorem gX9_takeUp_X9_newDraft : GoodIn wsX9_takeUp (wsV RX9 47 RX9 yX9_newDraft wsX9_newDraft) := goodIn_app (goodIn_of _ (by decide +kernel)) ggX9_takeUp_X9_newDraft
set_option maxRecDepth 20000 in
theorem ggX9_takeUp_X2_takeUpShares : GoodIn wsX9_takeUp wsX2_takeUpShares := goodIn_r _ [81, 16, 82, 83, 84, 85, 86, 87, 11, 88, 17, 89, 4, 90, 114, 115, 116, 117, 118, 119, 120, 121, 122, 123, 124, 143, 144, 145, 146, 147, 148] (by decide +kernel) (by decide +kernel)
set_option maxRecDepth 20000 in
theorem gX9_takeUp_X2_takeUpShares : GoodIn wsX9_takeUp (wsV RX9 89 RX2 yX2_takeUpShares wsX2_takeUpShares) := goodIn_app (goodIn_of _ (by decide +kernel)) ggX9_takeUp_X2_takeUpShares
set_option maxRecDepth 20000 in
theorem ggX9_takeUp_X9_accepted : GoodIn wsX9_takeUp wsX9_accepted := goodIn_r _ [94, 95, 7, 6, 96, 97, 98, 99, 100, 101, 102, 103, 104, 105, 106, 107, 9, 10, 11, 12, 13, 14, 15, 16, 17, 18, 19, 20, 21, 22, 23, 24, 25, 26, 27, 28, 29, 30, 31, 32, 33, 34, 35, 4, 36, 37, 38, 39, 40, 41, 42, 43, 44, 45, 46, 47, 48, 49, 50, 51, 52, 53, 54, 55, 56, 57, 58, 59, 60, 61, 62, 63, 64, 65, 66, 67, 68, 69, 70, 71, 72, 73, 74, 75, 76, 77, 8, 108, 109, 110, 111, 112, 113, 149, 150, 114, 115, 116, 117, 118, 119, 120, 121, 122, 123, 124, 125, 126, 127, 128, 129, 130, 131, 132, 133, 134, 135, 136, 137, 138, 139, 140, 141, 142, 143, 144, 145, 146, 147, 148] (by decide +kernel) (by decide +kernel)
set_option maxRecDepth 20000 in
theorem gX9_takeUp_X9_accepted : GoodIn wsX9_takeUp (wsV RX9 55 RX9 yX9_accepted wsX9_accepted) := goodIn_app (goodIn_of _ (by decide +kernel)) ggX9_takeUp_X9_accepted
theorem dX9_takeUp_0 : decode cX9_takeUp 0 = .ok (.aload_n 0, 1) := by decide +kernel
theorem dX9_takeUp_1 : decode cX9_takeUp 1 = .ok (.aload_n 0, 1) := by decide +kernel
theorem dX9_takeUp_2 : decode cX9_takeUp 2 = .ok (.invokevirtual 47, 3) := by decide +kernel
theorem dX9_takeUp_5 : decode cX9_takeUp 5 = .ok (.iload_n 1, 1) := by decide +kernel
theorem dX9_takeUp_6 : decode cX9_takeUp 6 = .ok (.iload_n 2, 1) := by decide +kernel
theorem dX9_takeUp_7 : decode cX9_takeUp 7 = .ok (.invokevirtual 89, 3) := by decide +kernel
theorem dX9_takeUp_10 : decode cX9_takeUp 10 = .ok (.invokevirtual 55, 3) := by decide +kernel
theorem dX9_takeUp_13 : decode cX9_takeUp 13 = .ok (.ireturn, 1) := by decide +kernel
set_option maxRecDepth 20000 in
theorem ggX9_close_X9_newDraft : GoodIn wsX9_close wsX9_newDraft := goodIn_r _ [5, 6, 7, 8, 9, 10, 11, 12, 13, 14, 15, 16, 17, 18, 19, 20, 21, 22, 23, 24, 25, 26, 27, 28, 29, 30, 31, 32, 33, 34, 35, 4, 36, 37, 38, 39, 40, 41, 42, 43, 44, 45, 46, 47, 48, 49, 50, 51, 52, 53, 54, 55, 56, 57, 58, 59, 60, 61, 62, 63, 64, 65, 66, 67, 68, 69, 70, 71, 72, 73, 74, 75, 76, 77, 122, 123, 124, 125, 126, 127, 128, 129, 130, 131, 132, 133, 134, 135, 136, 137, 138, 139, 140, 141, 142, 143, 144, 145, 146, 147, 148, 149, 150, 151, 152, 153, 154, 155, 156, 157, 158, 159, 160, 161, 162] (by decide +kernel) (by decide +kernel)
set_option maxRecDepth 20000 in
theorem gX9_close_X9_newDraft : GoodIn wsX9_close (wsV RX9 47 RX9 yX9_newDraft wsX9_newDraft) := goodIn_app (goodIn_of _ (by decide +kernel)) ggX9_close_X9_newDraft
set_option maxRecDepth 20000 in
theorem ggX9_close_X2_closeRound : GoodIn wsX9_close wsX2_closeRound := goodIn_r _ [81, 16, 82, 14, 17, 83, 84, 19, 85, 20, 86, 23, 13, 87, 88, 89, 90, 70, 91, 77, 92, 93, 94, 95, 74, 96, 97, 98, 48, 99, 52, 100, 101, 102, 103, 50, 51, 53, 104, 128, 129, 130, 131, 132, 133, 134, 135, 136, 137, 138, 157, 158, 159, 160, 161, 162, 139, 140, 141, 142, 143, 144, 145, 146, 147, 148] (by decide +kernel) (by decide +kernel)
set_option maxRecDepth 20000 in
theorem gX9_close_X2_closeRound : GoodIn wsX9_close (wsV RX9 92 RX2 yX2_closeRound wsX2_closeRound) := goodIn_app (goodIn_of _ (by decide +kernel)) ggX9_close_X2_closeRound
set_option maxRecDepth 20000 in
theorem ggX9_close_X9_accepted : GoodIn wsX9_close wsX9_accepted := goodIn_r _ [108, 109, 7, 6, 110, 111, 112, 113, 114, 115, 116, 117, 118, 119, 120, 121, 9, 10, 11, 12, 13, 14, 15, 16, 17, 18, 19, 20, 21, 22, 23, 24, 25, 26, 27, 28, 29, 30, 31, 32, 33, 34, 35, 4, 36, 37, 38, 39, 40, 41, 42, 43, 44, 45, 46, 47, 48, 49, 50, 51, 52, 53, 54, 55, 56, 57, 58, 59, 60, 61, 62, 63, 64, 65, 66, 67, 68, 69, 70, 71, 72, 73, 74, 75, 76, 77, 8, 122, 123, 124, 125, 126, 127, 163, 164, 128, 129, 130, 131, 132, 133, 134, 135, 136, 137, 138, 139, 140, 141, 142, 143, 144, 145, 146, 147, 148, 149, 150, 151, 152, 153, 154, 155, 156, 157, 158, 159, 160, 161, 162] (by decide +kernel) (by decide +kernel)
set_option maxRecDepth 20000 in
theorem gX9_close_X9_accepted : GoodIn wsX9_close (wsV RX9 55 RX9 yX9_accepted wsX9_accepted) := goodIn_app (goodIn_of _ (by decide +kernel)) ggX9_close_X9_accepted
theorem dX9_close_0 : decode cX9_close 0 = .ok (.aload_n 0, 1) := by decide +kernel
theorem dX9_close_1 : decode cX9_close 1 = .ok (.aload_n 0, 1) := by decide +kernel
theorem dX9_close_2 : decode cX9_close 2 = .ok (.invokevirtual 47, 3) := by decide +kernel
theorem dX9_close_5 : decode cX9_close 5 = .ok (.invokevirtual 92, 3) := by decide +kernel
theorem dX9_close_8 : decode cX9_close 8 = .ok (.invokevirtual 55, 3) := by decide +kernel
theorem dX9_close_11 : decode cX9_close 11 = .ok (.ireturn, 1) := by decide +kernel
set_option maxRecDepth 20000 in
theorem ggX9_roundOf_X2_aboutRound : GoodIn wsX9_roundOf wsX2_aboutRound := goodIn_r _ [6, 7, 8, 9, 10, 11, 12, 13, 14, 15, 16, 5, 17, 18, 19, 20, 21, 28, 29, 30, 31, 32, 33, 34, 35, 36, 37, 38, 39, 40, 41, 42, 43, 44] (by decide +kernel) (by decide +kernel)
set_option maxRecDepth 20000 in
theorem gX9_roundOf_X2_aboutRound : GoodIn wsX9_roundOf (wsV RX9 95 RX2 yX2_aboutRound wsX2_aboutRound) := goodIn_app (goodIn_of _ (by decide +kernel)) ggX9_roundOf_X2_aboutRound
theorem dX9_roundOf_0 : decode cX9_roundOf 0 = .ok (.aload_n 0, 1) := by decide +kernel
theorem dX9_roundOf_1 : decode cX9_roundOf 1 = .ok (.getfield 10, 3) := by decide +kernel
theorem dX9_roundOf_4 : decode cX9_roundOf 4 = .ok (.iload_n 1, 1) := by decide +kernel
theorem dX9_roundOf_5 : decode cX9_roundOf 5 = .ok (.iload_n 2, 1) := by decide +kernel
theorem dX9_roundOf_6 : decode cX9_roundOf 6 = .ok (.invokevirtual 95, 3) := by decide +kernel
theorem dX9_roundOf_9 : decode cX9_roundOf 9 = .ok (.ireturn, 1) := by decide +kernel
set_option maxRecDepth 20000 in
theorem ggX9_classOf_X2_aboutClass : GoodIn wsX9_classOf wsX2_aboutClass := goodIn_r _ [6, 7, 8, 9, 10, 11, 12, 13, 14, 15, 16, 5, 17, 18, 19, 20, 21, 22, 23, 24, 25, 26, 27, 28, 29, 30, 31, 32, 33, 34, 35, 36, 37, 38, 39, 40, 47, 48, 49, 50, 51, 52, 53, 54, 55, 56, 57, 58, 59, 60, 61, 62, 63, 64, 65, 66, 67] (by decide +kernel) (by decide +kernel)
set_option maxRecDepth 20000 in
theorem gX9_classOf_X2_aboutClass : GoodIn wsX9_classOf (wsV RX9 98 RX2 yX2_aboutClass wsX2_aboutClass) := goodIn_app (goodIn_of _ (by decide +kernel)) ggX9_classOf_X2_aboutClass
theorem dX9_classOf_0 : decode cX9_classOf 0 = .ok (.aload_n 0, 1) := by decide +kernel
theorem dX9_classOf_1 : decode cX9_classOf 1 = .ok (.getfield 10, 3) := by decide +kernel
theorem dX9_classOf_4 : decode cX9_classOf 4 = .ok (.iload_n 1, 1) := by decide +kernel
theorem dX9_classOf_5 : decode cX9_classOf 5 = .ok (.iload_n 2, 1) := by decide +kernel
theorem dX9_classOf_6 : decode cX9_classOf 6 = .ok (.invokevirtual 98, 3) := by decide +kernel
theorem dX9_classOf_9 : decode cX9_classOf 9 = .ok (.ireturn, 1) := by decide +kernel
set_option maxRecDepth 20000 in
theorem ggX9_certificateOf_X2_aboutCertificate : GoodIn wsX9_certificateOf wsX2_aboutCertificate := goodIn_r _ [6, 7, 8, 9, 10, 11, 12, 13, 14, 15, 16, 17, 18, 19, 20, 27, 28, 29, 30, 31, 32, 33, 34, 35, 36, 37, 38, 39, 40, 41] (by decide +kernel) (by decide +kernel)
set_option maxRecDepth 20000 in
theorem gX9_certificateOf_X2_aboutCertificate : GoodIn wsX9_certificateOf (wsV RX9 101 RX2 yX2_aboutCertificate wsX2_aboutCertificate) := goodIn_app (goodIn_of _ (by decide +kernel)) ggX9_certificateOf_X2_aboutCertificate
theorem dX9_certificateOf_0 : decode cX9_certificateOf 0 = .ok (.aload_n 0, 1) := by decide +kernel
theorem dX9_certificateOf_1 : decode cX9_certificateOf 1 = .ok (.getfield 10, 3) := by decide +kernel
theorem dX9_certificateOf_4 : decode cX9_certificateOf 4 = .ok (.iload_n 1, 1) := by decide +kernel
theorem dX9_certificateOf_5 : decode cX9_certificateOf 5 = .ok (.iload_n 2, 1) := by decide +kernel
theorem dX9_certificateOf_6 : decode cX9_certificateOf 6 = .ok (.invokevirtual 101, 3) := by decide +kernel
theorem dX9_certificateOf_9 : decode cX9_certificateOf 9 = .ok (.ireturn, 1) := by decide +kernel
set_option maxRecDepth 20000 in
theorem ggX9_grantOf_X2_aboutGrant : GoodIn wsX9_grantOf wsX2_aboutGrant := goodIn_r _ [6, 7, 8, 9, 10, 11, 12, 13, 14, 15, 5, 16, 17, 18, 19, 20, 21, 22, 23, 24, 25, 26, 27, 28, 29, 30, 31, 32, 39, 40, 41, 42, 43, 44, 45, 46, 47, 48, 49, 50, 51, 52, 53, 54, 55, 56, 57] (by decide +kernel) (by decide +kernel)
set_option maxRecDepth 20000 in
theorem gX9_grantOf_X2_aboutGrant : GoodIn wsX9_grantOf (wsV RX9 104 RX2 yX2_aboutGrant wsX2_aboutGrant) := goodIn_app (goodIn_of _ (by decide +kernel)) ggX9_grantOf_X2_aboutGrant
theorem dX9_grantOf_0 : decode cX9_grantOf 0 = .ok (.aload_n 0, 1) := by decide +kernel
theorem dX9_grantOf_1 : decode cX9_grantOf 1 = .ok (.getfield 10, 3) := by decide +kernel
theorem dX9_grantOf_4 : decode cX9_grantOf 4 = .ok (.iload_n 1, 1) := by decide +kernel
theorem dX9_grantOf_5 : decode cX9_grantOf 5 = .ok (.iload_n 2, 1) := by decide +kernel
theorem dX9_grantOf_6 : decode cX9_grantOf 6 = .ok (.invokevirtual 104, 3) := by decide +kernel
theorem dX9_grantOf_9 : decode cX9_grantOf 9 = .ok (.ireturn, 1) := by decide +kernel
set_option maxRecDepth 20000 in
theorem ggX9_holderOf_X2_aboutHolder : GoodIn wsX9_holderOf wsX2_aboutHolder := goodIn_r _ [6, 7, 8, 9, 10, 11, 5, 12, 13, 14, 15, 16, 17, 18, 19, 20, 21, 22, 23, 24, 25, 26, 27, 28, 29, 30, 31, 32, 33, 34, 35, 36, 37, 38, 39, 40, 41, 42, 43, 44, 45, 46, 47, 48, 49, 50, 51, 52, 53, 54, 55, 56, 57, 58, 59, 60, 61, 62, 63, 64, 65, 66, 67, 68, 69, 70, 71, 72, 73, 74, 75, 82, 83, 84, 85, 86, 87, 88, 89, 90, 91, 92, 93, 94, 95, 96, 97, 98, 99, 100, 101, 102, 103, 104, 105, 106, 107, 108, 109, 110] (by decide +kernel) (by decide +kernel)
set_option maxRecDepth 20000 in
theorem gX9_holderOf_X2_aboutHolder : GoodIn wsX9_holderOf (wsV RX9 107 RX2 yX2_aboutHolder wsX2_aboutHolder) := goodIn_app (goodIn_of _ (by decide +kernel)) ggX9_holderOf_X2_aboutHolder
theorem dX9_holderOf_0 : decode cX9_holderOf 0 = .ok (.aload_n 0, 1) := by decide +kernel
theorem dX9_holderOf_1 : decode cX9_holderOf 1 = .ok (.getfield 10, 3) := by decide +kernel
theorem dX9_holderOf_4 : decode cX9_holderOf 4 = .ok (.iload_n 1, 1) := by decide +kernel
theorem dX9_holderOf_5 : decode cX9_holderOf 5 = .ok (.iload_n 2, 1) := by decide +kernel
theorem dX9_holderOf_6 : decode cX9_holderOf 6 = .ok (.invokevirtual 107, 3) := by decide +kernel
theorem dX9_holderOf_9 : decode cX9_holderOf 9 = .ok (.ireturn, 1) := by decide +kernel
set_option maxRecDepth 20000 in
theorem ggX9_count_X2_aboutAll : GoodIn wsX9_count wsX2_aboutAll := goodIn_r _ [10, 11, 12, 13, 14, 15, 16, 17, 18, 19, 20, 21, 22, 23, 24, 25, 26, 27, 28, 29, 30, 31, 32, 9, 33, 34, 35, 36, 37, 38, 39, 40, 41, 42, 43, 44, 57, 58, 59, 60, 61, 62, 63, 64, 65, 66, 67, 68, 69, 70, 71, 72, 73, 74, 75, 76, 77, 78, 79, 80, 81, 82, 83, 84, 85, 86, 87, 88, 89, 90, 91] (by decide +kernel) (by decide +kernel)
set_option maxRecDepth 20000 in
theorem gX9_count_X2_aboutAll : GoodIn wsX9_count (wsV RX9 117 RX2 yX2_aboutAll wsX2_aboutAll) := goodIn_app (goodIn_of _ (by decide +kernel)) ggX9_count_X2_aboutAll
theorem dX9_count_0 : decode cX9_count 0 = .ok (.iload_n 1, 1) := by decide +kernel
theorem dX9_count_1 : decode cX9_count 1 = .ok (.bipush 11, 2) := by decide +kernel
theorem dX9_count_3 : decode cX9_count 3 = .ok (.if_icmp .ne 11, 3) := by decide +kernel
theorem dX9_count_6 : decode cX9_count 6 = .ok (.aload_n 0, 1) := by decide +kernel
theorem dX9_count_7 : decode cX9_count 7 = .ok (.getfield 22, 3) := by decide +kernel
theorem dX9_count_10 : decode cX9_count 10 = .ok (.getfield 110, 3) := by decide +kernel
theorem dX9_count_13 : decode cX9_count 13 = .ok (.ireturn, 1) := by decide +kernel
theorem dX9_count_14 : decode cX9_count 14 = .ok (.iload_n 1, 1) := by decide +kernel
theorem dX9_count_15 : decode cX9_count 15 = .ok (.bipush 12, 2) := by decide +kernel
theorem dX9_count_17 : decode cX9_count 17 = .ok (.if_icmp .ne 11, 3) := by decide +kernel
theorem dX9_count_20 : decode cX9_count 20 = .ok (.aload_n 0, 1) := by decide +kernel
theorem dX9_count_21 : decode cX9_count 21 = .ok (.getfield 36, 3) := by decide +kernel
theorem dX9_count_24 : decode cX9_count 24 = .ok (.getfield 114, 3) := by decide +kernel
theorem dX9_count_27 : decode cX9_count 27 = .ok (.ireturn, 1) := by decide +kernel
theorem dX9_count_28 : decode cX9_count 28 = .ok (.aload_n 0, 1) := by decide +kernel
theorem dX9_count_29 : decode cX9_count 29 = .ok (.getfield 10, 3) := by decide +kernel
theorem dX9_count_32 : decode cX9_count 32 = .ok (.iload_n 1, 1) := by decide +kernel
theorem dX9_count_33 : decode cX9_count 33 = .ok (.invokevirtual 117, 3) := by decide +kernel
theorem dX9_count_36 : decode cX9_count 36 = .ok (.ireturn, 1) := by decide +kernel
set_option maxRecDepth 20000 in
theorem ggX9_converts_X9_within : GoodIn wsX9_converts wsX9_within := goodIn_r _ [8] (by decide +kernel) (by decide +kernel)
set_option maxRecDepth 20000 in
theorem gX9_converts_X9_within : GoodIn wsX9_converts (va_wsS RX9 121 yX9_within wsX9_within) := goodIn_app (goodIn_of _ (by decide +kernel)) ggX9_converts_X9_within
set_option maxRecDepth 20000 in
theorem ggX9_converts_X3_reckon : GoodIn wsX9_converts wsX3_reckon := goodIn_r _ [13, 14, 15, 16, 17, 18, 12, 19, 20, 21, 22, 23, 24, 25, 26, 27, 28, 29, 30, 31, 32, 33, 34, 35, 36, 37, 38, 39, 40, 41, 42, 43, 44, 45, 46, 47, 48, 49, 50, 51, 52, 53, 54, 7, 55, 56, 57, 58, 59, 60, 61, 62, 63, 64, 65, 66, 67, 68, 69, 70, 71, 72, 73, 74, 75, 76, 77, 78, 79, 80, 81, 82, 83, 84, 85, 86, 87, 88, 89, 90, 91, 92, 93, 94, 95, 96, 97, 104, 105, 106, 107, 108, 109, 110, 111, 112, 113, 114, 115, 116, 117, 118, 119, 120, 121, 122, 123, 124, 125, 126, 127, 128, 129, 130, 131, 132] (by decide +kernel) (by decide +kernel)
set_option maxRecDepth 20000 in
theorem gX9_converts_X3_reckon : GoodIn wsX9_converts (wsV RX9 125 RX3 yX3_reckon wsX3_reckon) := goodIn_app (goodIn_of _ (by decide +kernel)) ggX9_converts_X3_reckon
theorem dX9_converts_0 : decode cX9_converts 0 = .ok (.iload_n 1, 1) := by decide +kernel
theorem dX9_converts_1 : decode cX9_converts 1 = .ok (.iconst 0, 1) := by decide +kernel
theorem dX9_converts_2 : decode cX9_converts 2 = .ok (.ldc 120, 2) := by decide +kernel
theorem dX9_converts_4 : decode cX9_converts 4 = .ok (.invokestatic 121, 3) := by decide +kernel
theorem dX9_converts_7 : decode cX9_converts 7 = .ok (.ifCond .ne 5, 3) := by decide +kernel
theorem dX9_converts_10 : decode cX9_converts 10 = .ok (.iconst (-1), 1) := by decide +kernel
theorem dX9_converts_11 : decode cX9_converts 11 = .ok (.ireturn, 1) := by decide +kernel
theorem dX9_converts_12 : decode cX9_converts 12 = .ok (.aload_n 0, 1) := by decide +kernel
theorem dX9_converts_13 : decode cX9_converts 13 = .ok (.getfield 29, 3) := by decide +kernel
theorem dX9_converts_16 : decode cX9_converts 16 = .ok (.aload_n 0, 1) := by decide +kernel
theorem dX9_converts_17 : decode cX9_converts 17 = .ok (.getfield 10, 3) := by decide +kernel
theorem dX9_converts_20 : decode cX9_converts 20 = .ok (.iload_n 1, 1) := by decide +kernel
theorem dX9_converts_21 : decode cX9_converts 21 = .ok (.invokevirtual 125, 3) := by decide +kernel
theorem dX9_converts_24 : decode cX9_converts 24 = .ok (.aload_n 0, 1) := by decide +kernel
theorem dX9_converts_25 : decode cX9_converts 25 = .ok (.getfield 29, 3) := by decide +kernel
theorem dX9_converts_28 : decode cX9_converts 28 = .ok (.getfield 129, 3) := by decide +kernel
theorem dX9_converts_31 : decode cX9_converts 31 = .ok (.ireturn, 1) := by decide +kernel
set_option maxRecDepth 20000 in
theorem ggX9_classGets_X9_within : GoodIn wsX9_classGets wsX9_within := goodIn_r _ [8] (by decide +kernel) (by decide +kernel)
set_option maxRecDepth 20000 in
theorem gX9_classGets_X9_within : GoodIn wsX9_classGets (va_wsS RX9 121 yX9_within wsX9_within) := goodIn_app (goodIn_of _ (by decide +kernel)) ggX9_classGets_X9_within
set_option maxRecDepth 20000 in
theorem ggX9_classGets_X2_hasClass : GoodIn wsX9_classGets wsX2_hasClass := goodIn_r _ [13, 14, 15, 6, 7, 8, 119, 120, 121, 122, 123, 124, 125, 126, 127, 128, 129, 130, 131, 132, 133, 134, 135] (by decide +kernel) (by decide +kernel)
set_option maxRecDepth 20000 in
theorem gX9_classGets_X2_hasClass : GoodIn wsX9_classGets (wsV RX9 132 RX2 yX2_hasClass wsX2_hasClass) := goodIn_app (goodIn_of _ (by decide +kernel)) ggX9_classGets_X2_hasClass
set_option maxRecDepth 20000 in
theorem ggX9_classGets_X3_reckon : GoodIn wsX9_classGets wsX3_reckon := goodIn_r _ [20, 21, 22, 23, 24, 25, 19, 26, 27, 28, 29, 30, 31, 32, 33, 34, 35, 36, 37, 38, 39, 40, 41, 42, 43, 44, 45, 46, 47, 48, 49, 50, 51, 52, 53, 54, 55, 56, 57, 58, 59, 60, 61, 7, 62, 63, 64, 65, 66, 67, 68, 69, 70, 71, 72, 73, 74, 75, 76, 77, 78, 79, 80, 81, 82, 83, 84, 85, 86, 87, 88, 89, 90, 91, 92, 93, 94, 95, 96, 97, 98, 99, 100, 101, 102, 103, 104, 111, 112, 113, 114, 115, 116, 117, 118, 119, 120, 121, 122, 123, 124, 125, 126, 127, 128, 129, 130, 131, 132, 133, 134, 135, 136, 137, 138, 139] (by decide +kernel) (by decide +kernel)
set_option maxRecDepth 20000 in
theorem gX9_classGets_X3_reckon : GoodIn wsX9_classGets (wsV RX9 125 RX3 yX3_reckon wsX3_reckon) := goodIn_app (goodIn_of _ (by decide +kernel)) ggX9_classGets_X3_reckon
theorem dX9_classGets_0 : decode cX9_classGets 0 = .ok (.iload_n 1, 1) := by decide +kernel
theorem dX9_classGets_1 : decode cX9_classGets 1 = .ok (.iconst 0, 1) := by decide +kernel
theorem dX9_classGets_2 : decode cX9_classGets 2 = .ok (.ldc 120, 2) := by decide +kernel
theorem dX9_classGets_4 : decode cX9_classGets 4 = .ok (.invokestatic 121, 3) := by decide +kernel
theorem dX9_classGets_7 : decode cX9_classGets 7 = .ok (.ifCond .eq 14, 3) := by decide +kernel
theorem dX9_classGets_10 : decode cX9_classGets 10 = .ok (.aload_n 0, 1) := by decide +kernel
theorem dX9_classGets_11 : decode cX9_classGets 11 = .ok (.getfield 10, 3) := by decide +kernel
theorem dX9_classGets_14 : decode cX9_classGets 14 = .ok (.iload_n 2, 1) := by decide +kernel
theorem dX9_classGets_15 : decode cX9_classGets 15 = .ok (.invokevirtual 132, 3) := by decide +kernel
theorem dX9_classGets_18 : decode cX9_classGets 18 = .ok (.ifCond .ne 5, 3) := by decide +kernel
theorem dX9_classGets_21 : decode cX9_classGets 21 = .ok (.iconst (-1), 1) := by decide +kernel
theorem dX9_classGets_22 : decode cX9_classGets 22 = .ok (.ireturn, 1) := by decide +kernel
theorem dX9_classGets_23 : decode cX9_classGets 23 = .ok (.aload_n 0, 1) := by decide +kernel
theorem dX9_classGets_24 : decode cX9_classGets 24 = .ok (.getfield 29, 3) := by decide +kernel
theorem dX9_classGets_27 : decode cX9_classGets 27 = .ok (.aload_n 0, 1) := by decide +kernel
theorem dX9_classGets_28 : decode cX9_classGets 28 = .ok (.getfield 10, 3) := by decide +kernel
theorem dX9_classGets_31 : decode cX9_classGets 31 = .ok (.iload_n 1, 1) := by decide +kernel
theorem dX9_classGets_32 : decode cX9_classGets 32 = .ok (.invokevirtual 125, 3) := by decide +kernel
theorem dX9_classGets_35 : decode cX9_classGets 35 = .ok (.aload_n 0, 1) := by decide +kernel
theorem dX9_classGets_36 : decode cX9_classGets 36 = .ok (.getfield 29, 3) := by decide +kernel
theorem dX9_classGets_39 : decode cX9_classGets 39 = .ok (.getfield 136, 3) := by decide +kernel
theorem dX9_classGets_42 : decode cX9_classGets 42 = .ok (.iload_n 2, 1) := by decide +kernel
theorem dX9_classGets_43 : decode cX9_classGets 43 = .ok (.iaload, 1) := by decide +kernel
theorem dX9_classGets_44 : decode cX9_classGets 44 = .ok (.ireturn, 1) := by decide +kernel
set_option maxRecDepth 20000 in
theorem ggX9_holderGets_X9_within : GoodIn wsX9_holderGets wsX9_within := goodIn_r _ [7] (by decide +kernel) (by decide +kernel)
set_option maxRecDepth 20000 in
theorem gX9_holderGets_X9_within : GoodIn wsX9_holderGets (va_wsS RX9 121 yX9_within wsX9_within) := goodIn_app (goodIn_of _ (by decide +kernel)) ggX9_holderGets_X9_within
set_option maxRecDepth 20000 in
theorem ggX9_holderGets_X2_hasHolder : GoodIn wsX9_holderGets wsX2_hasHolder := goodIn_r _ [12, 13, 5, 6, 7, 118, 119, 120, 121, 122, 123, 124, 125, 126, 127, 128] (by decide +kernel) (by decide +kernel)
set_option maxRecDepth 20000 in
theorem gX9_holderGets_X2_hasHolder : GoodIn wsX9_holderGets (wsV RX9 140 RX2 yX2_hasHolder wsX2_hasHolder) := goodIn_app (goodIn_of _ (by decide +kernel)) ggX9_holderGets_X2_hasHolder
set_option maxRecDepth 20000 in
theorem ggX9_holderGets_X3_reckon : GoodIn wsX9_holderGets wsX3_reckon := goodIn_r _ [18, 19, 20, 21, 22, 23, 17, 24, 25, 26, 27, 28, 29, 30, 31, 32, 33, 34, 35, 36, 37, 38, 39, 40, 41, 42, 43, 44, 45, 46, 47, 48, 49, 50, 51, 52, 53, 54, 55, 56, 57, 58, 59, 6, 60, 61, 62, 63, 64, 65, 66, 67, 68, 69, 70, 71, 72, 73, 74, 75, 76, 77, 78, 79, 80, 81, 82, 83, 84, 85, 86, 87, 88, 89, 90, 91, 92, 93, 94, 95, 96, 97, 98, 99, 100, 101, 102, 129, 130, 131, 132, 133, 134, 135, 136, 118, 119, 120, 121, 122, 123, 124, 125, 126, 127, 128, 137, 138, 139, 140, 141, 142, 143, 144, 145, 146] (by decide +kernel) (by decide +kernel)
set_option maxRecDepth 20000 in
theorem gX9_holderGets_X3_reckon : GoodIn wsX9_holderGets (wsV RX9 125 RX3 yX3_reckon wsX3_reckon) := goodIn_app (goodIn_of _ (by decide +kernel)) ggX9_holderGets_X3_reckon
set_option maxRecDepth 20000 in
theorem ggX9_holderGets_X3_gainOfHolder : GoodIn wsX9_holderGets wsX3_gainOfHolder := goodIn_r _ [106, 20, 58, 28, 27, 107, 108, 109, 38, 110, 40, 111, 41, 81, 6, 82, 129, 130, 131, 132, 133, 134, 135, 136, 118, 119, 120, 121, 122, 123, 124, 125, 126, 127, 128, 143, 144, 145, 146] (by decide +kernel) (by decide +kernel)
set_option maxRecDepth 20000 in
theorem gX9_holderGets_X3_gainOfHolder : GoodIn wsX9_holderGets (wsV RX9 143 RX3 yX3_gainOfHolder wsX3_gainOfHolder) := goodIn_app (goodIn_of _ (by decide +kernel)) ggX9_holderGets_X3_gainOfHolder
theorem dX9_holderGets_0 : decode cX9_holderGets 0 = .ok (.iload_n 1, 1) := by decide +kernel
theorem dX9_holderGets_1 : decode cX9_holderGets 1 = .ok (.iconst 0, 1) := by decide +kernel
theorem dX9_holderGets_2 : decode cX9_holderGets 2 = .ok (.ldc 120, 2) := by decide +kernel
theorem dX9_holderGets_4 : decode cX9_holderGets 4 = .ok (.invokestatic 121, 3) := by decide +kernel
theorem dX9_holderGets_7 : decode cX9_holderGets 7 = .ok (.ifCond .eq 14, 3) := by decide +kernel
theorem dX9_holderGets_10 : decode cX9_holderGets 10 = .ok (.aload_n 0, 1) := by decide +kernel
theorem dX9_holderGets_11 : decode cX9_holderGets 11 = .ok (.getfield 10, 3) := by decide +kernel
theorem dX9_holderGets_14 : decode cX9_holderGets 14 = .ok (.iload_n 2, 1) := by decide +kernel
theorem dX9_holderGets_15 : decode cX9_holderGets 15 = .ok (.invokevirtual 140, 3) := by decide +kernel
theorem dX9_holderGets_18 : decode cX9_holderGets 18 = .ok (.ifCond .ne 5, 3) := by decide +kernel
theorem dX9_holderGets_21 : decode cX9_holderGets 21 = .ok (.iconst (-1), 1) := by decide +kernel
theorem dX9_holderGets_22 : decode cX9_holderGets 22 = .ok (.ireturn, 1) := by decide +kernel
theorem dX9_holderGets_23 : decode cX9_holderGets 23 = .ok (.aload_n 0, 1) := by decide +kernel
theorem dX9_holderGets_24 : decode cX9_holderGets 24 = .ok (.getfield 29, 3) := by decide +kernel
theorem dX9_holderGets_27 : decode cX9_holderGets 27 = .ok (.aload_n 0, 1) := by decide +kernel
theorem dX9_holderGets_28 : decode cX9_holderGets 28 = .ok (.getfield 10, 3) := by decide +kernel
theorem dX9_holderGets_31 : decode cX9_holderGets 31 = .ok (.iload_n 1, 1) := by decide +kernel
theorem dX9_holderGets_32 : decode cX9_holderGets 32 = .ok (.invokevirtual 125, 3) := by decide +kernel
theorem dX9_holderGets_35 : decode cX9_holderGets 35 = .ok (.aload_n 0, 1) := by decide +kernel
theorem dX9_holderGets_36 : decode cX9_holderGets 36 = .ok (.getfield 29, 3) := by decide +kernel
theorem dX9_holderGets_39 : decode cX9_holderGets 39 = .ok (.aload_n 0, 1) := by decide +kernel
theorem dX9_holderGets_40 : decode cX9_holderGets 40 = .ok (.getfield 10, 3) := by decide +kernel
theorem dX9_holderGets_43 : decode cX9_holderGets 43 = .ok (.iload_n 2, 1) := by decide +kernel
theorem dX9_holderGets_44 : decode cX9_holderGets 44 = .ok (.invokevirtual 143, 3) := by decide +kernel
theorem dX9_holderGets_47 : decode cX9_holderGets 47 = .ok (.ireturn, 1) := by decide +kernel
set_option maxRecDepth 20000 in
theorem ggX9_byGain_X9_within : GoodIn wsX9_byGain wsX9_within := goodIn_r _ [9] (by decide +kernel) (by decide +kernel)
set_option maxRecDepth 20000 in
theorem gX9_byGain_X9_within : GoodIn wsX9_byGain (va_wsS RX9 121 yX9_within wsX9_within) := goodIn_app (goodIn_of _ (by decide +kernel)) ggX9_byGain_X9_within
set_option maxRecDepth 20000 in
theorem ggX9_byGain_X3_reckon : GoodIn wsX9_byGain wsX3_reckon := goodIn_r _ [14, 15, 16, 17, 18, 19, 13, 20, 21, 22, 23, 24, 25, 26, 27, 28, 29, 30, 31, 32, 33, 34, 35, 36, 37, 38, 39, 40, 41, 42, 43, 44, 45, 46, 47, 48, 49, 50, 51, 52, 53, 54, 55, 8, 56, 57, 58, 59, 60, 61, 62, 63, 64, 65, 66, 67, 68, 69, 70, 71, 72, 73, 74, 75, 76, 77, 78, 79, 80, 81, 82, 83, 84, 85, 86, 87, 88, 89, 90, 91, 92, 93, 94, 95, 96, 97, 98, 130, 131, 132, 133, 134, 135, 136, 137, 113, 114, 115, 116, 117, 118, 119, 120, 121, 122, 123, 124, 125, 126, 127, 128, 129, 138, 139, 140, 141] (by decide +kernel) (by decide +kernel)
set_option maxRecDepth 20000 in
theorem gX9_byGain_X3_reckon : GoodIn wsX9_byGain (wsV RX9 125 RX3 yX3_reckon wsX3_reckon) := goodIn_app (goodIn_of _ (by decide +kernel)) ggX9_byGain_X3_reckon
set_option maxRecDepth 20000 in
theorem ggX9_byGain_X3_classAt : GoodIn wsX9_byGain wsX3_classAt := goodIn_r _ [102, 16, 103, 104, 105, 13, 106, 54, 130, 131, 132, 133, 134, 135, 136, 137] (by decide +kernel) (by decide +kernel)
set_option maxRecDepth 20000 in
theorem gX9_byGain_X3_classAt : GoodIn wsX9_byGain (wsV RX9 154 RX3 yX3_classAt wsX3_classAt) := goodIn_app (goodIn_of _ (by decide +kernel)) ggX9_byGain_X3_classAt
theorem dX9_byGain_0 : decode cX9_byGain 0 = .ok (.iload_n 1, 1) := by decide +kernel
theorem dX9_byGain_1 : decode cX9_byGain 1 = .ok (.iconst 0, 1) := by decide +kernel
theorem dX9_byGain_2 : decode cX9_byGain 2 = .ok (.ldc 120, 2) := by decide +kernel
theorem dX9_byGain_4 : decode cX9_byGain 4 = .ok (.invokestatic 121, 3) := by decide +kernel
theorem dX9_byGain_7 : decode cX9_byGain 7 = .ok (.ifCond .eq 7, 3) := by decide +kernel
theorem dX9_byGain_10 : decode cX9_byGain 10 = .ok (.iload_n 2, 1) := by decide +kernel
theorem dX9_byGain_11 : decode cX9_byGain 11 = .ok (.ifCond .ge 5, 3) := by decide +kernel
theorem dX9_byGain_14 : decode cX9_byGain 14 = .ok (.iconst (-1), 1) := by decide +kernel
theorem dX9_byGain_15 : decode cX9_byGain 15 = .ok (.ireturn, 1) := by decide +kernel
theorem dX9_byGain_16 : decode cX9_byGain 16 = .ok (.iload_n 2, 1) := by decide +kernel
theorem dX9_byGain_17 : decode cX9_byGain 17 = .ok (.aload_n 0, 1) := by decide +kernel
theorem dX9_byGain_18 : decode cX9_byGain 18 = .ok (.getfield 10, 3) := by decide +kernel
theorem dX9_byGain_21 : decode cX9_byGain 21 = .ok (.getfield 147, 3) := by decide +kernel
theorem dX9_byGain_24 : decode cX9_byGain 24 = .ok (.getfield 151, 3) := by decide +kernel
theorem dX9_byGain_27 : decode cX9_byGain 27 = .ok (.if_icmp .lt 6, 3) := by decide +kernel
theorem dX9_byGain_30 : decode cX9_byGain 30 = .ok (.bipush (-4), 2) := by decide +kernel
theorem dX9_byGain_32 : decode cX9_byGain 32 = .ok (.ireturn, 1) := by decide +kernel
theorem dX9_byGain_33 : decode cX9_byGain 33 = .ok (.aload_n 0, 1) := by decide +kernel
theorem dX9_byGain_34 : decode cX9_byGain 34 = .ok (.getfield 29, 3) := by decide +kernel
theorem dX9_byGain_37 : decode cX9_byGain 37 = .ok (.aload_n 0, 1) := by decide +kernel
theorem dX9_byGain_38 : decode cX9_byGain 38 = .ok (.getfield 10, 3) := by decide +kernel
theorem dX9_byGain_41 : decode cX9_byGain 41 = .ok (.iload_n 1, 1) := by decide +kernel
theorem dX9_byGain_42 : decode cX9_byGain 42 = .ok (.invokevirtual 125, 3) := by decide +kernel
theorem dX9_byGain_45 : decode cX9_byGain 45 = .ok (.aload_n 0, 1) := by decide +kernel
theorem dX9_byGain_46 : decode cX9_byGain 46 = .ok (.getfield 29, 3) := by decide +kernel
theorem dX9_byGain_49 : decode cX9_byGain 49 = .ok (.iload_n 2, 1) := by decide +kernel
theorem dX9_byGain_50 : decode cX9_byGain 50 = .ok (.invokevirtual 154, 3) := by decide +kernel
theorem dX9_byGain_53 : decode cX9_byGain 53 = .ok (.ireturn, 1) := by decide +kernel
set_option maxRecDepth 20000 in
theorem ggX9_undo_X5_restore : GoodIn wsX9_undo wsX5_restore := goodIn_r _ [8, 9, 10, 11, 12, 13, 14, 15, 16, 17, 18, 19, 20, 21, 22, 23, 24, 25, 26, 27, 28, 29, 30, 31, 32, 33, 34, 35, 36, 37, 38, 39, 40, 41, 42, 43, 44, 45, 46, 47, 48, 49, 50, 51, 52, 53, 54, 55, 56, 57, 58, 59, 60, 61, 62, 63, 64, 65, 66, 67, 68, 69, 70, 71, 72, 73, 74, 75, 76, 77, 78, 79, 80, 81, 88, 89, 90, 91, 92, 93, 94, 95, 96, 97, 98, 99, 100, 101, 102, 103, 104, 105, 106, 107, 108, 109, 110, 111, 112, 113, 114, 115, 116, 117, 118, 119, 120, 121, 122, 123, 124] (by decide +kernel) (by decide +kernel)
set_option maxRecDepth 20000 in
theorem gX9_undo_X5_restore : GoodIn wsX9_undo (wsV RX9 157 RX5 yX5_restore wsX5_restore) := goodIn_app (goodIn_of _ (by decide +kernel)) ggX9_undo_X5_restore
theorem dX9_undo_0 : decode cX9_undo 0 = .ok (.aload_n 0, 1) := by decide +kernel
theorem dX9_undo_1 : decode cX9_undo 1 = .ok (.getfield 22, 3) := by decide +kernel
theorem dX9_undo_4 : decode cX9_undo 4 = .ok (.getfield 110, 3) := by decide +kernel
theorem dX9_undo_7 : decode cX9_undo 7 = .ok (.ifCond .ne 6, 3) := by decide +kernel
theorem dX9_undo_10 : decode cX9_undo 10 = .ok (.bipush (-2), 2) := by decide +kernel
theorem dX9_undo_12 : decode cX9_undo 12 = .ok (.ireturn, 1) := by decide +kernel
theorem dX9_undo_13 : decode cX9_undo 13 = .ok (.aload_n 0, 1) := by decide +kernel
theorem dX9_undo_14 : decode cX9_undo 14 = .ok (.getfield 22, 3) := by decide +kernel
theorem dX9_undo_17 : decode cX9_undo 17 = .ok (.aload_n 0, 1) := by decide +kernel
theorem dX9_undo_18 : decode cX9_undo 18 = .ok (.getfield 10, 3) := by decide +kernel
theorem dX9_undo_21 : decode cX9_undo 21 = .ok (.invokevirtual 157, 3) := by decide +kernel
theorem dX9_undo_24 : decode cX9_undo 24 = .ok (.aload_n 0, 1) := by decide +kernel
theorem dX9_undo_25 : decode cX9_undo 25 = .ok (.getfield 22, 3) := by decide +kernel
theorem dX9_undo_28 : decode cX9_undo 28 = .ok (.getfield 110, 3) := by decide +kernel
theorem dX9_undo_31 : decode cX9_undo 31 = .ok (.ireturn, 1) := by decide +kernel
set_option maxRecDepth 20000 in
theorem ggX9_type_X8_append : GoodIn wsX9_type wsX8_append := goodIn_r _ [6, 7, 8, 9, 10, 11, 18, 19, 20, 21] (by decide +kernel) (by decide +kernel)
set_option maxRecDepth 20000 in
theorem gX9_type_X8_append : GoodIn wsX9_type (wsV RX9 161 RX8 yX8_append wsX8_append) := goodIn_app (goodIn_of _ (by decide +kernel)) ggX9_type_X8_append
theorem dX9_type_0 : decode cX9_type 0 = .ok (.aload_n 0, 1) := by decide +kernel
theorem dX9_type_1 : decode cX9_type 1 = .ok (.getfield 36, 3) := by decide +kernel
theorem dX9_type_4 : decode cX9_type 4 = .ok (.iload_n 1, 1) := by decide +kernel
theorem dX9_type_5 : decode cX9_type 5 = .ok (.invokevirtual 161, 3) := by decide +kernel
theorem dX9_type_8 : decode cX9_type 8 = .ok (.ireturn, 1) := by decide +kernel
theorem dX9_clearText_0 : decode cX9_clearText 0 = .ok (.aload_n 0, 1) := by decide +kernel
theorem dX9_clearText_1 : decode cX9_clearText 1 = .ok (.getfield 36, 3) := by decide +kernel
theorem dX9_clearText_4 : decode cX9_clearText 4 = .ok (.getfield 114, 3) := by decide +kernel
theorem dX9_clearText_7 : decode cX9_clearText 7 = .ok (.istore_n 1, 1) := by decide +kernel
theorem dX9_clearText_8 : decode cX9_clearText 8 = .ok (.aload_n 0, 1) := by decide +kernel
theorem dX9_clearText_9 : decode cX9_clearText 9 = .ok (.getfield 36, 3) := by decide +kernel
theorem dX9_clearText_12 : decode cX9_clearText 12 = .ok (.iconst 0, 1) := by decide +kernel
theorem dX9_clearText_13 : decode cX9_clearText 13 = .ok (.putfield 114, 3) := by decide +kernel
theorem dX9_clearText_16 : decode cX9_clearText 16 = .ok (.iload_n 1, 1) := by decide +kernel
theorem dX9_clearText_17 : decode cX9_clearText 17 = .ok (.ireturn, 1) := by decide +kernel
set_option maxRecDepth 20000 in
theorem ggX9_fault_X9_within : GoodIn wsX9_fault wsX9_within := goodIn_r _ [6] (by decide +kernel) (by decide +kernel)
set_option maxRecDepth 20000 in
theorem gX9_fault_X9_within : GoodIn wsX9_fault (va_wsS RX9 121 yX9_within wsX9_within) := goodIn_app (goodIn_of _ (by decide +kernel)) ggX9_fault_X9_within
set_option maxRecDepth 20000 in
theorem ggX9_fault_X9_newDraft : GoodIn wsX9_fault wsX9_newDraft := goodIn_r _ [10, 11, 12, 13, 14, 15, 16, 17, 18, 19, 20, 21, 22, 23, 24, 25, 26, 27, 28, 29, 30, 31, 32, 33, 34, 35, 36, 37, 38, 39, 40, 5, 41, 42, 43, 44, 45, 46, 47, 48, 49, 50, 51, 52, 53, 54, 55, 56, 57, 58, 59, 60, 61, 62, 63, 64, 65, 66, 67, 68, 69, 70, 71, 72, 73, 74, 75, 76, 77, 78, 79, 80, 81, 82, 264, 265, 266, 267, 268, 269, 270, 271, 272, 273, 274, 275, 276, 277, 278, 279, 280, 281, 282, 283, 284, 285, 286, 287, 288, 289, 290, 291, 292, 293, 294, 295, 296, 297, 298, 299, 300, 301, 302, 303, 304] (by decide +kernel) (by decide +kernel)
set_option maxRecDepth 20000 in
theorem gX9_fault_X9_newDraft : GoodIn wsX9_fault (wsV RX9 47 RX9 yX9_newDraft wsX9_newDraft) := goodIn_app (goodIn_of _ (by decide +kernel)) ggX9_fault_X9_newDraft
set_option maxRecDepth 20000 in
theorem ggX9_fault_X6_run : GoodIn wsX9_fault wsX6_run := goodIn_r _ [87, 88, 89, 90, 91, 92, 93, 94, 95, 96, 97, 98, 99, 100, 101, 102, 103, 104, 105, 106, 107, 108, 109, 110, 111, 112, 113, 114, 115, 116, 117, 118, 119, 120, 121, 122, 123, 124, 125, 126, 127, 128, 129, 130, 131, 132, 133, 134, 135, 136, 137, 138, 139, 140, 141, 142, 143, 144, 145, 146, 147, 148, 149, 150, 151, 152, 153, 154, 155, 156, 157, 158, 159, 160, 161, 162, 4, 5, 6, 163, 164, 165, 166, 167, 168, 169, 170, 171, 172, 173, 174, 175, 176, 177, 86, 178, 179, 180, 181, 16, 182, 21, 183, 19, 25, 24, 184, 185, 186, 187, 22, 188, 189, 190, 191, 18, 192, 193, 194, 195, 53, 196, 57, 197, 198, 199, 200, 55, 56, 58, 201, 202, 203, 204, 205, 206, 207, 208, 209, 210, 211, 212, 213, 214, 215, 26, 216, 217, 218, 219, 23, 20, 220, 221, 222, 223, 224, 225, 226, 227, 228, 229, 230, 231, 27, 232, 233, 234, 235, 236, 237, 238, 239, 240, 241, 242, 243, 244, 245, 246, 247, 248, 249, 250, 251, 252, 253, 254, 255, 305, 306, 307, 308, 309, 310, 311, 312, 270, 271, 272, 273, 274, 275, 276, 277, 278, 279, 280, 299, 300, 301, 302, 303, 304, 281, 282, 283, 284, 285, 286, 287, 288, 289, 290, 291, 292, 293, 294, 295, 296, 297, 298] (by decide +kernel) (by decide +kernel)
set_option maxRecDepth 20000 in
theorem gX9_fault_X6_run : GoodIn wsX9_fault (wsV RX9 164 RX6 yX6_run wsX6_run) := goodIn_app (goodIn_of _ (by decide +kernel)) ggX9_fault_X6_run
set_option maxRecDepth 20000 in
theorem ggX9_fault_X6_about : GoodIn wsX9_fault wsX6_about := goodIn_r _ [259, 90, 89, 91, 260, 261, 262, 86, 263, 305, 306, 307, 308] (by decide +kernel) (by decide +kernel)
set_option maxRecDepth 20000 in
theorem gX9_fault_X6_about : GoodIn wsX9_fault (wsV RX9 168 RX6 yX6_about wsX6_about) := goodIn_app (goodIn_of _ (by decide +kernel)) ggX9_fault_X6_about
theorem dX9_fault_0 : decode cX9_fault 0 = .ok (.iload_n 1, 1) := by decide +kernel
theorem dX9_fault_1 : decode cX9_fault 1 = .ok (.iconst 0, 1) := by decide +kernel
theorem dX9_fault_2 : decode cX9_fault 2 = .ok (.iconst 2, 1) := by decide +kernel
theorem dX9_fault_3 : decode cX9_fault 3 = .ok (.invokestatic 121, 3) := by decide +kernel
theorem dX9_fault_6 : decode cX9_fault 6 = .ok (.ifCond .ne 5, 3) := by decide +kernel
