set_option maxRecDepth 20000 in
theorem ggX0_copyFrom_X9_copyRow : GoodIn wsX0_copyFrom wsX9_copyRow := goodIn_r _ [7, 8, 9, 10, 11, 12, 13, 14, 15] (by decide +kernel) (by decide +kernel)
set_option maxRecDepth 20000 in
theorem gX0_copyFrom_X9_copyRow_n24 : GoodIn wsX0_copyFrom (wsX9_copyRow) := ggX0_copyFrom_X9_copyRow
theorem dX0_copyFrom_0 : decode cX0_copyFrom 0 = .ok (.aload_n 1, 1) := by decide +kernel
theorem dX0_copyFrom_1 : decode cX0_copyFrom 1 = .ok (.getfield 9, 3) := by decide +kernel
theorem dX0_copyFrom_4 : decode cX0_copyFrom 4 = .ok (.aload_n 0, 1) := by decide +kernel
theorem dX0_copyFrom_5 : decode cX0_copyFrom 5 = .ok (.getfield 9, 3) := by decide +kernel
theorem dX0_copyFrom_8 : decode cX0_copyFrom 8 = .ok (.invokestatic 24, 3) := by decide +kernel
theorem dX0_copyFrom_11 : decode cX0_copyFrom 11 = .ok (.aload_n 1, 1) := by decide +kernel
theorem dX0_copyFrom_12 : decode cX0_copyFrom 12 = .ok (.getfield 15, 3) := by decide +kernel
theorem dX0_copyFrom_15 : decode cX0_copyFrom 15 = .ok (.aload_n 0, 1) := by decide +kernel
theorem dX0_copyFrom_16 : decode cX0_copyFrom 16 = .ok (.getfield 15, 3) := by decide +kernel
theorem dX0_copyFrom_19 : decode cX0_copyFrom 19 = .ok (.invokestatic 24, 3) := by decide +kernel
theorem dX0_copyFrom_22 : decode cX0_copyFrom 22 = .ok (.aload_n 1, 1) := by decide +kernel
theorem dX0_copyFrom_23 : decode cX0_copyFrom 23 = .ok (.getfield 18, 3) := by decide +kernel
theorem dX0_copyFrom_26 : decode cX0_copyFrom 26 = .ok (.aload_n 0, 1) := by decide +kernel
theorem dX0_copyFrom_27 : decode cX0_copyFrom 27 = .ok (.getfield 18, 3) := by decide +kernel
theorem dX0_copyFrom_30 : decode cX0_copyFrom 30 = .ok (.invokestatic 24, 3) := by decide +kernel
theorem dX0_copyFrom_33 : decode cX0_copyFrom 33 = .ok (.aload_n 1, 1) := by decide +kernel
theorem dX0_copyFrom_34 : decode cX0_copyFrom 34 = .ok (.getfield 21, 3) := by decide +kernel
theorem dX0_copyFrom_37 : decode cX0_copyFrom 37 = .ok (.aload_n 0, 1) := by decide +kernel
theorem dX0_copyFrom_38 : decode cX0_copyFrom 38 = .ok (.getfield 21, 3) := by decide +kernel
theorem dX0_copyFrom_41 : decode cX0_copyFrom 41 = .ok (.invokestatic 24, 3) := by decide +kernel
theorem dX0_copyFrom_44 : decode cX0_copyFrom 44 = .ok (.return_, 1) := by decide +kernel
set_option maxRecDepth 20000 in
theorem ggX0_has_X9_within : GoodIn wsX0_has wsX9_within := goodIn_r _ [4] (by decide +kernel) (by decide +kernel)
set_option maxRecDepth 20000 in
theorem gX0_has_X9_within_n28 : GoodIn wsX0_has (wsX9_within) := ggX0_has_X9_within
theorem dX0_has_0 : decode cX0_has 0 = .ok (.iload_n 1, 1) := by decide +kernel
theorem dX0_has_1 : decode cX0_has 1 = .ok (.iconst 0, 1) := by decide +kernel
theorem dX0_has_2 : decode cX0_has 2 = .ok (.bipush 23, 2) := by decide +kernel
theorem dX0_has_4 : decode cX0_has 4 = .ok (.invokestatic 28, 3) := by decide +kernel
theorem dX0_has_7 : decode cX0_has 7 = .ok (.ifCond .eq 16, 3) := by decide +kernel
theorem dX0_has_10 : decode cX0_has 10 = .ok (.aload_n 0, 1) := by decide +kernel
theorem dX0_has_11 : decode cX0_has 11 = .ok (.getfield 18, 3) := by decide +kernel
theorem dX0_has_14 : decode cX0_has 14 = .ok (.iload_n 1, 1) := by decide +kernel
theorem dX0_has_15 : decode cX0_has 15 = .ok (.iaload, 1) := by decide +kernel
theorem dX0_has_16 : decode cX0_has 16 = .ok (.ifCond .le 7, 3) := by decide +kernel
theorem dX0_has_19 : decode cX0_has 19 = .ok (.iconst 1, 1) := by decide +kernel
theorem dX0_has_20 : decode cX0_has 20 = .ok (.goto 4, 3) := by decide +kernel
theorem dX0_has_23 : decode cX0_has 23 = .ok (.iconst 0, 1) := by decide +kernel
theorem dX0_has_24 : decode cX0_has 24 = .ok (.ireturn, 1) := by decide +kernel
theorem dX0_size_0 : decode cX0_size 0 = .ok (.iconst 0, 1) := by decide +kernel
theorem dX0_size_1 : decode cX0_size 1 = .ok (.istore_n 1, 1) := by decide +kernel
theorem dX0_size_2 : decode cX0_size 2 = .ok (.iconst 0, 1) := by decide +kernel
theorem dX0_size_3 : decode cX0_size 3 = .ok (.istore_n 2, 1) := by decide +kernel
theorem dX0_size_4 : decode cX0_size 4 = .ok (.iload_n 2, 1) := by decide +kernel
theorem dX0_size_5 : decode cX0_size 5 = .ok (.bipush 24, 2) := by decide +kernel
theorem dX0_size_7 : decode cX0_size 7 = .ok (.if_icmp .ge 21, 3) := by decide +kernel
theorem dX0_size_10 : decode cX0_size 10 = .ok (.aload_n 0, 1) := by decide +kernel
theorem dX0_size_11 : decode cX0_size 11 = .ok (.getfield 18, 3) := by decide +kernel
theorem dX0_size_14 : decode cX0_size 14 = .ok (.iload_n 2, 1) := by decide +kernel
theorem dX0_size_15 : decode cX0_size 15 = .ok (.iaload, 1) := by decide +kernel
theorem dX0_size_16 : decode cX0_size 16 = .ok (.ifCond .le 6, 3) := by decide +kernel
theorem dX0_size_19 : decode cX0_size 19 = .ok (.iinc 1 1, 3) := by decide +kernel
theorem dX0_size_22 : decode cX0_size 22 = .ok (.iinc 2 1, 3) := by decide +kernel
theorem dX0_size_25 : decode cX0_size 25 = .ok (.goto (-21), 3) := by decide +kernel
theorem dX0_size_28 : decode cX0_size 28 = .ok (.iload_n 1, 1) := by decide +kernel
theorem dX0_size_29 : decode cX0_size 29 = .ok (.ireturn, 1) := by decide +kernel
theorem dX0_sizeOf_0 : decode cX0_sizeOf 0 = .ok (.iconst 0, 1) := by decide +kernel
theorem dX0_sizeOf_1 : decode cX0_sizeOf 1 = .ok (.istore_n 2, 1) := by decide +kernel
theorem dX0_sizeOf_2 : decode cX0_sizeOf 2 = .ok (.iconst 0, 1) := by decide +kernel
theorem dX0_sizeOf_3 : decode cX0_sizeOf 3 = .ok (.istore_n 3, 1) := by decide +kernel
theorem dX0_sizeOf_4 : decode cX0_sizeOf 4 = .ok (.iload_n 3, 1) := by decide +kernel
theorem dX0_sizeOf_5 : decode cX0_sizeOf 5 = .ok (.bipush 24, 2) := by decide +kernel
theorem dX0_sizeOf_7 : decode cX0_sizeOf 7 = .ok (.if_icmp .ge 31, 3) := by decide +kernel
theorem dX0_sizeOf_10 : decode cX0_sizeOf 10 = .ok (.aload_n 0, 1) := by decide +kernel
theorem dX0_sizeOf_11 : decode cX0_sizeOf 11 = .ok (.getfield 18, 3) := by decide +kernel
theorem dX0_sizeOf_14 : decode cX0_sizeOf 14 = .ok (.iload_n 3, 1) := by decide +kernel
theorem dX0_sizeOf_15 : decode cX0_sizeOf 15 = .ok (.iaload, 1) := by decide +kernel
theorem dX0_sizeOf_16 : decode cX0_sizeOf 16 = .ok (.ifCond .le 16, 3) := by decide +kernel
theorem dX0_sizeOf_19 : decode cX0_sizeOf 19 = .ok (.aload_n 0, 1) := by decide +kernel
theorem dX0_sizeOf_20 : decode cX0_sizeOf 20 = .ok (.getfield 9, 3) := by decide +kernel
theorem dX0_sizeOf_23 : decode cX0_sizeOf 23 = .ok (.iload_n 3, 1) := by decide +kernel
theorem dX0_sizeOf_24 : decode cX0_sizeOf 24 = .ok (.iaload, 1) := by decide +kernel
theorem dX0_sizeOf_25 : decode cX0_sizeOf 25 = .ok (.iload_n 1, 1) := by decide +kernel
theorem dX0_sizeOf_26 : decode cX0_sizeOf 26 = .ok (.if_icmp .ne 6, 3) := by decide +kernel
theorem dX0_sizeOf_29 : decode cX0_sizeOf 29 = .ok (.iinc 2 1, 3) := by decide +kernel
theorem dX0_sizeOf_32 : decode cX0_sizeOf 32 = .ok (.iinc 3 1, 3) := by decide +kernel
theorem dX0_sizeOf_35 : decode cX0_sizeOf 35 = .ok (.goto (-31), 3) := by decide +kernel
theorem dX0_sizeOf_38 : decode cX0_sizeOf 38 = .ok (.iload_n 2, 1) := by decide +kernel
theorem dX0_sizeOf_39 : decode cX0_sizeOf 39 = .ok (.ireturn, 1) := by decide +kernel
theorem dX0_add_0 : decode cX0_add 0 = .ok (.iconst 0, 1) := by decide +kernel
theorem dX0_add_1 : decode cX0_add 1 = .ok (.istore 5, 2) := by decide +kernel
theorem dX0_add_3 : decode cX0_add 3 = .ok (.iload 5, 2) := by decide +kernel
theorem dX0_add_5 : decode cX0_add 5 = .ok (.bipush 24, 2) := by decide +kernel
theorem dX0_add_7 : decode cX0_add 7 = .ok (.if_icmp .ge 55, 3) := by decide +kernel
theorem dX0_add_10 : decode cX0_add 10 = .ok (.aload_n 0, 1) := by decide +kernel
theorem dX0_add_11 : decode cX0_add 11 = .ok (.getfield 18, 3) := by decide +kernel
theorem dX0_add_14 : decode cX0_add 14 = .ok (.iload 5, 2) := by decide +kernel
theorem dX0_add_16 : decode cX0_add 16 = .ok (.iaload, 1) := by decide +kernel
theorem dX0_add_17 : decode cX0_add 17 = .ok (.ifCond .ne 39, 3) := by decide +kernel
theorem dX0_add_20 : decode cX0_add 20 = .ok (.aload_n 0, 1) := by decide +kernel
theorem dX0_add_21 : decode cX0_add 21 = .ok (.getfield 9, 3) := by decide +kernel
theorem dX0_add_24 : decode cX0_add 24 = .ok (.iload 5, 2) := by decide +kernel
theorem dX0_add_26 : decode cX0_add 26 = .ok (.iload_n 1, 1) := by decide +kernel
theorem dX0_add_27 : decode cX0_add 27 = .ok (.iastore, 1) := by decide +kernel
theorem dX0_add_28 : decode cX0_add 28 = .ok (.aload_n 0, 1) := by decide +kernel
theorem dX0_add_29 : decode cX0_add 29 = .ok (.getfield 15, 3) := by decide +kernel
theorem dX0_add_32 : decode cX0_add 32 = .ok (.iload 5, 2) := by decide +kernel
theorem dX0_add_34 : decode cX0_add 34 = .ok (.iload_n 2, 1) := by decide +kernel
theorem dX0_add_35 : decode cX0_add 35 = .ok (.iastore, 1) := by decide +kernel
theorem dX0_add_36 : decode cX0_add 36 = .ok (.aload_n 0, 1) := by decide +kernel
theorem dX0_add_37 : decode cX0_add 37 = .ok (.getfield 18, 3) := by decide +kernel
theorem dX0_add_40 : decode cX0_add 40 = .ok (.iload 5, 2) := by decide +kernel
theorem dX0_add_42 : decode cX0_add 42 = .ok (.iload_n 3, 1) := by decide +kernel
theorem dX0_add_43 : decode cX0_add 43 = .ok (.iastore, 1) := by decide +kernel
theorem dX0_add_44 : decode cX0_add 44 = .ok (.aload_n 0, 1) := by decide +kernel
theorem dX0_add_45 : decode cX0_add 45 = .ok (.getfield 21, 3) := by decide +kernel
theorem dX0_add_48 : decode cX0_add 48 = .ok (.iload 5, 2) := by decide +kernel
theorem dX0_add_50 : decode cX0_add 50 = .ok (.iload 4, 2) := by decide +kernel
theorem dX0_add_52 : decode cX0_add 52 = .ok (.iastore, 1) := by decide +kernel
theorem dX0_add_53 : decode cX0_add 53 = .ok (.iload 5, 2) := by decide +kernel
theorem dX0_add_55 : decode cX0_add 55 = .ok (.ireturn, 1) := by decide +kernel
theorem dX0_add_56 : decode cX0_add 56 = .ok (.iinc 5 1, 3) := by decide +kernel
theorem dX0_add_59 : decode cX0_add 59 = .ok (.goto (-56), 3) := by decide +kernel
theorem dX0_add_62 : decode cX0_add 62 = .ok (.bipush (-3), 2) := by decide +kernel
theorem dX0_add_64 : decode cX0_add 64 = .ok (.ireturn, 1) := by decide +kernel
theorem dX0_sharesIn_0 : decode cX0_sharesIn 0 = .ok (.iconst 0, 1) := by decide +kernel
theorem dX0_sharesIn_1 : decode cX0_sharesIn 1 = .ok (.istore_n 2, 1) := by decide +kernel
theorem dX0_sharesIn_2 : decode cX0_sharesIn 2 = .ok (.iconst 0, 1) := by decide +kernel
theorem dX0_sharesIn_3 : decode cX0_sharesIn 3 = .ok (.istore_n 3, 1) := by decide +kernel
theorem dX0_sharesIn_4 : decode cX0_sharesIn 4 = .ok (.iload_n 3, 1) := by decide +kernel
theorem dX0_sharesIn_5 : decode cX0_sharesIn 5 = .ok (.bipush 24, 2) := by decide +kernel
theorem dX0_sharesIn_7 : decode cX0_sharesIn 7 = .ok (.if_icmp .ge 28, 3) := by decide +kernel
theorem dX0_sharesIn_10 : decode cX0_sharesIn 10 = .ok (.aload_n 0, 1) := by decide +kernel
theorem dX0_sharesIn_11 : decode cX0_sharesIn 11 = .ok (.getfield 15, 3) := by decide +kernel
theorem dX0_sharesIn_14 : decode cX0_sharesIn 14 = .ok (.iload_n 3, 1) := by decide +kernel
theorem dX0_sharesIn_15 : decode cX0_sharesIn 15 = .ok (.iaload, 1) := by decide +kernel
theorem dX0_sharesIn_16 : decode cX0_sharesIn 16 = .ok (.iload_n 1, 1) := by decide +kernel
theorem dX0_sharesIn_17 : decode cX0_sharesIn 17 = .ok (.if_icmp .ne 12, 3) := by decide +kernel
theorem dX0_sharesIn_20 : decode cX0_sharesIn 20 = .ok (.iload_n 2, 1) := by decide +kernel
theorem dX0_sharesIn_21 : decode cX0_sharesIn 21 = .ok (.aload_n 0, 1) := by decide +kernel
theorem dX0_sharesIn_22 : decode cX0_sharesIn 22 = .ok (.getfield 18, 3) := by decide +kernel
theorem dX0_sharesIn_25 : decode cX0_sharesIn 25 = .ok (.iload_n 3, 1) := by decide +kernel
theorem dX0_sharesIn_26 : decode cX0_sharesIn 26 = .ok (.iaload, 1) := by decide +kernel
theorem dX0_sharesIn_27 : decode cX0_sharesIn 27 = .ok (.iadd, 1) := by decide +kernel
theorem dX0_sharesIn_28 : decode cX0_sharesIn 28 = .ok (.istore_n 2, 1) := by decide +kernel
theorem dX0_sharesIn_29 : decode cX0_sharesIn 29 = .ok (.iinc 3 1, 3) := by decide +kernel
theorem dX0_sharesIn_32 : decode cX0_sharesIn 32 = .ok (.goto (-28), 3) := by decide +kernel
theorem dX0_sharesIn_35 : decode cX0_sharesIn 35 = .ok (.iload_n 2, 1) := by decide +kernel
theorem dX0_sharesIn_36 : decode cX0_sharesIn 36 = .ok (.ireturn, 1) := by decide +kernel
theorem dX0_sharesOwned_0 : decode cX0_sharesOwned 0 = .ok (.iconst 0, 1) := by decide +kernel
theorem dX0_sharesOwned_1 : decode cX0_sharesOwned 1 = .ok (.istore_n 3, 1) := by decide +kernel
theorem dX0_sharesOwned_2 : decode cX0_sharesOwned 2 = .ok (.iconst 0, 1) := by decide +kernel
theorem dX0_sharesOwned_3 : decode cX0_sharesOwned 3 = .ok (.istore 4, 2) := by decide +kernel
theorem dX0_sharesOwned_5 : decode cX0_sharesOwned 5 = .ok (.iload 4, 2) := by decide +kernel
theorem dX0_sharesOwned_7 : decode cX0_sharesOwned 7 = .ok (.bipush 24, 2) := by decide +kernel
theorem dX0_sharesOwned_9 : decode cX0_sharesOwned 9 = .ok (.if_icmp .ge 41, 3) := by decide +kernel
theorem dX0_sharesOwned_12 : decode cX0_sharesOwned 12 = .ok (.aload_n 0, 1) := by decide +kernel
theorem dX0_sharesOwned_13 : decode cX0_sharesOwned 13 = .ok (.getfield 15, 3) := by decide +kernel
theorem dX0_sharesOwned_16 : decode cX0_sharesOwned 16 = .ok (.iload 4, 2) := by decide +kernel
theorem dX0_sharesOwned_18 : decode cX0_sharesOwned 18 = .ok (.iaload, 1) := by decide +kernel
theorem dX0_sharesOwned_19 : decode cX0_sharesOwned 19 = .ok (.iload_n 2, 1) := by decide +kernel
theorem dX0_sharesOwned_20 : decode cX0_sharesOwned 20 = .ok (.if_icmp .ne 24, 3) := by decide +kernel
theorem dX0_sharesOwned_23 : decode cX0_sharesOwned 23 = .ok (.aload_n 0, 1) := by decide +kernel
theorem dX0_sharesOwned_24 : decode cX0_sharesOwned 24 = .ok (.getfield 9, 3) := by decide +kernel
theorem dX0_sharesOwned_27 : decode cX0_sharesOwned 27 = .ok (.iload 4, 2) := by decide +kernel
theorem dX0_sharesOwned_29 : decode cX0_sharesOwned 29 = .ok (.iaload, 1) := by decide +kernel
theorem dX0_sharesOwned_30 : decode cX0_sharesOwned 30 = .ok (.iload_n 1, 1) := by decide +kernel
theorem dX0_sharesOwned_31 : decode cX0_sharesOwned 31 = .ok (.if_icmp .ne 13, 3) := by decide +kernel
theorem dX0_sharesOwned_34 : decode cX0_sharesOwned 34 = .ok (.iload_n 3, 1) := by decide +kernel
theorem dX0_sharesOwned_35 : decode cX0_sharesOwned 35 = .ok (.aload_n 0, 1) := by decide +kernel
theorem dX0_sharesOwned_36 : decode cX0_sharesOwned 36 = .ok (.getfield 18, 3) := by decide +kernel
theorem dX0_sharesOwned_39 : decode cX0_sharesOwned 39 = .ok (.iload 4, 2) := by decide +kernel
theorem dX0_sharesOwned_41 : decode cX0_sharesOwned 41 = .ok (.iaload, 1) := by decide +kernel
theorem dX0_sharesOwned_42 : decode cX0_sharesOwned 42 = .ok (.iadd, 1) := by decide +kernel
theorem dX0_sharesOwned_43 : decode cX0_sharesOwned 43 = .ok (.istore_n 3, 1) := by decide +kernel
theorem dX0_sharesOwned_44 : decode cX0_sharesOwned 44 = .ok (.iinc 4 1, 3) := by decide +kernel
theorem dX0_sharesOwned_47 : decode cX0_sharesOwned 47 = .ok (.goto (-42), 3) := by decide +kernel
theorem dX0_sharesOwned_50 : decode cX0_sharesOwned 50 = .ok (.iload_n 3, 1) := by decide +kernel
theorem dX0_sharesOwned_51 : decode cX0_sharesOwned 51 = .ok (.ireturn, 1) := by decide +kernel
theorem dX1_init_0 : decode cX1_init 0 = .ok (.aload_n 0, 1) := by decide +kernel
theorem dX1_init_1 : decode cX1_init 1 = .ok (.invokespecial 3, 3) := by decide +kernel
theorem dX1_init_4 : decode cX1_init 4 = .ok (.aload_n 0, 1) := by decide +kernel
theorem dX1_init_5 : decode cX1_init 5 = .ok (.iconst 1, 1) := by decide +kernel
theorem dX1_init_6 : decode cX1_init 6 = .ok (.putfield 9, 3) := by decide +kernel
theorem dX1_init_9 : decode cX1_init 9 = .ok (.aload_n 0, 1) := by decide +kernel
theorem dX1_init_10 : decode cX1_init 10 = .ok (.iconst 5, 1) := by decide +kernel
theorem dX1_init_11 : decode cX1_init 11 = .ok (.newarray .int, 2) := by decide +kernel
theorem dX1_init_13 : decode cX1_init 13 = .ok (.putfield 15, 3) := by decide +kernel
theorem dX1_init_16 : decode cX1_init 16 = .ok (.aload_n 0, 1) := by decide +kernel
theorem dX1_init_17 : decode cX1_init 17 = .ok (.iconst 5, 1) := by decide +kernel
theorem dX1_init_18 : decode cX1_init 18 = .ok (.newarray .int, 2) := by decide +kernel
theorem dX1_init_20 : decode cX1_init 20 = .ok (.putfield 19, 3) := by decide +kernel
theorem dX1_init_23 : decode cX1_init 23 = .ok (.aload_n 0, 1) := by decide +kernel
theorem dX1_init_24 : decode cX1_init 24 = .ok (.iconst 5, 1) := by decide +kernel
theorem dX1_init_25 : decode cX1_init 25 = .ok (.newarray .int, 2) := by decide +kernel
theorem dX1_init_27 : decode cX1_init 27 = .ok (.putfield 22, 3) := by decide +kernel
theorem dX1_init_30 : decode cX1_init 30 = .ok (.aload_n 0, 1) := by decide +kernel
theorem dX1_init_31 : decode cX1_init 31 = .ok (.iconst 5, 1) := by decide +kernel
theorem dX1_init_32 : decode cX1_init 32 = .ok (.newarray .int, 2) := by decide +kernel
theorem dX1_init_34 : decode cX1_init 34 = .ok (.putfield 25, 3) := by decide +kernel
theorem dX1_init_37 : decode cX1_init 37 = .ok (.aload_n 0, 1) := by decide +kernel
theorem dX1_init_38 : decode cX1_init 38 = .ok (.iconst 5, 1) := by decide +kernel
theorem dX1_init_39 : decode cX1_init 39 = .ok (.newarray .int, 2) := by decide +kernel
theorem dX1_init_41 : decode cX1_init 41 = .ok (.putfield 28, 3) := by decide +kernel
theorem dX1_init_44 : decode cX1_init 44 = .ok (.aload_n 0, 1) := by decide +kernel
theorem dX1_init_45 : decode cX1_init 45 = .ok (.getfield 28, 3) := by decide +kernel
theorem dX1_init_48 : decode cX1_init 48 = .ok (.iconst 0, 1) := by decide +kernel
theorem dX1_init_49 : decode cX1_init 49 = .ok (.iconst 1, 1) := by decide +kernel
theorem dX1_init_50 : decode cX1_init 50 = .ok (.iastore, 1) := by decide +kernel
theorem dX1_init_51 : decode cX1_init 51 = .ok (.return_, 1) := by decide +kernel
set_option maxRecDepth 20000 in
theorem ggX1_copyFrom_X9_copyRow : GoodIn wsX1_copyFrom wsX9_copyRow := goodIn_r _ [9, 10, 11, 12, 13, 14, 15, 16, 17] (by decide +kernel) (by decide +kernel)
set_option maxRecDepth 20000 in
theorem gX1_copyFrom_X9_copyRow_n31 : GoodIn wsX1_copyFrom (wsX9_copyRow) := ggX1_copyFrom_X9_copyRow
theorem dX1_copyFrom_0 : decode cX1_copyFrom 0 = .ok (.aload_n 0, 1) := by decide +kernel
theorem dX1_copyFrom_1 : decode cX1_copyFrom 1 = .ok (.aload_n 1, 1) := by decide +kernel
theorem dX1_copyFrom_2 : decode cX1_copyFrom 2 = .ok (.getfield 9, 3) := by decide +kernel
theorem dX1_copyFrom_5 : decode cX1_copyFrom 5 = .ok (.putfield 9, 3) := by decide +kernel
theorem dX1_copyFrom_8 : decode cX1_copyFrom 8 = .ok (.aload_n 1, 1) := by decide +kernel
theorem dX1_copyFrom_9 : decode cX1_copyFrom 9 = .ok (.getfield 15, 3) := by decide +kernel
theorem dX1_copyFrom_12 : decode cX1_copyFrom 12 = .ok (.aload_n 0, 1) := by decide +kernel
theorem dX1_copyFrom_13 : decode cX1_copyFrom 13 = .ok (.getfield 15, 3) := by decide +kernel
theorem dX1_copyFrom_16 : decode cX1_copyFrom 16 = .ok (.invokestatic 31, 3) := by decide +kernel
theorem dX1_copyFrom_19 : decode cX1_copyFrom 19 = .ok (.aload_n 1, 1) := by decide +kernel
theorem dX1_copyFrom_20 : decode cX1_copyFrom 20 = .ok (.getfield 19, 3) := by decide +kernel
theorem dX1_copyFrom_23 : decode cX1_copyFrom 23 = .ok (.aload_n 0, 1) := by decide +kernel
theorem dX1_copyFrom_24 : decode cX1_copyFrom 24 = .ok (.getfield 19, 3) := by decide +kernel
theorem dX1_copyFrom_27 : decode cX1_copyFrom 27 = .ok (.invokestatic 31, 3) := by decide +kernel
theorem dX1_copyFrom_30 : decode cX1_copyFrom 30 = .ok (.aload_n 1, 1) := by decide +kernel
theorem dX1_copyFrom_31 : decode cX1_copyFrom 31 = .ok (.getfield 22, 3) := by decide +kernel
theorem dX1_copyFrom_34 : decode cX1_copyFrom 34 = .ok (.aload_n 0, 1) := by decide +kernel
theorem dX1_copyFrom_35 : decode cX1_copyFrom 35 = .ok (.getfield 22, 3) := by decide +kernel
theorem dX1_copyFrom_38 : decode cX1_copyFrom 38 = .ok (.invokestatic 31, 3) := by decide +kernel
theorem dX1_copyFrom_41 : decode cX1_copyFrom 41 = .ok (.aload_n 1, 1) := by decide +kernel
theorem dX1_copyFrom_42 : decode cX1_copyFrom 42 = .ok (.getfield 25, 3) := by decide +kernel
theorem dX1_copyFrom_45 : decode cX1_copyFrom 45 = .ok (.aload_n 0, 1) := by decide +kernel
theorem dX1_copyFrom_46 : decode cX1_copyFrom 46 = .ok (.getfield 25, 3) := by decide +kernel
theorem dX1_copyFrom_49 : decode cX1_copyFrom 49 = .ok (.invokestatic 31, 3) := by decide +kernel
theorem dX1_copyFrom_52 : decode cX1_copyFrom 52 = .ok (.aload_n 1, 1) := by decide +kernel
theorem dX1_copyFrom_53 : decode cX1_copyFrom 53 = .ok (.getfield 28, 3) := by decide +kernel
theorem dX1_copyFrom_56 : decode cX1_copyFrom 56 = .ok (.aload_n 0, 1) := by decide +kernel
theorem dX1_copyFrom_57 : decode cX1_copyFrom 57 = .ok (.getfield 28, 3) := by decide +kernel
theorem dX1_copyFrom_60 : decode cX1_copyFrom 60 = .ok (.invokestatic 31, 3) := by decide +kernel
theorem dX1_copyFrom_63 : decode cX1_copyFrom 63 = .ok (.return_, 1) := by decide +kernel
theorem dX1_preference_0 : decode cX1_preference 0 = .ok (.iload_n 2, 1) := by decide +kernel
theorem dX1_preference_1 : decode cX1_preference 1 = .ok (.aload_n 0, 1) := by decide +kernel
theorem dX1_preference_2 : decode cX1_preference 2 = .ok (.getfield 15, 3) := by decide +kernel
theorem dX1_preference_5 : decode cX1_preference 5 = .ok (.iload_n 1, 1) := by decide +kernel
theorem dX1_preference_6 : decode cX1_preference 6 = .ok (.iaload, 1) := by decide +kernel
theorem dX1_preference_7 : decode cX1_preference 7 = .ok (.imul, 1) := by decide +kernel
theorem dX1_preference_8 : decode cX1_preference 8 = .ok (.aload_n 0, 1) := by decide +kernel
theorem dX1_preference_9 : decode cX1_preference 9 = .ok (.getfield 19, 3) := by decide +kernel
theorem dX1_preference_12 : decode cX1_preference 12 = .ok (.iload_n 1, 1) := by decide +kernel
theorem dX1_preference_13 : decode cX1_preference 13 = .ok (.iaload, 1) := by decide +kernel
theorem dX1_preference_14 : decode cX1_preference 14 = .ok (.imul, 1) := by decide +kernel
theorem dX1_preference_15 : decode cX1_preference 15 = .ok (.ireturn, 1) := by decide +kernel
theorem dX1_common_0 : decode cX1_common 0 = .ok (.iload_n 2, 1) := by decide +kernel
theorem dX1_common_1 : decode cX1_common 1 = .ok (.aload_n 0, 1) := by decide +kernel
theorem dX1_common_2 : decode cX1_common 2 = .ok (.getfield 28, 3) := by decide +kernel
theorem dX1_common_5 : decode cX1_common 5 = .ok (.iload_n 1, 1) := by decide +kernel
theorem dX1_common_6 : decode cX1_common 6 = .ok (.iaload, 1) := by decide +kernel
theorem dX1_common_7 : decode cX1_common 7 = .ok (.imul, 1) := by decide +kernel
theorem dX1_common_8 : decode cX1_common 8 = .ok (.ireturn, 1) := by decide +kernel
set_option maxRecDepth 20000 in
theorem ggX2_init_X1_init : GoodIn wsX2_init wsX1_init := goodIn_r _ [24, 25, 2, 3, 26, 20, 27, 28, 29, 30, 31, 54, 55, 56, 57, 58, 59] (by decide +kernel) (by decide +kernel)
set_option maxRecDepth 20000 in
theorem gX2_init_X1_init : GoodIn wsX2_init (wsX1_init) := ggX2_init_X1_init
set_option maxRecDepth 20000 in
theorem ggX2_init_X0_init : GoodIn wsX2_init wsX0_init := goodIn_r _ [33, 34, 2, 3, 20, 35, 36, 37, 38, 71, 72, 73, 74] (by decide +kernel) (by decide +kernel)
set_option maxRecDepth 20000 in
theorem gX2_init_X0_init_n20 : GoodIn wsX2_init (wsX0_init) := ggX2_init_X0_init
set_option maxRecDepth 20000 in
theorem ggX2_init_X4_init : GoodIn wsX2_init wsX4_init := goodIn_r _ [40, 41, 2, 3, 20, 42, 43, 44, 45, 46, 47, 48, 75, 76, 77, 78, 79, 80, 81, 82] (by decide +kernel) (by decide +kernel)
set_option maxRecDepth 20000 in
theorem gX2_init_X4_init_n27 : GoodIn wsX2_init (wsX4_init) := ggX2_init_X4_init
set_option maxRecDepth 20000 in
theorem ggX2_init_X7_init : GoodIn wsX2_init wsX7_init := goodIn_r _ [50, 51, 2, 3, 20, 52, 53, 83, 84, 85, 86, 87, 88] (by decide +kernel) (by decide +kernel)
set_option maxRecDepth 20000 in
theorem gX2_init_X7_init_n34 : GoodIn wsX2_init (wsX7_init) := ggX2_init_X7_init
theorem dX2_init_0 : decode cX2_init 0 = .ok (.aload_n 0, 1) := by decide +kernel
theorem dX2_init_1 : decode cX2_init 1 = .ok (.invokespecial 3, 3) := by decide +kernel
theorem dX2_init_4 : decode cX2_init 4 = .ok (.aload_n 0, 1) := by decide +kernel
theorem dX2_init_5 : decode cX2_init 5 = .ok (.new 9, 3) := by decide +kernel
theorem dX2_init_8 : decode cX2_init 8 = .ok (.dup, 1) := by decide +kernel
theorem dX2_init_9 : decode cX2_init 9 = .ok (.invokespecial 11, 3) := by decide +kernel
theorem dX2_init_12 : decode cX2_init 12 = .ok (.putfield 12, 3) := by decide +kernel
theorem dX2_init_15 : decode cX2_init 15 = .ok (.aload_n 0, 1) := by decide +kernel
theorem dX2_init_16 : decode cX2_init 16 = .ok (.new 18, 3) := by decide +kernel
theorem dX2_init_19 : decode cX2_init 19 = .ok (.dup, 1) := by decide +kernel
theorem dX2_init_20 : decode cX2_init 20 = .ok (.invokespecial 20, 3) := by decide +kernel
theorem dX2_init_23 : decode cX2_init 23 = .ok (.putfield 21, 3) := by decide +kernel
theorem dX2_init_26 : decode cX2_init 26 = .ok (.aload_n 0, 1) := by decide +kernel
theorem dX2_init_27 : decode cX2_init 27 = .ok (.new 25, 3) := by decide +kernel
theorem dX2_init_30 : decode cX2_init 30 = .ok (.dup, 1) := by decide +kernel
theorem dX2_init_31 : decode cX2_init 31 = .ok (.invokespecial 27, 3) := by decide +kernel
theorem dX2_init_34 : decode cX2_init 34 = .ok (.putfield 28, 3) := by decide +kernel
theorem dX2_init_37 : decode cX2_init 37 = .ok (.aload_n 0, 1) := by decide +kernel
theorem dX2_init_38 : decode cX2_init 38 = .ok (.new 32, 3) := by decide +kernel
theorem dX2_init_41 : decode cX2_init 41 = .ok (.dup, 1) := by decide +kernel
theorem dX2_init_42 : decode cX2_init 42 = .ok (.invokespecial 34, 3) := by decide +kernel
theorem dX2_init_45 : decode cX2_init 45 = .ok (.putfield 35, 3) := by decide +kernel
theorem dX2_init_48 : decode cX2_init 48 = .ok (.aload_n 0, 1) := by decide +kernel
theorem dX2_init_49 : decode cX2_init 49 = .ok (.bipush 8, 2) := by decide +kernel
theorem dX2_init_51 : decode cX2_init 51 = .ok (.newarray .int, 2) := by decide +kernel
theorem dX2_init_53 : decode cX2_init 53 = .ok (.putfield 39, 3) := by decide +kernel
theorem dX2_init_56 : decode cX2_init 56 = .ok (.return_, 1) := by decide +kernel
set_option maxRecDepth 20000 in
theorem ggX2_copyFrom_X1_copyFrom : GoodIn wsX2_copyFrom wsX1_copyFrom := goodIn_r _ [16, 17, 18, 19, 20, 21, 22, 23, 24, 25, 26, 27, 28, 29, 30, 31, 32, 33, 78, 79, 80, 81, 82, 83] (by decide +kernel) (by decide +kernel)
set_option maxRecDepth 20000 in
theorem gX2_copyFrom_X1_copyFrom : GoodIn wsX2_copyFrom (wsV RX2 43 RX1 yX1_copyFrom wsX1_copyFrom) := goodIn_app (goodIn_of _ (by decide +kernel)) ggX2_copyFrom_X1_copyFrom
set_option maxRecDepth 20000 in
theorem ggX2_copyFrom_X0_copyFrom : GoodIn wsX2_copyFrom wsX0_copyFrom := goodIn_r _ [38, 39, 40, 41, 42, 23, 24, 25, 26, 27, 28, 29, 30, 31, 32, 33, 84, 85, 86, 87] (by decide +kernel) (by decide +kernel)
set_option maxRecDepth 20000 in
theorem gX2_copyFrom_X0_copyFrom : GoodIn wsX2_copyFrom (wsV RX2 47 RX0 yX0_copyFrom wsX0_copyFrom) := goodIn_app (goodIn_of _ (by decide +kernel)) ggX2_copyFrom_X0_copyFrom
set_option maxRecDepth 20000 in
theorem ggX2_copyFrom_X4_copyFrom : GoodIn wsX2_copyFrom wsX4_copyFrom := goodIn_r _ [47, 48, 49, 50, 51, 52, 53, 54, 55, 23, 24, 25, 26, 27, 28, 29, 30, 31, 32, 33, 88, 89, 90, 91, 92, 93, 94, 95] (by decide +kernel) (by decide +kernel)
set_option maxRecDepth 20000 in
theorem gX2_copyFrom_X4_copyFrom : GoodIn wsX2_copyFrom (wsV RX2 50 RX4 yX4_copyFrom wsX4_copyFrom) := goodIn_app (goodIn_of _ (by decide +kernel)) ggX2_copyFrom_X4_copyFrom
set_option maxRecDepth 20000 in
theorem ggX2_copyFrom_X7_copyFrom : GoodIn wsX2_copyFrom wsX7_copyFrom := goodIn_r _ [60, 61, 62, 63, 64, 65, 66, 23, 24, 25, 26, 27, 28, 29, 30, 31, 32, 33, 96, 97, 98, 99, 100, 101] (by decide +kernel) (by decide +kernel)
set_option maxRecDepth 20000 in
theorem gX2_copyFrom_X7_copyFrom : GoodIn wsX2_copyFrom (wsV RX2 53 RX7 yX7_copyFrom wsX7_copyFrom) := goodIn_app (goodIn_of _ (by decide +kernel)) ggX2_copyFrom_X7_copyFrom
set_option maxRecDepth 20000 in
theorem ggX2_copyFrom_X9_copyRow : GoodIn wsX2_copyFrom wsX9_copyRow := goodIn_r _ [25, 26, 27, 28, 29, 30, 31, 32, 33] (by decide +kernel) (by decide +kernel)
set_option maxRecDepth 20000 in
theorem gX2_copyFrom_X9_copyRow_n60 : GoodIn wsX2_copyFrom (wsX9_copyRow) := ggX2_copyFrom_X9_copyRow
theorem dX2_copyFrom_0 : decode cX2_copyFrom 0 = .ok (.aload_n 0, 1) := by decide +kernel
theorem dX2_copyFrom_1 : decode cX2_copyFrom 1 = .ok (.getfield 12, 3) := by decide +kernel
theorem dX2_copyFrom_4 : decode cX2_copyFrom 4 = .ok (.aload_n 1, 1) := by decide +kernel
theorem dX2_copyFrom_5 : decode cX2_copyFrom 5 = .ok (.getfield 12, 3) := by decide +kernel
theorem dX2_copyFrom_8 : decode cX2_copyFrom 8 = .ok (.invokevirtual 43, 3) := by decide +kernel
theorem dX2_copyFrom_11 : decode cX2_copyFrom 11 = .ok (.aload_n 0, 1) := by decide +kernel
theorem dX2_copyFrom_12 : decode cX2_copyFrom 12 = .ok (.getfield 21, 3) := by decide +kernel
theorem dX2_copyFrom_15 : decode cX2_copyFrom 15 = .ok (.aload_n 1, 1) := by decide +kernel
theorem dX2_copyFrom_16 : decode cX2_copyFrom 16 = .ok (.getfield 21, 3) := by decide +kernel
theorem dX2_copyFrom_19 : decode cX2_copyFrom 19 = .ok (.invokevirtual 47, 3) := by decide +kernel
theorem dX2_copyFrom_22 : decode cX2_copyFrom 22 = .ok (.aload_n 0, 1) := by decide +kernel
theorem dX2_copyFrom_23 : decode cX2_copyFrom 23 = .ok (.getfield 28, 3) := by decide +kernel
theorem dX2_copyFrom_26 : decode cX2_copyFrom 26 = .ok (.aload_n 1, 1) := by decide +kernel
theorem dX2_copyFrom_27 : decode cX2_copyFrom 27 = .ok (.getfield 28, 3) := by decide +kernel
theorem dX2_copyFrom_30 : decode cX2_copyFrom 30 = .ok (.invokevirtual 50, 3) := by decide +kernel
theorem dX2_copyFrom_33 : decode cX2_copyFrom 33 = .ok (.aload_n 0, 1) := by decide +kernel
theorem dX2_copyFrom_34 : decode cX2_copyFrom 34 = .ok (.getfield 35, 3) := by decide +kernel
theorem dX2_copyFrom_37 : decode cX2_copyFrom 37 = .ok (.aload_n 1, 1) := by decide +kernel
theorem dX2_copyFrom_38 : decode cX2_copyFrom 38 = .ok (.getfield 35, 3) := by decide +kernel
theorem dX2_copyFrom_41 : decode cX2_copyFrom 41 = .ok (.invokevirtual 53, 3) := by decide +kernel
theorem dX2_copyFrom_44 : decode cX2_copyFrom 44 = .ok (.aload_n 0, 1) := by decide +kernel
theorem dX2_copyFrom_45 : decode cX2_copyFrom 45 = .ok (.aload_n 1, 1) := by decide +kernel
theorem dX2_copyFrom_46 : decode cX2_copyFrom 46 = .ok (.getfield 56, 3) := by decide +kernel
theorem dX2_copyFrom_49 : decode cX2_copyFrom 49 = .ok (.putfield 56, 3) := by decide +kernel
theorem dX2_copyFrom_52 : decode cX2_copyFrom 52 = .ok (.aload_n 1, 1) := by decide +kernel
theorem dX2_copyFrom_53 : decode cX2_copyFrom 53 = .ok (.getfield 39, 3) := by decide +kernel
theorem dX2_copyFrom_56 : decode cX2_copyFrom 56 = .ok (.aload_n 0, 1) := by decide +kernel
theorem dX2_copyFrom_57 : decode cX2_copyFrom 57 = .ok (.getfield 39, 3) := by decide +kernel
theorem dX2_copyFrom_60 : decode cX2_copyFrom 60 = .ok (.invokestatic 60, 3) := by decide +kernel
theorem dX2_copyFrom_63 : decode cX2_copyFrom 63 = .ok (.aload_n 0, 1) := by decide +kernel
theorem dX2_copyFrom_64 : decode cX2_copyFrom 64 = .ok (.aload_n 1, 1) := by decide +kernel
theorem dX2_copyFrom_65 : decode cX2_copyFrom 65 = .ok (.getfield 64, 3) := by decide +kernel
theorem dX2_copyFrom_68 : decode cX2_copyFrom 68 = .ok (.putfield 64, 3) := by decide +kernel
theorem dX2_copyFrom_71 : decode cX2_copyFrom 71 = .ok (.aload_n 0, 1) := by decide +kernel
theorem dX2_copyFrom_72 : decode cX2_copyFrom 72 = .ok (.aload_n 1, 1) := by decide +kernel
theorem dX2_copyFrom_73 : decode cX2_copyFrom 73 = .ok (.getfield 67, 3) := by decide +kernel
theorem dX2_copyFrom_76 : decode cX2_copyFrom 76 = .ok (.putfield 67, 3) := by decide +kernel
theorem dX2_copyFrom_79 : decode cX2_copyFrom 79 = .ok (.aload_n 0, 1) := by decide +kernel
theorem dX2_copyFrom_80 : decode cX2_copyFrom 80 = .ok (.aload_n 1, 1) := by decide +kernel
theorem dX2_copyFrom_81 : decode cX2_copyFrom 81 = .ok (.getfield 70, 3) := by decide +kernel
theorem dX2_copyFrom_84 : decode cX2_copyFrom 84 = .ok (.putfield 70, 3) := by decide +kernel
theorem dX2_copyFrom_87 : decode cX2_copyFrom 87 = .ok (.aload_n 0, 1) := by decide +kernel
theorem dX2_copyFrom_88 : decode cX2_copyFrom 88 = .ok (.aload_n 1, 1) := by decide +kernel
theorem dX2_copyFrom_89 : decode cX2_copyFrom 89 = .ok (.getfield 73, 3) := by decide +kernel
theorem dX2_copyFrom_92 : decode cX2_copyFrom 92 = .ok (.putfield 73, 3) := by decide +kernel
theorem dX2_copyFrom_95 : decode cX2_copyFrom 95 = .ok (.aload_n 0, 1) := by decide +kernel
theorem dX2_copyFrom_96 : decode cX2_copyFrom 96 = .ok (.aload_n 1, 1) := by decide +kernel
theorem dX2_copyFrom_97 : decode cX2_copyFrom 97 = .ok (.getfield 76, 3) := by decide +kernel
theorem dX2_copyFrom_100 : decode cX2_copyFrom 100 = .ok (.putfield 76, 3) := by decide +kernel
theorem dX2_copyFrom_103 : decode cX2_copyFrom 103 = .ok (.return_, 1) := by decide +kernel
set_option maxRecDepth 20000 in
theorem ggX2_hasClass_X9_within : GoodIn wsX2_hasClass wsX9_within := goodIn_r _ [5] (by decide +kernel) (by decide +kernel)
set_option maxRecDepth 20000 in
theorem gX2_hasClass_X9_within_n82 : GoodIn wsX2_hasClass (wsX9_within) := ggX2_hasClass_X9_within
theorem dX2_hasClass_0 : decode cX2_hasClass 0 = .ok (.iload_n 1, 1) := by decide +kernel
theorem dX2_hasClass_1 : decode cX2_hasClass 1 = .ok (.iconst 0, 1) := by decide +kernel
theorem dX2_hasClass_2 : decode cX2_hasClass 2 = .ok (.aload_n 0, 1) := by decide +kernel
theorem dX2_hasClass_3 : decode cX2_hasClass 3 = .ok (.getfield 12, 3) := by decide +kernel
theorem dX2_hasClass_6 : decode cX2_hasClass 6 = .ok (.getfield 79, 3) := by decide +kernel
theorem dX2_hasClass_9 : decode cX2_hasClass 9 = .ok (.iconst 1, 1) := by decide +kernel
theorem dX2_hasClass_10 : decode cX2_hasClass 10 = .ok (.isub, 1) := by decide +kernel
theorem dX2_hasClass_11 : decode cX2_hasClass 11 = .ok (.invokestatic 82, 3) := by decide +kernel
theorem dX2_hasClass_14 : decode cX2_hasClass 14 = .ok (.ireturn, 1) := by decide +kernel
set_option maxRecDepth 20000 in
theorem ggX2_hasHolder_X9_within : GoodIn wsX2_hasHolder wsX9_within := goodIn_r _ [4] (by decide +kernel) (by decide +kernel)
set_option maxRecDepth 20000 in
theorem gX2_hasHolder_X9_within_n82 : GoodIn wsX2_hasHolder (wsX9_within) := ggX2_hasHolder_X9_within
theorem dX2_hasHolder_0 : decode cX2_hasHolder 0 = .ok (.iload_n 1, 1) := by decide +kernel
theorem dX2_hasHolder_1 : decode cX2_hasHolder 1 = .ok (.iconst 0, 1) := by decide +kernel
theorem dX2_hasHolder_2 : decode cX2_hasHolder 2 = .ok (.aload_n 0, 1) := by decide +kernel
theorem dX2_hasHolder_3 : decode cX2_hasHolder 3 = .ok (.getfield 56, 3) := by decide +kernel
theorem dX2_hasHolder_6 : decode cX2_hasHolder 6 = .ok (.iconst 1, 1) := by decide +kernel
theorem dX2_hasHolder_7 : decode cX2_hasHolder 7 = .ok (.isub, 1) := by decide +kernel
theorem dX2_hasHolder_8 : decode cX2_hasHolder 8 = .ok (.invokestatic 82, 3) := by decide +kernel
theorem dX2_hasHolder_11 : decode cX2_hasHolder 11 = .ok (.ireturn, 1) := by decide +kernel
set_option maxRecDepth 20000 in
theorem ggX2_hasGrant_X9_within : GoodIn wsX2_hasGrant wsX9_within := goodIn_r _ [5] (by decide +kernel) (by decide +kernel)
set_option maxRecDepth 20000 in
theorem gX2_hasGrant_X9_within_n82 : GoodIn wsX2_hasGrant (wsX9_within) := ggX2_hasGrant_X9_within
theorem dX2_hasGrant_0 : decode cX2_hasGrant 0 = .ok (.iload_n 1, 1) := by decide +kernel
theorem dX2_hasGrant_1 : decode cX2_hasGrant 1 = .ok (.iconst 0, 1) := by decide +kernel
theorem dX2_hasGrant_2 : decode cX2_hasGrant 2 = .ok (.aload_n 0, 1) := by decide +kernel
theorem dX2_hasGrant_3 : decode cX2_hasGrant 3 = .ok (.getfield 28, 3) := by decide +kernel
theorem dX2_hasGrant_6 : decode cX2_hasGrant 6 = .ok (.getfield 86, 3) := by decide +kernel
theorem dX2_hasGrant_9 : decode cX2_hasGrant 9 = .ok (.iconst 1, 1) := by decide +kernel
theorem dX2_hasGrant_10 : decode cX2_hasGrant 10 = .ok (.isub, 1) := by decide +kernel
theorem dX2_hasGrant_11 : decode cX2_hasGrant 11 = .ok (.invokestatic 82, 3) := by decide +kernel
theorem dX2_hasGrant_14 : decode cX2_hasGrant 14 = .ok (.ireturn, 1) := by decide +kernel
set_option maxRecDepth 20000 in
theorem ggX2_addClass_X9_within : GoodIn wsX2_addClass wsX9_within := goodIn_r _ [10] (by decide +kernel) (by decide +kernel)
set_option maxRecDepth 20000 in
theorem gX2_addClass_X9_within_n82 : GoodIn wsX2_addClass (wsX9_within) := ggX2_addClass_X9_within
theorem dX2_addClass_0 : decode cX2_addClass 0 = .ok (.iload_n 1, 1) := by decide +kernel
theorem dX2_addClass_1 : decode cX2_addClass 1 = .ok (.iconst 1, 1) := by decide +kernel
theorem dX2_addClass_2 : decode cX2_addClass 2 = .ok (.bipush 99, 2) := by decide +kernel
theorem dX2_addClass_4 : decode cX2_addClass 4 = .ok (.invokestatic 82, 3) := by decide +kernel
theorem dX2_addClass_7 : decode cX2_addClass 7 = .ok (.ifCond .eq 42, 3) := by decide +kernel
theorem dX2_addClass_10 : decode cX2_addClass 10 = .ok (.iload_n 2, 1) := by decide +kernel
theorem dX2_addClass_11 : decode cX2_addClass 11 = .ok (.iconst 1, 1) := by decide +kernel
theorem dX2_addClass_12 : decode cX2_addClass 12 = .ok (.iconst 3, 1) := by decide +kernel
theorem dX2_addClass_13 : decode cX2_addClass 13 = .ok (.invokestatic 82, 3) := by decide +kernel
theorem dX2_addClass_16 : decode cX2_addClass 16 = .ok (.ifCond .eq 33, 3) := by decide +kernel
theorem dX2_addClass_19 : decode cX2_addClass 19 = .ok (.iload_n 3, 1) := by decide +kernel
theorem dX2_addClass_20 : decode cX2_addClass 20 = .ok (.iconst 0, 1) := by decide +kernel
theorem dX2_addClass_21 : decode cX2_addClass 21 = .ok (.bipush 9, 2) := by decide +kernel
theorem dX2_addClass_23 : decode cX2_addClass 23 = .ok (.invokestatic 82, 3) := by decide +kernel
theorem dX2_addClass_26 : decode cX2_addClass 26 = .ok (.ifCond .eq 23, 3) := by decide +kernel
theorem dX2_addClass_29 : decode cX2_addClass 29 = .ok (.iload 4, 2) := by decide +kernel
theorem dX2_addClass_31 : decode cX2_addClass 31 = .ok (.iconst 0, 1) := by decide +kernel
theorem dX2_addClass_32 : decode cX2_addClass 32 = .ok (.iconst 2, 1) := by decide +kernel
theorem dX2_addClass_33 : decode cX2_addClass 33 = .ok (.invokestatic 82, 3) := by decide +kernel
theorem dX2_addClass_36 : decode cX2_addClass 36 = .ok (.ifCond .eq 13, 3) := by decide +kernel
theorem dX2_addClass_39 : decode cX2_addClass 39 = .ok (.iload 5, 2) := by decide +kernel
theorem dX2_addClass_41 : decode cX2_addClass 41 = .ok (.iconst 1, 1) := by decide +kernel
theorem dX2_addClass_42 : decode cX2_addClass 42 = .ok (.iconst 4, 1) := by decide +kernel
theorem dX2_addClass_43 : decode cX2_addClass 43 = .ok (.invokestatic 82, 3) := by decide +kernel
theorem dX2_addClass_46 : decode cX2_addClass 46 = .ok (.ifCond .ne 5, 3) := by decide +kernel
theorem dX2_addClass_49 : decode cX2_addClass 49 = .ok (.iconst (-1), 1) := by decide +kernel
theorem dX2_addClass_50 : decode cX2_addClass 50 = .ok (.ireturn, 1) := by decide +kernel
theorem dX2_addClass_51 : decode cX2_addClass 51 = .ok (.aload_n 0, 1) := by decide +kernel
theorem dX2_addClass_52 : decode cX2_addClass 52 = .ok (.getfield 12, 3) := by decide +kernel
theorem dX2_addClass_55 : decode cX2_addClass 55 = .ok (.getfield 79, 3) := by decide +kernel
theorem dX2_addClass_58 : decode cX2_addClass 58 = .ok (.istore 6, 2) := by decide +kernel
theorem dX2_addClass_60 : decode cX2_addClass 60 = .ok (.iload 6, 2) := by decide +kernel
theorem dX2_addClass_62 : decode cX2_addClass 62 = .ok (.iconst 5, 1) := by decide +kernel
theorem dX2_addClass_63 : decode cX2_addClass 63 = .ok (.if_icmp .lt 6, 3) := by decide +kernel
theorem dX2_addClass_66 : decode cX2_addClass 66 = .ok (.bipush (-3), 2) := by decide +kernel
theorem dX2_addClass_68 : decode cX2_addClass 68 = .ok (.ireturn, 1) := by decide +kernel
theorem dX2_addClass_69 : decode cX2_addClass 69 = .ok (.aload_n 0, 1) := by decide +kernel
theorem dX2_addClass_70 : decode cX2_addClass 70 = .ok (.getfield 12, 3) := by decide +kernel
theorem dX2_addClass_73 : decode cX2_addClass 73 = .ok (.getfield 87, 3) := by decide +kernel
theorem dX2_addClass_76 : decode cX2_addClass 76 = .ok (.iload 6, 2) := by decide +kernel
theorem dX2_addClass_78 : decode cX2_addClass 78 = .ok (.iload_n 1, 1) := by decide +kernel
theorem dX2_addClass_79 : decode cX2_addClass 79 = .ok (.iastore, 1) := by decide +kernel
theorem dX2_addClass_80 : decode cX2_addClass 80 = .ok (.aload_n 0, 1) := by decide +kernel
theorem dX2_addClass_81 : decode cX2_addClass 81 = .ok (.getfield 12, 3) := by decide +kernel
theorem dX2_addClass_84 : decode cX2_addClass 84 = .ok (.getfield 90, 3) := by decide +kernel
theorem dX2_addClass_87 : decode cX2_addClass 87 = .ok (.iload 6, 2) := by decide +kernel
theorem dX2_addClass_89 : decode cX2_addClass 89 = .ok (.iload_n 2, 1) := by decide +kernel
theorem dX2_addClass_90 : decode cX2_addClass 90 = .ok (.iastore, 1) := by decide +kernel
theorem dX2_addClass_91 : decode cX2_addClass 91 = .ok (.aload_n 0, 1) := by decide +kernel
theorem dX2_addClass_92 : decode cX2_addClass 92 = .ok (.getfield 12, 3) := by decide +kernel
theorem dX2_addClass_95 : decode cX2_addClass 95 = .ok (.getfield 93, 3) := by decide +kernel
theorem dX2_addClass_98 : decode cX2_addClass 98 = .ok (.iload 6, 2) := by decide +kernel
theorem dX2_addClass_100 : decode cX2_addClass 100 = .ok (.iload_n 3, 1) := by decide +kernel
theorem dX2_addClass_101 : decode cX2_addClass 101 = .ok (.iastore, 1) := by decide +kernel
theorem dX2_addClass_102 : decode cX2_addClass 102 = .ok (.aload_n 0, 1) := by decide +kernel
theorem dX2_addClass_103 : decode cX2_addClass 103 = .ok (.getfield 12, 3) := by decide +kernel
theorem dX2_addClass_106 : decode cX2_addClass 106 = .ok (.getfield 96, 3) := by decide +kernel
theorem dX2_addClass_109 : decode cX2_addClass 109 = .ok (.iload 6, 2) := by decide +kernel
theorem dX2_addClass_111 : decode cX2_addClass 111 = .ok (.iload 4, 2) := by decide +kernel
theorem dX2_addClass_113 : decode cX2_addClass 113 = .ok (.iastore, 1) := by decide +kernel
theorem dX2_addClass_114 : decode cX2_addClass 114 = .ok (.aload_n 0, 1) := by decide +kernel
theorem dX2_addClass_115 : decode cX2_addClass 115 = .ok (.getfield 12, 3) := by decide +kernel
theorem dX2_addClass_118 : decode cX2_addClass 118 = .ok (.getfield 99, 3) := by decide +kernel
theorem dX2_addClass_121 : decode cX2_addClass 121 = .ok (.iload 6, 2) := by decide +kernel
theorem dX2_addClass_123 : decode cX2_addClass 123 = .ok (.iload 5, 2) := by decide +kernel
theorem dX2_addClass_125 : decode cX2_addClass 125 = .ok (.iastore, 1) := by decide +kernel
theorem dX2_addClass_126 : decode cX2_addClass 126 = .ok (.aload_n 0, 1) := by decide +kernel
theorem dX2_addClass_127 : decode cX2_addClass 127 = .ok (.getfield 12, 3) := by decide +kernel
theorem dX2_addClass_130 : decode cX2_addClass 130 = .ok (.iload 6, 2) := by decide +kernel
theorem dX2_addClass_132 : decode cX2_addClass 132 = .ok (.iconst 1, 1) := by decide +kernel
theorem dX2_addClass_133 : decode cX2_addClass 133 = .ok (.iadd, 1) := by decide +kernel
theorem dX2_addClass_134 : decode cX2_addClass 134 = .ok (.putfield 79, 3) := by decide +kernel
theorem dX2_addClass_137 : decode cX2_addClass 137 = .ok (.iload 6, 2) := by decide +kernel
theorem dX2_addClass_139 : decode cX2_addClass 139 = .ok (.ireturn, 1) := by decide +kernel
theorem dX2_addHolder_0 : decode cX2_addHolder 0 = .ok (.aload_n 0, 1) := by decide +kernel
theorem dX2_addHolder_1 : decode cX2_addHolder 1 = .ok (.getfield 56, 3) := by decide +kernel
theorem dX2_addHolder_4 : decode cX2_addHolder 4 = .ok (.istore_n 1, 1) := by decide +kernel
theorem dX2_addHolder_5 : decode cX2_addHolder 5 = .ok (.iload_n 1, 1) := by decide +kernel
theorem dX2_addHolder_6 : decode cX2_addHolder 6 = .ok (.bipush 8, 2) := by decide +kernel
theorem dX2_addHolder_8 : decode cX2_addHolder 8 = .ok (.if_icmp .lt 6, 3) := by decide +kernel
theorem dX2_addHolder_11 : decode cX2_addHolder 11 = .ok (.bipush (-3), 2) := by decide +kernel
theorem dX2_addHolder_13 : decode cX2_addHolder 13 = .ok (.ireturn, 1) := by decide +kernel
theorem dX2_addHolder_14 : decode cX2_addHolder 14 = .ok (.aload_n 0, 1) := by decide +kernel
theorem dX2_addHolder_15 : decode cX2_addHolder 15 = .ok (.getfield 39, 3) := by decide +kernel
theorem dX2_addHolder_18 : decode cX2_addHolder 18 = .ok (.iload_n 1, 1) := by decide +kernel
theorem dX2_addHolder_19 : decode cX2_addHolder 19 = .ok (.iconst (-1), 1) := by decide +kernel
theorem dX2_addHolder_20 : decode cX2_addHolder 20 = .ok (.iastore, 1) := by decide +kernel
theorem dX2_addHolder_21 : decode cX2_addHolder 21 = .ok (.aload_n 0, 1) := by decide +kernel
theorem dX2_addHolder_22 : decode cX2_addHolder 22 = .ok (.iload_n 1, 1) := by decide +kernel
theorem dX2_addHolder_23 : decode cX2_addHolder 23 = .ok (.iconst 1, 1) := by decide +kernel
theorem dX2_addHolder_24 : decode cX2_addHolder 24 = .ok (.iadd, 1) := by decide +kernel
theorem dX2_addHolder_25 : decode cX2_addHolder 25 = .ok (.putfield 56, 3) := by decide +kernel
theorem dX2_addHolder_28 : decode cX2_addHolder 28 = .ok (.iload_n 1, 1) := by decide +kernel
theorem dX2_addHolder_29 : decode cX2_addHolder 29 = .ok (.ireturn, 1) := by decide +kernel
set_option maxRecDepth 20000 in
theorem ggX2_issueShares_X2_hasHolder : GoodIn wsX2_issueShares wsX2_hasHolder := goodIn_r _ [10, 11, 12, 13, 14, 34, 35, 36, 37, 38, 39, 40, 41, 42, 43, 44] (by decide +kernel) (by decide +kernel)
set_option maxRecDepth 20000 in
theorem gX2_issueShares_X2_hasHolder : GoodIn wsX2_issueShares (wsV RX2 102 RX2 yX2_hasHolder wsX2_hasHolder) := goodIn_app (goodIn_of _ (by decide +kernel)) ggX2_issueShares_X2_hasHolder
set_option maxRecDepth 20000 in
theorem ggX2_issueShares_X2_hasClass : GoodIn wsX2_issueShares wsX2_hasClass := goodIn_r _ [18, 19, 20, 12, 13, 14, 34, 35, 36, 37, 38, 39, 40, 41, 42, 43, 44, 51, 52, 53, 54, 55, 56] (by decide +kernel) (by decide +kernel)
set_option maxRecDepth 20000 in
theorem gX2_issueShares_X2_hasClass : GoodIn wsX2_issueShares (wsV RX2 106 RX2 yX2_hasClass wsX2_hasClass) := goodIn_app (goodIn_of _ (by decide +kernel)) ggX2_issueShares_X2_hasClass
set_option maxRecDepth 20000 in
theorem ggX2_issueShares_X9_within : GoodIn wsX2_issueShares wsX9_within := goodIn_r _ [14] (by decide +kernel) (by decide +kernel)
set_option maxRecDepth 20000 in
theorem gX2_issueShares_X9_within_n82 : GoodIn wsX2_issueShares (wsX9_within) := ggX2_issueShares_X9_within
set_option maxRecDepth 20000 in
theorem ggX2_issueShares_X0_size : GoodIn wsX2_issueShares wsX0_size := goodIn_r _ [25, 26, 57, 58, 59, 60] (by decide +kernel) (by decide +kernel)
set_option maxRecDepth 20000 in
theorem gX2_issueShares_X0_size : GoodIn wsX2_issueShares (wsV RX2 113 RX0 yX0_size wsX0_size) := goodIn_app (goodIn_of _ (by decide +kernel)) ggX2_issueShares_X0_size
set_option maxRecDepth 20000 in
theorem ggX2_issueShares_X0_add : GoodIn wsX2_issueShares wsX0_add := goodIn_r _ [30, 26, 31, 32, 33, 57, 58, 59, 60] (by decide +kernel) (by decide +kernel)
set_option maxRecDepth 20000 in
theorem gX2_issueShares_X0_add : GoodIn wsX2_issueShares (wsV RX2 116 RX0 yX0_add wsX0_add) := goodIn_app (goodIn_of _ (by decide +kernel)) ggX2_issueShares_X0_add
theorem dX2_issueShares_0 : decode cX2_issueShares 0 = .ok (.aload_n 0, 1) := by decide +kernel
theorem dX2_issueShares_1 : decode cX2_issueShares 1 = .ok (.iload_n 1, 1) := by decide +kernel
theorem dX2_issueShares_2 : decode cX2_issueShares 2 = .ok (.invokevirtual 102, 3) := by decide +kernel
theorem dX2_issueShares_5 : decode cX2_issueShares 5 = .ok (.ifCond .eq 22, 3) := by decide +kernel
theorem dX2_issueShares_8 : decode cX2_issueShares 8 = .ok (.aload_n 0, 1) := by decide +kernel
theorem dX2_issueShares_9 : decode cX2_issueShares 9 = .ok (.iload_n 2, 1) := by decide +kernel
theorem dX2_issueShares_10 : decode cX2_issueShares 10 = .ok (.invokevirtual 106, 3) := by decide +kernel
theorem dX2_issueShares_13 : decode cX2_issueShares 13 = .ok (.ifCond .eq 14, 3) := by decide +kernel
theorem dX2_issueShares_16 : decode cX2_issueShares 16 = .ok (.iload_n 3, 1) := by decide +kernel
theorem dX2_issueShares_17 : decode cX2_issueShares 17 = .ok (.iconst 1, 1) := by decide +kernel
theorem dX2_issueShares_18 : decode cX2_issueShares 18 = .ok (.sipush 9999, 3) := by decide +kernel
theorem dX2_issueShares_21 : decode cX2_issueShares 21 = .ok (.invokestatic 82, 3) := by decide +kernel
theorem dX2_issueShares_24 : decode cX2_issueShares 24 = .ok (.ifCond .ne 5, 3) := by decide +kernel
theorem dX2_issueShares_27 : decode cX2_issueShares 27 = .ok (.iconst (-1), 1) := by decide +kernel
theorem dX2_issueShares_28 : decode cX2_issueShares 28 = .ok (.ireturn, 1) := by decide +kernel
theorem dX2_issueShares_29 : decode cX2_issueShares 29 = .ok (.aload_n 0, 1) := by decide +kernel
theorem dX2_issueShares_30 : decode cX2_issueShares 30 = .ok (.getfield 35, 3) := by decide +kernel
theorem dX2_issueShares_33 : decode cX2_issueShares 33 = .ok (.getfield 109, 3) := by decide +kernel
theorem dX2_issueShares_36 : decode cX2_issueShares 36 = .ok (.ifCond .eq 6, 3) := by decide +kernel
theorem dX2_issueShares_39 : decode cX2_issueShares 39 = .ok (.bipush (-2), 2) := by decide +kernel
theorem dX2_issueShares_41 : decode cX2_issueShares 41 = .ok (.ireturn, 1) := by decide +kernel
theorem dX2_issueShares_42 : decode cX2_issueShares 42 = .ok (.aload_n 0, 1) := by decide +kernel
theorem dX2_issueShares_43 : decode cX2_issueShares 43 = .ok (.getfield 21, 3) := by decide +kernel
theorem dX2_issueShares_46 : decode cX2_issueShares 46 = .ok (.invokevirtual 113, 3) := by decide +kernel
theorem dX2_issueShares_49 : decode cX2_issueShares 49 = .ok (.bipush 24, 2) := by decide +kernel
theorem dX2_issueShares_51 : decode cX2_issueShares 51 = .ok (.if_icmp .lt 6, 3) := by decide +kernel
theorem dX2_issueShares_54 : decode cX2_issueShares 54 = .ok (.bipush (-3), 2) := by decide +kernel
theorem dX2_issueShares_56 : decode cX2_issueShares 56 = .ok (.ireturn, 1) := by decide +kernel
theorem dX2_issueShares_57 : decode cX2_issueShares 57 = .ok (.aload_n 0, 1) := by decide +kernel
theorem dX2_issueShares_58 : decode cX2_issueShares 58 = .ok (.dup, 1) := by decide +kernel
theorem dX2_issueShares_59 : decode cX2_issueShares 59 = .ok (.getfield 67, 3) := by decide +kernel
theorem dX2_issueShares_62 : decode cX2_issueShares 62 = .ok (.iload_n 3, 1) := by decide +kernel
theorem dX2_issueShares_63 : decode cX2_issueShares 63 = .ok (.iadd, 1) := by decide +kernel
theorem dX2_issueShares_64 : decode cX2_issueShares 64 = .ok (.putfield 67, 3) := by decide +kernel
theorem dX2_issueShares_67 : decode cX2_issueShares 67 = .ok (.aload_n 0, 1) := by decide +kernel
theorem dX2_issueShares_68 : decode cX2_issueShares 68 = .ok (.getfield 21, 3) := by decide +kernel
theorem dX2_issueShares_71 : decode cX2_issueShares 71 = .ok (.iload_n 1, 1) := by decide +kernel
theorem dX2_issueShares_72 : decode cX2_issueShares 72 = .ok (.iload_n 2, 1) := by decide +kernel
theorem dX2_issueShares_73 : decode cX2_issueShares 73 = .ok (.iload_n 3, 1) := by decide +kernel
theorem dX2_issueShares_74 : decode cX2_issueShares 74 = .ok (.aload_n 0, 1) := by decide +kernel
theorem dX2_issueShares_75 : decode cX2_issueShares 75 = .ok (.getfield 64, 3) := by decide +kernel
theorem dX2_issueShares_78 : decode cX2_issueShares 78 = .ok (.invokevirtual 116, 3) := by decide +kernel
theorem dX2_issueShares_81 : decode cX2_issueShares 81 = .ok (.ireturn, 1) := by decide +kernel
set_option maxRecDepth 20000 in
theorem ggX2_splitCertificate_X0_has : GoodIn wsX2_splitCertificate wsX0_has := goodIn_r _ [12, 13, 14, 15, 16, 45, 46, 47, 48] (by decide +kernel) (by decide +kernel)
set_option maxRecDepth 20000 in
theorem gX2_splitCertificate_X0_has : GoodIn wsX2_splitCertificate (wsV RX2 120 RX0 yX0_has wsX0_has) := goodIn_app (goodIn_of _ (by decide +kernel)) ggX2_splitCertificate_X0_has
set_option maxRecDepth 20000 in
theorem ggX2_splitCertificate_X2_hasHolder : GoodIn wsX2_splitCertificate wsX2_hasHolder := goodIn_r _ [21, 22, 14, 15, 16, 34, 35, 36, 37, 38, 39, 40, 41, 42, 43, 44] (by decide +kernel) (by decide +kernel)
set_option maxRecDepth 20000 in
theorem gX2_splitCertificate_X2_hasHolder : GoodIn wsX2_splitCertificate (wsV RX2 102 RX2 yX2_hasHolder wsX2_hasHolder) := goodIn_app (goodIn_of _ (by decide +kernel)) ggX2_splitCertificate_X2_hasHolder
set_option maxRecDepth 20000 in
theorem ggX2_splitCertificate_X9_within : GoodIn wsX2_splitCertificate wsX9_within := goodIn_r _ [16] (by decide +kernel) (by decide +kernel)
set_option maxRecDepth 20000 in
theorem gX2_splitCertificate_X9_within_n82 : GoodIn wsX2_splitCertificate (wsX9_within) := ggX2_splitCertificate_X9_within
set_option maxRecDepth 20000 in
theorem ggX2_splitCertificate_X0_size : GoodIn wsX2_splitCertificate wsX0_size := goodIn_r _ [26, 13, 45, 46, 47, 48] (by decide +kernel) (by decide +kernel)
set_option maxRecDepth 20000 in
theorem gX2_splitCertificate_X0_size : GoodIn wsX2_splitCertificate (wsV RX2 113 RX0 yX0_size wsX0_size) := goodIn_app (goodIn_of _ (by decide +kernel)) ggX2_splitCertificate_X0_size
set_option maxRecDepth 20000 in
theorem ggX2_splitCertificate_X0_add : GoodIn wsX2_splitCertificate wsX0_add := goodIn_r _ [30, 13, 31, 32, 33, 45, 46, 47, 48] (by decide +kernel) (by decide +kernel)
set_option maxRecDepth 20000 in
theorem gX2_splitCertificate_X0_add : GoodIn wsX2_splitCertificate (wsV RX2 116 RX0 yX0_add wsX0_add) := goodIn_app (goodIn_of _ (by decide +kernel)) ggX2_splitCertificate_X0_add
theorem dX2_splitCertificate_0 : decode cX2_splitCertificate 0 = .ok (.aload_n 0, 1) := by decide +kernel
theorem dX2_splitCertificate_1 : decode cX2_splitCertificate 1 = .ok (.getfield 21, 3) := by decide +kernel
theorem dX2_splitCertificate_4 : decode cX2_splitCertificate 4 = .ok (.iload_n 1, 1) := by decide +kernel
theorem dX2_splitCertificate_5 : decode cX2_splitCertificate 5 = .ok (.invokevirtual 120, 3) := by decide +kernel
theorem dX2_splitCertificate_8 : decode cX2_splitCertificate 8 = .ok (.ifCond .eq 41, 3) := by decide +kernel
theorem dX2_splitCertificate_11 : decode cX2_splitCertificate 11 = .ok (.aload_n 0, 1) := by decide +kernel
theorem dX2_splitCertificate_12 : decode cX2_splitCertificate 12 = .ok (.iload_n 2, 1) := by decide +kernel
theorem dX2_splitCertificate_13 : decode cX2_splitCertificate 13 = .ok (.invokevirtual 102, 3) := by decide +kernel
theorem dX2_splitCertificate_16 : decode cX2_splitCertificate 16 = .ok (.ifCond .eq 33, 3) := by decide +kernel
theorem dX2_splitCertificate_19 : decode cX2_splitCertificate 19 = .ok (.aload_n 0, 1) := by decide +kernel
theorem dX2_splitCertificate_20 : decode cX2_splitCertificate 20 = .ok (.getfield 21, 3) := by decide +kernel
theorem dX2_splitCertificate_23 : decode cX2_splitCertificate 23 = .ok (.getfield 123, 3) := by decide +kernel
theorem dX2_splitCertificate_26 : decode cX2_splitCertificate 26 = .ok (.iload_n 1, 1) := by decide +kernel
theorem dX2_splitCertificate_27 : decode cX2_splitCertificate 27 = .ok (.iaload, 1) := by decide +kernel
theorem dX2_splitCertificate_28 : decode cX2_splitCertificate 28 = .ok (.iload_n 2, 1) := by decide +kernel
theorem dX2_splitCertificate_29 : decode cX2_splitCertificate 29 = .ok (.if_icmp .eq 20, 3) := by decide +kernel
theorem dX2_splitCertificate_32 : decode cX2_splitCertificate 32 = .ok (.iload_n 3, 1) := by decide +kernel
theorem dX2_splitCertificate_33 : decode cX2_splitCertificate 33 = .ok (.iconst 1, 1) := by decide +kernel
theorem dX2_splitCertificate_34 : decode cX2_splitCertificate 34 = .ok (.aload_n 0, 1) := by decide +kernel
theorem dX2_splitCertificate_35 : decode cX2_splitCertificate 35 = .ok (.getfield 21, 3) := by decide +kernel
theorem dX2_splitCertificate_38 : decode cX2_splitCertificate 38 = .ok (.getfield 126, 3) := by decide +kernel
theorem dX2_splitCertificate_41 : decode cX2_splitCertificate 41 = .ok (.iload_n 1, 1) := by decide +kernel
theorem dX2_splitCertificate_42 : decode cX2_splitCertificate 42 = .ok (.iaload, 1) := by decide +kernel
theorem dX2_splitCertificate_43 : decode cX2_splitCertificate 43 = .ok (.invokestatic 82, 3) := by decide +kernel
theorem dX2_splitCertificate_46 : decode cX2_splitCertificate 46 = .ok (.ifCond .ne 5, 3) := by decide +kernel
theorem dX2_splitCertificate_49 : decode cX2_splitCertificate 49 = .ok (.iconst (-1), 1) := by decide +kernel
theorem dX2_splitCertificate_50 : decode cX2_splitCertificate 50 = .ok (.ireturn, 1) := by decide +kernel
theorem dX2_splitCertificate_51 : decode cX2_splitCertificate 51 = .ok (.aload_n 0, 1) := by decide +kernel
theorem dX2_splitCertificate_52 : decode cX2_splitCertificate 52 = .ok (.getfield 35, 3) := by decide +kernel
theorem dX2_splitCertificate_55 : decode cX2_splitCertificate 55 = .ok (.getfield 109, 3) := by decide +kernel
theorem dX2_splitCertificate_58 : decode cX2_splitCertificate 58 = .ok (.ifCond .eq 6, 3) := by decide +kernel
theorem dX2_splitCertificate_61 : decode cX2_splitCertificate 61 = .ok (.bipush (-2), 2) := by decide +kernel
theorem dX2_splitCertificate_63 : decode cX2_splitCertificate 63 = .ok (.ireturn, 1) := by decide +kernel
theorem dX2_splitCertificate_64 : decode cX2_splitCertificate 64 = .ok (.aload_n 0, 1) := by decide +kernel
theorem dX2_splitCertificate_65 : decode cX2_splitCertificate 65 = .ok (.getfield 21, 3) := by decide +kernel
theorem dX2_splitCertificate_68 : decode cX2_splitCertificate 68 = .ok (.getfield 126, 3) := by decide +kernel
theorem dX2_splitCertificate_71 : decode cX2_splitCertificate 71 = .ok (.iload_n 1, 1) := by decide +kernel
theorem dX2_splitCertificate_72 : decode cX2_splitCertificate 72 = .ok (.iaload, 1) := by decide +kernel
theorem dX2_splitCertificate_73 : decode cX2_splitCertificate 73 = .ok (.iload_n 3, 1) := by decide +kernel
theorem dX2_splitCertificate_74 : decode cX2_splitCertificate 74 = .ok (.if_icmp .ne 7, 3) := by decide +kernel
theorem dX2_splitCertificate_77 : decode cX2_splitCertificate 77 = .ok (.iconst 1, 1) := by decide +kernel
theorem dX2_splitCertificate_78 : decode cX2_splitCertificate 78 = .ok (.goto 4, 3) := by decide +kernel
theorem dX2_splitCertificate_81 : decode cX2_splitCertificate 81 = .ok (.iconst 0, 1) := by decide +kernel
theorem dX2_splitCertificate_82 : decode cX2_splitCertificate 82 = .ok (.istore 4, 2) := by decide +kernel
theorem dX2_splitCertificate_84 : decode cX2_splitCertificate 84 = .ok (.iload 4, 2) := by decide +kernel
theorem dX2_splitCertificate_86 : decode cX2_splitCertificate 86 = .ok (.ifCond .ne 18, 3) := by decide +kernel
theorem dX2_splitCertificate_89 : decode cX2_splitCertificate 89 = .ok (.aload_n 0, 1) := by decide +kernel
theorem dX2_splitCertificate_90 : decode cX2_splitCertificate 90 = .ok (.getfield 21, 3) := by decide +kernel
theorem dX2_splitCertificate_93 : decode cX2_splitCertificate 93 = .ok (.invokevirtual 113, 3) := by decide +kernel
theorem dX2_splitCertificate_96 : decode cX2_splitCertificate 96 = .ok (.bipush 24, 2) := by decide +kernel
theorem dX2_splitCertificate_98 : decode cX2_splitCertificate 98 = .ok (.if_icmp .lt 6, 3) := by decide +kernel
theorem dX2_splitCertificate_101 : decode cX2_splitCertificate 101 = .ok (.bipush (-3), 2) := by decide +kernel
theorem dX2_splitCertificate_103 : decode cX2_splitCertificate 103 = .ok (.ireturn, 1) := by decide +kernel
theorem dX2_splitCertificate_104 : decode cX2_splitCertificate 104 = .ok (.aload_n 0, 1) := by decide +kernel
theorem dX2_splitCertificate_105 : decode cX2_splitCertificate 105 = .ok (.getfield 21, 3) := by decide +kernel
theorem dX2_splitCertificate_108 : decode cX2_splitCertificate 108 = .ok (.getfield 126, 3) := by decide +kernel
theorem dX2_splitCertificate_111 : decode cX2_splitCertificate 111 = .ok (.iload_n 1, 1) := by decide +kernel
theorem dX2_splitCertificate_112 : decode cX2_splitCertificate 112 = .ok (.dup2, 1) := by decide +kernel
theorem dX2_splitCertificate_113 : decode cX2_splitCertificate 113 = .ok (.iaload, 1) := by decide +kernel
theorem dX2_splitCertificate_114 : decode cX2_splitCertificate 114 = .ok (.iload_n 3, 1) := by decide +kernel
theorem dX2_splitCertificate_115 : decode cX2_splitCertificate 115 = .ok (.isub, 1) := by decide +kernel
theorem dX2_splitCertificate_116 : decode cX2_splitCertificate 116 = .ok (.iastore, 1) := by decide +kernel
theorem dX2_splitCertificate_117 : decode cX2_splitCertificate 117 = .ok (.aload_n 0, 1) := by decide +kernel
theorem dX2_splitCertificate_118 : decode cX2_splitCertificate 118 = .ok (.getfield 21, 3) := by decide +kernel
theorem dX2_splitCertificate_121 : decode cX2_splitCertificate 121 = .ok (.iload_n 2, 1) := by decide +kernel
theorem dX2_splitCertificate_122 : decode cX2_splitCertificate 122 = .ok (.aload_n 0, 1) := by decide +kernel
theorem dX2_splitCertificate_123 : decode cX2_splitCertificate 123 = .ok (.getfield 21, 3) := by decide +kernel
theorem dX2_splitCertificate_126 : decode cX2_splitCertificate 126 = .ok (.getfield 129, 3) := by decide +kernel
theorem dX2_splitCertificate_129 : decode cX2_splitCertificate 129 = .ok (.iload_n 1, 1) := by decide +kernel
theorem dX2_splitCertificate_130 : decode cX2_splitCertificate 130 = .ok (.iaload, 1) := by decide +kernel
theorem dX2_splitCertificate_131 : decode cX2_splitCertificate 131 = .ok (.iload_n 3, 1) := by decide +kernel
theorem dX2_splitCertificate_132 : decode cX2_splitCertificate 132 = .ok (.aload_n 0, 1) := by decide +kernel
theorem dX2_splitCertificate_133 : decode cX2_splitCertificate 133 = .ok (.getfield 64, 3) := by decide +kernel
theorem dX2_splitCertificate_136 : decode cX2_splitCertificate 136 = .ok (.invokevirtual 116, 3) := by decide +kernel
theorem dX2_splitCertificate_139 : decode cX2_splitCertificate 139 = .ok (.ireturn, 1) := by decide +kernel
set_option maxRecDepth 20000 in
theorem ggX2_buySharesBack_X0_has : GoodIn wsX2_buySharesBack wsX0_has := goodIn_r _ [10, 11, 12, 13, 14, 26, 27, 28, 29] (by decide +kernel) (by decide +kernel)
set_option maxRecDepth 20000 in
theorem gX2_buySharesBack_X0_has : GoodIn wsX2_buySharesBack (wsV RX2 120 RX0 yX0_has wsX0_has) := goodIn_app (goodIn_of _ (by decide +kernel)) ggX2_buySharesBack_X0_has
set_option maxRecDepth 20000 in
theorem ggX2_buySharesBack_X9_within : GoodIn wsX2_buySharesBack wsX9_within := goodIn_r _ [14] (by decide +kernel) (by decide +kernel)
set_option maxRecDepth 20000 in
theorem gX2_buySharesBack_X9_within_n82 : GoodIn wsX2_buySharesBack (wsX9_within) := ggX2_buySharesBack_X9_within
theorem dX2_buySharesBack_0 : decode cX2_buySharesBack 0 = .ok (.aload_n 0, 1) := by decide +kernel
theorem dX2_buySharesBack_1 : decode cX2_buySharesBack 1 = .ok (.getfield 21, 3) := by decide +kernel
theorem dX2_buySharesBack_4 : decode cX2_buySharesBack 4 = .ok (.iload_n 1, 1) := by decide +kernel
theorem dX2_buySharesBack_5 : decode cX2_buySharesBack 5 = .ok (.invokevirtual 120, 3) := by decide +kernel
theorem dX2_buySharesBack_8 : decode cX2_buySharesBack 8 = .ok (.ifCond .eq 20, 3) := by decide +kernel
theorem dX2_buySharesBack_11 : decode cX2_buySharesBack 11 = .ok (.iload_n 2, 1) := by decide +kernel
theorem dX2_buySharesBack_12 : decode cX2_buySharesBack 12 = .ok (.iconst 1, 1) := by decide +kernel
theorem dX2_buySharesBack_13 : decode cX2_buySharesBack 13 = .ok (.aload_n 0, 1) := by decide +kernel
theorem dX2_buySharesBack_14 : decode cX2_buySharesBack 14 = .ok (.getfield 21, 3) := by decide +kernel
theorem dX2_buySharesBack_17 : decode cX2_buySharesBack 17 = .ok (.getfield 126, 3) := by decide +kernel
theorem dX2_buySharesBack_20 : decode cX2_buySharesBack 20 = .ok (.iload_n 1, 1) := by decide +kernel
theorem dX2_buySharesBack_21 : decode cX2_buySharesBack 21 = .ok (.iaload, 1) := by decide +kernel
theorem dX2_buySharesBack_22 : decode cX2_buySharesBack 22 = .ok (.invokestatic 82, 3) := by decide +kernel
theorem dX2_buySharesBack_25 : decode cX2_buySharesBack 25 = .ok (.ifCond .ne 5, 3) := by decide +kernel
theorem dX2_buySharesBack_28 : decode cX2_buySharesBack 28 = .ok (.iconst (-1), 1) := by decide +kernel
theorem dX2_buySharesBack_29 : decode cX2_buySharesBack 29 = .ok (.ireturn, 1) := by decide +kernel
theorem dX2_buySharesBack_30 : decode cX2_buySharesBack 30 = .ok (.aload_n 0, 1) := by decide +kernel
theorem dX2_buySharesBack_31 : decode cX2_buySharesBack 31 = .ok (.getfield 35, 3) := by decide +kernel
theorem dX2_buySharesBack_34 : decode cX2_buySharesBack 34 = .ok (.getfield 109, 3) := by decide +kernel
theorem dX2_buySharesBack_37 : decode cX2_buySharesBack 37 = .ok (.ifCond .eq 6, 3) := by decide +kernel
theorem dX2_buySharesBack_40 : decode cX2_buySharesBack 40 = .ok (.bipush (-2), 2) := by decide +kernel
theorem dX2_buySharesBack_42 : decode cX2_buySharesBack 42 = .ok (.ireturn, 1) := by decide +kernel
theorem dX2_buySharesBack_43 : decode cX2_buySharesBack 43 = .ok (.aload_n 0, 1) := by decide +kernel
theorem dX2_buySharesBack_44 : decode cX2_buySharesBack 44 = .ok (.dup, 1) := by decide +kernel
theorem dX2_buySharesBack_45 : decode cX2_buySharesBack 45 = .ok (.getfield 70, 3) := by decide +kernel
theorem dX2_buySharesBack_48 : decode cX2_buySharesBack 48 = .ok (.iload_n 2, 1) := by decide +kernel
theorem dX2_buySharesBack_49 : decode cX2_buySharesBack 49 = .ok (.iadd, 1) := by decide +kernel
theorem dX2_buySharesBack_50 : decode cX2_buySharesBack 50 = .ok (.putfield 70, 3) := by decide +kernel
theorem dX2_buySharesBack_53 : decode cX2_buySharesBack 53 = .ok (.aload_n 0, 1) := by decide +kernel
theorem dX2_buySharesBack_54 : decode cX2_buySharesBack 54 = .ok (.getfield 21, 3) := by decide +kernel
theorem dX2_buySharesBack_57 : decode cX2_buySharesBack 57 = .ok (.getfield 126, 3) := by decide +kernel
theorem dX2_buySharesBack_60 : decode cX2_buySharesBack 60 = .ok (.iload_n 1, 1) := by decide +kernel
theorem dX2_buySharesBack_61 : decode cX2_buySharesBack 61 = .ok (.dup2, 1) := by decide +kernel
theorem dX2_buySharesBack_62 : decode cX2_buySharesBack 62 = .ok (.iaload, 1) := by decide +kernel
theorem dX2_buySharesBack_63 : decode cX2_buySharesBack 63 = .ok (.iload_n 2, 1) := by decide +kernel
theorem dX2_buySharesBack_64 : decode cX2_buySharesBack 64 = .ok (.isub, 1) := by decide +kernel
theorem dX2_buySharesBack_65 : decode cX2_buySharesBack 65 = .ok (.iastore, 1) := by decide +kernel
theorem dX2_buySharesBack_66 : decode cX2_buySharesBack 66 = .ok (.aload_n 0, 1) := by decide +kernel
theorem dX2_buySharesBack_67 : decode cX2_buySharesBack 67 = .ok (.getfield 21, 3) := by decide +kernel
theorem dX2_buySharesBack_70 : decode cX2_buySharesBack 70 = .ok (.getfield 126, 3) := by decide +kernel
theorem dX2_buySharesBack_73 : decode cX2_buySharesBack 73 = .ok (.iload_n 1, 1) := by decide +kernel
theorem dX2_buySharesBack_74 : decode cX2_buySharesBack 74 = .ok (.iaload, 1) := by decide +kernel
theorem dX2_buySharesBack_75 : decode cX2_buySharesBack 75 = .ok (.ireturn, 1) := by decide +kernel
set_option maxRecDepth 20000 in
theorem ggX2_addGrant_X2_hasHolder : GoodIn wsX2_addGrant wsX2_hasHolder := goodIn_r _ [16, 17, 18, 19, 20, 21, 22, 23, 24, 25, 26, 27, 28, 29, 30, 31] (by decide +kernel) (by decide +kernel)
set_option maxRecDepth 20000 in
theorem gX2_addGrant_X2_hasHolder : GoodIn wsX2_addGrant (wsV RX2 102 RX2 yX2_hasHolder wsX2_hasHolder) := goodIn_app (goodIn_of _ (by decide +kernel)) ggX2_addGrant_X2_hasHolder
set_option maxRecDepth 20000 in
theorem ggX2_addGrant_X9_within : GoodIn wsX2_addGrant wsX9_within := goodIn_r _ [20] (by decide +kernel) (by decide +kernel)
set_option maxRecDepth 20000 in
theorem gX2_addGrant_X9_within_n82 : GoodIn wsX2_addGrant (wsX9_within) := ggX2_addGrant_X9_within
theorem dX2_addGrant_0 : decode cX2_addGrant 0 = .ok (.aload_n 0, 1) := by decide +kernel
theorem dX2_addGrant_1 : decode cX2_addGrant 1 = .ok (.iload_n 1, 1) := by decide +kernel
theorem dX2_addGrant_2 : decode cX2_addGrant 2 = .ok (.invokevirtual 102, 3) := by decide +kernel
theorem dX2_addGrant_5 : decode cX2_addGrant 5 = .ok (.ifCond .eq 46, 3) := by decide +kernel
theorem dX2_addGrant_8 : decode cX2_addGrant 8 = .ok (.iload_n 2, 1) := by decide +kernel
theorem dX2_addGrant_9 : decode cX2_addGrant 9 = .ok (.iconst 1, 1) := by decide +kernel
theorem dX2_addGrant_10 : decode cX2_addGrant 10 = .ok (.sipush 9999, 3) := by decide +kernel
theorem dX2_addGrant_13 : decode cX2_addGrant 13 = .ok (.invokestatic 82, 3) := by decide +kernel
theorem dX2_addGrant_16 : decode cX2_addGrant 16 = .ok (.ifCond .eq 35, 3) := by decide +kernel
theorem dX2_addGrant_19 : decode cX2_addGrant 19 = .ok (.iload_n 3, 1) := by decide +kernel
theorem dX2_addGrant_20 : decode cX2_addGrant 20 = .ok (.iconst 0, 1) := by decide +kernel
theorem dX2_addGrant_21 : decode cX2_addGrant 21 = .ok (.bipush 99, 2) := by decide +kernel
theorem dX2_addGrant_23 : decode cX2_addGrant 23 = .ok (.invokestatic 82, 3) := by decide +kernel
theorem dX2_addGrant_26 : decode cX2_addGrant 26 = .ok (.ifCond .eq 25, 3) := by decide +kernel
theorem dX2_addGrant_29 : decode cX2_addGrant 29 = .ok (.iload 5, 2) := by decide +kernel
theorem dX2_addGrant_31 : decode cX2_addGrant 31 = .ok (.iconst 1, 1) := by decide +kernel
theorem dX2_addGrant_32 : decode cX2_addGrant 32 = .ok (.bipush 60, 2) := by decide +kernel
theorem dX2_addGrant_34 : decode cX2_addGrant 34 = .ok (.invokestatic 82, 3) := by decide +kernel
theorem dX2_addGrant_37 : decode cX2_addGrant 37 = .ok (.ifCond .eq 14, 3) := by decide +kernel
theorem dX2_addGrant_40 : decode cX2_addGrant 40 = .ok (.iload 4, 2) := by decide +kernel
theorem dX2_addGrant_42 : decode cX2_addGrant 42 = .ok (.iconst 0, 1) := by decide +kernel
theorem dX2_addGrant_43 : decode cX2_addGrant 43 = .ok (.iload 5, 2) := by decide +kernel
theorem dX2_addGrant_45 : decode cX2_addGrant 45 = .ok (.invokestatic 82, 3) := by decide +kernel
theorem dX2_addGrant_48 : decode cX2_addGrant 48 = .ok (.ifCond .ne 5, 3) := by decide +kernel
theorem dX2_addGrant_51 : decode cX2_addGrant 51 = .ok (.iconst (-1), 1) := by decide +kernel
theorem dX2_addGrant_52 : decode cX2_addGrant 52 = .ok (.ireturn, 1) := by decide +kernel
theorem dX2_addGrant_53 : decode cX2_addGrant 53 = .ok (.aload_n 0, 1) := by decide +kernel
theorem dX2_addGrant_54 : decode cX2_addGrant 54 = .ok (.getfield 39, 3) := by decide +kernel
theorem dX2_addGrant_57 : decode cX2_addGrant 57 = .ok (.iload_n 1, 1) := by decide +kernel
theorem dX2_addGrant_58 : decode cX2_addGrant 58 = .ok (.iaload, 1) := by decide +kernel
theorem dX2_addGrant_59 : decode cX2_addGrant 59 = .ok (.iconst (-1), 1) := by decide +kernel
theorem dX2_addGrant_60 : decode cX2_addGrant 60 = .ok (.if_icmp .eq 6, 3) := by decide +kernel
theorem dX2_addGrant_63 : decode cX2_addGrant 63 = .ok (.bipush (-2), 2) := by decide +kernel
theorem dX2_addGrant_65 : decode cX2_addGrant 65 = .ok (.ireturn, 1) := by decide +kernel
theorem dX2_addGrant_66 : decode cX2_addGrant 66 = .ok (.aload_n 0, 1) := by decide +kernel
theorem dX2_addGrant_67 : decode cX2_addGrant 67 = .ok (.getfield 28, 3) := by decide +kernel
theorem dX2_addGrant_70 : decode cX2_addGrant 70 = .ok (.getfield 86, 3) := by decide +kernel
theorem dX2_addGrant_73 : decode cX2_addGrant 73 = .ok (.istore 6, 2) := by decide +kernel
theorem dX2_addGrant_75 : decode cX2_addGrant 75 = .ok (.iload 6, 2) := by decide +kernel
theorem dX2_addGrant_77 : decode cX2_addGrant 77 = .ok (.bipush 8, 2) := by decide +kernel
theorem dX2_addGrant_79 : decode cX2_addGrant 79 = .ok (.if_icmp .lt 6, 3) := by decide +kernel
theorem dX2_addGrant_82 : decode cX2_addGrant 82 = .ok (.bipush (-3), 2) := by decide +kernel
theorem dX2_addGrant_84 : decode cX2_addGrant 84 = .ok (.ireturn, 1) := by decide +kernel
theorem dX2_addGrant_85 : decode cX2_addGrant 85 = .ok (.aload_n 0, 1) := by decide +kernel
theorem dX2_addGrant_86 : decode cX2_addGrant 86 = .ok (.getfield 28, 3) := by decide +kernel
theorem dX2_addGrant_89 : decode cX2_addGrant 89 = .ok (.getfield 132, 3) := by decide +kernel
theorem dX2_addGrant_92 : decode cX2_addGrant 92 = .ok (.iload 6, 2) := by decide +kernel
theorem dX2_addGrant_94 : decode cX2_addGrant 94 = .ok (.iload_n 1, 1) := by decide +kernel
theorem dX2_addGrant_95 : decode cX2_addGrant 95 = .ok (.iastore, 1) := by decide +kernel
theorem dX2_addGrant_96 : decode cX2_addGrant 96 = .ok (.aload_n 0, 1) := by decide +kernel
theorem dX2_addGrant_97 : decode cX2_addGrant 97 = .ok (.getfield 28, 3) := by decide +kernel
theorem dX2_addGrant_100 : decode cX2_addGrant 100 = .ok (.getfield 133, 3) := by decide +kernel
theorem dX2_addGrant_103 : decode cX2_addGrant 103 = .ok (.iload 6, 2) := by decide +kernel
theorem dX2_addGrant_105 : decode cX2_addGrant 105 = .ok (.iload_n 2, 1) := by decide +kernel
theorem dX2_addGrant_106 : decode cX2_addGrant 106 = .ok (.iastore, 1) := by decide +kernel
theorem dX2_addGrant_107 : decode cX2_addGrant 107 = .ok (.aload_n 0, 1) := by decide +kernel
theorem dX2_addGrant_108 : decode cX2_addGrant 108 = .ok (.getfield 28, 3) := by decide +kernel
theorem dX2_addGrant_111 : decode cX2_addGrant 111 = .ok (.getfield 134, 3) := by decide +kernel
theorem dX2_addGrant_114 : decode cX2_addGrant 114 = .ok (.iload 6, 2) := by decide +kernel
theorem dX2_addGrant_116 : decode cX2_addGrant 116 = .ok (.iload_n 3, 1) := by decide +kernel
theorem dX2_addGrant_117 : decode cX2_addGrant 117 = .ok (.iastore, 1) := by decide +kernel
theorem dX2_addGrant_118 : decode cX2_addGrant 118 = .ok (.aload_n 0, 1) := by decide +kernel
theorem dX2_addGrant_119 : decode cX2_addGrant 119 = .ok (.getfield 28, 3) := by decide +kernel
theorem dX2_addGrant_122 : decode cX2_addGrant 122 = .ok (.getfield 137, 3) := by decide +kernel
theorem dX2_addGrant_125 : decode cX2_addGrant 125 = .ok (.iload 6, 2) := by decide +kernel
theorem dX2_addGrant_127 : decode cX2_addGrant 127 = .ok (.iload 4, 2) := by decide +kernel
theorem dX2_addGrant_129 : decode cX2_addGrant 129 = .ok (.iastore, 1) := by decide +kernel
theorem dX2_addGrant_130 : decode cX2_addGrant 130 = .ok (.aload_n 0, 1) := by decide +kernel
theorem dX2_addGrant_131 : decode cX2_addGrant 131 = .ok (.getfield 28, 3) := by decide +kernel
theorem dX2_addGrant_134 : decode cX2_addGrant 134 = .ok (.getfield 140, 3) := by decide +kernel
theorem dX2_addGrant_137 : decode cX2_addGrant 137 = .ok (.iload 6, 2) := by decide +kernel
theorem dX2_addGrant_139 : decode cX2_addGrant 139 = .ok (.iload 5, 2) := by decide +kernel
theorem dX2_addGrant_141 : decode cX2_addGrant 141 = .ok (.iastore, 1) := by decide +kernel
theorem dX2_addGrant_142 : decode cX2_addGrant 142 = .ok (.aload_n 0, 1) := by decide +kernel
theorem dX2_addGrant_143 : decode cX2_addGrant 143 = .ok (.getfield 28, 3) := by decide +kernel
theorem dX2_addGrant_146 : decode cX2_addGrant 146 = .ok (.getfield 143, 3) := by decide +kernel
theorem dX2_addGrant_149 : decode cX2_addGrant 149 = .ok (.iload 6, 2) := by decide +kernel
theorem dX2_addGrant_151 : decode cX2_addGrant 151 = .ok (.aload_n 0, 1) := by decide +kernel
theorem dX2_addGrant_152 : decode cX2_addGrant 152 = .ok (.getfield 64, 3) := by decide +kernel
theorem dX2_addGrant_155 : decode cX2_addGrant 155 = .ok (.iastore, 1) := by decide +kernel
theorem dX2_addGrant_156 : decode cX2_addGrant 156 = .ok (.aload_n 0, 1) := by decide +kernel
theorem dX2_addGrant_157 : decode cX2_addGrant 157 = .ok (.getfield 28, 3) := by decide +kernel
theorem dX2_addGrant_160 : decode cX2_addGrant 160 = .ok (.getfield 146, 3) := by decide +kernel
theorem dX2_addGrant_163 : decode cX2_addGrant 163 = .ok (.iload 6, 2) := by decide +kernel
theorem dX2_addGrant_165 : decode cX2_addGrant 165 = .ok (.iconst 0, 1) := by decide +kernel
theorem dX2_addGrant_166 : decode cX2_addGrant 166 = .ok (.iastore, 1) := by decide +kernel
theorem dX2_addGrant_167 : decode cX2_addGrant 167 = .ok (.aload_n 0, 1) := by decide +kernel
theorem dX2_addGrant_168 : decode cX2_addGrant 168 = .ok (.getfield 28, 3) := by decide +kernel
theorem dX2_addGrant_171 : decode cX2_addGrant 171 = .ok (.iload 6, 2) := by decide +kernel
theorem dX2_addGrant_173 : decode cX2_addGrant 173 = .ok (.iconst 1, 1) := by decide +kernel
theorem dX2_addGrant_174 : decode cX2_addGrant 174 = .ok (.iadd, 1) := by decide +kernel
theorem dX2_addGrant_175 : decode cX2_addGrant 175 = .ok (.putfield 86, 3) := by decide +kernel
theorem dX2_addGrant_178 : decode cX2_addGrant 178 = .ok (.iload 6, 2) := by decide +kernel
theorem dX2_addGrant_180 : decode cX2_addGrant 180 = .ok (.ireturn, 1) := by decide +kernel
set_option maxRecDepth 20000 in
theorem ggX2_takeOptions_X2_hasGrant : GoodIn wsX2_takeOptions wsX2_hasGrant := goodIn_r _ [15, 4, 16, 17, 18, 19, 46, 47, 48, 49, 50, 51, 52, 53, 54, 55, 56, 63, 64, 65, 66, 67, 68, 69, 70] (by decide +kernel) (by decide +kernel)
set_option maxRecDepth 20000 in
theorem gX2_takeOptions_X2_hasGrant : GoodIn wsX2_takeOptions (wsV RX2 149 RX2 yX2_hasGrant wsX2_hasGrant) := goodIn_app (goodIn_of _ (by decide +kernel)) ggX2_takeOptions_X2_hasGrant
set_option maxRecDepth 20000 in
theorem ggX2_takeOptions_X9_within : GoodIn wsX2_takeOptions wsX9_within := goodIn_r _ [19] (by decide +kernel) (by decide +kernel)
set_option maxRecDepth 20000 in
theorem gX2_takeOptions_X9_within_n82 : GoodIn wsX2_takeOptions (wsX9_within) := ggX2_takeOptions_X9_within
set_option maxRecDepth 20000 in
theorem ggX2_takeOptions_X2_takeable : GoodIn wsX2_takeOptions wsX2_takeable := goodIn_r _ [23, 24, 4, 9, 10, 6, 25, 26, 27, 14, 28, 29, 30, 31, 32, 46, 47, 48, 49, 50, 51, 52, 53, 54, 55, 56, 63, 64, 65, 66, 67, 68, 69, 70] (by decide +kernel) (by decide +kernel)
set_option maxRecDepth 20000 in
theorem gX2_takeOptions_X2_takeable : GoodIn wsX2_takeOptions (wsV RX2 152 RX2 yX2_takeable wsX2_takeable) := goodIn_app (goodIn_of _ (by decide +kernel)) ggX2_takeOptions_X2_takeable
set_option maxRecDepth 20000 in
theorem ggX2_takeOptions_X0_size : GoodIn wsX2_takeOptions wsX0_size := goodIn_r _ [37, 38, 71, 72, 73, 74] (by decide +kernel) (by decide +kernel)
set_option maxRecDepth 20000 in
theorem gX2_takeOptions_X0_size : GoodIn wsX2_takeOptions (wsV RX2 113 RX0 yX0_size wsX0_size) := goodIn_app (goodIn_of _ (by decide +kernel)) ggX2_takeOptions_X0_size
set_option maxRecDepth 20000 in
theorem ggX2_takeOptions_X0_add : GoodIn wsX2_takeOptions wsX0_add := goodIn_r _ [42, 38, 43, 44, 45, 71, 72, 73, 74] (by decide +kernel) (by decide +kernel)
set_option maxRecDepth 20000 in
theorem gX2_takeOptions_X0_add : GoodIn wsX2_takeOptions (wsV RX2 116 RX0 yX0_add wsX0_add) := goodIn_app (goodIn_of _ (by decide +kernel)) ggX2_takeOptions_X0_add
theorem dX2_takeOptions_0 : decode cX2_takeOptions 0 = .ok (.aload_n 0, 1) := by decide +kernel
theorem dX2_takeOptions_1 : decode cX2_takeOptions 1 = .ok (.iload_n 1, 1) := by decide +kernel
theorem dX2_takeOptions_2 : decode cX2_takeOptions 2 = .ok (.invokevirtual 149, 3) := by decide +kernel
theorem dX2_takeOptions_5 : decode cX2_takeOptions 5 = .ok (.ifCond .eq 14, 3) := by decide +kernel
theorem dX2_takeOptions_8 : decode cX2_takeOptions 8 = .ok (.iload_n 2, 1) := by decide +kernel
theorem dX2_takeOptions_9 : decode cX2_takeOptions 9 = .ok (.iconst 1, 1) := by decide +kernel
theorem dX2_takeOptions_10 : decode cX2_takeOptions 10 = .ok (.sipush 9999, 3) := by decide +kernel
theorem dX2_takeOptions_13 : decode cX2_takeOptions 13 = .ok (.invokestatic 82, 3) := by decide +kernel
theorem dX2_takeOptions_16 : decode cX2_takeOptions 16 = .ok (.ifCond .ne 5, 3) := by decide +kernel
theorem dX2_takeOptions_19 : decode cX2_takeOptions 19 = .ok (.iconst (-1), 1) := by decide +kernel
theorem dX2_takeOptions_20 : decode cX2_takeOptions 20 = .ok (.ireturn, 1) := by decide +kernel
theorem dX2_takeOptions_21 : decode cX2_takeOptions 21 = .ok (.aload_n 0, 1) := by decide +kernel
theorem dX2_takeOptions_22 : decode cX2_takeOptions 22 = .ok (.getfield 35, 3) := by decide +kernel
theorem dX2_takeOptions_25 : decode cX2_takeOptions 25 = .ok (.getfield 109, 3) := by decide +kernel
theorem dX2_takeOptions_28 : decode cX2_takeOptions 28 = .ok (.ifCond .ne 12, 3) := by decide +kernel
theorem dX2_takeOptions_31 : decode cX2_takeOptions 31 = .ok (.aload_n 0, 1) := by decide +kernel
theorem dX2_takeOptions_32 : decode cX2_takeOptions 32 = .ok (.iload_n 1, 1) := by decide +kernel
theorem dX2_takeOptions_33 : decode cX2_takeOptions 33 = .ok (.invokevirtual 152, 3) := by decide +kernel
theorem dX2_takeOptions_36 : decode cX2_takeOptions 36 = .ok (.iload_n 2, 1) := by decide +kernel
theorem dX2_takeOptions_37 : decode cX2_takeOptions 37 = .ok (.if_icmp .ge 6, 3) := by decide +kernel
theorem dX2_takeOptions_40 : decode cX2_takeOptions 40 = .ok (.bipush (-2), 2) := by decide +kernel
theorem dX2_takeOptions_42 : decode cX2_takeOptions 42 = .ok (.ireturn, 1) := by decide +kernel
theorem dX2_takeOptions_43 : decode cX2_takeOptions 43 = .ok (.aload_n 0, 1) := by decide +kernel
theorem dX2_takeOptions_44 : decode cX2_takeOptions 44 = .ok (.getfield 21, 3) := by decide +kernel
theorem dX2_takeOptions_47 : decode cX2_takeOptions 47 = .ok (.invokevirtual 113, 3) := by decide +kernel
theorem dX2_takeOptions_50 : decode cX2_takeOptions 50 = .ok (.bipush 24, 2) := by decide +kernel
theorem dX2_takeOptions_52 : decode cX2_takeOptions 52 = .ok (.if_icmp .lt 6, 3) := by decide +kernel
theorem dX2_takeOptions_55 : decode cX2_takeOptions 55 = .ok (.bipush (-3), 2) := by decide +kernel
theorem dX2_takeOptions_57 : decode cX2_takeOptions 57 = .ok (.ireturn, 1) := by decide +kernel
theorem dX2_takeOptions_58 : decode cX2_takeOptions 58 = .ok (.iload_n 2, 1) := by decide +kernel
theorem dX2_takeOptions_59 : decode cX2_takeOptions 59 = .ok (.aload_n 0, 1) := by decide +kernel
theorem dX2_takeOptions_60 : decode cX2_takeOptions 60 = .ok (.getfield 28, 3) := by decide +kernel
theorem dX2_takeOptions_63 : decode cX2_takeOptions 63 = .ok (.getfield 134, 3) := by decide +kernel
theorem dX2_takeOptions_66 : decode cX2_takeOptions 66 = .ok (.iload_n 1, 1) := by decide +kernel
theorem dX2_takeOptions_67 : decode cX2_takeOptions 67 = .ok (.iaload, 1) := by decide +kernel
theorem dX2_takeOptions_68 : decode cX2_takeOptions 68 = .ok (.imul, 1) := by decide +kernel
theorem dX2_takeOptions_69 : decode cX2_takeOptions 69 = .ok (.istore_n 3, 1) := by decide +kernel
theorem dX2_takeOptions_70 : decode cX2_takeOptions 70 = .ok (.aload_n 0, 1) := by decide +kernel
theorem dX2_takeOptions_71 : decode cX2_takeOptions 71 = .ok (.getfield 28, 3) := by decide +kernel
theorem dX2_takeOptions_74 : decode cX2_takeOptions 74 = .ok (.getfield 146, 3) := by decide +kernel
theorem dX2_takeOptions_77 : decode cX2_takeOptions 77 = .ok (.iload_n 1, 1) := by decide +kernel
theorem dX2_takeOptions_78 : decode cX2_takeOptions 78 = .ok (.dup2, 1) := by decide +kernel
theorem dX2_takeOptions_79 : decode cX2_takeOptions 79 = .ok (.iaload, 1) := by decide +kernel
theorem dX2_takeOptions_80 : decode cX2_takeOptions 80 = .ok (.iload_n 2, 1) := by decide +kernel
theorem dX2_takeOptions_81 : decode cX2_takeOptions 81 = .ok (.iadd, 1) := by decide +kernel
theorem dX2_takeOptions_82 : decode cX2_takeOptions 82 = .ok (.iastore, 1) := by decide +kernel
theorem dX2_takeOptions_83 : decode cX2_takeOptions 83 = .ok (.aload_n 0, 1) := by decide +kernel
theorem dX2_takeOptions_84 : decode cX2_takeOptions 84 = .ok (.dup, 1) := by decide +kernel
theorem dX2_takeOptions_85 : decode cX2_takeOptions 85 = .ok (.getfield 73, 3) := by decide +kernel
theorem dX2_takeOptions_88 : decode cX2_takeOptions 88 = .ok (.iload_n 3, 1) := by decide +kernel
theorem dX2_takeOptions_89 : decode cX2_takeOptions 89 = .ok (.iadd, 1) := by decide +kernel
theorem dX2_takeOptions_90 : decode cX2_takeOptions 90 = .ok (.putfield 73, 3) := by decide +kernel
theorem dX2_takeOptions_93 : decode cX2_takeOptions 93 = .ok (.aload_n 0, 1) := by decide +kernel
theorem dX2_takeOptions_94 : decode cX2_takeOptions 94 = .ok (.dup, 1) := by decide +kernel
theorem dX2_takeOptions_95 : decode cX2_takeOptions 95 = .ok (.getfield 67, 3) := by decide +kernel
theorem dX2_takeOptions_98 : decode cX2_takeOptions 98 = .ok (.iload_n 2, 1) := by decide +kernel
theorem dX2_takeOptions_99 : decode cX2_takeOptions 99 = .ok (.iadd, 1) := by decide +kernel
theorem dX2_takeOptions_100 : decode cX2_takeOptions 100 = .ok (.putfield 67, 3) := by decide +kernel
theorem dX2_takeOptions_103 : decode cX2_takeOptions 103 = .ok (.aload_n 0, 1) := by decide +kernel
theorem dX2_takeOptions_104 : decode cX2_takeOptions 104 = .ok (.getfield 21, 3) := by decide +kernel
theorem dX2_takeOptions_107 : decode cX2_takeOptions 107 = .ok (.aload_n 0, 1) := by decide +kernel
theorem dX2_takeOptions_108 : decode cX2_takeOptions 108 = .ok (.getfield 28, 3) := by decide +kernel
theorem dX2_takeOptions_111 : decode cX2_takeOptions 111 = .ok (.getfield 132, 3) := by decide +kernel
theorem dX2_takeOptions_114 : decode cX2_takeOptions 114 = .ok (.iload_n 1, 1) := by decide +kernel
theorem dX2_takeOptions_115 : decode cX2_takeOptions 115 = .ok (.iaload, 1) := by decide +kernel
theorem dX2_takeOptions_116 : decode cX2_takeOptions 116 = .ok (.iconst 0, 1) := by decide +kernel
theorem dX2_takeOptions_117 : decode cX2_takeOptions 117 = .ok (.iload_n 2, 1) := by decide +kernel
theorem dX2_takeOptions_118 : decode cX2_takeOptions 118 = .ok (.aload_n 0, 1) := by decide +kernel
theorem dX2_takeOptions_119 : decode cX2_takeOptions 119 = .ok (.getfield 64, 3) := by decide +kernel
theorem dX2_takeOptions_122 : decode cX2_takeOptions 122 = .ok (.invokevirtual 116, 3) := by decide +kernel
theorem dX2_takeOptions_125 : decode cX2_takeOptions 125 = .ok (.pop, 1) := by decide +kernel
theorem dX2_takeOptions_126 : decode cX2_takeOptions 126 = .ok (.iload_n 3, 1) := by decide +kernel
theorem dX2_takeOptions_127 : decode cX2_takeOptions 127 = .ok (.ireturn, 1) := by decide +kernel
set_option maxRecDepth 20000 in
theorem ggX2_letLeave_X2_hasHolder : GoodIn wsX2_letLeave wsX2_hasHolder := goodIn_r _ [7, 8, 9, 10, 11, 32, 33, 34, 35, 36, 37, 38, 39, 40, 41, 42] (by decide +kernel) (by decide +kernel)
set_option maxRecDepth 20000 in
theorem gX2_letLeave_X2_hasHolder : GoodIn wsX2_letLeave (wsV RX2 102 RX2 yX2_hasHolder wsX2_hasHolder) := goodIn_app (goodIn_of _ (by decide +kernel)) ggX2_letLeave_X2_hasHolder
set_option maxRecDepth 20000 in
theorem ggX2_letLeave_X2_takeableOf : GoodIn wsX2_letLeave wsX2_takeableOf := goodIn_r _ [15, 16, 17, 18, 19, 20, 21, 6, 22, 1, 2, 23, 24, 25, 26, 27, 28, 29, 30, 31, 32, 33, 34, 35, 36, 37, 38, 39, 40, 41, 42, 43, 44, 45, 46, 47, 48, 49, 50] (by decide +kernel) (by decide +kernel)
set_option maxRecDepth 20000 in
theorem gX2_letLeave_X2_takeableOf : GoodIn wsX2_letLeave (wsV RX2 156 RX2 yX2_takeableOf wsX2_takeableOf) := goodIn_app (goodIn_of _ (by decide +kernel)) ggX2_letLeave_X2_takeableOf
theorem dX2_letLeave_0 : decode cX2_letLeave 0 = .ok (.aload_n 0, 1) := by decide +kernel
theorem dX2_letLeave_1 : decode cX2_letLeave 1 = .ok (.iload_n 1, 1) := by decide +kernel
theorem dX2_letLeave_2 : decode cX2_letLeave 2 = .ok (.invokevirtual 102, 3) := by decide +kernel
theorem dX2_letLeave_5 : decode cX2_letLeave 5 = .ok (.ifCond .ne 5, 3) := by decide +kernel
theorem dX2_letLeave_8 : decode cX2_letLeave 8 = .ok (.iconst (-1), 1) := by decide +kernel
theorem dX2_letLeave_9 : decode cX2_letLeave 9 = .ok (.ireturn, 1) := by decide +kernel
theorem dX2_letLeave_10 : decode cX2_letLeave 10 = .ok (.aload_n 0, 1) := by decide +kernel
theorem dX2_letLeave_11 : decode cX2_letLeave 11 = .ok (.getfield 39, 3) := by decide +kernel
theorem dX2_letLeave_14 : decode cX2_letLeave 14 = .ok (.iload_n 1, 1) := by decide +kernel
theorem dX2_letLeave_15 : decode cX2_letLeave 15 = .ok (.iaload, 1) := by decide +kernel
theorem dX2_letLeave_16 : decode cX2_letLeave 16 = .ok (.iconst (-1), 1) := by decide +kernel
theorem dX2_letLeave_17 : decode cX2_letLeave 17 = .ok (.if_icmp .eq 6, 3) := by decide +kernel
theorem dX2_letLeave_20 : decode cX2_letLeave 20 = .ok (.bipush (-2), 2) := by decide +kernel
theorem dX2_letLeave_22 : decode cX2_letLeave 22 = .ok (.ireturn, 1) := by decide +kernel
theorem dX2_letLeave_23 : decode cX2_letLeave 23 = .ok (.aload_n 0, 1) := by decide +kernel
theorem dX2_letLeave_24 : decode cX2_letLeave 24 = .ok (.getfield 39, 3) := by decide +kernel
theorem dX2_letLeave_27 : decode cX2_letLeave 27 = .ok (.iload_n 1, 1) := by decide +kernel
theorem dX2_letLeave_28 : decode cX2_letLeave 28 = .ok (.aload_n 0, 1) := by decide +kernel
theorem dX2_letLeave_29 : decode cX2_letLeave 29 = .ok (.getfield 64, 3) := by decide +kernel
theorem dX2_letLeave_32 : decode cX2_letLeave 32 = .ok (.iastore, 1) := by decide +kernel
theorem dX2_letLeave_33 : decode cX2_letLeave 33 = .ok (.aload_n 0, 1) := by decide +kernel
theorem dX2_letLeave_34 : decode cX2_letLeave 34 = .ok (.iload_n 1, 1) := by decide +kernel
theorem dX2_letLeave_35 : decode cX2_letLeave 35 = .ok (.invokevirtual 156, 3) := by decide +kernel
theorem dX2_letLeave_38 : decode cX2_letLeave 38 = .ok (.ireturn, 1) := by decide +kernel
set_option maxRecDepth 20000 in
theorem ggX2_passMonths_X9_within : GoodIn wsX2_passMonths wsX9_within := goodIn_r _ [4] (by decide +kernel) (by decide +kernel)
set_option maxRecDepth 20000 in
theorem gX2_passMonths_X9_within_n82 : GoodIn wsX2_passMonths (wsX9_within) := ggX2_passMonths_X9_within
theorem dX2_passMonths_0 : decode cX2_passMonths 0 = .ok (.iload_n 1, 1) := by decide +kernel
theorem dX2_passMonths_1 : decode cX2_passMonths 1 = .ok (.iconst 1, 1) := by decide +kernel
theorem dX2_passMonths_2 : decode cX2_passMonths 2 = .ok (.bipush 99, 2) := by decide +kernel
theorem dX2_passMonths_4 : decode cX2_passMonths 4 = .ok (.invokestatic 82, 3) := by decide +kernel
theorem dX2_passMonths_7 : decode cX2_passMonths 7 = .ok (.ifCond .ne 5, 3) := by decide +kernel
theorem dX2_passMonths_10 : decode cX2_passMonths 10 = .ok (.iconst (-1), 1) := by decide +kernel
theorem dX2_passMonths_11 : decode cX2_passMonths 11 = .ok (.ireturn, 1) := by decide +kernel
theorem dX2_passMonths_12 : decode cX2_passMonths 12 = .ok (.aload_n 0, 1) := by decide +kernel
theorem dX2_passMonths_13 : decode cX2_passMonths 13 = .ok (.getfield 64, 3) := by decide +kernel
theorem dX2_passMonths_16 : decode cX2_passMonths 16 = .ok (.iload_n 1, 1) := by decide +kernel
theorem dX2_passMonths_17 : decode cX2_passMonths 17 = .ok (.iadd, 1) := by decide +kernel
theorem dX2_passMonths_18 : decode cX2_passMonths 18 = .ok (.sipush 999, 3) := by decide +kernel
theorem dX2_passMonths_21 : decode cX2_passMonths 21 = .ok (.if_icmp .le 6, 3) := by decide +kernel
theorem dX2_passMonths_24 : decode cX2_passMonths 24 = .ok (.bipush (-3), 2) := by decide +kernel
theorem dX2_passMonths_26 : decode cX2_passMonths 26 = .ok (.ireturn, 1) := by decide +kernel
theorem dX2_passMonths_27 : decode cX2_passMonths 27 = .ok (.aload_n 0, 1) := by decide +kernel
theorem dX2_passMonths_28 : decode cX2_passMonths 28 = .ok (.dup, 1) := by decide +kernel
theorem dX2_passMonths_29 : decode cX2_passMonths 29 = .ok (.getfield 64, 3) := by decide +kernel
theorem dX2_passMonths_32 : decode cX2_passMonths 32 = .ok (.iload_n 1, 1) := by decide +kernel
theorem dX2_passMonths_33 : decode cX2_passMonths 33 = .ok (.iadd, 1) := by decide +kernel
theorem dX2_passMonths_34 : decode cX2_passMonths 34 = .ok (.putfield 64, 3) := by decide +kernel
theorem dX2_passMonths_37 : decode cX2_passMonths 37 = .ok (.aload_n 0, 1) := by decide +kernel
theorem dX2_passMonths_38 : decode cX2_passMonths 38 = .ok (.getfield 64, 3) := by decide +kernel
theorem dX2_passMonths_41 : decode cX2_passMonths 41 = .ok (.ireturn, 1) := by decide +kernel
set_option maxRecDepth 20000 in
theorem ggX2_beginRound_X2_hasClass : GoodIn wsX2_beginRound wsX2_hasClass := goodIn_r _ [11, 5, 12, 13, 14, 15, 60, 61, 62, 63, 64, 65, 66, 67, 68, 69, 70, 77, 78, 79, 80, 81, 82] (by decide +kernel) (by decide +kernel)
set_option maxRecDepth 20000 in
theorem gX2_beginRound_X2_hasClass : GoodIn wsX2_beginRound (wsV RX2 106 RX2 yX2_hasClass wsX2_hasClass) := goodIn_app (goodIn_of _ (by decide +kernel)) ggX2_beginRound_X2_hasClass
set_option maxRecDepth 20000 in
theorem ggX2_beginRound_X9_within : GoodIn wsX2_beginRound wsX9_within := goodIn_r _ [15] (by decide +kernel) (by decide +kernel)
set_option maxRecDepth 20000 in
theorem gX2_beginRound_X9_within_n82 : GoodIn wsX2_beginRound (wsX9_within) := ggX2_beginRound_X9_within
set_option maxRecDepth 20000 in
theorem ggX2_beginRound_X2_hasHolder : GoodIn wsX2_beginRound wsX2_hasHolder := goodIn_r _ [19, 3, 13, 14, 15, 60, 61, 62, 63, 64, 65, 66, 67, 68, 69, 70] (by decide +kernel) (by decide +kernel)
set_option maxRecDepth 20000 in
theorem gX2_beginRound_X2_hasHolder : GoodIn wsX2_beginRound (wsV RX2 102 RX2 yX2_hasHolder wsX2_hasHolder) := goodIn_app (goodIn_of _ (by decide +kernel)) ggX2_beginRound_X2_hasHolder
set_option maxRecDepth 20000 in
theorem ggX2_beginRound_X7_begin : GoodIn wsX2_beginRound wsX7_begin := goodIn_r _ [24, 25, 26, 27, 28, 29, 30, 71, 72, 73, 74, 75, 76] (by decide +kernel) (by decide +kernel)
set_option maxRecDepth 20000 in
theorem gX2_beginRound_X7_begin : GoodIn wsX2_beginRound (wsV RX2 159 RX7 yX7_begin wsX7_begin) := goodIn_app (goodIn_of _ (by decide +kernel)) ggX2_beginRound_X7_begin
set_option maxRecDepth 20000 in
theorem ggX2_beginRound_X2_commonOfAll : GoodIn wsX2_beginRound wsX2_commonOfAll := goodIn_r _ [34, 5, 12, 35, 36, 37, 38, 39, 40, 41, 42, 43, 44, 45, 46, 47, 48, 60, 61, 62, 63, 64, 65, 66, 67, 68, 69, 70, 77, 78, 79, 80, 81, 82, 83, 84, 85, 86] (by decide +kernel) (by decide +kernel)
set_option maxRecDepth 20000 in
theorem gX2_beginRound_X2_commonOfAll : GoodIn wsX2_beginRound (wsV RX2 163 RX2 yX2_commonOfAll wsX2_commonOfAll) := goodIn_app (goodIn_of _ (by decide +kernel)) ggX2_beginRound_X2_commonOfAll
set_option maxRecDepth 20000 in
theorem ggX2_beginRound_X2_commonOf : GoodIn wsX2_beginRound wsX2_commonOf := goodIn_r _ [52, 5, 12, 35, 53, 54, 55, 39, 56, 41, 57, 42, 43, 44, 45, 46, 47, 48, 60, 61, 62, 63, 64, 65, 66, 67, 68, 69, 70, 77, 78, 79, 80, 81, 82, 83, 84, 85, 86] (by decide +kernel) (by decide +kernel)
set_option maxRecDepth 20000 in
theorem gX2_beginRound_X2_commonOf : GoodIn wsX2_beginRound (wsV RX2 169 RX2 yX2_commonOf wsX2_commonOf) := goodIn_app (goodIn_of _ (by decide +kernel)) ggX2_beginRound_X2_commonOf
set_option maxRecDepth 20000 in
theorem ggX2_beginRound_X9_portion : GoodIn wsX2_beginRound wsX9_portion := goodIn_r _ [59] (by decide +kernel) (by decide +kernel)
set_option maxRecDepth 20000 in
theorem gX2_beginRound_X9_portion_n172 : GoodIn wsX2_beginRound (wsX9_portion) := ggX2_beginRound_X9_portion
theorem dX2_beginRound_0 : decode cX2_beginRound 0 = .ok (.iload_n 1, 1) := by decide +kernel
theorem dX2_beginRound_1 : decode cX2_beginRound 1 = .ok (.ifCond .eq 30, 3) := by decide +kernel
theorem dX2_beginRound_4 : decode cX2_beginRound 4 = .ok (.aload_n 0, 1) := by decide +kernel
theorem dX2_beginRound_5 : decode cX2_beginRound 5 = .ok (.iload_n 1, 1) := by decide +kernel
theorem dX2_beginRound_6 : decode cX2_beginRound 6 = .ok (.invokevirtual 106, 3) := by decide +kernel
theorem dX2_beginRound_9 : decode cX2_beginRound 9 = .ok (.ifCond .eq 22, 3) := by decide +kernel
theorem dX2_beginRound_12 : decode cX2_beginRound 12 = .ok (.iload_n 2, 1) := by decide +kernel
theorem dX2_beginRound_13 : decode cX2_beginRound 13 = .ok (.iconst 1, 1) := by decide +kernel
theorem dX2_beginRound_14 : decode cX2_beginRound 14 = .ok (.sipush 9999, 3) := by decide +kernel
theorem dX2_beginRound_17 : decode cX2_beginRound 17 = .ok (.invokestatic 82, 3) := by decide +kernel
theorem dX2_beginRound_20 : decode cX2_beginRound 20 = .ok (.ifCond .eq 11, 3) := by decide +kernel
theorem dX2_beginRound_23 : decode cX2_beginRound 23 = .ok (.aload_n 0, 1) := by decide +kernel
theorem dX2_beginRound_24 : decode cX2_beginRound 24 = .ok (.iload_n 3, 1) := by decide +kernel
theorem dX2_beginRound_25 : decode cX2_beginRound 25 = .ok (.invokevirtual 102, 3) := by decide +kernel
theorem dX2_beginRound_28 : decode cX2_beginRound 28 = .ok (.ifCond .ne 5, 3) := by decide +kernel
theorem dX2_beginRound_31 : decode cX2_beginRound 31 = .ok (.iconst (-1), 1) := by decide +kernel
theorem dX2_beginRound_32 : decode cX2_beginRound 32 = .ok (.ireturn, 1) := by decide +kernel
theorem dX2_beginRound_33 : decode cX2_beginRound 33 = .ok (.aload_n 0, 1) := by decide +kernel
theorem dX2_beginRound_34 : decode cX2_beginRound 34 = .ok (.getfield 35, 3) := by decide +kernel
theorem dX2_beginRound_37 : decode cX2_beginRound 37 = .ok (.getfield 109, 3) := by decide +kernel
theorem dX2_beginRound_40 : decode cX2_beginRound 40 = .ok (.ifCond .eq 6, 3) := by decide +kernel
theorem dX2_beginRound_43 : decode cX2_beginRound 43 = .ok (.bipush (-2), 2) := by decide +kernel
theorem dX2_beginRound_45 : decode cX2_beginRound 45 = .ok (.ireturn, 1) := by decide +kernel
theorem dX2_beginRound_46 : decode cX2_beginRound 46 = .ok (.aload_n 0, 1) := by decide +kernel
theorem dX2_beginRound_47 : decode cX2_beginRound 47 = .ok (.getfield 35, 3) := by decide +kernel
theorem dX2_beginRound_50 : decode cX2_beginRound 50 = .ok (.iload_n 1, 1) := by decide +kernel
theorem dX2_beginRound_51 : decode cX2_beginRound 51 = .ok (.iload_n 2, 1) := by decide +kernel
theorem dX2_beginRound_52 : decode cX2_beginRound 52 = .ok (.iload_n 3, 1) := by decide +kernel
theorem dX2_beginRound_53 : decode cX2_beginRound 53 = .ok (.invokevirtual 159, 3) := by decide +kernel
theorem dX2_beginRound_56 : decode cX2_beginRound 56 = .ok (.aload_n 0, 1) := by decide +kernel
theorem dX2_beginRound_57 : decode cX2_beginRound 57 = .ok (.invokevirtual 163, 3) := by decide +kernel
theorem dX2_beginRound_60 : decode cX2_beginRound 60 = .ok (.istore 4, 2) := by decide +kernel
theorem dX2_beginRound_62 : decode cX2_beginRound 62 = .ok (.iconst 0, 1) := by decide +kernel
theorem dX2_beginRound_63 : decode cX2_beginRound 63 = .ok (.istore 5, 2) := by decide +kernel
theorem dX2_beginRound_65 : decode cX2_beginRound 65 = .ok (.iload 5, 2) := by decide +kernel
theorem dX2_beginRound_67 : decode cX2_beginRound 67 = .ok (.aload_n 0, 1) := by decide +kernel
theorem dX2_beginRound_68 : decode cX2_beginRound 68 = .ok (.getfield 56, 3) := by decide +kernel
theorem dX2_beginRound_71 : decode cX2_beginRound 71 = .ok (.if_icmp .ge 31, 3) := by decide +kernel
theorem dX2_beginRound_74 : decode cX2_beginRound 74 = .ok (.aload_n 0, 1) := by decide +kernel
theorem dX2_beginRound_75 : decode cX2_beginRound 75 = .ok (.getfield 35, 3) := by decide +kernel
theorem dX2_beginRound_78 : decode cX2_beginRound 78 = .ok (.getfield 166, 3) := by decide +kernel
theorem dX2_beginRound_81 : decode cX2_beginRound 81 = .ok (.iload 5, 2) := by decide +kernel
theorem dX2_beginRound_83 : decode cX2_beginRound 83 = .ok (.iload_n 2, 1) := by decide +kernel
theorem dX2_beginRound_84 : decode cX2_beginRound 84 = .ok (.aload_n 0, 1) := by decide +kernel
theorem dX2_beginRound_85 : decode cX2_beginRound 85 = .ok (.iload 5, 2) := by decide +kernel
theorem dX2_beginRound_87 : decode cX2_beginRound 87 = .ok (.invokevirtual 169, 3) := by decide +kernel
theorem dX2_beginRound_90 : decode cX2_beginRound 90 = .ok (.iload 4, 2) := by decide +kernel
theorem dX2_beginRound_92 : decode cX2_beginRound 92 = .ok (.invokestatic 172, 3) := by decide +kernel
theorem dX2_beginRound_95 : decode cX2_beginRound 95 = .ok (.iastore, 1) := by decide +kernel
theorem dX2_beginRound_96 : decode cX2_beginRound 96 = .ok (.iinc 5 1, 3) := by decide +kernel
theorem dX2_beginRound_99 : decode cX2_beginRound 99 = .ok (.goto (-34), 3) := by decide +kernel
theorem dX2_beginRound_102 : decode cX2_beginRound 102 = .ok (.iload_n 2, 1) := by decide +kernel
theorem dX2_beginRound_103 : decode cX2_beginRound 103 = .ok (.aload_n 0, 1) := by decide +kernel
theorem dX2_beginRound_104 : decode cX2_beginRound 104 = .ok (.getfield 12, 3) := by decide +kernel
theorem dX2_beginRound_107 : decode cX2_beginRound 107 = .ok (.getfield 87, 3) := by decide +kernel
theorem dX2_beginRound_110 : decode cX2_beginRound 110 = .ok (.iload_n 1, 1) := by decide +kernel
theorem dX2_beginRound_111 : decode cX2_beginRound 111 = .ok (.iaload, 1) := by decide +kernel
theorem dX2_beginRound_112 : decode cX2_beginRound 112 = .ok (.imul, 1) := by decide +kernel
theorem dX2_beginRound_113 : decode cX2_beginRound 113 = .ok (.ireturn, 1) := by decide +kernel
set_option maxRecDepth 20000 in
theorem ggX2_takeUpShares_X2_hasHolder : GoodIn wsX2_takeUpShares wsX2_hasHolder := goodIn_r _ [9, 10, 11, 12, 13, 14, 15, 16, 17, 18, 19, 20, 21, 22, 23, 24] (by decide +kernel) (by decide +kernel)
set_option maxRecDepth 20000 in
theorem gX2_takeUpShares_X2_hasHolder : GoodIn wsX2_takeUpShares (wsV RX2 102 RX2 yX2_hasHolder wsX2_hasHolder) := goodIn_app (goodIn_of _ (by decide +kernel)) ggX2_takeUpShares_X2_hasHolder
set_option maxRecDepth 20000 in
theorem ggX2_takeUpShares_X9_within : GoodIn wsX2_takeUpShares wsX9_within := goodIn_r _ [13] (by decide +kernel) (by decide +kernel)
set_option maxRecDepth 20000 in
theorem gX2_takeUpShares_X9_within_n82 : GoodIn wsX2_takeUpShares (wsX9_within) := ggX2_takeUpShares_X9_within
theorem dX2_takeUpShares_0 : decode cX2_takeUpShares 0 = .ok (.aload_n 0, 1) := by decide +kernel
theorem dX2_takeUpShares_1 : decode cX2_takeUpShares 1 = .ok (.iload_n 1, 1) := by decide +kernel
theorem dX2_takeUpShares_2 : decode cX2_takeUpShares 2 = .ok (.invokevirtual 102, 3) := by decide +kernel
theorem dX2_takeUpShares_5 : decode cX2_takeUpShares 5 = .ok (.ifCond .eq 14, 3) := by decide +kernel
theorem dX2_takeUpShares_8 : decode cX2_takeUpShares 8 = .ok (.iload_n 2, 1) := by decide +kernel
theorem dX2_takeUpShares_9 : decode cX2_takeUpShares 9 = .ok (.iconst 1, 1) := by decide +kernel
theorem dX2_takeUpShares_10 : decode cX2_takeUpShares 10 = .ok (.sipush 9999, 3) := by decide +kernel
theorem dX2_takeUpShares_13 : decode cX2_takeUpShares 13 = .ok (.invokestatic 82, 3) := by decide +kernel
theorem dX2_takeUpShares_16 : decode cX2_takeUpShares 16 = .ok (.ifCond .ne 5, 3) := by decide +kernel
theorem dX2_takeUpShares_19 : decode cX2_takeUpShares 19 = .ok (.iconst (-1), 1) := by decide +kernel
theorem dX2_takeUpShares_20 : decode cX2_takeUpShares 20 = .ok (.ireturn, 1) := by decide +kernel
theorem dX2_takeUpShares_21 : decode cX2_takeUpShares 21 = .ok (.aload_n 0, 1) := by decide +kernel
theorem dX2_takeUpShares_22 : decode cX2_takeUpShares 22 = .ok (.getfield 35, 3) := by decide +kernel
theorem dX2_takeUpShares_25 : decode cX2_takeUpShares 25 = .ok (.getfield 109, 3) := by decide +kernel
theorem dX2_takeUpShares_28 : decode cX2_takeUpShares 28 = .ok (.ifCond .eq 26, 3) := by decide +kernel
theorem dX2_takeUpShares_31 : decode cX2_takeUpShares 31 = .ok (.aload_n 0, 1) := by decide +kernel
theorem dX2_takeUpShares_32 : decode cX2_takeUpShares 32 = .ok (.getfield 35, 3) := by decide +kernel
theorem dX2_takeUpShares_35 : decode cX2_takeUpShares 35 = .ok (.getfield 166, 3) := by decide +kernel
theorem dX2_takeUpShares_38 : decode cX2_takeUpShares 38 = .ok (.iload_n 1, 1) := by decide +kernel
theorem dX2_takeUpShares_39 : decode cX2_takeUpShares 39 = .ok (.iaload, 1) := by decide +kernel
theorem dX2_takeUpShares_40 : decode cX2_takeUpShares 40 = .ok (.aload_n 0, 1) := by decide +kernel
theorem dX2_takeUpShares_41 : decode cX2_takeUpShares 41 = .ok (.getfield 35, 3) := by decide +kernel
theorem dX2_takeUpShares_44 : decode cX2_takeUpShares 44 = .ok (.getfield 176, 3) := by decide +kernel
theorem dX2_takeUpShares_47 : decode cX2_takeUpShares 47 = .ok (.iload_n 1, 1) := by decide +kernel
theorem dX2_takeUpShares_48 : decode cX2_takeUpShares 48 = .ok (.iaload, 1) := by decide +kernel
theorem dX2_takeUpShares_49 : decode cX2_takeUpShares 49 = .ok (.iload_n 2, 1) := by decide +kernel
theorem dX2_takeUpShares_50 : decode cX2_takeUpShares 50 = .ok (.iadd, 1) := by decide +kernel
theorem dX2_takeUpShares_51 : decode cX2_takeUpShares 51 = .ok (.if_icmp .ge 6, 3) := by decide +kernel
theorem dX2_takeUpShares_54 : decode cX2_takeUpShares 54 = .ok (.bipush (-2), 2) := by decide +kernel
theorem dX2_takeUpShares_56 : decode cX2_takeUpShares 56 = .ok (.ireturn, 1) := by decide +kernel
theorem dX2_takeUpShares_57 : decode cX2_takeUpShares 57 = .ok (.aload_n 0, 1) := by decide +kernel
theorem dX2_takeUpShares_58 : decode cX2_takeUpShares 58 = .ok (.getfield 35, 3) := by decide +kernel
theorem dX2_takeUpShares_61 : decode cX2_takeUpShares 61 = .ok (.getfield 176, 3) := by decide +kernel
theorem dX2_takeUpShares_64 : decode cX2_takeUpShares 64 = .ok (.iload_n 1, 1) := by decide +kernel
theorem dX2_takeUpShares_65 : decode cX2_takeUpShares 65 = .ok (.dup2, 1) := by decide +kernel
theorem dX2_takeUpShares_66 : decode cX2_takeUpShares 66 = .ok (.iaload, 1) := by decide +kernel
theorem dX2_takeUpShares_67 : decode cX2_takeUpShares 67 = .ok (.iload_n 2, 1) := by decide +kernel
theorem dX2_takeUpShares_68 : decode cX2_takeUpShares 68 = .ok (.iadd, 1) := by decide +kernel
theorem dX2_takeUpShares_69 : decode cX2_takeUpShares 69 = .ok (.iastore, 1) := by decide +kernel
theorem dX2_takeUpShares_70 : decode cX2_takeUpShares 70 = .ok (.aload_n 0, 1) := by decide +kernel
theorem dX2_takeUpShares_71 : decode cX2_takeUpShares 71 = .ok (.getfield 35, 3) := by decide +kernel
theorem dX2_takeUpShares_74 : decode cX2_takeUpShares 74 = .ok (.getfield 166, 3) := by decide +kernel
theorem dX2_takeUpShares_77 : decode cX2_takeUpShares 77 = .ok (.iload_n 1, 1) := by decide +kernel
theorem dX2_takeUpShares_78 : decode cX2_takeUpShares 78 = .ok (.iaload, 1) := by decide +kernel
theorem dX2_takeUpShares_79 : decode cX2_takeUpShares 79 = .ok (.aload_n 0, 1) := by decide +kernel
theorem dX2_takeUpShares_80 : decode cX2_takeUpShares 80 = .ok (.getfield 35, 3) := by decide +kernel
theorem dX2_takeUpShares_83 : decode cX2_takeUpShares 83 = .ok (.getfield 176, 3) := by decide +kernel
theorem dX2_takeUpShares_86 : decode cX2_takeUpShares 86 = .ok (.iload_n 1, 1) := by decide +kernel
theorem dX2_takeUpShares_87 : decode cX2_takeUpShares 87 = .ok (.iaload, 1) := by decide +kernel
theorem dX2_takeUpShares_88 : decode cX2_takeUpShares 88 = .ok (.isub, 1) := by decide +kernel
theorem dX2_takeUpShares_89 : decode cX2_takeUpShares 89 = .ok (.ireturn, 1) := by decide +kernel
set_option maxRecDepth 20000 in
theorem ggX2_closeRound_X7_certificatesToMake : GoodIn wsX2_closeRound wsX7_certificatesToMake := goodIn_r _ [18, 19, 20, 21, 22, 17, 23, 24, 50, 51, 52, 53, 54, 55] (by decide +kernel) (by decide +kernel)
set_option maxRecDepth 20000 in
theorem gX2_closeRound_X7_certificatesToMake : GoodIn wsX2_closeRound (wsV RX2 179 RX7 yX7_certificatesToMake wsX7_certificatesToMake) := goodIn_app (goodIn_of _ (by decide +kernel)) ggX2_closeRound_X7_certificatesToMake
set_option maxRecDepth 20000 in
theorem ggX2_closeRound_X0_size : GoodIn wsX2_closeRound wsX0_size := goodIn_r _ [29, 30, 62, 63, 64, 65] (by decide +kernel) (by decide +kernel)
set_option maxRecDepth 20000 in
theorem gX2_closeRound_X0_size : GoodIn wsX2_closeRound (wsV RX2 113 RX0 yX0_size wsX0_size) := goodIn_app (goodIn_of _ (by decide +kernel)) ggX2_closeRound_X0_size
set_option maxRecDepth 20000 in
theorem ggX2_closeRound_X0_add : GoodIn wsX2_closeRound wsX0_add := goodIn_r _ [34, 30, 35, 36, 37, 62, 63, 64, 65] (by decide +kernel) (by decide +kernel)
set_option maxRecDepth 20000 in
theorem gX2_closeRound_X0_add : GoodIn wsX2_closeRound (wsV RX2 116 RX0 yX0_add wsX0_add) := goodIn_app (goodIn_of _ (by decide +kernel)) ggX2_closeRound_X0_add
set_option maxRecDepth 20000 in
theorem ggX2_closeRound_X7_notTakenUp : GoodIn wsX2_closeRound wsX7_notTakenUp := goodIn_r _ [23, 24, 19, 50, 51, 52, 53, 54, 55] (by decide +kernel) (by decide +kernel)
set_option maxRecDepth 20000 in
theorem gX2_closeRound_X7_notTakenUp : GoodIn wsX2_closeRound (wsV RX2 184 RX7 yX7_notTakenUp wsX7_notTakenUp) := goodIn_app (goodIn_of _ (by decide +kernel)) ggX2_closeRound_X7_notTakenUp
theorem dX2_closeRound_0 : decode cX2_closeRound 0 = .ok (.aload_n 0, 1) := by decide +kernel
theorem dX2_closeRound_1 : decode cX2_closeRound 1 = .ok (.getfield 35, 3) := by decide +kernel
theorem dX2_closeRound_4 : decode cX2_closeRound 4 = .ok (.getfield 109, 3) := by decide +kernel
theorem dX2_closeRound_7 : decode cX2_closeRound 7 = .ok (.ifCond .ne 6, 3) := by decide +kernel
theorem dX2_closeRound_10 : decode cX2_closeRound 10 = .ok (.bipush (-2), 2) := by decide +kernel
theorem dX2_closeRound_12 : decode cX2_closeRound 12 = .ok (.ireturn, 1) := by decide +kernel
theorem dX2_closeRound_13 : decode cX2_closeRound 13 = .ok (.aload_n 0, 1) := by decide +kernel
theorem dX2_closeRound_14 : decode cX2_closeRound 14 = .ok (.getfield 35, 3) := by decide +kernel
theorem dX2_closeRound_17 : decode cX2_closeRound 17 = .ok (.invokevirtual 179, 3) := by decide +kernel
theorem dX2_closeRound_20 : decode cX2_closeRound 20 = .ok (.istore_n 1, 1) := by decide +kernel
theorem dX2_closeRound_21 : decode cX2_closeRound 21 = .ok (.aload_n 0, 1) := by decide +kernel
theorem dX2_closeRound_22 : decode cX2_closeRound 22 = .ok (.getfield 21, 3) := by decide +kernel
theorem dX2_closeRound_25 : decode cX2_closeRound 25 = .ok (.invokevirtual 113, 3) := by decide +kernel
theorem dX2_closeRound_28 : decode cX2_closeRound 28 = .ok (.iload_n 1, 1) := by decide +kernel
theorem dX2_closeRound_29 : decode cX2_closeRound 29 = .ok (.iadd, 1) := by decide +kernel
theorem dX2_closeRound_30 : decode cX2_closeRound 30 = .ok (.bipush 24, 2) := by decide +kernel
theorem dX2_closeRound_32 : decode cX2_closeRound 32 = .ok (.if_icmp .le 6, 3) := by decide +kernel
theorem dX2_closeRound_35 : decode cX2_closeRound 35 = .ok (.bipush (-3), 2) := by decide +kernel
theorem dX2_closeRound_37 : decode cX2_closeRound 37 = .ok (.ireturn, 1) := by decide +kernel
theorem dX2_closeRound_38 : decode cX2_closeRound 38 = .ok (.iconst 0, 1) := by decide +kernel
theorem dX2_closeRound_39 : decode cX2_closeRound 39 = .ok (.istore_n 2, 1) := by decide +kernel
theorem dX2_closeRound_40 : decode cX2_closeRound 40 = .ok (.iload_n 2, 1) := by decide +kernel
theorem dX2_closeRound_41 : decode cX2_closeRound 41 = .ok (.aload_n 0, 1) := by decide +kernel
theorem dX2_closeRound_42 : decode cX2_closeRound 42 = .ok (.getfield 56, 3) := by decide +kernel
theorem dX2_closeRound_45 : decode cX2_closeRound 45 = .ok (.if_icmp .ge 50, 3) := by decide +kernel
theorem dX2_closeRound_48 : decode cX2_closeRound 48 = .ok (.aload_n 0, 1) := by decide +kernel
theorem dX2_closeRound_49 : decode cX2_closeRound 49 = .ok (.getfield 35, 3) := by decide +kernel
theorem dX2_closeRound_52 : decode cX2_closeRound 52 = .ok (.getfield 176, 3) := by decide +kernel
theorem dX2_closeRound_55 : decode cX2_closeRound 55 = .ok (.iload_n 2, 1) := by decide +kernel
theorem dX2_closeRound_56 : decode cX2_closeRound 56 = .ok (.iaload, 1) := by decide +kernel
theorem dX2_closeRound_57 : decode cX2_closeRound 57 = .ok (.ifCond .le 32, 3) := by decide +kernel
theorem dX2_closeRound_60 : decode cX2_closeRound 60 = .ok (.aload_n 0, 1) := by decide +kernel
theorem dX2_closeRound_61 : decode cX2_closeRound 61 = .ok (.getfield 21, 3) := by decide +kernel
theorem dX2_closeRound_64 : decode cX2_closeRound 64 = .ok (.iload_n 2, 1) := by decide +kernel
theorem dX2_closeRound_65 : decode cX2_closeRound 65 = .ok (.aload_n 0, 1) := by decide +kernel
theorem dX2_closeRound_66 : decode cX2_closeRound 66 = .ok (.getfield 35, 3) := by decide +kernel
theorem dX2_closeRound_69 : decode cX2_closeRound 69 = .ok (.getfield 182, 3) := by decide +kernel
theorem dX2_closeRound_72 : decode cX2_closeRound 72 = .ok (.aload_n 0, 1) := by decide +kernel
theorem dX2_closeRound_73 : decode cX2_closeRound 73 = .ok (.getfield 35, 3) := by decide +kernel
theorem dX2_closeRound_76 : decode cX2_closeRound 76 = .ok (.getfield 176, 3) := by decide +kernel
theorem dX2_closeRound_79 : decode cX2_closeRound 79 = .ok (.iload_n 2, 1) := by decide +kernel
theorem dX2_closeRound_80 : decode cX2_closeRound 80 = .ok (.iaload, 1) := by decide +kernel
theorem dX2_closeRound_81 : decode cX2_closeRound 81 = .ok (.aload_n 0, 1) := by decide +kernel
theorem dX2_closeRound_82 : decode cX2_closeRound 82 = .ok (.getfield 64, 3) := by decide +kernel
theorem dX2_closeRound_85 : decode cX2_closeRound 85 = .ok (.invokevirtual 116, 3) := by decide +kernel
theorem dX2_closeRound_88 : decode cX2_closeRound 88 = .ok (.pop, 1) := by decide +kernel
theorem dX2_closeRound_89 : decode cX2_closeRound 89 = .ok (.iinc 2 1, 3) := by decide +kernel
theorem dX2_closeRound_92 : decode cX2_closeRound 92 = .ok (.goto (-52), 3) := by decide +kernel
theorem dX2_closeRound_95 : decode cX2_closeRound 95 = .ok (.aload_n 0, 1) := by decide +kernel
theorem dX2_closeRound_96 : decode cX2_closeRound 96 = .ok (.getfield 35, 3) := by decide +kernel
theorem dX2_closeRound_99 : decode cX2_closeRound 99 = .ok (.invokevirtual 184, 3) := by decide +kernel
theorem dX2_closeRound_102 : decode cX2_closeRound 102 = .ok (.istore_n 2, 1) := by decide +kernel
theorem dX2_closeRound_103 : decode cX2_closeRound 103 = .ok (.iload_n 2, 1) := by decide +kernel
theorem dX2_closeRound_104 : decode cX2_closeRound 104 = .ok (.ifCond .le 30, 3) := by decide +kernel
theorem dX2_closeRound_107 : decode cX2_closeRound 107 = .ok (.aload_n 0, 1) := by decide +kernel
theorem dX2_closeRound_108 : decode cX2_closeRound 108 = .ok (.getfield 21, 3) := by decide +kernel
theorem dX2_closeRound_111 : decode cX2_closeRound 111 = .ok (.aload_n 0, 1) := by decide +kernel
theorem dX2_closeRound_112 : decode cX2_closeRound 112 = .ok (.getfield 35, 3) := by decide +kernel
theorem dX2_closeRound_115 : decode cX2_closeRound 115 = .ok (.getfield 187, 3) := by decide +kernel
theorem dX2_closeRound_118 : decode cX2_closeRound 118 = .ok (.aload_n 0, 1) := by decide +kernel
theorem dX2_closeRound_119 : decode cX2_closeRound 119 = .ok (.getfield 35, 3) := by decide +kernel
theorem dX2_closeRound_122 : decode cX2_closeRound 122 = .ok (.getfield 182, 3) := by decide +kernel
theorem dX2_closeRound_125 : decode cX2_closeRound 125 = .ok (.iload_n 2, 1) := by decide +kernel
theorem dX2_closeRound_126 : decode cX2_closeRound 126 = .ok (.aload_n 0, 1) := by decide +kernel
theorem dX2_closeRound_127 : decode cX2_closeRound 127 = .ok (.getfield 64, 3) := by decide +kernel
theorem dX2_closeRound_130 : decode cX2_closeRound 130 = .ok (.invokevirtual 116, 3) := by decide +kernel
theorem dX2_closeRound_133 : decode cX2_closeRound 133 = .ok (.pop, 1) := by decide +kernel
theorem dX2_closeRound_134 : decode cX2_closeRound 134 = .ok (.aload_n 0, 1) := by decide +kernel
theorem dX2_closeRound_135 : decode cX2_closeRound 135 = .ok (.dup, 1) := by decide +kernel
theorem dX2_closeRound_136 : decode cX2_closeRound 136 = .ok (.getfield 67, 3) := by decide +kernel
theorem dX2_closeRound_139 : decode cX2_closeRound 139 = .ok (.aload_n 0, 1) := by decide +kernel
theorem dX2_closeRound_140 : decode cX2_closeRound 140 = .ok (.getfield 35, 3) := by decide +kernel
theorem dX2_closeRound_143 : decode cX2_closeRound 143 = .ok (.getfield 190, 3) := by decide +kernel
theorem dX2_closeRound_146 : decode cX2_closeRound 146 = .ok (.iadd, 1) := by decide +kernel
theorem dX2_closeRound_147 : decode cX2_closeRound 147 = .ok (.putfield 67, 3) := by decide +kernel
theorem dX2_closeRound_150 : decode cX2_closeRound 150 = .ok (.aload_n 0, 1) := by decide +kernel
theorem dX2_closeRound_151 : decode cX2_closeRound 151 = .ok (.dup, 1) := by decide +kernel
theorem dX2_closeRound_152 : decode cX2_closeRound 152 = .ok (.getfield 76, 3) := by decide +kernel
theorem dX2_closeRound_155 : decode cX2_closeRound 155 = .ok (.aload_n 0, 1) := by decide +kernel
theorem dX2_closeRound_156 : decode cX2_closeRound 156 = .ok (.getfield 35, 3) := by decide +kernel
theorem dX2_closeRound_159 : decode cX2_closeRound 159 = .ok (.getfield 190, 3) := by decide +kernel
theorem dX2_closeRound_162 : decode cX2_closeRound 162 = .ok (.aload_n 0, 1) := by decide +kernel
theorem dX2_closeRound_163 : decode cX2_closeRound 163 = .ok (.getfield 12, 3) := by decide +kernel
theorem dX2_closeRound_166 : decode cX2_closeRound 166 = .ok (.getfield 87, 3) := by decide +kernel
theorem dX2_closeRound_169 : decode cX2_closeRound 169 = .ok (.aload_n 0, 1) := by decide +kernel
theorem dX2_closeRound_170 : decode cX2_closeRound 170 = .ok (.getfield 35, 3) := by decide +kernel
theorem dX2_closeRound_173 : decode cX2_closeRound 173 = .ok (.getfield 182, 3) := by decide +kernel
theorem dX2_closeRound_176 : decode cX2_closeRound 176 = .ok (.iaload, 1) := by decide +kernel
theorem dX2_closeRound_177 : decode cX2_closeRound 177 = .ok (.imul, 1) := by decide +kernel
theorem dX2_closeRound_178 : decode cX2_closeRound 178 = .ok (.iadd, 1) := by decide +kernel
theorem dX2_closeRound_179 : decode cX2_closeRound 179 = .ok (.putfield 76, 3) := by decide +kernel
theorem dX2_closeRound_182 : decode cX2_closeRound 182 = .ok (.aload_n 0, 1) := by decide +kernel
theorem dX2_closeRound_183 : decode cX2_closeRound 183 = .ok (.getfield 35, 3) := by decide +kernel
theorem dX2_closeRound_186 : decode cX2_closeRound 186 = .ok (.iconst 0, 1) := by decide +kernel
theorem dX2_closeRound_187 : decode cX2_closeRound 187 = .ok (.putfield 109, 3) := by decide +kernel
theorem dX2_closeRound_190 : decode cX2_closeRound 190 = .ok (.iload_n 1, 1) := by decide +kernel
theorem dX2_closeRound_191 : decode cX2_closeRound 191 = .ok (.ireturn, 1) := by decide +kernel
set_option maxRecDepth 20000 in
theorem ggX2_aboutRound_X2_hasHolder : GoodIn wsX2_aboutRound wsX2_hasHolder := goodIn_r _ [12, 13, 14, 15, 16, 17, 18, 19, 20, 21, 22, 23, 24, 25, 26, 27] (by decide +kernel) (by decide +kernel)
set_option maxRecDepth 20000 in
theorem gX2_aboutRound_X2_hasHolder : GoodIn wsX2_aboutRound (wsV RX2 102 RX2 yX2_hasHolder wsX2_hasHolder) := goodIn_app (goodIn_of _ (by decide +kernel)) ggX2_aboutRound_X2_hasHolder
set_option maxRecDepth 20000 in
theorem ggX2_aboutRound_X9_within : GoodIn wsX2_aboutRound wsX9_within := goodIn_r _ [16] (by decide +kernel) (by decide +kernel)
set_option maxRecDepth 20000 in
theorem gX2_aboutRound_X9_within_n82 : GoodIn wsX2_aboutRound (wsX9_within) := ggX2_aboutRound_X9_within
theorem dX2_aboutRound_0 : decode cX2_aboutRound 0 = .ok (.aload_n 0, 1) := by decide +kernel
theorem dX2_aboutRound_1 : decode cX2_aboutRound 1 = .ok (.iload_n 1, 1) := by decide +kernel
theorem dX2_aboutRound_2 : decode cX2_aboutRound 2 = .ok (.invokevirtual 102, 3) := by decide +kernel
theorem dX2_aboutRound_5 : decode cX2_aboutRound 5 = .ok (.ifCond .eq 12, 3) := by decide +kernel
theorem dX2_aboutRound_8 : decode cX2_aboutRound 8 = .ok (.iload_n 2, 1) := by decide +kernel
theorem dX2_aboutRound_9 : decode cX2_aboutRound 9 = .ok (.iconst 0, 1) := by decide +kernel
theorem dX2_aboutRound_10 : decode cX2_aboutRound 10 = .ok (.iconst 4, 1) := by decide +kernel
theorem dX2_aboutRound_11 : decode cX2_aboutRound 11 = .ok (.invokestatic 82, 3) := by decide +kernel
theorem dX2_aboutRound_14 : decode cX2_aboutRound 14 = .ok (.ifCond .ne 5, 3) := by decide +kernel
theorem dX2_aboutRound_17 : decode cX2_aboutRound 17 = .ok (.iconst (-1), 1) := by decide +kernel
theorem dX2_aboutRound_18 : decode cX2_aboutRound 18 = .ok (.ireturn, 1) := by decide +kernel
theorem dX2_aboutRound_19 : decode cX2_aboutRound 19 = .ok (.aload_n 0, 1) := by decide +kernel
theorem dX2_aboutRound_20 : decode cX2_aboutRound 20 = .ok (.getfield 35, 3) := by decide +kernel
theorem dX2_aboutRound_23 : decode cX2_aboutRound 23 = .ok (.getfield 109, 3) := by decide +kernel
theorem dX2_aboutRound_26 : decode cX2_aboutRound 26 = .ok (.ifCond .ne 6, 3) := by decide +kernel
theorem dX2_aboutRound_29 : decode cX2_aboutRound 29 = .ok (.bipush (-4), 2) := by decide +kernel
theorem dX2_aboutRound_31 : decode cX2_aboutRound 31 = .ok (.ireturn, 1) := by decide +kernel
