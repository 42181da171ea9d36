theorem dX10_takes_13 : decode cX10_takes 13 = .ok (.invokestatic 42, 3) := by decide +kernel
theorem dX10_takes_16 : decode cX10_takes 16 = .ok (.ifCond .ne 5, 3) := by decide +kernel
theorem dX10_takes_19 : decode cX10_takes 19 = .ok (.iconst (-1), 1) := by decide +kernel
theorem dX10_takes_20 : decode cX10_takes 20 = .ok (.ireturn, 1) := by decide +kernel
theorem dX10_takes_21 : decode cX10_takes 21 = .ok (.aload_n 0, 1) := by decide +kernel
theorem dX10_takes_22 : decode cX10_takes 22 = .ok (.invokevirtual 76, 3) := by decide +kernel
theorem dX10_takes_25 : decode cX10_takes 25 = .ok (.ifCond .ne 12, 3) := by decide +kernel
theorem dX10_takes_28 : decode cX10_takes 28 = .ok (.aload_n 0, 1) := by decide +kernel
theorem dX10_takes_29 : decode cX10_takes 29 = .ok (.iload_n 1, 1) := by decide +kernel
theorem dX10_takes_30 : decode cX10_takes 30 = .ok (.invokevirtual 67, 3) := by decide +kernel
theorem dX10_takes_33 : decode cX10_takes 33 = .ok (.iload_n 2, 1) := by decide +kernel
theorem dX10_takes_34 : decode cX10_takes 34 = .ok (.if_icmp .ge 6, 3) := by decide +kernel
theorem dX10_takes_37 : decode cX10_takes 37 = .ok (.bipush (-2), 2) := by decide +kernel
theorem dX10_takes_39 : decode cX10_takes 39 = .ok (.ireturn, 1) := by decide +kernel
theorem dX10_takes_40 : decode cX10_takes 40 = .ok (.aload_n 0, 1) := by decide +kernel
theorem dX10_takes_41 : decode cX10_takes 41 = .ok (.invokevirtual 80, 3) := by decide +kernel
theorem dX10_takes_44 : decode cX10_takes 44 = .ok (.bipush 24, 2) := by decide +kernel
theorem dX10_takes_46 : decode cX10_takes 46 = .ok (.if_icmp .ne 6, 3) := by decide +kernel
theorem dX10_takes_49 : decode cX10_takes 49 = .ok (.bipush (-3), 2) := by decide +kernel
theorem dX10_takes_51 : decode cX10_takes 51 = .ok (.ireturn, 1) := by decide +kernel
theorem dX10_takes_52 : decode cX10_takes 52 = .ok (.iload_n 2, 1) := by decide +kernel
theorem dX10_takes_53 : decode cX10_takes 53 = .ok (.aload_n 0, 1) := by decide +kernel
theorem dX10_takes_54 : decode cX10_takes 54 = .ok (.iload_n 1, 1) := by decide +kernel
theorem dX10_takes_55 : decode cX10_takes 55 = .ok (.iconst 2, 1) := by decide +kernel
theorem dX10_takes_56 : decode cX10_takes 56 = .ok (.invokevirtual 56, 3) := by decide +kernel
theorem dX10_takes_59 : decode cX10_takes 59 = .ok (.imul, 1) := by decide +kernel
theorem dX10_takes_60 : decode cX10_takes 60 = .ok (.istore_n 3, 1) := by decide +kernel
theorem dX10_takes_61 : decode cX10_takes 61 = .ok (.aload_n 0, 1) := by decide +kernel
theorem dX10_takes_62 : decode cX10_takes 62 = .ok (.getfield 7, 3) := by decide +kernel
theorem dX10_takes_65 : decode cX10_takes 65 = .ok (.sipush 157, 3) := by decide +kernel
theorem dX10_takes_68 : decode cX10_takes 68 = .ok (.bipush 7, 2) := by decide +kernel
theorem dX10_takes_70 : decode cX10_takes 70 = .ok (.iload_n 1, 1) := by decide +kernel
theorem dX10_takes_71 : decode cX10_takes 71 = .ok (.imul, 1) := by decide +kernel
theorem dX10_takes_72 : decode cX10_takes 72 = .ok (.iadd, 1) := by decide +kernel
theorem dX10_takes_73 : decode cX10_takes 73 = .ok (.iconst 5, 1) := by decide +kernel
theorem dX10_takes_74 : decode cX10_takes 74 = .ok (.iadd, 1) := by decide +kernel
theorem dX10_takes_75 : decode cX10_takes 75 = .ok (.dup2, 1) := by decide +kernel
theorem dX10_takes_76 : decode cX10_takes 76 = .ok (.iaload, 1) := by decide +kernel
theorem dX10_takes_77 : decode cX10_takes 77 = .ok (.iload_n 2, 1) := by decide +kernel
theorem dX10_takes_78 : decode cX10_takes 78 = .ok (.iadd, 1) := by decide +kernel
theorem dX10_takes_79 : decode cX10_takes 79 = .ok (.iastore, 1) := by decide +kernel
theorem dX10_takes_80 : decode cX10_takes 80 = .ok (.aload_n 0, 1) := by decide +kernel
theorem dX10_takes_81 : decode cX10_takes 81 = .ok (.getfield 7, 3) := by decide +kernel
theorem dX10_takes_84 : decode cX10_takes 84 = .ok (.iconst 4, 1) := by decide +kernel
theorem dX10_takes_85 : decode cX10_takes 85 = .ok (.dup2, 1) := by decide +kernel
theorem dX10_takes_86 : decode cX10_takes 86 = .ok (.iaload, 1) := by decide +kernel
theorem dX10_takes_87 : decode cX10_takes 87 = .ok (.iload_n 2, 1) := by decide +kernel
theorem dX10_takes_88 : decode cX10_takes 88 = .ok (.iadd, 1) := by decide +kernel
theorem dX10_takes_89 : decode cX10_takes 89 = .ok (.iastore, 1) := by decide +kernel
theorem dX10_takes_90 : decode cX10_takes 90 = .ok (.aload_n 0, 1) := by decide +kernel
theorem dX10_takes_91 : decode cX10_takes 91 = .ok (.getfield 7, 3) := by decide +kernel
theorem dX10_takes_94 : decode cX10_takes 94 = .ok (.bipush 6, 2) := by decide +kernel
theorem dX10_takes_96 : decode cX10_takes 96 = .ok (.dup2, 1) := by decide +kernel
theorem dX10_takes_97 : decode cX10_takes 97 = .ok (.iaload, 1) := by decide +kernel
theorem dX10_takes_98 : decode cX10_takes 98 = .ok (.iload_n 3, 1) := by decide +kernel
theorem dX10_takes_99 : decode cX10_takes 99 = .ok (.iadd, 1) := by decide +kernel
theorem dX10_takes_100 : decode cX10_takes 100 = .ok (.iastore, 1) := by decide +kernel
theorem dX10_takes_101 : decode cX10_takes 101 = .ok (.aload_n 0, 1) := by decide +kernel
theorem dX10_takes_102 : decode cX10_takes 102 = .ok (.aload_n 0, 1) := by decide +kernel
theorem dX10_takes_103 : decode cX10_takes 103 = .ok (.iload_n 1, 1) := by decide +kernel
theorem dX10_takes_104 : decode cX10_takes 104 = .ok (.iconst 0, 1) := by decide +kernel
theorem dX10_takes_105 : decode cX10_takes 105 = .ok (.invokevirtual 56, 3) := by decide +kernel
theorem dX10_takes_108 : decode cX10_takes 108 = .ok (.iconst 0, 1) := by decide +kernel
theorem dX10_takes_109 : decode cX10_takes 109 = .ok (.iload_n 2, 1) := by decide +kernel
theorem dX10_takes_110 : decode cX10_takes 110 = .ok (.invokevirtual 84, 3) := by decide +kernel
theorem dX10_takes_113 : decode cX10_takes 113 = .ok (.ifCond .ge 7, 3) := by decide +kernel
theorem dX10_takes_116 : decode cX10_takes 116 = .ok (.iconst (-1), 1) := by decide +kernel
theorem dX10_takes_117 : decode cX10_takes 117 = .ok (.goto 4, 3) := by decide +kernel
theorem dX10_takes_120 : decode cX10_takes 120 = .ok (.iload_n 3, 1) := by decide +kernel
theorem dX10_takes_121 : decode cX10_takes 121 = .ok (.ireturn, 1) := by decide +kernel
set_option maxRecDepth 20000 in
theorem ggX10_leaves_X10_isHolder : GoodIn wsX10_leaves wsX10_isHolder := goodIn_r _ [6, 1, 7, 8, 5, 9, 30, 31, 32, 33, 34, 35, 36, 37, 38, 39, 40, 41, 42, 43, 44] (by decide +kernel) (by decide +kernel)
set_option maxRecDepth 20000 in
theorem gX10_leaves_X10_isHolder : GoodIn wsX10_leaves (wsV RX10 70 RX10 yX10_isHolder wsX10_isHolder) := goodIn_app (goodIn_of _ (by decide +kernel)) ggX10_leaves_X10_isHolder
set_option maxRecDepth 20000 in
theorem ggX10_leaves_X10_hasLeft : GoodIn wsX10_leaves wsX10_hasLeft := goodIn_r _ [13, 1, 30, 31, 32, 33, 34, 35, 36, 37, 38, 39, 40, 41, 42, 43, 44] (by decide +kernel) (by decide +kernel)
set_option maxRecDepth 20000 in
theorem gX10_leaves_X10_hasLeft : GoodIn wsX10_leaves (wsV RX10 59 RX10 yX10_hasLeft wsX10_hasLeft) := goodIn_app (goodIn_of _ (by decide +kernel)) ggX10_leaves_X10_hasLeft
set_option maxRecDepth 20000 in
theorem ggX10_leaves_X10_allToTake : GoodIn wsX10_leaves wsX10_allToTake := goodIn_r _ [17, 1, 18, 19, 20, 5, 21, 22, 23, 24, 25, 10, 11, 12, 13, 26, 27, 28, 29, 30, 31, 32, 33, 34, 35, 36, 37, 38, 39, 40, 41, 42, 43, 44] (by decide +kernel) (by decide +kernel)
set_option maxRecDepth 20000 in
theorem gX10_leaves_X10_allToTake : GoodIn wsX10_leaves (wsV RX10 98 RX10 yX10_allToTake wsX10_allToTake) := goodIn_app (goodIn_of _ (by decide +kernel)) ggX10_leaves_X10_allToTake
theorem dX10_leaves_0 : decode cX10_leaves 0 = .ok (.aload_n 0, 1) := by decide +kernel
theorem dX10_leaves_1 : decode cX10_leaves 1 = .ok (.iload_n 1, 1) := by decide +kernel
theorem dX10_leaves_2 : decode cX10_leaves 2 = .ok (.invokevirtual 70, 3) := by decide +kernel
theorem dX10_leaves_5 : decode cX10_leaves 5 = .ok (.ifCond .ne 5, 3) := by decide +kernel
theorem dX10_leaves_8 : decode cX10_leaves 8 = .ok (.iconst (-1), 1) := by decide +kernel
theorem dX10_leaves_9 : decode cX10_leaves 9 = .ok (.ireturn, 1) := by decide +kernel
theorem dX10_leaves_10 : decode cX10_leaves 10 = .ok (.aload_n 0, 1) := by decide +kernel
theorem dX10_leaves_11 : decode cX10_leaves 11 = .ok (.iload_n 1, 1) := by decide +kernel
theorem dX10_leaves_12 : decode cX10_leaves 12 = .ok (.invokevirtual 59, 3) := by decide +kernel
theorem dX10_leaves_15 : decode cX10_leaves 15 = .ok (.ifCond .eq 6, 3) := by decide +kernel
theorem dX10_leaves_18 : decode cX10_leaves 18 = .ok (.bipush (-2), 2) := by decide +kernel
theorem dX10_leaves_20 : decode cX10_leaves 20 = .ok (.ireturn, 1) := by decide +kernel
theorem dX10_leaves_21 : decode cX10_leaves 21 = .ok (.aload_n 0, 1) := by decide +kernel
theorem dX10_leaves_22 : decode cX10_leaves 22 = .ok (.getfield 7, 3) := by decide +kernel
theorem dX10_leaves_25 : decode cX10_leaves 25 = .ok (.bipush 53, 2) := by decide +kernel
theorem dX10_leaves_27 : decode cX10_leaves 27 = .ok (.iload_n 1, 1) := by decide +kernel
theorem dX10_leaves_28 : decode cX10_leaves 28 = .ok (.iadd, 1) := by decide +kernel
theorem dX10_leaves_29 : decode cX10_leaves 29 = .ok (.aload_n 0, 1) := by decide +kernel
theorem dX10_leaves_30 : decode cX10_leaves 30 = .ok (.getfield 7, 3) := by decide +kernel
theorem dX10_leaves_33 : decode cX10_leaves 33 = .ok (.iconst 3, 1) := by decide +kernel
theorem dX10_leaves_34 : decode cX10_leaves 34 = .ok (.iaload, 1) := by decide +kernel
theorem dX10_leaves_35 : decode cX10_leaves 35 = .ok (.iconst 1, 1) := by decide +kernel
theorem dX10_leaves_36 : decode cX10_leaves 36 = .ok (.iadd, 1) := by decide +kernel
theorem dX10_leaves_37 : decode cX10_leaves 37 = .ok (.iastore, 1) := by decide +kernel
theorem dX10_leaves_38 : decode cX10_leaves 38 = .ok (.aload_n 0, 1) := by decide +kernel
theorem dX10_leaves_39 : decode cX10_leaves 39 = .ok (.iload_n 1, 1) := by decide +kernel
theorem dX10_leaves_40 : decode cX10_leaves 40 = .ok (.invokevirtual 98, 3) := by decide +kernel
theorem dX10_leaves_43 : decode cX10_leaves 43 = .ok (.ireturn, 1) := by decide +kernel
set_option maxRecDepth 20000 in
theorem ggX10_passes_X10_in : GoodIn wsX10_passes wsX10_in := goodIn_r _ [5] (by decide +kernel) (by decide +kernel)
set_option maxRecDepth 20000 in
theorem gX10_passes_X10_in : GoodIn wsX10_passes (va_wsS RX10 42 yX10_in wsX10_in) := goodIn_app (goodIn_of _ (by decide +kernel)) ggX10_passes_X10_in
theorem dX10_passes_0 : decode cX10_passes 0 = .ok (.iload_n 1, 1) := by decide +kernel
theorem dX10_passes_1 : decode cX10_passes 1 = .ok (.iconst 1, 1) := by decide +kernel
theorem dX10_passes_2 : decode cX10_passes 2 = .ok (.bipush 99, 2) := by decide +kernel
theorem dX10_passes_4 : decode cX10_passes 4 = .ok (.invokestatic 42, 3) := by decide +kernel
theorem dX10_passes_7 : decode cX10_passes 7 = .ok (.ifCond .ne 5, 3) := by decide +kernel
theorem dX10_passes_10 : decode cX10_passes 10 = .ok (.iconst (-1), 1) := by decide +kernel
theorem dX10_passes_11 : decode cX10_passes 11 = .ok (.ireturn, 1) := by decide +kernel
theorem dX10_passes_12 : decode cX10_passes 12 = .ok (.aload_n 0, 1) := by decide +kernel
theorem dX10_passes_13 : decode cX10_passes 13 = .ok (.getfield 7, 3) := by decide +kernel
theorem dX10_passes_16 : decode cX10_passes 16 = .ok (.iconst 3, 1) := by decide +kernel
theorem dX10_passes_17 : decode cX10_passes 17 = .ok (.iaload, 1) := by decide +kernel
theorem dX10_passes_18 : decode cX10_passes 18 = .ok (.iload_n 1, 1) := by decide +kernel
theorem dX10_passes_19 : decode cX10_passes 19 = .ok (.iadd, 1) := by decide +kernel
theorem dX10_passes_20 : decode cX10_passes 20 = .ok (.sipush 999, 3) := by decide +kernel
theorem dX10_passes_23 : decode cX10_passes 23 = .ok (.if_icmp .le 6, 3) := by decide +kernel
theorem dX10_passes_26 : decode cX10_passes 26 = .ok (.bipush (-3), 2) := by decide +kernel
theorem dX10_passes_28 : decode cX10_passes 28 = .ok (.ireturn, 1) := by decide +kernel
theorem dX10_passes_29 : decode cX10_passes 29 = .ok (.aload_n 0, 1) := by decide +kernel
theorem dX10_passes_30 : decode cX10_passes 30 = .ok (.getfield 7, 3) := by decide +kernel
theorem dX10_passes_33 : decode cX10_passes 33 = .ok (.iconst 3, 1) := by decide +kernel
theorem dX10_passes_34 : decode cX10_passes 34 = .ok (.dup2, 1) := by decide +kernel
theorem dX10_passes_35 : decode cX10_passes 35 = .ok (.iaload, 1) := by decide +kernel
theorem dX10_passes_36 : decode cX10_passes 36 = .ok (.iload_n 1, 1) := by decide +kernel
theorem dX10_passes_37 : decode cX10_passes 37 = .ok (.iadd, 1) := by decide +kernel
theorem dX10_passes_38 : decode cX10_passes 38 = .ok (.iastore, 1) := by decide +kernel
theorem dX10_passes_39 : decode cX10_passes 39 = .ok (.aload_n 0, 1) := by decide +kernel
theorem dX10_passes_40 : decode cX10_passes 40 = .ok (.getfield 7, 3) := by decide +kernel
theorem dX10_passes_43 : decode cX10_passes 43 = .ok (.iconst 3, 1) := by decide +kernel
theorem dX10_passes_44 : decode cX10_passes 44 = .ok (.iaload, 1) := by decide +kernel
theorem dX10_passes_45 : decode cX10_passes 45 = .ok (.ireturn, 1) := by decide +kernel
set_option maxRecDepth 20000 in
theorem ggX10_offers_X10_isClass : GoodIn wsX10_offers wsX10_isClass := goodIn_r _ [6, 1, 7, 8, 5, 9, 34, 35, 36, 37, 38, 39, 40, 41, 42, 43, 44, 45, 46, 47, 48] (by decide +kernel) (by decide +kernel)
set_option maxRecDepth 20000 in
theorem gX10_offers_X10_isClass : GoodIn wsX10_offers (wsV RX10 73 RX10 yX10_isClass wsX10_isClass) := goodIn_app (goodIn_of _ (by decide +kernel)) ggX10_offers_X10_isClass
set_option maxRecDepth 20000 in
theorem ggX10_offers_X10_in : GoodIn wsX10_offers wsX10_in := goodIn_r _ [9] (by decide +kernel) (by decide +kernel)
set_option maxRecDepth 20000 in
theorem gX10_offers_X10_in : GoodIn wsX10_offers (va_wsS RX10 42 yX10_in wsX10_in) := goodIn_app (goodIn_of _ (by decide +kernel)) ggX10_offers_X10_in
set_option maxRecDepth 20000 in
theorem ggX10_offers_X10_isHolder : GoodIn wsX10_offers wsX10_isHolder := goodIn_r _ [13, 1, 7, 8, 5, 9, 34, 35, 36, 37, 38, 39, 40, 41, 42, 43, 44, 45, 46, 47, 48] (by decide +kernel) (by decide +kernel)
set_option maxRecDepth 20000 in
theorem gX10_offers_X10_isHolder : GoodIn wsX10_offers (wsV RX10 70 RX10 yX10_isHolder wsX10_isHolder) := goodIn_app (goodIn_of _ (by decide +kernel)) ggX10_offers_X10_isHolder
set_option maxRecDepth 20000 in
theorem ggX10_offers_X10_isRound : GoodIn wsX10_offers wsX10_isRound := goodIn_r _ [17, 1, 34, 35, 36, 37, 38, 39, 40, 41, 42, 43, 44, 45, 46, 47, 48] (by decide +kernel) (by decide +kernel)
set_option maxRecDepth 20000 in
theorem gX10_offers_X10_isRound : GoodIn wsX10_offers (wsV RX10 76 RX10 yX10_isRound wsX10_isRound) := goodIn_app (goodIn_of _ (by decide +kernel)) ggX10_offers_X10_isRound
set_option maxRecDepth 20000 in
theorem ggX10_offers_X10_commonOf : GoodIn wsX10_offers wsX10_commonOf := goodIn_r _ [21, 1, 22, 23, 24, 5, 25, 26, 27, 28, 29, 30, 31, 32, 33, 34, 35, 36, 37, 38, 39, 40, 41, 42, 43, 44, 45, 46, 47, 48] (by decide +kernel) (by decide +kernel)
set_option maxRecDepth 20000 in
theorem gX10_offers_X10_commonOf : GoodIn wsX10_offers (wsV RX10 101 RX10 yX10_commonOf wsX10_commonOf) := goodIn_app (goodIn_of _ (by decide +kernel)) ggX10_offers_X10_commonOf
set_option maxRecDepth 20000 in
theorem ggX10_offers_X10_ofClass : GoodIn wsX10_offers wsX10_ofClass := goodIn_r _ [33, 1, 34, 35, 36, 37, 38, 39, 40, 41, 42, 43, 44, 45, 46, 47, 48] (by decide +kernel) (by decide +kernel)
set_option maxRecDepth 20000 in
theorem gX10_offers_X10_ofClass : GoodIn wsX10_offers (wsV RX10 53 RX10 yX10_ofClass wsX10_ofClass) := goodIn_app (goodIn_of _ (by decide +kernel)) ggX10_offers_X10_ofClass
theorem dX10_offers_0 : decode cX10_offers 0 = .ok (.iload_n 1, 1) := by decide +kernel
theorem dX10_offers_1 : decode cX10_offers 1 = .ok (.ifCond .eq 30, 3) := by decide +kernel
theorem dX10_offers_4 : decode cX10_offers 4 = .ok (.aload_n 0, 1) := by decide +kernel
theorem dX10_offers_5 : decode cX10_offers 5 = .ok (.iload_n 1, 1) := by decide +kernel
theorem dX10_offers_6 : decode cX10_offers 6 = .ok (.invokevirtual 73, 3) := by decide +kernel
theorem dX10_offers_9 : decode cX10_offers 9 = .ok (.ifCond .eq 22, 3) := by decide +kernel
theorem dX10_offers_12 : decode cX10_offers 12 = .ok (.iload_n 2, 1) := by decide +kernel
theorem dX10_offers_13 : decode cX10_offers 13 = .ok (.iconst 1, 1) := by decide +kernel
theorem dX10_offers_14 : decode cX10_offers 14 = .ok (.sipush 9999, 3) := by decide +kernel
theorem dX10_offers_17 : decode cX10_offers 17 = .ok (.invokestatic 42, 3) := by decide +kernel
theorem dX10_offers_20 : decode cX10_offers 20 = .ok (.ifCond .eq 11, 3) := by decide +kernel
theorem dX10_offers_23 : decode cX10_offers 23 = .ok (.aload_n 0, 1) := by decide +kernel
theorem dX10_offers_24 : decode cX10_offers 24 = .ok (.iload_n 3, 1) := by decide +kernel
theorem dX10_offers_25 : decode cX10_offers 25 = .ok (.invokevirtual 70, 3) := by decide +kernel
theorem dX10_offers_28 : decode cX10_offers 28 = .ok (.ifCond .ne 5, 3) := by decide +kernel
theorem dX10_offers_31 : decode cX10_offers 31 = .ok (.iconst (-1), 1) := by decide +kernel
theorem dX10_offers_32 : decode cX10_offers 32 = .ok (.ireturn, 1) := by decide +kernel
theorem dX10_offers_33 : decode cX10_offers 33 = .ok (.aload_n 0, 1) := by decide +kernel
theorem dX10_offers_34 : decode cX10_offers 34 = .ok (.invokevirtual 76, 3) := by decide +kernel
theorem dX10_offers_37 : decode cX10_offers 37 = .ok (.ifCond .eq 6, 3) := by decide +kernel
theorem dX10_offers_40 : decode cX10_offers 40 = .ok (.bipush (-2), 2) := by decide +kernel
theorem dX10_offers_42 : decode cX10_offers 42 = .ok (.ireturn, 1) := by decide +kernel
theorem dX10_offers_43 : decode cX10_offers 43 = .ok (.aload_n 0, 1) := by decide +kernel
theorem dX10_offers_44 : decode cX10_offers 44 = .ok (.iconst (-1), 1) := by decide +kernel
theorem dX10_offers_45 : decode cX10_offers 45 = .ok (.invokevirtual 101, 3) := by decide +kernel
theorem dX10_offers_48 : decode cX10_offers 48 = .ok (.i2l, 1) := by decide +kernel
theorem dX10_offers_49 : decode cX10_offers 49 = .ok (.lstore 4, 2) := by decide +kernel
theorem dX10_offers_51 : decode cX10_offers 51 = .ok (.aload_n 0, 1) := by decide +kernel
theorem dX10_offers_52 : decode cX10_offers 52 = .ok (.getfield 7, 3) := by decide +kernel
theorem dX10_offers_55 : decode cX10_offers 55 = .ok (.bipush 8, 2) := by decide +kernel
theorem dX10_offers_57 : decode cX10_offers 57 = .ok (.iconst 1, 1) := by decide +kernel
theorem dX10_offers_58 : decode cX10_offers 58 = .ok (.iastore, 1) := by decide +kernel
theorem dX10_offers_59 : decode cX10_offers 59 = .ok (.aload_n 0, 1) := by decide +kernel
theorem dX10_offers_60 : decode cX10_offers 60 = .ok (.getfield 7, 3) := by decide +kernel
theorem dX10_offers_63 : decode cX10_offers 63 = .ok (.bipush 9, 2) := by decide +kernel
theorem dX10_offers_65 : decode cX10_offers 65 = .ok (.iload_n 1, 1) := by decide +kernel
theorem dX10_offers_66 : decode cX10_offers 66 = .ok (.iastore, 1) := by decide +kernel
theorem dX10_offers_67 : decode cX10_offers 67 = .ok (.aload_n 0, 1) := by decide +kernel
theorem dX10_offers_68 : decode cX10_offers 68 = .ok (.getfield 7, 3) := by decide +kernel
theorem dX10_offers_71 : decode cX10_offers 71 = .ok (.bipush 10, 2) := by decide +kernel
theorem dX10_offers_73 : decode cX10_offers 73 = .ok (.iload_n 2, 1) := by decide +kernel
theorem dX10_offers_74 : decode cX10_offers 74 = .ok (.iastore, 1) := by decide +kernel
theorem dX10_offers_75 : decode cX10_offers 75 = .ok (.aload_n 0, 1) := by decide +kernel
theorem dX10_offers_76 : decode cX10_offers 76 = .ok (.getfield 7, 3) := by decide +kernel
theorem dX10_offers_79 : decode cX10_offers 79 = .ok (.bipush 11, 2) := by decide +kernel
theorem dX10_offers_81 : decode cX10_offers 81 = .ok (.iload_n 3, 1) := by decide +kernel
theorem dX10_offers_82 : decode cX10_offers 82 = .ok (.iastore, 1) := by decide +kernel
theorem dX10_offers_83 : decode cX10_offers 83 = .ok (.iconst 0, 1) := by decide +kernel
theorem dX10_offers_84 : decode cX10_offers 84 = .ok (.istore 6, 2) := by decide +kernel
theorem dX10_offers_86 : decode cX10_offers 86 = .ok (.iload 6, 2) := by decide +kernel
theorem dX10_offers_88 : decode cX10_offers 88 = .ok (.bipush 8, 2) := by decide +kernel
theorem dX10_offers_90 : decode cX10_offers 90 = .ok (.if_icmp .ge 59, 3) := by decide +kernel
theorem dX10_offers_93 : decode cX10_offers 93 = .ok (.lload 4, 2) := by decide +kernel
theorem dX10_offers_95 : decode cX10_offers 95 = .ok (.lconst 0, 1) := by decide +kernel
theorem dX10_offers_96 : decode cX10_offers 96 = .ok (.lcmp, 1) := by decide +kernel
theorem dX10_offers_97 : decode cX10_offers 97 = .ok (.ifCond .ne 7, 3) := by decide +kernel
theorem dX10_offers_100 : decode cX10_offers 100 = .ok (.lconst 0, 1) := by decide +kernel
theorem dX10_offers_101 : decode cX10_offers 101 = .ok (.goto 16, 3) := by decide +kernel
theorem dX10_offers_104 : decode cX10_offers 104 = .ok (.iload_n 2, 1) := by decide +kernel
theorem dX10_offers_105 : decode cX10_offers 105 = .ok (.i2l, 1) := by decide +kernel
theorem dX10_offers_106 : decode cX10_offers 106 = .ok (.aload_n 0, 1) := by decide +kernel
theorem dX10_offers_107 : decode cX10_offers 107 = .ok (.iload 6, 2) := by decide +kernel
theorem dX10_offers_109 : decode cX10_offers 109 = .ok (.invokevirtual 101, 3) := by decide +kernel
theorem dX10_offers_112 : decode cX10_offers 112 = .ok (.i2l, 1) := by decide +kernel
theorem dX10_offers_113 : decode cX10_offers 113 = .ok (.lmul, 1) := by decide +kernel
theorem dX10_offers_114 : decode cX10_offers 114 = .ok (.lload 4, 2) := by decide +kernel
theorem dX10_offers_116 : decode cX10_offers 116 = .ok (.ldiv, 1) := by decide +kernel
theorem dX10_offers_117 : decode cX10_offers 117 = .ok (.lstore 7, 2) := by decide +kernel
theorem dX10_offers_119 : decode cX10_offers 119 = .ok (.aload_n 0, 1) := by decide +kernel
theorem dX10_offers_120 : decode cX10_offers 120 = .ok (.getfield 7, 3) := by decide +kernel
theorem dX10_offers_123 : decode cX10_offers 123 = .ok (.bipush 12, 2) := by decide +kernel
theorem dX10_offers_125 : decode cX10_offers 125 = .ok (.iload 6, 2) := by decide +kernel
theorem dX10_offers_127 : decode cX10_offers 127 = .ok (.iadd, 1) := by decide +kernel
theorem dX10_offers_128 : decode cX10_offers 128 = .ok (.lload 7, 2) := by decide +kernel
theorem dX10_offers_130 : decode cX10_offers 130 = .ok (.l2i, 1) := by decide +kernel
theorem dX10_offers_131 : decode cX10_offers 131 = .ok (.iastore, 1) := by decide +kernel
theorem dX10_offers_132 : decode cX10_offers 132 = .ok (.aload_n 0, 1) := by decide +kernel
theorem dX10_offers_133 : decode cX10_offers 133 = .ok (.getfield 7, 3) := by decide +kernel
theorem dX10_offers_136 : decode cX10_offers 136 = .ok (.bipush 20, 2) := by decide +kernel
theorem dX10_offers_138 : decode cX10_offers 138 = .ok (.iload 6, 2) := by decide +kernel
theorem dX10_offers_140 : decode cX10_offers 140 = .ok (.iadd, 1) := by decide +kernel
theorem dX10_offers_141 : decode cX10_offers 141 = .ok (.iconst 0, 1) := by decide +kernel
theorem dX10_offers_142 : decode cX10_offers 142 = .ok (.iastore, 1) := by decide +kernel
theorem dX10_offers_143 : decode cX10_offers 143 = .ok (.iinc 6 1, 3) := by decide +kernel
theorem dX10_offers_146 : decode cX10_offers 146 = .ok (.goto (-60), 3) := by decide +kernel
theorem dX10_offers_149 : decode cX10_offers 149 = .ok (.iload_n 2, 1) := by decide +kernel
theorem dX10_offers_150 : decode cX10_offers 150 = .ok (.aload_n 0, 1) := by decide +kernel
theorem dX10_offers_151 : decode cX10_offers 151 = .ok (.iload_n 1, 1) := by decide +kernel
theorem dX10_offers_152 : decode cX10_offers 152 = .ok (.iconst 0, 1) := by decide +kernel
theorem dX10_offers_153 : decode cX10_offers 153 = .ok (.invokevirtual 53, 3) := by decide +kernel
theorem dX10_offers_156 : decode cX10_offers 156 = .ok (.imul, 1) := by decide +kernel
theorem dX10_offers_157 : decode cX10_offers 157 = .ok (.ireturn, 1) := by decide +kernel
set_option maxRecDepth 20000 in
theorem ggX10_takesUp_X10_isHolder : GoodIn wsX10_takesUp wsX10_isHolder := goodIn_r _ [6, 1, 7, 8, 5, 9, 14, 15, 16, 17, 18, 19, 20, 21, 22, 23, 24, 25, 26, 27, 28] (by decide +kernel) (by decide +kernel)
set_option maxRecDepth 20000 in
theorem gX10_takesUp_X10_isHolder : GoodIn wsX10_takesUp (wsV RX10 70 RX10 yX10_isHolder wsX10_isHolder) := goodIn_app (goodIn_of _ (by decide +kernel)) ggX10_takesUp_X10_isHolder
set_option maxRecDepth 20000 in
theorem ggX10_takesUp_X10_in : GoodIn wsX10_takesUp wsX10_in := goodIn_r _ [9] (by decide +kernel) (by decide +kernel)
set_option maxRecDepth 20000 in
theorem gX10_takesUp_X10_in : GoodIn wsX10_takesUp (va_wsS RX10 42 yX10_in wsX10_in) := goodIn_app (goodIn_of _ (by decide +kernel)) ggX10_takesUp_X10_in
set_option maxRecDepth 20000 in
theorem ggX10_takesUp_X10_isRound : GoodIn wsX10_takesUp wsX10_isRound := goodIn_r _ [13, 1, 14, 15, 16, 17, 18, 19, 20, 21, 22, 23, 24, 25, 26, 27, 28] (by decide +kernel) (by decide +kernel)
set_option maxRecDepth 20000 in
theorem gX10_takesUp_X10_isRound : GoodIn wsX10_takesUp (wsV RX10 76 RX10 yX10_isRound wsX10_isRound) := goodIn_app (goodIn_of _ (by decide +kernel)) ggX10_takesUp_X10_isRound
theorem dX10_takesUp_0 : decode cX10_takesUp 0 = .ok (.aload_n 0, 1) := by decide +kernel
theorem dX10_takesUp_1 : decode cX10_takesUp 1 = .ok (.iload_n 1, 1) := by decide +kernel
theorem dX10_takesUp_2 : decode cX10_takesUp 2 = .ok (.invokevirtual 70, 3) := by decide +kernel
theorem dX10_takesUp_5 : decode cX10_takesUp 5 = .ok (.ifCond .eq 14, 3) := by decide +kernel
theorem dX10_takesUp_8 : decode cX10_takesUp 8 = .ok (.iload_n 2, 1) := by decide +kernel
theorem dX10_takesUp_9 : decode cX10_takesUp 9 = .ok (.iconst 1, 1) := by decide +kernel
theorem dX10_takesUp_10 : decode cX10_takesUp 10 = .ok (.sipush 9999, 3) := by decide +kernel
theorem dX10_takesUp_13 : decode cX10_takesUp 13 = .ok (.invokestatic 42, 3) := by decide +kernel
theorem dX10_takesUp_16 : decode cX10_takesUp 16 = .ok (.ifCond .ne 5, 3) := by decide +kernel
theorem dX10_takesUp_19 : decode cX10_takesUp 19 = .ok (.iconst (-1), 1) := by decide +kernel
theorem dX10_takesUp_20 : decode cX10_takesUp 20 = .ok (.ireturn, 1) := by decide +kernel
theorem dX10_takesUp_21 : decode cX10_takesUp 21 = .ok (.aload_n 0, 1) := by decide +kernel
theorem dX10_takesUp_22 : decode cX10_takesUp 22 = .ok (.getfield 7, 3) := by decide +kernel
theorem dX10_takesUp_25 : decode cX10_takesUp 25 = .ok (.bipush 12, 2) := by decide +kernel
theorem dX10_takesUp_27 : decode cX10_takesUp 27 = .ok (.iload_n 1, 1) := by decide +kernel
theorem dX10_takesUp_28 : decode cX10_takesUp 28 = .ok (.iadd, 1) := by decide +kernel
theorem dX10_takesUp_29 : decode cX10_takesUp 29 = .ok (.iaload, 1) := by decide +kernel
theorem dX10_takesUp_30 : decode cX10_takesUp 30 = .ok (.aload_n 0, 1) := by decide +kernel
theorem dX10_takesUp_31 : decode cX10_takesUp 31 = .ok (.getfield 7, 3) := by decide +kernel
theorem dX10_takesUp_34 : decode cX10_takesUp 34 = .ok (.bipush 20, 2) := by decide +kernel
theorem dX10_takesUp_36 : decode cX10_takesUp 36 = .ok (.iload_n 1, 1) := by decide +kernel
theorem dX10_takesUp_37 : decode cX10_takesUp 37 = .ok (.iadd, 1) := by decide +kernel
theorem dX10_takesUp_38 : decode cX10_takesUp 38 = .ok (.iaload, 1) := by decide +kernel
theorem dX10_takesUp_39 : decode cX10_takesUp 39 = .ok (.isub, 1) := by decide +kernel
theorem dX10_takesUp_40 : decode cX10_takesUp 40 = .ok (.istore_n 3, 1) := by decide +kernel
theorem dX10_takesUp_41 : decode cX10_takesUp 41 = .ok (.aload_n 0, 1) := by decide +kernel
theorem dX10_takesUp_42 : decode cX10_takesUp 42 = .ok (.invokevirtual 76, 3) := by decide +kernel
theorem dX10_takesUp_45 : decode cX10_takesUp 45 = .ok (.ifCond .eq 8, 3) := by decide +kernel
theorem dX10_takesUp_48 : decode cX10_takesUp 48 = .ok (.iload_n 3, 1) := by decide +kernel
theorem dX10_takesUp_49 : decode cX10_takesUp 49 = .ok (.iload_n 2, 1) := by decide +kernel
theorem dX10_takesUp_50 : decode cX10_takesUp 50 = .ok (.if_icmp .ge 6, 3) := by decide +kernel
theorem dX10_takesUp_53 : decode cX10_takesUp 53 = .ok (.bipush (-2), 2) := by decide +kernel
theorem dX10_takesUp_55 : decode cX10_takesUp 55 = .ok (.ireturn, 1) := by decide +kernel
theorem dX10_takesUp_56 : decode cX10_takesUp 56 = .ok (.aload_n 0, 1) := by decide +kernel
theorem dX10_takesUp_57 : decode cX10_takesUp 57 = .ok (.getfield 7, 3) := by decide +kernel
theorem dX10_takesUp_60 : decode cX10_takesUp 60 = .ok (.bipush 20, 2) := by decide +kernel
theorem dX10_takesUp_62 : decode cX10_takesUp 62 = .ok (.iload_n 1, 1) := by decide +kernel
theorem dX10_takesUp_63 : decode cX10_takesUp 63 = .ok (.iadd, 1) := by decide +kernel
theorem dX10_takesUp_64 : decode cX10_takesUp 64 = .ok (.dup2, 1) := by decide +kernel
theorem dX10_takesUp_65 : decode cX10_takesUp 65 = .ok (.iaload, 1) := by decide +kernel
theorem dX10_takesUp_66 : decode cX10_takesUp 66 = .ok (.iload_n 2, 1) := by decide +kernel
theorem dX10_takesUp_67 : decode cX10_takesUp 67 = .ok (.iadd, 1) := by decide +kernel
theorem dX10_takesUp_68 : decode cX10_takesUp 68 = .ok (.iastore, 1) := by decide +kernel
theorem dX10_takesUp_69 : decode cX10_takesUp 69 = .ok (.iload_n 3, 1) := by decide +kernel
theorem dX10_takesUp_70 : decode cX10_takesUp 70 = .ok (.iload_n 2, 1) := by decide +kernel
theorem dX10_takesUp_71 : decode cX10_takesUp 71 = .ok (.isub, 1) := by decide +kernel
theorem dX10_takesUp_72 : decode cX10_takesUp 72 = .ok (.ireturn, 1) := by decide +kernel
set_option maxRecDepth 20000 in
theorem ggX10_closes_X10_isRound : GoodIn wsX10_closes wsX10_isRound := goodIn_r _ [6, 1, 23, 24, 25, 26, 27, 28, 29, 30, 31, 32, 33, 34, 35, 36, 37] (by decide +kernel) (by decide +kernel)
set_option maxRecDepth 20000 in
theorem gX10_closes_X10_isRound : GoodIn wsX10_closes (wsV RX10 76 RX10 yX10_isRound wsX10_isRound) := goodIn_app (goodIn_of _ (by decide +kernel)) ggX10_closes_X10_isRound
set_option maxRecDepth 20000 in
theorem ggX10_closes_X10_certificates : GoodIn wsX10_closes wsX10_certificates := goodIn_r _ [10, 11, 12, 13, 5, 14, 1, 23, 24, 25, 26, 27, 28, 29, 30, 31, 32, 33, 34, 35, 36, 37] (by decide +kernel) (by decide +kernel)
set_option maxRecDepth 20000 in
theorem gX10_closes_X10_certificates : GoodIn wsX10_closes (wsV RX10 80 RX10 yX10_certificates wsX10_certificates) := goodIn_app (goodIn_of _ (by decide +kernel)) ggX10_closes_X10_certificates
set_option maxRecDepth 20000 in
theorem ggX10_closes_X10_makes : GoodIn wsX10_closes wsX10_makes := goodIn_r _ [18, 1, 11, 12, 13, 5, 14, 23, 24, 25, 26, 27, 28, 29, 30, 31, 32, 33, 34, 35, 36, 37] (by decide +kernel) (by decide +kernel)
set_option maxRecDepth 20000 in
theorem gX10_closes_X10_makes : GoodIn wsX10_closes (wsV RX10 84 RX10 yX10_makes wsX10_makes) := goodIn_app (goodIn_of _ (by decide +kernel)) ggX10_closes_X10_makes
set_option maxRecDepth 20000 in
theorem ggX10_closes_X10_ofClass : GoodIn wsX10_closes wsX10_ofClass := goodIn_r _ [22, 1, 23, 24, 25, 26, 27, 28, 29, 30, 31, 32, 33, 34, 35, 36, 37] (by decide +kernel) (by decide +kernel)
set_option maxRecDepth 20000 in
theorem gX10_closes_X10_ofClass : GoodIn wsX10_closes (wsV RX10 53 RX10 yX10_ofClass wsX10_ofClass) := goodIn_app (goodIn_of _ (by decide +kernel)) ggX10_closes_X10_ofClass
theorem dX10_closes_0 : decode cX10_closes 0 = .ok (.aload_n 0, 1) := by decide +kernel
theorem dX10_closes_1 : decode cX10_closes 1 = .ok (.invokevirtual 76, 3) := by decide +kernel
theorem dX10_closes_4 : decode cX10_closes 4 = .ok (.ifCond .ne 6, 3) := by decide +kernel
theorem dX10_closes_7 : decode cX10_closes 7 = .ok (.bipush (-2), 2) := by decide +kernel
theorem dX10_closes_9 : decode cX10_closes 9 = .ok (.ireturn, 1) := by decide +kernel
theorem dX10_closes_10 : decode cX10_closes 10 = .ok (.iconst 0, 1) := by decide +kernel
theorem dX10_closes_11 : decode cX10_closes 11 = .ok (.istore_n 1, 1) := by decide +kernel
theorem dX10_closes_12 : decode cX10_closes 12 = .ok (.aload_n 0, 1) := by decide +kernel
theorem dX10_closes_13 : decode cX10_closes 13 = .ok (.getfield 7, 3) := by decide +kernel
theorem dX10_closes_16 : decode cX10_closes 16 = .ok (.bipush 10, 2) := by decide +kernel
theorem dX10_closes_18 : decode cX10_closes 18 = .ok (.iaload, 1) := by decide +kernel
theorem dX10_closes_19 : decode cX10_closes 19 = .ok (.istore_n 2, 1) := by decide +kernel
theorem dX10_closes_20 : decode cX10_closes 20 = .ok (.iconst 0, 1) := by decide +kernel
theorem dX10_closes_21 : decode cX10_closes 21 = .ok (.istore_n 3, 1) := by decide +kernel
theorem dX10_closes_22 : decode cX10_closes 22 = .ok (.iload_n 3, 1) := by decide +kernel
theorem dX10_closes_23 : decode cX10_closes 23 = .ok (.bipush 8, 2) := by decide +kernel
theorem dX10_closes_25 : decode cX10_closes 25 = .ok (.if_icmp .ge 41, 3) := by decide +kernel
theorem dX10_closes_28 : decode cX10_closes 28 = .ok (.iload_n 1, 1) := by decide +kernel
theorem dX10_closes_29 : decode cX10_closes 29 = .ok (.aload_n 0, 1) := by decide +kernel
theorem dX10_closes_30 : decode cX10_closes 30 = .ok (.getfield 7, 3) := by decide +kernel
theorem dX10_closes_33 : decode cX10_closes 33 = .ok (.bipush 20, 2) := by decide +kernel
theorem dX10_closes_35 : decode cX10_closes 35 = .ok (.iload_n 3, 1) := by decide +kernel
theorem dX10_closes_36 : decode cX10_closes 36 = .ok (.iadd, 1) := by decide +kernel
theorem dX10_closes_37 : decode cX10_closes 37 = .ok (.iaload, 1) := by decide +kernel
theorem dX10_closes_38 : decode cX10_closes 38 = .ok (.ifCond .le 7, 3) := by decide +kernel
theorem dX10_closes_41 : decode cX10_closes 41 = .ok (.iconst 1, 1) := by decide +kernel
theorem dX10_closes_42 : decode cX10_closes 42 = .ok (.goto 4, 3) := by decide +kernel
theorem dX10_closes_45 : decode cX10_closes 45 = .ok (.iconst 0, 1) := by decide +kernel
theorem dX10_closes_46 : decode cX10_closes 46 = .ok (.iadd, 1) := by decide +kernel
theorem dX10_closes_47 : decode cX10_closes 47 = .ok (.istore_n 1, 1) := by decide +kernel
theorem dX10_closes_48 : decode cX10_closes 48 = .ok (.iload_n 2, 1) := by decide +kernel
theorem dX10_closes_49 : decode cX10_closes 49 = .ok (.aload_n 0, 1) := by decide +kernel
theorem dX10_closes_50 : decode cX10_closes 50 = .ok (.getfield 7, 3) := by decide +kernel
theorem dX10_closes_53 : decode cX10_closes 53 = .ok (.bipush 20, 2) := by decide +kernel
theorem dX10_closes_55 : decode cX10_closes 55 = .ok (.iload_n 3, 1) := by decide +kernel
theorem dX10_closes_56 : decode cX10_closes 56 = .ok (.iadd, 1) := by decide +kernel
theorem dX10_closes_57 : decode cX10_closes 57 = .ok (.iaload, 1) := by decide +kernel
theorem dX10_closes_58 : decode cX10_closes 58 = .ok (.isub, 1) := by decide +kernel
theorem dX10_closes_59 : decode cX10_closes 59 = .ok (.istore_n 2, 1) := by decide +kernel
theorem dX10_closes_60 : decode cX10_closes 60 = .ok (.iinc 3 1, 3) := by decide +kernel
theorem dX10_closes_63 : decode cX10_closes 63 = .ok (.goto (-41), 3) := by decide +kernel
theorem dX10_closes_66 : decode cX10_closes 66 = .ok (.iload_n 1, 1) := by decide +kernel
theorem dX10_closes_67 : decode cX10_closes 67 = .ok (.iload_n 2, 1) := by decide +kernel
theorem dX10_closes_68 : decode cX10_closes 68 = .ok (.ifCond .le 7, 3) := by decide +kernel
theorem dX10_closes_71 : decode cX10_closes 71 = .ok (.iconst 1, 1) := by decide +kernel
theorem dX10_closes_72 : decode cX10_closes 72 = .ok (.goto 4, 3) := by decide +kernel
theorem dX10_closes_75 : decode cX10_closes 75 = .ok (.iconst 0, 1) := by decide +kernel
theorem dX10_closes_76 : decode cX10_closes 76 = .ok (.iadd, 1) := by decide +kernel
theorem dX10_closes_77 : decode cX10_closes 77 = .ok (.istore_n 1, 1) := by decide +kernel
theorem dX10_closes_78 : decode cX10_closes 78 = .ok (.aload_n 0, 1) := by decide +kernel
theorem dX10_closes_79 : decode cX10_closes 79 = .ok (.invokevirtual 80, 3) := by decide +kernel
theorem dX10_closes_82 : decode cX10_closes 82 = .ok (.iload_n 1, 1) := by decide +kernel
theorem dX10_closes_83 : decode cX10_closes 83 = .ok (.iadd, 1) := by decide +kernel
theorem dX10_closes_84 : decode cX10_closes 84 = .ok (.bipush 24, 2) := by decide +kernel
theorem dX10_closes_86 : decode cX10_closes 86 = .ok (.if_icmp .le 6, 3) := by decide +kernel
theorem dX10_closes_89 : decode cX10_closes 89 = .ok (.bipush (-3), 2) := by decide +kernel
theorem dX10_closes_91 : decode cX10_closes 91 = .ok (.ireturn, 1) := by decide +kernel
theorem dX10_closes_92 : decode cX10_closes 92 = .ok (.aload_n 0, 1) := by decide +kernel
theorem dX10_closes_93 : decode cX10_closes 93 = .ok (.getfield 7, 3) := by decide +kernel
theorem dX10_closes_96 : decode cX10_closes 96 = .ok (.bipush 9, 2) := by decide +kernel
theorem dX10_closes_98 : decode cX10_closes 98 = .ok (.iaload, 1) := by decide +kernel
theorem dX10_closes_99 : decode cX10_closes 99 = .ok (.istore_n 3, 1) := by decide +kernel
theorem dX10_closes_100 : decode cX10_closes 100 = .ok (.iconst (-1), 1) := by decide +kernel
theorem dX10_closes_101 : decode cX10_closes 101 = .ok (.istore 4, 2) := by decide +kernel
theorem dX10_closes_103 : decode cX10_closes 103 = .ok (.iconst 0, 1) := by decide +kernel
theorem dX10_closes_104 : decode cX10_closes 104 = .ok (.istore 5, 2) := by decide +kernel
theorem dX10_closes_106 : decode cX10_closes 106 = .ok (.iload 5, 2) := by decide +kernel
theorem dX10_closes_108 : decode cX10_closes 108 = .ok (.bipush 8, 2) := by decide +kernel
theorem dX10_closes_110 : decode cX10_closes 110 = .ok (.if_icmp .ge 46, 3) := by decide +kernel
theorem dX10_closes_113 : decode cX10_closes 113 = .ok (.aload_n 0, 1) := by decide +kernel
theorem dX10_closes_114 : decode cX10_closes 114 = .ok (.getfield 7, 3) := by decide +kernel
theorem dX10_closes_117 : decode cX10_closes 117 = .ok (.bipush 20, 2) := by decide +kernel
theorem dX10_closes_119 : decode cX10_closes 119 = .ok (.iload 5, 2) := by decide +kernel
theorem dX10_closes_121 : decode cX10_closes 121 = .ok (.iadd, 1) := by decide +kernel
theorem dX10_closes_122 : decode cX10_closes 122 = .ok (.iaload, 1) := by decide +kernel
theorem dX10_closes_123 : decode cX10_closes 123 = .ok (.ifCond .le 23, 3) := by decide +kernel
theorem dX10_closes_126 : decode cX10_closes 126 = .ok (.aload_n 0, 1) := by decide +kernel
theorem dX10_closes_127 : decode cX10_closes 127 = .ok (.iload 5, 2) := by decide +kernel
theorem dX10_closes_129 : decode cX10_closes 129 = .ok (.iload_n 3, 1) := by decide +kernel
theorem dX10_closes_130 : decode cX10_closes 130 = .ok (.aload_n 0, 1) := by decide +kernel
theorem dX10_closes_131 : decode cX10_closes 131 = .ok (.getfield 7, 3) := by decide +kernel
theorem dX10_closes_134 : decode cX10_closes 134 = .ok (.bipush 20, 2) := by decide +kernel
theorem dX10_closes_136 : decode cX10_closes 136 = .ok (.iload 5, 2) := by decide +kernel
theorem dX10_closes_138 : decode cX10_closes 138 = .ok (.iadd, 1) := by decide +kernel
theorem dX10_closes_139 : decode cX10_closes 139 = .ok (.iaload, 1) := by decide +kernel
theorem dX10_closes_140 : decode cX10_closes 140 = .ok (.invokevirtual 84, 3) := by decide +kernel
theorem dX10_closes_143 : decode cX10_closes 143 = .ok (.goto 5, 3) := by decide +kernel
theorem dX10_closes_146 : decode cX10_closes 146 = .ok (.iload 4, 2) := by decide +kernel
theorem dX10_closes_148 : decode cX10_closes 148 = .ok (.istore 4, 2) := by decide +kernel
theorem dX10_closes_150 : decode cX10_closes 150 = .ok (.iinc 5 1, 3) := by decide +kernel
theorem dX10_closes_153 : decode cX10_closes 153 = .ok (.goto (-47), 3) := by decide +kernel
theorem dX10_closes_156 : decode cX10_closes 156 = .ok (.iload_n 2, 1) := by decide +kernel
theorem dX10_closes_157 : decode cX10_closes 157 = .ok (.ifCond .le 19, 3) := by decide +kernel
theorem dX10_closes_160 : decode cX10_closes 160 = .ok (.aload_n 0, 1) := by decide +kernel
theorem dX10_closes_161 : decode cX10_closes 161 = .ok (.aload_n 0, 1) := by decide +kernel
theorem dX10_closes_162 : decode cX10_closes 162 = .ok (.getfield 7, 3) := by decide +kernel
theorem dX10_closes_165 : decode cX10_closes 165 = .ok (.bipush 11, 2) := by decide +kernel
theorem dX10_closes_167 : decode cX10_closes 167 = .ok (.iaload, 1) := by decide +kernel
theorem dX10_closes_168 : decode cX10_closes 168 = .ok (.iload_n 3, 1) := by decide +kernel
theorem dX10_closes_169 : decode cX10_closes 169 = .ok (.iload_n 2, 1) := by decide +kernel
theorem dX10_closes_170 : decode cX10_closes 170 = .ok (.invokevirtual 84, 3) := by decide +kernel
theorem dX10_closes_173 : decode cX10_closes 173 = .ok (.goto 5, 3) := by decide +kernel
theorem dX10_closes_176 : decode cX10_closes 176 = .ok (.iload 4, 2) := by decide +kernel
theorem dX10_closes_178 : decode cX10_closes 178 = .ok (.istore 4, 2) := by decide +kernel
theorem dX10_closes_180 : decode cX10_closes 180 = .ok (.aload_n 0, 1) := by decide +kernel
theorem dX10_closes_181 : decode cX10_closes 181 = .ok (.getfield 7, 3) := by decide +kernel
theorem dX10_closes_184 : decode cX10_closes 184 = .ok (.iconst 4, 1) := by decide +kernel
theorem dX10_closes_185 : decode cX10_closes 185 = .ok (.dup2, 1) := by decide +kernel
theorem dX10_closes_186 : decode cX10_closes 186 = .ok (.iaload, 1) := by decide +kernel
theorem dX10_closes_187 : decode cX10_closes 187 = .ok (.aload_n 0, 1) := by decide +kernel
theorem dX10_closes_188 : decode cX10_closes 188 = .ok (.getfield 7, 3) := by decide +kernel
theorem dX10_closes_191 : decode cX10_closes 191 = .ok (.bipush 10, 2) := by decide +kernel
theorem dX10_closes_193 : decode cX10_closes 193 = .ok (.iaload, 1) := by decide +kernel
theorem dX10_closes_194 : decode cX10_closes 194 = .ok (.iadd, 1) := by decide +kernel
theorem dX10_closes_195 : decode cX10_closes 195 = .ok (.iastore, 1) := by decide +kernel
theorem dX10_closes_196 : decode cX10_closes 196 = .ok (.aload_n 0, 1) := by decide +kernel
theorem dX10_closes_197 : decode cX10_closes 197 = .ok (.getfield 7, 3) := by decide +kernel
theorem dX10_closes_200 : decode cX10_closes 200 = .ok (.bipush 7, 2) := by decide +kernel
theorem dX10_closes_202 : decode cX10_closes 202 = .ok (.dup2, 1) := by decide +kernel
theorem dX10_closes_203 : decode cX10_closes 203 = .ok (.iaload, 1) := by decide +kernel
theorem dX10_closes_204 : decode cX10_closes 204 = .ok (.aload_n 0, 1) := by decide +kernel
theorem dX10_closes_205 : decode cX10_closes 205 = .ok (.getfield 7, 3) := by decide +kernel
theorem dX10_closes_208 : decode cX10_closes 208 = .ok (.bipush 10, 2) := by decide +kernel
theorem dX10_closes_210 : decode cX10_closes 210 = .ok (.iaload, 1) := by decide +kernel
theorem dX10_closes_211 : decode cX10_closes 211 = .ok (.aload_n 0, 1) := by decide +kernel
theorem dX10_closes_212 : decode cX10_closes 212 = .ok (.iload_n 3, 1) := by decide +kernel
theorem dX10_closes_213 : decode cX10_closes 213 = .ok (.iconst 0, 1) := by decide +kernel
theorem dX10_closes_214 : decode cX10_closes 214 = .ok (.invokevirtual 53, 3) := by decide +kernel
theorem dX10_closes_217 : decode cX10_closes 217 = .ok (.imul, 1) := by decide +kernel
theorem dX10_closes_218 : decode cX10_closes 218 = .ok (.iadd, 1) := by decide +kernel
theorem dX10_closes_219 : decode cX10_closes 219 = .ok (.iastore, 1) := by decide +kernel
theorem dX10_closes_220 : decode cX10_closes 220 = .ok (.iconst 0, 1) := by decide +kernel
theorem dX10_closes_221 : decode cX10_closes 221 = .ok (.istore 5, 2) := by decide +kernel
theorem dX10_closes_223 : decode cX10_closes 223 = .ok (.iload 5, 2) := by decide +kernel
theorem dX10_closes_225 : decode cX10_closes 225 = .ok (.bipush 20, 2) := by decide +kernel
theorem dX10_closes_227 : decode cX10_closes 227 = .ok (.if_icmp .ge 20, 3) := by decide +kernel
theorem dX10_closes_230 : decode cX10_closes 230 = .ok (.aload_n 0, 1) := by decide +kernel
theorem dX10_closes_231 : decode cX10_closes 231 = .ok (.getfield 7, 3) := by decide +kernel
theorem dX10_closes_234 : decode cX10_closes 234 = .ok (.bipush 8, 2) := by decide +kernel
theorem dX10_closes_236 : decode cX10_closes 236 = .ok (.iload 5, 2) := by decide +kernel
theorem dX10_closes_238 : decode cX10_closes 238 = .ok (.iadd, 1) := by decide +kernel
theorem dX10_closes_239 : decode cX10_closes 239 = .ok (.iconst 0, 1) := by decide +kernel
theorem dX10_closes_240 : decode cX10_closes 240 = .ok (.iastore, 1) := by decide +kernel
theorem dX10_closes_241 : decode cX10_closes 241 = .ok (.iinc 5 1, 3) := by decide +kernel
theorem dX10_closes_244 : decode cX10_closes 244 = .ok (.goto (-21), 3) := by decide +kernel
theorem dX10_closes_247 : decode cX10_closes 247 = .ok (.iload_n 1, 1) := by decide +kernel
theorem dX10_closes_248 : decode cX10_closes 248 = .ok (.ireturn, 1) := by decide +kernel
set_option maxRecDepth 20000 in
theorem ggX10_shareClass_X10_begins : GoodIn wsX10_shareClass wsX10_begins := goodIn_r _ [5, 6, 7, 21, 22, 23, 24, 25, 26, 27, 28, 29, 30, 31, 32, 33, 34, 35] (by decide +kernel) (by decide +kernel)
set_option maxRecDepth 20000 in
theorem gX10_shareClass_X10_begins : GoodIn wsX10_shareClass (wsV RX10 104 RX10 yX10_begins wsX10_begins) := goodIn_app (goodIn_of _ (by decide +kernel)) ggX10_shareClass_X10_begins
set_option maxRecDepth 20000 in
theorem ggX10_shareClass_X10_founds : GoodIn wsX10_shareClass wsX10_founds := goodIn_r _ [11, 7, 12, 13, 4, 14, 21, 22, 23, 24, 25, 26, 27, 28, 29, 30, 31, 32, 33, 34, 35] (by decide +kernel) (by decide +kernel)
set_option maxRecDepth 20000 in
theorem gX10_shareClass_X10_founds : GoodIn wsX10_shareClass (wsV RX10 107 RX10 yX10_founds wsX10_founds) := goodIn_app (goodIn_of _ (by decide +kernel)) ggX10_shareClass_X10_founds
set_option maxRecDepth 20000 in
theorem ggX10_shareClass_X10_acted : GoodIn wsX10_shareClass wsX10_acted := goodIn_r _ [18, 19, 20, 6, 21, 22, 23, 24, 25, 26, 27, 28, 29, 30, 31, 32, 33, 34, 35] (by decide +kernel) (by decide +kernel)
set_option maxRecDepth 20000 in
theorem gX10_shareClass_X10_acted : GoodIn wsX10_shareClass (wsV RX10 111 RX10 yX10_acted wsX10_acted) := goodIn_app (goodIn_of _ (by decide +kernel)) ggX10_shareClass_X10_acted
theorem dX10_shareClass_0 : decode cX10_shareClass 0 = .ok (.aload_n 0, 1) := by decide +kernel
theorem dX10_shareClass_1 : decode cX10_shareClass 1 = .ok (.invokevirtual 104, 3) := by decide +kernel
theorem dX10_shareClass_4 : decode cX10_shareClass 4 = .ok (.aload_n 0, 1) := by decide +kernel
theorem dX10_shareClass_5 : decode cX10_shareClass 5 = .ok (.aload_n 0, 1) := by decide +kernel
theorem dX10_shareClass_6 : decode cX10_shareClass 6 = .ok (.iload_n 1, 1) := by decide +kernel
theorem dX10_shareClass_7 : decode cX10_shareClass 7 = .ok (.iload_n 2, 1) := by decide +kernel
theorem dX10_shareClass_8 : decode cX10_shareClass 8 = .ok (.iload_n 3, 1) := by decide +kernel
theorem dX10_shareClass_9 : decode cX10_shareClass 9 = .ok (.iload 4, 2) := by decide +kernel
theorem dX10_shareClass_11 : decode cX10_shareClass 11 = .ok (.iload 5, 2) := by decide +kernel
theorem dX10_shareClass_13 : decode cX10_shareClass 13 = .ok (.invokevirtual 107, 3) := by decide +kernel
theorem dX10_shareClass_16 : decode cX10_shareClass 16 = .ok (.invokevirtual 111, 3) := by decide +kernel
theorem dX10_shareClass_19 : decode cX10_shareClass 19 = .ok (.ireturn, 1) := by decide +kernel
set_option maxRecDepth 20000 in
theorem ggX10_holder_X10_begins : GoodIn wsX10_holder wsX10_begins := goodIn_r _ [5, 6, 7, 18, 19, 20, 21, 22, 23, 24, 25, 26, 27, 28, 29, 30, 31, 32] (by decide +kernel) (by decide +kernel)
set_option maxRecDepth 20000 in
theorem gX10_holder_X10_begins : GoodIn wsX10_holder (wsV RX10 104 RX10 yX10_begins wsX10_begins) := goodIn_app (goodIn_of _ (by decide +kernel)) ggX10_holder_X10_begins
set_option maxRecDepth 20000 in
theorem ggX10_holder_X10_comes : GoodIn wsX10_holder wsX10_comes := goodIn_r _ [11, 7, 18, 19, 20, 21, 22, 23, 24, 25, 26, 27, 28, 29, 30, 31, 32] (by decide +kernel) (by decide +kernel)
set_option maxRecDepth 20000 in
theorem gX10_holder_X10_comes : GoodIn wsX10_holder (wsV RX10 114 RX10 yX10_comes wsX10_comes) := goodIn_app (goodIn_of _ (by decide +kernel)) ggX10_holder_X10_comes
set_option maxRecDepth 20000 in
theorem ggX10_holder_X10_acted : GoodIn wsX10_holder wsX10_acted := goodIn_r _ [15, 16, 17, 6, 18, 19, 20, 21, 22, 23, 24, 25, 26, 27, 28, 29, 30, 31, 32] (by decide +kernel) (by decide +kernel)
set_option maxRecDepth 20000 in
theorem gX10_holder_X10_acted : GoodIn wsX10_holder (wsV RX10 111 RX10 yX10_acted wsX10_acted) := goodIn_app (goodIn_of _ (by decide +kernel)) ggX10_holder_X10_acted
theorem dX10_holder_0 : decode cX10_holder 0 = .ok (.aload_n 0, 1) := by decide +kernel
theorem dX10_holder_1 : decode cX10_holder 1 = .ok (.invokevirtual 104, 3) := by decide +kernel
theorem dX10_holder_4 : decode cX10_holder 4 = .ok (.aload_n 0, 1) := by decide +kernel
theorem dX10_holder_5 : decode cX10_holder 5 = .ok (.aload_n 0, 1) := by decide +kernel
theorem dX10_holder_6 : decode cX10_holder 6 = .ok (.invokevirtual 114, 3) := by decide +kernel
theorem dX10_holder_9 : decode cX10_holder 9 = .ok (.invokevirtual 111, 3) := by decide +kernel
theorem dX10_holder_12 : decode cX10_holder 12 = .ok (.ireturn, 1) := by decide +kernel
set_option maxRecDepth 20000 in
theorem ggX10_issue_X10_begins : GoodIn wsX10_issue wsX10_begins := goodIn_r _ [5, 6, 7, 45, 46, 47, 48, 49, 50, 51, 52, 53, 54, 55, 56, 57, 58, 59] (by decide +kernel) (by decide +kernel)
set_option maxRecDepth 20000 in
theorem gX10_issue_X10_begins : GoodIn wsX10_issue (wsV RX10 104 RX10 yX10_begins wsX10_begins) := goodIn_app (goodIn_of _ (by decide +kernel)) ggX10_issue_X10_begins
set_option maxRecDepth 20000 in
theorem ggX10_issue_X10_issues : GoodIn wsX10_issue wsX10_issues := goodIn_r _ [11, 7, 12, 13, 14, 4, 15, 16, 17, 18, 19, 20, 21, 22, 23, 24, 25, 26, 27, 28, 29, 30, 31, 32, 33, 34, 35, 36, 37, 38, 45, 46, 47, 48, 49, 50, 51, 52, 53, 54, 55, 56, 57, 58, 59] (by decide +kernel) (by decide +kernel)
set_option maxRecDepth 20000 in
theorem gX10_issue_X10_issues : GoodIn wsX10_issue (wsV RX10 117 RX10 yX10_issues wsX10_issues) := goodIn_app (goodIn_of _ (by decide +kernel)) ggX10_issue_X10_issues
set_option maxRecDepth 20000 in
theorem ggX10_issue_X10_acted : GoodIn wsX10_issue wsX10_acted := goodIn_r _ [42, 43, 44, 6, 45, 46, 47, 48, 49, 50, 51, 52, 53, 54, 55, 56, 57, 58, 59] (by decide +kernel) (by decide +kernel)
set_option maxRecDepth 20000 in
theorem gX10_issue_X10_acted : GoodIn wsX10_issue (wsV RX10 111 RX10 yX10_acted wsX10_acted) := goodIn_app (goodIn_of _ (by decide +kernel)) ggX10_issue_X10_acted
theorem dX10_issue_0 : decode cX10_issue 0 = .ok (.aload_n 0, 1) := by decide +kernel
theorem dX10_issue_1 : decode cX10_issue 1 = .ok (.invokevirtual 104, 3) := by decide +kernel
theorem dX10_issue_4 : decode cX10_issue 4 = .ok (.aload_n 0, 1) := by decide +kernel
theorem dX10_issue_5 : decode cX10_issue 5 = .ok (.aload_n 0, 1) := by decide +kernel
theorem dX10_issue_6 : decode cX10_issue 6 = .ok (.iload_n 1, 1) := by decide +kernel
theorem dX10_issue_7 : decode cX10_issue 7 = .ok (.iload_n 2, 1) := by decide +kernel
theorem dX10_issue_8 : decode cX10_issue 8 = .ok (.iload_n 3, 1) := by decide +kernel
theorem dX10_issue_9 : decode cX10_issue 9 = .ok (.invokevirtual 117, 3) := by decide +kernel
theorem dX10_issue_12 : decode cX10_issue 12 = .ok (.invokevirtual 111, 3) := by decide +kernel
theorem dX10_issue_15 : decode cX10_issue 15 = .ok (.ireturn, 1) := by decide +kernel
set_option maxRecDepth 20000 in
theorem ggX10_split_X10_begins : GoodIn wsX10_split wsX10_begins := goodIn_r _ [5, 6, 7, 49, 50, 51, 52, 53, 54, 55, 56, 57, 58, 59, 60, 61, 62, 63] (by decide +kernel) (by decide +kernel)
set_option maxRecDepth 20000 in
theorem gX10_split_X10_begins : GoodIn wsX10_split (wsV RX10 104 RX10 yX10_begins wsX10_begins) := goodIn_app (goodIn_of _ (by decide +kernel)) ggX10_split_X10_begins
set_option maxRecDepth 20000 in
theorem ggX10_split_X10_splits : GoodIn wsX10_split wsX10_splits := goodIn_r _ [11, 12, 13, 14, 4, 15, 16, 17, 18, 19, 20, 21, 22, 7, 23, 24, 25, 26, 27, 28, 29, 30, 31, 32, 33, 34, 35, 36, 37, 38, 39, 40, 41, 42, 49, 50, 51, 52, 53, 54, 55, 56, 57, 58, 59, 60, 61, 62, 63] (by decide +kernel) (by decide +kernel)
set_option maxRecDepth 20000 in
theorem gX10_split_X10_splits : GoodIn wsX10_split (wsV RX10 120 RX10 yX10_splits wsX10_splits) := goodIn_app (goodIn_of _ (by decide +kernel)) ggX10_split_X10_splits
set_option maxRecDepth 20000 in
theorem ggX10_split_X10_acted : GoodIn wsX10_split wsX10_acted := goodIn_r _ [46, 47, 48, 6, 49, 50, 51, 52, 53, 54, 55, 56, 57, 58, 59, 60, 61, 62, 63] (by decide +kernel) (by decide +kernel)
set_option maxRecDepth 20000 in
theorem gX10_split_X10_acted : GoodIn wsX10_split (wsV RX10 111 RX10 yX10_acted wsX10_acted) := goodIn_app (goodIn_of _ (by decide +kernel)) ggX10_split_X10_acted
theorem dX10_split_0 : decode cX10_split 0 = .ok (.aload_n 0, 1) := by decide +kernel
theorem dX10_split_1 : decode cX10_split 1 = .ok (.invokevirtual 104, 3) := by decide +kernel
theorem dX10_split_4 : decode cX10_split 4 = .ok (.aload_n 0, 1) := by decide +kernel
theorem dX10_split_5 : decode cX10_split 5 = .ok (.aload_n 0, 1) := by decide +kernel
theorem dX10_split_6 : decode cX10_split 6 = .ok (.iload_n 1, 1) := by decide +kernel
theorem dX10_split_7 : decode cX10_split 7 = .ok (.iload_n 2, 1) := by decide +kernel
theorem dX10_split_8 : decode cX10_split 8 = .ok (.iload_n 3, 1) := by decide +kernel
theorem dX10_split_9 : decode cX10_split 9 = .ok (.invokevirtual 120, 3) := by decide +kernel
theorem dX10_split_12 : decode cX10_split 12 = .ok (.invokevirtual 111, 3) := by decide +kernel
theorem dX10_split_15 : decode cX10_split 15 = .ok (.ireturn, 1) := by decide +kernel
set_option maxRecDepth 20000 in
theorem ggX10_buyBack_X10_begins : GoodIn wsX10_buyBack wsX10_begins := goodIn_r _ [5, 6, 7, 37, 38, 39, 40, 41, 42, 43, 44, 45, 46, 47, 48, 49, 50, 51] (by decide +kernel) (by decide +kernel)
set_option maxRecDepth 20000 in
theorem gX10_buyBack_X10_begins : GoodIn wsX10_buyBack (wsV RX10 104 RX10 yX10_begins wsX10_begins) := goodIn_app (goodIn_of _ (by decide +kernel)) ggX10_buyBack_X10_begins
set_option maxRecDepth 20000 in
theorem ggX10_buyBack_X10_buys : GoodIn wsX10_buyBack wsX10_buys := goodIn_r _ [11, 7, 12, 13, 14, 4, 15, 16, 17, 18, 19, 20, 21, 22, 23, 24, 25, 26, 27, 28, 29, 30, 37, 38, 39, 40, 41, 42, 43, 44, 45, 46, 47, 48, 49, 50, 51] (by decide +kernel) (by decide +kernel)
set_option maxRecDepth 20000 in
theorem gX10_buyBack_X10_buys : GoodIn wsX10_buyBack (wsV RX10 123 RX10 yX10_buys wsX10_buys) := goodIn_app (goodIn_of _ (by decide +kernel)) ggX10_buyBack_X10_buys
set_option maxRecDepth 20000 in
theorem ggX10_buyBack_X10_acted : GoodIn wsX10_buyBack wsX10_acted := goodIn_r _ [34, 35, 36, 6, 37, 38, 39, 40, 41, 42, 43, 44, 45, 46, 47, 48, 49, 50, 51] (by decide +kernel) (by decide +kernel)
set_option maxRecDepth 20000 in
theorem gX10_buyBack_X10_acted : GoodIn wsX10_buyBack (wsV RX10 111 RX10 yX10_acted wsX10_acted) := goodIn_app (goodIn_of _ (by decide +kernel)) ggX10_buyBack_X10_acted
theorem dX10_buyBack_0 : decode cX10_buyBack 0 = .ok (.aload_n 0, 1) := by decide +kernel
theorem dX10_buyBack_1 : decode cX10_buyBack 1 = .ok (.invokevirtual 104, 3) := by decide +kernel
theorem dX10_buyBack_4 : decode cX10_buyBack 4 = .ok (.aload_n 0, 1) := by decide +kernel
theorem dX10_buyBack_5 : decode cX10_buyBack 5 = .ok (.aload_n 0, 1) := by decide +kernel
theorem dX10_buyBack_6 : decode cX10_buyBack 6 = .ok (.iload_n 1, 1) := by decide +kernel
theorem dX10_buyBack_7 : decode cX10_buyBack 7 = .ok (.iload_n 2, 1) := by decide +kernel
theorem dX10_buyBack_8 : decode cX10_buyBack 8 = .ok (.invokevirtual 123, 3) := by decide +kernel
theorem dX10_buyBack_11 : decode cX10_buyBack 11 = .ok (.invokevirtual 111, 3) := by decide +kernel
theorem dX10_buyBack_14 : decode cX10_buyBack 14 = .ok (.ireturn, 1) := by decide +kernel
set_option maxRecDepth 20000 in
theorem ggX10_grant_X10_begins : GoodIn wsX10_grant wsX10_begins := goodIn_r _ [5, 6, 7, 29, 30, 31, 32, 33, 34, 35, 36, 37, 38, 39, 40, 41, 42, 43] (by decide +kernel) (by decide +kernel)
set_option maxRecDepth 20000 in
theorem gX10_grant_X10_begins : GoodIn wsX10_grant (wsV RX10 104 RX10 yX10_begins wsX10_begins) := goodIn_app (goodIn_of _ (by decide +kernel)) ggX10_grant_X10_begins
set_option maxRecDepth 20000 in
theorem ggX10_grant_X10_grants : GoodIn wsX10_grant wsX10_grants := goodIn_r _ [11, 7, 12, 13, 14, 4, 15, 16, 17, 18, 19, 20, 21, 22, 29, 30, 31, 32, 33, 34, 35, 36, 37, 38, 39, 40, 41, 42, 43] (by decide +kernel) (by decide +kernel)
set_option maxRecDepth 20000 in
theorem gX10_grant_X10_grants : GoodIn wsX10_grant (wsV RX10 126 RX10 yX10_grants wsX10_grants) := goodIn_app (goodIn_of _ (by decide +kernel)) ggX10_grant_X10_grants
set_option maxRecDepth 20000 in
theorem ggX10_grant_X10_acted : GoodIn wsX10_grant wsX10_acted := goodIn_r _ [26, 27, 28, 6, 29, 30, 31, 32, 33, 34, 35, 36, 37, 38, 39, 40, 41, 42, 43] (by decide +kernel) (by decide +kernel)
set_option maxRecDepth 20000 in
theorem gX10_grant_X10_acted : GoodIn wsX10_grant (wsV RX10 111 RX10 yX10_acted wsX10_acted) := goodIn_app (goodIn_of _ (by decide +kernel)) ggX10_grant_X10_acted
theorem dX10_grant_0 : decode cX10_grant 0 = .ok (.aload_n 0, 1) := by decide +kernel
theorem dX10_grant_1 : decode cX10_grant 1 = .ok (.invokevirtual 104, 3) := by decide +kernel
theorem dX10_grant_4 : decode cX10_grant 4 = .ok (.aload_n 0, 1) := by decide +kernel
theorem dX10_grant_5 : decode cX10_grant 5 = .ok (.aload_n 0, 1) := by decide +kernel
theorem dX10_grant_6 : decode cX10_grant 6 = .ok (.iload_n 1, 1) := by decide +kernel
theorem dX10_grant_7 : decode cX10_grant 7 = .ok (.iload_n 2, 1) := by decide +kernel
theorem dX10_grant_8 : decode cX10_grant 8 = .ok (.iload_n 3, 1) := by decide +kernel
theorem dX10_grant_9 : decode cX10_grant 9 = .ok (.iload 4, 2) := by decide +kernel
theorem dX10_grant_11 : decode cX10_grant 11 = .ok (.iload 5, 2) := by decide +kernel
theorem dX10_grant_13 : decode cX10_grant 13 = .ok (.invokevirtual 126, 3) := by decide +kernel
theorem dX10_grant_16 : decode cX10_grant 16 = .ok (.invokevirtual 111, 3) := by decide +kernel
theorem dX10_grant_19 : decode cX10_grant 19 = .ok (.ireturn, 1) := by decide +kernel
set_option maxRecDepth 20000 in
theorem ggX10_take_X10_begins : GoodIn wsX10_take wsX10_begins := goodIn_r _ [5, 6, 7, 57, 58, 59, 60, 61, 62, 63, 64, 65, 66, 67, 68, 69, 70, 71] (by decide +kernel) (by decide +kernel)
set_option maxRecDepth 20000 in
theorem gX10_take_X10_begins : GoodIn wsX10_take (wsV RX10 104 RX10 yX10_begins wsX10_begins) := goodIn_app (goodIn_of _ (by decide +kernel)) ggX10_take_X10_begins
set_option maxRecDepth 20000 in
theorem ggX10_take_X10_takes : GoodIn wsX10_take wsX10_takes := goodIn_r _ [11, 7, 12, 13, 14, 4, 15, 16, 17, 18, 19, 20, 21, 22, 23, 24, 25, 26, 27, 28, 29, 30, 31, 32, 33, 34, 35, 36, 37, 38, 39, 40, 41, 42, 43, 44, 45, 46, 47, 48, 49, 50, 57, 58, 59, 60, 61, 62, 63, 64, 65, 66, 67, 68, 69, 70, 71] (by decide +kernel) (by decide +kernel)
set_option maxRecDepth 20000 in
theorem gX10_take_X10_takes : GoodIn wsX10_take (wsV RX10 129 RX10 yX10_takes wsX10_takes) := goodIn_app (goodIn_of _ (by decide +kernel)) ggX10_take_X10_takes
set_option maxRecDepth 20000 in
theorem ggX10_take_X10_acted : GoodIn wsX10_take wsX10_acted := goodIn_r _ [54, 55, 56, 6, 57, 58, 59, 60, 61, 62, 63, 64, 65, 66, 67, 68, 69, 70, 71] (by decide +kernel) (by decide +kernel)
set_option maxRecDepth 20000 in
theorem gX10_take_X10_acted : GoodIn wsX10_take (wsV RX10 111 RX10 yX10_acted wsX10_acted) := goodIn_app (goodIn_of _ (by decide +kernel)) ggX10_take_X10_acted
theorem dX10_take_0 : decode cX10_take 0 = .ok (.aload_n 0, 1) := by decide +kernel
theorem dX10_take_1 : decode cX10_take 1 = .ok (.invokevirtual 104, 3) := by decide +kernel
theorem dX10_take_4 : decode cX10_take 4 = .ok (.aload_n 0, 1) := by decide +kernel
theorem dX10_take_5 : decode cX10_take 5 = .ok (.aload_n 0, 1) := by decide +kernel
theorem dX10_take_6 : decode cX10_take 6 = .ok (.iload_n 1, 1) := by decide +kernel
theorem dX10_take_7 : decode cX10_take 7 = .ok (.iload_n 2, 1) := by decide +kernel
theorem dX10_take_8 : decode cX10_take 8 = .ok (.invokevirtual 129, 3) := by decide +kernel
theorem dX10_take_11 : decode cX10_take 11 = .ok (.invokevirtual 111, 3) := by decide +kernel
theorem dX10_take_14 : decode cX10_take 14 = .ok (.ireturn, 1) := by decide +kernel
set_option maxRecDepth 20000 in
theorem ggX10_leave_X10_begins : GoodIn wsX10_leave wsX10_begins := goodIn_r _ [5, 6, 7, 45, 46, 47, 48, 49, 50, 51, 52, 53, 54, 55, 56, 57, 58, 59] (by decide +kernel) (by decide +kernel)
set_option maxRecDepth 20000 in
theorem gX10_leave_X10_begins : GoodIn wsX10_leave (wsV RX10 104 RX10 yX10_begins wsX10_begins) := goodIn_app (goodIn_of _ (by decide +kernel)) ggX10_leave_X10_begins
set_option maxRecDepth 20000 in
theorem ggX10_leave_X10_leaves : GoodIn wsX10_leave wsX10_leaves := goodIn_r _ [11, 7, 12, 13, 14, 4, 15, 16, 17, 18, 19, 20, 21, 22, 23, 24, 25, 26, 27, 28, 29, 30, 31, 32, 33, 34, 35, 36, 37, 38, 45, 46, 47, 48, 49, 50, 51, 52, 53, 54, 55, 56, 57, 58, 59] (by decide +kernel) (by decide +kernel)
set_option maxRecDepth 20000 in
theorem gX10_leave_X10_leaves : GoodIn wsX10_leave (wsV RX10 132 RX10 yX10_leaves wsX10_leaves) := goodIn_app (goodIn_of _ (by decide +kernel)) ggX10_leave_X10_leaves
set_option maxRecDepth 20000 in
theorem ggX10_leave_X10_acted : GoodIn wsX10_leave wsX10_acted := goodIn_r _ [42, 43, 44, 6, 45, 46, 47, 48, 49, 50, 51, 52, 53, 54, 55, 56, 57, 58, 59] (by decide +kernel) (by decide +kernel)
set_option maxRecDepth 20000 in
theorem gX10_leave_X10_acted : GoodIn wsX10_leave (wsV RX10 111 RX10 yX10_acted wsX10_acted) := goodIn_app (goodIn_of _ (by decide +kernel)) ggX10_leave_X10_acted
theorem dX10_leave_0 : decode cX10_leave 0 = .ok (.aload_n 0, 1) := by decide +kernel
theorem dX10_leave_1 : decode cX10_leave 1 = .ok (.invokevirtual 104, 3) := by decide +kernel
theorem dX10_leave_4 : decode cX10_leave 4 = .ok (.aload_n 0, 1) := by decide +kernel
theorem dX10_leave_5 : decode cX10_leave 5 = .ok (.aload_n 0, 1) := by decide +kernel
theorem dX10_leave_6 : decode cX10_leave 6 = .ok (.iload_n 1, 1) := by decide +kernel
theorem dX10_leave_7 : decode cX10_leave 7 = .ok (.invokevirtual 132, 3) := by decide +kernel
theorem dX10_leave_10 : decode cX10_leave 10 = .ok (.invokevirtual 111, 3) := by decide +kernel
theorem dX10_leave_13 : decode cX10_leave 13 = .ok (.ireturn, 1) := by decide +kernel
set_option maxRecDepth 20000 in
theorem ggX10_pass_X10_begins : GoodIn wsX10_pass wsX10_begins := goodIn_r _ [5, 6, 7, 21, 22, 23, 24, 25, 26, 27, 28, 29, 30, 31, 32, 33, 34, 35] (by decide +kernel) (by decide +kernel)
set_option maxRecDepth 20000 in
theorem gX10_pass_X10_begins : GoodIn wsX10_pass (wsV RX10 104 RX10 yX10_begins wsX10_begins) := goodIn_app (goodIn_of _ (by decide +kernel)) ggX10_pass_X10_begins
set_option maxRecDepth 20000 in
theorem ggX10_pass_X10_passes : GoodIn wsX10_pass wsX10_passes := goodIn_r _ [11, 7, 12, 13, 4, 14, 21, 22, 23, 24, 25, 26, 27, 28, 29, 30, 31, 32, 33, 34, 35] (by decide +kernel) (by decide +kernel)
set_option maxRecDepth 20000 in
theorem gX10_pass_X10_passes : GoodIn wsX10_pass (wsV RX10 135 RX10 yX10_passes wsX10_passes) := goodIn_app (goodIn_of _ (by decide +kernel)) ggX10_pass_X10_passes
set_option maxRecDepth 20000 in
theorem ggX10_pass_X10_acted : GoodIn wsX10_pass wsX10_acted := goodIn_r _ [18, 19, 20, 6, 21, 22, 23, 24, 25, 26, 27, 28, 29, 30, 31, 32, 33, 34, 35] (by decide +kernel) (by decide +kernel)
set_option maxRecDepth 20000 in
theorem gX10_pass_X10_acted : GoodIn wsX10_pass (wsV RX10 111 RX10 yX10_acted wsX10_acted) := goodIn_app (goodIn_of _ (by decide +kernel)) ggX10_pass_X10_acted
theorem dX10_pass_0 : decode cX10_pass 0 = .ok (.aload_n 0, 1) := by decide +kernel
theorem dX10_pass_1 : decode cX10_pass 1 = .ok (.invokevirtual 104, 3) := by decide +kernel
theorem dX10_pass_4 : decode cX10_pass 4 = .ok (.aload_n 0, 1) := by decide +kernel
theorem dX10_pass_5 : decode cX10_pass 5 = .ok (.aload_n 0, 1) := by decide +kernel
theorem dX10_pass_6 : decode cX10_pass 6 = .ok (.iload_n 1, 1) := by decide +kernel
theorem dX10_pass_7 : decode cX10_pass 7 = .ok (.invokevirtual 135, 3) := by decide +kernel
theorem dX10_pass_10 : decode cX10_pass 10 = .ok (.invokevirtual 111, 3) := by decide +kernel
theorem dX10_pass_13 : decode cX10_pass 13 = .ok (.ireturn, 1) := by decide +kernel
set_option maxRecDepth 20000 in
theorem ggX10_round_X10_begins : GoodIn wsX10_round wsX10_begins := goodIn_r _ [5, 6, 7, 49, 50, 51, 52, 53, 54, 55, 56, 57, 58, 59, 60, 61, 62, 63] (by decide +kernel) (by decide +kernel)
set_option maxRecDepth 20000 in
theorem gX10_round_X10_begins : GoodIn wsX10_round (wsV RX10 104 RX10 yX10_begins wsX10_begins) := goodIn_app (goodIn_of _ (by decide +kernel)) ggX10_round_X10_begins
set_option maxRecDepth 20000 in
theorem ggX10_round_X10_offers : GoodIn wsX10_round wsX10_offers := goodIn_r _ [11, 7, 12, 13, 14, 4, 15, 16, 17, 18, 19, 20, 21, 22, 23, 24, 25, 26, 27, 28, 29, 30, 31, 32, 33, 34, 35, 36, 37, 38, 39, 40, 41, 42, 49, 50, 51, 52, 53, 54, 55, 56, 57, 58, 59, 60, 61, 62, 63] (by decide +kernel) (by decide +kernel)
set_option maxRecDepth 20000 in
theorem gX10_round_X10_offers : GoodIn wsX10_round (wsV RX10 138 RX10 yX10_offers wsX10_offers) := goodIn_app (goodIn_of _ (by decide +kernel)) ggX10_round_X10_offers
set_option maxRecDepth 20000 in
theorem ggX10_round_X10_acted : GoodIn wsX10_round wsX10_acted := goodIn_r _ [46, 47, 48, 6, 49, 50, 51, 52, 53, 54, 55, 56, 57, 58, 59, 60, 61, 62, 63] (by decide +kernel) (by decide +kernel)
set_option maxRecDepth 20000 in
theorem gX10_round_X10_acted : GoodIn wsX10_round (wsV RX10 111 RX10 yX10_acted wsX10_acted) := goodIn_app (goodIn_of _ (by decide +kernel)) ggX10_round_X10_acted
theorem dX10_round_0 : decode cX10_round 0 = .ok (.aload_n 0, 1) := by decide +kernel
theorem dX10_round_1 : decode cX10_round 1 = .ok (.invokevirtual 104, 3) := by decide +kernel
theorem dX10_round_4 : decode cX10_round 4 = .ok (.aload_n 0, 1) := by decide +kernel
theorem dX10_round_5 : decode cX10_round 5 = .ok (.aload_n 0, 1) := by decide +kernel
theorem dX10_round_6 : decode cX10_round 6 = .ok (.iload_n 1, 1) := by decide +kernel
theorem dX10_round_7 : decode cX10_round 7 = .ok (.iload_n 2, 1) := by decide +kernel
theorem dX10_round_8 : decode cX10_round 8 = .ok (.iload_n 3, 1) := by decide +kernel
theorem dX10_round_9 : decode cX10_round 9 = .ok (.invokevirtual 138, 3) := by decide +kernel
theorem dX10_round_12 : decode cX10_round 12 = .ok (.invokevirtual 111, 3) := by decide +kernel
theorem dX10_round_15 : decode cX10_round 15 = .ok (.ireturn, 1) := by decide +kernel
set_option maxRecDepth 20000 in
theorem ggX10_takeUp_X10_begins : GoodIn wsX10_takeUp wsX10_begins := goodIn_r _ [5, 6, 7, 29, 30, 31, 32, 33, 34, 35, 36, 37, 38, 39, 40, 41, 42, 43] (by decide +kernel) (by decide +kernel)
set_option maxRecDepth 20000 in
theorem gX10_takeUp_X10_begins : GoodIn wsX10_takeUp (wsV RX10 104 RX10 yX10_begins wsX10_begins) := goodIn_app (goodIn_of _ (by decide +kernel)) ggX10_takeUp_X10_begins
set_option maxRecDepth 20000 in
theorem ggX10_takeUp_X10_takesUp : GoodIn wsX10_takeUp wsX10_takesUp := goodIn_r _ [11, 7, 12, 13, 14, 4, 15, 16, 17, 18, 19, 20, 21, 22, 29, 30, 31, 32, 33, 34, 35, 36, 37, 38, 39, 40, 41, 42, 43] (by decide +kernel) (by decide +kernel)
set_option maxRecDepth 20000 in
theorem gX10_takeUp_X10_takesUp : GoodIn wsX10_takeUp (wsV RX10 141 RX10 yX10_takesUp wsX10_takesUp) := goodIn_app (goodIn_of _ (by decide +kernel)) ggX10_takeUp_X10_takesUp
set_option maxRecDepth 20000 in
theorem ggX10_takeUp_X10_acted : GoodIn wsX10_takeUp wsX10_acted := goodIn_r _ [26, 27, 28, 6, 29, 30, 31, 32, 33, 34, 35, 36, 37, 38, 39, 40, 41, 42, 43] (by decide +kernel) (by decide +kernel)
set_option maxRecDepth 20000 in
theorem gX10_takeUp_X10_acted : GoodIn wsX10_takeUp (wsV RX10 111 RX10 yX10_acted wsX10_acted) := goodIn_app (goodIn_of _ (by decide +kernel)) ggX10_takeUp_X10_acted
theorem dX10_takeUp_0 : decode cX10_takeUp 0 = .ok (.aload_n 0, 1) := by decide +kernel
theorem dX10_takeUp_1 : decode cX10_takeUp 1 = .ok (.invokevirtual 104, 3) := by decide +kernel
theorem dX10_takeUp_4 : decode cX10_takeUp 4 = .ok (.aload_n 0, 1) := by decide +kernel
theorem dX10_takeUp_5 : decode cX10_takeUp 5 = .ok (.aload_n 0, 1) := by decide +kernel
theorem dX10_takeUp_6 : decode cX10_takeUp 6 = .ok (.iload_n 1, 1) := by decide +kernel
theorem dX10_takeUp_7 : decode cX10_takeUp 7 = .ok (.iload_n 2, 1) := by decide +kernel
theorem dX10_takeUp_8 : decode cX10_takeUp 8 = .ok (.invokevirtual 141, 3) := by decide +kernel
theorem dX10_takeUp_11 : decode cX10_takeUp 11 = .ok (.invokevirtual 111, 3) := by decide +kernel
theorem dX10_takeUp_14 : decode cX10_takeUp 14 = .ok (.ireturn, 1) := by decide +kernel
set_option maxRecDepth 20000 in
theorem ggX10_close_X10_begins : GoodIn wsX10_close wsX10_begins := goodIn_r _ [5, 6, 7, 38, 39, 40, 41, 42, 43, 44, 45, 46, 47, 48, 49, 50, 51, 52] (by decide +kernel) (by decide +kernel)
set_option maxRecDepth 20000 in
theorem gX10_close_X10_begins : GoodIn wsX10_close (wsV RX10 104 RX10 yX10_begins wsX10_begins) := goodIn_app (goodIn_of _ (by decide +kernel)) ggX10_close_X10_begins
set_option maxRecDepth 20000 in
theorem ggX10_close_X10_closes : GoodIn wsX10_close wsX10_closes := goodIn_r _ [11, 7, 12, 13, 14, 4, 15, 16, 17, 18, 19, 20, 21, 22, 23, 24, 25, 26, 27, 28, 29, 30, 31, 38, 39, 40, 41, 42, 43, 44, 45, 46, 47, 48, 49, 50, 51, 52] (by decide +kernel) (by decide +kernel)
set_option maxRecDepth 20000 in
theorem gX10_close_X10_closes : GoodIn wsX10_close (wsV RX10 144 RX10 yX10_closes wsX10_closes) := goodIn_app (goodIn_of _ (by decide +kernel)) ggX10_close_X10_closes
set_option maxRecDepth 20000 in
theorem ggX10_close_X10_acted : GoodIn wsX10_close wsX10_acted := goodIn_r _ [35, 36, 37, 6, 38, 39, 40, 41, 42, 43, 44, 45, 46, 47, 48, 49, 50, 51, 52] (by decide +kernel) (by decide +kernel)
set_option maxRecDepth 20000 in
theorem gX10_close_X10_acted : GoodIn wsX10_close (wsV RX10 111 RX10 yX10_acted wsX10_acted) := goodIn_app (goodIn_of _ (by decide +kernel)) ggX10_close_X10_acted
theorem dX10_close_0 : decode cX10_close 0 = .ok (.aload_n 0, 1) := by decide +kernel
theorem dX10_close_1 : decode cX10_close 1 = .ok (.invokevirtual 104, 3) := by decide +kernel
theorem dX10_close_4 : decode cX10_close 4 = .ok (.aload_n 0, 1) := by decide +kernel
theorem dX10_close_5 : decode cX10_close 5 = .ok (.aload_n 0, 1) := by decide +kernel
theorem dX10_close_6 : decode cX10_close 6 = .ok (.invokevirtual 144, 3) := by decide +kernel
theorem dX10_close_9 : decode cX10_close 9 = .ok (.invokevirtual 111, 3) := by decide +kernel
theorem dX10_close_12 : decode cX10_close 12 = .ok (.ireturn, 1) := by decide +kernel
set_option maxRecDepth 20000 in
theorem ggX10_roundOf_X10_isHolder : GoodIn wsX10_roundOf wsX10_isHolder := goodIn_r _ [6, 1, 7, 8, 5, 9, 14, 15, 16, 17, 18, 19, 20, 21, 22, 23, 24, 25, 26, 27, 28] (by decide +kernel) (by decide +kernel)
set_option maxRecDepth 20000 in
theorem gX10_roundOf_X10_isHolder : GoodIn wsX10_roundOf (wsV RX10 70 RX10 yX10_isHolder wsX10_isHolder) := goodIn_app (goodIn_of _ (by decide +kernel)) ggX10_roundOf_X10_isHolder
set_option maxRecDepth 20000 in
theorem ggX10_roundOf_X10_in : GoodIn wsX10_roundOf wsX10_in := goodIn_r _ [9] (by decide +kernel) (by decide +kernel)
set_option maxRecDepth 20000 in
theorem gX10_roundOf_X10_in : GoodIn wsX10_roundOf (va_wsS RX10 42 yX10_in wsX10_in) := goodIn_app (goodIn_of _ (by decide +kernel)) ggX10_roundOf_X10_in
set_option maxRecDepth 20000 in
theorem ggX10_roundOf_X10_isRound : GoodIn wsX10_roundOf wsX10_isRound := goodIn_r _ [13, 1, 14, 15, 16, 17, 18, 19, 20, 21, 22, 23, 24, 25, 26, 27, 28] (by decide +kernel) (by decide +kernel)
set_option maxRecDepth 20000 in
theorem gX10_roundOf_X10_isRound : GoodIn wsX10_roundOf (wsV RX10 76 RX10 yX10_isRound wsX10_isRound) := goodIn_app (goodIn_of _ (by decide +kernel)) ggX10_roundOf_X10_isRound
theorem dX10_roundOf_0 : decode cX10_roundOf 0 = .ok (.aload_n 0, 1) := by decide +kernel
theorem dX10_roundOf_1 : decode cX10_roundOf 1 = .ok (.iload_n 1, 1) := by decide +kernel
theorem dX10_roundOf_2 : decode cX10_roundOf 2 = .ok (.invokevirtual 70, 3) := by decide +kernel
theorem dX10_roundOf_5 : decode cX10_roundOf 5 = .ok (.ifCond .eq 12, 3) := by decide +kernel
theorem dX10_roundOf_8 : decode cX10_roundOf 8 = .ok (.iload_n 2, 1) := by decide +kernel
theorem dX10_roundOf_9 : decode cX10_roundOf 9 = .ok (.iconst 0, 1) := by decide +kernel
theorem dX10_roundOf_10 : decode cX10_roundOf 10 = .ok (.iconst 4, 1) := by decide +kernel
theorem dX10_roundOf_11 : decode cX10_roundOf 11 = .ok (.invokestatic 42, 3) := by decide +kernel
theorem dX10_roundOf_14 : decode cX10_roundOf 14 = .ok (.ifCond .ne 5, 3) := by decide +kernel
theorem dX10_roundOf_17 : decode cX10_roundOf 17 = .ok (.iconst (-1), 1) := by decide +kernel
theorem dX10_roundOf_18 : decode cX10_roundOf 18 = .ok (.ireturn, 1) := by decide +kernel
theorem dX10_roundOf_19 : decode cX10_roundOf 19 = .ok (.aload_n 0, 1) := by decide +kernel
theorem dX10_roundOf_20 : decode cX10_roundOf 20 = .ok (.invokevirtual 76, 3) := by decide +kernel
theorem dX10_roundOf_23 : decode cX10_roundOf 23 = .ok (.ifCond .ne 6, 3) := by decide +kernel
theorem dX10_roundOf_26 : decode cX10_roundOf 26 = .ok (.bipush (-4), 2) := by decide +kernel
theorem dX10_roundOf_28 : decode cX10_roundOf 28 = .ok (.ireturn, 1) := by decide +kernel
theorem dX10_roundOf_29 : decode cX10_roundOf 29 = .ok (.iload_n 2, 1) := by decide +kernel
theorem dX10_roundOf_30 : decode cX10_roundOf 30 = .ok (.ifCond .ne 15, 3) := by decide +kernel
theorem dX10_roundOf_33 : decode cX10_roundOf 33 = .ok (.aload_n 0, 1) := by decide +kernel
theorem dX10_roundOf_34 : decode cX10_roundOf 34 = .ok (.getfield 7, 3) := by decide +kernel
theorem dX10_roundOf_37 : decode cX10_roundOf 37 = .ok (.bipush 12, 2) := by decide +kernel
theorem dX10_roundOf_39 : decode cX10_roundOf 39 = .ok (.iload_n 1, 1) := by decide +kernel
theorem dX10_roundOf_40 : decode cX10_roundOf 40 = .ok (.iadd, 1) := by decide +kernel
theorem dX10_roundOf_41 : decode cX10_roundOf 41 = .ok (.iaload, 1) := by decide +kernel
theorem dX10_roundOf_42 : decode cX10_roundOf 42 = .ok (.goto 31, 3) := by decide +kernel
theorem dX10_roundOf_45 : decode cX10_roundOf 45 = .ok (.iload_n 2, 1) := by decide +kernel
theorem dX10_roundOf_46 : decode cX10_roundOf 46 = .ok (.iconst 1, 1) := by decide +kernel
theorem dX10_roundOf_47 : decode cX10_roundOf 47 = .ok (.if_icmp .ne 15, 3) := by decide +kernel
theorem dX10_roundOf_50 : decode cX10_roundOf 50 = .ok (.aload_n 0, 1) := by decide +kernel
theorem dX10_roundOf_51 : decode cX10_roundOf 51 = .ok (.getfield 7, 3) := by decide +kernel
theorem dX10_roundOf_54 : decode cX10_roundOf 54 = .ok (.bipush 20, 2) := by decide +kernel
theorem dX10_roundOf_56 : decode cX10_roundOf 56 = .ok (.iload_n 1, 1) := by decide +kernel
theorem dX10_roundOf_57 : decode cX10_roundOf 57 = .ok (.iadd, 1) := by decide +kernel
theorem dX10_roundOf_58 : decode cX10_roundOf 58 = .ok (.iaload, 1) := by decide +kernel
theorem dX10_roundOf_59 : decode cX10_roundOf 59 = .ok (.goto 14, 3) := by decide +kernel
theorem dX10_roundOf_62 : decode cX10_roundOf 62 = .ok (.aload_n 0, 1) := by decide +kernel
theorem dX10_roundOf_63 : decode cX10_roundOf 63 = .ok (.getfield 7, 3) := by decide +kernel
theorem dX10_roundOf_66 : decode cX10_roundOf 66 = .ok (.bipush 9, 2) := by decide +kernel
theorem dX10_roundOf_68 : decode cX10_roundOf 68 = .ok (.iload_n 2, 1) := by decide +kernel
theorem dX10_roundOf_69 : decode cX10_roundOf 69 = .ok (.iadd, 1) := by decide +kernel
theorem dX10_roundOf_70 : decode cX10_roundOf 70 = .ok (.iconst 2, 1) := by decide +kernel
theorem dX10_roundOf_71 : decode cX10_roundOf 71 = .ok (.isub, 1) := by decide +kernel
theorem dX10_roundOf_72 : decode cX10_roundOf 72 = .ok (.iaload, 1) := by decide +kernel
theorem dX10_roundOf_73 : decode cX10_roundOf 73 = .ok (.ireturn, 1) := by decide +kernel
set_option maxRecDepth 20000 in
theorem ggX10_preference_X10_sharesOf : GoodIn wsX10_preference wsX10_sharesOf := goodIn_r _ [5, 6, 7, 8, 4, 9, 10, 15, 16, 17, 18, 19, 20, 21, 22, 23, 24, 25, 26, 27, 28, 29] (by decide +kernel) (by decide +kernel)
set_option maxRecDepth 20000 in
theorem gX10_preference_X10_sharesOf : GoodIn wsX10_preference (wsV RX10 50 RX10 yX10_sharesOf wsX10_sharesOf) := goodIn_app (goodIn_of _ (by decide +kernel)) ggX10_preference_X10_sharesOf
set_option maxRecDepth 20000 in
theorem ggX10_preference_X10_ofClass : GoodIn wsX10_preference wsX10_ofClass := goodIn_r _ [14, 10, 15, 16, 17, 18, 19, 20, 21, 22, 23, 24, 25, 26, 27, 28, 29] (by decide +kernel) (by decide +kernel)
set_option maxRecDepth 20000 in
theorem gX10_preference_X10_ofClass : GoodIn wsX10_preference (wsV RX10 53 RX10 yX10_ofClass wsX10_ofClass) := goodIn_app (goodIn_of _ (by decide +kernel)) ggX10_preference_X10_ofClass
theorem dX10_preference_0 : decode cX10_preference 0 = .ok (.aload_n 0, 1) := by decide +kernel
theorem dX10_preference_1 : decode cX10_preference 1 = .ok (.iconst (-1), 1) := by decide +kernel
theorem dX10_preference_2 : decode cX10_preference 2 = .ok (.iload_n 1, 1) := by decide +kernel
theorem dX10_preference_3 : decode cX10_preference 3 = .ok (.invokevirtual 50, 3) := by decide +kernel
theorem dX10_preference_6 : decode cX10_preference 6 = .ok (.aload_n 0, 1) := by decide +kernel
theorem dX10_preference_7 : decode cX10_preference 7 = .ok (.iload_n 1, 1) := by decide +kernel
theorem dX10_preference_8 : decode cX10_preference 8 = .ok (.iconst 0, 1) := by decide +kernel
theorem dX10_preference_9 : decode cX10_preference 9 = .ok (.invokevirtual 53, 3) := by decide +kernel
theorem dX10_preference_12 : decode cX10_preference 12 = .ok (.imul, 1) := by decide +kernel
theorem dX10_preference_13 : decode cX10_preference 13 = .ok (.aload_n 0, 1) := by decide +kernel
theorem dX10_preference_14 : decode cX10_preference 14 = .ok (.iload_n 1, 1) := by decide +kernel
theorem dX10_preference_15 : decode cX10_preference 15 = .ok (.iconst 1, 1) := by decide +kernel
theorem dX10_preference_16 : decode cX10_preference 16 = .ok (.invokevirtual 53, 3) := by decide +kernel
theorem dX10_preference_19 : decode cX10_preference 19 = .ok (.imul, 1) := by decide +kernel
theorem dX10_preference_20 : decode cX10_preference 20 = .ok (.ireturn, 1) := by decide +kernel
set_option maxRecDepth 20000 in
theorem ggX10_classOf_X10_isClass : GoodIn wsX10_classOf wsX10_isClass := goodIn_r _ [5, 6, 7, 8, 4, 9, 26, 27, 28, 29, 30, 31, 32, 33, 34, 35, 36, 37, 38, 39, 40] (by decide +kernel) (by decide +kernel)
set_option maxRecDepth 20000 in
theorem gX10_classOf_X10_isClass : GoodIn wsX10_classOf (wsV RX10 73 RX10 yX10_isClass wsX10_isClass) := goodIn_app (goodIn_of _ (by decide +kernel)) ggX10_classOf_X10_isClass
set_option maxRecDepth 20000 in
theorem ggX10_classOf_X10_in : GoodIn wsX10_classOf wsX10_in := goodIn_r _ [9] (by decide +kernel) (by decide +kernel)
set_option maxRecDepth 20000 in
theorem gX10_classOf_X10_in : GoodIn wsX10_classOf (va_wsS RX10 42 yX10_in wsX10_in) := goodIn_app (goodIn_of _ (by decide +kernel)) ggX10_classOf_X10_in
set_option maxRecDepth 20000 in
theorem ggX10_classOf_X10_sharesOf : GoodIn wsX10_classOf wsX10_sharesOf := goodIn_r _ [13, 14, 15, 16, 4, 17, 6, 26, 27, 28, 29, 30, 31, 32, 33, 34, 35, 36, 37, 38, 39, 40] (by decide +kernel) (by decide +kernel)
set_option maxRecDepth 20000 in
theorem gX10_classOf_X10_sharesOf : GoodIn wsX10_classOf (wsV RX10 50 RX10 yX10_sharesOf wsX10_sharesOf) := goodIn_app (goodIn_of _ (by decide +kernel)) ggX10_classOf_X10_sharesOf
set_option maxRecDepth 20000 in
theorem ggX10_classOf_X10_preference : GoodIn wsX10_classOf wsX10_preference := goodIn_r _ [21, 10, 11, 12, 4, 13, 14, 15, 16, 17, 6, 22, 23, 24, 25, 26, 27, 28, 29, 30, 31, 32, 33, 34, 35, 36, 37, 38, 39, 40] (by decide +kernel) (by decide +kernel)
set_option maxRecDepth 20000 in
theorem gX10_classOf_X10_preference : GoodIn wsX10_classOf (wsV RX10 147 RX10 yX10_preference wsX10_preference) := goodIn_app (goodIn_of _ (by decide +kernel)) ggX10_classOf_X10_preference
set_option maxRecDepth 20000 in
theorem ggX10_classOf_X10_ofClass : GoodIn wsX10_classOf wsX10_ofClass := goodIn_r _ [25, 6, 26, 27, 28, 29, 30, 31, 32, 33, 34, 35, 36, 37, 38, 39, 40] (by decide +kernel) (by decide +kernel)
set_option maxRecDepth 20000 in
theorem gX10_classOf_X10_ofClass : GoodIn wsX10_classOf (wsV RX10 53 RX10 yX10_ofClass wsX10_ofClass) := goodIn_app (goodIn_of _ (by decide +kernel)) ggX10_classOf_X10_ofClass
theorem dX10_classOf_0 : decode cX10_classOf 0 = .ok (.aload_n 0, 1) := by decide +kernel
theorem dX10_classOf_1 : decode cX10_classOf 1 = .ok (.iload_n 1, 1) := by decide +kernel
theorem dX10_classOf_2 : decode cX10_classOf 2 = .ok (.invokevirtual 73, 3) := by decide +kernel
theorem dX10_classOf_5 : decode cX10_classOf 5 = .ok (.ifCond .eq 13, 3) := by decide +kernel
theorem dX10_classOf_8 : decode cX10_classOf 8 = .ok (.iload_n 2, 1) := by decide +kernel
theorem dX10_classOf_9 : decode cX10_classOf 9 = .ok (.iconst 0, 1) := by decide +kernel
theorem dX10_classOf_10 : decode cX10_classOf 10 = .ok (.bipush 7, 2) := by decide +kernel
theorem dX10_classOf_12 : decode cX10_classOf 12 = .ok (.invokestatic 42, 3) := by decide +kernel
theorem dX10_classOf_15 : decode cX10_classOf 15 = .ok (.ifCond .ne 5, 3) := by decide +kernel
theorem dX10_classOf_18 : decode cX10_classOf 18 = .ok (.iconst (-1), 1) := by decide +kernel
theorem dX10_classOf_19 : decode cX10_classOf 19 = .ok (.ireturn, 1) := by decide +kernel
theorem dX10_classOf_20 : decode cX10_classOf 20 = .ok (.iload_n 2, 1) := by decide +kernel
theorem dX10_classOf_21 : decode cX10_classOf 21 = .ok (.tableswitch 54 0 2 #[27, 34, 40], 27) := by decide +kernel
theorem dX10_classOf_48 : decode cX10_classOf 48 = .ok (.aload_n 0, 1) := by decide +kernel
theorem dX10_classOf_49 : decode cX10_classOf 49 = .ok (.iconst (-1), 1) := by decide +kernel
theorem dX10_classOf_50 : decode cX10_classOf 50 = .ok (.iload_n 1, 1) := by decide +kernel
theorem dX10_classOf_51 : decode cX10_classOf 51 = .ok (.invokevirtual 50, 3) := by decide +kernel
theorem dX10_classOf_54 : decode cX10_classOf 54 = .ok (.ireturn, 1) := by decide +kernel
theorem dX10_classOf_55 : decode cX10_classOf 55 = .ok (.aload_n 0, 1) := by decide +kernel
theorem dX10_classOf_56 : decode cX10_classOf 56 = .ok (.iload_n 1, 1) := by decide +kernel
theorem dX10_classOf_57 : decode cX10_classOf 57 = .ok (.invokevirtual 147, 3) := by decide +kernel
theorem dX10_classOf_60 : decode cX10_classOf 60 = .ok (.ireturn, 1) := by decide +kernel
theorem dX10_classOf_61 : decode cX10_classOf 61 = .ok (.aload_n 0, 1) := by decide +kernel
theorem dX10_classOf_62 : decode cX10_classOf 62 = .ok (.iconst (-1), 1) := by decide +kernel
theorem dX10_classOf_63 : decode cX10_classOf 63 = .ok (.iload_n 1, 1) := by decide +kernel
theorem dX10_classOf_64 : decode cX10_classOf 64 = .ok (.invokevirtual 50, 3) := by decide +kernel
theorem dX10_classOf_67 : decode cX10_classOf 67 = .ok (.aload_n 0, 1) := by decide +kernel
theorem dX10_classOf_68 : decode cX10_classOf 68 = .ok (.iload_n 1, 1) := by decide +kernel
theorem dX10_classOf_69 : decode cX10_classOf 69 = .ok (.iconst 4, 1) := by decide +kernel
theorem dX10_classOf_70 : decode cX10_classOf 70 = .ok (.invokevirtual 53, 3) := by decide +kernel
theorem dX10_classOf_73 : decode cX10_classOf 73 = .ok (.imul, 1) := by decide +kernel
theorem dX10_classOf_74 : decode cX10_classOf 74 = .ok (.ireturn, 1) := by decide +kernel
theorem dX10_classOf_75 : decode cX10_classOf 75 = .ok (.iload_n 1, 1) := by decide +kernel
theorem dX10_classOf_76 : decode cX10_classOf 76 = .ok (.ifCond .ne 8, 3) := by decide +kernel
theorem dX10_classOf_79 : decode cX10_classOf 79 = .ok (.bipush (-4), 2) := by decide +kernel
theorem dX10_classOf_81 : decode cX10_classOf 81 = .ok (.goto 11, 3) := by decide +kernel
theorem dX10_classOf_84 : decode cX10_classOf 84 = .ok (.aload_n 0, 1) := by decide +kernel
theorem dX10_classOf_85 : decode cX10_classOf 85 = .ok (.iload_n 1, 1) := by decide +kernel
theorem dX10_classOf_86 : decode cX10_classOf 86 = .ok (.iload_n 2, 1) := by decide +kernel
theorem dX10_classOf_87 : decode cX10_classOf 87 = .ok (.iconst 3, 1) := by decide +kernel
theorem dX10_classOf_88 : decode cX10_classOf 88 = .ok (.isub, 1) := by decide +kernel
theorem dX10_classOf_89 : decode cX10_classOf 89 = .ok (.invokevirtual 53, 3) := by decide +kernel
theorem dX10_classOf_92 : decode cX10_classOf 92 = .ok (.ireturn, 1) := by decide +kernel
set_option maxRecDepth 20000 in
theorem ggX10_certificateOf_X10_isCertificate : GoodIn wsX10_certificateOf wsX10_isCertificate := goodIn_r _ [5, 6, 7, 4, 8, 9, 10, 11, 12, 13, 14, 15, 16, 17, 18, 19, 20, 21, 22, 23, 24, 25, 26, 27, 28] (by decide +kernel) (by decide +kernel)
set_option maxRecDepth 20000 in
theorem gX10_certificateOf_X10_isCertificate : GoodIn wsX10_certificateOf (wsV RX10 88 RX10 yX10_isCertificate wsX10_isCertificate) := goodIn_app (goodIn_of _ (by decide +kernel)) ggX10_certificateOf_X10_isCertificate
set_option maxRecDepth 20000 in
theorem ggX10_certificateOf_X10_in : GoodIn wsX10_certificateOf wsX10_in := goodIn_r _ [8] (by decide +kernel) (by decide +kernel)
set_option maxRecDepth 20000 in
theorem gX10_certificateOf_X10_in : GoodIn wsX10_certificateOf (va_wsS RX10 42 yX10_in wsX10_in) := goodIn_app (goodIn_of _ (by decide +kernel)) ggX10_certificateOf_X10_in
set_option maxRecDepth 20000 in
theorem ggX10_certificateOf_X10_ofCertificate : GoodIn wsX10_certificateOf wsX10_ofCertificate := goodIn_r _ [12, 13, 14, 15, 16, 17, 18, 19, 20, 21, 22, 23, 24, 25, 26, 27, 28] (by decide +kernel) (by decide +kernel)
set_option maxRecDepth 20000 in
theorem gX10_certificateOf_X10_ofCertificate : GoodIn wsX10_certificateOf (wsV RX10 46 RX10 yX10_ofCertificate wsX10_ofCertificate) := goodIn_app (goodIn_of _ (by decide +kernel)) ggX10_certificateOf_X10_ofCertificate
theorem dX10_certificateOf_0 : decode cX10_certificateOf 0 = .ok (.aload_n 0, 1) := by decide +kernel
theorem dX10_certificateOf_1 : decode cX10_certificateOf 1 = .ok (.iload_n 1, 1) := by decide +kernel
theorem dX10_certificateOf_2 : decode cX10_certificateOf 2 = .ok (.invokevirtual 88, 3) := by decide +kernel
theorem dX10_certificateOf_5 : decode cX10_certificateOf 5 = .ok (.ifCond .eq 12, 3) := by decide +kernel
theorem dX10_certificateOf_8 : decode cX10_certificateOf 8 = .ok (.iload_n 2, 1) := by decide +kernel
theorem dX10_certificateOf_9 : decode cX10_certificateOf 9 = .ok (.iconst 0, 1) := by decide +kernel
theorem dX10_certificateOf_10 : decode cX10_certificateOf 10 = .ok (.iconst 3, 1) := by decide +kernel
theorem dX10_certificateOf_11 : decode cX10_certificateOf 11 = .ok (.invokestatic 42, 3) := by decide +kernel
theorem dX10_certificateOf_14 : decode cX10_certificateOf 14 = .ok (.ifCond .ne 5, 3) := by decide +kernel
theorem dX10_certificateOf_17 : decode cX10_certificateOf 17 = .ok (.iconst (-1), 1) := by decide +kernel
theorem dX10_certificateOf_18 : decode cX10_certificateOf 18 = .ok (.ireturn, 1) := by decide +kernel
theorem dX10_certificateOf_19 : decode cX10_certificateOf 19 = .ok (.iload_n 2, 1) := by decide +kernel
theorem dX10_certificateOf_20 : decode cX10_certificateOf 20 = .ok (.ifCond .ne 14, 3) := by decide +kernel
theorem dX10_certificateOf_23 : decode cX10_certificateOf 23 = .ok (.aload_n 0, 1) := by decide +kernel
theorem dX10_certificateOf_24 : decode cX10_certificateOf 24 = .ok (.iload_n 1, 1) := by decide +kernel
theorem dX10_certificateOf_25 : decode cX10_certificateOf 25 = .ok (.iconst 0, 1) := by decide +kernel
theorem dX10_certificateOf_26 : decode cX10_certificateOf 26 = .ok (.invokevirtual 46, 3) := by decide +kernel
theorem dX10_certificateOf_29 : decode cX10_certificateOf 29 = .ok (.iconst 1, 1) := by decide +kernel
theorem dX10_certificateOf_30 : decode cX10_certificateOf 30 = .ok (.isub, 1) := by decide +kernel
theorem dX10_certificateOf_31 : decode cX10_certificateOf 31 = .ok (.goto 9, 3) := by decide +kernel
theorem dX10_certificateOf_34 : decode cX10_certificateOf 34 = .ok (.aload_n 0, 1) := by decide +kernel
theorem dX10_certificateOf_35 : decode cX10_certificateOf 35 = .ok (.iload_n 1, 1) := by decide +kernel
theorem dX10_certificateOf_36 : decode cX10_certificateOf 36 = .ok (.iload_n 2, 1) := by decide +kernel
theorem dX10_certificateOf_37 : decode cX10_certificateOf 37 = .ok (.invokevirtual 46, 3) := by decide +kernel
theorem dX10_certificateOf_40 : decode cX10_certificateOf 40 = .ok (.ireturn, 1) := by decide +kernel
set_option maxRecDepth 20000 in
theorem ggX10_grantOf_X10_isGrant : GoodIn wsX10_grantOf wsX10_isGrant := goodIn_r _ [5, 6, 7, 8, 4, 9, 26, 27, 28, 29, 30, 31, 32, 33, 34, 35, 36, 37, 38, 39, 40] (by decide +kernel) (by decide +kernel)
set_option maxRecDepth 20000 in
theorem gX10_grantOf_X10_isGrant : GoodIn wsX10_grantOf (wsV RX10 95 RX10 yX10_isGrant wsX10_isGrant) := goodIn_app (goodIn_of _ (by decide +kernel)) ggX10_grantOf_X10_isGrant
set_option maxRecDepth 20000 in
theorem ggX10_grantOf_X10_in : GoodIn wsX10_grantOf wsX10_in := goodIn_r _ [9] (by decide +kernel) (by decide +kernel)
set_option maxRecDepth 20000 in
theorem gX10_grantOf_X10_in : GoodIn wsX10_grantOf (va_wsS RX10 42 yX10_in wsX10_in) := goodIn_app (goodIn_of _ (by decide +kernel)) ggX10_grantOf_X10_in
set_option maxRecDepth 20000 in
theorem ggX10_grantOf_X10_ofGrant : GoodIn wsX10_grantOf wsX10_ofGrant := goodIn_r _ [13, 6, 26, 27, 28, 29, 30, 31, 32, 33, 34, 35, 36, 37, 38, 39, 40] (by decide +kernel) (by decide +kernel)
set_option maxRecDepth 20000 in
theorem gX10_grantOf_X10_ofGrant : GoodIn wsX10_grantOf (wsV RX10 56 RX10 yX10_ofGrant wsX10_ofGrant) := goodIn_app (goodIn_of _ (by decide +kernel)) ggX10_grantOf_X10_ofGrant
set_option maxRecDepth 20000 in
theorem ggX10_grantOf_X10_vested : GoodIn wsX10_grantOf wsX10_vested := goodIn_r _ [17, 6, 10, 11, 12, 4, 13, 18, 19, 20, 21, 26, 27, 28, 29, 30, 31, 32, 33, 34, 35, 36, 37, 38, 39, 40] (by decide +kernel) (by decide +kernel)
set_option maxRecDepth 20000 in
theorem gX10_grantOf_X10_vested : GoodIn wsX10_grantOf (wsV RX10 63 RX10 yX10_vested wsX10_vested) := goodIn_app (goodIn_of _ (by decide +kernel)) ggX10_grantOf_X10_vested
set_option maxRecDepth 20000 in
theorem ggX10_grantOf_X10_canBeTaken : GoodIn wsX10_grantOf wsX10_canBeTaken := goodIn_r _ [25, 6, 10, 11, 12, 4, 13, 18, 19, 20, 21, 14, 15, 16, 17, 26, 27, 28, 29, 30, 31, 32, 33, 34, 35, 36, 37, 38, 39, 40] (by decide +kernel) (by decide +kernel)
set_option maxRecDepth 20000 in
theorem gX10_grantOf_X10_canBeTaken : GoodIn wsX10_grantOf (wsV RX10 67 RX10 yX10_canBeTaken wsX10_canBeTaken) := goodIn_app (goodIn_of _ (by decide +kernel)) ggX10_grantOf_X10_canBeTaken
theorem dX10_grantOf_0 : decode cX10_grantOf 0 = .ok (.aload_n 0, 1) := by decide +kernel
theorem dX10_grantOf_1 : decode cX10_grantOf 1 = .ok (.iload_n 1, 1) := by decide +kernel
theorem dX10_grantOf_2 : decode cX10_grantOf 2 = .ok (.invokevirtual 95, 3) := by decide +kernel
theorem dX10_grantOf_5 : decode cX10_grantOf 5 = .ok (.ifCond .eq 13, 3) := by decide +kernel
theorem dX10_grantOf_8 : decode cX10_grantOf 8 = .ok (.iload_n 2, 1) := by decide +kernel
theorem dX10_grantOf_9 : decode cX10_grantOf 9 = .ok (.iconst 0, 1) := by decide +kernel
theorem dX10_grantOf_10 : decode cX10_grantOf 10 = .ok (.bipush 6, 2) := by decide +kernel
theorem dX10_grantOf_12 : decode cX10_grantOf 12 = .ok (.invokestatic 42, 3) := by decide +kernel
theorem dX10_grantOf_15 : decode cX10_grantOf 15 = .ok (.ifCond .ne 5, 3) := by decide +kernel
theorem dX10_grantOf_18 : decode cX10_grantOf 18 = .ok (.iconst (-1), 1) := by decide +kernel
theorem dX10_grantOf_19 : decode cX10_grantOf 19 = .ok (.ireturn, 1) := by decide +kernel
theorem dX10_grantOf_20 : decode cX10_grantOf 20 = .ok (.iload_n 2, 1) := by decide +kernel
theorem dX10_grantOf_21 : decode cX10_grantOf 21 = .ok (.tableswitch 65 0 5 #[39, 39, 39, 46, 52, 59], 39) := by decide +kernel
theorem dX10_grantOf_60 : decode cX10_grantOf 60 = .ok (.aload_n 0, 1) := by decide +kernel
theorem dX10_grantOf_61 : decode cX10_grantOf 61 = .ok (.iload_n 1, 1) := by decide +kernel
theorem dX10_grantOf_62 : decode cX10_grantOf 62 = .ok (.iload_n 2, 1) := by decide +kernel
theorem dX10_grantOf_63 : decode cX10_grantOf 63 = .ok (.invokevirtual 56, 3) := by decide +kernel
theorem dX10_grantOf_66 : decode cX10_grantOf 66 = .ok (.ireturn, 1) := by decide +kernel
theorem dX10_grantOf_67 : decode cX10_grantOf 67 = .ok (.aload_n 0, 1) := by decide +kernel
theorem dX10_grantOf_68 : decode cX10_grantOf 68 = .ok (.iload_n 1, 1) := by decide +kernel
theorem dX10_grantOf_69 : decode cX10_grantOf 69 = .ok (.invokevirtual 63, 3) := by decide +kernel
theorem dX10_grantOf_72 : decode cX10_grantOf 72 = .ok (.ireturn, 1) := by decide +kernel
theorem dX10_grantOf_73 : decode cX10_grantOf 73 = .ok (.aload_n 0, 1) := by decide +kernel
theorem dX10_grantOf_74 : decode cX10_grantOf 74 = .ok (.iload_n 1, 1) := by decide +kernel
theorem dX10_grantOf_75 : decode cX10_grantOf 75 = .ok (.iconst 5, 1) := by decide +kernel
theorem dX10_grantOf_76 : decode cX10_grantOf 76 = .ok (.invokevirtual 56, 3) := by decide +kernel
theorem dX10_grantOf_79 : decode cX10_grantOf 79 = .ok (.ireturn, 1) := by decide +kernel
theorem dX10_grantOf_80 : decode cX10_grantOf 80 = .ok (.aload_n 0, 1) := by decide +kernel
theorem dX10_grantOf_81 : decode cX10_grantOf 81 = .ok (.iload_n 1, 1) := by decide +kernel
theorem dX10_grantOf_82 : decode cX10_grantOf 82 = .ok (.invokevirtual 67, 3) := by decide +kernel
theorem dX10_grantOf_85 : decode cX10_grantOf 85 = .ok (.ireturn, 1) := by decide +kernel
theorem dX10_grantOf_86 : decode cX10_grantOf 86 = .ok (.aload_n 0, 1) := by decide +kernel
theorem dX10_grantOf_87 : decode cX10_grantOf 87 = .ok (.iload_n 1, 1) := by decide +kernel
theorem dX10_grantOf_88 : decode cX10_grantOf 88 = .ok (.bipush 6, 2) := by decide +kernel
theorem dX10_grantOf_90 : decode cX10_grantOf 90 = .ok (.invokevirtual 56, 3) := by decide +kernel
theorem dX10_grantOf_93 : decode cX10_grantOf 93 = .ok (.ireturn, 1) := by decide +kernel
set_option maxRecDepth 20000 in
theorem ggX10_certificatesOf_X10_ofCertificate : GoodIn wsX10_certificatesOf wsX10_ofCertificate := goodIn_r _ [5, 6, 7, 8, 9, 10, 11, 12, 13, 14, 15, 16, 17, 18, 19, 20, 21] (by decide +kernel) (by decide +kernel)
set_option maxRecDepth 20000 in
theorem gX10_certificatesOf_X10_ofCertificate : GoodIn wsX10_certificatesOf (wsV RX10 46 RX10 yX10_ofCertificate wsX10_ofCertificate) := goodIn_app (goodIn_of _ (by decide +kernel)) ggX10_certificatesOf_X10_ofCertificate
theorem dX10_certificatesOf_0 : decode cX10_certificatesOf 0 = .ok (.iconst 0, 1) := by decide +kernel
theorem dX10_certificatesOf_1 : decode cX10_certificatesOf 1 = .ok (.istore_n 2, 1) := by decide +kernel
theorem dX10_certificatesOf_2 : decode cX10_certificatesOf 2 = .ok (.iconst 0, 1) := by decide +kernel
theorem dX10_certificatesOf_3 : decode cX10_certificatesOf 3 = .ok (.istore_n 3, 1) := by decide +kernel
theorem dX10_certificatesOf_4 : decode cX10_certificatesOf 4 = .ok (.iload_n 3, 1) := by decide +kernel
theorem dX10_certificatesOf_5 : decode cX10_certificatesOf 5 = .ok (.bipush 24, 2) := by decide +kernel
theorem dX10_certificatesOf_7 : decode cX10_certificatesOf 7 = .ok (.if_icmp .ge 29, 3) := by decide +kernel
theorem dX10_certificatesOf_10 : decode cX10_certificatesOf 10 = .ok (.iload_n 2, 1) := by decide +kernel
theorem dX10_certificatesOf_11 : decode cX10_certificatesOf 11 = .ok (.aload_n 0, 1) := by decide +kernel
theorem dX10_certificatesOf_12 : decode cX10_certificatesOf 12 = .ok (.iload_n 3, 1) := by decide +kernel
theorem dX10_certificatesOf_13 : decode cX10_certificatesOf 13 = .ok (.iconst 0, 1) := by decide +kernel
theorem dX10_certificatesOf_14 : decode cX10_certificatesOf 14 = .ok (.invokevirtual 46, 3) := by decide +kernel
theorem dX10_certificatesOf_17 : decode cX10_certificatesOf 17 = .ok (.iload_n 1, 1) := by decide +kernel
theorem dX10_certificatesOf_18 : decode cX10_certificatesOf 18 = .ok (.iconst 1, 1) := by decide +kernel
theorem dX10_certificatesOf_19 : decode cX10_certificatesOf 19 = .ok (.iadd, 1) := by decide +kernel
theorem dX10_certificatesOf_20 : decode cX10_certificatesOf 20 = .ok (.if_icmp .ne 7, 3) := by decide +kernel
theorem dX10_certificatesOf_23 : decode cX10_certificatesOf 23 = .ok (.iconst 1, 1) := by decide +kernel
theorem dX10_certificatesOf_24 : decode cX10_certificatesOf 24 = .ok (.goto 4, 3) := by decide +kernel
theorem dX10_certificatesOf_27 : decode cX10_certificatesOf 27 = .ok (.iconst 0, 1) := by decide +kernel
theorem dX10_certificatesOf_28 : decode cX10_certificatesOf 28 = .ok (.iadd, 1) := by decide +kernel
theorem dX10_certificatesOf_29 : decode cX10_certificatesOf 29 = .ok (.istore_n 2, 1) := by decide +kernel
theorem dX10_certificatesOf_30 : decode cX10_certificatesOf 30 = .ok (.iinc 3 1, 3) := by decide +kernel
theorem dX10_certificatesOf_33 : decode cX10_certificatesOf 33 = .ok (.goto (-29), 3) := by decide +kernel
theorem dX10_certificatesOf_36 : decode cX10_certificatesOf 36 = .ok (.iload_n 2, 1) := by decide +kernel
theorem dX10_certificatesOf_37 : decode cX10_certificatesOf 37 = .ok (.ireturn, 1) := by decide +kernel
set_option maxRecDepth 20000 in
theorem ggX10_holderOf_X10_isHolder : GoodIn wsX10_holderOf wsX10_isHolder := goodIn_r _ [7, 1, 8, 9, 6, 10, 51, 52, 53, 54, 55, 56, 57, 58, 59, 60, 61, 62, 63, 64, 65] (by decide +kernel) (by decide +kernel)
set_option maxRecDepth 20000 in
theorem gX10_holderOf_X10_isHolder : GoodIn wsX10_holderOf (wsV RX10 70 RX10 yX10_isHolder wsX10_isHolder) := goodIn_app (goodIn_of _ (by decide +kernel)) ggX10_holderOf_X10_isHolder
set_option maxRecDepth 20000 in
theorem ggX10_holderOf_X10_in : GoodIn wsX10_holderOf wsX10_in := goodIn_r _ [10] (by decide +kernel) (by decide +kernel)
set_option maxRecDepth 20000 in
theorem gX10_holderOf_X10_in : GoodIn wsX10_holderOf (va_wsS RX10 42 yX10_in wsX10_in) := goodIn_app (goodIn_of _ (by decide +kernel)) ggX10_holderOf_X10_in
set_option maxRecDepth 20000 in
theorem ggX10_holderOf_X10_commonOf : GoodIn wsX10_holderOf wsX10_commonOf := goodIn_r _ [14, 1, 15, 16, 17, 6, 18, 19, 20, 21, 22, 23, 24, 25, 26, 51, 52, 53, 54, 55, 56, 57, 58, 59, 60, 61, 62, 63, 64, 65] (by decide +kernel) (by decide +kernel)
set_option maxRecDepth 20000 in
theorem gX10_holderOf_X10_commonOf : GoodIn wsX10_holderOf (wsV RX10 101 RX10 yX10_commonOf wsX10_commonOf) := goodIn_app (goodIn_of _ (by decide +kernel)) ggX10_holderOf_X10_commonOf
set_option maxRecDepth 20000 in
theorem ggX10_holderOf_X10_hasLeft : GoodIn wsX10_holderOf wsX10_hasLeft := goodIn_r _ [30, 1, 51, 52, 53, 54, 55, 56, 57, 58, 59, 60, 61, 62, 63, 64, 65] (by decide +kernel) (by decide +kernel)
set_option maxRecDepth 20000 in
theorem gX10_holderOf_X10_hasLeft : GoodIn wsX10_holderOf (wsV RX10 59 RX10 yX10_hasLeft wsX10_hasLeft) := goodIn_app (goodIn_of _ (by decide +kernel)) ggX10_holderOf_X10_hasLeft
set_option maxRecDepth 20000 in
theorem ggX10_holderOf_X10_certificatesOf : GoodIn wsX10_holderOf wsX10_certificatesOf := goodIn_r _ [34, 19, 20, 21, 6, 22, 1, 51, 52, 53, 54, 55, 56, 57, 58, 59, 60, 61, 62, 63, 64, 65] (by decide +kernel) (by decide +kernel)
set_option maxRecDepth 20000 in
theorem gX10_holderOf_X10_certificatesOf : GoodIn wsX10_holderOf (wsV RX10 150 RX10 yX10_certificatesOf wsX10_certificatesOf) := goodIn_app (goodIn_of _ (by decide +kernel)) ggX10_holderOf_X10_certificatesOf
set_option maxRecDepth 20000 in
theorem ggX10_holderOf_X10_allToTake : GoodIn wsX10_holderOf wsX10_allToTake := goodIn_r _ [38, 1, 39, 40, 41, 6, 42, 43, 44, 45, 46, 27, 28, 29, 30, 47, 48, 49, 50, 51, 52, 53, 54, 55, 56, 57, 58, 59, 60, 61, 62, 63, 64, 65] (by decide +kernel) (by decide +kernel)
set_option maxRecDepth 20000 in
theorem gX10_holderOf_X10_allToTake : GoodIn wsX10_holderOf (wsV RX10 98 RX10 yX10_allToTake wsX10_allToTake) := goodIn_app (goodIn_of _ (by decide +kernel)) ggX10_holderOf_X10_allToTake
set_option maxRecDepth 20000 in
theorem ggX10_holderOf_X10_sharesOf : GoodIn wsX10_holderOf wsX10_sharesOf := goodIn_r _ [18, 19, 20, 21, 6, 22, 1, 51, 52, 53, 54, 55, 56, 57, 58, 59, 60, 61, 62, 63, 64, 65] (by decide +kernel) (by decide +kernel)
set_option maxRecDepth 20000 in
theorem gX10_holderOf_X10_sharesOf : GoodIn wsX10_holderOf (wsV RX10 50 RX10 yX10_sharesOf wsX10_sharesOf) := goodIn_app (goodIn_of _ (by decide +kernel)) ggX10_holderOf_X10_sharesOf
theorem dX10_holderOf_0 : decode cX10_holderOf 0 = .ok (.aload_n 0, 1) := by decide +kernel
theorem dX10_holderOf_1 : decode cX10_holderOf 1 = .ok (.iload_n 1, 1) := by decide +kernel
theorem dX10_holderOf_2 : decode cX10_holderOf 2 = .ok (.invokevirtual 70, 3) := by decide +kernel
theorem dX10_holderOf_5 : decode cX10_holderOf 5 = .ok (.ifCond .eq 13, 3) := by decide +kernel
theorem dX10_holderOf_8 : decode cX10_holderOf 8 = .ok (.iload_n 2, 1) := by decide +kernel
theorem dX10_holderOf_9 : decode cX10_holderOf 9 = .ok (.iconst 0, 1) := by decide +kernel
theorem dX10_holderOf_10 : decode cX10_holderOf 10 = .ok (.bipush 9, 2) := by decide +kernel
theorem dX10_holderOf_12 : decode cX10_holderOf 12 = .ok (.invokestatic 42, 3) := by decide +kernel
theorem dX10_holderOf_15 : decode cX10_holderOf 15 = .ok (.ifCond .ne 5, 3) := by decide +kernel
theorem dX10_holderOf_18 : decode cX10_holderOf 18 = .ok (.iconst (-1), 1) := by decide +kernel
theorem dX10_holderOf_19 : decode cX10_holderOf 19 = .ok (.ireturn, 1) := by decide +kernel
theorem dX10_holderOf_20 : decode cX10_holderOf 20 = .ok (.iload_n 2, 1) := by decide +kernel
theorem dX10_holderOf_21 : decode cX10_holderOf 21 = .ok (.tableswitch 110 5 9 #[35, 41, 66, 72, 78], 35) := by decide +kernel
theorem dX10_holderOf_56 : decode cX10_holderOf 56 = .ok (.aload_n 0, 1) := by decide +kernel
theorem dX10_holderOf_57 : decode cX10_holderOf 57 = .ok (.iload_n 1, 1) := by decide +kernel
theorem dX10_holderOf_58 : decode cX10_holderOf 58 = .ok (.invokevirtual 101, 3) := by decide +kernel
theorem dX10_holderOf_61 : decode cX10_holderOf 61 = .ok (.ireturn, 1) := by decide +kernel
theorem dX10_holderOf_62 : decode cX10_holderOf 62 = .ok (.aload_n 0, 1) := by decide +kernel
theorem dX10_holderOf_63 : decode cX10_holderOf 63 = .ok (.iload_n 1, 1) := by decide +kernel
theorem dX10_holderOf_64 : decode cX10_holderOf 64 = .ok (.invokevirtual 59, 3) := by decide +kernel
theorem dX10_holderOf_67 : decode cX10_holderOf 67 = .ok (.ifCond .eq 17, 3) := by decide +kernel
theorem dX10_holderOf_70 : decode cX10_holderOf 70 = .ok (.aload_n 0, 1) := by decide +kernel
theorem dX10_holderOf_71 : decode cX10_holderOf 71 = .ok (.getfield 7, 3) := by decide +kernel
theorem dX10_holderOf_74 : decode cX10_holderOf 74 = .ok (.bipush 53, 2) := by decide +kernel
theorem dX10_holderOf_76 : decode cX10_holderOf 76 = .ok (.iload_n 1, 1) := by decide +kernel
theorem dX10_holderOf_77 : decode cX10_holderOf 77 = .ok (.iadd, 1) := by decide +kernel
theorem dX10_holderOf_78 : decode cX10_holderOf 78 = .ok (.iaload, 1) := by decide +kernel
theorem dX10_holderOf_79 : decode cX10_holderOf 79 = .ok (.iconst 1, 1) := by decide +kernel
theorem dX10_holderOf_80 : decode cX10_holderOf 80 = .ok (.isub, 1) := by decide +kernel
theorem dX10_holderOf_81 : decode cX10_holderOf 81 = .ok (.goto 5, 3) := by decide +kernel
theorem dX10_holderOf_84 : decode cX10_holderOf 84 = .ok (.bipush (-4), 2) := by decide +kernel
theorem dX10_holderOf_86 : decode cX10_holderOf 86 = .ok (.ireturn, 1) := by decide +kernel
theorem dX10_holderOf_87 : decode cX10_holderOf 87 = .ok (.aload_n 0, 1) := by decide +kernel
theorem dX10_holderOf_88 : decode cX10_holderOf 88 = .ok (.iload_n 1, 1) := by decide +kernel
theorem dX10_holderOf_89 : decode cX10_holderOf 89 = .ok (.invokevirtual 150, 3) := by decide +kernel
theorem dX10_holderOf_92 : decode cX10_holderOf 92 = .ok (.ireturn, 1) := by decide +kernel
theorem dX10_holderOf_93 : decode cX10_holderOf 93 = .ok (.aload_n 0, 1) := by decide +kernel
theorem dX10_holderOf_94 : decode cX10_holderOf 94 = .ok (.iload_n 1, 1) := by decide +kernel
theorem dX10_holderOf_95 : decode cX10_holderOf 95 = .ok (.invokevirtual 98, 3) := by decide +kernel
theorem dX10_holderOf_98 : decode cX10_holderOf 98 = .ok (.ireturn, 1) := by decide +kernel
theorem dX10_holderOf_99 : decode cX10_holderOf 99 = .ok (.aload_n 0, 1) := by decide +kernel
theorem dX10_holderOf_100 : decode cX10_holderOf 100 = .ok (.iconst (-1), 1) := by decide +kernel
theorem dX10_holderOf_101 : decode cX10_holderOf 101 = .ok (.invokevirtual 101, 3) := by decide +kernel
theorem dX10_holderOf_104 : decode cX10_holderOf 104 = .ok (.ifCond .ne 8, 3) := by decide +kernel
theorem dX10_holderOf_107 : decode cX10_holderOf 107 = .ok (.bipush (-4), 2) := by decide +kernel
theorem dX10_holderOf_109 : decode cX10_holderOf 109 = .ok (.goto 21, 3) := by decide +kernel
theorem dX10_holderOf_112 : decode cX10_holderOf 112 = .ok (.ldc2_w 153, 3) := by decide +kernel
theorem dX10_holderOf_115 : decode cX10_holderOf 115 = .ok (.aload_n 0, 1) := by decide +kernel
theorem dX10_holderOf_116 : decode cX10_holderOf 116 = .ok (.iload_n 1, 1) := by decide +kernel
theorem dX10_holderOf_117 : decode cX10_holderOf 117 = .ok (.invokevirtual 101, 3) := by decide +kernel
theorem dX10_holderOf_120 : decode cX10_holderOf 120 = .ok (.i2l, 1) := by decide +kernel
theorem dX10_holderOf_121 : decode cX10_holderOf 121 = .ok (.lmul, 1) := by decide +kernel
theorem dX10_holderOf_122 : decode cX10_holderOf 122 = .ok (.aload_n 0, 1) := by decide +kernel
theorem dX10_holderOf_123 : decode cX10_holderOf 123 = .ok (.iconst (-1), 1) := by decide +kernel
theorem dX10_holderOf_124 : decode cX10_holderOf 124 = .ok (.invokevirtual 101, 3) := by decide +kernel
theorem dX10_holderOf_127 : decode cX10_holderOf 127 = .ok (.i2l, 1) := by decide +kernel
theorem dX10_holderOf_128 : decode cX10_holderOf 128 = .ok (.ldiv, 1) := by decide +kernel
theorem dX10_holderOf_129 : decode cX10_holderOf 129 = .ok (.l2i, 1) := by decide +kernel
theorem dX10_holderOf_130 : decode cX10_holderOf 130 = .ok (.ireturn, 1) := by decide +kernel
theorem dX10_holderOf_131 : decode cX10_holderOf 131 = .ok (.aload_n 0, 1) := by decide +kernel
theorem dX10_holderOf_132 : decode cX10_holderOf 132 = .ok (.iload_n 1, 1) := by decide +kernel
theorem dX10_holderOf_133 : decode cX10_holderOf 133 = .ok (.iload_n 2, 1) := by decide +kernel
theorem dX10_holderOf_134 : decode cX10_holderOf 134 = .ok (.invokevirtual 50, 3) := by decide +kernel
theorem dX10_holderOf_137 : decode cX10_holderOf 137 = .ok (.ireturn, 1) := by decide +kernel
set_option maxRecDepth 20000 in
theorem ggX10_count_X10_certificates : GoodIn wsX10_count wsX10_certificates := goodIn_r _ [8, 9, 10, 11, 7, 12, 1, 25, 26, 27, 28, 29, 30, 31, 32, 33, 34, 35, 36, 37, 38, 39] (by decide +kernel) (by decide +kernel)
set_option maxRecDepth 20000 in
theorem gX10_count_X10_certificates : GoodIn wsX10_count (wsV RX10 80 RX10 yX10_certificates wsX10_certificates) := goodIn_app (goodIn_of _ (by decide +kernel)) ggX10_count_X10_certificates
set_option maxRecDepth 20000 in
theorem ggX10_count_X10_commonOf : GoodIn wsX10_count wsX10_commonOf := goodIn_r _ [16, 1, 17, 18, 19, 7, 20, 9, 10, 11, 12, 21, 22, 23, 24, 25, 26, 27, 28, 29, 30, 31, 32, 33, 34, 35, 36, 37, 38, 39] (by decide +kernel) (by decide +kernel)
set_option maxRecDepth 20000 in
theorem gX10_count_X10_commonOf : GoodIn wsX10_count (wsV RX10 101 RX10 yX10_commonOf wsX10_commonOf) := goodIn_app (goodIn_of _ (by decide +kernel)) ggX10_count_X10_commonOf
theorem dX10_count_0 : decode cX10_count 0 = .ok (.iload_n 1, 1) := by decide +kernel
theorem dX10_count_1 : decode cX10_count 1 = .ok (.tableswitch 129 0 12 #[67, 67, 74, 79, 86, 93, 99, 107, 107, 107, 107, 119, 124], 67) := by decide +kernel
theorem dX10_count_68 : decode cX10_count 68 = .ok (.aload_n 0, 1) := by decide +kernel
theorem dX10_count_69 : decode cX10_count 69 = .ok (.getfield 7, 3) := by decide +kernel
theorem dX10_count_72 : decode cX10_count 72 = .ok (.iload_n 1, 1) := by decide +kernel
theorem dX10_count_73 : decode cX10_count 73 = .ok (.iaload, 1) := by decide +kernel
theorem dX10_count_74 : decode cX10_count 74 = .ok (.ireturn, 1) := by decide +kernel
theorem dX10_count_75 : decode cX10_count 75 = .ok (.aload_n 0, 1) := by decide +kernel
theorem dX10_count_76 : decode cX10_count 76 = .ok (.invokevirtual 80, 3) := by decide +kernel
theorem dX10_count_79 : decode cX10_count 79 = .ok (.ireturn, 1) := by decide +kernel
theorem dX10_count_80 : decode cX10_count 80 = .ok (.aload_n 0, 1) := by decide +kernel
theorem dX10_count_81 : decode cX10_count 81 = .ok (.getfield 7, 3) := by decide +kernel
theorem dX10_count_84 : decode cX10_count 84 = .ok (.iconst 2, 1) := by decide +kernel
theorem dX10_count_85 : decode cX10_count 85 = .ok (.iaload, 1) := by decide +kernel
theorem dX10_count_86 : decode cX10_count 86 = .ok (.ireturn, 1) := by decide +kernel
theorem dX10_count_87 : decode cX10_count 87 = .ok (.aload_n 0, 1) := by decide +kernel
theorem dX10_count_88 : decode cX10_count 88 = .ok (.getfield 7, 3) := by decide +kernel
theorem dX10_count_91 : decode cX10_count 91 = .ok (.iconst 3, 1) := by decide +kernel
theorem dX10_count_92 : decode cX10_count 92 = .ok (.iaload, 1) := by decide +kernel
theorem dX10_count_93 : decode cX10_count 93 = .ok (.ireturn, 1) := by decide +kernel
theorem dX10_count_94 : decode cX10_count 94 = .ok (.aload_n 0, 1) := by decide +kernel
theorem dX10_count_95 : decode cX10_count 95 = .ok (.iconst (-1), 1) := by decide +kernel
theorem dX10_count_96 : decode cX10_count 96 = .ok (.invokevirtual 101, 3) := by decide +kernel
theorem dX10_count_99 : decode cX10_count 99 = .ok (.ireturn, 1) := by decide +kernel
theorem dX10_count_100 : decode cX10_count 100 = .ok (.aload_n 0, 1) := by decide +kernel
theorem dX10_count_101 : decode cX10_count 101 = .ok (.getfield 7, 3) := by decide +kernel
theorem dX10_count_104 : decode cX10_count 104 = .ok (.bipush 8, 2) := by decide +kernel
theorem dX10_count_106 : decode cX10_count 106 = .ok (.iaload, 1) := by decide +kernel
theorem dX10_count_107 : decode cX10_count 107 = .ok (.ireturn, 1) := by decide +kernel
theorem dX10_count_108 : decode cX10_count 108 = .ok (.aload_n 0, 1) := by decide +kernel
theorem dX10_count_109 : decode cX10_count 109 = .ok (.getfield 7, 3) := by decide +kernel
theorem dX10_count_112 : decode cX10_count 112 = .ok (.iconst 4, 1) := by decide +kernel
theorem dX10_count_113 : decode cX10_count 113 = .ok (.iload_n 1, 1) := by decide +kernel
theorem dX10_count_114 : decode cX10_count 114 = .ok (.iadd, 1) := by decide +kernel
theorem dX10_count_115 : decode cX10_count 115 = .ok (.bipush 7, 2) := by decide +kernel
theorem dX10_count_117 : decode cX10_count 117 = .ok (.isub, 1) := by decide +kernel
theorem dX10_count_118 : decode cX10_count 118 = .ok (.iaload, 1) := by decide +kernel
theorem dX10_count_119 : decode cX10_count 119 = .ok (.ireturn, 1) := by decide +kernel
theorem dX10_count_120 : decode cX10_count 120 = .ok (.aload_n 0, 1) := by decide +kernel
theorem dX10_count_121 : decode cX10_count 121 = .ok (.getfield 38, 3) := by decide +kernel
theorem dX10_count_124 : decode cX10_count 124 = .ok (.ireturn, 1) := by decide +kernel
theorem dX10_count_125 : decode cX10_count 125 = .ok (.aload_n 0, 1) := by decide +kernel
theorem dX10_count_126 : decode cX10_count 126 = .ok (.getfield 155, 3) := by decide +kernel
theorem dX10_count_129 : decode cX10_count 129 = .ok (.ireturn, 1) := by decide +kernel
theorem dX10_count_130 : decode cX10_count 130 = .ok (.iconst (-1), 1) := by decide +kernel
theorem dX10_count_131 : decode cX10_count 131 = .ok (.ireturn, 1) := by decide +kernel
set_option maxRecDepth 20000 in
theorem ggX10_layClasses_X10_preference : GoodIn wsX10_layClasses wsX10_preference := goodIn_r _ [8, 9, 10, 11, 7, 12, 13, 14, 15, 16, 1, 17, 18, 19, 20, 21, 22, 23, 24, 25, 26, 27, 28, 29, 30, 31, 32, 33, 34, 35] (by decide +kernel) (by decide +kernel)
set_option maxRecDepth 20000 in
theorem gX10_layClasses_X10_preference : GoodIn wsX10_layClasses (wsV RX10 147 RX10 yX10_preference wsX10_preference) := goodIn_app (goodIn_of _ (by decide +kernel)) ggX10_layClasses_X10_preference
set_option maxRecDepth 20000 in
theorem ggX10_layClasses_X10_sharesOf : GoodIn wsX10_layClasses wsX10_sharesOf := goodIn_r _ [12, 13, 14, 15, 7, 16, 1, 21, 22, 23, 24, 25, 26, 27, 28, 29, 30, 31, 32, 33, 34, 35] (by decide +kernel) (by decide +kernel)
set_option maxRecDepth 20000 in
theorem gX10_layClasses_X10_sharesOf : GoodIn wsX10_layClasses (wsV RX10 50 RX10 yX10_sharesOf wsX10_sharesOf) := goodIn_app (goodIn_of _ (by decide +kernel)) ggX10_layClasses_X10_sharesOf
set_option maxRecDepth 20000 in
theorem ggX10_layClasses_X10_ofClass : GoodIn wsX10_layClasses wsX10_ofClass := goodIn_r _ [20, 1, 21, 22, 23, 24, 25, 26, 27, 28, 29, 30, 31, 32, 33, 34, 35] (by decide +kernel) (by decide +kernel)
set_option maxRecDepth 20000 in
theorem gX10_layClasses_X10_ofClass : GoodIn wsX10_layClasses (wsV RX10 53 RX10 yX10_ofClass wsX10_ofClass) := goodIn_app (goodIn_of _ (by decide +kernel)) ggX10_layClasses_X10_ofClass
theorem dX10_layClasses_0 : decode cX10_layClasses 0 = .ok (.iconst 0, 1) := by decide +kernel
theorem dX10_layClasses_1 : decode cX10_layClasses 1 = .ok (.istore_n 1, 1) := by decide +kernel
theorem dX10_layClasses_2 : decode cX10_layClasses 2 = .ok (.iload_n 1, 1) := by decide +kernel
theorem dX10_layClasses_3 : decode cX10_layClasses 3 = .ok (.aload_n 0, 1) := by decide +kernel
theorem dX10_layClasses_4 : decode cX10_layClasses 4 = .ok (.getfield 7, 3) := by decide +kernel
theorem dX10_layClasses_7 : decode cX10_layClasses 7 = .ok (.iconst 0, 1) := by decide +kernel
theorem dX10_layClasses_8 : decode cX10_layClasses 8 = .ok (.iaload, 1) := by decide +kernel
theorem dX10_layClasses_9 : decode cX10_layClasses 9 = .ok (.if_icmp .ge 42, 3) := by decide +kernel
theorem dX10_layClasses_12 : decode cX10_layClasses 12 = .ok (.aload_n 0, 1) := by decide +kernel
theorem dX10_layClasses_13 : decode cX10_layClasses 13 = .ok (.getfield 29, 3) := by decide +kernel
theorem dX10_layClasses_16 : decode cX10_layClasses 16 = .ok (.iload_n 1, 1) := by decide +kernel
theorem dX10_layClasses_17 : decode cX10_layClasses 17 = .ok (.aload_n 0, 1) := by decide +kernel
theorem dX10_layClasses_18 : decode cX10_layClasses 18 = .ok (.iload_n 1, 1) := by decide +kernel
theorem dX10_layClasses_19 : decode cX10_layClasses 19 = .ok (.invokevirtual 147, 3) := by decide +kernel
theorem dX10_layClasses_22 : decode cX10_layClasses 22 = .ok (.i2l, 1) := by decide +kernel
theorem dX10_layClasses_23 : decode cX10_layClasses 23 = .ok (.lastore, 1) := by decide +kernel
theorem dX10_layClasses_24 : decode cX10_layClasses 24 = .ok (.aload_n 0, 1) := by decide +kernel
theorem dX10_layClasses_25 : decode cX10_layClasses 25 = .ok (.getfield 32, 3) := by decide +kernel
theorem dX10_layClasses_28 : decode cX10_layClasses 28 = .ok (.iload_n 1, 1) := by decide +kernel
theorem dX10_layClasses_29 : decode cX10_layClasses 29 = .ok (.aload_n 0, 1) := by decide +kernel
theorem dX10_layClasses_30 : decode cX10_layClasses 30 = .ok (.iconst (-1), 1) := by decide +kernel
theorem dX10_layClasses_31 : decode cX10_layClasses 31 = .ok (.iload_n 1, 1) := by decide +kernel
theorem dX10_layClasses_32 : decode cX10_layClasses 32 = .ok (.invokevirtual 50, 3) := by decide +kernel
theorem dX10_layClasses_35 : decode cX10_layClasses 35 = .ok (.i2l, 1) := by decide +kernel
theorem dX10_layClasses_36 : decode cX10_layClasses 36 = .ok (.aload_n 0, 1) := by decide +kernel
theorem dX10_layClasses_37 : decode cX10_layClasses 37 = .ok (.iload_n 1, 1) := by decide +kernel
theorem dX10_layClasses_38 : decode cX10_layClasses 38 = .ok (.iconst 4, 1) := by decide +kernel
theorem dX10_layClasses_39 : decode cX10_layClasses 39 = .ok (.invokevirtual 53, 3) := by decide +kernel
theorem dX10_layClasses_42 : decode cX10_layClasses 42 = .ok (.i2l, 1) := by decide +kernel
theorem dX10_layClasses_43 : decode cX10_layClasses 43 = .ok (.lmul, 1) := by decide +kernel
theorem dX10_layClasses_44 : decode cX10_layClasses 44 = .ok (.lastore, 1) := by decide +kernel
theorem dX10_layClasses_45 : decode cX10_layClasses 45 = .ok (.iinc 1 1, 3) := by decide +kernel
theorem dX10_layClasses_48 : decode cX10_layClasses 48 = .ok (.goto (-46), 3) := by decide +kernel
theorem dX10_layClasses_51 : decode cX10_layClasses 51 = .ok (.return_, 1) := by decide +kernel
theorem dX10_has_0 : decode cX10_has 0 = .ok (.iload_n 0, 1) := by decide +kernel
theorem dX10_has_1 : decode cX10_has 1 = .ok (.iload_n 1, 1) := by decide +kernel
theorem dX10_has_2 : decode cX10_has 2 = .ok (.ishr, 1) := by decide +kernel
theorem dX10_has_3 : decode cX10_has 3 = .ok (.iconst 1, 1) := by decide +kernel
theorem dX10_has_4 : decode cX10_has 4 = .ok (.iand, 1) := by decide +kernel
theorem dX10_has_5 : decode cX10_has 5 = .ok (.iconst 1, 1) := by decide +kernel
theorem dX10_has_6 : decode cX10_has 6 = .ok (.if_icmp .ne 7, 3) := by decide +kernel
theorem dX10_has_9 : decode cX10_has 9 = .ok (.iconst 1, 1) := by decide +kernel
theorem dX10_has_10 : decode cX10_has 10 = .ok (.goto 4, 3) := by decide +kernel
theorem dX10_has_13 : decode cX10_has 13 = .ok (.iconst 0, 1) := by decide +kernel
theorem dX10_has_14 : decode cX10_has 14 = .ok (.ireturn, 1) := by decide +kernel
set_option maxRecDepth 20000 in
theorem ggX10_claimsAt_X10_has : GoodIn wsX10_claimsAt wsX10_has := goodIn_r _ [4] (by decide +kernel) (by decide +kernel)
set_option maxRecDepth 20000 in
theorem gX10_claimsAt_X10_has : GoodIn wsX10_claimsAt (va_wsS RX10 158 yX10_has wsX10_has) := goodIn_app (goodIn_of _ (by decide +kernel)) ggX10_claimsAt_X10_has
set_option maxRecDepth 20000 in
theorem ggX10_claimsAt_X10_ofClass : GoodIn wsX10_claimsAt wsX10_ofClass := goodIn_r _ [8, 9, 10, 11, 12, 13, 14, 15, 16, 17, 18, 19, 20, 21, 22, 23, 24] (by decide +kernel) (by decide +kernel)
set_option maxRecDepth 20000 in
theorem gX10_claimsAt_X10_ofClass : GoodIn wsX10_claimsAt (wsV RX10 53 RX10 yX10_ofClass wsX10_ofClass) := goodIn_app (goodIn_of _ (by decide +kernel)) ggX10_claimsAt_X10_ofClass
theorem dX10_claimsAt_0 : decode cX10_claimsAt 0 = .ok (.iload_n 1, 1) := by decide +kernel
theorem dX10_claimsAt_1 : decode cX10_claimsAt 1 = .ok (.ifCond .le 25, 3) := by decide +kernel
theorem dX10_claimsAt_4 : decode cX10_claimsAt 4 = .ok (.iload_n 3, 1) := by decide +kernel
theorem dX10_claimsAt_5 : decode cX10_claimsAt 5 = .ok (.iload_n 1, 1) := by decide +kernel
theorem dX10_claimsAt_6 : decode cX10_claimsAt 6 = .ok (.invokestatic 158, 3) := by decide +kernel
theorem dX10_claimsAt_9 : decode cX10_claimsAt 9 = .ok (.ifCond .ne 17, 3) := by decide +kernel
theorem dX10_claimsAt_12 : decode cX10_claimsAt 12 = .ok (.aload_n 0, 1) := by decide +kernel
theorem dX10_claimsAt_13 : decode cX10_claimsAt 13 = .ok (.iload_n 1, 1) := by decide +kernel
theorem dX10_claimsAt_14 : decode cX10_claimsAt 14 = .ok (.iconst 2, 1) := by decide +kernel
theorem dX10_claimsAt_15 : decode cX10_claimsAt 15 = .ok (.invokevirtual 53, 3) := by decide +kernel
theorem dX10_claimsAt_18 : decode cX10_claimsAt 18 = .ok (.iload_n 2, 1) := by decide +kernel
theorem dX10_claimsAt_19 : decode cX10_claimsAt 19 = .ok (.if_icmp .ne 7, 3) := by decide +kernel
theorem dX10_claimsAt_22 : decode cX10_claimsAt 22 = .ok (.iconst 1, 1) := by decide +kernel
theorem dX10_claimsAt_23 : decode cX10_claimsAt 23 = .ok (.goto 4, 3) := by decide +kernel
theorem dX10_claimsAt_26 : decode cX10_claimsAt 26 = .ok (.iconst 0, 1) := by decide +kernel
theorem dX10_claimsAt_27 : decode cX10_claimsAt 27 = .ok (.ireturn, 1) := by decide +kernel
set_option maxRecDepth 20000 in
theorem ggX10_paysClaims_X10_claimsAt : GoodIn wsX10_paysClaims wsX10_claimsAt := goodIn_r _ [9, 10, 11, 8, 12, 13, 14, 15, 16, 1, 17, 18, 19, 20, 21, 22, 23, 24, 25, 26, 27, 28, 29, 30, 31] (by decide +kernel) (by decide +kernel)
set_option maxRecDepth 20000 in
theorem gX10_paysClaims_X10_claimsAt : GoodIn wsX10_paysClaims (wsV RX10 162 RX10 yX10_claimsAt wsX10_claimsAt) := goodIn_app (goodIn_of _ (by decide +kernel)) ggX10_paysClaims_X10_claimsAt
theorem dX10_paysClaims_0 : decode cX10_paysClaims 0 = .ok (.lload_n 1, 1) := by decide +kernel
theorem dX10_paysClaims_1 : decode cX10_paysClaims 1 = .ok (.lstore 4, 2) := by decide +kernel
theorem dX10_paysClaims_3 : decode cX10_paysClaims 3 = .ok (.bipush 9, 2) := by decide +kernel
theorem dX10_paysClaims_5 : decode cX10_paysClaims 5 = .ok (.istore 6, 2) := by decide +kernel
theorem dX10_paysClaims_7 : decode cX10_paysClaims 7 = .ok (.iload 6, 2) := by decide +kernel
theorem dX10_paysClaims_9 : decode cX10_paysClaims 9 = .ok (.ifCond .lt 156, 3) := by decide +kernel
theorem dX10_paysClaims_12 : decode cX10_paysClaims 12 = .ok (.lconst 0, 1) := by decide +kernel
theorem dX10_paysClaims_13 : decode cX10_paysClaims 13 = .ok (.lstore 7, 2) := by decide +kernel
theorem dX10_paysClaims_15 : decode cX10_paysClaims 15 = .ok (.iconst 1, 1) := by decide +kernel
theorem dX10_paysClaims_16 : decode cX10_paysClaims 16 = .ok (.istore 9, 2) := by decide +kernel
theorem dX10_paysClaims_18 : decode cX10_paysClaims 18 = .ok (.iload 9, 2) := by decide +kernel
theorem dX10_paysClaims_20 : decode cX10_paysClaims 20 = .ok (.aload_n 0, 1) := by decide +kernel
theorem dX10_paysClaims_21 : decode cX10_paysClaims 21 = .ok (.getfield 7, 3) := by decide +kernel
theorem dX10_paysClaims_24 : decode cX10_paysClaims 24 = .ok (.iconst 0, 1) := by decide +kernel
theorem dX10_paysClaims_25 : decode cX10_paysClaims 25 = .ok (.iaload, 1) := by decide +kernel
theorem dX10_paysClaims_26 : decode cX10_paysClaims 26 = .ok (.if_icmp .ge 37, 3) := by decide +kernel
theorem dX10_paysClaims_29 : decode cX10_paysClaims 29 = .ok (.lload 7, 2) := by decide +kernel
theorem dX10_paysClaims_31 : decode cX10_paysClaims 31 = .ok (.aload_n 0, 1) := by decide +kernel
theorem dX10_paysClaims_32 : decode cX10_paysClaims 32 = .ok (.iload 9, 2) := by decide +kernel
theorem dX10_paysClaims_34 : decode cX10_paysClaims 34 = .ok (.iload 6, 2) := by decide +kernel
theorem dX10_paysClaims_36 : decode cX10_paysClaims 36 = .ok (.iload_n 3, 1) := by decide +kernel
theorem dX10_paysClaims_37 : decode cX10_paysClaims 37 = .ok (.invokevirtual 162, 3) := by decide +kernel
theorem dX10_paysClaims_40 : decode cX10_paysClaims 40 = .ok (.ifCond .eq 13, 3) := by decide +kernel
theorem dX10_paysClaims_43 : decode cX10_paysClaims 43 = .ok (.aload_n 0, 1) := by decide +kernel
theorem dX10_paysClaims_44 : decode cX10_paysClaims 44 = .ok (.getfield 29, 3) := by decide +kernel
theorem dX10_paysClaims_47 : decode cX10_paysClaims 47 = .ok (.iload 9, 2) := by decide +kernel
theorem dX10_paysClaims_49 : decode cX10_paysClaims 49 = .ok (.laload, 1) := by decide +kernel
theorem dX10_paysClaims_50 : decode cX10_paysClaims 50 = .ok (.goto 4, 3) := by decide +kernel
theorem dX10_paysClaims_53 : decode cX10_paysClaims 53 = .ok (.lconst 0, 1) := by decide +kernel
theorem dX10_paysClaims_54 : decode cX10_paysClaims 54 = .ok (.ladd, 1) := by decide +kernel
theorem dX10_paysClaims_55 : decode cX10_paysClaims 55 = .ok (.lstore 7, 2) := by decide +kernel
theorem dX10_paysClaims_57 : decode cX10_paysClaims 57 = .ok (.iinc 9 1, 3) := by decide +kernel
theorem dX10_paysClaims_60 : decode cX10_paysClaims 60 = .ok (.goto (-42), 3) := by decide +kernel
theorem dX10_paysClaims_63 : decode cX10_paysClaims 63 = .ok (.iconst 1, 1) := by decide +kernel
theorem dX10_paysClaims_64 : decode cX10_paysClaims 64 = .ok (.istore 9, 2) := by decide +kernel
theorem dX10_paysClaims_66 : decode cX10_paysClaims 66 = .ok (.iload 9, 2) := by decide +kernel
theorem dX10_paysClaims_68 : decode cX10_paysClaims 68 = .ok (.aload_n 0, 1) := by decide +kernel
theorem dX10_paysClaims_69 : decode cX10_paysClaims 69 = .ok (.getfield 7, 3) := by decide +kernel
theorem dX10_paysClaims_72 : decode cX10_paysClaims 72 = .ok (.iconst 0, 1) := by decide +kernel
theorem dX10_paysClaims_73 : decode cX10_paysClaims 73 = .ok (.iaload, 1) := by decide +kernel
theorem dX10_paysClaims_74 : decode cX10_paysClaims 74 = .ok (.if_icmp .ge 66, 3) := by decide +kernel
theorem dX10_paysClaims_77 : decode cX10_paysClaims 77 = .ok (.lload 7, 2) := by decide +kernel
theorem dX10_paysClaims_79 : decode cX10_paysClaims 79 = .ok (.lconst 0, 1) := by decide +kernel
theorem dX10_paysClaims_80 : decode cX10_paysClaims 80 = .ok (.lcmp, 1) := by decide +kernel
theorem dX10_paysClaims_81 : decode cX10_paysClaims 81 = .ok (.ifCond .le 59, 3) := by decide +kernel
theorem dX10_paysClaims_84 : decode cX10_paysClaims 84 = .ok (.aload_n 0, 1) := by decide +kernel
theorem dX10_paysClaims_85 : decode cX10_paysClaims 85 = .ok (.iload 9, 2) := by decide +kernel
theorem dX10_paysClaims_87 : decode cX10_paysClaims 87 = .ok (.iload 6, 2) := by decide +kernel
theorem dX10_paysClaims_89 : decode cX10_paysClaims 89 = .ok (.iload_n 3, 1) := by decide +kernel
theorem dX10_paysClaims_90 : decode cX10_paysClaims 90 = .ok (.invokevirtual 162, 3) := by decide +kernel
theorem dX10_paysClaims_93 : decode cX10_paysClaims 93 = .ok (.ifCond .eq 41, 3) := by decide +kernel
theorem dX10_paysClaims_96 : decode cX10_paysClaims 96 = .ok (.aload_n 0, 1) := by decide +kernel
theorem dX10_paysClaims_97 : decode cX10_paysClaims 97 = .ok (.getfield 22, 3) := by decide +kernel
theorem dX10_paysClaims_100 : decode cX10_paysClaims 100 = .ok (.iload 9, 2) := by decide +kernel
theorem dX10_paysClaims_102 : decode cX10_paysClaims 102 = .ok (.lload 4, 2) := by decide +kernel
theorem dX10_paysClaims_104 : decode cX10_paysClaims 104 = .ok (.lload 7, 2) := by decide +kernel
theorem dX10_paysClaims_106 : decode cX10_paysClaims 106 = .ok (.lcmp, 1) := by decide +kernel
theorem dX10_paysClaims_107 : decode cX10_paysClaims 107 = .ok (.ifCond .lt 13, 3) := by decide +kernel
theorem dX10_paysClaims_110 : decode cX10_paysClaims 110 = .ok (.aload_n 0, 1) := by decide +kernel
theorem dX10_paysClaims_111 : decode cX10_paysClaims 111 = .ok (.getfield 29, 3) := by decide +kernel
theorem dX10_paysClaims_114 : decode cX10_paysClaims 114 = .ok (.iload 9, 2) := by decide +kernel
theorem dX10_paysClaims_116 : decode cX10_paysClaims 116 = .ok (.laload, 1) := by decide +kernel
theorem dX10_paysClaims_117 : decode cX10_paysClaims 117 = .ok (.goto 16, 3) := by decide +kernel
theorem dX10_paysClaims_120 : decode cX10_paysClaims 120 = .ok (.lload 4, 2) := by decide +kernel
theorem dX10_paysClaims_122 : decode cX10_paysClaims 122 = .ok (.aload_n 0, 1) := by decide +kernel
theorem dX10_paysClaims_123 : decode cX10_paysClaims 123 = .ok (.getfield 29, 3) := by decide +kernel
theorem dX10_paysClaims_126 : decode cX10_paysClaims 126 = .ok (.iload 9, 2) := by decide +kernel
theorem dX10_paysClaims_128 : decode cX10_paysClaims 128 = .ok (.laload, 1) := by decide +kernel
theorem dX10_paysClaims_129 : decode cX10_paysClaims 129 = .ok (.lmul, 1) := by decide +kernel
theorem dX10_paysClaims_130 : decode cX10_paysClaims 130 = .ok (.lload 7, 2) := by decide +kernel
theorem dX10_paysClaims_132 : decode cX10_paysClaims 132 = .ok (.ldiv, 1) := by decide +kernel
theorem dX10_paysClaims_133 : decode cX10_paysClaims 133 = .ok (.lastore, 1) := by decide +kernel
theorem dX10_paysClaims_134 : decode cX10_paysClaims 134 = .ok (.iinc 9 1, 3) := by decide +kernel
theorem dX10_paysClaims_137 : decode cX10_paysClaims 137 = .ok (.goto (-71), 3) := by decide +kernel
theorem dX10_paysClaims_140 : decode cX10_paysClaims 140 = .ok (.lload 4, 2) := by decide +kernel
theorem dX10_paysClaims_142 : decode cX10_paysClaims 142 = .ok (.lload 7, 2) := by decide +kernel
theorem dX10_paysClaims_144 : decode cX10_paysClaims 144 = .ok (.lcmp, 1) := by decide +kernel
theorem dX10_paysClaims_145 : decode cX10_paysClaims 145 = .ok (.ifCond .ge 7, 3) := by decide +kernel
theorem dX10_paysClaims_148 : decode cX10_paysClaims 148 = .ok (.ldc2_w 165, 3) := by decide +kernel
theorem dX10_paysClaims_151 : decode cX10_paysClaims 151 = .ok (.lreturn, 1) := by decide +kernel
theorem dX10_paysClaims_152 : decode cX10_paysClaims 152 = .ok (.lload 4, 2) := by decide +kernel
theorem dX10_paysClaims_154 : decode cX10_paysClaims 154 = .ok (.lload 7, 2) := by decide +kernel
theorem dX10_paysClaims_156 : decode cX10_paysClaims 156 = .ok (.lsub, 1) := by decide +kernel
theorem dX10_paysClaims_157 : decode cX10_paysClaims 157 = .ok (.lstore 4, 2) := by decide +kernel
theorem dX10_paysClaims_159 : decode cX10_paysClaims 159 = .ok (.iinc 6 (-1), 3) := by decide +kernel
theorem dX10_paysClaims_162 : decode cX10_paysClaims 162 = .ok (.goto (-155), 3) := by decide +kernel
theorem dX10_paysClaims_165 : decode cX10_paysClaims 165 = .ok (.lload 4, 2) := by decide +kernel
theorem dX10_paysClaims_167 : decode cX10_paysClaims 167 = .ok (.lreturn, 1) := by decide +kernel
set_option maxRecDepth 20000 in
theorem ggX10_shares_X10_has : GoodIn wsX10_shares wsX10_has := goodIn_r _ [8] (by decide +kernel) (by decide +kernel)
set_option maxRecDepth 20000 in
theorem gX10_shares_X10_has : GoodIn wsX10_shares (va_wsS RX10 158 yX10_has wsX10_has) := goodIn_app (goodIn_of _ (by decide +kernel)) ggX10_shares_X10_has
