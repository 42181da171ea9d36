theorem dX2_aboutRound_32 : decode cX2_aboutRound 32 = .ok (.iload_n 2, 1) := by decide +kernel
theorem dX2_aboutRound_33 : decode cX2_aboutRound 33 = .ok (.tableswitch 67 0 3 #[31, 41, 51, 59], 31) := by decide +kernel
theorem dX2_aboutRound_64 : decode cX2_aboutRound 64 = .ok (.aload_n 0, 1) := by decide +kernel
theorem dX2_aboutRound_65 : decode cX2_aboutRound 65 = .ok (.getfield 35, 3) := by decide +kernel
theorem dX2_aboutRound_68 : decode cX2_aboutRound 68 = .ok (.getfield 166, 3) := by decide +kernel
theorem dX2_aboutRound_71 : decode cX2_aboutRound 71 = .ok (.iload_n 1, 1) := by decide +kernel
theorem dX2_aboutRound_72 : decode cX2_aboutRound 72 = .ok (.iaload, 1) := by decide +kernel
theorem dX2_aboutRound_73 : decode cX2_aboutRound 73 = .ok (.ireturn, 1) := by decide +kernel
theorem dX2_aboutRound_74 : decode cX2_aboutRound 74 = .ok (.aload_n 0, 1) := by decide +kernel
theorem dX2_aboutRound_75 : decode cX2_aboutRound 75 = .ok (.getfield 35, 3) := by decide +kernel
theorem dX2_aboutRound_78 : decode cX2_aboutRound 78 = .ok (.getfield 176, 3) := by decide +kernel
theorem dX2_aboutRound_81 : decode cX2_aboutRound 81 = .ok (.iload_n 1, 1) := by decide +kernel
theorem dX2_aboutRound_82 : decode cX2_aboutRound 82 = .ok (.iaload, 1) := by decide +kernel
theorem dX2_aboutRound_83 : decode cX2_aboutRound 83 = .ok (.ireturn, 1) := by decide +kernel
theorem dX2_aboutRound_84 : decode cX2_aboutRound 84 = .ok (.aload_n 0, 1) := by decide +kernel
theorem dX2_aboutRound_85 : decode cX2_aboutRound 85 = .ok (.getfield 35, 3) := by decide +kernel
theorem dX2_aboutRound_88 : decode cX2_aboutRound 88 = .ok (.getfield 182, 3) := by decide +kernel
theorem dX2_aboutRound_91 : decode cX2_aboutRound 91 = .ok (.ireturn, 1) := by decide +kernel
theorem dX2_aboutRound_92 : decode cX2_aboutRound 92 = .ok (.aload_n 0, 1) := by decide +kernel
theorem dX2_aboutRound_93 : decode cX2_aboutRound 93 = .ok (.getfield 35, 3) := by decide +kernel
theorem dX2_aboutRound_96 : decode cX2_aboutRound 96 = .ok (.getfield 190, 3) := by decide +kernel
theorem dX2_aboutRound_99 : decode cX2_aboutRound 99 = .ok (.ireturn, 1) := by decide +kernel
theorem dX2_aboutRound_100 : decode cX2_aboutRound 100 = .ok (.aload_n 0, 1) := by decide +kernel
theorem dX2_aboutRound_101 : decode cX2_aboutRound 101 = .ok (.getfield 35, 3) := by decide +kernel
theorem dX2_aboutRound_104 : decode cX2_aboutRound 104 = .ok (.getfield 187, 3) := by decide +kernel
theorem dX2_aboutRound_107 : decode cX2_aboutRound 107 = .ok (.ireturn, 1) := by decide +kernel
set_option maxRecDepth 20000 in
theorem ggX2_aboutClass_X2_hasClass : GoodIn wsX2_aboutClass wsX2_hasClass := goodIn_r _ [12, 2, 13, 14, 15, 16, 36, 37, 38, 39, 40, 41, 42, 43, 44, 45, 46, 47, 48, 49, 50, 51, 52] (by decide +kernel) (by decide +kernel)
set_option maxRecDepth 20000 in
theorem gX2_aboutClass_X2_hasClass : GoodIn wsX2_aboutClass (wsV RX2 106 RX2 yX2_hasClass wsX2_hasClass) := goodIn_app (goodIn_of _ (by decide +kernel)) ggX2_aboutClass_X2_hasClass
set_option maxRecDepth 20000 in
theorem ggX2_aboutClass_X9_within : GoodIn wsX2_aboutClass wsX9_within := goodIn_r _ [16] (by decide +kernel) (by decide +kernel)
set_option maxRecDepth 20000 in
theorem gX2_aboutClass_X9_within_n82 : GoodIn wsX2_aboutClass (wsX9_within) := ggX2_aboutClass_X9_within
set_option maxRecDepth 20000 in
theorem ggX2_aboutClass_X0_sharesIn : GoodIn wsX2_aboutClass wsX0_sharesIn := goodIn_r _ [21, 22, 23, 53, 54, 55, 56] (by decide +kernel) (by decide +kernel)
set_option maxRecDepth 20000 in
theorem gX2_aboutClass_X0_sharesIn : GoodIn wsX2_aboutClass (wsV RX2 192 RX0 yX0_sharesIn wsX0_sharesIn) := goodIn_app (goodIn_of _ (by decide +kernel)) ggX2_aboutClass_X0_sharesIn
set_option maxRecDepth 20000 in
theorem ggX2_aboutClass_X1_preference : GoodIn wsX2_aboutClass wsX1_preference := goodIn_r _ [28, 29, 30, 47, 48, 49, 50, 51, 52] (by decide +kernel) (by decide +kernel)
set_option maxRecDepth 20000 in
theorem gX2_aboutClass_X1_preference : GoodIn wsX2_aboutClass (wsV RX2 195 RX1 yX1_preference wsX1_preference) := goodIn_app (goodIn_of _ (by decide +kernel)) ggX2_aboutClass_X1_preference
set_option maxRecDepth 20000 in
theorem ggX2_aboutClass_X1_common : GoodIn wsX2_aboutClass wsX1_common := goodIn_r _ [34, 35, 47, 48, 49, 50, 51, 52] (by decide +kernel) (by decide +kernel)
set_option maxRecDepth 20000 in
theorem gX2_aboutClass_X1_common : GoodIn wsX2_aboutClass (wsV RX2 199 RX1 yX1_common wsX1_common) := goodIn_app (goodIn_of _ (by decide +kernel)) ggX2_aboutClass_X1_common
theorem dX2_aboutClass_0 : decode cX2_aboutClass 0 = .ok (.aload_n 0, 1) := by decide +kernel
theorem dX2_aboutClass_1 : decode cX2_aboutClass 1 = .ok (.iload_n 1, 1) := by decide +kernel
theorem dX2_aboutClass_2 : decode cX2_aboutClass 2 = .ok (.invokevirtual 106, 3) := by decide +kernel
theorem dX2_aboutClass_5 : decode cX2_aboutClass 5 = .ok (.ifCond .eq 13, 3) := by decide +kernel
theorem dX2_aboutClass_8 : decode cX2_aboutClass 8 = .ok (.iload_n 2, 1) := by decide +kernel
theorem dX2_aboutClass_9 : decode cX2_aboutClass 9 = .ok (.iconst 0, 1) := by decide +kernel
theorem dX2_aboutClass_10 : decode cX2_aboutClass 10 = .ok (.bipush 7, 2) := by decide +kernel
theorem dX2_aboutClass_12 : decode cX2_aboutClass 12 = .ok (.invokestatic 82, 3) := by decide +kernel
theorem dX2_aboutClass_15 : decode cX2_aboutClass 15 = .ok (.ifCond .ne 5, 3) := by decide +kernel
theorem dX2_aboutClass_18 : decode cX2_aboutClass 18 = .ok (.iconst (-1), 1) := by decide +kernel
theorem dX2_aboutClass_19 : decode cX2_aboutClass 19 = .ok (.ireturn, 1) := by decide +kernel
theorem dX2_aboutClass_20 : decode cX2_aboutClass 20 = .ok (.iload_n 1, 1) := by decide +kernel
theorem dX2_aboutClass_21 : decode cX2_aboutClass 21 = .ok (.ifCond .ne 11, 3) := by decide +kernel
theorem dX2_aboutClass_24 : decode cX2_aboutClass 24 = .ok (.iload_n 2, 1) := by decide +kernel
theorem dX2_aboutClass_25 : decode cX2_aboutClass 25 = .ok (.iconst 3, 1) := by decide +kernel
theorem dX2_aboutClass_26 : decode cX2_aboutClass 26 = .ok (.if_icmp .lt 6, 3) := by decide +kernel
theorem dX2_aboutClass_29 : decode cX2_aboutClass 29 = .ok (.bipush (-4), 2) := by decide +kernel
theorem dX2_aboutClass_31 : decode cX2_aboutClass 31 = .ok (.ireturn, 1) := by decide +kernel
theorem dX2_aboutClass_32 : decode cX2_aboutClass 32 = .ok (.iload_n 2, 1) := by decide +kernel
theorem dX2_aboutClass_33 : decode cX2_aboutClass 33 = .ok (.tableswitch 126 0 6 #[43, 52, 69, 86, 96, 106, 116], 43) := by decide +kernel
theorem dX2_aboutClass_76 : decode cX2_aboutClass 76 = .ok (.aload_n 0, 1) := by decide +kernel
theorem dX2_aboutClass_77 : decode cX2_aboutClass 77 = .ok (.getfield 21, 3) := by decide +kernel
theorem dX2_aboutClass_80 : decode cX2_aboutClass 80 = .ok (.iload_n 1, 1) := by decide +kernel
theorem dX2_aboutClass_81 : decode cX2_aboutClass 81 = .ok (.invokevirtual 192, 3) := by decide +kernel
theorem dX2_aboutClass_84 : decode cX2_aboutClass 84 = .ok (.ireturn, 1) := by decide +kernel
theorem dX2_aboutClass_85 : decode cX2_aboutClass 85 = .ok (.aload_n 0, 1) := by decide +kernel
theorem dX2_aboutClass_86 : decode cX2_aboutClass 86 = .ok (.getfield 12, 3) := by decide +kernel
theorem dX2_aboutClass_89 : decode cX2_aboutClass 89 = .ok (.iload_n 1, 1) := by decide +kernel
theorem dX2_aboutClass_90 : decode cX2_aboutClass 90 = .ok (.aload_n 0, 1) := by decide +kernel
theorem dX2_aboutClass_91 : decode cX2_aboutClass 91 = .ok (.getfield 21, 3) := by decide +kernel
theorem dX2_aboutClass_94 : decode cX2_aboutClass 94 = .ok (.iload_n 1, 1) := by decide +kernel
theorem dX2_aboutClass_95 : decode cX2_aboutClass 95 = .ok (.invokevirtual 192, 3) := by decide +kernel
theorem dX2_aboutClass_98 : decode cX2_aboutClass 98 = .ok (.invokevirtual 195, 3) := by decide +kernel
theorem dX2_aboutClass_101 : decode cX2_aboutClass 101 = .ok (.ireturn, 1) := by decide +kernel
theorem dX2_aboutClass_102 : decode cX2_aboutClass 102 = .ok (.aload_n 0, 1) := by decide +kernel
theorem dX2_aboutClass_103 : decode cX2_aboutClass 103 = .ok (.getfield 12, 3) := by decide +kernel
theorem dX2_aboutClass_106 : decode cX2_aboutClass 106 = .ok (.iload_n 1, 1) := by decide +kernel
theorem dX2_aboutClass_107 : decode cX2_aboutClass 107 = .ok (.aload_n 0, 1) := by decide +kernel
theorem dX2_aboutClass_108 : decode cX2_aboutClass 108 = .ok (.getfield 21, 3) := by decide +kernel
theorem dX2_aboutClass_111 : decode cX2_aboutClass 111 = .ok (.iload_n 1, 1) := by decide +kernel
theorem dX2_aboutClass_112 : decode cX2_aboutClass 112 = .ok (.invokevirtual 192, 3) := by decide +kernel
theorem dX2_aboutClass_115 : decode cX2_aboutClass 115 = .ok (.invokevirtual 199, 3) := by decide +kernel
theorem dX2_aboutClass_118 : decode cX2_aboutClass 118 = .ok (.ireturn, 1) := by decide +kernel
theorem dX2_aboutClass_119 : decode cX2_aboutClass 119 = .ok (.aload_n 0, 1) := by decide +kernel
theorem dX2_aboutClass_120 : decode cX2_aboutClass 120 = .ok (.getfield 12, 3) := by decide +kernel
theorem dX2_aboutClass_123 : decode cX2_aboutClass 123 = .ok (.getfield 87, 3) := by decide +kernel
theorem dX2_aboutClass_126 : decode cX2_aboutClass 126 = .ok (.iload_n 1, 1) := by decide +kernel
theorem dX2_aboutClass_127 : decode cX2_aboutClass 127 = .ok (.iaload, 1) := by decide +kernel
theorem dX2_aboutClass_128 : decode cX2_aboutClass 128 = .ok (.ireturn, 1) := by decide +kernel
theorem dX2_aboutClass_129 : decode cX2_aboutClass 129 = .ok (.aload_n 0, 1) := by decide +kernel
theorem dX2_aboutClass_130 : decode cX2_aboutClass 130 = .ok (.getfield 12, 3) := by decide +kernel
theorem dX2_aboutClass_133 : decode cX2_aboutClass 133 = .ok (.getfield 90, 3) := by decide +kernel
theorem dX2_aboutClass_136 : decode cX2_aboutClass 136 = .ok (.iload_n 1, 1) := by decide +kernel
theorem dX2_aboutClass_137 : decode cX2_aboutClass 137 = .ok (.iaload, 1) := by decide +kernel
theorem dX2_aboutClass_138 : decode cX2_aboutClass 138 = .ok (.ireturn, 1) := by decide +kernel
theorem dX2_aboutClass_139 : decode cX2_aboutClass 139 = .ok (.aload_n 0, 1) := by decide +kernel
theorem dX2_aboutClass_140 : decode cX2_aboutClass 140 = .ok (.getfield 12, 3) := by decide +kernel
theorem dX2_aboutClass_143 : decode cX2_aboutClass 143 = .ok (.getfield 93, 3) := by decide +kernel
theorem dX2_aboutClass_146 : decode cX2_aboutClass 146 = .ok (.iload_n 1, 1) := by decide +kernel
theorem dX2_aboutClass_147 : decode cX2_aboutClass 147 = .ok (.iaload, 1) := by decide +kernel
theorem dX2_aboutClass_148 : decode cX2_aboutClass 148 = .ok (.ireturn, 1) := by decide +kernel
theorem dX2_aboutClass_149 : decode cX2_aboutClass 149 = .ok (.aload_n 0, 1) := by decide +kernel
theorem dX2_aboutClass_150 : decode cX2_aboutClass 150 = .ok (.getfield 12, 3) := by decide +kernel
theorem dX2_aboutClass_153 : decode cX2_aboutClass 153 = .ok (.getfield 96, 3) := by decide +kernel
theorem dX2_aboutClass_156 : decode cX2_aboutClass 156 = .ok (.iload_n 1, 1) := by decide +kernel
theorem dX2_aboutClass_157 : decode cX2_aboutClass 157 = .ok (.iaload, 1) := by decide +kernel
theorem dX2_aboutClass_158 : decode cX2_aboutClass 158 = .ok (.ireturn, 1) := by decide +kernel
theorem dX2_aboutClass_159 : decode cX2_aboutClass 159 = .ok (.aload_n 0, 1) := by decide +kernel
theorem dX2_aboutClass_160 : decode cX2_aboutClass 160 = .ok (.getfield 12, 3) := by decide +kernel
theorem dX2_aboutClass_163 : decode cX2_aboutClass 163 = .ok (.getfield 99, 3) := by decide +kernel
theorem dX2_aboutClass_166 : decode cX2_aboutClass 166 = .ok (.iload_n 1, 1) := by decide +kernel
theorem dX2_aboutClass_167 : decode cX2_aboutClass 167 = .ok (.iaload, 1) := by decide +kernel
theorem dX2_aboutClass_168 : decode cX2_aboutClass 168 = .ok (.ireturn, 1) := by decide +kernel
set_option maxRecDepth 20000 in
theorem ggX2_aboutCertificate_X0_has : GoodIn wsX2_aboutCertificate wsX0_has := goodIn_r _ [10, 11, 12, 13, 14, 26, 27, 28, 29] (by decide +kernel) (by decide +kernel)
set_option maxRecDepth 20000 in
theorem gX2_aboutCertificate_X0_has : GoodIn wsX2_aboutCertificate (wsV RX2 120 RX0 yX0_has wsX0_has) := goodIn_app (goodIn_of _ (by decide +kernel)) ggX2_aboutCertificate_X0_has
set_option maxRecDepth 20000 in
theorem ggX2_aboutCertificate_X9_within : GoodIn wsX2_aboutCertificate wsX9_within := goodIn_r _ [14] (by decide +kernel) (by decide +kernel)
set_option maxRecDepth 20000 in
theorem gX2_aboutCertificate_X9_within_n82 : GoodIn wsX2_aboutCertificate (wsX9_within) := ggX2_aboutCertificate_X9_within
theorem dX2_aboutCertificate_0 : decode cX2_aboutCertificate 0 = .ok (.aload_n 0, 1) := by decide +kernel
theorem dX2_aboutCertificate_1 : decode cX2_aboutCertificate 1 = .ok (.getfield 21, 3) := by decide +kernel
theorem dX2_aboutCertificate_4 : decode cX2_aboutCertificate 4 = .ok (.iload_n 1, 1) := by decide +kernel
theorem dX2_aboutCertificate_5 : decode cX2_aboutCertificate 5 = .ok (.invokevirtual 120, 3) := by decide +kernel
theorem dX2_aboutCertificate_8 : decode cX2_aboutCertificate 8 = .ok (.ifCond .eq 12, 3) := by decide +kernel
theorem dX2_aboutCertificate_11 : decode cX2_aboutCertificate 11 = .ok (.iload_n 2, 1) := by decide +kernel
theorem dX2_aboutCertificate_12 : decode cX2_aboutCertificate 12 = .ok (.iconst 0, 1) := by decide +kernel
theorem dX2_aboutCertificate_13 : decode cX2_aboutCertificate 13 = .ok (.iconst 3, 1) := by decide +kernel
theorem dX2_aboutCertificate_14 : decode cX2_aboutCertificate 14 = .ok (.invokestatic 82, 3) := by decide +kernel
theorem dX2_aboutCertificate_17 : decode cX2_aboutCertificate 17 = .ok (.ifCond .ne 5, 3) := by decide +kernel
theorem dX2_aboutCertificate_20 : decode cX2_aboutCertificate 20 = .ok (.iconst (-1), 1) := by decide +kernel
theorem dX2_aboutCertificate_21 : decode cX2_aboutCertificate 21 = .ok (.ireturn, 1) := by decide +kernel
theorem dX2_aboutCertificate_22 : decode cX2_aboutCertificate 22 = .ok (.iload_n 2, 1) := by decide +kernel
theorem dX2_aboutCertificate_23 : decode cX2_aboutCertificate 23 = .ok (.tableswitch 55 0 2 #[25, 35, 45], 25) := by decide +kernel
theorem dX2_aboutCertificate_48 : decode cX2_aboutCertificate 48 = .ok (.aload_n 0, 1) := by decide +kernel
theorem dX2_aboutCertificate_49 : decode cX2_aboutCertificate 49 = .ok (.getfield 21, 3) := by decide +kernel
theorem dX2_aboutCertificate_52 : decode cX2_aboutCertificate 52 = .ok (.getfield 123, 3) := by decide +kernel
theorem dX2_aboutCertificate_55 : decode cX2_aboutCertificate 55 = .ok (.iload_n 1, 1) := by decide +kernel
theorem dX2_aboutCertificate_56 : decode cX2_aboutCertificate 56 = .ok (.iaload, 1) := by decide +kernel
theorem dX2_aboutCertificate_57 : decode cX2_aboutCertificate 57 = .ok (.ireturn, 1) := by decide +kernel
theorem dX2_aboutCertificate_58 : decode cX2_aboutCertificate 58 = .ok (.aload_n 0, 1) := by decide +kernel
theorem dX2_aboutCertificate_59 : decode cX2_aboutCertificate 59 = .ok (.getfield 21, 3) := by decide +kernel
theorem dX2_aboutCertificate_62 : decode cX2_aboutCertificate 62 = .ok (.getfield 129, 3) := by decide +kernel
theorem dX2_aboutCertificate_65 : decode cX2_aboutCertificate 65 = .ok (.iload_n 1, 1) := by decide +kernel
theorem dX2_aboutCertificate_66 : decode cX2_aboutCertificate 66 = .ok (.iaload, 1) := by decide +kernel
theorem dX2_aboutCertificate_67 : decode cX2_aboutCertificate 67 = .ok (.ireturn, 1) := by decide +kernel
theorem dX2_aboutCertificate_68 : decode cX2_aboutCertificate 68 = .ok (.aload_n 0, 1) := by decide +kernel
theorem dX2_aboutCertificate_69 : decode cX2_aboutCertificate 69 = .ok (.getfield 21, 3) := by decide +kernel
theorem dX2_aboutCertificate_72 : decode cX2_aboutCertificate 72 = .ok (.getfield 126, 3) := by decide +kernel
theorem dX2_aboutCertificate_75 : decode cX2_aboutCertificate 75 = .ok (.iload_n 1, 1) := by decide +kernel
theorem dX2_aboutCertificate_76 : decode cX2_aboutCertificate 76 = .ok (.iaload, 1) := by decide +kernel
theorem dX2_aboutCertificate_77 : decode cX2_aboutCertificate 77 = .ok (.ireturn, 1) := by decide +kernel
theorem dX2_aboutCertificate_78 : decode cX2_aboutCertificate 78 = .ok (.aload_n 0, 1) := by decide +kernel
theorem dX2_aboutCertificate_79 : decode cX2_aboutCertificate 79 = .ok (.getfield 21, 3) := by decide +kernel
theorem dX2_aboutCertificate_82 : decode cX2_aboutCertificate 82 = .ok (.getfield 202, 3) := by decide +kernel
theorem dX2_aboutCertificate_85 : decode cX2_aboutCertificate 85 = .ok (.iload_n 1, 1) := by decide +kernel
theorem dX2_aboutCertificate_86 : decode cX2_aboutCertificate 86 = .ok (.iaload, 1) := by decide +kernel
theorem dX2_aboutCertificate_87 : decode cX2_aboutCertificate 87 = .ok (.ireturn, 1) := by decide +kernel
set_option maxRecDepth 20000 in
theorem ggX2_aboutGrant_X2_hasGrant : GoodIn wsX2_aboutGrant wsX2_hasGrant := goodIn_r _ [11, 1, 12, 13, 14, 15, 28, 29, 30, 31, 32, 33, 34, 35, 36, 37, 38, 39, 40, 41, 42, 43, 44, 45, 46] (by decide +kernel) (by decide +kernel)
set_option maxRecDepth 20000 in
theorem gX2_aboutGrant_X2_hasGrant : GoodIn wsX2_aboutGrant (wsV RX2 149 RX2 yX2_hasGrant wsX2_hasGrant) := goodIn_app (goodIn_of _ (by decide +kernel)) ggX2_aboutGrant_X2_hasGrant
set_option maxRecDepth 20000 in
theorem ggX2_aboutGrant_X9_within : GoodIn wsX2_aboutGrant wsX9_within := goodIn_r _ [15] (by decide +kernel) (by decide +kernel)
set_option maxRecDepth 20000 in
theorem gX2_aboutGrant_X9_within_n82 : GoodIn wsX2_aboutGrant (wsX9_within) := ggX2_aboutGrant_X9_within
set_option maxRecDepth 20000 in
theorem ggX2_aboutGrant_X2_vested : GoodIn wsX2_aboutGrant wsX2_vested := goodIn_r _ [19, 20, 1, 2, 21, 6, 22, 23, 3, 28, 29, 30, 31, 32, 33, 34, 35, 36, 37, 38, 39, 40, 41, 42, 43, 44, 45, 46] (by decide +kernel) (by decide +kernel)
set_option maxRecDepth 20000 in
theorem gX2_aboutGrant_X2_vested : GoodIn wsX2_aboutGrant (wsV RX2 203 RX2 yX2_vested wsX2_vested) := goodIn_app (goodIn_of _ (by decide +kernel)) ggX2_aboutGrant_X2_vested
set_option maxRecDepth 20000 in
theorem ggX2_aboutGrant_X2_takeable : GoodIn wsX2_aboutGrant wsX2_takeable := goodIn_r _ [27, 20, 1, 2, 21, 5, 16, 17, 18, 10, 19, 6, 22, 23, 3, 28, 29, 30, 31, 32, 33, 34, 35, 36, 37, 38, 39, 40, 41, 42, 43, 44, 45, 46] (by decide +kernel) (by decide +kernel)
set_option maxRecDepth 20000 in
theorem gX2_aboutGrant_X2_takeable : GoodIn wsX2_aboutGrant (wsV RX2 152 RX2 yX2_takeable wsX2_takeable) := goodIn_app (goodIn_of _ (by decide +kernel)) ggX2_aboutGrant_X2_takeable
theorem dX2_aboutGrant_0 : decode cX2_aboutGrant 0 = .ok (.aload_n 0, 1) := by decide +kernel
theorem dX2_aboutGrant_1 : decode cX2_aboutGrant 1 = .ok (.iload_n 1, 1) := by decide +kernel
theorem dX2_aboutGrant_2 : decode cX2_aboutGrant 2 = .ok (.invokevirtual 149, 3) := by decide +kernel
theorem dX2_aboutGrant_5 : decode cX2_aboutGrant 5 = .ok (.ifCond .eq 13, 3) := by decide +kernel
theorem dX2_aboutGrant_8 : decode cX2_aboutGrant 8 = .ok (.iload_n 2, 1) := by decide +kernel
theorem dX2_aboutGrant_9 : decode cX2_aboutGrant 9 = .ok (.iconst 0, 1) := by decide +kernel
theorem dX2_aboutGrant_10 : decode cX2_aboutGrant 10 = .ok (.bipush 6, 2) := by decide +kernel
theorem dX2_aboutGrant_12 : decode cX2_aboutGrant 12 = .ok (.invokestatic 82, 3) := by decide +kernel
theorem dX2_aboutGrant_15 : decode cX2_aboutGrant 15 = .ok (.ifCond .ne 5, 3) := by decide +kernel
theorem dX2_aboutGrant_18 : decode cX2_aboutGrant 18 = .ok (.iconst (-1), 1) := by decide +kernel
theorem dX2_aboutGrant_19 : decode cX2_aboutGrant 19 = .ok (.ireturn, 1) := by decide +kernel
theorem dX2_aboutGrant_20 : decode cX2_aboutGrant 20 = .ok (.iload_n 2, 1) := by decide +kernel
theorem dX2_aboutGrant_21 : decode cX2_aboutGrant 21 = .ok (.tableswitch 91 0 5 #[39, 49, 59, 69, 75, 85], 39) := by decide +kernel
theorem dX2_aboutGrant_60 : decode cX2_aboutGrant 60 = .ok (.aload_n 0, 1) := by decide +kernel
theorem dX2_aboutGrant_61 : decode cX2_aboutGrant 61 = .ok (.getfield 28, 3) := by decide +kernel
theorem dX2_aboutGrant_64 : decode cX2_aboutGrant 64 = .ok (.getfield 132, 3) := by decide +kernel
theorem dX2_aboutGrant_67 : decode cX2_aboutGrant 67 = .ok (.iload_n 1, 1) := by decide +kernel
theorem dX2_aboutGrant_68 : decode cX2_aboutGrant 68 = .ok (.iaload, 1) := by decide +kernel
theorem dX2_aboutGrant_69 : decode cX2_aboutGrant 69 = .ok (.ireturn, 1) := by decide +kernel
theorem dX2_aboutGrant_70 : decode cX2_aboutGrant 70 = .ok (.aload_n 0, 1) := by decide +kernel
theorem dX2_aboutGrant_71 : decode cX2_aboutGrant 71 = .ok (.getfield 28, 3) := by decide +kernel
theorem dX2_aboutGrant_74 : decode cX2_aboutGrant 74 = .ok (.getfield 133, 3) := by decide +kernel
theorem dX2_aboutGrant_77 : decode cX2_aboutGrant 77 = .ok (.iload_n 1, 1) := by decide +kernel
theorem dX2_aboutGrant_78 : decode cX2_aboutGrant 78 = .ok (.iaload, 1) := by decide +kernel
theorem dX2_aboutGrant_79 : decode cX2_aboutGrant 79 = .ok (.ireturn, 1) := by decide +kernel
theorem dX2_aboutGrant_80 : decode cX2_aboutGrant 80 = .ok (.aload_n 0, 1) := by decide +kernel
theorem dX2_aboutGrant_81 : decode cX2_aboutGrant 81 = .ok (.getfield 28, 3) := by decide +kernel
theorem dX2_aboutGrant_84 : decode cX2_aboutGrant 84 = .ok (.getfield 134, 3) := by decide +kernel
theorem dX2_aboutGrant_87 : decode cX2_aboutGrant 87 = .ok (.iload_n 1, 1) := by decide +kernel
theorem dX2_aboutGrant_88 : decode cX2_aboutGrant 88 = .ok (.iaload, 1) := by decide +kernel
theorem dX2_aboutGrant_89 : decode cX2_aboutGrant 89 = .ok (.ireturn, 1) := by decide +kernel
theorem dX2_aboutGrant_90 : decode cX2_aboutGrant 90 = .ok (.aload_n 0, 1) := by decide +kernel
theorem dX2_aboutGrant_91 : decode cX2_aboutGrant 91 = .ok (.iload_n 1, 1) := by decide +kernel
theorem dX2_aboutGrant_92 : decode cX2_aboutGrant 92 = .ok (.invokevirtual 203, 3) := by decide +kernel
theorem dX2_aboutGrant_95 : decode cX2_aboutGrant 95 = .ok (.ireturn, 1) := by decide +kernel
theorem dX2_aboutGrant_96 : decode cX2_aboutGrant 96 = .ok (.aload_n 0, 1) := by decide +kernel
theorem dX2_aboutGrant_97 : decode cX2_aboutGrant 97 = .ok (.getfield 28, 3) := by decide +kernel
theorem dX2_aboutGrant_100 : decode cX2_aboutGrant 100 = .ok (.getfield 146, 3) := by decide +kernel
theorem dX2_aboutGrant_103 : decode cX2_aboutGrant 103 = .ok (.iload_n 1, 1) := by decide +kernel
theorem dX2_aboutGrant_104 : decode cX2_aboutGrant 104 = .ok (.iaload, 1) := by decide +kernel
theorem dX2_aboutGrant_105 : decode cX2_aboutGrant 105 = .ok (.ireturn, 1) := by decide +kernel
theorem dX2_aboutGrant_106 : decode cX2_aboutGrant 106 = .ok (.aload_n 0, 1) := by decide +kernel
theorem dX2_aboutGrant_107 : decode cX2_aboutGrant 107 = .ok (.iload_n 1, 1) := by decide +kernel
theorem dX2_aboutGrant_108 : decode cX2_aboutGrant 108 = .ok (.invokevirtual 152, 3) := by decide +kernel
theorem dX2_aboutGrant_111 : decode cX2_aboutGrant 111 = .ok (.ireturn, 1) := by decide +kernel
theorem dX2_aboutGrant_112 : decode cX2_aboutGrant 112 = .ok (.aload_n 0, 1) := by decide +kernel
theorem dX2_aboutGrant_113 : decode cX2_aboutGrant 113 = .ok (.getfield 28, 3) := by decide +kernel
theorem dX2_aboutGrant_116 : decode cX2_aboutGrant 116 = .ok (.getfield 143, 3) := by decide +kernel
theorem dX2_aboutGrant_119 : decode cX2_aboutGrant 119 = .ok (.iload_n 1, 1) := by decide +kernel
theorem dX2_aboutGrant_120 : decode cX2_aboutGrant 120 = .ok (.iaload, 1) := by decide +kernel
theorem dX2_aboutGrant_121 : decode cX2_aboutGrant 121 = .ok (.ireturn, 1) := by decide +kernel
set_option maxRecDepth 20000 in
theorem ggX2_aboutHolder_X2_hasHolder : GoodIn wsX2_aboutHolder wsX2_hasHolder := goodIn_r _ [7, 8, 9, 10, 11, 71, 72, 73, 74, 75, 76, 77, 78, 79, 80, 81] (by decide +kernel) (by decide +kernel)
set_option maxRecDepth 20000 in
theorem gX2_aboutHolder_X2_hasHolder : GoodIn wsX2_aboutHolder (wsV RX2 102 RX2 yX2_hasHolder wsX2_hasHolder) := goodIn_app (goodIn_of _ (by decide +kernel)) ggX2_aboutHolder_X2_hasHolder
set_option maxRecDepth 20000 in
theorem ggX2_aboutHolder_X9_within : GoodIn wsX2_aboutHolder wsX9_within := goodIn_r _ [11] (by decide +kernel) (by decide +kernel)
set_option maxRecDepth 20000 in
theorem gX2_aboutHolder_X9_within_n82 : GoodIn wsX2_aboutHolder (wsX9_within) := ggX2_aboutHolder_X9_within
set_option maxRecDepth 20000 in
theorem ggX2_aboutHolder_X2_commonOf : GoodIn wsX2_aboutHolder wsX2_commonOf := goodIn_r _ [15, 16, 17, 2, 18, 19, 20, 21, 22, 23, 24, 25, 26, 27, 28, 29, 30, 31, 71, 72, 73, 74, 75, 76, 77, 78, 79, 80, 81, 82, 83, 84, 85, 86, 87, 88, 89, 90, 91] (by decide +kernel) (by decide +kernel)
set_option maxRecDepth 20000 in
theorem gX2_aboutHolder_X2_commonOf : GoodIn wsX2_aboutHolder (wsV RX2 169 RX2 yX2_commonOf wsX2_commonOf) := goodIn_app (goodIn_of _ (by decide +kernel)) ggX2_aboutHolder_X2_commonOf
set_option maxRecDepth 20000 in
theorem ggX2_aboutHolder_X0_sizeOf : GoodIn wsX2_aboutHolder wsX0_sizeOf := goodIn_r _ [35, 25, 24, 88, 89, 90, 91] (by decide +kernel) (by decide +kernel)
set_option maxRecDepth 20000 in
theorem gX2_aboutHolder_X0_sizeOf : GoodIn wsX2_aboutHolder (wsV RX2 206 RX0 yX0_sizeOf wsX0_sizeOf) := goodIn_app (goodIn_of _ (by decide +kernel)) ggX2_aboutHolder_X0_sizeOf
set_option maxRecDepth 20000 in
theorem ggX2_aboutHolder_X2_takeableOf : GoodIn wsX2_aboutHolder wsX2_takeableOf := goodIn_r _ [39, 40, 41, 42, 43, 44, 45, 6, 46, 1, 47, 48, 49, 50, 51, 52, 53, 54, 55, 56, 71, 72, 73, 74, 75, 76, 77, 78, 79, 80, 81, 92, 93, 94, 95, 96, 97, 98, 99] (by decide +kernel) (by decide +kernel)
set_option maxRecDepth 20000 in
theorem gX2_aboutHolder_X2_takeableOf : GoodIn wsX2_aboutHolder (wsV RX2 156 RX2 yX2_takeableOf wsX2_takeableOf) := goodIn_app (goodIn_of _ (by decide +kernel)) ggX2_aboutHolder_X2_takeableOf
set_option maxRecDepth 20000 in
theorem ggX2_aboutHolder_X2_thousandths : GoodIn wsX2_aboutHolder wsX2_thousandths := goodIn_r _ [60, 61, 62, 63, 6, 64, 16, 17, 2, 65, 66, 67, 21, 68, 23, 25, 26, 27, 28, 29, 30, 31, 12, 13, 14, 15, 18, 19, 20, 22, 24, 69, 10, 70, 71, 72, 73, 74, 75, 76, 77, 78, 79, 80, 81, 82, 83, 84, 85, 86, 87, 88, 89, 90, 91] (by decide +kernel) (by decide +kernel)
set_option maxRecDepth 20000 in
theorem gX2_aboutHolder_X2_thousandths : GoodIn wsX2_aboutHolder (wsV RX2 209 RX2 yX2_thousandths wsX2_thousandths) := goodIn_app (goodIn_of _ (by decide +kernel)) ggX2_aboutHolder_X2_thousandths
set_option maxRecDepth 20000 in
theorem ggX2_aboutHolder_X0_sharesOwned : GoodIn wsX2_aboutHolder wsX0_sharesOwned := goodIn_r _ [22, 23, 24, 25, 88, 89, 90, 91] (by decide +kernel) (by decide +kernel)
set_option maxRecDepth 20000 in
theorem gX2_aboutHolder_X0_sharesOwned : GoodIn wsX2_aboutHolder (wsV RX2 212 RX0 yX0_sharesOwned wsX0_sharesOwned) := goodIn_app (goodIn_of _ (by decide +kernel)) ggX2_aboutHolder_X0_sharesOwned
theorem dX2_aboutHolder_0 : decode cX2_aboutHolder 0 = .ok (.aload_n 0, 1) := by decide +kernel
theorem dX2_aboutHolder_1 : decode cX2_aboutHolder 1 = .ok (.iload_n 1, 1) := by decide +kernel
theorem dX2_aboutHolder_2 : decode cX2_aboutHolder 2 = .ok (.invokevirtual 102, 3) := by decide +kernel
theorem dX2_aboutHolder_5 : decode cX2_aboutHolder 5 = .ok (.ifCond .eq 13, 3) := by decide +kernel
theorem dX2_aboutHolder_8 : decode cX2_aboutHolder 8 = .ok (.iload_n 2, 1) := by decide +kernel
theorem dX2_aboutHolder_9 : decode cX2_aboutHolder 9 = .ok (.iconst 0, 1) := by decide +kernel
theorem dX2_aboutHolder_10 : decode cX2_aboutHolder 10 = .ok (.bipush 9, 2) := by decide +kernel
theorem dX2_aboutHolder_12 : decode cX2_aboutHolder 12 = .ok (.invokestatic 82, 3) := by decide +kernel
theorem dX2_aboutHolder_15 : decode cX2_aboutHolder 15 = .ok (.ifCond .ne 5, 3) := by decide +kernel
theorem dX2_aboutHolder_18 : decode cX2_aboutHolder 18 = .ok (.iconst (-1), 1) := by decide +kernel
theorem dX2_aboutHolder_19 : decode cX2_aboutHolder 19 = .ok (.ireturn, 1) := by decide +kernel
theorem dX2_aboutHolder_20 : decode cX2_aboutHolder 20 = .ok (.iload_n 2, 1) := by decide +kernel
theorem dX2_aboutHolder_21 : decode cX2_aboutHolder 21 = .ok (.tableswitch 84 5 9 #[35, 41, 63, 72, 78], 35) := by decide +kernel
theorem dX2_aboutHolder_56 : decode cX2_aboutHolder 56 = .ok (.aload_n 0, 1) := by decide +kernel
theorem dX2_aboutHolder_57 : decode cX2_aboutHolder 57 = .ok (.iload_n 1, 1) := by decide +kernel
theorem dX2_aboutHolder_58 : decode cX2_aboutHolder 58 = .ok (.invokevirtual 169, 3) := by decide +kernel
theorem dX2_aboutHolder_61 : decode cX2_aboutHolder 61 = .ok (.ireturn, 1) := by decide +kernel
theorem dX2_aboutHolder_62 : decode cX2_aboutHolder 62 = .ok (.aload_n 0, 1) := by decide +kernel
theorem dX2_aboutHolder_63 : decode cX2_aboutHolder 63 = .ok (.getfield 39, 3) := by decide +kernel
theorem dX2_aboutHolder_66 : decode cX2_aboutHolder 66 = .ok (.iload_n 1, 1) := by decide +kernel
theorem dX2_aboutHolder_67 : decode cX2_aboutHolder 67 = .ok (.iaload, 1) := by decide +kernel
theorem dX2_aboutHolder_68 : decode cX2_aboutHolder 68 = .ok (.iconst (-1), 1) := by decide +kernel
theorem dX2_aboutHolder_69 : decode cX2_aboutHolder 69 = .ok (.if_icmp .ne 8, 3) := by decide +kernel
theorem dX2_aboutHolder_72 : decode cX2_aboutHolder 72 = .ok (.bipush (-4), 2) := by decide +kernel
theorem dX2_aboutHolder_74 : decode cX2_aboutHolder 74 = .ok (.goto 9, 3) := by decide +kernel
theorem dX2_aboutHolder_77 : decode cX2_aboutHolder 77 = .ok (.aload_n 0, 1) := by decide +kernel
theorem dX2_aboutHolder_78 : decode cX2_aboutHolder 78 = .ok (.getfield 39, 3) := by decide +kernel
theorem dX2_aboutHolder_81 : decode cX2_aboutHolder 81 = .ok (.iload_n 1, 1) := by decide +kernel
theorem dX2_aboutHolder_82 : decode cX2_aboutHolder 82 = .ok (.iaload, 1) := by decide +kernel
theorem dX2_aboutHolder_83 : decode cX2_aboutHolder 83 = .ok (.ireturn, 1) := by decide +kernel
theorem dX2_aboutHolder_84 : decode cX2_aboutHolder 84 = .ok (.aload_n 0, 1) := by decide +kernel
theorem dX2_aboutHolder_85 : decode cX2_aboutHolder 85 = .ok (.getfield 21, 3) := by decide +kernel
theorem dX2_aboutHolder_88 : decode cX2_aboutHolder 88 = .ok (.iload_n 1, 1) := by decide +kernel
theorem dX2_aboutHolder_89 : decode cX2_aboutHolder 89 = .ok (.invokevirtual 206, 3) := by decide +kernel
theorem dX2_aboutHolder_92 : decode cX2_aboutHolder 92 = .ok (.ireturn, 1) := by decide +kernel
theorem dX2_aboutHolder_93 : decode cX2_aboutHolder 93 = .ok (.aload_n 0, 1) := by decide +kernel
theorem dX2_aboutHolder_94 : decode cX2_aboutHolder 94 = .ok (.iload_n 1, 1) := by decide +kernel
theorem dX2_aboutHolder_95 : decode cX2_aboutHolder 95 = .ok (.invokevirtual 156, 3) := by decide +kernel
theorem dX2_aboutHolder_98 : decode cX2_aboutHolder 98 = .ok (.ireturn, 1) := by decide +kernel
theorem dX2_aboutHolder_99 : decode cX2_aboutHolder 99 = .ok (.aload_n 0, 1) := by decide +kernel
theorem dX2_aboutHolder_100 : decode cX2_aboutHolder 100 = .ok (.iload_n 1, 1) := by decide +kernel
theorem dX2_aboutHolder_101 : decode cX2_aboutHolder 101 = .ok (.invokevirtual 209, 3) := by decide +kernel
theorem dX2_aboutHolder_104 : decode cX2_aboutHolder 104 = .ok (.ireturn, 1) := by decide +kernel
theorem dX2_aboutHolder_105 : decode cX2_aboutHolder 105 = .ok (.aload_n 0, 1) := by decide +kernel
theorem dX2_aboutHolder_106 : decode cX2_aboutHolder 106 = .ok (.getfield 21, 3) := by decide +kernel
theorem dX2_aboutHolder_109 : decode cX2_aboutHolder 109 = .ok (.iload_n 1, 1) := by decide +kernel
theorem dX2_aboutHolder_110 : decode cX2_aboutHolder 110 = .ok (.iload_n 2, 1) := by decide +kernel
theorem dX2_aboutHolder_111 : decode cX2_aboutHolder 111 = .ok (.invokevirtual 212, 3) := by decide +kernel
theorem dX2_aboutHolder_114 : decode cX2_aboutHolder 114 = .ok (.ireturn, 1) := by decide +kernel
set_option maxRecDepth 20000 in
theorem ggX2_aboutAll_X0_size : GoodIn wsX2_aboutAll wsX0_size := goodIn_r _ [18, 19, 67, 68, 69, 70] (by decide +kernel) (by decide +kernel)
set_option maxRecDepth 20000 in
theorem gX2_aboutAll_X0_size : GoodIn wsX2_aboutAll (wsV RX2 113 RX0 yX0_size wsX0_size) := goodIn_app (goodIn_of _ (by decide +kernel)) ggX2_aboutAll_X0_size
set_option maxRecDepth 20000 in
theorem ggX2_aboutAll_X2_commonOfAll : GoodIn wsX2_aboutAll wsX2_commonOfAll := goodIn_r _ [24, 1, 2, 4, 25, 26, 27, 17, 28, 29, 19, 30, 31, 32, 33, 34, 35, 36, 37, 38, 39, 40, 41, 42, 43, 44, 45, 46, 47, 48, 49, 50, 51, 52, 67, 68, 69, 70] (by decide +kernel) (by decide +kernel)
set_option maxRecDepth 20000 in
theorem gX2_aboutAll_X2_commonOfAll : GoodIn wsX2_aboutAll (wsV RX2 163 RX2 yX2_commonOfAll wsX2_commonOfAll) := goodIn_app (goodIn_of _ (by decide +kernel)) ggX2_aboutAll_X2_commonOfAll
theorem dX2_aboutAll_0 : decode cX2_aboutAll 0 = .ok (.iload_n 1, 1) := by decide +kernel
theorem dX2_aboutAll_1 : decode cX2_aboutAll 1 = .ok (.tableswitch 134 0 10 #[59, 67, 72, 80, 88, 93, 98, 114, 119, 124, 129], 59) := by decide +kernel
theorem dX2_aboutAll_60 : decode cX2_aboutAll 60 = .ok (.aload_n 0, 1) := by decide +kernel
theorem dX2_aboutAll_61 : decode cX2_aboutAll 61 = .ok (.getfield 12, 3) := by decide +kernel
theorem dX2_aboutAll_64 : decode cX2_aboutAll 64 = .ok (.getfield 79, 3) := by decide +kernel
theorem dX2_aboutAll_67 : decode cX2_aboutAll 67 = .ok (.ireturn, 1) := by decide +kernel
theorem dX2_aboutAll_68 : decode cX2_aboutAll 68 = .ok (.aload_n 0, 1) := by decide +kernel
theorem dX2_aboutAll_69 : decode cX2_aboutAll 69 = .ok (.getfield 56, 3) := by decide +kernel
theorem dX2_aboutAll_72 : decode cX2_aboutAll 72 = .ok (.ireturn, 1) := by decide +kernel
theorem dX2_aboutAll_73 : decode cX2_aboutAll 73 = .ok (.aload_n 0, 1) := by decide +kernel
theorem dX2_aboutAll_74 : decode cX2_aboutAll 74 = .ok (.getfield 21, 3) := by decide +kernel
theorem dX2_aboutAll_77 : decode cX2_aboutAll 77 = .ok (.invokevirtual 113, 3) := by decide +kernel
theorem dX2_aboutAll_80 : decode cX2_aboutAll 80 = .ok (.ireturn, 1) := by decide +kernel
theorem dX2_aboutAll_81 : decode cX2_aboutAll 81 = .ok (.aload_n 0, 1) := by decide +kernel
theorem dX2_aboutAll_82 : decode cX2_aboutAll 82 = .ok (.getfield 28, 3) := by decide +kernel
theorem dX2_aboutAll_85 : decode cX2_aboutAll 85 = .ok (.getfield 86, 3) := by decide +kernel
theorem dX2_aboutAll_88 : decode cX2_aboutAll 88 = .ok (.ireturn, 1) := by decide +kernel
theorem dX2_aboutAll_89 : decode cX2_aboutAll 89 = .ok (.aload_n 0, 1) := by decide +kernel
theorem dX2_aboutAll_90 : decode cX2_aboutAll 90 = .ok (.getfield 64, 3) := by decide +kernel
theorem dX2_aboutAll_93 : decode cX2_aboutAll 93 = .ok (.ireturn, 1) := by decide +kernel
theorem dX2_aboutAll_94 : decode cX2_aboutAll 94 = .ok (.aload_n 0, 1) := by decide +kernel
theorem dX2_aboutAll_95 : decode cX2_aboutAll 95 = .ok (.invokevirtual 163, 3) := by decide +kernel
theorem dX2_aboutAll_98 : decode cX2_aboutAll 98 = .ok (.ireturn, 1) := by decide +kernel
theorem dX2_aboutAll_99 : decode cX2_aboutAll 99 = .ok (.aload_n 0, 1) := by decide +kernel
theorem dX2_aboutAll_100 : decode cX2_aboutAll 100 = .ok (.getfield 35, 3) := by decide +kernel
theorem dX2_aboutAll_103 : decode cX2_aboutAll 103 = .ok (.getfield 109, 3) := by decide +kernel
theorem dX2_aboutAll_106 : decode cX2_aboutAll 106 = .ok (.ifCond .eq 7, 3) := by decide +kernel
theorem dX2_aboutAll_109 : decode cX2_aboutAll 109 = .ok (.iconst 1, 1) := by decide +kernel
theorem dX2_aboutAll_110 : decode cX2_aboutAll 110 = .ok (.goto 4, 3) := by decide +kernel
theorem dX2_aboutAll_113 : decode cX2_aboutAll 113 = .ok (.iconst 0, 1) := by decide +kernel
theorem dX2_aboutAll_114 : decode cX2_aboutAll 114 = .ok (.ireturn, 1) := by decide +kernel
theorem dX2_aboutAll_115 : decode cX2_aboutAll 115 = .ok (.aload_n 0, 1) := by decide +kernel
theorem dX2_aboutAll_116 : decode cX2_aboutAll 116 = .ok (.getfield 67, 3) := by decide +kernel
theorem dX2_aboutAll_119 : decode cX2_aboutAll 119 = .ok (.ireturn, 1) := by decide +kernel
theorem dX2_aboutAll_120 : decode cX2_aboutAll 120 = .ok (.aload_n 0, 1) := by decide +kernel
theorem dX2_aboutAll_121 : decode cX2_aboutAll 121 = .ok (.getfield 70, 3) := by decide +kernel
theorem dX2_aboutAll_124 : decode cX2_aboutAll 124 = .ok (.ireturn, 1) := by decide +kernel
theorem dX2_aboutAll_125 : decode cX2_aboutAll 125 = .ok (.aload_n 0, 1) := by decide +kernel
theorem dX2_aboutAll_126 : decode cX2_aboutAll 126 = .ok (.getfield 73, 3) := by decide +kernel
theorem dX2_aboutAll_129 : decode cX2_aboutAll 129 = .ok (.ireturn, 1) := by decide +kernel
theorem dX2_aboutAll_130 : decode cX2_aboutAll 130 = .ok (.aload_n 0, 1) := by decide +kernel
theorem dX2_aboutAll_131 : decode cX2_aboutAll 131 = .ok (.getfield 76, 3) := by decide +kernel
theorem dX2_aboutAll_134 : decode cX2_aboutAll 134 = .ok (.ireturn, 1) := by decide +kernel
theorem dX2_aboutAll_135 : decode cX2_aboutAll 135 = .ok (.iconst (-1), 1) := by decide +kernel
theorem dX2_aboutAll_136 : decode cX2_aboutAll 136 = .ok (.ireturn, 1) := by decide +kernel
set_option maxRecDepth 20000 in
theorem ggX2_commonOf_X0_sharesOwned : GoodIn wsX2_commonOf wsX0_sharesOwned := goodIn_r _ [8, 9, 10, 11, 35, 36, 37, 38] (by decide +kernel) (by decide +kernel)
set_option maxRecDepth 20000 in
theorem gX2_commonOf_X0_sharesOwned : GoodIn wsX2_commonOf (wsV RX2 212 RX0 yX0_sharesOwned wsX0_sharesOwned) := goodIn_app (goodIn_of _ (by decide +kernel)) ggX2_commonOf_X0_sharesOwned
set_option maxRecDepth 20000 in
theorem ggX2_commonOf_X1_common : GoodIn wsX2_commonOf wsX1_common := goodIn_r _ [16, 17, 29, 30, 31, 32, 33, 34] (by decide +kernel) (by decide +kernel)
set_option maxRecDepth 20000 in
theorem gX2_commonOf_X1_common : GoodIn wsX2_commonOf (wsV RX2 199 RX1 yX1_common wsX1_common) := goodIn_app (goodIn_of _ (by decide +kernel)) ggX2_commonOf_X1_common
theorem dX2_commonOf_0 : decode cX2_commonOf 0 = .ok (.iconst 0, 1) := by decide +kernel
theorem dX2_commonOf_1 : decode cX2_commonOf 1 = .ok (.istore_n 2, 1) := by decide +kernel
theorem dX2_commonOf_2 : decode cX2_commonOf 2 = .ok (.iconst 0, 1) := by decide +kernel
theorem dX2_commonOf_3 : decode cX2_commonOf 3 = .ok (.istore_n 3, 1) := by decide +kernel
theorem dX2_commonOf_4 : decode cX2_commonOf 4 = .ok (.iload_n 3, 1) := by decide +kernel
theorem dX2_commonOf_5 : decode cX2_commonOf 5 = .ok (.aload_n 0, 1) := by decide +kernel
theorem dX2_commonOf_6 : decode cX2_commonOf 6 = .ok (.getfield 12, 3) := by decide +kernel
theorem dX2_commonOf_9 : decode cX2_commonOf 9 = .ok (.getfield 79, 3) := by decide +kernel
theorem dX2_commonOf_12 : decode cX2_commonOf 12 = .ok (.if_icmp .ge 29, 3) := by decide +kernel
theorem dX2_commonOf_15 : decode cX2_commonOf 15 = .ok (.iload_n 2, 1) := by decide +kernel
theorem dX2_commonOf_16 : decode cX2_commonOf 16 = .ok (.aload_n 0, 1) := by decide +kernel
theorem dX2_commonOf_17 : decode cX2_commonOf 17 = .ok (.getfield 12, 3) := by decide +kernel
theorem dX2_commonOf_20 : decode cX2_commonOf 20 = .ok (.iload_n 3, 1) := by decide +kernel
theorem dX2_commonOf_21 : decode cX2_commonOf 21 = .ok (.aload_n 0, 1) := by decide +kernel
theorem dX2_commonOf_22 : decode cX2_commonOf 22 = .ok (.getfield 21, 3) := by decide +kernel
theorem dX2_commonOf_25 : decode cX2_commonOf 25 = .ok (.iload_n 1, 1) := by decide +kernel
theorem dX2_commonOf_26 : decode cX2_commonOf 26 = .ok (.iload_n 3, 1) := by decide +kernel
theorem dX2_commonOf_27 : decode cX2_commonOf 27 = .ok (.invokevirtual 212, 3) := by decide +kernel
theorem dX2_commonOf_30 : decode cX2_commonOf 30 = .ok (.invokevirtual 199, 3) := by decide +kernel
theorem dX2_commonOf_33 : decode cX2_commonOf 33 = .ok (.iadd, 1) := by decide +kernel
theorem dX2_commonOf_34 : decode cX2_commonOf 34 = .ok (.istore_n 2, 1) := by decide +kernel
theorem dX2_commonOf_35 : decode cX2_commonOf 35 = .ok (.iinc 3 1, 3) := by decide +kernel
theorem dX2_commonOf_38 : decode cX2_commonOf 38 = .ok (.goto (-34), 3) := by decide +kernel
theorem dX2_commonOf_41 : decode cX2_commonOf 41 = .ok (.iload_n 2, 1) := by decide +kernel
theorem dX2_commonOf_42 : decode cX2_commonOf 42 = .ok (.ireturn, 1) := by decide +kernel
set_option maxRecDepth 20000 in
theorem ggX2_commonOfAll_X0_sharesIn : GoodIn wsX2_commonOfAll wsX0_sharesIn := goodIn_r _ [8, 9, 10, 34, 35, 36, 37] (by decide +kernel) (by decide +kernel)
set_option maxRecDepth 20000 in
theorem gX2_commonOfAll_X0_sharesIn : GoodIn wsX2_commonOfAll (wsV RX2 192 RX0 yX0_sharesIn wsX0_sharesIn) := goodIn_app (goodIn_of _ (by decide +kernel)) ggX2_commonOfAll_X0_sharesIn
set_option maxRecDepth 20000 in
theorem ggX2_commonOfAll_X1_common : GoodIn wsX2_commonOfAll wsX1_common := goodIn_r _ [15, 16, 28, 29, 30, 31, 32, 33] (by decide +kernel) (by decide +kernel)
set_option maxRecDepth 20000 in
theorem gX2_commonOfAll_X1_common : GoodIn wsX2_commonOfAll (wsV RX2 199 RX1 yX1_common wsX1_common) := goodIn_app (goodIn_of _ (by decide +kernel)) ggX2_commonOfAll_X1_common
theorem dX2_commonOfAll_0 : decode cX2_commonOfAll 0 = .ok (.iconst 0, 1) := by decide +kernel
theorem dX2_commonOfAll_1 : decode cX2_commonOfAll 1 = .ok (.istore_n 1, 1) := by decide +kernel
theorem dX2_commonOfAll_2 : decode cX2_commonOfAll 2 = .ok (.iconst 0, 1) := by decide +kernel
theorem dX2_commonOfAll_3 : decode cX2_commonOfAll 3 = .ok (.istore_n 2, 1) := by decide +kernel
theorem dX2_commonOfAll_4 : decode cX2_commonOfAll 4 = .ok (.iload_n 2, 1) := by decide +kernel
theorem dX2_commonOfAll_5 : decode cX2_commonOfAll 5 = .ok (.aload_n 0, 1) := by decide +kernel
theorem dX2_commonOfAll_6 : decode cX2_commonOfAll 6 = .ok (.getfield 12, 3) := by decide +kernel
theorem dX2_commonOfAll_9 : decode cX2_commonOfAll 9 = .ok (.getfield 79, 3) := by decide +kernel
theorem dX2_commonOfAll_12 : decode cX2_commonOfAll 12 = .ok (.if_icmp .ge 28, 3) := by decide +kernel
theorem dX2_commonOfAll_15 : decode cX2_commonOfAll 15 = .ok (.iload_n 1, 1) := by decide +kernel
theorem dX2_commonOfAll_16 : decode cX2_commonOfAll 16 = .ok (.aload_n 0, 1) := by decide +kernel
theorem dX2_commonOfAll_17 : decode cX2_commonOfAll 17 = .ok (.getfield 12, 3) := by decide +kernel
theorem dX2_commonOfAll_20 : decode cX2_commonOfAll 20 = .ok (.iload_n 2, 1) := by decide +kernel
theorem dX2_commonOfAll_21 : decode cX2_commonOfAll 21 = .ok (.aload_n 0, 1) := by decide +kernel
theorem dX2_commonOfAll_22 : decode cX2_commonOfAll 22 = .ok (.getfield 21, 3) := by decide +kernel
theorem dX2_commonOfAll_25 : decode cX2_commonOfAll 25 = .ok (.iload_n 2, 1) := by decide +kernel
theorem dX2_commonOfAll_26 : decode cX2_commonOfAll 26 = .ok (.invokevirtual 192, 3) := by decide +kernel
theorem dX2_commonOfAll_29 : decode cX2_commonOfAll 29 = .ok (.invokevirtual 199, 3) := by decide +kernel
theorem dX2_commonOfAll_32 : decode cX2_commonOfAll 32 = .ok (.iadd, 1) := by decide +kernel
theorem dX2_commonOfAll_33 : decode cX2_commonOfAll 33 = .ok (.istore_n 1, 1) := by decide +kernel
theorem dX2_commonOfAll_34 : decode cX2_commonOfAll 34 = .ok (.iinc 2 1, 3) := by decide +kernel
theorem dX2_commonOfAll_37 : decode cX2_commonOfAll 37 = .ok (.goto (-33), 3) := by decide +kernel
theorem dX2_commonOfAll_40 : decode cX2_commonOfAll 40 = .ok (.iload_n 1, 1) := by decide +kernel
theorem dX2_commonOfAll_41 : decode cX2_commonOfAll 41 = .ok (.ireturn, 1) := by decide +kernel
set_option maxRecDepth 20000 in
theorem ggX2_thousandths_X2_commonOfAll : GoodIn wsX2_thousandths wsX2_commonOfAll := goodIn_r _ [5, 6, 7, 8, 9, 10, 11, 12, 13, 14, 15, 16, 17, 18, 19, 20, 21, 34, 35, 36, 37, 38, 39, 40, 41, 42, 43, 44, 45, 46, 47, 48, 49, 50, 51, 52, 53, 54] (by decide +kernel) (by decide +kernel)
set_option maxRecDepth 20000 in
theorem gX2_thousandths_X2_commonOfAll : GoodIn wsX2_thousandths (wsV RX2 163 RX2 yX2_commonOfAll wsX2_commonOfAll) := goodIn_app (goodIn_of _ (by decide +kernel)) ggX2_thousandths_X2_commonOfAll
set_option maxRecDepth 20000 in
theorem ggX2_thousandths_X2_commonOf : GoodIn wsX2_thousandths wsX2_commonOf := goodIn_r _ [25, 6, 7, 8, 26, 27, 28, 12, 29, 14, 30, 15, 16, 17, 18, 19, 20, 21, 34, 35, 36, 37, 38, 39, 40, 41, 42, 43, 44, 45, 46, 47, 48, 49, 50, 51, 52, 53, 54] (by decide +kernel) (by decide +kernel)
set_option maxRecDepth 20000 in
theorem gX2_thousandths_X2_commonOf : GoodIn wsX2_thousandths (wsV RX2 169 RX2 yX2_commonOf wsX2_commonOf) := goodIn_app (goodIn_of _ (by decide +kernel)) ggX2_thousandths_X2_commonOf
set_option maxRecDepth 20000 in
theorem ggX2_thousandths_X9_portion : GoodIn wsX2_thousandths wsX9_portion := goodIn_r _ [33] (by decide +kernel) (by decide +kernel)
set_option maxRecDepth 20000 in
theorem gX2_thousandths_X9_portion_n172 : GoodIn wsX2_thousandths (wsX9_portion) := ggX2_thousandths_X9_portion
theorem dX2_thousandths_0 : decode cX2_thousandths 0 = .ok (.aload_n 0, 1) := by decide +kernel
theorem dX2_thousandths_1 : decode cX2_thousandths 1 = .ok (.invokevirtual 163, 3) := by decide +kernel
theorem dX2_thousandths_4 : decode cX2_thousandths 4 = .ok (.istore_n 2, 1) := by decide +kernel
theorem dX2_thousandths_5 : decode cX2_thousandths 5 = .ok (.iload_n 2, 1) := by decide +kernel
theorem dX2_thousandths_6 : decode cX2_thousandths 6 = .ok (.ifCond .ne 8, 3) := by decide +kernel
theorem dX2_thousandths_9 : decode cX2_thousandths 9 = .ok (.bipush (-4), 2) := by decide +kernel
theorem dX2_thousandths_11 : decode cX2_thousandths 11 = .ok (.goto 15, 3) := by decide +kernel
theorem dX2_thousandths_14 : decode cX2_thousandths 14 = .ok (.sipush 1000, 3) := by decide +kernel
theorem dX2_thousandths_17 : decode cX2_thousandths 17 = .ok (.aload_n 0, 1) := by decide +kernel
theorem dX2_thousandths_18 : decode cX2_thousandths 18 = .ok (.iload_n 1, 1) := by decide +kernel
theorem dX2_thousandths_19 : decode cX2_thousandths 19 = .ok (.invokevirtual 169, 3) := by decide +kernel
theorem dX2_thousandths_22 : decode cX2_thousandths 22 = .ok (.iload_n 2, 1) := by decide +kernel
theorem dX2_thousandths_23 : decode cX2_thousandths 23 = .ok (.invokestatic 172, 3) := by decide +kernel
theorem dX2_thousandths_26 : decode cX2_thousandths 26 = .ok (.ireturn, 1) := by decide +kernel
theorem dX2_vested_0 : decode cX2_vested 0 = .ok (.aload_n 0, 1) := by decide +kernel
theorem dX2_vested_1 : decode cX2_vested 1 = .ok (.getfield 39, 3) := by decide +kernel
theorem dX2_vested_4 : decode cX2_vested 4 = .ok (.aload_n 0, 1) := by decide +kernel
theorem dX2_vested_5 : decode cX2_vested 5 = .ok (.getfield 28, 3) := by decide +kernel
theorem dX2_vested_8 : decode cX2_vested 8 = .ok (.getfield 132, 3) := by decide +kernel
theorem dX2_vested_11 : decode cX2_vested 11 = .ok (.iload_n 1, 1) := by decide +kernel
theorem dX2_vested_12 : decode cX2_vested 12 = .ok (.iaload, 1) := by decide +kernel
theorem dX2_vested_13 : decode cX2_vested 13 = .ok (.iaload, 1) := by decide +kernel
theorem dX2_vested_14 : decode cX2_vested 14 = .ok (.istore_n 2, 1) := by decide +kernel
theorem dX2_vested_15 : decode cX2_vested 15 = .ok (.iload_n 2, 1) := by decide +kernel
theorem dX2_vested_16 : decode cX2_vested 16 = .ok (.iconst (-1), 1) := by decide +kernel
theorem dX2_vested_17 : decode cX2_vested 17 = .ok (.if_icmp .ne 10, 3) := by decide +kernel
theorem dX2_vested_20 : decode cX2_vested 20 = .ok (.aload_n 0, 1) := by decide +kernel
theorem dX2_vested_21 : decode cX2_vested 21 = .ok (.getfield 64, 3) := by decide +kernel
theorem dX2_vested_24 : decode cX2_vested 24 = .ok (.goto 4, 3) := by decide +kernel
theorem dX2_vested_27 : decode cX2_vested 27 = .ok (.iload_n 2, 1) := by decide +kernel
theorem dX2_vested_28 : decode cX2_vested 28 = .ok (.aload_n 0, 1) := by decide +kernel
theorem dX2_vested_29 : decode cX2_vested 29 = .ok (.getfield 28, 3) := by decide +kernel
theorem dX2_vested_32 : decode cX2_vested 32 = .ok (.getfield 143, 3) := by decide +kernel
theorem dX2_vested_35 : decode cX2_vested 35 = .ok (.iload_n 1, 1) := by decide +kernel
theorem dX2_vested_36 : decode cX2_vested 36 = .ok (.iaload, 1) := by decide +kernel
theorem dX2_vested_37 : decode cX2_vested 37 = .ok (.isub, 1) := by decide +kernel
theorem dX2_vested_38 : decode cX2_vested 38 = .ok (.istore_n 3, 1) := by decide +kernel
theorem dX2_vested_39 : decode cX2_vested 39 = .ok (.aload_n 0, 1) := by decide +kernel
theorem dX2_vested_40 : decode cX2_vested 40 = .ok (.getfield 28, 3) := by decide +kernel
theorem dX2_vested_43 : decode cX2_vested 43 = .ok (.getfield 140, 3) := by decide +kernel
theorem dX2_vested_46 : decode cX2_vested 46 = .ok (.iload_n 1, 1) := by decide +kernel
theorem dX2_vested_47 : decode cX2_vested 47 = .ok (.iaload, 1) := by decide +kernel
theorem dX2_vested_48 : decode cX2_vested 48 = .ok (.istore 4, 2) := by decide +kernel
theorem dX2_vested_50 : decode cX2_vested 50 = .ok (.iload_n 3, 1) := by decide +kernel
theorem dX2_vested_51 : decode cX2_vested 51 = .ok (.aload_n 0, 1) := by decide +kernel
theorem dX2_vested_52 : decode cX2_vested 52 = .ok (.getfield 28, 3) := by decide +kernel
theorem dX2_vested_55 : decode cX2_vested 55 = .ok (.getfield 137, 3) := by decide +kernel
theorem dX2_vested_58 : decode cX2_vested 58 = .ok (.iload_n 1, 1) := by decide +kernel
theorem dX2_vested_59 : decode cX2_vested 59 = .ok (.iaload, 1) := by decide +kernel
theorem dX2_vested_60 : decode cX2_vested 60 = .ok (.if_icmp .ge 5, 3) := by decide +kernel
theorem dX2_vested_63 : decode cX2_vested 63 = .ok (.iconst 0, 1) := by decide +kernel
theorem dX2_vested_64 : decode cX2_vested 64 = .ok (.ireturn, 1) := by decide +kernel
theorem dX2_vested_65 : decode cX2_vested 65 = .ok (.iload 4, 2) := by decide +kernel
theorem dX2_vested_67 : decode cX2_vested 67 = .ok (.ifCond .le 9, 3) := by decide +kernel
theorem dX2_vested_70 : decode cX2_vested 70 = .ok (.iload_n 3, 1) := by decide +kernel
theorem dX2_vested_71 : decode cX2_vested 71 = .ok (.iload 4, 2) := by decide +kernel
theorem dX2_vested_73 : decode cX2_vested 73 = .ok (.if_icmp .lt 13, 3) := by decide +kernel
theorem dX2_vested_76 : decode cX2_vested 76 = .ok (.aload_n 0, 1) := by decide +kernel
theorem dX2_vested_77 : decode cX2_vested 77 = .ok (.getfield 28, 3) := by decide +kernel
theorem dX2_vested_80 : decode cX2_vested 80 = .ok (.getfield 133, 3) := by decide +kernel
theorem dX2_vested_83 : decode cX2_vested 83 = .ok (.iload_n 1, 1) := by decide +kernel
theorem dX2_vested_84 : decode cX2_vested 84 = .ok (.iaload, 1) := by decide +kernel
theorem dX2_vested_85 : decode cX2_vested 85 = .ok (.ireturn, 1) := by decide +kernel
theorem dX2_vested_86 : decode cX2_vested 86 = .ok (.aload_n 0, 1) := by decide +kernel
theorem dX2_vested_87 : decode cX2_vested 87 = .ok (.getfield 28, 3) := by decide +kernel
theorem dX2_vested_90 : decode cX2_vested 90 = .ok (.getfield 133, 3) := by decide +kernel
theorem dX2_vested_93 : decode cX2_vested 93 = .ok (.iload_n 1, 1) := by decide +kernel
theorem dX2_vested_94 : decode cX2_vested 94 = .ok (.iaload, 1) := by decide +kernel
theorem dX2_vested_95 : decode cX2_vested 95 = .ok (.iload_n 3, 1) := by decide +kernel
theorem dX2_vested_96 : decode cX2_vested 96 = .ok (.imul, 1) := by decide +kernel
theorem dX2_vested_97 : decode cX2_vested 97 = .ok (.iload 4, 2) := by decide +kernel
theorem dX2_vested_99 : decode cX2_vested 99 = .ok (.idiv, 1) := by decide +kernel
theorem dX2_vested_100 : decode cX2_vested 100 = .ok (.ireturn, 1) := by decide +kernel
set_option maxRecDepth 20000 in
theorem ggX2_takeable_X2_vested : GoodIn wsX2_takeable wsX2_vested := goodIn_r _ [10, 1, 2, 3, 4, 11, 12, 13, 14, 15, 16, 17, 18, 19, 20, 21, 22, 23, 24, 25, 26, 27, 28, 29, 30, 31, 32, 33] (by decide +kernel) (by decide +kernel)
set_option maxRecDepth 20000 in
theorem gX2_takeable_X2_vested : GoodIn wsX2_takeable (wsV RX2 203 RX2 yX2_vested wsX2_vested) := goodIn_app (goodIn_of _ (by decide +kernel)) ggX2_takeable_X2_vested
theorem dX2_takeable_0 : decode cX2_takeable 0 = .ok (.aload_n 0, 1) := by decide +kernel
theorem dX2_takeable_1 : decode cX2_takeable 1 = .ok (.getfield 39, 3) := by decide +kernel
theorem dX2_takeable_4 : decode cX2_takeable 4 = .ok (.aload_n 0, 1) := by decide +kernel
theorem dX2_takeable_5 : decode cX2_takeable 5 = .ok (.getfield 28, 3) := by decide +kernel
theorem dX2_takeable_8 : decode cX2_takeable 8 = .ok (.getfield 132, 3) := by decide +kernel
theorem dX2_takeable_11 : decode cX2_takeable 11 = .ok (.iload_n 1, 1) := by decide +kernel
theorem dX2_takeable_12 : decode cX2_takeable 12 = .ok (.iaload, 1) := by decide +kernel
theorem dX2_takeable_13 : decode cX2_takeable 13 = .ok (.iaload, 1) := by decide +kernel
theorem dX2_takeable_14 : decode cX2_takeable 14 = .ok (.istore_n 2, 1) := by decide +kernel
theorem dX2_takeable_15 : decode cX2_takeable 15 = .ok (.iload_n 2, 1) := by decide +kernel
theorem dX2_takeable_16 : decode cX2_takeable 16 = .ok (.iconst (-1), 1) := by decide +kernel
theorem dX2_takeable_17 : decode cX2_takeable 17 = .ok (.if_icmp .eq 15, 3) := by decide +kernel
theorem dX2_takeable_20 : decode cX2_takeable 20 = .ok (.aload_n 0, 1) := by decide +kernel
theorem dX2_takeable_21 : decode cX2_takeable 21 = .ok (.getfield 64, 3) := by decide +kernel
theorem dX2_takeable_24 : decode cX2_takeable 24 = .ok (.iload_n 2, 1) := by decide +kernel
theorem dX2_takeable_25 : decode cX2_takeable 25 = .ok (.isub, 1) := by decide +kernel
theorem dX2_takeable_26 : decode cX2_takeable 26 = .ok (.iconst 3, 1) := by decide +kernel
theorem dX2_takeable_27 : decode cX2_takeable 27 = .ok (.if_icmp .le 5, 3) := by decide +kernel
theorem dX2_takeable_30 : decode cX2_takeable 30 = .ok (.iconst 0, 1) := by decide +kernel
theorem dX2_takeable_31 : decode cX2_takeable 31 = .ok (.ireturn, 1) := by decide +kernel
theorem dX2_takeable_32 : decode cX2_takeable 32 = .ok (.aload_n 0, 1) := by decide +kernel
theorem dX2_takeable_33 : decode cX2_takeable 33 = .ok (.iload_n 1, 1) := by decide +kernel
theorem dX2_takeable_34 : decode cX2_takeable 34 = .ok (.invokevirtual 203, 3) := by decide +kernel
theorem dX2_takeable_37 : decode cX2_takeable 37 = .ok (.aload_n 0, 1) := by decide +kernel
theorem dX2_takeable_38 : decode cX2_takeable 38 = .ok (.getfield 28, 3) := by decide +kernel
theorem dX2_takeable_41 : decode cX2_takeable 41 = .ok (.getfield 146, 3) := by decide +kernel
theorem dX2_takeable_44 : decode cX2_takeable 44 = .ok (.iload_n 1, 1) := by decide +kernel
theorem dX2_takeable_45 : decode cX2_takeable 45 = .ok (.iaload, 1) := by decide +kernel
theorem dX2_takeable_46 : decode cX2_takeable 46 = .ok (.isub, 1) := by decide +kernel
theorem dX2_takeable_47 : decode cX2_takeable 47 = .ok (.ireturn, 1) := by decide +kernel
set_option maxRecDepth 20000 in
theorem ggX2_takeableOf_X2_takeable : GoodIn wsX2_takeableOf wsX2_takeable := goodIn_r _ [8, 9, 1, 3, 10, 11, 12, 13, 14, 7, 15, 16, 17, 18, 19, 20, 21, 22, 23, 24, 25, 26, 27, 28, 29, 30, 31, 32, 33, 34, 35, 36, 37, 38] (by decide +kernel) (by decide +kernel)
set_option maxRecDepth 20000 in
theorem gX2_takeableOf_X2_takeable : GoodIn wsX2_takeableOf (wsV RX2 152 RX2 yX2_takeable wsX2_takeable) := goodIn_app (goodIn_of _ (by decide +kernel)) ggX2_takeableOf_X2_takeable
theorem dX2_takeableOf_0 : decode cX2_takeableOf 0 = .ok (.iconst 0, 1) := by decide +kernel
theorem dX2_takeableOf_1 : decode cX2_takeableOf 1 = .ok (.istore_n 2, 1) := by decide +kernel
theorem dX2_takeableOf_2 : decode cX2_takeableOf 2 = .ok (.iconst 0, 1) := by decide +kernel
theorem dX2_takeableOf_3 : decode cX2_takeableOf 3 = .ok (.istore_n 3, 1) := by decide +kernel
theorem dX2_takeableOf_4 : decode cX2_takeableOf 4 = .ok (.iload_n 3, 1) := by decide +kernel
theorem dX2_takeableOf_5 : decode cX2_takeableOf 5 = .ok (.aload_n 0, 1) := by decide +kernel
theorem dX2_takeableOf_6 : decode cX2_takeableOf 6 = .ok (.getfield 28, 3) := by decide +kernel
theorem dX2_takeableOf_9 : decode cX2_takeableOf 9 = .ok (.getfield 86, 3) := by decide +kernel
theorem dX2_takeableOf_12 : decode cX2_takeableOf 12 = .ok (.if_icmp .ge 30, 3) := by decide +kernel
theorem dX2_takeableOf_15 : decode cX2_takeableOf 15 = .ok (.aload_n 0, 1) := by decide +kernel
theorem dX2_takeableOf_16 : decode cX2_takeableOf 16 = .ok (.getfield 28, 3) := by decide +kernel
theorem dX2_takeableOf_19 : decode cX2_takeableOf 19 = .ok (.getfield 132, 3) := by decide +kernel
theorem dX2_takeableOf_22 : decode cX2_takeableOf 22 = .ok (.iload_n 3, 1) := by decide +kernel
theorem dX2_takeableOf_23 : decode cX2_takeableOf 23 = .ok (.iaload, 1) := by decide +kernel
theorem dX2_takeableOf_24 : decode cX2_takeableOf 24 = .ok (.iload_n 1, 1) := by decide +kernel
theorem dX2_takeableOf_25 : decode cX2_takeableOf 25 = .ok (.if_icmp .ne 11, 3) := by decide +kernel
theorem dX2_takeableOf_28 : decode cX2_takeableOf 28 = .ok (.iload_n 2, 1) := by decide +kernel
theorem dX2_takeableOf_29 : decode cX2_takeableOf 29 = .ok (.aload_n 0, 1) := by decide +kernel
theorem dX2_takeableOf_30 : decode cX2_takeableOf 30 = .ok (.iload_n 3, 1) := by decide +kernel
theorem dX2_takeableOf_31 : decode cX2_takeableOf 31 = .ok (.invokevirtual 152, 3) := by decide +kernel
theorem dX2_takeableOf_34 : decode cX2_takeableOf 34 = .ok (.iadd, 1) := by decide +kernel
theorem dX2_takeableOf_35 : decode cX2_takeableOf 35 = .ok (.istore_n 2, 1) := by decide +kernel
theorem dX2_takeableOf_36 : decode cX2_takeableOf 36 = .ok (.iinc 3 1, 3) := by decide +kernel
theorem dX2_takeableOf_39 : decode cX2_takeableOf 39 = .ok (.goto (-35), 3) := by decide +kernel
theorem dX2_takeableOf_42 : decode cX2_takeableOf 42 = .ok (.iload_n 2, 1) := by decide +kernel
theorem dX2_takeableOf_43 : decode cX2_takeableOf 43 = .ok (.ireturn, 1) := by decide +kernel
theorem dX3_init_0 : decode cX3_init 0 = .ok (.aload_n 0, 1) := by decide +kernel
theorem dX3_init_1 : decode cX3_init 1 = .ok (.invokespecial 3, 3) := by decide +kernel
theorem dX3_init_4 : decode cX3_init 4 = .ok (.aload_n 0, 1) := by decide +kernel
theorem dX3_init_5 : decode cX3_init 5 = .ok (.iconst 5, 1) := by decide +kernel
theorem dX3_init_6 : decode cX3_init 6 = .ok (.newarray .int, 2) := by decide +kernel
theorem dX3_init_8 : decode cX3_init 8 = .ok (.putfield 9, 3) := by decide +kernel
theorem dX3_init_11 : decode cX3_init 11 = .ok (.aload_n 0, 1) := by decide +kernel
theorem dX3_init_12 : decode cX3_init 12 = .ok (.iconst 5, 1) := by decide +kernel
theorem dX3_init_13 : decode cX3_init 13 = .ok (.newarray .int, 2) := by decide +kernel
theorem dX3_init_15 : decode cX3_init 15 = .ok (.putfield 15, 3) := by decide +kernel
theorem dX3_init_18 : decode cX3_init 18 = .ok (.aload_n 0, 1) := by decide +kernel
theorem dX3_init_19 : decode cX3_init 19 = .ok (.iconst 5, 1) := by decide +kernel
theorem dX3_init_20 : decode cX3_init 20 = .ok (.newarray .int, 2) := by decide +kernel
theorem dX3_init_22 : decode cX3_init 22 = .ok (.putfield 18, 3) := by decide +kernel
theorem dX3_init_25 : decode cX3_init 25 = .ok (.aload_n 0, 1) := by decide +kernel
theorem dX3_init_26 : decode cX3_init 26 = .ok (.iconst 5, 1) := by decide +kernel
theorem dX3_init_27 : decode cX3_init 27 = .ok (.newarray .int, 2) := by decide +kernel
theorem dX3_init_29 : decode cX3_init 29 = .ok (.putfield 21, 3) := by decide +kernel
theorem dX3_init_32 : decode cX3_init 32 = .ok (.aload_n 0, 1) := by decide +kernel
theorem dX3_init_33 : decode cX3_init 33 = .ok (.iconst 5, 1) := by decide +kernel
theorem dX3_init_34 : decode cX3_init 34 = .ok (.newarray .int, 2) := by decide +kernel
theorem dX3_init_36 : decode cX3_init 36 = .ok (.putfield 24, 3) := by decide +kernel
theorem dX3_init_39 : decode cX3_init 39 = .ok (.aload_n 0, 1) := by decide +kernel
theorem dX3_init_40 : decode cX3_init 40 = .ok (.iconst 5, 1) := by decide +kernel
theorem dX3_init_41 : decode cX3_init 41 = .ok (.newarray .int, 2) := by decide +kernel
theorem dX3_init_43 : decode cX3_init 43 = .ok (.putfield 27, 3) := by decide +kernel
theorem dX3_init_46 : decode cX3_init 46 = .ok (.return_, 1) := by decide +kernel
set_option maxRecDepth 20000 in
theorem ggX3_reckon_X3_readClasses : GoodIn wsX3_reckon wsX3_readClasses := goodIn_r _ [7, 8, 9, 2, 10, 11, 12, 13, 14, 15, 16, 17, 18, 19, 20, 21, 22, 23, 24, 25, 26, 27, 28, 29, 30, 31, 32, 33, 34, 35, 36, 95, 96, 97, 98, 99, 100, 101, 102, 103, 104, 105, 106, 107, 108, 109, 110, 111, 87, 88, 89, 90, 91, 92, 93, 94, 112, 113, 114, 115] (by decide +kernel) (by decide +kernel)
set_option maxRecDepth 20000 in
theorem gX3_reckon_X3_readClasses : GoodIn wsX3_reckon (wsV RX3 30 RX3 yX3_readClasses wsX3_readClasses) := goodIn_app (goodIn_of _ (by decide +kernel)) ggX3_reckon_X3_readClasses
set_option maxRecDepth 20000 in
theorem ggX3_reckon_X3_nextToConvert : GoodIn wsX3_reckon wsX3_nextToConvert := goodIn_r _ [40, 2, 10, 1, 41, 42, 43, 44, 45, 46, 47, 6, 48, 49, 50, 51, 52, 53, 54, 55, 56, 12, 57, 58, 59, 60, 14, 61, 62, 63, 64, 65, 66, 67, 68, 69, 70, 71, 72, 73, 74, 16, 75, 76, 77, 78, 13, 79, 80, 81, 82, 83, 84, 85, 86, 87, 88, 89, 90, 91, 92, 93, 94] (by decide +kernel) (by decide +kernel)
set_option maxRecDepth 20000 in
theorem gX3_reckon_X3_nextToConvert : GoodIn wsX3_reckon (wsV RX3 41 RX3 yX3_nextToConvert wsX3_nextToConvert) := goodIn_app (goodIn_of _ (by decide +kernel)) ggX3_reckon_X3_nextToConvert
set_option maxRecDepth 20000 in
theorem ggX3_reckon_X3_payOut : GoodIn wsX3_reckon wsX3_payOut := goodIn_r _ [48, 2, 41, 49, 50, 51, 52, 53, 54, 55, 6, 56, 12, 57, 58, 59, 60, 14, 10, 42, 43, 44, 61, 62, 63, 64, 65, 66, 67, 68, 69, 70, 71, 72, 73, 74, 16, 75, 76, 77, 78, 13, 79, 80, 81, 82, 83, 84, 85, 86, 87, 88, 89, 90, 91, 92, 93, 94] (by decide +kernel) (by decide +kernel)
set_option maxRecDepth 20000 in
theorem gX3_reckon_X3_payOut : GoodIn wsX3_reckon (wsV RX3 45 RX3 yX3_payOut wsX3_payOut) := goodIn_app (goodIn_of _ (by decide +kernel)) ggX3_reckon_X3_payOut
theorem dX3_reckon_0 : decode cX3_reckon 0 = .ok (.aload_n 0, 1) := by decide +kernel
theorem dX3_reckon_1 : decode cX3_reckon 1 = .ok (.aload_n 1, 1) := by decide +kernel
theorem dX3_reckon_2 : decode cX3_reckon 2 = .ok (.invokevirtual 30, 3) := by decide +kernel
theorem dX3_reckon_5 : decode cX3_reckon 5 = .ok (.aload_n 0, 1) := by decide +kernel
theorem dX3_reckon_6 : decode cX3_reckon 6 = .ok (.iconst 0, 1) := by decide +kernel
theorem dX3_reckon_7 : decode cX3_reckon 7 = .ok (.putfield 34, 3) := by decide +kernel
theorem dX3_reckon_10 : decode cX3_reckon 10 = .ok (.iconst 1, 1) := by decide +kernel
theorem dX3_reckon_11 : decode cX3_reckon 11 = .ok (.istore_n 3, 1) := by decide +kernel
theorem dX3_reckon_12 : decode cX3_reckon 12 = .ok (.iload_n 3, 1) := by decide +kernel
theorem dX3_reckon_13 : decode cX3_reckon 13 = .ok (.aload_n 0, 1) := by decide +kernel
theorem dX3_reckon_14 : decode cX3_reckon 14 = .ok (.getfield 38, 3) := by decide +kernel
theorem dX3_reckon_17 : decode cX3_reckon 17 = .ok (.if_icmp .ge 38, 3) := by decide +kernel
theorem dX3_reckon_20 : decode cX3_reckon 20 = .ok (.aload_n 0, 1) := by decide +kernel
theorem dX3_reckon_21 : decode cX3_reckon 21 = .ok (.iload_n 2, 1) := by decide +kernel
theorem dX3_reckon_22 : decode cX3_reckon 22 = .ok (.invokevirtual 41, 3) := by decide +kernel
theorem dX3_reckon_25 : decode cX3_reckon 25 = .ok (.istore 4, 2) := by decide +kernel
theorem dX3_reckon_27 : decode cX3_reckon 27 = .ok (.iload 4, 2) := by decide +kernel
theorem dX3_reckon_29 : decode cX3_reckon 29 = .ok (.iconst (-1), 1) := by decide +kernel
theorem dX3_reckon_30 : decode cX3_reckon 30 = .ok (.if_icmp .ne 6, 3) := by decide +kernel
theorem dX3_reckon_33 : decode cX3_reckon 33 = .ok (.goto 22, 3) := by decide +kernel
theorem dX3_reckon_36 : decode cX3_reckon 36 = .ok (.aload_n 0, 1) := by decide +kernel
theorem dX3_reckon_37 : decode cX3_reckon 37 = .ok (.dup, 1) := by decide +kernel
theorem dX3_reckon_38 : decode cX3_reckon 38 = .ok (.getfield 34, 3) := by decide +kernel
theorem dX3_reckon_41 : decode cX3_reckon 41 = .ok (.iconst 1, 1) := by decide +kernel
theorem dX3_reckon_42 : decode cX3_reckon 42 = .ok (.iload 4, 2) := by decide +kernel
theorem dX3_reckon_44 : decode cX3_reckon 44 = .ok (.ishl, 1) := by decide +kernel
theorem dX3_reckon_45 : decode cX3_reckon 45 = .ok (.ior, 1) := by decide +kernel
theorem dX3_reckon_46 : decode cX3_reckon 46 = .ok (.putfield 34, 3) := by decide +kernel
theorem dX3_reckon_49 : decode cX3_reckon 49 = .ok (.iinc 3 1, 3) := by decide +kernel
theorem dX3_reckon_52 : decode cX3_reckon 52 = .ok (.goto (-40), 3) := by decide +kernel
theorem dX3_reckon_55 : decode cX3_reckon 55 = .ok (.aload_n 0, 1) := by decide +kernel
theorem dX3_reckon_56 : decode cX3_reckon 56 = .ok (.iload_n 2, 1) := by decide +kernel
theorem dX3_reckon_57 : decode cX3_reckon 57 = .ok (.aload_n 0, 1) := by decide +kernel
theorem dX3_reckon_58 : decode cX3_reckon 58 = .ok (.getfield 34, 3) := by decide +kernel
theorem dX3_reckon_61 : decode cX3_reckon 61 = .ok (.invokevirtual 45, 3) := by decide +kernel
theorem dX3_reckon_64 : decode cX3_reckon 64 = .ok (.return_, 1) := by decide +kernel
set_option maxRecDepth 20000 in
theorem ggX3_gainOfHolder_X0_sharesOwned : GoodIn wsX3_gainOfHolder wsX0_sharesOwned := goodIn_r _ [9, 10, 11, 12, 35, 36, 37, 38] (by decide +kernel) (by decide +kernel)
set_option maxRecDepth 20000 in
theorem gX3_gainOfHolder_X0_sharesOwned : GoodIn wsX3_gainOfHolder (wsV RX3 55 RX0 yX0_sharesOwned wsX0_sharesOwned) := goodIn_app (goodIn_of _ (by decide +kernel)) ggX3_gainOfHolder_X0_sharesOwned
set_option maxRecDepth 20000 in
theorem ggX3_gainOfHolder_X9_portion : GoodIn wsX3_gainOfHolder wsX9_portion := goodIn_r _ [15] (by decide +kernel) (by decide +kernel)
set_option maxRecDepth 20000 in
theorem gX3_gainOfHolder_X9_portion_n61 : GoodIn wsX3_gainOfHolder (wsX9_portion) := ggX3_gainOfHolder_X9_portion
theorem dX3_gainOfHolder_0 : decode cX3_gainOfHolder 0 = .ok (.iconst 0, 1) := by decide +kernel
theorem dX3_gainOfHolder_1 : decode cX3_gainOfHolder 1 = .ok (.istore_n 3, 1) := by decide +kernel
theorem dX3_gainOfHolder_2 : decode cX3_gainOfHolder 2 = .ok (.iconst 0, 1) := by decide +kernel
theorem dX3_gainOfHolder_3 : decode cX3_gainOfHolder 3 = .ok (.istore 4, 2) := by decide +kernel
theorem dX3_gainOfHolder_5 : decode cX3_gainOfHolder 5 = .ok (.iload 4, 2) := by decide +kernel
theorem dX3_gainOfHolder_7 : decode cX3_gainOfHolder 7 = .ok (.aload_n 0, 1) := by decide +kernel
theorem dX3_gainOfHolder_8 : decode cX3_gainOfHolder 8 = .ok (.getfield 38, 3) := by decide +kernel
theorem dX3_gainOfHolder_11 : decode cX3_gainOfHolder 11 = .ok (.if_icmp .ge 39, 3) := by decide +kernel
theorem dX3_gainOfHolder_14 : decode cX3_gainOfHolder 14 = .ok (.iload_n 3, 1) := by decide +kernel
theorem dX3_gainOfHolder_15 : decode cX3_gainOfHolder 15 = .ok (.aload_n 0, 1) := by decide +kernel
theorem dX3_gainOfHolder_16 : decode cX3_gainOfHolder 16 = .ok (.getfield 9, 3) := by decide +kernel
theorem dX3_gainOfHolder_19 : decode cX3_gainOfHolder 19 = .ok (.iload 4, 2) := by decide +kernel
theorem dX3_gainOfHolder_21 : decode cX3_gainOfHolder 21 = .ok (.iaload, 1) := by decide +kernel
theorem dX3_gainOfHolder_22 : decode cX3_gainOfHolder 22 = .ok (.aload_n 1, 1) := by decide +kernel
theorem dX3_gainOfHolder_23 : decode cX3_gainOfHolder 23 = .ok (.getfield 49, 3) := by decide +kernel
theorem dX3_gainOfHolder_26 : decode cX3_gainOfHolder 26 = .ok (.iload_n 2, 1) := by decide +kernel
theorem dX3_gainOfHolder_27 : decode cX3_gainOfHolder 27 = .ok (.iload 4, 2) := by decide +kernel
theorem dX3_gainOfHolder_29 : decode cX3_gainOfHolder 29 = .ok (.invokevirtual 55, 3) := by decide +kernel
theorem dX3_gainOfHolder_32 : decode cX3_gainOfHolder 32 = .ok (.aload_n 0, 1) := by decide +kernel
theorem dX3_gainOfHolder_33 : decode cX3_gainOfHolder 33 = .ok (.getfield 15, 3) := by decide +kernel
theorem dX3_gainOfHolder_36 : decode cX3_gainOfHolder 36 = .ok (.iload 4, 2) := by decide +kernel
theorem dX3_gainOfHolder_38 : decode cX3_gainOfHolder 38 = .ok (.iaload, 1) := by decide +kernel
theorem dX3_gainOfHolder_39 : decode cX3_gainOfHolder 39 = .ok (.invokestatic 61, 3) := by decide +kernel
theorem dX3_gainOfHolder_42 : decode cX3_gainOfHolder 42 = .ok (.iadd, 1) := by decide +kernel
theorem dX3_gainOfHolder_43 : decode cX3_gainOfHolder 43 = .ok (.istore_n 3, 1) := by decide +kernel
theorem dX3_gainOfHolder_44 : decode cX3_gainOfHolder 44 = .ok (.iinc 4 1, 3) := by decide +kernel
theorem dX3_gainOfHolder_47 : decode cX3_gainOfHolder 47 = .ok (.goto (-42), 3) := by decide +kernel
theorem dX3_gainOfHolder_50 : decode cX3_gainOfHolder 50 = .ok (.iload_n 3, 1) := by decide +kernel
theorem dX3_gainOfHolder_51 : decode cX3_gainOfHolder 51 = .ok (.ireturn, 1) := by decide +kernel
set_option maxRecDepth 20000 in
theorem ggX3_classAt_X3_classesAhead : GoodIn wsX3_classAt wsX3_classesAhead := goodIn_r _ [6, 1, 7, 8, 9, 10, 11, 12, 13, 14, 15] (by decide +kernel) (by decide +kernel)
set_option maxRecDepth 20000 in
theorem gX3_classAt_X3_classesAhead : GoodIn wsX3_classAt (wsV RX3 65 RX3 yX3_classesAhead wsX3_classesAhead) := goodIn_app (goodIn_of _ (by decide +kernel)) ggX3_classAt_X3_classesAhead
theorem dX3_classAt_0 : decode cX3_classAt 0 = .ok (.iconst 0, 1) := by decide +kernel
theorem dX3_classAt_1 : decode cX3_classAt 1 = .ok (.istore_n 2, 1) := by decide +kernel
theorem dX3_classAt_2 : decode cX3_classAt 2 = .ok (.iload_n 2, 1) := by decide +kernel
theorem dX3_classAt_3 : decode cX3_classAt 3 = .ok (.aload_n 0, 1) := by decide +kernel
theorem dX3_classAt_4 : decode cX3_classAt 4 = .ok (.getfield 38, 3) := by decide +kernel
theorem dX3_classAt_7 : decode cX3_classAt 7 = .ok (.if_icmp .ge 20, 3) := by decide +kernel
theorem dX3_classAt_10 : decode cX3_classAt 10 = .ok (.aload_n 0, 1) := by decide +kernel
theorem dX3_classAt_11 : decode cX3_classAt 11 = .ok (.iload_n 2, 1) := by decide +kernel
theorem dX3_classAt_12 : decode cX3_classAt 12 = .ok (.invokevirtual 65, 3) := by decide +kernel
theorem dX3_classAt_15 : decode cX3_classAt 15 = .ok (.iload_n 1, 1) := by decide +kernel
theorem dX3_classAt_16 : decode cX3_classAt 16 = .ok (.if_icmp .ne 5, 3) := by decide +kernel
theorem dX3_classAt_19 : decode cX3_classAt 19 = .ok (.iload_n 2, 1) := by decide +kernel
theorem dX3_classAt_20 : decode cX3_classAt 20 = .ok (.ireturn, 1) := by decide +kernel
theorem dX3_classAt_21 : decode cX3_classAt 21 = .ok (.iinc 2 1, 3) := by decide +kernel
theorem dX3_classAt_24 : decode cX3_classAt 24 = .ok (.goto (-22), 3) := by decide +kernel
theorem dX3_classAt_27 : decode cX3_classAt 27 = .ok (.bipush (-4), 2) := by decide +kernel
theorem dX3_classAt_29 : decode cX3_classAt 29 = .ok (.ireturn, 1) := by decide +kernel
theorem dX3_classesAhead_0 : decode cX3_classesAhead 0 = .ok (.iconst 0, 1) := by decide +kernel
theorem dX3_classesAhead_1 : decode cX3_classesAhead 1 = .ok (.istore_n 2, 1) := by decide +kernel
theorem dX3_classesAhead_2 : decode cX3_classesAhead 2 = .ok (.iconst 0, 1) := by decide +kernel
theorem dX3_classesAhead_3 : decode cX3_classesAhead 3 = .ok (.istore_n 3, 1) := by decide +kernel
theorem dX3_classesAhead_4 : decode cX3_classesAhead 4 = .ok (.iload_n 3, 1) := by decide +kernel
theorem dX3_classesAhead_5 : decode cX3_classesAhead 5 = .ok (.aload_n 0, 1) := by decide +kernel
theorem dX3_classesAhead_6 : decode cX3_classesAhead 6 = .ok (.getfield 38, 3) := by decide +kernel
theorem dX3_classesAhead_9 : decode cX3_classesAhead 9 = .ok (.if_icmp .ge 47, 3) := by decide +kernel
theorem dX3_classesAhead_12 : decode cX3_classesAhead 12 = .ok (.aload_n 0, 1) := by decide +kernel
theorem dX3_classesAhead_13 : decode cX3_classesAhead 13 = .ok (.getfield 9, 3) := by decide +kernel
theorem dX3_classesAhead_16 : decode cX3_classesAhead 16 = .ok (.iload_n 3, 1) := by decide +kernel
theorem dX3_classesAhead_17 : decode cX3_classesAhead 17 = .ok (.iaload, 1) := by decide +kernel
theorem dX3_classesAhead_18 : decode cX3_classesAhead 18 = .ok (.aload_n 0, 1) := by decide +kernel
theorem dX3_classesAhead_19 : decode cX3_classesAhead 19 = .ok (.getfield 9, 3) := by decide +kernel
theorem dX3_classesAhead_22 : decode cX3_classesAhead 22 = .ok (.iload_n 1, 1) := by decide +kernel
theorem dX3_classesAhead_23 : decode cX3_classesAhead 23 = .ok (.iaload, 1) := by decide +kernel
theorem dX3_classesAhead_24 : decode cX3_classesAhead 24 = .ok (.if_icmp .gt 23, 3) := by decide +kernel
theorem dX3_classesAhead_27 : decode cX3_classesAhead 27 = .ok (.aload_n 0, 1) := by decide +kernel
theorem dX3_classesAhead_28 : decode cX3_classesAhead 28 = .ok (.getfield 9, 3) := by decide +kernel
theorem dX3_classesAhead_31 : decode cX3_classesAhead 31 = .ok (.iload_n 3, 1) := by decide +kernel
theorem dX3_classesAhead_32 : decode cX3_classesAhead 32 = .ok (.iaload, 1) := by decide +kernel
theorem dX3_classesAhead_33 : decode cX3_classesAhead 33 = .ok (.aload_n 0, 1) := by decide +kernel
theorem dX3_classesAhead_34 : decode cX3_classesAhead 34 = .ok (.getfield 9, 3) := by decide +kernel
theorem dX3_classesAhead_37 : decode cX3_classesAhead 37 = .ok (.iload_n 1, 1) := by decide +kernel
theorem dX3_classesAhead_38 : decode cX3_classesAhead 38 = .ok (.iaload, 1) := by decide +kernel
theorem dX3_classesAhead_39 : decode cX3_classesAhead 39 = .ok (.if_icmp .ne 11, 3) := by decide +kernel
theorem dX3_classesAhead_42 : decode cX3_classesAhead 42 = .ok (.iload_n 3, 1) := by decide +kernel
theorem dX3_classesAhead_43 : decode cX3_classesAhead 43 = .ok (.iload_n 1, 1) := by decide +kernel
theorem dX3_classesAhead_44 : decode cX3_classesAhead 44 = .ok (.if_icmp .ge 6, 3) := by decide +kernel
theorem dX3_classesAhead_47 : decode cX3_classesAhead 47 = .ok (.iinc 2 1, 3) := by decide +kernel
theorem dX3_classesAhead_50 : decode cX3_classesAhead 50 = .ok (.iinc 3 1, 3) := by decide +kernel
theorem dX3_classesAhead_53 : decode cX3_classesAhead 53 = .ok (.goto (-49), 3) := by decide +kernel
theorem dX3_classesAhead_56 : decode cX3_classesAhead 56 = .ok (.iload_n 2, 1) := by decide +kernel
theorem dX3_classesAhead_57 : decode cX3_classesAhead 57 = .ok (.ireturn, 1) := by decide +kernel
set_option maxRecDepth 20000 in
theorem ggX3_readClasses_X0_sharesIn : GoodIn wsX3_readClasses wsX0_sharesIn := goodIn_r _ [16, 17, 18, 56, 57, 58, 59] (by decide +kernel) (by decide +kernel)
set_option maxRecDepth 20000 in
theorem gX3_readClasses_X0_sharesIn : GoodIn wsX3_readClasses (wsV RX3 75 RX0 yX0_sharesIn wsX0_sharesIn) := goodIn_app (goodIn_of _ (by decide +kernel)) ggX3_readClasses_X0_sharesIn
set_option maxRecDepth 20000 in
theorem ggX3_readClasses_X1_preference : GoodIn wsX3_readClasses wsX1_preference := goodIn_r _ [23, 24, 25, 42, 43, 44, 45, 46, 47] (by decide +kernel) (by decide +kernel)
set_option maxRecDepth 20000 in
theorem gX3_readClasses_X1_preference : GoodIn wsX3_readClasses (wsV RX3 78 RX1 yX1_preference wsX1_preference) := goodIn_app (goodIn_of _ (by decide +kernel)) ggX3_readClasses_X1_preference
set_option maxRecDepth 20000 in
theorem ggX3_readClasses_X1_common : GoodIn wsX3_readClasses wsX1_common := goodIn_r _ [29, 30, 42, 43, 44, 45, 46, 47] (by decide +kernel) (by decide +kernel)
set_option maxRecDepth 20000 in
theorem gX3_readClasses_X1_common : GoodIn wsX3_readClasses (wsV RX3 80 RX1 yX1_common wsX1_common) := goodIn_app (goodIn_of _ (by decide +kernel)) ggX3_readClasses_X1_common
theorem dX3_readClasses_0 : decode cX3_readClasses 0 = .ok (.aload_n 0, 1) := by decide +kernel
theorem dX3_readClasses_1 : decode cX3_readClasses 1 = .ok (.aload_n 1, 1) := by decide +kernel
theorem dX3_readClasses_2 : decode cX3_readClasses 2 = .ok (.getfield 68, 3) := by decide +kernel
theorem dX3_readClasses_5 : decode cX3_readClasses 5 = .ok (.getfield 72, 3) := by decide +kernel
theorem dX3_readClasses_8 : decode cX3_readClasses 8 = .ok (.putfield 38, 3) := by decide +kernel
theorem dX3_readClasses_11 : decode cX3_readClasses 11 = .ok (.iconst 0, 1) := by decide +kernel
theorem dX3_readClasses_12 : decode cX3_readClasses 12 = .ok (.istore_n 2, 1) := by decide +kernel
theorem dX3_readClasses_13 : decode cX3_readClasses 13 = .ok (.iload_n 2, 1) := by decide +kernel
theorem dX3_readClasses_14 : decode cX3_readClasses 14 = .ok (.aload_n 0, 1) := by decide +kernel
theorem dX3_readClasses_15 : decode cX3_readClasses 15 = .ok (.getfield 38, 3) := by decide +kernel
theorem dX3_readClasses_18 : decode cX3_readClasses 18 = .ok (.if_icmp .ge 93, 3) := by decide +kernel
theorem dX3_readClasses_21 : decode cX3_readClasses 21 = .ok (.aload_n 0, 1) := by decide +kernel
theorem dX3_readClasses_22 : decode cX3_readClasses 22 = .ok (.getfield 15, 3) := by decide +kernel
theorem dX3_readClasses_25 : decode cX3_readClasses 25 = .ok (.iload_n 2, 1) := by decide +kernel
theorem dX3_readClasses_26 : decode cX3_readClasses 26 = .ok (.aload_n 1, 1) := by decide +kernel
theorem dX3_readClasses_27 : decode cX3_readClasses 27 = .ok (.getfield 49, 3) := by decide +kernel
theorem dX3_readClasses_30 : decode cX3_readClasses 30 = .ok (.iload_n 2, 1) := by decide +kernel
theorem dX3_readClasses_31 : decode cX3_readClasses 31 = .ok (.invokevirtual 75, 3) := by decide +kernel
theorem dX3_readClasses_34 : decode cX3_readClasses 34 = .ok (.iastore, 1) := by decide +kernel
theorem dX3_readClasses_35 : decode cX3_readClasses 35 = .ok (.aload_n 0, 1) := by decide +kernel
theorem dX3_readClasses_36 : decode cX3_readClasses 36 = .ok (.getfield 18, 3) := by decide +kernel
theorem dX3_readClasses_39 : decode cX3_readClasses 39 = .ok (.iload_n 2, 1) := by decide +kernel
theorem dX3_readClasses_40 : decode cX3_readClasses 40 = .ok (.aload_n 1, 1) := by decide +kernel
theorem dX3_readClasses_41 : decode cX3_readClasses 41 = .ok (.getfield 68, 3) := by decide +kernel
theorem dX3_readClasses_44 : decode cX3_readClasses 44 = .ok (.iload_n 2, 1) := by decide +kernel
theorem dX3_readClasses_45 : decode cX3_readClasses 45 = .ok (.aload_n 0, 1) := by decide +kernel
theorem dX3_readClasses_46 : decode cX3_readClasses 46 = .ok (.getfield 15, 3) := by decide +kernel
theorem dX3_readClasses_49 : decode cX3_readClasses 49 = .ok (.iload_n 2, 1) := by decide +kernel
theorem dX3_readClasses_50 : decode cX3_readClasses 50 = .ok (.iaload, 1) := by decide +kernel
theorem dX3_readClasses_51 : decode cX3_readClasses 51 = .ok (.invokevirtual 78, 3) := by decide +kernel
theorem dX3_readClasses_54 : decode cX3_readClasses 54 = .ok (.iastore, 1) := by decide +kernel
theorem dX3_readClasses_55 : decode cX3_readClasses 55 = .ok (.aload_n 0, 1) := by decide +kernel
theorem dX3_readClasses_56 : decode cX3_readClasses 56 = .ok (.getfield 21, 3) := by decide +kernel
theorem dX3_readClasses_59 : decode cX3_readClasses 59 = .ok (.iload_n 2, 1) := by decide +kernel
theorem dX3_readClasses_60 : decode cX3_readClasses 60 = .ok (.aload_n 1, 1) := by decide +kernel
theorem dX3_readClasses_61 : decode cX3_readClasses 61 = .ok (.getfield 68, 3) := by decide +kernel
theorem dX3_readClasses_64 : decode cX3_readClasses 64 = .ok (.iload_n 2, 1) := by decide +kernel
theorem dX3_readClasses_65 : decode cX3_readClasses 65 = .ok (.aload_n 0, 1) := by decide +kernel
theorem dX3_readClasses_66 : decode cX3_readClasses 66 = .ok (.getfield 15, 3) := by decide +kernel
theorem dX3_readClasses_69 : decode cX3_readClasses 69 = .ok (.iload_n 2, 1) := by decide +kernel
theorem dX3_readClasses_70 : decode cX3_readClasses 70 = .ok (.iaload, 1) := by decide +kernel
theorem dX3_readClasses_71 : decode cX3_readClasses 71 = .ok (.invokevirtual 80, 3) := by decide +kernel
theorem dX3_readClasses_74 : decode cX3_readClasses 74 = .ok (.iastore, 1) := by decide +kernel
theorem dX3_readClasses_75 : decode cX3_readClasses 75 = .ok (.aload_n 0, 1) := by decide +kernel
theorem dX3_readClasses_76 : decode cX3_readClasses 76 = .ok (.getfield 24, 3) := by decide +kernel
theorem dX3_readClasses_79 : decode cX3_readClasses 79 = .ok (.iload_n 2, 1) := by decide +kernel
theorem dX3_readClasses_80 : decode cX3_readClasses 80 = .ok (.aload_n 1, 1) := by decide +kernel
theorem dX3_readClasses_81 : decode cX3_readClasses 81 = .ok (.getfield 68, 3) := by decide +kernel
theorem dX3_readClasses_84 : decode cX3_readClasses 84 = .ok (.getfield 82, 3) := by decide +kernel
theorem dX3_readClasses_87 : decode cX3_readClasses 87 = .ok (.iload_n 2, 1) := by decide +kernel
theorem dX3_readClasses_88 : decode cX3_readClasses 88 = .ok (.iaload, 1) := by decide +kernel
theorem dX3_readClasses_89 : decode cX3_readClasses 89 = .ok (.iastore, 1) := by decide +kernel
theorem dX3_readClasses_90 : decode cX3_readClasses 90 = .ok (.aload_n 0, 1) := by decide +kernel
theorem dX3_readClasses_91 : decode cX3_readClasses 91 = .ok (.getfield 27, 3) := by decide +kernel
theorem dX3_readClasses_94 : decode cX3_readClasses 94 = .ok (.iload_n 2, 1) := by decide +kernel
theorem dX3_readClasses_95 : decode cX3_readClasses 95 = .ok (.aload_n 1, 1) := by decide +kernel
theorem dX3_readClasses_96 : decode cX3_readClasses 96 = .ok (.getfield 68, 3) := by decide +kernel
theorem dX3_readClasses_99 : decode cX3_readClasses 99 = .ok (.getfield 83, 3) := by decide +kernel
theorem dX3_readClasses_102 : decode cX3_readClasses 102 = .ok (.iload_n 2, 1) := by decide +kernel
theorem dX3_readClasses_103 : decode cX3_readClasses 103 = .ok (.iaload, 1) := by decide +kernel
theorem dX3_readClasses_104 : decode cX3_readClasses 104 = .ok (.iastore, 1) := by decide +kernel
theorem dX3_readClasses_105 : decode cX3_readClasses 105 = .ok (.iinc 2 1, 3) := by decide +kernel
theorem dX3_readClasses_108 : decode cX3_readClasses 108 = .ok (.goto (-95), 3) := by decide +kernel
theorem dX3_readClasses_111 : decode cX3_readClasses 111 = .ok (.return_, 1) := by decide +kernel
set_option maxRecDepth 20000 in
theorem ggX3_nextToConvert_X9_contains : GoodIn wsX3_nextToConvert wsX9_contains := goodIn_r _ [7] (by decide +kernel) (by decide +kernel)
set_option maxRecDepth 20000 in
theorem gX3_nextToConvert_X9_contains_n84 : GoodIn wsX3_nextToConvert (wsX9_contains) := ggX3_nextToConvert_X9_contains
set_option maxRecDepth 20000 in
theorem ggX3_nextToConvert_X3_payOut : GoodIn wsX3_nextToConvert wsX3_payOut := goodIn_r _ [12, 1, 4, 13, 14, 15, 16, 17, 18, 19, 11, 20, 21, 22, 23, 24, 25, 26, 2, 5, 6, 7, 27, 28, 29, 30, 31, 32, 33, 34, 35, 36, 37, 38, 39, 40, 41, 42, 43, 44, 45, 46, 47, 48, 49, 50, 51, 52, 53, 54, 55, 56, 57, 58, 59, 60, 61, 62] (by decide +kernel) (by decide +kernel)
set_option maxRecDepth 20000 in
theorem gX3_nextToConvert_X3_payOut : GoodIn wsX3_nextToConvert (wsV RX3 45 RX3 yX3_payOut wsX3_payOut) := goodIn_app (goodIn_of _ (by decide +kernel)) ggX3_nextToConvert_X3_payOut
theorem dX3_nextToConvert_0 : decode cX3_nextToConvert 0 = .ok (.iconst 1, 1) := by decide +kernel
theorem dX3_nextToConvert_1 : decode cX3_nextToConvert 1 = .ok (.istore_n 2, 1) := by decide +kernel
theorem dX3_nextToConvert_2 : decode cX3_nextToConvert 2 = .ok (.iload_n 2, 1) := by decide +kernel
theorem dX3_nextToConvert_3 : decode cX3_nextToConvert 3 = .ok (.aload_n 0, 1) := by decide +kernel
theorem dX3_nextToConvert_4 : decode cX3_nextToConvert 4 = .ok (.getfield 38, 3) := by decide +kernel
theorem dX3_nextToConvert_7 : decode cX3_nextToConvert 7 = .ok (.if_icmp .ge 70, 3) := by decide +kernel
theorem dX3_nextToConvert_10 : decode cX3_nextToConvert 10 = .ok (.aload_n 0, 1) := by decide +kernel
theorem dX3_nextToConvert_11 : decode cX3_nextToConvert 11 = .ok (.getfield 15, 3) := by decide +kernel
theorem dX3_nextToConvert_14 : decode cX3_nextToConvert 14 = .ok (.iload_n 2, 1) := by decide +kernel
theorem dX3_nextToConvert_15 : decode cX3_nextToConvert 15 = .ok (.iaload, 1) := by decide +kernel
theorem dX3_nextToConvert_16 : decode cX3_nextToConvert 16 = .ok (.ifCond .le 55, 3) := by decide +kernel
theorem dX3_nextToConvert_19 : decode cX3_nextToConvert 19 = .ok (.aload_n 0, 1) := by decide +kernel
theorem dX3_nextToConvert_20 : decode cX3_nextToConvert 20 = .ok (.getfield 34, 3) := by decide +kernel
theorem dX3_nextToConvert_23 : decode cX3_nextToConvert 23 = .ok (.iload_n 2, 1) := by decide +kernel
theorem dX3_nextToConvert_24 : decode cX3_nextToConvert 24 = .ok (.invokestatic 84, 3) := by decide +kernel
theorem dX3_nextToConvert_27 : decode cX3_nextToConvert 27 = .ok (.ifCond .ne 44, 3) := by decide +kernel
theorem dX3_nextToConvert_30 : decode cX3_nextToConvert 30 = .ok (.aload_n 0, 1) := by decide +kernel
theorem dX3_nextToConvert_31 : decode cX3_nextToConvert 31 = .ok (.iload_n 1, 1) := by decide +kernel
theorem dX3_nextToConvert_32 : decode cX3_nextToConvert 32 = .ok (.aload_n 0, 1) := by decide +kernel
theorem dX3_nextToConvert_33 : decode cX3_nextToConvert 33 = .ok (.getfield 34, 3) := by decide +kernel
theorem dX3_nextToConvert_36 : decode cX3_nextToConvert 36 = .ok (.invokevirtual 45, 3) := by decide +kernel
theorem dX3_nextToConvert_39 : decode cX3_nextToConvert 39 = .ok (.aload_n 0, 1) := by decide +kernel
theorem dX3_nextToConvert_40 : decode cX3_nextToConvert 40 = .ok (.getfield 9, 3) := by decide +kernel
theorem dX3_nextToConvert_43 : decode cX3_nextToConvert 43 = .ok (.iload_n 2, 1) := by decide +kernel
theorem dX3_nextToConvert_44 : decode cX3_nextToConvert 44 = .ok (.iaload, 1) := by decide +kernel
theorem dX3_nextToConvert_45 : decode cX3_nextToConvert 45 = .ok (.istore_n 3, 1) := by decide +kernel
theorem dX3_nextToConvert_46 : decode cX3_nextToConvert 46 = .ok (.aload_n 0, 1) := by decide +kernel
theorem dX3_nextToConvert_47 : decode cX3_nextToConvert 47 = .ok (.iload_n 1, 1) := by decide +kernel
theorem dX3_nextToConvert_48 : decode cX3_nextToConvert 48 = .ok (.aload_n 0, 1) := by decide +kernel
theorem dX3_nextToConvert_49 : decode cX3_nextToConvert 49 = .ok (.getfield 34, 3) := by decide +kernel
theorem dX3_nextToConvert_52 : decode cX3_nextToConvert 52 = .ok (.iconst 1, 1) := by decide +kernel
theorem dX3_nextToConvert_53 : decode cX3_nextToConvert 53 = .ok (.iload_n 2, 1) := by decide +kernel
theorem dX3_nextToConvert_54 : decode cX3_nextToConvert 54 = .ok (.ishl, 1) := by decide +kernel
theorem dX3_nextToConvert_55 : decode cX3_nextToConvert 55 = .ok (.ior, 1) := by decide +kernel
theorem dX3_nextToConvert_56 : decode cX3_nextToConvert 56 = .ok (.invokevirtual 45, 3) := by decide +kernel
theorem dX3_nextToConvert_59 : decode cX3_nextToConvert 59 = .ok (.aload_n 0, 1) := by decide +kernel
theorem dX3_nextToConvert_60 : decode cX3_nextToConvert 60 = .ok (.getfield 9, 3) := by decide +kernel
theorem dX3_nextToConvert_63 : decode cX3_nextToConvert 63 = .ok (.iload_n 2, 1) := by decide +kernel
theorem dX3_nextToConvert_64 : decode cX3_nextToConvert 64 = .ok (.iaload, 1) := by decide +kernel
theorem dX3_nextToConvert_65 : decode cX3_nextToConvert 65 = .ok (.iload_n 3, 1) := by decide +kernel
theorem dX3_nextToConvert_66 : decode cX3_nextToConvert 66 = .ok (.if_icmp .le 5, 3) := by decide +kernel
theorem dX3_nextToConvert_69 : decode cX3_nextToConvert 69 = .ok (.iload_n 2, 1) := by decide +kernel
theorem dX3_nextToConvert_70 : decode cX3_nextToConvert 70 = .ok (.ireturn, 1) := by decide +kernel
theorem dX3_nextToConvert_71 : decode cX3_nextToConvert 71 = .ok (.iinc 2 1, 3) := by decide +kernel
theorem dX3_nextToConvert_74 : decode cX3_nextToConvert 74 = .ok (.goto (-72), 3) := by decide +kernel
theorem dX3_nextToConvert_77 : decode cX3_nextToConvert 77 = .ok (.iconst (-1), 1) := by decide +kernel
theorem dX3_nextToConvert_78 : decode cX3_nextToConvert 78 = .ok (.ireturn, 1) := by decide +kernel
set_option maxRecDepth 20000 in
theorem ggX3_payOut_X3_claimsOf : GoodIn wsX3_payOut wsX3_claimsOf := goodIn_r _ [11, 1, 12, 13, 14, 15, 10, 16, 17, 18, 19, 20, 21, 50, 51, 52, 53, 54, 55, 56, 57] (by decide +kernel) (by decide +kernel)
set_option maxRecDepth 20000 in
theorem gX3_payOut_X3_claimsOf : GoodIn wsX3_payOut (wsV RX3 88 RX3 yX3_claimsOf wsX3_claimsOf) := goodIn_app (goodIn_of _ (by decide +kernel)) ggX3_payOut_X3_claimsOf
set_option maxRecDepth 20000 in
theorem ggX3_payOut_X3_payClaims : GoodIn wsX3_payOut wsX3_payClaims := goodIn_r _ [25, 1, 2, 12, 13, 14, 15, 10, 16, 17, 18, 19, 20, 21, 26, 27, 50, 51, 52, 53, 54, 55, 56, 57] (by decide +kernel) (by decide +kernel)
set_option maxRecDepth 20000 in
theorem gX3_payOut_X3_payClaims : GoodIn wsX3_payOut (wsV RX3 96 RX3 yX3_payClaims wsX3_payClaims) := goodIn_app (goodIn_of _ (by decide +kernel)) ggX3_payOut_X3_payClaims
set_option maxRecDepth 20000 in
theorem ggX3_payOut_X3_shareOut : GoodIn wsX3_payOut wsX3_shareOut := goodIn_r _ [31, 1, 2, 12, 32, 33, 34, 10, 35, 36, 19, 20, 21, 37, 38, 39, 40, 41, 42, 43, 44, 45, 26, 27, 46, 47, 48, 49, 50, 51, 52, 53, 54, 55, 56, 57] (by decide +kernel) (by decide +kernel)
set_option maxRecDepth 20000 in
theorem gX3_payOut_X3_shareOut : GoodIn wsX3_payOut (wsV RX3 100 RX3 yX3_shareOut wsX3_shareOut) := goodIn_app (goodIn_of _ (by decide +kernel)) ggX3_payOut_X3_shareOut
theorem dX3_payOut_0 : decode cX3_payOut 0 = .ok (.iconst 0, 1) := by decide +kernel
theorem dX3_payOut_1 : decode cX3_payOut 1 = .ok (.istore_n 3, 1) := by decide +kernel
theorem dX3_payOut_2 : decode cX3_payOut 2 = .ok (.iload_n 3, 1) := by decide +kernel
theorem dX3_payOut_3 : decode cX3_payOut 3 = .ok (.aload_n 0, 1) := by decide +kernel
theorem dX3_payOut_4 : decode cX3_payOut 4 = .ok (.getfield 38, 3) := by decide +kernel
theorem dX3_payOut_7 : decode cX3_payOut 7 = .ok (.if_icmp .ge 16, 3) := by decide +kernel
theorem dX3_payOut_10 : decode cX3_payOut 10 = .ok (.aload_n 0, 1) := by decide +kernel
theorem dX3_payOut_11 : decode cX3_payOut 11 = .ok (.getfield 9, 3) := by decide +kernel
theorem dX3_payOut_14 : decode cX3_payOut 14 = .ok (.iload_n 3, 1) := by decide +kernel
theorem dX3_payOut_15 : decode cX3_payOut 15 = .ok (.iconst 0, 1) := by decide +kernel
theorem dX3_payOut_16 : decode cX3_payOut 16 = .ok (.iastore, 1) := by decide +kernel
theorem dX3_payOut_17 : decode cX3_payOut 17 = .ok (.iinc 3 1, 3) := by decide +kernel
theorem dX3_payOut_20 : decode cX3_payOut 20 = .ok (.goto (-18), 3) := by decide +kernel
theorem dX3_payOut_23 : decode cX3_payOut 23 = .ok (.iload_n 1, 1) := by decide +kernel
theorem dX3_payOut_24 : decode cX3_payOut 24 = .ok (.istore_n 3, 1) := by decide +kernel
theorem dX3_payOut_25 : decode cX3_payOut 25 = .ok (.bipush 9, 2) := by decide +kernel
theorem dX3_payOut_27 : decode cX3_payOut 27 = .ok (.istore 4, 2) := by decide +kernel
theorem dX3_payOut_29 : decode cX3_payOut 29 = .ok (.iload 4, 2) := by decide +kernel
theorem dX3_payOut_31 : decode cX3_payOut 31 = .ok (.ifCond .lt 45, 3) := by decide +kernel
theorem dX3_payOut_34 : decode cX3_payOut 34 = .ok (.aload_n 0, 1) := by decide +kernel
theorem dX3_payOut_35 : decode cX3_payOut 35 = .ok (.iload 4, 2) := by decide +kernel
theorem dX3_payOut_37 : decode cX3_payOut 37 = .ok (.iload_n 2, 1) := by decide +kernel
theorem dX3_payOut_38 : decode cX3_payOut 38 = .ok (.invokevirtual 88, 3) := by decide +kernel
theorem dX3_payOut_41 : decode cX3_payOut 41 = .ok (.istore 5, 2) := by decide +kernel
theorem dX3_payOut_43 : decode cX3_payOut 43 = .ok (.aload_n 0, 1) := by decide +kernel
theorem dX3_payOut_44 : decode cX3_payOut 44 = .ok (.iload 4, 2) := by decide +kernel
theorem dX3_payOut_46 : decode cX3_payOut 46 = .ok (.iload_n 2, 1) := by decide +kernel
theorem dX3_payOut_47 : decode cX3_payOut 47 = .ok (.iload_n 3, 1) := by decide +kernel
theorem dX3_payOut_48 : decode cX3_payOut 48 = .ok (.iload 5, 2) := by decide +kernel
theorem dX3_payOut_50 : decode cX3_payOut 50 = .ok (.invokestatic 91, 3) := by decide +kernel
theorem dX3_payOut_53 : decode cX3_payOut 53 = .ok (.iload 5, 2) := by decide +kernel
theorem dX3_payOut_55 : decode cX3_payOut 55 = .ok (.invokevirtual 96, 3) := by decide +kernel
theorem dX3_payOut_58 : decode cX3_payOut 58 = .ok (.iload_n 3, 1) := by decide +kernel
theorem dX3_payOut_59 : decode cX3_payOut 59 = .ok (.iload 5, 2) := by decide +kernel
theorem dX3_payOut_61 : decode cX3_payOut 61 = .ok (.if_icmp .ge 4, 3) := by decide +kernel
theorem dX3_payOut_64 : decode cX3_payOut 64 = .ok (.return_, 1) := by decide +kernel
theorem dX3_payOut_65 : decode cX3_payOut 65 = .ok (.iload_n 3, 1) := by decide +kernel
theorem dX3_payOut_66 : decode cX3_payOut 66 = .ok (.iload 5, 2) := by decide +kernel
theorem dX3_payOut_68 : decode cX3_payOut 68 = .ok (.isub, 1) := by decide +kernel
theorem dX3_payOut_69 : decode cX3_payOut 69 = .ok (.istore_n 3, 1) := by decide +kernel
theorem dX3_payOut_70 : decode cX3_payOut 70 = .ok (.iinc 4 (-1), 3) := by decide +kernel
theorem dX3_payOut_73 : decode cX3_payOut 73 = .ok (.goto (-44), 3) := by decide +kernel
theorem dX3_payOut_76 : decode cX3_payOut 76 = .ok (.aload_n 0, 1) := by decide +kernel
theorem dX3_payOut_77 : decode cX3_payOut 77 = .ok (.iload_n 3, 1) := by decide +kernel
theorem dX3_payOut_78 : decode cX3_payOut 78 = .ok (.iload_n 2, 1) := by decide +kernel
theorem dX3_payOut_79 : decode cX3_payOut 79 = .ok (.invokevirtual 100, 3) := by decide +kernel
theorem dX3_payOut_82 : decode cX3_payOut 82 = .ok (.return_, 1) := by decide +kernel
set_option maxRecDepth 20000 in
theorem ggX3_claims_X9_contains : GoodIn wsX3_claims wsX9_contains := goodIn_r _ [5] (by decide +kernel) (by decide +kernel)
set_option maxRecDepth 20000 in
theorem gX3_claims_X9_contains_n84 : GoodIn wsX3_claims (wsX9_contains) := ggX3_claims_X9_contains
theorem dX3_claims_0 : decode cX3_claims 0 = .ok (.iload_n 1, 1) := by decide +kernel
theorem dX3_claims_1 : decode cX3_claims 1 = .ok (.ifCond .eq 34, 3) := by decide +kernel
theorem dX3_claims_4 : decode cX3_claims 4 = .ok (.aload_n 0, 1) := by decide +kernel
theorem dX3_claims_5 : decode cX3_claims 5 = .ok (.getfield 24, 3) := by decide +kernel
theorem dX3_claims_8 : decode cX3_claims 8 = .ok (.iload_n 1, 1) := by decide +kernel
theorem dX3_claims_9 : decode cX3_claims 9 = .ok (.iaload, 1) := by decide +kernel
theorem dX3_claims_10 : decode cX3_claims 10 = .ok (.iload_n 2, 1) := by decide +kernel
theorem dX3_claims_11 : decode cX3_claims 11 = .ok (.if_icmp .ne 24, 3) := by decide +kernel
theorem dX3_claims_14 : decode cX3_claims 14 = .ok (.aload_n 0, 1) := by decide +kernel
theorem dX3_claims_15 : decode cX3_claims 15 = .ok (.getfield 15, 3) := by decide +kernel
theorem dX3_claims_18 : decode cX3_claims 18 = .ok (.iload_n 1, 1) := by decide +kernel
theorem dX3_claims_19 : decode cX3_claims 19 = .ok (.iaload, 1) := by decide +kernel
theorem dX3_claims_20 : decode cX3_claims 20 = .ok (.ifCond .le 15, 3) := by decide +kernel
theorem dX3_claims_23 : decode cX3_claims 23 = .ok (.iload_n 3, 1) := by decide +kernel
theorem dX3_claims_24 : decode cX3_claims 24 = .ok (.iload_n 1, 1) := by decide +kernel
theorem dX3_claims_25 : decode cX3_claims 25 = .ok (.invokestatic 84, 3) := by decide +kernel
theorem dX3_claims_28 : decode cX3_claims 28 = .ok (.ifCond .ne 7, 3) := by decide +kernel
theorem dX3_claims_31 : decode cX3_claims 31 = .ok (.iconst 1, 1) := by decide +kernel
theorem dX3_claims_32 : decode cX3_claims 32 = .ok (.goto 4, 3) := by decide +kernel
theorem dX3_claims_35 : decode cX3_claims 35 = .ok (.iconst 0, 1) := by decide +kernel
theorem dX3_claims_36 : decode cX3_claims 36 = .ok (.ireturn, 1) := by decide +kernel
set_option maxRecDepth 20000 in
theorem ggX3_claimsOf_X3_claims : GoodIn wsX3_claimsOf wsX3_claims := goodIn_r _ [7, 8, 9, 10, 11, 12, 13, 14, 15, 16, 17, 18, 19, 20] (by decide +kernel) (by decide +kernel)
set_option maxRecDepth 20000 in
theorem gX3_claimsOf_X3_claims : GoodIn wsX3_claimsOf (wsV RX3 103 RX3 yX3_claims wsX3_claims) := goodIn_app (goodIn_of _ (by decide +kernel)) ggX3_claimsOf_X3_claims
theorem dX3_claimsOf_0 : decode cX3_claimsOf 0 = .ok (.iconst 0, 1) := by decide +kernel
theorem dX3_claimsOf_1 : decode cX3_claimsOf 1 = .ok (.istore_n 3, 1) := by decide +kernel
theorem dX3_claimsOf_2 : decode cX3_claimsOf 2 = .ok (.iconst 1, 1) := by decide +kernel
theorem dX3_claimsOf_3 : decode cX3_claimsOf 3 = .ok (.istore 4, 2) := by decide +kernel
theorem dX3_claimsOf_5 : decode cX3_claimsOf 5 = .ok (.iload 4, 2) := by decide +kernel
theorem dX3_claimsOf_7 : decode cX3_claimsOf 7 = .ok (.aload_n 0, 1) := by decide +kernel
theorem dX3_claimsOf_8 : decode cX3_claimsOf 8 = .ok (.getfield 38, 3) := by decide +kernel
theorem dX3_claimsOf_11 : decode cX3_claimsOf 11 = .ok (.if_icmp .ge 30, 3) := by decide +kernel
theorem dX3_claimsOf_14 : decode cX3_claimsOf 14 = .ok (.aload_n 0, 1) := by decide +kernel
theorem dX3_claimsOf_15 : decode cX3_claimsOf 15 = .ok (.iload 4, 2) := by decide +kernel
theorem dX3_claimsOf_17 : decode cX3_claimsOf 17 = .ok (.iload_n 1, 1) := by decide +kernel
theorem dX3_claimsOf_18 : decode cX3_claimsOf 18 = .ok (.iload_n 2, 1) := by decide +kernel
theorem dX3_claimsOf_19 : decode cX3_claimsOf 19 = .ok (.invokevirtual 103, 3) := by decide +kernel
theorem dX3_claimsOf_22 : decode cX3_claimsOf 22 = .ok (.ifCond .eq 13, 3) := by decide +kernel
theorem dX3_claimsOf_25 : decode cX3_claimsOf 25 = .ok (.iload_n 3, 1) := by decide +kernel
theorem dX3_claimsOf_26 : decode cX3_claimsOf 26 = .ok (.aload_n 0, 1) := by decide +kernel
theorem dX3_claimsOf_27 : decode cX3_claimsOf 27 = .ok (.getfield 18, 3) := by decide +kernel
theorem dX3_claimsOf_30 : decode cX3_claimsOf 30 = .ok (.iload 4, 2) := by decide +kernel
theorem dX3_claimsOf_32 : decode cX3_claimsOf 32 = .ok (.iaload, 1) := by decide +kernel
theorem dX3_claimsOf_33 : decode cX3_claimsOf 33 = .ok (.iadd, 1) := by decide +kernel
theorem dX3_claimsOf_34 : decode cX3_claimsOf 34 = .ok (.istore_n 3, 1) := by decide +kernel
theorem dX3_claimsOf_35 : decode cX3_claimsOf 35 = .ok (.iinc 4 1, 3) := by decide +kernel
theorem dX3_claimsOf_38 : decode cX3_claimsOf 38 = .ok (.goto (-33), 3) := by decide +kernel
theorem dX3_claimsOf_41 : decode cX3_claimsOf 41 = .ok (.iload_n 3, 1) := by decide +kernel
theorem dX3_claimsOf_42 : decode cX3_claimsOf 42 = .ok (.ireturn, 1) := by decide +kernel
set_option maxRecDepth 20000 in
theorem ggX3_payClaims_X3_claims : GoodIn wsX3_payClaims wsX3_claims := goodIn_r _ [8, 9, 10, 11, 12, 13, 16, 17, 18, 19, 20, 21, 22, 23] (by decide +kernel) (by decide +kernel)
set_option maxRecDepth 20000 in
theorem gX3_payClaims_X3_claims : GoodIn wsX3_payClaims (wsV RX3 103 RX3 yX3_claims wsX3_claims) := goodIn_app (goodIn_of _ (by decide +kernel)) ggX3_payClaims_X3_claims
set_option maxRecDepth 20000 in
theorem ggX3_payClaims_X9_portion : GoodIn wsX3_payClaims wsX9_portion := goodIn_r _ [15] (by decide +kernel) (by decide +kernel)
set_option maxRecDepth 20000 in
theorem gX3_payClaims_X9_portion_n61 : GoodIn wsX3_payClaims (wsX9_portion) := ggX3_payClaims_X9_portion
theorem dX3_payClaims_0 : decode cX3_payClaims 0 = .ok (.iconst 1, 1) := by decide +kernel
theorem dX3_payClaims_1 : decode cX3_payClaims 1 = .ok (.istore 5, 2) := by decide +kernel
theorem dX3_payClaims_3 : decode cX3_payClaims 3 = .ok (.iload 5, 2) := by decide +kernel
theorem dX3_payClaims_5 : decode cX3_payClaims 5 = .ok (.aload_n 0, 1) := by decide +kernel
theorem dX3_payClaims_6 : decode cX3_payClaims 6 = .ok (.getfield 38, 3) := by decide +kernel
theorem dX3_payClaims_9 : decode cX3_payClaims 9 = .ok (.if_icmp .ge 40, 3) := by decide +kernel
theorem dX3_payClaims_12 : decode cX3_payClaims 12 = .ok (.aload_n 0, 1) := by decide +kernel
theorem dX3_payClaims_13 : decode cX3_payClaims 13 = .ok (.iload 5, 2) := by decide +kernel
theorem dX3_payClaims_15 : decode cX3_payClaims 15 = .ok (.iload_n 1, 1) := by decide +kernel
theorem dX3_payClaims_16 : decode cX3_payClaims 16 = .ok (.iload_n 2, 1) := by decide +kernel
theorem dX3_payClaims_17 : decode cX3_payClaims 17 = .ok (.invokevirtual 103, 3) := by decide +kernel
theorem dX3_payClaims_20 : decode cX3_payClaims 20 = .ok (.ifCond .eq 23, 3) := by decide +kernel
theorem dX3_payClaims_23 : decode cX3_payClaims 23 = .ok (.aload_n 0, 1) := by decide +kernel
theorem dX3_payClaims_24 : decode cX3_payClaims 24 = .ok (.getfield 9, 3) := by decide +kernel
theorem dX3_payClaims_27 : decode cX3_payClaims 27 = .ok (.iload 5, 2) := by decide +kernel
theorem dX3_payClaims_29 : decode cX3_payClaims 29 = .ok (.iload_n 3, 1) := by decide +kernel
theorem dX3_payClaims_30 : decode cX3_payClaims 30 = .ok (.aload_n 0, 1) := by decide +kernel
theorem dX3_payClaims_31 : decode cX3_payClaims 31 = .ok (.getfield 18, 3) := by decide +kernel
theorem dX3_payClaims_34 : decode cX3_payClaims 34 = .ok (.iload 5, 2) := by decide +kernel
theorem dX3_payClaims_36 : decode cX3_payClaims 36 = .ok (.iaload, 1) := by decide +kernel
theorem dX3_payClaims_37 : decode cX3_payClaims 37 = .ok (.iload 4, 2) := by decide +kernel
theorem dX3_payClaims_39 : decode cX3_payClaims 39 = .ok (.invokestatic 61, 3) := by decide +kernel
theorem dX3_payClaims_42 : decode cX3_payClaims 42 = .ok (.iastore, 1) := by decide +kernel
theorem dX3_payClaims_43 : decode cX3_payClaims 43 = .ok (.iinc 5 1, 3) := by decide +kernel
theorem dX3_payClaims_46 : decode cX3_payClaims 46 = .ok (.goto (-43), 3) := by decide +kernel
theorem dX3_payClaims_49 : decode cX3_payClaims 49 = .ok (.return_, 1) := by decide +kernel
set_option maxRecDepth 20000 in
theorem ggX3_shareOut_X3_sharers : GoodIn wsX3_shareOut wsX3_sharers := goodIn_r _ [8, 1, 9, 10, 11, 12, 28, 29, 30, 31, 32, 33, 34, 35] (by decide +kernel) (by decide +kernel)
set_option maxRecDepth 20000 in
theorem gX3_shareOut_X3_sharers : GoodIn wsX3_shareOut (wsV RX3 107 RX3 yX3_sharers wsX3_sharers) := goodIn_app (goodIn_of _ (by decide +kernel)) ggX3_shareOut_X3_sharers
set_option maxRecDepth 20000 in
theorem ggX3_shareOut_X3_commonOf : GoodIn wsX3_shareOut wsX3_commonOf := goodIn_r _ [16, 1, 17, 10, 11, 12, 28, 29, 30, 31, 32, 33, 34, 35] (by decide +kernel) (by decide +kernel)
set_option maxRecDepth 20000 in
theorem gX3_shareOut_X3_commonOf : GoodIn wsX3_shareOut (wsV RX3 110 RX3 yX3_commonOf wsX3_commonOf) := goodIn_app (goodIn_of _ (by decide +kernel)) ggX3_shareOut_X3_commonOf
set_option maxRecDepth 20000 in
theorem ggX3_shareOut_X3_lowestOverCap : GoodIn wsX3_shareOut wsX3_lowestOverCap := goodIn_r _ [21, 1, 9, 17, 3, 10, 11, 12, 22, 23, 28, 29, 30, 31, 32, 33, 34, 35] (by decide +kernel) (by decide +kernel)
set_option maxRecDepth 20000 in
theorem gX3_shareOut_X3_lowestOverCap : GoodIn wsX3_shareOut (wsV RX3 113 RX3 yX3_lowestOverCap wsX3_lowestOverCap) := goodIn_app (goodIn_of _ (by decide +kernel)) ggX3_shareOut_X3_lowestOverCap
set_option maxRecDepth 20000 in
theorem ggX3_shareOut_X3_addShares : GoodIn wsX3_shareOut wsX3_addShares := goodIn_r _ [27, 1, 2, 17, 10, 11, 12, 22, 23, 28, 29, 30, 31, 32, 33, 34, 35] (by decide +kernel) (by decide +kernel)
set_option maxRecDepth 20000 in
theorem gX3_shareOut_X3_addShares : GoodIn wsX3_shareOut (wsV RX3 116 RX3 yX3_addShares wsX3_addShares) := goodIn_app (goodIn_of _ (by decide +kernel)) ggX3_shareOut_X3_addShares
theorem dX3_shareOut_0 : decode cX3_shareOut 0 = .ok (.iload_n 1, 1) := by decide +kernel
theorem dX3_shareOut_1 : decode cX3_shareOut 1 = .ok (.istore_n 3, 1) := by decide +kernel
theorem dX3_shareOut_2 : decode cX3_shareOut 2 = .ok (.aload_n 0, 1) := by decide +kernel
theorem dX3_shareOut_3 : decode cX3_shareOut 3 = .ok (.iload_n 2, 1) := by decide +kernel
theorem dX3_shareOut_4 : decode cX3_shareOut 4 = .ok (.invokevirtual 107, 3) := by decide +kernel
theorem dX3_shareOut_7 : decode cX3_shareOut 7 = .ok (.istore 4, 2) := by decide +kernel
theorem dX3_shareOut_9 : decode cX3_shareOut 9 = .ok (.iconst 0, 1) := by decide +kernel
theorem dX3_shareOut_10 : decode cX3_shareOut 10 = .ok (.istore 5, 2) := by decide +kernel
theorem dX3_shareOut_12 : decode cX3_shareOut 12 = .ok (.iload 5, 2) := by decide +kernel
theorem dX3_shareOut_14 : decode cX3_shareOut 14 = .ok (.aload_n 0, 1) := by decide +kernel
theorem dX3_shareOut_15 : decode cX3_shareOut 15 = .ok (.getfield 38, 3) := by decide +kernel
theorem dX3_shareOut_18 : decode cX3_shareOut 18 = .ok (.if_icmp .gt 86, 3) := by decide +kernel
theorem dX3_shareOut_21 : decode cX3_shareOut 21 = .ok (.aload_n 0, 1) := by decide +kernel
theorem dX3_shareOut_22 : decode cX3_shareOut 22 = .ok (.iload 4, 2) := by decide +kernel
theorem dX3_shareOut_24 : decode cX3_shareOut 24 = .ok (.invokevirtual 110, 3) := by decide +kernel
theorem dX3_shareOut_27 : decode cX3_shareOut 27 = .ok (.istore 6, 2) := by decide +kernel
theorem dX3_shareOut_29 : decode cX3_shareOut 29 = .ok (.aload_n 0, 1) := by decide +kernel
theorem dX3_shareOut_30 : decode cX3_shareOut 30 = .ok (.iload_n 3, 1) := by decide +kernel
theorem dX3_shareOut_31 : decode cX3_shareOut 31 = .ok (.iload 6, 2) := by decide +kernel
theorem dX3_shareOut_33 : decode cX3_shareOut 33 = .ok (.iload 4, 2) := by decide +kernel
theorem dX3_shareOut_35 : decode cX3_shareOut 35 = .ok (.iload_n 2, 1) := by decide +kernel
theorem dX3_shareOut_36 : decode cX3_shareOut 36 = .ok (.iconst (-1), 1) := by decide +kernel
theorem dX3_shareOut_37 : decode cX3_shareOut 37 = .ok (.ixor, 1) := by decide +kernel
theorem dX3_shareOut_38 : decode cX3_shareOut 38 = .ok (.iand, 1) := by decide +kernel
theorem dX3_shareOut_39 : decode cX3_shareOut 39 = .ok (.invokevirtual 113, 3) := by decide +kernel
theorem dX3_shareOut_42 : decode cX3_shareOut 42 = .ok (.istore 7, 2) := by decide +kernel
theorem dX3_shareOut_44 : decode cX3_shareOut 44 = .ok (.iload 7, 2) := by decide +kernel
theorem dX3_shareOut_46 : decode cX3_shareOut 46 = .ok (.iconst (-1), 1) := by decide +kernel
theorem dX3_shareOut_47 : decode cX3_shareOut 47 = .ok (.if_icmp .ne 13, 3) := by decide +kernel
theorem dX3_shareOut_50 : decode cX3_shareOut 50 = .ok (.aload_n 0, 1) := by decide +kernel
theorem dX3_shareOut_51 : decode cX3_shareOut 51 = .ok (.iload_n 3, 1) := by decide +kernel
theorem dX3_shareOut_52 : decode cX3_shareOut 52 = .ok (.iload 6, 2) := by decide +kernel
theorem dX3_shareOut_54 : decode cX3_shareOut 54 = .ok (.iload 4, 2) := by decide +kernel
theorem dX3_shareOut_56 : decode cX3_shareOut 56 = .ok (.invokevirtual 116, 3) := by decide +kernel
theorem dX3_shareOut_59 : decode cX3_shareOut 59 = .ok (.return_, 1) := by decide +kernel
theorem dX3_shareOut_60 : decode cX3_shareOut 60 = .ok (.aload_n 0, 1) := by decide +kernel
theorem dX3_shareOut_61 : decode cX3_shareOut 61 = .ok (.getfield 9, 3) := by decide +kernel
theorem dX3_shareOut_64 : decode cX3_shareOut 64 = .ok (.iload 7, 2) := by decide +kernel
theorem dX3_shareOut_66 : decode cX3_shareOut 66 = .ok (.dup2, 1) := by decide +kernel
theorem dX3_shareOut_67 : decode cX3_shareOut 67 = .ok (.iaload, 1) := by decide +kernel
theorem dX3_shareOut_68 : decode cX3_shareOut 68 = .ok (.aload_n 0, 1) := by decide +kernel
theorem dX3_shareOut_69 : decode cX3_shareOut 69 = .ok (.getfield 18, 3) := by decide +kernel
theorem dX3_shareOut_72 : decode cX3_shareOut 72 = .ok (.iload 7, 2) := by decide +kernel
theorem dX3_shareOut_74 : decode cX3_shareOut 74 = .ok (.iaload, 1) := by decide +kernel
theorem dX3_shareOut_75 : decode cX3_shareOut 75 = .ok (.iadd, 1) := by decide +kernel
theorem dX3_shareOut_76 : decode cX3_shareOut 76 = .ok (.iastore, 1) := by decide +kernel
theorem dX3_shareOut_77 : decode cX3_shareOut 77 = .ok (.iload_n 3, 1) := by decide +kernel
theorem dX3_shareOut_78 : decode cX3_shareOut 78 = .ok (.aload_n 0, 1) := by decide +kernel
theorem dX3_shareOut_79 : decode cX3_shareOut 79 = .ok (.getfield 18, 3) := by decide +kernel
theorem dX3_shareOut_82 : decode cX3_shareOut 82 = .ok (.iload 7, 2) := by decide +kernel
theorem dX3_shareOut_84 : decode cX3_shareOut 84 = .ok (.iaload, 1) := by decide +kernel
theorem dX3_shareOut_85 : decode cX3_shareOut 85 = .ok (.isub, 1) := by decide +kernel
theorem dX3_shareOut_86 : decode cX3_shareOut 86 = .ok (.istore_n 3, 1) := by decide +kernel
theorem dX3_shareOut_87 : decode cX3_shareOut 87 = .ok (.iload 4, 2) := by decide +kernel
theorem dX3_shareOut_89 : decode cX3_shareOut 89 = .ok (.iconst 1, 1) := by decide +kernel
theorem dX3_shareOut_90 : decode cX3_shareOut 90 = .ok (.iload 7, 2) := by decide +kernel
theorem dX3_shareOut_92 : decode cX3_shareOut 92 = .ok (.ishl, 1) := by decide +kernel
theorem dX3_shareOut_93 : decode cX3_shareOut 93 = .ok (.iconst (-1), 1) := by decide +kernel
theorem dX3_shareOut_94 : decode cX3_shareOut 94 = .ok (.ixor, 1) := by decide +kernel
theorem dX3_shareOut_95 : decode cX3_shareOut 95 = .ok (.iand, 1) := by decide +kernel
theorem dX3_shareOut_96 : decode cX3_shareOut 96 = .ok (.istore 4, 2) := by decide +kernel
theorem dX3_shareOut_98 : decode cX3_shareOut 98 = .ok (.iinc 5 1, 3) := by decide +kernel
theorem dX3_shareOut_101 : decode cX3_shareOut 101 = .ok (.goto (-89), 3) := by decide +kernel
theorem dX3_shareOut_104 : decode cX3_shareOut 104 = .ok (.return_, 1) := by decide +kernel
set_option maxRecDepth 20000 in
theorem ggX3_sharers_X9_contains : GoodIn wsX3_sharers wsX9_contains := goodIn_r _ [5] (by decide +kernel) (by decide +kernel)
set_option maxRecDepth 20000 in
theorem gX3_sharers_X9_contains_n84 : GoodIn wsX3_sharers (wsX9_contains) := ggX3_sharers_X9_contains
theorem dX3_sharers_0 : decode cX3_sharers 0 = .ok (.iconst 0, 1) := by decide +kernel
theorem dX3_sharers_1 : decode cX3_sharers 1 = .ok (.istore_n 2, 1) := by decide +kernel
theorem dX3_sharers_2 : decode cX3_sharers 2 = .ok (.iconst 0, 1) := by decide +kernel
theorem dX3_sharers_3 : decode cX3_sharers 3 = .ok (.istore_n 3, 1) := by decide +kernel
theorem dX3_sharers_4 : decode cX3_sharers 4 = .ok (.iload_n 3, 1) := by decide +kernel
theorem dX3_sharers_5 : decode cX3_sharers 5 = .ok (.aload_n 0, 1) := by decide +kernel
theorem dX3_sharers_6 : decode cX3_sharers 6 = .ok (.getfield 38, 3) := by decide +kernel
theorem dX3_sharers_9 : decode cX3_sharers 9 = .ok (.if_icmp .ge 36, 3) := by decide +kernel
theorem dX3_sharers_12 : decode cX3_sharers 12 = .ok (.iload_n 3, 1) := by decide +kernel
theorem dX3_sharers_13 : decode cX3_sharers 13 = .ok (.ifCond .eq 20, 3) := by decide +kernel
theorem dX3_sharers_16 : decode cX3_sharers 16 = .ok (.iload_n 1, 1) := by decide +kernel
theorem dX3_sharers_17 : decode cX3_sharers 17 = .ok (.iload_n 3, 1) := by decide +kernel
theorem dX3_sharers_18 : decode cX3_sharers 18 = .ok (.invokestatic 84, 3) := by decide +kernel
theorem dX3_sharers_21 : decode cX3_sharers 21 = .ok (.ifCond .ne 12, 3) := by decide +kernel
theorem dX3_sharers_24 : decode cX3_sharers 24 = .ok (.aload_n 0, 1) := by decide +kernel
theorem dX3_sharers_25 : decode cX3_sharers 25 = .ok (.getfield 27, 3) := by decide +kernel
theorem dX3_sharers_28 : decode cX3_sharers 28 = .ok (.iload_n 3, 1) := by decide +kernel
theorem dX3_sharers_29 : decode cX3_sharers 29 = .ok (.iaload, 1) := by decide +kernel
theorem dX3_sharers_30 : decode cX3_sharers 30 = .ok (.ifCond .eq 9, 3) := by decide +kernel
theorem dX3_sharers_33 : decode cX3_sharers 33 = .ok (.iload_n 2, 1) := by decide +kernel
theorem dX3_sharers_34 : decode cX3_sharers 34 = .ok (.iconst 1, 1) := by decide +kernel
theorem dX3_sharers_35 : decode cX3_sharers 35 = .ok (.iload_n 3, 1) := by decide +kernel
theorem dX3_sharers_36 : decode cX3_sharers 36 = .ok (.ishl, 1) := by decide +kernel
theorem dX3_sharers_37 : decode cX3_sharers 37 = .ok (.ior, 1) := by decide +kernel
theorem dX3_sharers_38 : decode cX3_sharers 38 = .ok (.istore_n 2, 1) := by decide +kernel
theorem dX3_sharers_39 : decode cX3_sharers 39 = .ok (.iinc 3 1, 3) := by decide +kernel
theorem dX3_sharers_42 : decode cX3_sharers 42 = .ok (.goto (-38), 3) := by decide +kernel
theorem dX3_sharers_45 : decode cX3_sharers 45 = .ok (.iload_n 2, 1) := by decide +kernel
theorem dX3_sharers_46 : decode cX3_sharers 46 = .ok (.ireturn, 1) := by decide +kernel
set_option maxRecDepth 20000 in
theorem ggX3_commonOf_X9_contains : GoodIn wsX3_commonOf wsX9_contains := goodIn_r _ [5] (by decide +kernel) (by decide +kernel)
set_option maxRecDepth 20000 in
theorem gX3_commonOf_X9_contains_n84 : GoodIn wsX3_commonOf (wsX9_contains) := ggX3_commonOf_X9_contains
theorem dX3_commonOf_0 : decode cX3_commonOf 0 = .ok (.iconst 0, 1) := by decide +kernel
theorem dX3_commonOf_1 : decode cX3_commonOf 1 = .ok (.istore_n 2, 1) := by decide +kernel
theorem dX3_commonOf_2 : decode cX3_commonOf 2 = .ok (.iconst 0, 1) := by decide +kernel
theorem dX3_commonOf_3 : decode cX3_commonOf 3 = .ok (.istore_n 3, 1) := by decide +kernel
theorem dX3_commonOf_4 : decode cX3_commonOf 4 = .ok (.iload_n 3, 1) := by decide +kernel
theorem dX3_commonOf_5 : decode cX3_commonOf 5 = .ok (.aload_n 0, 1) := by decide +kernel
theorem dX3_commonOf_6 : decode cX3_commonOf 6 = .ok (.getfield 38, 3) := by decide +kernel
theorem dX3_commonOf_9 : decode cX3_commonOf 9 = .ok (.if_icmp .ge 26, 3) := by decide +kernel
theorem dX3_commonOf_12 : decode cX3_commonOf 12 = .ok (.iload_n 1, 1) := by decide +kernel
theorem dX3_commonOf_13 : decode cX3_commonOf 13 = .ok (.iload_n 3, 1) := by decide +kernel
theorem dX3_commonOf_14 : decode cX3_commonOf 14 = .ok (.invokestatic 84, 3) := by decide +kernel
theorem dX3_commonOf_17 : decode cX3_commonOf 17 = .ok (.ifCond .eq 12, 3) := by decide +kernel
theorem dX3_commonOf_20 : decode cX3_commonOf 20 = .ok (.iload_n 2, 1) := by decide +kernel
theorem dX3_commonOf_21 : decode cX3_commonOf 21 = .ok (.aload_n 0, 1) := by decide +kernel
theorem dX3_commonOf_22 : decode cX3_commonOf 22 = .ok (.getfield 21, 3) := by decide +kernel
theorem dX3_commonOf_25 : decode cX3_commonOf 25 = .ok (.iload_n 3, 1) := by decide +kernel
theorem dX3_commonOf_26 : decode cX3_commonOf 26 = .ok (.iaload, 1) := by decide +kernel
theorem dX3_commonOf_27 : decode cX3_commonOf 27 = .ok (.iadd, 1) := by decide +kernel
theorem dX3_commonOf_28 : decode cX3_commonOf 28 = .ok (.istore_n 2, 1) := by decide +kernel
theorem dX3_commonOf_29 : decode cX3_commonOf 29 = .ok (.iinc 3 1, 3) := by decide +kernel
theorem dX3_commonOf_32 : decode cX3_commonOf 32 = .ok (.goto (-28), 3) := by decide +kernel
theorem dX3_commonOf_35 : decode cX3_commonOf 35 = .ok (.iload_n 2, 1) := by decide +kernel
theorem dX3_commonOf_36 : decode cX3_commonOf 36 = .ok (.ireturn, 1) := by decide +kernel
set_option maxRecDepth 20000 in
theorem ggX3_lowestOverCap_X9_contains : GoodIn wsX3_lowestOverCap wsX9_contains := goodIn_r _ [7] (by decide +kernel) (by decide +kernel)
set_option maxRecDepth 20000 in
theorem gX3_lowestOverCap_X9_contains_n84 : GoodIn wsX3_lowestOverCap (wsX9_contains) := ggX3_lowestOverCap_X9_contains
set_option maxRecDepth 20000 in
theorem ggX3_lowestOverCap_X9_portion : GoodIn wsX3_lowestOverCap wsX9_portion := goodIn_r _ [9] (by decide +kernel) (by decide +kernel)
set_option maxRecDepth 20000 in
theorem gX3_lowestOverCap_X9_portion_n61 : GoodIn wsX3_lowestOverCap (wsX9_portion) := ggX3_lowestOverCap_X9_portion
theorem dX3_lowestOverCap_0 : decode cX3_lowestOverCap 0 = .ok (.iconst 1, 1) := by decide +kernel
theorem dX3_lowestOverCap_1 : decode cX3_lowestOverCap 1 = .ok (.istore 4, 2) := by decide +kernel
theorem dX3_lowestOverCap_3 : decode cX3_lowestOverCap 3 = .ok (.iload 4, 2) := by decide +kernel
theorem dX3_lowestOverCap_5 : decode cX3_lowestOverCap 5 = .ok (.aload_n 0, 1) := by decide +kernel
theorem dX3_lowestOverCap_6 : decode cX3_lowestOverCap 6 = .ok (.getfield 38, 3) := by decide +kernel
theorem dX3_lowestOverCap_9 : decode cX3_lowestOverCap 9 = .ok (.if_icmp .ge 54, 3) := by decide +kernel
theorem dX3_lowestOverCap_12 : decode cX3_lowestOverCap 12 = .ok (.iload_n 3, 1) := by decide +kernel
theorem dX3_lowestOverCap_13 : decode cX3_lowestOverCap 13 = .ok (.iload 4, 2) := by decide +kernel
theorem dX3_lowestOverCap_15 : decode cX3_lowestOverCap 15 = .ok (.invokestatic 84, 3) := by decide +kernel
theorem dX3_lowestOverCap_18 : decode cX3_lowestOverCap 18 = .ok (.ifCond .eq 39, 3) := by decide +kernel
theorem dX3_lowestOverCap_21 : decode cX3_lowestOverCap 21 = .ok (.aload_n 0, 1) := by decide +kernel
theorem dX3_lowestOverCap_22 : decode cX3_lowestOverCap 22 = .ok (.getfield 27, 3) := by decide +kernel
theorem dX3_lowestOverCap_25 : decode cX3_lowestOverCap 25 = .ok (.iload 4, 2) := by decide +kernel
theorem dX3_lowestOverCap_27 : decode cX3_lowestOverCap 27 = .ok (.iaload, 1) := by decide +kernel
theorem dX3_lowestOverCap_28 : decode cX3_lowestOverCap 28 = .ok (.iconst 2, 1) := by decide +kernel
theorem dX3_lowestOverCap_29 : decode cX3_lowestOverCap 29 = .ok (.if_icmp .ne 28, 3) := by decide +kernel
theorem dX3_lowestOverCap_32 : decode cX3_lowestOverCap 32 = .ok (.iload_n 1, 1) := by decide +kernel
theorem dX3_lowestOverCap_33 : decode cX3_lowestOverCap 33 = .ok (.aload_n 0, 1) := by decide +kernel
theorem dX3_lowestOverCap_34 : decode cX3_lowestOverCap 34 = .ok (.getfield 21, 3) := by decide +kernel
theorem dX3_lowestOverCap_37 : decode cX3_lowestOverCap 37 = .ok (.iload 4, 2) := by decide +kernel
theorem dX3_lowestOverCap_39 : decode cX3_lowestOverCap 39 = .ok (.iaload, 1) := by decide +kernel
theorem dX3_lowestOverCap_40 : decode cX3_lowestOverCap 40 = .ok (.iload_n 2, 1) := by decide +kernel
theorem dX3_lowestOverCap_41 : decode cX3_lowestOverCap 41 = .ok (.invokestatic 61, 3) := by decide +kernel
theorem dX3_lowestOverCap_44 : decode cX3_lowestOverCap 44 = .ok (.aload_n 0, 1) := by decide +kernel
theorem dX3_lowestOverCap_45 : decode cX3_lowestOverCap 45 = .ok (.getfield 18, 3) := by decide +kernel
theorem dX3_lowestOverCap_48 : decode cX3_lowestOverCap 48 = .ok (.iload 4, 2) := by decide +kernel
theorem dX3_lowestOverCap_50 : decode cX3_lowestOverCap 50 = .ok (.iaload, 1) := by decide +kernel
theorem dX3_lowestOverCap_51 : decode cX3_lowestOverCap 51 = .ok (.if_icmp .le 6, 3) := by decide +kernel
theorem dX3_lowestOverCap_54 : decode cX3_lowestOverCap 54 = .ok (.iload 4, 2) := by decide +kernel
theorem dX3_lowestOverCap_56 : decode cX3_lowestOverCap 56 = .ok (.ireturn, 1) := by decide +kernel
theorem dX3_lowestOverCap_57 : decode cX3_lowestOverCap 57 = .ok (.iinc 4 1, 3) := by decide +kernel
theorem dX3_lowestOverCap_60 : decode cX3_lowestOverCap 60 = .ok (.goto (-57), 3) := by decide +kernel
theorem dX3_lowestOverCap_63 : decode cX3_lowestOverCap 63 = .ok (.iconst (-1), 1) := by decide +kernel
theorem dX3_lowestOverCap_64 : decode cX3_lowestOverCap 64 = .ok (.ireturn, 1) := by decide +kernel
set_option maxRecDepth 20000 in
theorem ggX3_addShares_X9_contains : GoodIn wsX3_addShares wsX9_contains := goodIn_r _ [6] (by decide +kernel) (by decide +kernel)
set_option maxRecDepth 20000 in
theorem gX3_addShares_X9_contains_n84 : GoodIn wsX3_addShares (wsX9_contains) := ggX3_addShares_X9_contains
set_option maxRecDepth 20000 in
theorem ggX3_addShares_X9_portion : GoodIn wsX3_addShares wsX9_portion := goodIn_r _ [8] (by decide +kernel) (by decide +kernel)
set_option maxRecDepth 20000 in
theorem gX3_addShares_X9_portion_n61 : GoodIn wsX3_addShares (wsX9_portion) := ggX3_addShares_X9_portion
theorem dX3_addShares_0 : decode cX3_addShares 0 = .ok (.iconst 0, 1) := by decide +kernel
theorem dX3_addShares_1 : decode cX3_addShares 1 = .ok (.istore 4, 2) := by decide +kernel
theorem dX3_addShares_3 : decode cX3_addShares 3 = .ok (.iload 4, 2) := by decide +kernel
theorem dX3_addShares_5 : decode cX3_addShares 5 = .ok (.aload_n 0, 1) := by decide +kernel
theorem dX3_addShares_6 : decode cX3_addShares 6 = .ok (.getfield 38, 3) := by decide +kernel
theorem dX3_addShares_9 : decode cX3_addShares 9 = .ok (.if_icmp .ge 40, 3) := by decide +kernel
theorem dX3_addShares_12 : decode cX3_addShares 12 = .ok (.iload_n 3, 1) := by decide +kernel
theorem dX3_addShares_13 : decode cX3_addShares 13 = .ok (.iload 4, 2) := by decide +kernel
theorem dX3_addShares_15 : decode cX3_addShares 15 = .ok (.invokestatic 84, 3) := by decide +kernel
theorem dX3_addShares_18 : decode cX3_addShares 18 = .ok (.ifCond .eq 25, 3) := by decide +kernel
theorem dX3_addShares_21 : decode cX3_addShares 21 = .ok (.aload_n 0, 1) := by decide +kernel
theorem dX3_addShares_22 : decode cX3_addShares 22 = .ok (.getfield 9, 3) := by decide +kernel
theorem dX3_addShares_25 : decode cX3_addShares 25 = .ok (.iload 4, 2) := by decide +kernel
theorem dX3_addShares_27 : decode cX3_addShares 27 = .ok (.dup2, 1) := by decide +kernel
theorem dX3_addShares_28 : decode cX3_addShares 28 = .ok (.iaload, 1) := by decide +kernel
theorem dX3_addShares_29 : decode cX3_addShares 29 = .ok (.iload_n 1, 1) := by decide +kernel
theorem dX3_addShares_30 : decode cX3_addShares 30 = .ok (.aload_n 0, 1) := by decide +kernel
theorem dX3_addShares_31 : decode cX3_addShares 31 = .ok (.getfield 21, 3) := by decide +kernel
theorem dX3_addShares_34 : decode cX3_addShares 34 = .ok (.iload 4, 2) := by decide +kernel
theorem dX3_addShares_36 : decode cX3_addShares 36 = .ok (.iaload, 1) := by decide +kernel
theorem dX3_addShares_37 : decode cX3_addShares 37 = .ok (.iload_n 2, 1) := by decide +kernel
theorem dX3_addShares_38 : decode cX3_addShares 38 = .ok (.invokestatic 61, 3) := by decide +kernel
theorem dX3_addShares_41 : decode cX3_addShares 41 = .ok (.iadd, 1) := by decide +kernel
theorem dX3_addShares_42 : decode cX3_addShares 42 = .ok (.iastore, 1) := by decide +kernel
theorem dX3_addShares_43 : decode cX3_addShares 43 = .ok (.iinc 4 1, 3) := by decide +kernel
theorem dX3_addShares_46 : decode cX3_addShares 46 = .ok (.goto (-43), 3) := by decide +kernel
theorem dX3_addShares_49 : decode cX3_addShares 49 = .ok (.return_, 1) := by decide +kernel
theorem dX4_init_0 : decode cX4_init 0 = .ok (.aload_n 0, 1) := by decide +kernel
theorem dX4_init_1 : decode cX4_init 1 = .ok (.invokespecial 3, 3) := by decide +kernel
theorem dX4_init_4 : decode cX4_init 4 = .ok (.aload_n 0, 1) := by decide +kernel
theorem dX4_init_5 : decode cX4_init 5 = .ok (.bipush 8, 2) := by decide +kernel
theorem dX4_init_7 : decode cX4_init 7 = .ok (.newarray .int, 2) := by decide +kernel
theorem dX4_init_9 : decode cX4_init 9 = .ok (.putfield 9, 3) := by decide +kernel
theorem dX4_init_12 : decode cX4_init 12 = .ok (.aload_n 0, 1) := by decide +kernel
theorem dX4_init_13 : decode cX4_init 13 = .ok (.bipush 8, 2) := by decide +kernel
theorem dX4_init_15 : decode cX4_init 15 = .ok (.newarray .int, 2) := by decide +kernel
theorem dX4_init_17 : decode cX4_init 17 = .ok (.putfield 15, 3) := by decide +kernel
theorem dX4_init_20 : decode cX4_init 20 = .ok (.aload_n 0, 1) := by decide +kernel
theorem dX4_init_21 : decode cX4_init 21 = .ok (.bipush 8, 2) := by decide +kernel
theorem dX4_init_23 : decode cX4_init 23 = .ok (.newarray .int, 2) := by decide +kernel
theorem dX4_init_25 : decode cX4_init 25 = .ok (.putfield 18, 3) := by decide +kernel
theorem dX4_init_28 : decode cX4_init 28 = .ok (.aload_n 0, 1) := by decide +kernel
theorem dX4_init_29 : decode cX4_init 29 = .ok (.bipush 8, 2) := by decide +kernel
theorem dX4_init_31 : decode cX4_init 31 = .ok (.newarray .int, 2) := by decide +kernel
theorem dX4_init_33 : decode cX4_init 33 = .ok (.putfield 21, 3) := by decide +kernel
theorem dX4_init_36 : decode cX4_init 36 = .ok (.aload_n 0, 1) := by decide +kernel
theorem dX4_init_37 : decode cX4_init 37 = .ok (.bipush 8, 2) := by decide +kernel
theorem dX4_init_39 : decode cX4_init 39 = .ok (.newarray .int, 2) := by decide +kernel
theorem dX4_init_41 : decode cX4_init 41 = .ok (.putfield 24, 3) := by decide +kernel
theorem dX4_init_44 : decode cX4_init 44 = .ok (.aload_n 0, 1) := by decide +kernel
theorem dX4_init_45 : decode cX4_init 45 = .ok (.bipush 8, 2) := by decide +kernel
